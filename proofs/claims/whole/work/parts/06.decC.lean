def rfZ (v : Int32) : Prop := v = 0 ∨ v = 1
theorem rfZ_n {v : Int32} (h : rfZ v) : narrow .boolean (.int v) = .int v := by
  rcases h with h | h <;> subst h <;> decide
theorem rfZ_f {v : Int32} (h : rfZ v) : fits .boolean (.int v) = true := by
  rcases h with h | h <;> subst h <;> decide
def isW (a : Nat) : Prop := a ∈ [15, 23, 24]
theorem isW_f : ∀ a ∈ [15, 23, 24], a < ΛM.1 ∧ ΛM.2.1 a = 0 ∧ ΛM.2.2.1 a = 16 := by decide +kernel
theorem dX0_add_0 : decode cX0_add 0 = .ok (.aload_n 0, 1) := by decide +kernel
theorem dX0_add_1 : decode cX0_add 1 = .ok (.getfield 9, 3) := by decide +kernel
theorem dX0_add_4 : decode cX0_add 4 = .ok (.aload_n 0, 1) := by decide +kernel
theorem dX0_add_5 : decode cX0_add 5 = .ok (.getfield 16, 3) := by decide +kernel
theorem dX0_add_8 : decode cX0_add 8 = .ok (.iload_n 1, 1) := by decide +kernel
theorem dX0_add_9 : decode cX0_add 9 = .ok (.iastore, 1) := by decide +kernel
theorem dX0_add_10 : decode cX0_add 10 = .ok (.aload_n 0, 1) := by decide +kernel
theorem dX0_add_11 : decode cX0_add 11 = .ok (.dup, 1) := by decide +kernel
theorem dX0_add_12 : decode cX0_add 12 = .ok (.getfield 16, 3) := by decide +kernel
theorem dX0_add_15 : decode cX0_add 15 = .ok (.iconst 1, 1) := by decide +kernel
theorem dX0_add_16 : decode cX0_add 16 = .ok (.iadd, 1) := by decide +kernel
theorem dX0_add_17 : decode cX0_add 17 = .ok (.putfield 16, 3) := by decide +kernel
theorem dX0_add_20 : decode cX0_add 20 = .ok (.aload_n 0, 1) := by decide +kernel
theorem dX0_add_21 : decode cX0_add 21 = .ok (.getfield 16, 3) := by decide +kernel
theorem dX0_add_24 : decode cX0_add 24 = .ok (.iconst 1, 1) := by decide +kernel
theorem dX0_add_25 : decode cX0_add 25 = .ok (.isub, 1) := by decide +kernel
theorem dX0_add_26 : decode cX0_add 26 = .ok (.ireturn, 1) := by decide +kernel
theorem dX0_isUnder_0 : decode cX0_isUnder 0 = .ok (.iload_n 0, 1) := by decide +kernel
theorem dX0_isUnder_1 : decode cX0_isUnder 1 = .ok (.istore_n 2, 1) := by decide +kernel
theorem dX0_isUnder_2 : decode cX0_isUnder 2 = .ok (.iconst 0, 1) := by decide +kernel
theorem dX0_isUnder_3 : decode cX0_isUnder 3 = .ok (.istore_n 3, 1) := by decide +kernel
theorem dX0_isUnder_4 : decode cX0_isUnder 4 = .ok (.iload_n 3, 1) := by decide +kernel
theorem dX0_isUnder_5 : decode cX0_isUnder 5 = .ok (.bipush 7, 2) := by decide +kernel
theorem dX0_isUnder_7 : decode cX0_isUnder 7 = .ok (.if_icmp .ge 25, 3) := by decide +kernel
theorem dX0_isUnder_10 : decode cX0_isUnder 10 = .ok (.iload_n 2, 1) := by decide +kernel
theorem dX0_isUnder_11 : decode cX0_isUnder 11 = .ok (.iload_n 1, 1) := by decide +kernel
theorem dX0_isUnder_12 : decode cX0_isUnder 12 = .ok (.if_icmp .eq 20, 3) := by decide +kernel
theorem dX0_isUnder_15 : decode cX0_isUnder 15 = .ok (.iload_n 2, 1) := by decide +kernel
theorem dX0_isUnder_16 : decode cX0_isUnder 16 = .ok (.iconst (-1), 1) := by decide +kernel
theorem dX0_isUnder_17 : decode cX0_isUnder 17 = .ok (.if_icmp .eq 15, 3) := by decide +kernel
theorem dX0_isUnder_20 : decode cX0_isUnder 20 = .ok (.getstatic 20, 3) := by decide +kernel
theorem dX0_isUnder_23 : decode cX0_isUnder 23 = .ok (.iload_n 2, 1) := by decide +kernel
theorem dX0_isUnder_24 : decode cX0_isUnder 24 = .ok (.iaload, 1) := by decide +kernel
theorem dX0_isUnder_25 : decode cX0_isUnder 25 = .ok (.istore_n 2, 1) := by decide +kernel
theorem dX0_isUnder_26 : decode cX0_isUnder 26 = .ok (.iinc 3 1, 3) := by decide +kernel
theorem dX0_isUnder_29 : decode cX0_isUnder 29 = .ok (.goto (-25), 3) := by decide +kernel
theorem dX0_isUnder_32 : decode cX0_isUnder 32 = .ok (.iload_n 2, 1) := by decide +kernel
theorem dX0_isUnder_33 : decode cX0_isUnder 33 = .ok (.iload_n 1, 1) := by decide +kernel
theorem dX0_isUnder_34 : decode cX0_isUnder 34 = .ok (.if_icmp .ne 7, 3) := by decide +kernel
theorem dX0_isUnder_37 : decode cX0_isUnder 37 = .ok (.iconst 1, 1) := by decide +kernel
theorem dX0_isUnder_38 : decode cX0_isUnder 38 = .ok (.goto 4, 3) := by decide +kernel
theorem dX0_isUnder_41 : decode cX0_isUnder 41 = .ok (.iconst 0, 1) := by decide +kernel
theorem dX0_isUnder_42 : decode cX0_isUnder 42 = .ok (.ireturn, 1) := by decide +kernel
theorem dX0_note_0 : decode cX0_note 0 = .ok (.aload_n 0, 1) := by decide +kernel
theorem dX0_note_1 : decode cX0_note 1 = .ok (.getfield 38, 3) := by decide +kernel
theorem dX0_note_4 : decode cX0_note 4 = .ok (.bipush 24, 2) := by decide +kernel
theorem dX0_note_6 : decode cX0_note 6 = .ok (.if_icmp .ge 13, 3) := by decide +kernel
theorem dX0_note_9 : decode cX0_note 9 = .ok (.aload_n 0, 1) := by decide +kernel
theorem dX0_note_10 : decode cX0_note 10 = .ok (.getfield 13, 3) := by decide +kernel
theorem dX0_note_13 : decode cX0_note 13 = .ok (.aload_n 0, 1) := by decide +kernel
theorem dX0_note_14 : decode cX0_note 14 = .ok (.getfield 38, 3) := by decide +kernel
theorem dX0_note_17 : decode cX0_note 17 = .ok (.iload_n 1, 1) := by decide +kernel
theorem dX0_note_18 : decode cX0_note 18 = .ok (.iastore, 1) := by decide +kernel
theorem dX0_note_19 : decode cX0_note 19 = .ok (.aload_n 0, 1) := by decide +kernel
theorem dX0_note_20 : decode cX0_note 20 = .ok (.dup, 1) := by decide +kernel
theorem dX0_note_21 : decode cX0_note 21 = .ok (.getfield 38, 3) := by decide +kernel
theorem dX0_note_24 : decode cX0_note 24 = .ok (.iconst 1, 1) := by decide +kernel
theorem dX0_note_25 : decode cX0_note 25 = .ok (.iadd, 1) := by decide +kernel
theorem dX0_note_26 : decode cX0_note 26 = .ok (.putfield 38, 3) := by decide +kernel
theorem dX0_note_29 : decode cX0_note 29 = .ok (.return_, 1) := by decide +kernel
theorem dX0_own_0 : decode cX0_own 0 = .ok (.aload_n 0, 1) := by decide +kernel
theorem dX0_own_1 : decode cX0_own 1 = .ok (.iload_n 1, 1) := by decide +kernel
theorem dX0_own_2 : decode cX0_own 2 = .ok (.aload_n 0, 1) := by decide +kernel
theorem dX0_own_3 : decode cX0_own 3 = .ok (.getfield 9, 3) := by decide +kernel
theorem dX0_own_6 : decode cX0_own 6 = .ok (.iload_n 1, 1) := by decide +kernel
theorem dX0_own_7 : decode cX0_own 7 = .ok (.iaload, 1) := by decide +kernel
theorem dX0_own_8 : decode cX0_own 8 = .ok (.iload_n 2, 1) := by decide +kernel
theorem dX0_own_9 : decode cX0_own 9 = .ok (.iload_n 3, 1) := by decide +kernel
theorem dX0_own_10 : decode cX0_own 10 = .ok (.iload 4, 2) := by decide +kernel
theorem dX0_own_12 : decode cX0_own 12 = .ok (.iconst 1, 1) := by decide +kernel
theorem dX0_own_13 : decode cX0_own 13 = .ok (.iadd, 1) := by decide +kernel
theorem dX0_own_14 : decode cX0_own 14 = .ok (.invokevirtual 23, 3) := by decide +kernel
theorem dX0_own_17 : decode cX0_own 17 = .ok (.ireturn, 1) := by decide +kernel
theorem dX0_perform_0 : decode cX0_perform 0 = .ok (.iload_n 2, 1) := by decide +kernel
theorem dX0_perform_1 : decode cX0_perform 1 = .ok (.istore 6, 2) := by decide +kernel
theorem dX0_perform_3 : decode cX0_perform 3 = .ok (.iconst 0, 1) := by decide +kernel
theorem dX0_perform_4 : decode cX0_perform 4 = .ok (.istore 7, 2) := by decide +kernel
theorem dX0_perform_6 : decode cX0_perform 6 = .ok (.iload 7, 2) := by decide +kernel
theorem dX0_perform_8 : decode cX0_perform 8 = .ok (.bipush 7, 2) := by decide +kernel
theorem dX0_perform_10 : decode cX0_perform 10 = .ok (.if_icmp .ge 36, 3) := by decide +kernel
theorem dX0_perform_13 : decode cX0_perform 13 = .ok (.iload 6, 2) := by decide +kernel
theorem dX0_perform_15 : decode cX0_perform 15 = .ok (.iconst (-1), 1) := by decide +kernel
theorem dX0_perform_16 : decode cX0_perform 16 = .ok (.if_icmp .eq 30, 3) := by decide +kernel
theorem dX0_perform_19 : decode cX0_perform 19 = .ok (.getstatic 27, 3) := by decide +kernel
theorem dX0_perform_22 : decode cX0_perform 22 = .ok (.iload 6, 2) := by decide +kernel
theorem dX0_perform_24 : decode cX0_perform 24 = .ok (.iconst 4, 1) := by decide +kernel
theorem dX0_perform_25 : decode cX0_perform 25 = .ok (.imul, 1) := by decide +kernel
theorem dX0_perform_26 : decode cX0_perform 26 = .ok (.iload_n 3, 1) := by decide +kernel
theorem dX0_perform_27 : decode cX0_perform 27 = .ok (.iadd, 1) := by decide +kernel
theorem dX0_perform_28 : decode cX0_perform 28 = .ok (.iaload, 1) := by decide +kernel
theorem dX0_perform_29 : decode cX0_perform 29 = .ok (.ifCond .ne 17, 3) := by decide +kernel
theorem dX0_perform_32 : decode cX0_perform 32 = .ok (.getstatic 20, 3) := by decide +kernel
theorem dX0_perform_35 : decode cX0_perform 35 = .ok (.iload 6, 2) := by decide +kernel
theorem dX0_perform_37 : decode cX0_perform 37 = .ok (.iaload, 1) := by decide +kernel
theorem dX0_perform_38 : decode cX0_perform 38 = .ok (.istore 6, 2) := by decide +kernel
theorem dX0_perform_40 : decode cX0_perform 40 = .ok (.iinc 7 1, 3) := by decide +kernel
theorem dX0_perform_43 : decode cX0_perform 43 = .ok (.goto (-37), 3) := by decide +kernel
theorem dX0_perform_46 : decode cX0_perform 46 = .ok (.iload 6, 2) := by decide +kernel
theorem dX0_perform_48 : decode cX0_perform 48 = .ok (.iconst (-1), 1) := by decide +kernel
theorem dX0_perform_49 : decode cX0_perform 49 = .ok (.if_icmp .eq 10, 3) := by decide +kernel
theorem dX0_perform_52 : decode cX0_perform 52 = .ok (.iload 5, 2) := by decide +kernel
theorem dX0_perform_54 : decode cX0_perform 54 = .ok (.bipush 40, 2) := by decide +kernel
theorem dX0_perform_56 : decode cX0_perform 56 = .ok (.if_icmp .le 5, 3) := by decide +kernel
theorem dX0_perform_59 : decode cX0_perform 59 = .ok (.iconst 0, 1) := by decide +kernel
theorem dX0_perform_60 : decode cX0_perform 60 = .ok (.ireturn, 1) := by decide +kernel
theorem dX0_perform_61 : decode cX0_perform 61 = .ok (.getstatic 27, 3) := by decide +kernel
theorem dX0_perform_64 : decode cX0_perform 64 = .ok (.iload 6, 2) := by decide +kernel
theorem dX0_perform_66 : decode cX0_perform 66 = .ok (.iconst 4, 1) := by decide +kernel
theorem dX0_perform_67 : decode cX0_perform 67 = .ok (.imul, 1) := by decide +kernel
theorem dX0_perform_68 : decode cX0_perform 68 = .ok (.iload_n 3, 1) := by decide +kernel
theorem dX0_perform_69 : decode cX0_perform 69 = .ok (.iadd, 1) := by decide +kernel
theorem dX0_perform_70 : decode cX0_perform 70 = .ok (.iaload, 1) := by decide +kernel
theorem dX0_perform_71 : decode cX0_perform 71 = .ok (.istore 7, 2) := by decide +kernel
theorem dX0_perform_73 : decode cX0_perform 73 = .ok (.aload_n 0, 1) := by decide +kernel
theorem dX0_perform_74 : decode cX0_perform 74 = .ok (.iload 7, 2) := by decide +kernel
theorem dX0_perform_76 : decode cX0_perform 76 = .ok (.invokevirtual 30, 3) := by decide +kernel
theorem dX0_perform_79 : decode cX0_perform 79 = .ok (.getstatic 20, 3) := by decide +kernel
theorem dX0_perform_82 : decode cX0_perform 82 = .ok (.iload 6, 2) := by decide +kernel
theorem dX0_perform_84 : decode cX0_perform 84 = .ok (.iaload, 1) := by decide +kernel
theorem dX0_perform_85 : decode cX0_perform 85 = .ok (.istore 8, 2) := by decide +kernel
theorem dX0_perform_87 : decode cX0_perform 87 = .ok (.iload 7, 2) := by decide +kernel
theorem dX0_perform_89 : decode cX0_perform 89 = .ok (.lookupswitch 327 #[(1, 115), (2, 120), (10, 141), (11, 154), (20, 159), (30, 176), (40, 192), (41, 209), (50, 226), (60, 251), (70, 268), (80, 285), (81, 310)], 115) := by decide +kernel
theorem dX0_perform_204 : decode cX0_perform 204 = .ok (.iload 4, 2) := by decide +kernel
theorem dX0_perform_206 : decode cX0_perform 206 = .ok (.iload_n 1, 1) := by decide +kernel
theorem dX0_perform_207 : decode cX0_perform 207 = .ok (.iadd, 1) := by decide +kernel
theorem dX0_perform_208 : decode cX0_perform 208 = .ok (.ireturn, 1) := by decide +kernel
theorem dX0_perform_209 : decode cX0_perform 209 = .ok (.aload_n 0, 1) := by decide +kernel
theorem dX0_perform_210 : decode cX0_perform 210 = .ok (.iload_n 1, 1) := by decide +kernel
theorem dX0_perform_211 : decode cX0_perform 211 = .ok (.iconst 1, 1) := by decide +kernel
theorem dX0_perform_212 : decode cX0_perform 212 = .ok (.iload 4, 2) := by decide +kernel
theorem dX0_perform_214 : decode cX0_perform 214 = .ok (.iload 5, 2) := by decide +kernel
theorem dX0_perform_216 : decode cX0_perform 216 = .ok (.invokevirtual 34, 3) := by decide +kernel
theorem dX0_perform_219 : decode cX0_perform 219 = .ok (.aload_n 0, 1) := by decide +kernel
theorem dX0_perform_220 : decode cX0_perform 220 = .ok (.iload_n 1, 1) := by decide +kernel
theorem dX0_perform_221 : decode cX0_perform 221 = .ok (.iconst 2, 1) := by decide +kernel
theorem dX0_perform_222 : decode cX0_perform 222 = .ok (.iconst 1, 1) := by decide +kernel
theorem dX0_perform_223 : decode cX0_perform 223 = .ok (.iload 5, 2) := by decide +kernel
theorem dX0_perform_225 : decode cX0_perform 225 = .ok (.invokevirtual 34, 3) := by decide +kernel
theorem dX0_perform_228 : decode cX0_perform 228 = .ok (.isub, 1) := by decide +kernel
theorem dX0_perform_229 : decode cX0_perform 229 = .ok (.ireturn, 1) := by decide +kernel
theorem dX0_perform_230 : decode cX0_perform 230 = .ok (.aload_n 0, 1) := by decide +kernel
theorem dX0_perform_231 : decode cX0_perform 231 = .ok (.iload_n 1, 1) := by decide +kernel
theorem dX0_perform_232 : decode cX0_perform 232 = .ok (.iconst 0, 1) := by decide +kernel
theorem dX0_perform_233 : decode cX0_perform 233 = .ok (.iload 4, 2) := by decide +kernel
theorem dX0_perform_235 : decode cX0_perform 235 = .ok (.iload 5, 2) := by decide +kernel
theorem dX0_perform_237 : decode cX0_perform 237 = .ok (.invokevirtual 34, 3) := by decide +kernel
theorem dX0_perform_240 : decode cX0_perform 240 = .ok (.iconst 2, 1) := by decide +kernel
theorem dX0_perform_241 : decode cX0_perform 241 = .ok (.imul, 1) := by decide +kernel
theorem dX0_perform_242 : decode cX0_perform 242 = .ok (.ireturn, 1) := by decide +kernel
theorem dX0_perform_243 : decode cX0_perform 243 = .ok (.iload 4, 2) := by decide +kernel
theorem dX0_perform_245 : decode cX0_perform 245 = .ok (.iload_n 1, 1) := by decide +kernel
theorem dX0_perform_246 : decode cX0_perform 246 = .ok (.ixor, 1) := by decide +kernel
theorem dX0_perform_247 : decode cX0_perform 247 = .ok (.ireturn, 1) := by decide +kernel
theorem dX0_perform_248 : decode cX0_perform 248 = .ok (.aload_n 0, 1) := by decide +kernel
theorem dX0_perform_249 : decode cX0_perform 249 = .ok (.iload_n 1, 1) := by decide +kernel
theorem dX0_perform_250 : decode cX0_perform 250 = .ok (.iload 8, 2) := by decide +kernel
theorem dX0_perform_252 : decode cX0_perform 252 = .ok (.iconst 0, 1) := by decide +kernel
theorem dX0_perform_253 : decode cX0_perform 253 = .ok (.iload 4, 2) := by decide +kernel
theorem dX0_perform_255 : decode cX0_perform 255 = .ok (.iload 5, 2) := by decide +kernel
theorem dX0_perform_257 : decode cX0_perform 257 = .ok (.iconst 1, 1) := by decide +kernel
theorem dX0_perform_258 : decode cX0_perform 258 = .ok (.iadd, 1) := by decide +kernel
theorem dX0_perform_259 : decode cX0_perform 259 = .ok (.invokevirtual 23, 3) := by decide +kernel
theorem dX0_perform_262 : decode cX0_perform 262 = .ok (.iconst 3, 1) := by decide +kernel
theorem dX0_perform_263 : decode cX0_perform 263 = .ok (.iadd, 1) := by decide +kernel
theorem dX0_perform_264 : decode cX0_perform 264 = .ok (.ireturn, 1) := by decide +kernel
theorem dX0_perform_265 : decode cX0_perform 265 = .ok (.aload_n 0, 1) := by decide +kernel
theorem dX0_perform_266 : decode cX0_perform 266 = .ok (.iload_n 1, 1) := by decide +kernel
theorem dX0_perform_267 : decode cX0_perform 267 = .ok (.iload 8, 2) := by decide +kernel
theorem dX0_perform_269 : decode cX0_perform 269 = .ok (.iconst 1, 1) := by decide +kernel
theorem dX0_perform_270 : decode cX0_perform 270 = .ok (.iload 4, 2) := by decide +kernel
theorem dX0_perform_272 : decode cX0_perform 272 = .ok (.iload 5, 2) := by decide +kernel
theorem dX0_perform_274 : decode cX0_perform 274 = .ok (.iconst 1, 1) := by decide +kernel
theorem dX0_perform_275 : decode cX0_perform 275 = .ok (.iadd, 1) := by decide +kernel
theorem dX0_perform_276 : decode cX0_perform 276 = .ok (.invokevirtual 23, 3) := by decide +kernel
theorem dX0_perform_279 : decode cX0_perform 279 = .ok (.ineg, 1) := by decide +kernel
theorem dX0_perform_280 : decode cX0_perform 280 = .ok (.ireturn, 1) := by decide +kernel
theorem dX0_perform_281 : decode cX0_perform 281 = .ok (.aload_n 0, 1) := by decide +kernel
theorem dX0_perform_282 : decode cX0_perform 282 = .ok (.iload_n 1, 1) := by decide +kernel
theorem dX0_perform_283 : decode cX0_perform 283 = .ok (.iload 8, 2) := by decide +kernel
theorem dX0_perform_285 : decode cX0_perform 285 = .ok (.iconst 2, 1) := by decide +kernel
theorem dX0_perform_286 : decode cX0_perform 286 = .ok (.iload 4, 2) := by decide +kernel
theorem dX0_perform_288 : decode cX0_perform 288 = .ok (.iload 5, 2) := by decide +kernel
theorem dX0_perform_290 : decode cX0_perform 290 = .ok (.iconst 1, 1) := by decide +kernel
theorem dX0_perform_291 : decode cX0_perform 291 = .ok (.iadd, 1) := by decide +kernel
theorem dX0_perform_292 : decode cX0_perform 292 = .ok (.invokevirtual 23, 3) := by decide +kernel
theorem dX0_perform_295 : decode cX0_perform 295 = .ok (.iconst 3, 1) := by decide +kernel
theorem dX0_perform_296 : decode cX0_perform 296 = .ok (.imul, 1) := by decide +kernel
theorem dX0_perform_297 : decode cX0_perform 297 = .ok (.ireturn, 1) := by decide +kernel
theorem dX0_perform_298 : decode cX0_perform 298 = .ok (.aload_n 0, 1) := by decide +kernel
theorem dX0_perform_299 : decode cX0_perform 299 = .ok (.iload_n 1, 1) := by decide +kernel
theorem dX0_perform_300 : decode cX0_perform 300 = .ok (.iload 8, 2) := by decide +kernel
theorem dX0_perform_302 : decode cX0_perform 302 = .ok (.iconst 1, 1) := by decide +kernel
theorem dX0_perform_303 : decode cX0_perform 303 = .ok (.iload 4, 2) := by decide +kernel
theorem dX0_perform_305 : decode cX0_perform 305 = .ok (.iconst 1, 1) := by decide +kernel
theorem dX0_perform_306 : decode cX0_perform 306 = .ok (.iadd, 1) := by decide +kernel
theorem dX0_perform_307 : decode cX0_perform 307 = .ok (.iload 5, 2) := by decide +kernel
theorem dX0_perform_309 : decode cX0_perform 309 = .ok (.iconst 1, 1) := by decide +kernel
theorem dX0_perform_310 : decode cX0_perform 310 = .ok (.iadd, 1) := by decide +kernel
theorem dX0_perform_311 : decode cX0_perform 311 = .ok (.invokevirtual 23, 3) := by decide +kernel
theorem dX0_perform_314 : decode cX0_perform 314 = .ok (.ireturn, 1) := by decide +kernel
theorem dX0_perform_315 : decode cX0_perform 315 = .ok (.aload_n 0, 1) := by decide +kernel
theorem dX0_perform_316 : decode cX0_perform 316 = .ok (.iload_n 1, 1) := by decide +kernel
theorem dX0_perform_317 : decode cX0_perform 317 = .ok (.iload 8, 2) := by decide +kernel
theorem dX0_perform_319 : decode cX0_perform 319 = .ok (.iconst 2, 1) := by decide +kernel
theorem dX0_perform_320 : decode cX0_perform 320 = .ok (.iload 4, 2) := by decide +kernel
theorem dX0_perform_322 : decode cX0_perform 322 = .ok (.iload 5, 2) := by decide +kernel
theorem dX0_perform_324 : decode cX0_perform 324 = .ok (.iconst 1, 1) := by decide +kernel
theorem dX0_perform_325 : decode cX0_perform 325 = .ok (.iadd, 1) := by decide +kernel
theorem dX0_perform_326 : decode cX0_perform 326 = .ok (.invokevirtual 23, 3) := by decide +kernel
theorem dX0_perform_329 : decode cX0_perform 329 = .ok (.aload_n 0, 1) := by decide +kernel
theorem dX0_perform_330 : decode cX0_perform 330 = .ok (.iload_n 1, 1) := by decide +kernel
theorem dX0_perform_331 : decode cX0_perform 331 = .ok (.iconst 0, 1) := by decide +kernel
theorem dX0_perform_332 : decode cX0_perform 332 = .ok (.iconst 2, 1) := by decide +kernel
theorem dX0_perform_333 : decode cX0_perform 333 = .ok (.iload 5, 2) := by decide +kernel
theorem dX0_perform_335 : decode cX0_perform 335 = .ok (.invokevirtual 34, 3) := by decide +kernel
theorem dX0_perform_338 : decode cX0_perform 338 = .ok (.isub, 1) := by decide +kernel
theorem dX0_perform_339 : decode cX0_perform 339 = .ok (.ireturn, 1) := by decide +kernel
theorem dX0_perform_340 : decode cX0_perform 340 = .ok (.aload_n 0, 1) := by decide +kernel
theorem dX0_perform_341 : decode cX0_perform 341 = .ok (.iload_n 1, 1) := by decide +kernel
theorem dX0_perform_342 : decode cX0_perform 342 = .ok (.iload 8, 2) := by decide +kernel
theorem dX0_perform_344 : decode cX0_perform 344 = .ok (.iconst 3, 1) := by decide +kernel
theorem dX0_perform_345 : decode cX0_perform 345 = .ok (.iload 4, 2) := by decide +kernel
theorem dX0_perform_347 : decode cX0_perform 347 = .ok (.iload 5, 2) := by decide +kernel
theorem dX0_perform_349 : decode cX0_perform 349 = .ok (.iconst 1, 1) := by decide +kernel
theorem dX0_perform_350 : decode cX0_perform 350 = .ok (.iadd, 1) := by decide +kernel
theorem dX0_perform_351 : decode cX0_perform 351 = .ok (.invokevirtual 23, 3) := by decide +kernel
theorem dX0_perform_354 : decode cX0_perform 354 = .ok (.iconst 5, 1) := by decide +kernel
theorem dX0_perform_355 : decode cX0_perform 355 = .ok (.ixor, 1) := by decide +kernel
theorem dX0_perform_356 : decode cX0_perform 356 = .ok (.ireturn, 1) := by decide +kernel
theorem dX0_perform_357 : decode cX0_perform 357 = .ok (.aload_n 0, 1) := by decide +kernel
theorem dX0_perform_358 : decode cX0_perform 358 = .ok (.iload_n 1, 1) := by decide +kernel
theorem dX0_perform_359 : decode cX0_perform 359 = .ok (.iload 8, 2) := by decide +kernel
theorem dX0_perform_361 : decode cX0_perform 361 = .ok (.iconst 0, 1) := by decide +kernel
theorem dX0_perform_362 : decode cX0_perform 362 = .ok (.iload 4, 2) := by decide +kernel
theorem dX0_perform_364 : decode cX0_perform 364 = .ok (.iload 5, 2) := by decide +kernel
theorem dX0_perform_366 : decode cX0_perform 366 = .ok (.iconst 1, 1) := by decide +kernel
theorem dX0_perform_367 : decode cX0_perform 367 = .ok (.iadd, 1) := by decide +kernel
theorem dX0_perform_368 : decode cX0_perform 368 = .ok (.invokevirtual 23, 3) := by decide +kernel
theorem dX0_perform_371 : decode cX0_perform 371 = .ok (.iconst 2, 1) := by decide +kernel
theorem dX0_perform_372 : decode cX0_perform 372 = .ok (.imul, 1) := by decide +kernel
theorem dX0_perform_373 : decode cX0_perform 373 = .ok (.ireturn, 1) := by decide +kernel
theorem dX0_perform_374 : decode cX0_perform 374 = .ok (.aload_n 0, 1) := by decide +kernel
theorem dX0_perform_375 : decode cX0_perform 375 = .ok (.iload_n 1, 1) := by decide +kernel
theorem dX0_perform_376 : decode cX0_perform 376 = .ok (.iload 8, 2) := by decide +kernel
theorem dX0_perform_378 : decode cX0_perform 378 = .ok (.iconst 1, 1) := by decide +kernel
theorem dX0_perform_379 : decode cX0_perform 379 = .ok (.iload 4, 2) := by decide +kernel
theorem dX0_perform_381 : decode cX0_perform 381 = .ok (.iload 5, 2) := by decide +kernel
theorem dX0_perform_383 : decode cX0_perform 383 = .ok (.iconst 1, 1) := by decide +kernel
theorem dX0_perform_384 : decode cX0_perform 384 = .ok (.iadd, 1) := by decide +kernel
theorem dX0_perform_385 : decode cX0_perform 385 = .ok (.invokevirtual 23, 3) := by decide +kernel
theorem dX0_perform_388 : decode cX0_perform 388 = .ok (.aload_n 0, 1) := by decide +kernel
theorem dX0_perform_389 : decode cX0_perform 389 = .ok (.iload_n 1, 1) := by decide +kernel
theorem dX0_perform_390 : decode cX0_perform 390 = .ok (.iconst 2, 1) := by decide +kernel
theorem dX0_perform_391 : decode cX0_perform 391 = .ok (.iconst 2, 1) := by decide +kernel
theorem dX0_perform_392 : decode cX0_perform 392 = .ok (.iload 5, 2) := by decide +kernel
theorem dX0_perform_394 : decode cX0_perform 394 = .ok (.invokevirtual 34, 3) := by decide +kernel
theorem dX0_perform_397 : decode cX0_perform 397 = .ok (.iadd, 1) := by decide +kernel
theorem dX0_perform_398 : decode cX0_perform 398 = .ok (.ireturn, 1) := by decide +kernel
theorem dX0_perform_399 : decode cX0_perform 399 = .ok (.aload_n 0, 1) := by decide +kernel
theorem dX0_perform_400 : decode cX0_perform 400 = .ok (.iload_n 1, 1) := by decide +kernel
theorem dX0_perform_401 : decode cX0_perform 401 = .ok (.iload 8, 2) := by decide +kernel
theorem dX0_perform_403 : decode cX0_perform 403 = .ok (.iconst 3, 1) := by decide +kernel
theorem dX0_perform_404 : decode cX0_perform 404 = .ok (.iload 4, 2) := by decide +kernel
theorem dX0_perform_406 : decode cX0_perform 406 = .ok (.iload 5, 2) := by decide +kernel
theorem dX0_perform_408 : decode cX0_perform 408 = .ok (.iconst 1, 1) := by decide +kernel
theorem dX0_perform_409 : decode cX0_perform 409 = .ok (.iadd, 1) := by decide +kernel
theorem dX0_perform_410 : decode cX0_perform 410 = .ok (.invokevirtual 23, 3) := by decide +kernel
theorem dX0_perform_413 : decode cX0_perform 413 = .ok (.iconst 1, 1) := by decide +kernel
theorem dX0_perform_414 : decode cX0_perform 414 = .ok (.isub, 1) := by decide +kernel
theorem dX0_perform_415 : decode cX0_perform 415 = .ok (.ireturn, 1) := by decide +kernel
theorem dX0_perform_416 : decode cX0_perform 416 = .ok (.iconst 0, 1) := by decide +kernel
theorem dX0_perform_417 : decode cX0_perform 417 = .ok (.ireturn, 1) := by decide +kernel
theorem dX0_run_0 : decode cX0_run 0 = .ok (.aload_n 0, 1) := by decide +kernel
theorem dX0_run_1 : decode cX0_run 1 = .ok (.iload_n 1, 1) := by decide +kernel
theorem dX0_run_2 : decode cX0_run 2 = .ok (.aload_n 0, 1) := by decide +kernel
theorem dX0_run_3 : decode cX0_run 3 = .ok (.getfield 9, 3) := by decide +kernel
theorem dX0_run_6 : decode cX0_run 6 = .ok (.iload_n 1, 1) := by decide +kernel
theorem dX0_run_7 : decode cX0_run 7 = .ok (.iaload, 1) := by decide +kernel
theorem dX0_run_8 : decode cX0_run 8 = .ok (.iload_n 2, 1) := by decide +kernel
theorem dX0_run_9 : decode cX0_run 9 = .ok (.iload_n 3, 1) := by decide +kernel
theorem dX0_run_10 : decode cX0_run 10 = .ok (.iconst 0, 1) := by decide +kernel
theorem dX0_run_11 : decode cX0_run 11 = .ok (.invokevirtual 23, 3) := by decide +kernel
theorem dX0_run_14 : decode cX0_run 14 = .ok (.ireturn, 1) := by decide +kernel
theorem dX1_dropOldest_0 : decode cX1_dropOldest 0 = .ok (.aload_n 0, 1) := by decide +kernel
theorem dX1_dropOldest_1 : decode cX1_dropOldest 1 = .ok (.getfield 9, 3) := by decide +kernel
theorem dX1_dropOldest_4 : decode cX1_dropOldest 4 = .ok (.iconst 1, 1) := by decide +kernel
theorem dX1_dropOldest_5 : decode cX1_dropOldest 5 = .ok (.aload_n 0, 1) := by decide +kernel
theorem dX1_dropOldest_6 : decode cX1_dropOldest 6 = .ok (.getfield 9, 3) := by decide +kernel
theorem dX1_dropOldest_9 : decode cX1_dropOldest 9 = .ok (.iconst 0, 1) := by decide +kernel
theorem dX1_dropOldest_10 : decode cX1_dropOldest 10 = .ok (.bipush 39, 2) := by decide +kernel
theorem dX1_dropOldest_12 : decode cX1_dropOldest 12 = .ok (.invokestatic 34, 3) := by decide +kernel
theorem dX1_dropOldest_15 : decode cX1_dropOldest 15 = .ok (.aload_n 0, 1) := by decide +kernel
theorem dX1_dropOldest_16 : decode cX1_dropOldest 16 = .ok (.getfield 15, 3) := by decide +kernel
theorem dX1_dropOldest_19 : decode cX1_dropOldest 19 = .ok (.iconst 1, 1) := by decide +kernel
theorem dX1_dropOldest_20 : decode cX1_dropOldest 20 = .ok (.aload_n 0, 1) := by decide +kernel
theorem dX1_dropOldest_21 : decode cX1_dropOldest 21 = .ok (.getfield 15, 3) := by decide +kernel
theorem dX1_dropOldest_24 : decode cX1_dropOldest 24 = .ok (.iconst 0, 1) := by decide +kernel
theorem dX1_dropOldest_25 : decode cX1_dropOldest 25 = .ok (.bipush 39, 2) := by decide +kernel
theorem dX1_dropOldest_27 : decode cX1_dropOldest 27 = .ok (.invokestatic 34, 3) := by decide +kernel
theorem dX1_dropOldest_30 : decode cX1_dropOldest 30 = .ok (.aload_n 0, 1) := by decide +kernel
theorem dX1_dropOldest_31 : decode cX1_dropOldest 31 = .ok (.getfield 18, 3) := by decide +kernel
theorem dX1_dropOldest_34 : decode cX1_dropOldest 34 = .ok (.iconst 1, 1) := by decide +kernel
theorem dX1_dropOldest_35 : decode cX1_dropOldest 35 = .ok (.aload_n 0, 1) := by decide +kernel
theorem dX1_dropOldest_36 : decode cX1_dropOldest 36 = .ok (.getfield 18, 3) := by decide +kernel
theorem dX1_dropOldest_39 : decode cX1_dropOldest 39 = .ok (.iconst 0, 1) := by decide +kernel
theorem dX1_dropOldest_40 : decode cX1_dropOldest 40 = .ok (.bipush 39, 2) := by decide +kernel
theorem dX1_dropOldest_42 : decode cX1_dropOldest 42 = .ok (.invokestatic 34, 3) := by decide +kernel
theorem dX1_dropOldest_45 : decode cX1_dropOldest 45 = .ok (.aload_n 0, 1) := by decide +kernel
theorem dX1_dropOldest_46 : decode cX1_dropOldest 46 = .ok (.getfield 21, 3) := by decide +kernel
theorem dX1_dropOldest_49 : decode cX1_dropOldest 49 = .ok (.iconst 1, 1) := by decide +kernel
theorem dX1_dropOldest_50 : decode cX1_dropOldest 50 = .ok (.aload_n 0, 1) := by decide +kernel
theorem dX1_dropOldest_51 : decode cX1_dropOldest 51 = .ok (.getfield 21, 3) := by decide +kernel
theorem dX1_dropOldest_54 : decode cX1_dropOldest 54 = .ok (.iconst 0, 1) := by decide +kernel
theorem dX1_dropOldest_55 : decode cX1_dropOldest 55 = .ok (.bipush 39, 2) := by decide +kernel
theorem dX1_dropOldest_57 : decode cX1_dropOldest 57 = .ok (.invokestatic 34, 3) := by decide +kernel
theorem dX1_dropOldest_60 : decode cX1_dropOldest 60 = .ok (.aload_n 0, 1) := by decide +kernel
theorem dX1_dropOldest_61 : decode cX1_dropOldest 61 = .ok (.bipush 39, 2) := by decide +kernel
theorem dX1_dropOldest_63 : decode cX1_dropOldest 63 = .ok (.putfield 24, 3) := by decide +kernel
theorem dX1_dropOldest_66 : decode cX1_dropOldest 66 = .ok (.return_, 1) := by decide +kernel
theorem dX1_add_0 : decode cX1_add 0 = .ok (.aload_n 0, 1) := by decide +kernel
theorem dX1_add_1 : decode cX1_add 1 = .ok (.getfield 24, 3) := by decide +kernel
theorem dX1_add_4 : decode cX1_add 4 = .ok (.bipush 40, 2) := by decide +kernel
theorem dX1_add_6 : decode cX1_add 6 = .ok (.if_icmp .ne 7, 3) := by decide +kernel
theorem dX1_add_9 : decode cX1_add 9 = .ok (.aload_n 0, 1) := by decide +kernel
theorem dX1_add_10 : decode cX1_add 10 = .ok (.invokevirtual 28, 3) := by decide +kernel
theorem dX1_add_13 : decode cX1_add 13 = .ok (.aload_n 0, 1) := by decide +kernel
theorem dX1_add_14 : decode cX1_add 14 = .ok (.getfield 9, 3) := by decide +kernel
theorem dX1_add_17 : decode cX1_add 17 = .ok (.aload_n 0, 1) := by decide +kernel
theorem dX1_add_18 : decode cX1_add 18 = .ok (.getfield 24, 3) := by decide +kernel
theorem dX1_add_21 : decode cX1_add 21 = .ok (.iload_n 1, 1) := by decide +kernel
theorem dX1_add_22 : decode cX1_add 22 = .ok (.iastore, 1) := by decide +kernel
theorem dX1_add_23 : decode cX1_add 23 = .ok (.aload_n 0, 1) := by decide +kernel
theorem dX1_add_24 : decode cX1_add 24 = .ok (.getfield 15, 3) := by decide +kernel
theorem dX1_add_27 : decode cX1_add 27 = .ok (.aload_n 0, 1) := by decide +kernel
theorem dX1_add_28 : decode cX1_add 28 = .ok (.getfield 24, 3) := by decide +kernel
theorem dX1_add_31 : decode cX1_add 31 = .ok (.iload_n 2, 1) := by decide +kernel
theorem dX1_add_32 : decode cX1_add 32 = .ok (.iastore, 1) := by decide +kernel
theorem dX1_add_33 : decode cX1_add 33 = .ok (.aload_n 0, 1) := by decide +kernel
theorem dX1_add_34 : decode cX1_add 34 = .ok (.getfield 18, 3) := by decide +kernel
theorem dX1_add_37 : decode cX1_add 37 = .ok (.aload_n 0, 1) := by decide +kernel
theorem dX1_add_38 : decode cX1_add 38 = .ok (.getfield 24, 3) := by decide +kernel
theorem dX1_add_41 : decode cX1_add 41 = .ok (.iload_n 3, 1) := by decide +kernel
theorem dX1_add_42 : decode cX1_add 42 = .ok (.iastore, 1) := by decide +kernel
theorem dX1_add_43 : decode cX1_add 43 = .ok (.aload_n 0, 1) := by decide +kernel
theorem dX1_add_44 : decode cX1_add 44 = .ok (.getfield 21, 3) := by decide +kernel
theorem dX1_add_47 : decode cX1_add 47 = .ok (.aload_n 0, 1) := by decide +kernel
theorem dX1_add_48 : decode cX1_add 48 = .ok (.getfield 24, 3) := by decide +kernel
theorem dX1_add_51 : decode cX1_add 51 = .ok (.iload 4, 2) := by decide +kernel
theorem dX1_add_53 : decode cX1_add 53 = .ok (.iastore, 1) := by decide +kernel
theorem dX1_add_54 : decode cX1_add 54 = .ok (.aload_n 0, 1) := by decide +kernel
theorem dX1_add_55 : decode cX1_add 55 = .ok (.dup, 1) := by decide +kernel
theorem dX1_add_56 : decode cX1_add 56 = .ok (.getfield 24, 3) := by decide +kernel
theorem dX1_add_59 : decode cX1_add 59 = .ok (.iconst 1, 1) := by decide +kernel
theorem dX1_add_60 : decode cX1_add 60 = .ok (.iadd, 1) := by decide +kernel
theorem dX1_add_61 : decode cX1_add 61 = .ok (.putfield 24, 3) := by decide +kernel
theorem dX1_add_64 : decode cX1_add 64 = .ok (.aload_n 0, 1) := by decide +kernel
theorem dX1_add_65 : decode cX1_add 65 = .ok (.aload_n 0, 1) := by decide +kernel
theorem dX1_add_66 : decode cX1_add 66 = .ok (.getfield 24, 3) := by decide +kernel
theorem dX1_add_69 : decode cX1_add 69 = .ok (.putfield 31, 3) := by decide +kernel
theorem dX1_add_72 : decode cX1_add 72 = .ok (.return_, 1) := by decide +kernel
theorem dX2_isOne_0 : decode cX2_isOne 0 = .ok (.iload_n 1, 1) := by decide +kernel
theorem dX2_isOne_1 : decode cX2_isOne 1 = .ok (.ifCond .lt 15, 3) := by decide +kernel
theorem dX2_isOne_4 : decode cX2_isOne 4 = .ok (.iload_n 1, 1) := by decide +kernel
theorem dX2_isOne_5 : decode cX2_isOne 5 = .ok (.aload_n 0, 1) := by decide +kernel
theorem dX2_isOne_6 : decode cX2_isOne 6 = .ok (.getfield 34, 3) := by decide +kernel
theorem dX2_isOne_9 : decode cX2_isOne 9 = .ok (.if_icmp .ge 7, 3) := by decide +kernel
theorem dX2_isOne_12 : decode cX2_isOne 12 = .ok (.iconst 1, 1) := by decide +kernel
theorem dX2_isOne_13 : decode cX2_isOne 13 = .ok (.goto 4, 3) := by decide +kernel
theorem dX2_isOne_16 : decode cX2_isOne 16 = .ok (.iconst 0, 1) := by decide +kernel
theorem dX2_isOne_17 : decode cX2_isOne 17 = .ok (.ireturn, 1) := by decide +kernel
theorem dX2_mayHave_0 : decode cX2_mayHave 0 = .ok (.lload_n 1, 1) := by decide +kernel
theorem dX2_mayHave_1 : decode cX2_mayHave 1 = .ok (.lconst 0, 1) := by decide +kernel
theorem dX2_mayHave_2 : decode cX2_mayHave 2 = .ok (.lcmp, 1) := by decide +kernel
theorem dX2_mayHave_3 : decode cX2_mayHave 3 = .ok (.ifCond .lt 13, 3) := by decide +kernel
theorem dX2_mayHave_6 : decode cX2_mayHave 6 = .ok (.lload_n 1, 1) := by decide +kernel
theorem dX2_mayHave_7 : decode cX2_mayHave 7 = .ok (.aload_n 0, 1) := by decide +kernel
theorem dX2_mayHave_8 : decode cX2_mayHave 8 = .ok (.getfield 34, 3) := by decide +kernel
theorem dX2_mayHave_11 : decode cX2_mayHave 11 = .ok (.i2l, 1) := by decide +kernel
theorem dX2_mayHave_12 : decode cX2_mayHave 12 = .ok (.lcmp, 1) := by decide +kernel
theorem dX2_mayHave_13 : decode cX2_mayHave 13 = .ok (.ifCond .lt 11, 3) := by decide +kernel
theorem dX2_mayHave_16 : decode cX2_mayHave 16 = .ok (.lload_n 1, 1) := by decide +kernel
theorem dX2_mayHave_17 : decode cX2_mayHave 17 = .ok (.ldc2_w 38, 3) := by decide +kernel
theorem dX2_mayHave_20 : decode cX2_mayHave 20 = .ok (.lcmp, 1) := by decide +kernel
theorem dX2_mayHave_21 : decode cX2_mayHave 21 = .ok (.ifCond .ne 7, 3) := by decide +kernel
theorem dX2_mayHave_24 : decode cX2_mayHave 24 = .ok (.iconst 1, 1) := by decide +kernel
theorem dX2_mayHave_25 : decode cX2_mayHave 25 = .ok (.goto 4, 3) := by decide +kernel
theorem dX2_mayHave_28 : decode cX2_mayHave 28 = .ok (.iconst 0, 1) := by decide +kernel
theorem dX2_mayHave_29 : decode cX2_mayHave 29 = .ok (.ireturn, 1) := by decide +kernel
theorem dJ6_bitCount_0f7a4_0 : decode cJ6_bitCount_0f7a4 0 = .ok (.iload_n 0, 1) := by decide +kernel
theorem dJ6_bitCount_0f7a4_1 : decode cJ6_bitCount_0f7a4 1 = .ok (.iload_n 0, 1) := by decide +kernel
theorem dJ6_bitCount_0f7a4_2 : decode cJ6_bitCount_0f7a4 2 = .ok (.iconst 1, 1) := by decide +kernel
theorem dJ6_bitCount_0f7a4_3 : decode cJ6_bitCount_0f7a4 3 = .ok (.iushr, 1) := by decide +kernel
theorem dJ6_bitCount_0f7a4_4 : decode cJ6_bitCount_0f7a4 4 = .ok (.ldc_w 265, 3) := by decide +kernel
theorem dJ6_bitCount_0f7a4_7 : decode cJ6_bitCount_0f7a4 7 = .ok (.iand, 1) := by decide +kernel
theorem dJ6_bitCount_0f7a4_8 : decode cJ6_bitCount_0f7a4 8 = .ok (.isub, 1) := by decide +kernel
theorem dJ6_bitCount_0f7a4_9 : decode cJ6_bitCount_0f7a4 9 = .ok (.istore_n 0, 1) := by decide +kernel
theorem dJ6_bitCount_0f7a4_10 : decode cJ6_bitCount_0f7a4 10 = .ok (.iload_n 0, 1) := by decide +kernel
theorem dJ6_bitCount_0f7a4_11 : decode cJ6_bitCount_0f7a4 11 = .ok (.ldc_w 266, 3) := by decide +kernel
theorem dJ6_bitCount_0f7a4_14 : decode cJ6_bitCount_0f7a4 14 = .ok (.iand, 1) := by decide +kernel
theorem dJ6_bitCount_0f7a4_15 : decode cJ6_bitCount_0f7a4 15 = .ok (.iload_n 0, 1) := by decide +kernel
theorem dJ6_bitCount_0f7a4_16 : decode cJ6_bitCount_0f7a4 16 = .ok (.iconst 2, 1) := by decide +kernel
theorem dJ6_bitCount_0f7a4_17 : decode cJ6_bitCount_0f7a4 17 = .ok (.iushr, 1) := by decide +kernel
theorem dJ6_bitCount_0f7a4_18 : decode cJ6_bitCount_0f7a4 18 = .ok (.ldc_w 266, 3) := by decide +kernel
theorem dJ6_bitCount_0f7a4_21 : decode cJ6_bitCount_0f7a4 21 = .ok (.iand, 1) := by decide +kernel
theorem dJ6_bitCount_0f7a4_22 : decode cJ6_bitCount_0f7a4 22 = .ok (.iadd, 1) := by decide +kernel
theorem dJ6_bitCount_0f7a4_23 : decode cJ6_bitCount_0f7a4 23 = .ok (.istore_n 0, 1) := by decide +kernel
theorem dJ6_bitCount_0f7a4_24 : decode cJ6_bitCount_0f7a4 24 = .ok (.iload_n 0, 1) := by decide +kernel
theorem dJ6_bitCount_0f7a4_25 : decode cJ6_bitCount_0f7a4 25 = .ok (.iload_n 0, 1) := by decide +kernel
theorem dJ6_bitCount_0f7a4_26 : decode cJ6_bitCount_0f7a4 26 = .ok (.iconst 4, 1) := by decide +kernel
theorem dJ6_bitCount_0f7a4_27 : decode cJ6_bitCount_0f7a4 27 = .ok (.iushr, 1) := by decide +kernel
theorem dJ6_bitCount_0f7a4_28 : decode cJ6_bitCount_0f7a4 28 = .ok (.iadd, 1) := by decide +kernel
theorem dJ6_bitCount_0f7a4_29 : decode cJ6_bitCount_0f7a4 29 = .ok (.ldc_w 267, 3) := by decide +kernel
theorem dJ6_bitCount_0f7a4_32 : decode cJ6_bitCount_0f7a4 32 = .ok (.iand, 1) := by decide +kernel
theorem dJ6_bitCount_0f7a4_33 : decode cJ6_bitCount_0f7a4 33 = .ok (.istore_n 0, 1) := by decide +kernel
theorem dJ6_bitCount_0f7a4_34 : decode cJ6_bitCount_0f7a4 34 = .ok (.iload_n 0, 1) := by decide +kernel
theorem dJ6_bitCount_0f7a4_35 : decode cJ6_bitCount_0f7a4 35 = .ok (.iload_n 0, 1) := by decide +kernel
theorem dJ6_bitCount_0f7a4_36 : decode cJ6_bitCount_0f7a4 36 = .ok (.bipush 8, 2) := by decide +kernel
theorem dJ6_bitCount_0f7a4_38 : decode cJ6_bitCount_0f7a4 38 = .ok (.iushr, 1) := by decide +kernel
theorem dJ6_bitCount_0f7a4_39 : decode cJ6_bitCount_0f7a4 39 = .ok (.iadd, 1) := by decide +kernel
theorem dJ6_bitCount_0f7a4_40 : decode cJ6_bitCount_0f7a4 40 = .ok (.istore_n 0, 1) := by decide +kernel
theorem dJ6_bitCount_0f7a4_41 : decode cJ6_bitCount_0f7a4 41 = .ok (.iload_n 0, 1) := by decide +kernel
theorem dJ6_bitCount_0f7a4_42 : decode cJ6_bitCount_0f7a4 42 = .ok (.iload_n 0, 1) := by decide +kernel
theorem dJ6_bitCount_0f7a4_43 : decode cJ6_bitCount_0f7a4 43 = .ok (.bipush 16, 2) := by decide +kernel
theorem dJ6_bitCount_0f7a4_45 : decode cJ6_bitCount_0f7a4 45 = .ok (.iushr, 1) := by decide +kernel
theorem dJ6_bitCount_0f7a4_46 : decode cJ6_bitCount_0f7a4 46 = .ok (.iadd, 1) := by decide +kernel
theorem dJ6_bitCount_0f7a4_47 : decode cJ6_bitCount_0f7a4 47 = .ok (.istore_n 0, 1) := by decide +kernel
theorem dJ6_bitCount_0f7a4_48 : decode cJ6_bitCount_0f7a4 48 = .ok (.iload_n 0, 1) := by decide +kernel
theorem dJ6_bitCount_0f7a4_49 : decode cJ6_bitCount_0f7a4 49 = .ok (.bipush 63, 2) := by decide +kernel
theorem dJ6_bitCount_0f7a4_51 : decode cJ6_bitCount_0f7a4 51 = .ok (.iand, 1) := by decide +kernel
theorem dJ6_bitCount_0f7a4_52 : decode cJ6_bitCount_0f7a4 52 = .ok (.ireturn, 1) := by decide +kernel
theorem dX3_isWritten_0 : decode cX3_isWritten 0 = .ok (.aload_n 0, 1) := by decide +kernel
theorem dX3_isWritten_1 : decode cX3_isWritten 1 = .ok (.getfield 24, 3) := by decide +kernel
theorem dX3_isWritten_4 : decode cX3_isWritten 4 = .ok (.ifCond .le 7, 3) := by decide +kernel
theorem dX3_isWritten_7 : decode cX3_isWritten 7 = .ok (.iconst 1, 1) := by decide +kernel
theorem dX3_isWritten_8 : decode cX3_isWritten 8 = .ok (.goto 4, 3) := by decide +kernel
theorem dX3_isWritten_11 : decode cX3_isWritten 11 = .ok (.iconst 0, 1) := by decide +kernel
theorem dX3_isWritten_12 : decode cX3_isWritten 12 = .ok (.ireturn, 1) := by decide +kernel
theorem dX3_endOfLine_0 : decode cX3_endOfLine 0 = .ok (.iload_n 1, 1) := by decide +kernel
theorem dX3_endOfLine_1 : decode cX3_endOfLine 1 = .ok (.istore_n 2, 1) := by decide +kernel
theorem dX3_endOfLine_2 : decode cX3_endOfLine 2 = .ok (.iload_n 2, 1) := by decide +kernel
theorem dX3_endOfLine_3 : decode cX3_endOfLine 3 = .ok (.aload_n 0, 1) := by decide +kernel
theorem dX3_endOfLine_4 : decode cX3_endOfLine 4 = .ok (.getfield 24, 3) := by decide +kernel
theorem dX3_endOfLine_7 : decode cX3_endOfLine 7 = .ok (.if_icmp .ge 20, 3) := by decide +kernel
theorem dX3_endOfLine_10 : decode cX3_endOfLine 10 = .ok (.aload_n 0, 1) := by decide +kernel
theorem dX3_endOfLine_11 : decode cX3_endOfLine 11 = .ok (.getfield 11, 3) := by decide +kernel
theorem dX3_endOfLine_14 : decode cX3_endOfLine 14 = .ok (.iload_n 2, 1) := by decide +kernel
theorem dX3_endOfLine_15 : decode cX3_endOfLine 15 = .ok (.iaload, 1) := by decide +kernel
theorem dX3_endOfLine_16 : decode cX3_endOfLine 16 = .ok (.bipush (-59), 2) := by decide +kernel
theorem dX3_endOfLine_18 : decode cX3_endOfLine 18 = .ok (.if_icmp .eq 9, 3) := by decide +kernel
theorem dX3_endOfLine_21 : decode cX3_endOfLine 21 = .ok (.iinc 2 1, 3) := by decide +kernel
theorem dX3_endOfLine_24 : decode cX3_endOfLine 24 = .ok (.goto (-22), 3) := by decide +kernel
theorem dX3_endOfLine_27 : decode cX3_endOfLine 27 = .ok (.iload_n 2, 1) := by decide +kernel
theorem dX3_endOfLine_28 : decode cX3_endOfLine 28 = .ok (.ireturn, 1) := by decide +kernel
theorem dX3_joined_0 : decode cX3_joined 0 = .ok (.iload_n 0, 1) := by decide +kernel
theorem dX3_joined_1 : decode cX3_joined 1 = .ok (.lookupswitch 168 #[(38, 97), (42, 152), (43, 144), (45, 148), (47, 156), (60, 111), (61, 122), (62, 133), (124, 83)], 83) := by decide +kernel
theorem dX3_joined_84 : decode cX3_joined 84 = .ok (.iload_n 1, 1) := by decide +kernel
theorem dX3_joined_85 : decode cX3_joined 85 = .ok (.ifCond .ne 7, 3) := by decide +kernel
theorem dX3_joined_88 : decode cX3_joined 88 = .ok (.iload_n 2, 1) := by decide +kernel
theorem dX3_joined_89 : decode cX3_joined 89 = .ok (.ifCond .eq 7, 3) := by decide +kernel
theorem dX3_joined_92 : decode cX3_joined 92 = .ok (.iconst 1, 1) := by decide +kernel
theorem dX3_joined_93 : decode cX3_joined 93 = .ok (.goto 4, 3) := by decide +kernel
theorem dX3_joined_96 : decode cX3_joined 96 = .ok (.iconst 0, 1) := by decide +kernel
theorem dX3_joined_97 : decode cX3_joined 97 = .ok (.ireturn, 1) := by decide +kernel
theorem dX3_joined_98 : decode cX3_joined 98 = .ok (.iload_n 1, 1) := by decide +kernel
theorem dX3_joined_99 : decode cX3_joined 99 = .ok (.ifCond .eq 11, 3) := by decide +kernel
theorem dX3_joined_102 : decode cX3_joined 102 = .ok (.iload_n 2, 1) := by decide +kernel
theorem dX3_joined_103 : decode cX3_joined 103 = .ok (.ifCond .eq 7, 3) := by decide +kernel
theorem dX3_joined_106 : decode cX3_joined 106 = .ok (.iconst 1, 1) := by decide +kernel
theorem dX3_joined_107 : decode cX3_joined 107 = .ok (.goto 4, 3) := by decide +kernel
theorem dX3_joined_110 : decode cX3_joined 110 = .ok (.iconst 0, 1) := by decide +kernel
theorem dX3_joined_111 : decode cX3_joined 111 = .ok (.ireturn, 1) := by decide +kernel
theorem dX3_joined_112 : decode cX3_joined 112 = .ok (.iload_n 1, 1) := by decide +kernel
theorem dX3_joined_113 : decode cX3_joined 113 = .ok (.iload_n 2, 1) := by decide +kernel
theorem dX3_joined_114 : decode cX3_joined 114 = .ok (.if_icmp .ge 7, 3) := by decide +kernel
theorem dX3_joined_117 : decode cX3_joined 117 = .ok (.iconst 1, 1) := by decide +kernel
theorem dX3_joined_118 : decode cX3_joined 118 = .ok (.goto 4, 3) := by decide +kernel
theorem dX3_joined_121 : decode cX3_joined 121 = .ok (.iconst 0, 1) := by decide +kernel
theorem dX3_joined_122 : decode cX3_joined 122 = .ok (.ireturn, 1) := by decide +kernel
theorem dX3_joined_123 : decode cX3_joined 123 = .ok (.iload_n 1, 1) := by decide +kernel
theorem dX3_joined_124 : decode cX3_joined 124 = .ok (.iload_n 2, 1) := by decide +kernel
theorem dX3_joined_125 : decode cX3_joined 125 = .ok (.if_icmp .ne 7, 3) := by decide +kernel
theorem dX3_joined_128 : decode cX3_joined 128 = .ok (.iconst 1, 1) := by decide +kernel
theorem dX3_joined_129 : decode cX3_joined 129 = .ok (.goto 4, 3) := by decide +kernel
theorem dX3_joined_132 : decode cX3_joined 132 = .ok (.iconst 0, 1) := by decide +kernel
theorem dX3_joined_133 : decode cX3_joined 133 = .ok (.ireturn, 1) := by decide +kernel
theorem dX3_joined_134 : decode cX3_joined 134 = .ok (.iload_n 1, 1) := by decide +kernel
theorem dX3_joined_135 : decode cX3_joined 135 = .ok (.iload_n 2, 1) := by decide +kernel
theorem dX3_joined_136 : decode cX3_joined 136 = .ok (.if_icmp .le 7, 3) := by decide +kernel
theorem dX3_joined_139 : decode cX3_joined 139 = .ok (.iconst 1, 1) := by decide +kernel
theorem dX3_joined_140 : decode cX3_joined 140 = .ok (.goto 4, 3) := by decide +kernel
theorem dX3_joined_143 : decode cX3_joined 143 = .ok (.iconst 0, 1) := by decide +kernel
theorem dX3_joined_144 : decode cX3_joined 144 = .ok (.ireturn, 1) := by decide +kernel
theorem dX3_joined_145 : decode cX3_joined 145 = .ok (.iload_n 1, 1) := by decide +kernel
theorem dX3_joined_146 : decode cX3_joined 146 = .ok (.iload_n 2, 1) := by decide +kernel
theorem dX3_joined_147 : decode cX3_joined 147 = .ok (.iadd, 1) := by decide +kernel
theorem dX3_joined_148 : decode cX3_joined 148 = .ok (.ireturn, 1) := by decide +kernel
theorem dX3_joined_149 : decode cX3_joined 149 = .ok (.iload_n 1, 1) := by decide +kernel
theorem dX3_joined_150 : decode cX3_joined 150 = .ok (.iload_n 2, 1) := by decide +kernel
theorem dX3_joined_151 : decode cX3_joined 151 = .ok (.isub, 1) := by decide +kernel
theorem dX3_joined_152 : decode cX3_joined 152 = .ok (.ireturn, 1) := by decide +kernel
theorem dX3_joined_153 : decode cX3_joined 153 = .ok (.iload_n 1, 1) := by decide +kernel
theorem dX3_joined_154 : decode cX3_joined 154 = .ok (.iload_n 2, 1) := by decide +kernel
theorem dX3_joined_155 : decode cX3_joined 155 = .ok (.imul, 1) := by decide +kernel
theorem dX3_joined_156 : decode cX3_joined 156 = .ok (.ireturn, 1) := by decide +kernel
theorem dX3_joined_157 : decode cX3_joined 157 = .ok (.iload_n 2, 1) := by decide +kernel
theorem dX3_joined_158 : decode cX3_joined 158 = .ok (.ifCond .ne 7, 3) := by decide +kernel
theorem dX3_joined_161 : decode cX3_joined 161 = .ok (.iconst 0, 1) := by decide +kernel
theorem dX3_joined_162 : decode cX3_joined 162 = .ok (.goto 6, 3) := by decide +kernel
theorem dX3_joined_165 : decode cX3_joined 165 = .ok (.iload_n 1, 1) := by decide +kernel
theorem dX3_joined_166 : decode cX3_joined 166 = .ok (.iload_n 2, 1) := by decide +kernel
theorem dX3_joined_167 : decode cX3_joined 167 = .ok (.idiv, 1) := by decide +kernel
theorem dX3_joined_168 : decode cX3_joined 168 = .ok (.ireturn, 1) := by decide +kernel
theorem dX3_joined_169 : decode cX3_joined 169 = .ok (.iload_n 2, 1) := by decide +kernel
theorem dX3_joined_170 : decode cX3_joined 170 = .ok (.ifCond .ne 7, 3) := by decide +kernel
theorem dX3_joined_173 : decode cX3_joined 173 = .ok (.iconst 0, 1) := by decide +kernel
theorem dX3_joined_174 : decode cX3_joined 174 = .ok (.goto 6, 3) := by decide +kernel
theorem dX3_joined_177 : decode cX3_joined 177 = .ok (.iload_n 1, 1) := by decide +kernel
theorem dX3_joined_178 : decode cX3_joined 178 = .ok (.iload_n 2, 1) := by decide +kernel
theorem dX3_joined_179 : decode cX3_joined 179 = .ok (.irem, 1) := by decide +kernel
theorem dX3_joined_180 : decode cX3_joined 180 = .ok (.ireturn, 1) := by decide +kernel
theorem dX3_workOut_0 : decode cX3_workOut 0 = .ok (.iconst 0, 1) := by decide +kernel
theorem dX3_workOut_1 : decode cX3_workOut 1 = .ok (.istore_n 2, 1) := by decide +kernel
theorem dX3_workOut_2 : decode cX3_workOut 2 = .ok (.iconst 0, 1) := by decide +kernel
theorem dX3_workOut_3 : decode cX3_workOut 3 = .ok (.istore_n 3, 1) := by decide +kernel
theorem dX3_workOut_4 : decode cX3_workOut 4 = .ok (.iload_n 3, 1) := by decide +kernel
theorem dX3_workOut_5 : decode cX3_workOut 5 = .ok (.aload_n 0, 1) := by decide +kernel
theorem dX3_workOut_6 : decode cX3_workOut 6 = .ok (.getfield 24, 3) := by decide +kernel
theorem dX3_workOut_9 : decode cX3_workOut 9 = .ok (.if_icmp .ge 193, 3) := by decide +kernel
theorem dX3_workOut_12 : decode cX3_workOut 12 = .ok (.aload_n 0, 1) := by decide +kernel
theorem dX3_workOut_13 : decode cX3_workOut 13 = .ok (.getfield 11, 3) := by decide +kernel
theorem dX3_workOut_16 : decode cX3_workOut 16 = .ok (.iload_n 3, 1) := by decide +kernel
theorem dX3_workOut_17 : decode cX3_workOut 17 = .ok (.iaload, 1) := by decide +kernel
theorem dX3_workOut_18 : decode cX3_workOut 18 = .ok (.istore 4, 2) := by decide +kernel
theorem dX3_workOut_20 : decode cX3_workOut 20 = .ok (.iload 4, 2) := by decide +kernel
theorem dX3_workOut_22 : decode cX3_workOut 22 = .ok (.bipush (-6), 2) := by decide +kernel
theorem dX3_workOut_24 : decode cX3_workOut 24 = .ok (.if_icmp .lt 31, 3) := by decide +kernel
theorem dX3_workOut_27 : decode cX3_workOut 27 = .ok (.aload_n 0, 1) := by decide +kernel
theorem dX3_workOut_28 : decode cX3_workOut 28 = .ok (.getfield 15, 3) := by decide +kernel
theorem dX3_workOut_31 : decode cX3_workOut 31 = .ok (.iload_n 2, 1) := by decide +kernel
theorem dX3_workOut_32 : decode cX3_workOut 32 = .ok (.iload 4, 2) := by decide +kernel
theorem dX3_workOut_34 : decode cX3_workOut 34 = .ok (.ifCond .lt 8, 3) := by decide +kernel
theorem dX3_workOut_37 : decode cX3_workOut 37 = .ok (.iload 4, 2) := by decide +kernel
theorem dX3_workOut_39 : decode cX3_workOut 39 = .ok (.goto 9, 3) := by decide +kernel
theorem dX3_workOut_42 : decode cX3_workOut 42 = .ok (.aload_n 1, 1) := by decide +kernel
theorem dX3_workOut_43 : decode cX3_workOut 43 = .ok (.iconst (-1), 1) := by decide +kernel
theorem dX3_workOut_44 : decode cX3_workOut 44 = .ok (.iload 4, 2) := by decide +kernel
theorem dX3_workOut_46 : decode cX3_workOut 46 = .ok (.isub, 1) := by decide +kernel
theorem dX3_workOut_47 : decode cX3_workOut 47 = .ok (.iaload, 1) := by decide +kernel
theorem dX3_workOut_48 : decode cX3_workOut 48 = .ok (.iastore, 1) := by decide +kernel
theorem dX3_workOut_49 : decode cX3_workOut 49 = .ok (.iinc 2 1, 3) := by decide +kernel
theorem dX3_workOut_52 : decode cX3_workOut 52 = .ok (.goto 144, 3) := by decide +kernel
theorem dX3_workOut_55 : decode cX3_workOut 55 = .ok (.iload 4, 2) := by decide +kernel
theorem dX3_workOut_57 : decode cX3_workOut 57 = .ok (.bipush (-59), 2) := by decide +kernel
theorem dX3_workOut_59 : decode cX3_workOut 59 = .ok (.if_icmp .ne 12, 3) := by decide +kernel
theorem dX3_workOut_62 : decode cX3_workOut 62 = .ok (.aload_n 0, 1) := by decide +kernel
theorem dX3_workOut_63 : decode cX3_workOut 63 = .ok (.getfield 15, 3) := by decide +kernel
theorem dX3_workOut_66 : decode cX3_workOut 66 = .ok (.iload_n 2, 1) := by decide +kernel
theorem dX3_workOut_67 : decode cX3_workOut 67 = .ok (.iconst 1, 1) := by decide +kernel
theorem dX3_workOut_68 : decode cX3_workOut 68 = .ok (.isub, 1) := by decide +kernel
theorem dX3_workOut_69 : decode cX3_workOut 69 = .ok (.iaload, 1) := by decide +kernel
theorem dX3_workOut_70 : decode cX3_workOut 70 = .ok (.ireturn, 1) := by decide +kernel
theorem dX3_workOut_71 : decode cX3_workOut 71 = .ok (.iload 4, 2) := by decide +kernel
theorem dX3_workOut_73 : decode cX3_workOut 73 = .ok (.bipush (-63), 2) := by decide +kernel
theorem dX3_workOut_75 : decode cX3_workOut 75 = .ok (.if_icmp .ne 28, 3) := by decide +kernel
theorem dX3_workOut_78 : decode cX3_workOut 78 = .ok (.iinc 2 (-1), 3) := by decide +kernel
theorem dX3_workOut_81 : decode cX3_workOut 81 = .ok (.aload_n 0, 1) := by decide +kernel
theorem dX3_workOut_82 : decode cX3_workOut 82 = .ok (.getfield 15, 3) := by decide +kernel
theorem dX3_workOut_85 : decode cX3_workOut 85 = .ok (.iload_n 2, 1) := by decide +kernel
theorem dX3_workOut_86 : decode cX3_workOut 86 = .ok (.iaload, 1) := by decide +kernel
theorem dX3_workOut_87 : decode cX3_workOut 87 = .ok (.ifCond .eq 7, 3) := by decide +kernel
theorem dX3_workOut_90 : decode cX3_workOut 90 = .ok (.iload_n 3, 1) := by decide +kernel
theorem dX3_workOut_91 : decode cX3_workOut 91 = .ok (.goto 8, 3) := by decide +kernel
theorem dX3_workOut_94 : decode cX3_workOut 94 = .ok (.aload_n 0, 1) := by decide +kernel
theorem dX3_workOut_95 : decode cX3_workOut 95 = .ok (.iload_n 3, 1) := by decide +kernel
theorem dX3_workOut_96 : decode cX3_workOut 96 = .ok (.invokevirtual 82, 3) := by decide +kernel
theorem dX3_workOut_99 : decode cX3_workOut 99 = .ok (.istore_n 3, 1) := by decide +kernel
theorem dX3_workOut_100 : decode cX3_workOut 100 = .ok (.goto 96, 3) := by decide +kernel
theorem dX3_workOut_103 : decode cX3_workOut 103 = .ok (.iload 4, 2) := by decide +kernel
theorem dX3_workOut_105 : decode cX3_workOut 105 = .ok (.bipush (-33), 2) := by decide +kernel
theorem dX3_workOut_107 : decode cX3_workOut 107 = .ok (.if_icmp .eq 10, 3) := by decide +kernel
theorem dX3_workOut_110 : decode cX3_workOut 110 = .ok (.iload 4, 2) := by decide +kernel
theorem dX3_workOut_112 : decode cX3_workOut 112 = .ok (.bipush (-126), 2) := by decide +kernel
theorem dX3_workOut_114 : decode cX3_workOut 114 = .ok (.if_icmp .ne 51, 3) := by decide +kernel
theorem dX3_workOut_117 : decode cX3_workOut 117 = .ok (.aload_n 0, 1) := by decide +kernel
theorem dX3_workOut_118 : decode cX3_workOut 118 = .ok (.getfield 15, 3) := by decide +kernel
theorem dX3_workOut_121 : decode cX3_workOut 121 = .ok (.iload_n 2, 1) := by decide +kernel
theorem dX3_workOut_122 : decode cX3_workOut 122 = .ok (.iconst 1, 1) := by decide +kernel
theorem dX3_workOut_123 : decode cX3_workOut 123 = .ok (.isub, 1) := by decide +kernel
theorem dX3_workOut_124 : decode cX3_workOut 124 = .ok (.iaload, 1) := by decide +kernel
theorem dX3_workOut_125 : decode cX3_workOut 125 = .ok (.istore 5, 2) := by decide +kernel
theorem dX3_workOut_127 : decode cX3_workOut 127 = .ok (.iload 5, 2) := by decide +kernel
theorem dX3_workOut_129 : decode cX3_workOut 129 = .ok (.ifCond .ne 7, 3) := by decide +kernel
theorem dX3_workOut_132 : decode cX3_workOut 132 = .ok (.iconst 1, 1) := by decide +kernel
theorem dX3_workOut_133 : decode cX3_workOut 133 = .ok (.goto 4, 3) := by decide +kernel
theorem dX3_workOut_136 : decode cX3_workOut 136 = .ok (.iconst 0, 1) := by decide +kernel
theorem dX3_workOut_137 : decode cX3_workOut 137 = .ok (.istore 6, 2) := by decide +kernel
theorem dX3_workOut_139 : decode cX3_workOut 139 = .ok (.aload_n 0, 1) := by decide +kernel
theorem dX3_workOut_140 : decode cX3_workOut 140 = .ok (.getfield 15, 3) := by decide +kernel
theorem dX3_workOut_143 : decode cX3_workOut 143 = .ok (.iload_n 2, 1) := by decide +kernel
theorem dX3_workOut_144 : decode cX3_workOut 144 = .ok (.iconst 1, 1) := by decide +kernel
theorem dX3_workOut_145 : decode cX3_workOut 145 = .ok (.isub, 1) := by decide +kernel
theorem dX3_workOut_146 : decode cX3_workOut 146 = .ok (.iload 4, 2) := by decide +kernel
theorem dX3_workOut_148 : decode cX3_workOut 148 = .ok (.bipush (-126), 2) := by decide +kernel
theorem dX3_workOut_150 : decode cX3_workOut 150 = .ok (.if_icmp .ne 9, 3) := by decide +kernel
theorem dX3_workOut_153 : decode cX3_workOut 153 = .ok (.iload 5, 2) := by decide +kernel
theorem dX3_workOut_155 : decode cX3_workOut 155 = .ok (.ineg, 1) := by decide +kernel
theorem dX3_workOut_156 : decode cX3_workOut 156 = .ok (.goto 5, 3) := by decide +kernel
theorem dX3_workOut_159 : decode cX3_workOut 159 = .ok (.iload 6, 2) := by decide +kernel
theorem dX3_workOut_161 : decode cX3_workOut 161 = .ok (.iastore, 1) := by decide +kernel
theorem dX3_workOut_162 : decode cX3_workOut 162 = .ok (.goto 34, 3) := by decide +kernel
theorem dX3_workOut_165 : decode cX3_workOut 165 = .ok (.iinc 2 (-1), 3) := by decide +kernel
theorem dX3_workOut_168 : decode cX3_workOut 168 = .ok (.aload_n 0, 1) := by decide +kernel
theorem dX3_workOut_169 : decode cX3_workOut 169 = .ok (.getfield 15, 3) := by decide +kernel
theorem dX3_workOut_172 : decode cX3_workOut 172 = .ok (.iload_n 2, 1) := by decide +kernel
theorem dX3_workOut_173 : decode cX3_workOut 173 = .ok (.iconst 1, 1) := by decide +kernel
theorem dX3_workOut_174 : decode cX3_workOut 174 = .ok (.isub, 1) := by decide +kernel
theorem dX3_workOut_175 : decode cX3_workOut 175 = .ok (.iload 4, 2) := by decide +kernel
theorem dX3_workOut_177 : decode cX3_workOut 177 = .ok (.ineg, 1) := by decide +kernel
theorem dX3_workOut_178 : decode cX3_workOut 178 = .ok (.aload_n 0, 1) := by decide +kernel
theorem dX3_workOut_179 : decode cX3_workOut 179 = .ok (.getfield 15, 3) := by decide +kernel
theorem dX3_workOut_182 : decode cX3_workOut 182 = .ok (.iload_n 2, 1) := by decide +kernel
theorem dX3_workOut_183 : decode cX3_workOut 183 = .ok (.iconst 1, 1) := by decide +kernel
theorem dX3_workOut_184 : decode cX3_workOut 184 = .ok (.isub, 1) := by decide +kernel
theorem dX3_workOut_185 : decode cX3_workOut 185 = .ok (.iaload, 1) := by decide +kernel
theorem dX3_workOut_186 : decode cX3_workOut 186 = .ok (.aload_n 0, 1) := by decide +kernel
theorem dX3_workOut_187 : decode cX3_workOut 187 = .ok (.getfield 15, 3) := by decide +kernel
theorem dX3_workOut_190 : decode cX3_workOut 190 = .ok (.iload_n 2, 1) := by decide +kernel
theorem dX3_workOut_191 : decode cX3_workOut 191 = .ok (.iaload, 1) := by decide +kernel
theorem dX3_workOut_192 : decode cX3_workOut 192 = .ok (.invokestatic 85, 3) := by decide +kernel
theorem dX3_workOut_195 : decode cX3_workOut 195 = .ok (.iastore, 1) := by decide +kernel
theorem dX3_workOut_196 : decode cX3_workOut 196 = .ok (.iinc 3 1, 3) := by decide +kernel
theorem dX3_workOut_199 : decode cX3_workOut 199 = .ok (.goto (-195), 3) := by decide +kernel
theorem dX3_workOut_202 : decode cX3_workOut 202 = .ok (.iconst 0, 1) := by decide +kernel
theorem dX3_workOut_203 : decode cX3_workOut 203 = .ok (.ireturn, 1) := by decide +kernel
theorem dX2_doneBy_0 : decode cX2_doneBy 0 = .ok (.aload_n 0, 1) := by decide +kernel
theorem dX2_doneBy_1 : decode cX2_doneBy 1 = .ok (.getfield 18, 3) := by decide +kernel
theorem dX2_doneBy_4 : decode cX2_doneBy 4 = .ok (.aload_n 1, 1) := by decide +kernel
theorem dX2_doneBy_5 : decode cX2_doneBy 5 = .ok (.getfield 40, 3) := by decide +kernel
theorem dX2_doneBy_8 : decode cX2_doneBy 8 = .ok (.iaload, 1) := by decide +kernel
theorem dX2_doneBy_9 : decode cX2_doneBy 9 = .ok (.istore_n 3, 1) := by decide +kernel
theorem dX2_doneBy_10 : decode cX2_doneBy 10 = .ok (.aload_n 0, 1) := by decide +kernel
theorem dX2_doneBy_11 : decode cX2_doneBy 11 = .ok (.getfield 9, 3) := by decide +kernel
theorem dX2_doneBy_14 : decode cX2_doneBy 14 = .ok (.iload_n 2, 1) := by decide +kernel
theorem dX2_doneBy_15 : decode cX2_doneBy 15 = .ok (.iaload, 1) := by decide +kernel
theorem dX2_doneBy_16 : decode cX2_doneBy 16 = .ok (.aload_n 1, 1) := by decide +kernel
theorem dX2_doneBy_17 : decode cX2_doneBy 17 = .ok (.getfield 40, 3) := by decide +kernel
theorem dX2_doneBy_20 : decode cX2_doneBy 20 = .ok (.ishr, 1) := by decide +kernel
theorem dX2_doneBy_21 : decode cX2_doneBy 21 = .ok (.iconst 1, 1) := by decide +kernel
theorem dX2_doneBy_22 : decode cX2_doneBy 22 = .ok (.iand, 1) := by decide +kernel
theorem dX2_doneBy_23 : decode cX2_doneBy 23 = .ok (.istore 4, 2) := by decide +kernel
theorem dX2_doneBy_25 : decode cX2_doneBy 25 = .ok (.aload_n 0, 1) := by decide +kernel
theorem dX2_doneBy_26 : decode cX2_doneBy 26 = .ok (.getfield 27, 3) := by decide +kernel
theorem dX2_doneBy_29 : decode cX2_doneBy 29 = .ok (.invokevirtual 45, 3) := by decide +kernel
theorem dX2_doneBy_32 : decode cX2_doneBy 32 = .ok (.ifCond .eq 81, 3) := by decide +kernel
theorem dX2_doneBy_35 : decode cX2_doneBy 35 = .ok (.aload_n 0, 1) := by decide +kernel
theorem dX2_doneBy_36 : decode cX2_doneBy 36 = .ok (.getfield 31, 3) := by decide +kernel
theorem dX2_doneBy_39 : decode cX2_doneBy 39 = .ok (.iconst 0, 1) := by decide +kernel
theorem dX2_doneBy_40 : decode cX2_doneBy 40 = .ok (.iload_n 3, 1) := by decide +kernel
theorem dX2_doneBy_41 : decode cX2_doneBy 41 = .ok (.iastore, 1) := by decide +kernel
theorem dX2_doneBy_42 : decode cX2_doneBy 42 = .ok (.aload_n 0, 1) := by decide +kernel
theorem dX2_doneBy_43 : decode cX2_doneBy 43 = .ok (.getfield 31, 3) := by decide +kernel
theorem dX2_doneBy_46 : decode cX2_doneBy 46 = .ok (.iconst 1, 1) := by decide +kernel
theorem dX2_doneBy_47 : decode cX2_doneBy 47 = .ok (.aload_n 1, 1) := by decide +kernel
theorem dX2_doneBy_48 : decode cX2_doneBy 48 = .ok (.getfield 49, 3) := by decide +kernel
theorem dX2_doneBy_51 : decode cX2_doneBy 51 = .ok (.iload_n 2, 1) := by decide +kernel
theorem dX2_doneBy_52 : decode cX2_doneBy 52 = .ok (.iaload, 1) := by decide +kernel
theorem dX2_doneBy_53 : decode cX2_doneBy 53 = .ok (.iastore, 1) := by decide +kernel
theorem dX2_doneBy_54 : decode cX2_doneBy 54 = .ok (.aload_n 0, 1) := by decide +kernel
theorem dX2_doneBy_55 : decode cX2_doneBy 55 = .ok (.getfield 31, 3) := by decide +kernel
theorem dX2_doneBy_58 : decode cX2_doneBy 58 = .ok (.iconst 2, 1) := by decide +kernel
theorem dX2_doneBy_59 : decode cX2_doneBy 59 = .ok (.aload_n 1, 1) := by decide +kernel
theorem dX2_doneBy_60 : decode cX2_doneBy 60 = .ok (.getfield 52, 3) := by decide +kernel
theorem dX2_doneBy_63 : decode cX2_doneBy 63 = .ok (.iastore, 1) := by decide +kernel
theorem dX2_doneBy_64 : decode cX2_doneBy 64 = .ok (.aload_n 0, 1) := by decide +kernel
theorem dX2_doneBy_65 : decode cX2_doneBy 65 = .ok (.getfield 31, 3) := by decide +kernel
theorem dX2_doneBy_68 : decode cX2_doneBy 68 = .ok (.iconst 3, 1) := by decide +kernel
theorem dX2_doneBy_69 : decode cX2_doneBy 69 = .ok (.iload 4, 2) := by decide +kernel
theorem dX2_doneBy_71 : decode cX2_doneBy 71 = .ok (.iastore, 1) := by decide +kernel
theorem dX2_doneBy_72 : decode cX2_doneBy 72 = .ok (.aload_n 0, 1) := by decide +kernel
theorem dX2_doneBy_73 : decode cX2_doneBy 73 = .ok (.getfield 31, 3) := by decide +kernel
theorem dX2_doneBy_76 : decode cX2_doneBy 76 = .ok (.iconst 4, 1) := by decide +kernel
theorem dX2_doneBy_77 : decode cX2_doneBy 77 = .ok (.aload_n 1, 1) := by decide +kernel
theorem dX2_doneBy_78 : decode cX2_doneBy 78 = .ok (.getfield 55, 3) := by decide +kernel
theorem dX2_doneBy_81 : decode cX2_doneBy 81 = .ok (.iload_n 2, 1) := by decide +kernel
theorem dX2_doneBy_82 : decode cX2_doneBy 82 = .ok (.iaload, 1) := by decide +kernel
theorem dX2_doneBy_83 : decode cX2_doneBy 83 = .ok (.invokestatic 58, 3) := by decide +kernel
theorem dX2_doneBy_86 : decode cX2_doneBy 86 = .ok (.iastore, 1) := by decide +kernel
theorem dX2_doneBy_87 : decode cX2_doneBy 87 = .ok (.aload_n 0, 1) := by decide +kernel
theorem dX2_doneBy_88 : decode cX2_doneBy 88 = .ok (.getfield 31, 3) := by decide +kernel
theorem dX2_doneBy_91 : decode cX2_doneBy 91 = .ok (.iconst 5, 1) := by decide +kernel
theorem dX2_doneBy_92 : decode cX2_doneBy 92 = .ok (.aload_n 1, 1) := by decide +kernel
theorem dX2_doneBy_93 : decode cX2_doneBy 93 = .ok (.getfield 40, 3) := by decide +kernel
theorem dX2_doneBy_96 : decode cX2_doneBy 96 = .ok (.iastore, 1) := by decide +kernel
theorem dX2_doneBy_97 : decode cX2_doneBy 97 = .ok (.aload_n 0, 1) := by decide +kernel
theorem dX2_doneBy_98 : decode cX2_doneBy 98 = .ok (.getfield 27, 3) := by decide +kernel
theorem dX2_doneBy_101 : decode cX2_doneBy 101 = .ok (.aload_n 0, 1) := by decide +kernel
theorem dX2_doneBy_102 : decode cX2_doneBy 102 = .ok (.getfield 31, 3) := by decide +kernel
theorem dX2_doneBy_105 : decode cX2_doneBy 105 = .ok (.invokevirtual 64, 3) := by decide +kernel
theorem dX2_doneBy_108 : decode cX2_doneBy 108 = .ok (.istore 5, 2) := by decide +kernel
theorem dX2_doneBy_110 : decode cX2_doneBy 110 = .ok (.goto 30, 3) := by decide +kernel
theorem dX2_doneBy_113 : decode cX2_doneBy 113 = .ok (.iconst 2, 1) := by decide +kernel
theorem dX2_doneBy_114 : decode cX2_doneBy 114 = .ok (.iload_n 3, 1) := by decide +kernel
theorem dX2_doneBy_115 : decode cX2_doneBy 115 = .ok (.imul, 1) := by decide +kernel
theorem dX2_doneBy_116 : decode cX2_doneBy 116 = .ok (.iconst 3, 1) := by decide +kernel
theorem dX2_doneBy_117 : decode cX2_doneBy 117 = .ok (.iload 4, 2) := by decide +kernel
theorem dX2_doneBy_119 : decode cX2_doneBy 119 = .ok (.imul, 1) := by decide +kernel
theorem dX2_doneBy_120 : decode cX2_doneBy 120 = .ok (.iadd, 1) := by decide +kernel
theorem dX2_doneBy_121 : decode cX2_doneBy 121 = .ok (.aload_n 1, 1) := by decide +kernel
theorem dX2_doneBy_122 : decode cX2_doneBy 122 = .ok (.getfield 49, 3) := by decide +kernel
theorem dX2_doneBy_125 : decode cX2_doneBy 125 = .ok (.iload_n 2, 1) := by decide +kernel
theorem dX2_doneBy_126 : decode cX2_doneBy 126 = .ok (.iaload, 1) := by decide +kernel
theorem dX2_doneBy_127 : decode cX2_doneBy 127 = .ok (.iconst 5, 1) := by decide +kernel
theorem dX2_doneBy_128 : decode cX2_doneBy 128 = .ok (.idiv, 1) := by decide +kernel
theorem dX2_doneBy_129 : decode cX2_doneBy 129 = .ok (.iadd, 1) := by decide +kernel
theorem dX2_doneBy_130 : decode cX2_doneBy 130 = .ok (.aload_n 1, 1) := by decide +kernel
theorem dX2_doneBy_131 : decode cX2_doneBy 131 = .ok (.getfield 52, 3) := by decide +kernel
theorem dX2_doneBy_134 : decode cX2_doneBy 134 = .ok (.bipush 10, 2) := by decide +kernel
theorem dX2_doneBy_136 : decode cX2_doneBy 136 = .ok (.idiv, 1) := by decide +kernel
theorem dX2_doneBy_137 : decode cX2_doneBy 137 = .ok (.isub, 1) := by decide +kernel
theorem dX2_doneBy_138 : decode cX2_doneBy 138 = .ok (.istore 5, 2) := by decide +kernel
theorem dX2_doneBy_140 : decode cX2_doneBy 140 = .ok (.iconst 0, 1) := by decide +kernel
theorem dX2_doneBy_141 : decode cX2_doneBy 141 = .ok (.bipush 20, 2) := by decide +kernel
theorem dX2_doneBy_143 : decode cX2_doneBy 143 = .ok (.iload 5, 2) := by decide +kernel
theorem dX2_doneBy_145 : decode cX2_doneBy 145 = .ok (.invokestatic 68, 3) := by decide +kernel
theorem dX2_doneBy_148 : decode cX2_doneBy 148 = .ok (.invokestatic 74, 3) := by decide +kernel
theorem dX2_doneBy_151 : decode cX2_doneBy 151 = .ok (.ireturn, 1) := by decide +kernel
theorem dX2_owedBehind_0 : decode cX2_owedBehind 0 = .ok (.iload_n 2, 1) := by decide +kernel
theorem dX2_owedBehind_1 : decode cX2_owedBehind 1 = .ok (.iload 4, 2) := by decide +kernel
theorem dX2_owedBehind_3 : decode cX2_owedBehind 3 = .ok (.if_icmp .ne 11, 3) := by decide +kernel
theorem dX2_owedBehind_6 : decode cX2_owedBehind 6 = .ok (.iconst 0, 1) := by decide +kernel
theorem dX2_owedBehind_7 : decode cX2_owedBehind 7 = .ok (.iload_n 1, 1) := by decide +kernel
theorem dX2_owedBehind_8 : decode cX2_owedBehind 8 = .ok (.iconst 2, 1) := by decide +kernel
theorem dX2_owedBehind_9 : decode cX2_owedBehind 9 = .ok (.isub, 1) := by decide +kernel
theorem dX2_owedBehind_10 : decode cX2_owedBehind 10 = .ok (.invokestatic 74, 3) := by decide +kernel
theorem dX2_owedBehind_13 : decode cX2_owedBehind 13 = .ok (.ireturn, 1) := by decide +kernel
theorem dX2_owedBehind_14 : decode cX2_owedBehind 14 = .ok (.iload_n 3, 1) := by decide +kernel
theorem dX2_owedBehind_15 : decode cX2_owedBehind 15 = .ok (.iload 5, 2) := by decide +kernel
theorem dX2_owedBehind_17 : decode cX2_owedBehind 17 = .ok (.bipush 7, 2) := by decide +kernel
theorem dX2_owedBehind_19 : decode cX2_owedBehind 19 = .ok (.irem, 1) := by decide +kernel
theorem dX2_owedBehind_20 : decode cX2_owedBehind 20 = .ok (.ishr, 1) := by decide +kernel
theorem dX2_owedBehind_21 : decode cX2_owedBehind 21 = .ok (.iconst 1, 1) := by decide +kernel
theorem dX2_owedBehind_22 : decode cX2_owedBehind 22 = .ok (.iand, 1) := by decide +kernel
theorem dX2_owedBehind_23 : decode cX2_owedBehind 23 = .ok (.ifCond .eq 7, 3) := by decide +kernel
theorem dX2_owedBehind_26 : decode cX2_owedBehind 26 = .ok (.iconst 1, 1) := by decide +kernel
theorem dX2_owedBehind_27 : decode cX2_owedBehind 27 = .ok (.goto 4, 3) := by decide +kernel
theorem dX2_owedBehind_30 : decode cX2_owedBehind 30 = .ok (.iconst 0, 1) := by decide +kernel
theorem dX2_owedBehind_31 : decode cX2_owedBehind 31 = .ok (.istore 6, 2) := by decide +kernel
theorem dX2_owedBehind_33 : decode cX2_owedBehind 33 = .ok (.iload 6, 2) := by decide +kernel
theorem dX2_owedBehind_35 : decode cX2_owedBehind 35 = .ok (.ifCond .eq 14, 3) := by decide +kernel
theorem dX2_owedBehind_38 : decode cX2_owedBehind 38 = .ok (.bipush 99, 2) := by decide +kernel
theorem dX2_owedBehind_40 : decode cX2_owedBehind 40 = .ok (.iload_n 1, 1) := by decide +kernel
theorem dX2_owedBehind_41 : decode cX2_owedBehind 41 = .ok (.iconst 1, 1) := by decide +kernel
theorem dX2_owedBehind_42 : decode cX2_owedBehind 42 = .ok (.iadd, 1) := by decide +kernel
theorem dX2_owedBehind_43 : decode cX2_owedBehind 43 = .ok (.invokestatic 68, 3) := by decide +kernel
theorem dX2_owedBehind_46 : decode cX2_owedBehind 46 = .ok (.goto 4, 3) := by decide +kernel
theorem dX2_owedBehind_49 : decode cX2_owedBehind 49 = .ok (.iload_n 1, 1) := by decide +kernel
theorem dX2_owedBehind_50 : decode cX2_owedBehind 50 = .ok (.ireturn, 1) := by decide +kernel
theorem dX2_pass_0 : decode cX2_pass 0 = .ok (.aload_n 0, 1) := by decide +kernel
theorem dX2_pass_1 : decode cX2_pass 1 = .ok (.iload_n 2, 1) := by decide +kernel
theorem dX2_pass_2 : decode cX2_pass 2 = .ok (.invokevirtual 77, 3) := by decide +kernel
theorem dX2_pass_5 : decode cX2_pass 5 = .ok (.ifCond .eq 12, 3) := by decide +kernel
theorem dX2_pass_8 : decode cX2_pass 8 = .ok (.aload_n 0, 1) := by decide +kernel
theorem dX2_pass_9 : decode cX2_pass 9 = .ok (.aload_n 1, 1) := by decide +kernel
theorem dX2_pass_10 : decode cX2_pass 10 = .ok (.iload_n 2, 1) := by decide +kernel
theorem dX2_pass_11 : decode cX2_pass 11 = .ok (.invokevirtual 81, 3) := by decide +kernel
theorem dX2_pass_14 : decode cX2_pass 14 = .ok (.goto 4, 3) := by decide +kernel
theorem dX2_pass_17 : decode cX2_pass 17 = .ok (.iconst 0, 1) := by decide +kernel
theorem dX2_pass_18 : decode cX2_pass 18 = .ok (.istore_n 3, 1) := by decide +kernel
theorem dX2_pass_19 : decode cX2_pass 19 = .ok (.iconst 0, 1) := by decide +kernel
theorem dX2_pass_20 : decode cX2_pass 20 = .ok (.istore 4, 2) := by decide +kernel
theorem dX2_pass_22 : decode cX2_pass 22 = .ok (.iload 4, 2) := by decide +kernel
theorem dX2_pass_24 : decode cX2_pass 24 = .ok (.aload_n 0, 1) := by decide +kernel
theorem dX2_pass_25 : decode cX2_pass 25 = .ok (.getfield 34, 3) := by decide +kernel
theorem dX2_pass_28 : decode cX2_pass 28 = .ok (.if_icmp .ge 41, 3) := by decide +kernel
theorem dX2_pass_31 : decode cX2_pass 31 = .ok (.aload_n 1, 1) := by decide +kernel
theorem dX2_pass_32 : decode cX2_pass 32 = .ok (.getfield 49, 3) := by decide +kernel
theorem dX2_pass_35 : decode cX2_pass 35 = .ok (.iload 4, 2) := by decide +kernel
theorem dX2_pass_37 : decode cX2_pass 37 = .ok (.aload_n 0, 1) := by decide +kernel
theorem dX2_pass_38 : decode cX2_pass 38 = .ok (.aload_n 1, 1) := by decide +kernel
theorem dX2_pass_39 : decode cX2_pass 39 = .ok (.getfield 49, 3) := by decide +kernel
theorem dX2_pass_42 : decode cX2_pass 42 = .ok (.iload 4, 2) := by decide +kernel
theorem dX2_pass_44 : decode cX2_pass 44 = .ok (.iaload, 1) := by decide +kernel
theorem dX2_pass_45 : decode cX2_pass 45 = .ok (.iload 4, 2) := by decide +kernel
theorem dX2_pass_47 : decode cX2_pass 47 = .ok (.aload_n 0, 1) := by decide +kernel
theorem dX2_pass_48 : decode cX2_pass 48 = .ok (.getfield 9, 3) := by decide +kernel
theorem dX2_pass_51 : decode cX2_pass 51 = .ok (.iload 4, 2) := by decide +kernel
theorem dX2_pass_53 : decode cX2_pass 53 = .ok (.iaload, 1) := by decide +kernel
theorem dX2_pass_54 : decode cX2_pass 54 = .ok (.iload_n 2, 1) := by decide +kernel
theorem dX2_pass_55 : decode cX2_pass 55 = .ok (.aload_n 1, 1) := by decide +kernel
theorem dX2_pass_56 : decode cX2_pass 56 = .ok (.getfield 40, 3) := by decide +kernel
theorem dX2_pass_59 : decode cX2_pass 59 = .ok (.invokevirtual 85, 3) := by decide +kernel
theorem dX2_pass_62 : decode cX2_pass 62 = .ok (.iastore, 1) := by decide +kernel
theorem dX2_pass_63 : decode cX2_pass 63 = .ok (.iinc 4 1, 3) := by decide +kernel
theorem dX2_pass_66 : decode cX2_pass 66 = .ok (.goto (-44), 3) := by decide +kernel
theorem dX2_pass_69 : decode cX2_pass 69 = .ok (.aload_n 0, 1) := by decide +kernel
theorem dX2_pass_70 : decode cX2_pass 70 = .ok (.iload_n 2, 1) := by decide +kernel
theorem dX2_pass_71 : decode cX2_pass 71 = .ok (.invokevirtual 77, 3) := by decide +kernel
theorem dX2_pass_74 : decode cX2_pass 74 = .ok (.ifCond .eq 94, 3) := by decide +kernel
theorem dX2_pass_77 : decode cX2_pass 77 = .ok (.aload_n 0, 1) := by decide +kernel
theorem dX2_pass_78 : decode cX2_pass 78 = .ok (.getfield 18, 3) := by decide +kernel
theorem dX2_pass_81 : decode cX2_pass 81 = .ok (.aload_n 1, 1) := by decide +kernel
theorem dX2_pass_82 : decode cX2_pass 82 = .ok (.getfield 40, 3) := by decide +kernel
theorem dX2_pass_85 : decode cX2_pass 85 = .ok (.iaload, 1) := by decide +kernel
theorem dX2_pass_86 : decode cX2_pass 86 = .ok (.iconst 2, 1) := by decide +kernel
theorem dX2_pass_87 : decode cX2_pass 87 = .ok (.if_icmp .ne 23, 3) := by decide +kernel
theorem dX2_pass_90 : decode cX2_pass 90 = .ok (.aload_n 1, 1) := by decide +kernel
theorem dX2_pass_91 : decode cX2_pass 91 = .ok (.getfield 55, 3) := by decide +kernel
theorem dX2_pass_94 : decode cX2_pass 94 = .ok (.iload_n 2, 1) := by decide +kernel
theorem dX2_pass_95 : decode cX2_pass 95 = .ok (.dup2, 1) := by decide +kernel
theorem dX2_pass_96 : decode cX2_pass 96 = .ok (.iaload, 1) := by decide +kernel
theorem dX2_pass_97 : decode cX2_pass 97 = .ok (.iconst 1, 1) := by decide +kernel
theorem dX2_pass_98 : decode cX2_pass 98 = .ok (.aload_n 0, 1) := by decide +kernel
theorem dX2_pass_99 : decode cX2_pass 99 = .ok (.getfield 21, 3) := by decide +kernel
theorem dX2_pass_102 : decode cX2_pass 102 = .ok (.aload_n 1, 1) := by decide +kernel
theorem dX2_pass_103 : decode cX2_pass 103 = .ok (.getfield 40, 3) := by decide +kernel
theorem dX2_pass_106 : decode cX2_pass 106 = .ok (.iaload, 1) := by decide +kernel
theorem dX2_pass_107 : decode cX2_pass 107 = .ok (.ishl, 1) := by decide +kernel
theorem dX2_pass_108 : decode cX2_pass 108 = .ok (.ior, 1) := by decide +kernel
theorem dX2_pass_109 : decode cX2_pass 109 = .ok (.iastore, 1) := by decide +kernel
theorem dX2_pass_110 : decode cX2_pass 110 = .ok (.aload_n 1, 1) := by decide +kernel
theorem dX2_pass_111 : decode cX2_pass 111 = .ok (.bipush 99, 2) := by decide +kernel
theorem dX2_pass_113 : decode cX2_pass 113 = .ok (.aload_n 1, 1) := by decide +kernel
theorem dX2_pass_114 : decode cX2_pass 114 = .ok (.getfield 52, 3) := by decide +kernel
theorem dX2_pass_117 : decode cX2_pass 117 = .ok (.aload_n 0, 1) := by decide +kernel
theorem dX2_pass_118 : decode cX2_pass 118 = .ok (.getfield 18, 3) := by decide +kernel
theorem dX2_pass_121 : decode cX2_pass 121 = .ok (.aload_n 1, 1) := by decide +kernel
theorem dX2_pass_122 : decode cX2_pass 122 = .ok (.getfield 40, 3) := by decide +kernel
theorem dX2_pass_125 : decode cX2_pass 125 = .ok (.iaload, 1) := by decide +kernel
theorem dX2_pass_126 : decode cX2_pass 126 = .ok (.iadd, 1) := by decide +kernel
theorem dX2_pass_127 : decode cX2_pass 127 = .ok (.invokestatic 68, 3) := by decide +kernel
theorem dX2_pass_130 : decode cX2_pass 130 = .ok (.putfield 52, 3) := by decide +kernel
theorem dX2_pass_133 : decode cX2_pass 133 = .ok (.iload_n 2, 1) := by decide +kernel
theorem dX2_pass_134 : decode cX2_pass 134 = .ok (.iconst 1, 1) := by decide +kernel
theorem dX2_pass_135 : decode cX2_pass 135 = .ok (.iadd, 1) := by decide +kernel
theorem dX2_pass_136 : decode cX2_pass 136 = .ok (.aload_n 0, 1) := by decide +kernel
theorem dX2_pass_137 : decode cX2_pass 137 = .ok (.getfield 34, 3) := by decide +kernel
theorem dX2_pass_140 : decode cX2_pass 140 = .ok (.if_icmp .ge 9, 3) := by decide +kernel
theorem dX2_pass_143 : decode cX2_pass 143 = .ok (.iload_n 2, 1) := by decide +kernel
theorem dX2_pass_144 : decode cX2_pass 144 = .ok (.iconst 1, 1) := by decide +kernel
theorem dX2_pass_145 : decode cX2_pass 145 = .ok (.iadd, 1) := by decide +kernel
theorem dX2_pass_146 : decode cX2_pass 146 = .ok (.goto 4, 3) := by decide +kernel
theorem dX2_pass_149 : decode cX2_pass 149 = .ok (.iconst 0, 1) := by decide +kernel
theorem dX2_pass_150 : decode cX2_pass 150 = .ok (.istore 4, 2) := by decide +kernel
theorem dX2_pass_152 : decode cX2_pass 152 = .ok (.aload_n 1, 1) := by decide +kernel
theorem dX2_pass_153 : decode cX2_pass 153 = .ok (.getfield 55, 3) := by decide +kernel
theorem dX2_pass_156 : decode cX2_pass 156 = .ok (.iload 4, 2) := by decide +kernel
theorem dX2_pass_158 : decode cX2_pass 158 = .ok (.dup2, 1) := by decide +kernel
theorem dX2_pass_159 : decode cX2_pass 159 = .ok (.iaload, 1) := by decide +kernel
theorem dX2_pass_160 : decode cX2_pass 160 = .ok (.aload_n 1, 1) := by decide +kernel
theorem dX2_pass_161 : decode cX2_pass 161 = .ok (.getfield 55, 3) := by decide +kernel
theorem dX2_pass_164 : decode cX2_pass 164 = .ok (.iload_n 2, 1) := by decide +kernel
theorem dX2_pass_165 : decode cX2_pass 165 = .ok (.iaload, 1) := by decide +kernel
theorem dX2_pass_166 : decode cX2_pass 166 = .ok (.ior, 1) := by decide +kernel
theorem dX2_pass_167 : decode cX2_pass 167 = .ok (.iastore, 1) := by decide +kernel
theorem dX2_pass_168 : decode cX2_pass 168 = .ok (.aload_n 1, 1) := by decide +kernel
theorem dX2_pass_169 : decode cX2_pass 169 = .ok (.aload_n 1, 1) := by decide +kernel
theorem dX2_pass_170 : decode cX2_pass 170 = .ok (.getfield 40, 3) := by decide +kernel
theorem dX2_pass_173 : decode cX2_pass 173 = .ok (.iconst 1, 1) := by decide +kernel
theorem dX2_pass_174 : decode cX2_pass 174 = .ok (.iadd, 1) := by decide +kernel
theorem dX2_pass_175 : decode cX2_pass 175 = .ok (.bipush 7, 2) := by decide +kernel
theorem dX2_pass_177 : decode cX2_pass 177 = .ok (.irem, 1) := by decide +kernel
theorem dX2_pass_178 : decode cX2_pass 178 = .ok (.putfield 40, 3) := by decide +kernel
theorem dX2_pass_181 : decode cX2_pass 181 = .ok (.iload_n 3, 1) := by decide +kernel
theorem dX2_pass_182 : decode cX2_pass 182 = .ok (.ireturn, 1) := by decide +kernel
theorem dX2_daysOf_0 : decode cX2_daysOf 0 = .ok (.aload_n 1, 1) := by decide +kernel
theorem dX2_daysOf_1 : decode cX2_daysOf 1 = .ok (.getfield 89, 3) := by decide +kernel
theorem dX2_daysOf_4 : decode cX2_daysOf 4 = .ok (.bipush 28, 2) := by decide +kernel
theorem dX2_daysOf_6 : decode cX2_daysOf 6 = .ok (.invokestatic 68, 3) := by decide +kernel
theorem dX2_daysOf_9 : decode cX2_daysOf 9 = .ok (.istore_n 2, 1) := by decide +kernel
theorem dX2_daysOf_10 : decode cX2_daysOf 10 = .ok (.iconst 0, 1) := by decide +kernel
theorem dX2_daysOf_11 : decode cX2_daysOf 11 = .ok (.istore_n 3, 1) := by decide +kernel
theorem dX2_daysOf_12 : decode cX2_daysOf 12 = .ok (.iload_n 3, 1) := by decide +kernel
theorem dX2_daysOf_13 : decode cX2_daysOf 13 = .ok (.iload_n 2, 1) := by decide +kernel
theorem dX2_daysOf_14 : decode cX2_daysOf 14 = .ok (.if_icmp .ge 22, 3) := by decide +kernel
theorem dX2_daysOf_17 : decode cX2_daysOf 17 = .ok (.aload_n 0, 1) := by decide +kernel
theorem dX2_daysOf_18 : decode cX2_daysOf 18 = .ok (.aload_n 1, 1) := by decide +kernel
theorem dX2_daysOf_19 : decode cX2_daysOf 19 = .ok (.getfield 92, 3) := by decide +kernel
theorem dX2_daysOf_22 : decode cX2_daysOf 22 = .ok (.iload_n 3, 1) := by decide +kernel
theorem dX2_daysOf_23 : decode cX2_daysOf 23 = .ok (.laload, 1) := by decide +kernel
theorem dX2_daysOf_24 : decode cX2_daysOf 24 = .ok (.invokevirtual 96, 3) := by decide +kernel
theorem dX2_daysOf_27 : decode cX2_daysOf 27 = .ok (.ifCond .eq 9, 3) := by decide +kernel
theorem dX2_daysOf_30 : decode cX2_daysOf 30 = .ok (.iinc 3 1, 3) := by decide +kernel
theorem dX2_daysOf_33 : decode cX2_daysOf 33 = .ok (.goto (-21), 3) := by decide +kernel
theorem dX2_daysOf_36 : decode cX2_daysOf 36 = .ok (.iload_n 3, 1) := by decide +kernel
theorem dX2_daysOf_37 : decode cX2_daysOf 37 = .ok (.ireturn, 1) := by decide +kernel
theorem dX3_write_0 : decode cX3_write 0 = .ok (.aload_n 0, 1) := by decide +kernel
theorem dX3_write_1 : decode cX3_write 1 = .ok (.getfield 18, 3) := by decide +kernel
theorem dX3_write_4 : decode cX3_write 4 = .ok (.aload_n 0, 1) := by decide +kernel
theorem dX3_write_5 : decode cX3_write 5 = .ok (.getfield 28, 3) := by decide +kernel
theorem dX3_write_8 : decode cX3_write 8 = .ok (.iload_n 1, 1) := by decide +kernel
theorem dX3_write_9 : decode cX3_write 9 = .ok (.iastore, 1) := by decide +kernel
theorem dX3_write_10 : decode cX3_write 10 = .ok (.aload_n 0, 1) := by decide +kernel
theorem dX3_write_11 : decode cX3_write 11 = .ok (.dup, 1) := by decide +kernel
theorem dX3_write_12 : decode cX3_write 12 = .ok (.getfield 28, 3) := by decide +kernel
theorem dX3_write_15 : decode cX3_write 15 = .ok (.iconst 1, 1) := by decide +kernel
theorem dX3_write_16 : decode cX3_write 16 = .ok (.iadd, 1) := by decide +kernel
theorem dX3_write_17 : decode cX3_write 17 = .ok (.putfield 28, 3) := by decide +kernel
theorem dX3_write_20 : decode cX3_write 20 = .ok (.aload_n 0, 1) := by decide +kernel
theorem dX3_write_21 : decode cX3_write 21 = .ok (.getfield 28, 3) := by decide +kernel
theorem dX3_write_24 : decode cX3_write 24 = .ok (.ireturn, 1) := by decide +kernel
theorem dX3_addStep_0 : decode cX3_addStep 0 = .ok (.aload_n 0, 1) := by decide +kernel
theorem dX3_addStep_1 : decode cX3_addStep 1 = .ok (.getfield 21, 3) := by decide +kernel
theorem dX3_addStep_4 : decode cX3_addStep 4 = .ok (.aload_n 0, 1) := by decide +kernel
theorem dX3_addStep_5 : decode cX3_addStep 5 = .ok (.getfield 34, 3) := by decide +kernel
theorem dX3_addStep_8 : decode cX3_addStep 8 = .ok (.iload_n 1, 1) := by decide +kernel
theorem dX3_addStep_9 : decode cX3_addStep 9 = .ok (.iastore, 1) := by decide +kernel
theorem dX3_addStep_10 : decode cX3_addStep 10 = .ok (.aload_n 0, 1) := by decide +kernel
theorem dX3_addStep_11 : decode cX3_addStep 11 = .ok (.dup, 1) := by decide +kernel
theorem dX3_addStep_12 : decode cX3_addStep 12 = .ok (.getfield 34, 3) := by decide +kernel
theorem dX3_addStep_15 : decode cX3_addStep 15 = .ok (.iconst 1, 1) := by decide +kernel
theorem dX3_addStep_16 : decode cX3_addStep 16 = .ok (.iadd, 1) := by decide +kernel
theorem dX3_addStep_17 : decode cX3_addStep 17 = .ok (.putfield 34, 3) := by decide +kernel
theorem dX3_addStep_20 : decode cX3_addStep 20 = .ok (.return_, 1) := by decide +kernel
theorem dX3_sign_0 : decode cX3_sign 0 = .ok (.aload_n 0, 1) := by decide +kernel
theorem dX3_sign_1 : decode cX3_sign 1 = .ok (.getfield 31, 3) := by decide +kernel
theorem dX3_sign_4 : decode cX3_sign 4 = .ok (.aload_n 0, 1) := by decide +kernel
theorem dX3_sign_5 : decode cX3_sign 5 = .ok (.getfield 28, 3) := by decide +kernel
theorem dX3_sign_8 : decode cX3_sign 8 = .ok (.if_icmp .ge 15, 3) := by decide +kernel
theorem dX3_sign_11 : decode cX3_sign 11 = .ok (.aload_n 0, 1) := by decide +kernel
theorem dX3_sign_12 : decode cX3_sign 12 = .ok (.getfield 18, 3) := by decide +kernel
theorem dX3_sign_15 : decode cX3_sign 15 = .ok (.aload_n 0, 1) := by decide +kernel
theorem dX3_sign_16 : decode cX3_sign 16 = .ok (.getfield 31, 3) := by decide +kernel
theorem dX3_sign_19 : decode cX3_sign 19 = .ok (.iaload, 1) := by decide +kernel
theorem dX3_sign_20 : decode cX3_sign 20 = .ok (.goto 4, 3) := by decide +kernel
theorem dX3_sign_23 : decode cX3_sign 23 = .ok (.iconst (-1), 1) := by decide +kernel
theorem dX3_sign_24 : decode cX3_sign 24 = .ok (.ireturn, 1) := by decide +kernel
theorem dX3_isAccepted_0 : decode cX3_isAccepted 0 = .ok (.aload_n 0, 1) := by decide +kernel
theorem dX3_isAccepted_1 : decode cX3_isAccepted 1 = .ok (.invokevirtual 65, 3) := by decide +kernel
theorem dX3_isAccepted_4 : decode cX3_isAccepted 4 = .ok (.iload_n 1, 1) := by decide +kernel
theorem dX3_isAccepted_5 : decode cX3_isAccepted 5 = .ok (.if_icmp .eq 5, 3) := by decide +kernel
theorem dX3_isAccepted_8 : decode cX3_isAccepted 8 = .ok (.iconst 0, 1) := by decide +kernel
theorem dX3_isAccepted_9 : decode cX3_isAccepted 9 = .ok (.ireturn, 1) := by decide +kernel
theorem dX3_isAccepted_10 : decode cX3_isAccepted 10 = .ok (.aload_n 0, 1) := by decide +kernel
theorem dX3_isAccepted_11 : decode cX3_isAccepted 11 = .ok (.dup, 1) := by decide +kernel
theorem dX3_isAccepted_12 : decode cX3_isAccepted 12 = .ok (.getfield 31, 3) := by decide +kernel
theorem dX3_isAccepted_15 : decode cX3_isAccepted 15 = .ok (.iconst 1, 1) := by decide +kernel
theorem dX3_isAccepted_16 : decode cX3_isAccepted 16 = .ok (.iadd, 1) := by decide +kernel
theorem dX3_isAccepted_17 : decode cX3_isAccepted 17 = .ok (.putfield 31, 3) := by decide +kernel
theorem dX3_isAccepted_20 : decode cX3_isAccepted 20 = .ok (.iconst 1, 1) := by decide +kernel
theorem dX3_isAccepted_21 : decode cX3_isAccepted 21 = .ok (.ireturn, 1) := by decide +kernel
theorem dX3_levelOf_0 : decode cX3_levelOf 0 = .ok (.iload_n 0, 1) := by decide +kernel
theorem dX3_levelOf_1 : decode cX3_levelOf 1 = .ok (.lookupswitch 101 #[(37, 99), (38, 93), (42, 99), (43, 97), (45, 97), (47, 99), (60, 95), (61, 95), (62, 95), (124, 91)], 91) := by decide +kernel
theorem dX3_levelOf_92 : decode cX3_levelOf 92 = .ok (.iconst 0, 1) := by decide +kernel
theorem dX3_levelOf_93 : decode cX3_levelOf 93 = .ok (.ireturn, 1) := by decide +kernel
theorem dX3_levelOf_94 : decode cX3_levelOf 94 = .ok (.iconst 1, 1) := by decide +kernel
theorem dX3_levelOf_95 : decode cX3_levelOf 95 = .ok (.ireturn, 1) := by decide +kernel
theorem dX3_levelOf_96 : decode cX3_levelOf 96 = .ok (.iconst 2, 1) := by decide +kernel
theorem dX3_levelOf_97 : decode cX3_levelOf 97 = .ok (.ireturn, 1) := by decide +kernel
theorem dX3_levelOf_98 : decode cX3_levelOf 98 = .ok (.iconst 3, 1) := by decide +kernel
theorem dX3_levelOf_99 : decode cX3_levelOf 99 = .ok (.ireturn, 1) := by decide +kernel
theorem dX3_levelOf_100 : decode cX3_levelOf 100 = .ok (.iconst 4, 1) := by decide +kernel
theorem dX3_levelOf_101 : decode cX3_levelOf 101 = .ok (.ireturn, 1) := by decide +kernel
theorem dX3_levelOf_102 : decode cX3_levelOf 102 = .ok (.iconst (-1), 1) := by decide +kernel
theorem dX3_levelOf_103 : decode cX3_levelOf 103 = .ok (.ireturn, 1) := by decide +kernel
theorem dX3_isDigit_0 : decode cX3_isDigit 0 = .ok (.iload_n 0, 1) := by decide +kernel
theorem dX3_isDigit_1 : decode cX3_isDigit 1 = .ok (.bipush 48, 2) := by decide +kernel
theorem dX3_isDigit_3 : decode cX3_isDigit 3 = .ok (.if_icmp .lt 13, 3) := by decide +kernel
theorem dX3_isDigit_6 : decode cX3_isDigit 6 = .ok (.iload_n 0, 1) := by decide +kernel
theorem dX3_isDigit_7 : decode cX3_isDigit 7 = .ok (.bipush 57, 2) := by decide +kernel
theorem dX3_isDigit_9 : decode cX3_isDigit 9 = .ok (.if_icmp .gt 7, 3) := by decide +kernel
theorem dX3_isDigit_12 : decode cX3_isDigit 12 = .ok (.iconst 1, 1) := by decide +kernel
theorem dX3_isDigit_13 : decode cX3_isDigit 13 = .ok (.goto 4, 3) := by decide +kernel
theorem dX3_isDigit_16 : decode cX3_isDigit 16 = .ok (.iconst 0, 1) := by decide +kernel
theorem dX3_isDigit_17 : decode cX3_isDigit 17 = .ok (.ireturn, 1) := by decide +kernel
theorem dX3_nameOf_0 : decode cX3_nameOf 0 = .ok (.iload_n 0, 1) := by decide +kernel
theorem dX3_nameOf_1 : decode cX3_nameOf 1 = .ok (.tableswitch 107 100 119 #[105, 107, 103, 107, 107, 107, 107, 95, 107, 107, 107, 97, 107, 107, 107, 107, 107, 107, 101, 99], 95) := by decide +kernel
theorem dX3_nameOf_96 : decode cX3_nameOf 96 = .ok (.iconst 0, 1) := by decide +kernel
theorem dX3_nameOf_97 : decode cX3_nameOf 97 = .ok (.ireturn, 1) := by decide +kernel
theorem dX3_nameOf_98 : decode cX3_nameOf 98 = .ok (.iconst 1, 1) := by decide +kernel
theorem dX3_nameOf_99 : decode cX3_nameOf 99 = .ok (.ireturn, 1) := by decide +kernel
theorem dX3_nameOf_100 : decode cX3_nameOf 100 = .ok (.iconst 2, 1) := by decide +kernel
theorem dX3_nameOf_101 : decode cX3_nameOf 101 = .ok (.ireturn, 1) := by decide +kernel
theorem dX3_nameOf_102 : decode cX3_nameOf 102 = .ok (.iconst 3, 1) := by decide +kernel
theorem dX3_nameOf_103 : decode cX3_nameOf 103 = .ok (.ireturn, 1) := by decide +kernel
theorem dX3_nameOf_104 : decode cX3_nameOf 104 = .ok (.iconst 4, 1) := by decide +kernel
theorem dX3_nameOf_105 : decode cX3_nameOf 105 = .ok (.ireturn, 1) := by decide +kernel
theorem dX3_nameOf_106 : decode cX3_nameOf 106 = .ok (.iconst 5, 1) := by decide +kernel
theorem dX3_nameOf_107 : decode cX3_nameOf 107 = .ok (.ireturn, 1) := by decide +kernel
theorem dX3_nameOf_108 : decode cX3_nameOf 108 = .ok (.iconst (-1), 1) := by decide +kernel
theorem dX3_nameOf_109 : decode cX3_nameOf 109 = .ok (.ireturn, 1) := by decide +kernel
theorem dX3_readNumber_0 : decode cX3_readNumber 0 = .ok (.iconst 0, 1) := by decide +kernel
theorem dX3_readNumber_1 : decode cX3_readNumber 1 = .ok (.istore_n 1, 1) := by decide +kernel
theorem dX3_readNumber_2 : decode cX3_readNumber 2 = .ok (.iconst 0, 1) := by decide +kernel
theorem dX3_readNumber_3 : decode cX3_readNumber 3 = .ok (.istore_n 2, 1) := by decide +kernel
theorem dX3_readNumber_4 : decode cX3_readNumber 4 = .ok (.iload_n 2, 1) := by decide +kernel
theorem dX3_readNumber_5 : decode cX3_readNumber 5 = .ok (.iconst 4, 1) := by decide +kernel
theorem dX3_readNumber_6 : decode cX3_readNumber 6 = .ok (.if_icmp .ge 42, 3) := by decide +kernel
theorem dX3_readNumber_9 : decode cX3_readNumber 9 = .ok (.aload_n 0, 1) := by decide +kernel
theorem dX3_readNumber_10 : decode cX3_readNumber 10 = .ok (.invokevirtual 65, 3) := by decide +kernel
theorem dX3_readNumber_13 : decode cX3_readNumber 13 = .ok (.invokestatic 73, 3) := by decide +kernel
theorem dX3_readNumber_16 : decode cX3_readNumber 16 = .ok (.ifCond .eq 32, 3) := by decide +kernel
theorem dX3_readNumber_19 : decode cX3_readNumber 19 = .ok (.bipush 10, 2) := by decide +kernel
theorem dX3_readNumber_21 : decode cX3_readNumber 21 = .ok (.iload_n 1, 1) := by decide +kernel
theorem dX3_readNumber_22 : decode cX3_readNumber 22 = .ok (.imul, 1) := by decide +kernel
theorem dX3_readNumber_23 : decode cX3_readNumber 23 = .ok (.aload_n 0, 1) := by decide +kernel
theorem dX3_readNumber_24 : decode cX3_readNumber 24 = .ok (.invokevirtual 65, 3) := by decide +kernel
theorem dX3_readNumber_27 : decode cX3_readNumber 27 = .ok (.iadd, 1) := by decide +kernel
theorem dX3_readNumber_28 : decode cX3_readNumber 28 = .ok (.bipush 48, 2) := by decide +kernel
theorem dX3_readNumber_30 : decode cX3_readNumber 30 = .ok (.isub, 1) := by decide +kernel
theorem dX3_readNumber_31 : decode cX3_readNumber 31 = .ok (.istore_n 1, 1) := by decide +kernel
theorem dX3_readNumber_32 : decode cX3_readNumber 32 = .ok (.aload_n 0, 1) := by decide +kernel
theorem dX3_readNumber_33 : decode cX3_readNumber 33 = .ok (.dup, 1) := by decide +kernel
theorem dX3_readNumber_34 : decode cX3_readNumber 34 = .ok (.getfield 31, 3) := by decide +kernel
theorem dX3_readNumber_37 : decode cX3_readNumber 37 = .ok (.iconst 1, 1) := by decide +kernel
theorem dX3_readNumber_38 : decode cX3_readNumber 38 = .ok (.iadd, 1) := by decide +kernel
theorem dX3_readNumber_39 : decode cX3_readNumber 39 = .ok (.putfield 31, 3) := by decide +kernel
theorem dX3_readNumber_42 : decode cX3_readNumber 42 = .ok (.iinc 2 1, 3) := by decide +kernel
theorem dX3_readNumber_45 : decode cX3_readNumber 45 = .ok (.goto (-41), 3) := by decide +kernel
theorem dX3_readNumber_48 : decode cX3_readNumber 48 = .ok (.aload_n 0, 1) := by decide +kernel
theorem dX3_readNumber_49 : decode cX3_readNumber 49 = .ok (.iload_n 1, 1) := by decide +kernel
theorem dX3_readNumber_50 : decode cX3_readNumber 50 = .ok (.invokevirtual 50, 3) := by decide +kernel
theorem dX3_readNumber_53 : decode cX3_readNumber 53 = .ok (.return_, 1) := by decide +kernel
theorem dX3_readOperand_0 : decode cX3_readOperand 0 = .ok (.aload_n 0, 1) := by decide +kernel
theorem dX3_readOperand_1 : decode cX3_readOperand 1 = .ok (.invokevirtual 65, 3) := by decide +kernel
theorem dX3_readOperand_4 : decode cX3_readOperand 4 = .ok (.istore_n 2, 1) := by decide +kernel
theorem dX3_readOperand_5 : decode cX3_readOperand 5 = .ok (.iload_n 2, 1) := by decide +kernel
theorem dX3_readOperand_6 : decode cX3_readOperand 6 = .ok (.invokestatic 73, 3) := by decide +kernel
theorem dX3_readOperand_9 : decode cX3_readOperand 9 = .ok (.ifCond .eq 9, 3) := by decide +kernel
theorem dX3_readOperand_12 : decode cX3_readOperand 12 = .ok (.aload_n 0, 1) := by decide +kernel
theorem dX3_readOperand_13 : decode cX3_readOperand 13 = .ok (.invokevirtual 76, 3) := by decide +kernel
theorem dX3_readOperand_16 : decode cX3_readOperand 16 = .ok (.iconst 1, 1) := by decide +kernel
theorem dX3_readOperand_17 : decode cX3_readOperand 17 = .ok (.ireturn, 1) := by decide +kernel
theorem dX3_readOperand_18 : decode cX3_readOperand 18 = .ok (.iload_n 2, 1) := by decide +kernel
theorem dX3_readOperand_19 : decode cX3_readOperand 19 = .ok (.invokestatic 79, 3) := by decide +kernel
theorem dX3_readOperand_22 : decode cX3_readOperand 22 = .ok (.istore_n 3, 1) := by decide +kernel
theorem dX3_readOperand_23 : decode cX3_readOperand 23 = .ok (.iload_n 3, 1) := by decide +kernel
theorem dX3_readOperand_24 : decode cX3_readOperand 24 = .ok (.iconst (-1), 1) := by decide +kernel
theorem dX3_readOperand_25 : decode cX3_readOperand 25 = .ok (.if_icmp .eq 22, 3) := by decide +kernel
theorem dX3_readOperand_28 : decode cX3_readOperand 28 = .ok (.aload_n 0, 1) := by decide +kernel
theorem dX3_readOperand_29 : decode cX3_readOperand 29 = .ok (.dup, 1) := by decide +kernel
theorem dX3_readOperand_30 : decode cX3_readOperand 30 = .ok (.getfield 31, 3) := by decide +kernel
theorem dX3_readOperand_33 : decode cX3_readOperand 33 = .ok (.iconst 1, 1) := by decide +kernel
theorem dX3_readOperand_34 : decode cX3_readOperand 34 = .ok (.iadd, 1) := by decide +kernel
theorem dX3_readOperand_35 : decode cX3_readOperand 35 = .ok (.putfield 31, 3) := by decide +kernel
theorem dX3_readOperand_38 : decode cX3_readOperand 38 = .ok (.aload_n 0, 1) := by decide +kernel
theorem dX3_readOperand_39 : decode cX3_readOperand 39 = .ok (.iconst (-1), 1) := by decide +kernel
theorem dX3_readOperand_40 : decode cX3_readOperand 40 = .ok (.iload_n 3, 1) := by decide +kernel
theorem dX3_readOperand_41 : decode cX3_readOperand 41 = .ok (.isub, 1) := by decide +kernel
theorem dX3_readOperand_42 : decode cX3_readOperand 42 = .ok (.invokevirtual 50, 3) := by decide +kernel
theorem dX3_readOperand_45 : decode cX3_readOperand 45 = .ok (.iconst 1, 1) := by decide +kernel
theorem dX3_readOperand_46 : decode cX3_readOperand 46 = .ok (.ireturn, 1) := by decide +kernel
theorem dX3_readOperand_47 : decode cX3_readOperand 47 = .ok (.iload_n 2, 1) := by decide +kernel
theorem dX3_readOperand_48 : decode cX3_readOperand 48 = .ok (.bipush 40, 2) := by decide +kernel
theorem dX3_readOperand_50 : decode cX3_readOperand 50 = .ok (.if_icmp .eq 15, 3) := by decide +kernel
theorem dX3_readOperand_53 : decode cX3_readOperand 53 = .ok (.iload_n 2, 1) := by decide +kernel
theorem dX3_readOperand_54 : decode cX3_readOperand 54 = .ok (.bipush 33, 2) := by decide +kernel
theorem dX3_readOperand_56 : decode cX3_readOperand 56 = .ok (.if_icmp .eq 9, 3) := by decide +kernel
theorem dX3_readOperand_59 : decode cX3_readOperand 59 = .ok (.iload_n 2, 1) := by decide +kernel
theorem dX3_readOperand_60 : decode cX3_readOperand 60 = .ok (.bipush 45, 2) := by decide +kernel
theorem dX3_readOperand_62 : decode cX3_readOperand 62 = .ok (.if_icmp .ne 7, 3) := by decide +kernel
theorem dX3_readOperand_65 : decode cX3_readOperand 65 = .ok (.iconst 1, 1) := by decide +kernel
theorem dX3_readOperand_66 : decode cX3_readOperand 66 = .ok (.goto 4, 3) := by decide +kernel
theorem dX3_readOperand_69 : decode cX3_readOperand 69 = .ok (.iconst 0, 1) := by decide +kernel
theorem dX3_readOperand_70 : decode cX3_readOperand 70 = .ok (.istore 4, 2) := by decide +kernel
theorem dX3_readOperand_72 : decode cX3_readOperand 72 = .ok (.iload 4, 2) := by decide +kernel
theorem dX3_readOperand_74 : decode cX3_readOperand 74 = .ok (.ifCond .eq 9, 3) := by decide +kernel
theorem dX3_readOperand_77 : decode cX3_readOperand 77 = .ok (.iload_n 1, 1) := by decide +kernel
theorem dX3_readOperand_78 : decode cX3_readOperand 78 = .ok (.bipush 6, 2) := by decide +kernel
theorem dX3_readOperand_80 : decode cX3_readOperand 80 = .ok (.if_icmp .lt 5, 3) := by decide +kernel
theorem dX3_readOperand_83 : decode cX3_readOperand 83 = .ok (.iconst 0, 1) := by decide +kernel
theorem dX3_readOperand_84 : decode cX3_readOperand 84 = .ok (.ireturn, 1) := by decide +kernel
theorem dX3_readOperand_85 : decode cX3_readOperand 85 = .ok (.aload_n 0, 1) := by decide +kernel
theorem dX3_readOperand_86 : decode cX3_readOperand 86 = .ok (.dup, 1) := by decide +kernel
theorem dX3_readOperand_87 : decode cX3_readOperand 87 = .ok (.getfield 31, 3) := by decide +kernel
theorem dX3_readOperand_90 : decode cX3_readOperand 90 = .ok (.iconst 1, 1) := by decide +kernel
theorem dX3_readOperand_91 : decode cX3_readOperand 91 = .ok (.iadd, 1) := by decide +kernel
theorem dX3_readOperand_92 : decode cX3_readOperand 92 = .ok (.putfield 31, 3) := by decide +kernel
theorem dX3_readOperand_95 : decode cX3_readOperand 95 = .ok (.iload_n 2, 1) := by decide +kernel
theorem dX3_readOperand_96 : decode cX3_readOperand 96 = .ok (.bipush 40, 2) := by decide +kernel
theorem dX3_readOperand_98 : decode cX3_readOperand 98 = .ok (.if_icmp .ne 29, 3) := by decide +kernel
theorem dX3_readOperand_101 : decode cX3_readOperand 101 = .ok (.aload_n 0, 1) := by decide +kernel
theorem dX3_readOperand_102 : decode cX3_readOperand 102 = .ok (.iconst 0, 1) := by decide +kernel
theorem dX3_readOperand_103 : decode cX3_readOperand 103 = .ok (.iload_n 1, 1) := by decide +kernel
theorem dX3_readOperand_104 : decode cX3_readOperand 104 = .ok (.iconst 1, 1) := by decide +kernel
theorem dX3_readOperand_105 : decode cX3_readOperand 105 = .ok (.iadd, 1) := by decide +kernel
theorem dX3_readOperand_106 : decode cX3_readOperand 106 = .ok (.invokevirtual 58, 3) := by decide +kernel
theorem dX3_readOperand_109 : decode cX3_readOperand 109 = .ok (.ifCond .eq 16, 3) := by decide +kernel
theorem dX3_readOperand_112 : decode cX3_readOperand 112 = .ok (.aload_n 0, 1) := by decide +kernel
theorem dX3_readOperand_113 : decode cX3_readOperand 113 = .ok (.bipush 41, 2) := by decide +kernel
theorem dX3_readOperand_115 : decode cX3_readOperand 115 = .ok (.invokevirtual 54, 3) := by decide +kernel
theorem dX3_readOperand_118 : decode cX3_readOperand 118 = .ok (.ifCond .eq 7, 3) := by decide +kernel
theorem dX3_readOperand_121 : decode cX3_readOperand 121 = .ok (.iconst 1, 1) := by decide +kernel
theorem dX3_readOperand_122 : decode cX3_readOperand 122 = .ok (.goto 4, 3) := by decide +kernel
theorem dX3_readOperand_125 : decode cX3_readOperand 125 = .ok (.iconst 0, 1) := by decide +kernel
theorem dX3_readOperand_126 : decode cX3_readOperand 126 = .ok (.ireturn, 1) := by decide +kernel
theorem dX3_readOperand_127 : decode cX3_readOperand 127 = .ok (.aload_n 0, 1) := by decide +kernel
theorem dX3_readOperand_128 : decode cX3_readOperand 128 = .ok (.iload_n 1, 1) := by decide +kernel
theorem dX3_readOperand_129 : decode cX3_readOperand 129 = .ok (.iconst 1, 1) := by decide +kernel
theorem dX3_readOperand_130 : decode cX3_readOperand 130 = .ok (.iadd, 1) := by decide +kernel
theorem dX3_readOperand_131 : decode cX3_readOperand 131 = .ok (.invokevirtual 62, 3) := by decide +kernel
theorem dX3_readOperand_134 : decode cX3_readOperand 134 = .ok (.ifCond .ne 5, 3) := by decide +kernel
theorem dX3_readOperand_137 : decode cX3_readOperand 137 = .ok (.iconst 0, 1) := by decide +kernel
theorem dX3_readOperand_138 : decode cX3_readOperand 138 = .ok (.ireturn, 1) := by decide +kernel
theorem dX3_readOperand_139 : decode cX3_readOperand 139 = .ok (.aload_n 0, 1) := by decide +kernel
theorem dX3_readOperand_140 : decode cX3_readOperand 140 = .ok (.iload_n 2, 1) := by decide +kernel
theorem dX3_readOperand_141 : decode cX3_readOperand 141 = .ok (.bipush 33, 2) := by decide +kernel
theorem dX3_readOperand_143 : decode cX3_readOperand 143 = .ok (.if_icmp .ne 8, 3) := by decide +kernel
theorem dX3_readOperand_146 : decode cX3_readOperand 146 = .ok (.bipush (-33), 2) := by decide +kernel
theorem dX3_readOperand_148 : decode cX3_readOperand 148 = .ok (.goto 5, 3) := by decide +kernel
theorem dX3_readOperand_151 : decode cX3_readOperand 151 = .ok (.bipush (-126), 2) := by decide +kernel
theorem dX3_readOperand_153 : decode cX3_readOperand 153 = .ok (.invokevirtual 50, 3) := by decide +kernel
theorem dX3_readOperand_156 : decode cX3_readOperand 156 = .ok (.iconst 1, 1) := by decide +kernel
theorem dX3_readOperand_157 : decode cX3_readOperand 157 = .ok (.ireturn, 1) := by decide +kernel
theorem dX3_readChain_0 : decode cX3_readChain 0 = .ok (.iload_n 1, 1) := by decide +kernel
theorem dX3_readChain_1 : decode cX3_readChain 1 = .ok (.iconst 5, 1) := by decide +kernel
theorem dX3_readChain_2 : decode cX3_readChain 2 = .ok (.if_icmp .lt 9, 3) := by decide +kernel
theorem dX3_readChain_5 : decode cX3_readChain 5 = .ok (.aload_n 0, 1) := by decide +kernel
theorem dX3_readChain_6 : decode cX3_readChain 6 = .ok (.iload_n 2, 1) := by decide +kernel
theorem dX3_readChain_7 : decode cX3_readChain 7 = .ok (.invokevirtual 62, 3) := by decide +kernel
theorem dX3_readChain_10 : decode cX3_readChain 10 = .ok (.ireturn, 1) := by decide +kernel
theorem dX3_readChain_11 : decode cX3_readChain 11 = .ok (.aload_n 0, 1) := by decide +kernel
theorem dX3_readChain_12 : decode cX3_readChain 12 = .ok (.iload_n 1, 1) := by decide +kernel
theorem dX3_readChain_13 : decode cX3_readChain 13 = .ok (.iconst 1, 1) := by decide +kernel
theorem dX3_readChain_14 : decode cX3_readChain 14 = .ok (.iadd, 1) := by decide +kernel
theorem dX3_readChain_15 : decode cX3_readChain 15 = .ok (.iload_n 2, 1) := by decide +kernel
theorem dX3_readChain_16 : decode cX3_readChain 16 = .ok (.invokevirtual 58, 3) := by decide +kernel
theorem dX3_readChain_19 : decode cX3_readChain 19 = .ok (.ifCond .ne 5, 3) := by decide +kernel
theorem dX3_readChain_22 : decode cX3_readChain 22 = .ok (.iconst 0, 1) := by decide +kernel
theorem dX3_readChain_23 : decode cX3_readChain 23 = .ok (.ireturn, 1) := by decide +kernel
theorem dX3_readChain_24 : decode cX3_readChain 24 = .ok (.iconst 0, 1) := by decide +kernel
theorem dX3_readChain_25 : decode cX3_readChain 25 = .ok (.istore_n 3, 1) := by decide +kernel
theorem dX3_readChain_26 : decode cX3_readChain 26 = .ok (.iload_n 3, 1) := by decide +kernel
theorem dX3_readChain_27 : decode cX3_readChain 27 = .ok (.aload_n 0, 1) := by decide +kernel
theorem dX3_readChain_28 : decode cX3_readChain 28 = .ok (.getfield 28, 3) := by decide +kernel
theorem dX3_readChain_31 : decode cX3_readChain 31 = .ok (.if_icmp .ge 63, 3) := by decide +kernel
theorem dX3_readChain_34 : decode cX3_readChain 34 = .ok (.aload_n 0, 1) := by decide +kernel
theorem dX3_readChain_35 : decode cX3_readChain 35 = .ok (.invokevirtual 65, 3) := by decide +kernel
theorem dX3_readChain_38 : decode cX3_readChain 38 = .ok (.invokestatic 69, 3) := by decide +kernel
theorem dX3_readChain_41 : decode cX3_readChain 41 = .ok (.iload_n 1, 1) := by decide +kernel
theorem dX3_readChain_42 : decode cX3_readChain 42 = .ok (.if_icmp .ne 52, 3) := by decide +kernel
theorem dX3_readChain_45 : decode cX3_readChain 45 = .ok (.aload_n 0, 1) := by decide +kernel
theorem dX3_readChain_46 : decode cX3_readChain 46 = .ok (.invokevirtual 65, 3) := by decide +kernel
theorem dX3_readChain_49 : decode cX3_readChain 49 = .ok (.istore 4, 2) := by decide +kernel
theorem dX3_readChain_51 : decode cX3_readChain 51 = .ok (.aload_n 0, 1) := by decide +kernel
theorem dX3_readChain_52 : decode cX3_readChain 52 = .ok (.dup, 1) := by decide +kernel
theorem dX3_readChain_53 : decode cX3_readChain 53 = .ok (.getfield 31, 3) := by decide +kernel
theorem dX3_readChain_56 : decode cX3_readChain 56 = .ok (.iconst 1, 1) := by decide +kernel
theorem dX3_readChain_57 : decode cX3_readChain 57 = .ok (.iadd, 1) := by decide +kernel
theorem dX3_readChain_58 : decode cX3_readChain 58 = .ok (.putfield 31, 3) := by decide +kernel
theorem dX3_readChain_61 : decode cX3_readChain 61 = .ok (.aload_n 0, 1) := by decide +kernel
theorem dX3_readChain_62 : decode cX3_readChain 62 = .ok (.iload_n 1, 1) := by decide +kernel
theorem dX3_readChain_63 : decode cX3_readChain 63 = .ok (.iconst 1, 1) := by decide +kernel
theorem dX3_readChain_64 : decode cX3_readChain 64 = .ok (.iadd, 1) := by decide +kernel
theorem dX3_readChain_65 : decode cX3_readChain 65 = .ok (.iload_n 2, 1) := by decide +kernel
theorem dX3_readChain_66 : decode cX3_readChain 66 = .ok (.invokevirtual 58, 3) := by decide +kernel
theorem dX3_readChain_69 : decode cX3_readChain 69 = .ok (.ifCond .ne 5, 3) := by decide +kernel
theorem dX3_readChain_72 : decode cX3_readChain 72 = .ok (.iconst 0, 1) := by decide +kernel
theorem dX3_readChain_73 : decode cX3_readChain 73 = .ok (.ireturn, 1) := by decide +kernel
theorem dX3_readChain_74 : decode cX3_readChain 74 = .ok (.aload_n 0, 1) := by decide +kernel
theorem dX3_readChain_75 : decode cX3_readChain 75 = .ok (.iload 4, 2) := by decide +kernel
theorem dX3_readChain_77 : decode cX3_readChain 77 = .ok (.ineg, 1) := by decide +kernel
theorem dX3_readChain_78 : decode cX3_readChain 78 = .ok (.invokevirtual 50, 3) := by decide +kernel
theorem dX3_readChain_81 : decode cX3_readChain 81 = .ok (.iload_n 1, 1) := by decide +kernel
theorem dX3_readChain_82 : decode cX3_readChain 82 = .ok (.iconst 2, 1) := by decide +kernel
theorem dX3_readChain_83 : decode cX3_readChain 83 = .ok (.if_icmp .ne 5, 3) := by decide +kernel
theorem dX3_readChain_86 : decode cX3_readChain 86 = .ok (.iconst 1, 1) := by decide +kernel
theorem dX3_readChain_87 : decode cX3_readChain 87 = .ok (.ireturn, 1) := by decide +kernel
theorem dX3_readChain_88 : decode cX3_readChain 88 = .ok (.iinc 3 1, 3) := by decide +kernel
theorem dX3_readChain_91 : decode cX3_readChain 91 = .ok (.goto (-65), 3) := by decide +kernel
theorem dX3_readChain_94 : decode cX3_readChain 94 = .ok (.iconst 1, 1) := by decide +kernel
theorem dX3_readChain_95 : decode cX3_readChain 95 = .ok (.ireturn, 1) := by decide +kernel
theorem dX3_readLine_0 : decode cX3_readLine 0 = .ok (.aload_n 0, 1) := by decide +kernel
theorem dX3_readLine_1 : decode cX3_readLine 1 = .ok (.iconst 0, 1) := by decide +kernel
theorem dX3_readLine_2 : decode cX3_readLine 2 = .ok (.iconst 0, 1) := by decide +kernel
theorem dX3_readLine_3 : decode cX3_readLine 3 = .ok (.invokevirtual 58, 3) := by decide +kernel
theorem dX3_readLine_6 : decode cX3_readLine 6 = .ok (.ifCond .ne 5, 3) := by decide +kernel
theorem dX3_readLine_9 : decode cX3_readLine 9 = .ok (.iconst 0, 1) := by decide +kernel
theorem dX3_readLine_10 : decode cX3_readLine 10 = .ok (.ireturn, 1) := by decide +kernel
theorem dX3_readLine_11 : decode cX3_readLine 11 = .ok (.aload_n 0, 1) := by decide +kernel
theorem dX3_readLine_12 : decode cX3_readLine 12 = .ok (.bipush 63, 2) := by decide +kernel
theorem dX3_readLine_14 : decode cX3_readLine 14 = .ok (.invokevirtual 54, 3) := by decide +kernel
theorem dX3_readLine_17 : decode cX3_readLine 17 = .ok (.ifCond .ne 5, 3) := by decide +kernel
theorem dX3_readLine_20 : decode cX3_readLine 20 = .ok (.iconst 1, 1) := by decide +kernel
theorem dX3_readLine_21 : decode cX3_readLine 21 = .ok (.ireturn, 1) := by decide +kernel
theorem dX3_readLine_22 : decode cX3_readLine 22 = .ok (.aload_n 0, 1) := by decide +kernel
theorem dX3_readLine_23 : decode cX3_readLine 23 = .ok (.bipush (-63), 2) := by decide +kernel
theorem dX3_readLine_25 : decode cX3_readLine 25 = .ok (.invokevirtual 50, 3) := by decide +kernel
theorem dX3_readLine_28 : decode cX3_readLine 28 = .ok (.aload_n 0, 1) := by decide +kernel
theorem dX3_readLine_29 : decode cX3_readLine 29 = .ok (.iconst 0, 1) := by decide +kernel
theorem dX3_readLine_30 : decode cX3_readLine 30 = .ok (.iconst 0, 1) := by decide +kernel
theorem dX3_readLine_31 : decode cX3_readLine 31 = .ok (.invokevirtual 58, 3) := by decide +kernel
theorem dX3_readLine_34 : decode cX3_readLine 34 = .ok (.ireturn, 1) := by decide +kernel
theorem dX3_readLines_0 : decode cX3_readLines 0 = .ok (.iconst 0, 1) := by decide +kernel
theorem dX3_readLines_1 : decode cX3_readLines 1 = .ok (.istore_n 1, 1) := by decide +kernel
theorem dX3_readLines_2 : decode cX3_readLines 2 = .ok (.iload_n 1, 1) := by decide +kernel
theorem dX3_readLines_3 : decode cX3_readLines 3 = .ok (.aload_n 0, 1) := by decide +kernel
theorem dX3_readLines_4 : decode cX3_readLines 4 = .ok (.getfield 28, 3) := by decide +kernel
theorem dX3_readLines_7 : decode cX3_readLines 7 = .ok (.if_icmp .gt 48, 3) := by decide +kernel
theorem dX3_readLines_10 : decode cX3_readLines 10 = .ok (.aload_n 0, 1) := by decide +kernel
theorem dX3_readLines_11 : decode cX3_readLines 11 = .ok (.invokevirtual 47, 3) := by decide +kernel
theorem dX3_readLines_14 : decode cX3_readLines 14 = .ok (.ifCond .ne 5, 3) := by decide +kernel
theorem dX3_readLines_17 : decode cX3_readLines 17 = .ok (.iconst 0, 1) := by decide +kernel
theorem dX3_readLines_18 : decode cX3_readLines 18 = .ok (.ireturn, 1) := by decide +kernel
theorem dX3_readLines_19 : decode cX3_readLines 19 = .ok (.aload_n 0, 1) := by decide +kernel
theorem dX3_readLines_20 : decode cX3_readLines 20 = .ok (.bipush (-59), 2) := by decide +kernel
theorem dX3_readLines_22 : decode cX3_readLines 22 = .ok (.invokevirtual 50, 3) := by decide +kernel
theorem dX3_readLines_25 : decode cX3_readLines 25 = .ok (.aload_n 0, 1) := by decide +kernel
theorem dX3_readLines_26 : decode cX3_readLines 26 = .ok (.getfield 31, 3) := by decide +kernel
theorem dX3_readLines_29 : decode cX3_readLines 29 = .ok (.aload_n 0, 1) := by decide +kernel
theorem dX3_readLines_30 : decode cX3_readLines 30 = .ok (.getfield 28, 3) := by decide +kernel
theorem dX3_readLines_33 : decode cX3_readLines 33 = .ok (.if_icmp .ne 5, 3) := by decide +kernel
theorem dX3_readLines_36 : decode cX3_readLines 36 = .ok (.iconst 1, 1) := by decide +kernel
theorem dX3_readLines_37 : decode cX3_readLines 37 = .ok (.ireturn, 1) := by decide +kernel
theorem dX3_readLines_38 : decode cX3_readLines 38 = .ok (.aload_n 0, 1) := by decide +kernel
theorem dX3_readLines_39 : decode cX3_readLines 39 = .ok (.bipush 59, 2) := by decide +kernel
theorem dX3_readLines_41 : decode cX3_readLines 41 = .ok (.invokevirtual 54, 3) := by decide +kernel
theorem dX3_readLines_44 : decode cX3_readLines 44 = .ok (.ifCond .ne 5, 3) := by decide +kernel
theorem dX3_readLines_47 : decode cX3_readLines 47 = .ok (.iconst 0, 1) := by decide +kernel
theorem dX3_readLines_48 : decode cX3_readLines 48 = .ok (.ireturn, 1) := by decide +kernel
theorem dX3_readLines_49 : decode cX3_readLines 49 = .ok (.iinc 1 1, 3) := by decide +kernel
theorem dX3_readLines_52 : decode cX3_readLines 52 = .ok (.goto (-50), 3) := by decide +kernel
theorem dX3_readLines_55 : decode cX3_readLines 55 = .ok (.iconst 0, 1) := by decide +kernel
theorem dX3_readLines_56 : decode cX3_readLines 56 = .ok (.ireturn, 1) := by decide +kernel
theorem dX3_read_0 : decode cX3_read 0 = .ok (.aload_n 0, 1) := by decide +kernel
theorem dX3_read_1 : decode cX3_read 1 = .ok (.iconst 0, 1) := by decide +kernel
theorem dX3_read_2 : decode cX3_read 2 = .ok (.putfield 31, 3) := by decide +kernel
theorem dX3_read_5 : decode cX3_read 5 = .ok (.aload_n 0, 1) := by decide +kernel
theorem dX3_read_6 : decode cX3_read 6 = .ok (.iconst 0, 1) := by decide +kernel
theorem dX3_read_7 : decode cX3_read 7 = .ok (.putfield 34, 3) := by decide +kernel
theorem dX3_read_10 : decode cX3_read 10 = .ok (.aload_n 0, 1) := by decide +kernel
theorem dX3_read_11 : decode cX3_read 11 = .ok (.invokevirtual 37, 3) := by decide +kernel
theorem dX3_read_14 : decode cX3_read 14 = .ok (.istore_n 1, 1) := by decide +kernel
theorem dX3_read_15 : decode cX3_read 15 = .ok (.aload_n 0, 1) := by decide +kernel
theorem dX3_read_16 : decode cX3_read 16 = .ok (.iconst 0, 1) := by decide +kernel
theorem dX3_read_17 : decode cX3_read 17 = .ok (.putfield 28, 3) := by decide +kernel
theorem dX3_read_20 : decode cX3_read 20 = .ok (.iload_n 1, 1) := by decide +kernel
theorem dX3_read_21 : decode cX3_read 21 = .ok (.ifCond .ne 8, 3) := by decide +kernel
theorem dX3_read_24 : decode cX3_read 24 = .ok (.aload_n 0, 1) := by decide +kernel
theorem dX3_read_25 : decode cX3_read 25 = .ok (.getfield 31, 3) := by decide +kernel
theorem dX3_read_28 : decode cX3_read 28 = .ok (.ireturn, 1) := by decide +kernel
theorem dX3_read_29 : decode cX3_read 29 = .ok (.aload_n 0, 1) := by decide +kernel
theorem dX3_read_30 : decode cX3_read 30 = .ok (.getfield 21, 3) := by decide +kernel
theorem dX3_read_33 : decode cX3_read 33 = .ok (.iconst 0, 1) := by decide +kernel
theorem dX3_read_34 : decode cX3_read 34 = .ok (.aload_n 0, 1) := by decide +kernel
theorem dX3_read_35 : decode cX3_read 35 = .ok (.getfield 11, 3) := by decide +kernel
theorem dX3_read_38 : decode cX3_read 38 = .ok (.iconst 0, 1) := by decide +kernel
theorem dX3_read_39 : decode cX3_read 39 = .ok (.aload_n 0, 1) := by decide +kernel
theorem dX3_read_40 : decode cX3_read 40 = .ok (.getfield 34, 3) := by decide +kernel
theorem dX3_read_43 : decode cX3_read 43 = .ok (.invokestatic 41, 3) := by decide +kernel
theorem dX3_read_46 : decode cX3_read 46 = .ok (.aload_n 0, 1) := by decide +kernel
theorem dX3_read_47 : decode cX3_read 47 = .ok (.aload_n 0, 1) := by decide +kernel
theorem dX3_read_48 : decode cX3_read 48 = .ok (.getfield 34, 3) := by decide +kernel
theorem dX3_read_51 : decode cX3_read 51 = .ok (.putfield 24, 3) := by decide +kernel
theorem dX3_read_54 : decode cX3_read 54 = .ok (.iconst (-1), 1) := by decide +kernel
theorem dX3_read_55 : decode cX3_read 55 = .ok (.ireturn, 1) := by decide +kernel
theorem dX4_becomeRow_0 : decode cX4_becomeRow 0 = .ok (.aload_n 0, 1) := by decide +kernel
theorem dX4_becomeRow_1 : decode cX4_becomeRow 1 = .ok (.iload_n 1, 1) := by decide +kernel
theorem dX4_becomeRow_2 : decode cX4_becomeRow 2 = .ok (.putfield 11, 3) := by decide +kernel
theorem dX4_becomeRow_5 : decode cX4_becomeRow 5 = .ok (.aload_n 0, 1) := by decide +kernel
theorem dX4_becomeRow_6 : decode cX4_becomeRow 6 = .ok (.iload_n 2, 1) := by decide +kernel
theorem dX4_becomeRow_7 : decode cX4_becomeRow 7 = .ok (.putfield 19, 3) := by decide +kernel
theorem dX4_becomeRow_10 : decode cX4_becomeRow 10 = .ok (.iconst 0, 1) := by decide +kernel
theorem dX4_becomeRow_11 : decode cX4_becomeRow 11 = .ok (.istore_n 3, 1) := by decide +kernel
theorem dX4_becomeRow_12 : decode cX4_becomeRow 12 = .ok (.iload_n 3, 1) := by decide +kernel
theorem dX4_becomeRow_13 : decode cX4_becomeRow 13 = .ok (.iload_n 2, 1) := by decide +kernel
theorem dX4_becomeRow_14 : decode cX4_becomeRow 14 = .ok (.if_icmp .ge 16, 3) := by decide +kernel
theorem dX4_becomeRow_17 : decode cX4_becomeRow 17 = .ok (.aload_n 0, 1) := by decide +kernel
theorem dX4_becomeRow_18 : decode cX4_becomeRow 18 = .ok (.getfield 15, 3) := by decide +kernel
theorem dX4_becomeRow_21 : decode cX4_becomeRow 21 = .ok (.iload_n 3, 1) := by decide +kernel
theorem dX4_becomeRow_22 : decode cX4_becomeRow 22 = .ok (.lconst 0, 1) := by decide +kernel
theorem dX4_becomeRow_23 : decode cX4_becomeRow 23 = .ok (.lastore, 1) := by decide +kernel
theorem dX4_becomeRow_24 : decode cX4_becomeRow 24 = .ok (.iinc 3 1, 3) := by decide +kernel
theorem dX4_becomeRow_27 : decode cX4_becomeRow 27 = .ok (.goto (-15), 3) := by decide +kernel
theorem dX4_becomeRow_30 : decode cX4_becomeRow 30 = .ok (.return_, 1) := by decide +kernel
theorem dX4_refusalFor_0 : decode cX4_refusalFor 0 = .ok (.aload_n 0, 1) := by decide +kernel
theorem dX4_refusalFor_1 : decode cX4_refusalFor 1 = .ok (.getfield 11, 3) := by decide +kernel
theorem dX4_refusalFor_4 : decode cX4_refusalFor 4 = .ok (.bipush (-2), 2) := by decide +kernel
theorem dX4_refusalFor_6 : decode cX4_refusalFor 6 = .ok (.if_icmp .ne 6, 3) := by decide +kernel
theorem dX4_refusalFor_9 : decode cX4_refusalFor 9 = .ok (.bipush (-11), 2) := by decide +kernel
theorem dX4_refusalFor_11 : decode cX4_refusalFor 11 = .ok (.ireturn, 1) := by decide +kernel
theorem dX4_refusalFor_12 : decode cX4_refusalFor 12 = .ok (.aload_n 0, 1) := by decide +kernel
theorem dX4_refusalFor_13 : decode cX4_refusalFor 13 = .ok (.getfield 11, 3) := by decide +kernel
theorem dX4_refusalFor_16 : decode cX4_refusalFor 16 = .ok (.iload_n 1, 1) := by decide +kernel
theorem dX4_refusalFor_17 : decode cX4_refusalFor 17 = .ok (.if_icmp .ne 7, 3) := by decide +kernel
theorem dX4_refusalFor_20 : decode cX4_refusalFor 20 = .ok (.iconst 0, 1) := by decide +kernel
theorem dX4_refusalFor_21 : decode cX4_refusalFor 21 = .ok (.goto 5, 3) := by decide +kernel
theorem dX4_refusalFor_24 : decode cX4_refusalFor 24 = .ok (.bipush (-12), 2) := by decide +kernel
theorem dX4_refusalFor_26 : decode cX4_refusalFor 26 = .ok (.ireturn, 1) := by decide +kernel
theorem dX4_hasPlaces_0 : decode cX4_hasPlaces 0 = .ok (.iload_n 1, 1) := by decide +kernel
theorem dX4_hasPlaces_1 : decode cX4_hasPlaces 1 = .ok (.ifCond .lt 21, 3) := by decide +kernel
theorem dX4_hasPlaces_4 : decode cX4_hasPlaces 4 = .ok (.iload_n 2, 1) := by decide +kernel
theorem dX4_hasPlaces_5 : decode cX4_hasPlaces 5 = .ok (.ifCond .lt 17, 3) := by decide +kernel
theorem dX4_hasPlaces_8 : decode cX4_hasPlaces 8 = .ok (.iload_n 1, 1) := by decide +kernel
theorem dX4_hasPlaces_9 : decode cX4_hasPlaces 9 = .ok (.aload_n 0, 1) := by decide +kernel
theorem dX4_hasPlaces_10 : decode cX4_hasPlaces 10 = .ok (.getfield 19, 3) := by decide +kernel
theorem dX4_hasPlaces_13 : decode cX4_hasPlaces 13 = .ok (.iload_n 2, 1) := by decide +kernel
theorem dX4_hasPlaces_14 : decode cX4_hasPlaces 14 = .ok (.isub, 1) := by decide +kernel
theorem dX4_hasPlaces_15 : decode cX4_hasPlaces 15 = .ok (.if_icmp .gt 7, 3) := by decide +kernel
theorem dX4_hasPlaces_18 : decode cX4_hasPlaces 18 = .ok (.iconst 1, 1) := by decide +kernel
theorem dX4_hasPlaces_19 : decode cX4_hasPlaces 19 = .ok (.goto 4, 3) := by decide +kernel
theorem dX4_hasPlaces_22 : decode cX4_hasPlaces 22 = .ok (.iconst 0, 1) := by decide +kernel
theorem dX4_hasPlaces_23 : decode cX4_hasPlaces 23 = .ok (.ireturn, 1) := by decide +kernel
theorem dX4_cut_0 : decode cX4_cut 0 = .ok (.aload_n 0, 1) := by decide +kernel
theorem dX4_cut_1 : decode cX4_cut 1 = .ok (.getfield 11, 3) := by decide +kernel
theorem dX4_cut_4 : decode cX4_cut 4 = .ok (.tableswitch 48 0 3 #[32, 37, 42, 46], 32) := by decide +kernel
theorem dX4_cut_36 : decode cX4_cut 36 = .ok (.lload_n 1, 1) := by decide +kernel
theorem dX4_cut_37 : decode cX4_cut 37 = .ok (.l2i, 1) := by decide +kernel
theorem dX4_cut_38 : decode cX4_cut 38 = .ok (.i2b, 1) := by decide +kernel
theorem dX4_cut_39 : decode cX4_cut 39 = .ok (.i2l, 1) := by decide +kernel
theorem dX4_cut_40 : decode cX4_cut 40 = .ok (.lreturn, 1) := by decide +kernel
theorem dX4_cut_41 : decode cX4_cut 41 = .ok (.lload_n 1, 1) := by decide +kernel
theorem dX4_cut_42 : decode cX4_cut 42 = .ok (.l2i, 1) := by decide +kernel
theorem dX4_cut_43 : decode cX4_cut 43 = .ok (.i2s, 1) := by decide +kernel
theorem dX4_cut_44 : decode cX4_cut 44 = .ok (.i2l, 1) := by decide +kernel
theorem dX4_cut_45 : decode cX4_cut 45 = .ok (.lreturn, 1) := by decide +kernel
theorem dX4_cut_46 : decode cX4_cut 46 = .ok (.lload_n 1, 1) := by decide +kernel
theorem dX4_cut_47 : decode cX4_cut 47 = .ok (.l2i, 1) := by decide +kernel
theorem dX4_cut_48 : decode cX4_cut 48 = .ok (.i2l, 1) := by decide +kernel
theorem dX4_cut_49 : decode cX4_cut 49 = .ok (.lreturn, 1) := by decide +kernel
theorem dX4_cut_50 : decode cX4_cut 50 = .ok (.lload_n 1, 1) := by decide +kernel
theorem dX4_cut_51 : decode cX4_cut 51 = .ok (.lreturn, 1) := by decide +kernel
theorem dX4_cut_52 : decode cX4_cut 52 = .ok (.lload_n 1, 1) := by decide +kernel
theorem dX4_cut_53 : decode cX4_cut 53 = .ok (.lconst 0, 1) := by decide +kernel
theorem dX4_cut_54 : decode cX4_cut 54 = .ok (.lcmp, 1) := by decide +kernel
theorem dX4_cut_55 : decode cX4_cut 55 = .ok (.ifCond .eq 7, 3) := by decide +kernel
theorem dX4_cut_58 : decode cX4_cut 58 = .ok (.lconst 1, 1) := by decide +kernel
theorem dX4_cut_59 : decode cX4_cut 59 = .ok (.goto 4, 3) := by decide +kernel
theorem dX4_cut_62 : decode cX4_cut 62 = .ok (.lconst 0, 1) := by decide +kernel
theorem dX4_cut_63 : decode cX4_cut 63 = .ok (.lreturn, 1) := by decide +kernel
theorem dX5_copyFrom_0 : decode cX5_copyFrom 0 = .ok (.aload_n 1, 1) := by decide +kernel
theorem dX5_copyFrom_1 : decode cX5_copyFrom 1 = .ok (.getfield 9, 3) := by decide +kernel
theorem dX5_copyFrom_4 : decode cX5_copyFrom 4 = .ok (.iconst 0, 1) := by decide +kernel
theorem dX5_copyFrom_5 : decode cX5_copyFrom 5 = .ok (.aload_n 0, 1) := by decide +kernel
theorem dX5_copyFrom_6 : decode cX5_copyFrom 6 = .ok (.getfield 9, 3) := by decide +kernel
theorem dX5_copyFrom_9 : decode cX5_copyFrom 9 = .ok (.iconst 0, 1) := by decide +kernel
theorem dX5_copyFrom_10 : decode cX5_copyFrom 10 = .ok (.iload_n 2, 1) := by decide +kernel
theorem dX5_copyFrom_11 : decode cX5_copyFrom 11 = .ok (.invokestatic 18, 3) := by decide +kernel
theorem dX5_copyFrom_14 : decode cX5_copyFrom 14 = .ok (.aload_n 1, 1) := by decide +kernel
theorem dX5_copyFrom_15 : decode cX5_copyFrom 15 = .ok (.getfield 15, 3) := by decide +kernel
theorem dX5_copyFrom_18 : decode cX5_copyFrom 18 = .ok (.iconst 0, 1) := by decide +kernel
theorem dX5_copyFrom_19 : decode cX5_copyFrom 19 = .ok (.aload_n 0, 1) := by decide +kernel
theorem dX5_copyFrom_20 : decode cX5_copyFrom 20 = .ok (.getfield 15, 3) := by decide +kernel
theorem dX5_copyFrom_23 : decode cX5_copyFrom 23 = .ok (.iconst 0, 1) := by decide +kernel
theorem dX5_copyFrom_24 : decode cX5_copyFrom 24 = .ok (.iload_n 2, 1) := by decide +kernel
theorem dX5_copyFrom_25 : decode cX5_copyFrom 25 = .ok (.invokestatic 18, 3) := by decide +kernel
theorem dX5_copyFrom_28 : decode cX5_copyFrom 28 = .ok (.aload_n 0, 1) := by decide +kernel
theorem dX5_copyFrom_29 : decode cX5_copyFrom 29 = .ok (.aload_n 1, 1) := by decide +kernel
theorem dX5_copyFrom_30 : decode cX5_copyFrom 30 = .ok (.getfield 24, 3) := by decide +kernel
theorem dX5_copyFrom_33 : decode cX5_copyFrom 33 = .ok (.putfield 24, 3) := by decide +kernel
theorem dX5_copyFrom_36 : decode cX5_copyFrom 36 = .ok (.aload_n 0, 1) := by decide +kernel
theorem dX5_copyFrom_37 : decode cX5_copyFrom 37 = .ok (.aload_n 1, 1) := by decide +kernel
theorem dX5_copyFrom_38 : decode cX5_copyFrom 38 = .ok (.getfield 28, 3) := by decide +kernel
theorem dX5_copyFrom_41 : decode cX5_copyFrom 41 = .ok (.putfield 28, 3) := by decide +kernel
theorem dX5_copyFrom_44 : decode cX5_copyFrom 44 = .ok (.return_, 1) := by decide +kernel
theorem dX5_owedOfAll_0 : decode cX5_owedOfAll 0 = .ok (.iconst 0, 1) := by decide +kernel
theorem dX5_owedOfAll_1 : decode cX5_owedOfAll 1 = .ok (.istore_n 2, 1) := by decide +kernel
theorem dX5_owedOfAll_2 : decode cX5_owedOfAll 2 = .ok (.iconst 0, 1) := by decide +kernel
theorem dX5_owedOfAll_3 : decode cX5_owedOfAll 3 = .ok (.istore_n 3, 1) := by decide +kernel
theorem dX5_owedOfAll_4 : decode cX5_owedOfAll 4 = .ok (.iload_n 3, 1) := by decide +kernel
theorem dX5_owedOfAll_5 : decode cX5_owedOfAll 5 = .ok (.iload_n 1, 1) := by decide +kernel
theorem dX5_owedOfAll_6 : decode cX5_owedOfAll 6 = .ok (.if_icmp .ge 18, 3) := by decide +kernel
theorem dX5_owedOfAll_9 : decode cX5_owedOfAll 9 = .ok (.iload_n 2, 1) := by decide +kernel
theorem dX5_owedOfAll_10 : decode cX5_owedOfAll 10 = .ok (.aload_n 0, 1) := by decide +kernel
theorem dX5_owedOfAll_11 : decode cX5_owedOfAll 11 = .ok (.getfield 9, 3) := by decide +kernel
theorem dX5_owedOfAll_14 : decode cX5_owedOfAll 14 = .ok (.iload_n 3, 1) := by decide +kernel
theorem dX5_owedOfAll_15 : decode cX5_owedOfAll 15 = .ok (.iaload, 1) := by decide +kernel
theorem dX5_owedOfAll_16 : decode cX5_owedOfAll 16 = .ok (.iadd, 1) := by decide +kernel
theorem dX5_owedOfAll_17 : decode cX5_owedOfAll 17 = .ok (.istore_n 2, 1) := by decide +kernel
theorem dX5_owedOfAll_18 : decode cX5_owedOfAll 18 = .ok (.iinc 3 1, 3) := by decide +kernel
theorem dX5_owedOfAll_21 : decode cX5_owedOfAll 21 = .ok (.goto (-17), 3) := by decide +kernel
theorem dX5_owedOfAll_24 : decode cX5_owedOfAll 24 = .ok (.iload_n 2, 1) := by decide +kernel
theorem dX5_owedOfAll_25 : decode cX5_owedOfAll 25 = .ok (.ireturn, 1) := by decide +kernel
theorem dX6_latest_0 : decode cX6_latest 0 = .ok (.aload_n 0, 1) := by decide +kernel
theorem dX6_latest_1 : decode cX6_latest 1 = .ok (.getfield 17, 3) := by decide +kernel
theorem dX6_latest_4 : decode cX6_latest 4 = .ok (.iconst 0, 1) := by decide +kernel
theorem dX6_latest_5 : decode cX6_latest 5 = .ok (.aaload, 1) := by decide +kernel
theorem dX6_latest_6 : decode cX6_latest 6 = .ok (.areturn, 1) := by decide +kernel
theorem dX6_follow_0 : decode cX6_follow 0 = .ok (.aload_n 0, 1) := by decide +kernel
theorem dX6_follow_1 : decode cX6_follow 1 = .ok (.getfield 17, 3) := by decide +kernel
theorem dX6_follow_4 : decode cX6_follow 4 = .ok (.iconst 0, 1) := by decide +kernel
theorem dX6_follow_5 : decode cX6_follow 5 = .ok (.aaload, 1) := by decide +kernel
theorem dX6_follow_6 : decode cX6_follow 6 = .ok (.aload_n 1, 1) := by decide +kernel
theorem dX6_follow_7 : decode cX6_follow 7 = .ok (.aload_n 0, 1) := by decide +kernel
theorem dX6_follow_8 : decode cX6_follow 8 = .ok (.getfield 30, 3) := by decide +kernel
theorem dX6_follow_11 : decode cX6_follow 11 = .ok (.getfield 35, 3) := by decide +kernel
theorem dX6_follow_14 : decode cX6_follow 14 = .ok (.invokevirtual 41, 3) := by decide +kernel
theorem dX6_follow_17 : decode cX6_follow 17 = .ok (.iload_n 3, 1) := by decide +kernel
theorem dX6_follow_18 : decode cX6_follow 18 = .ok (.aload_n 0, 1) := by decide +kernel
theorem dX6_follow_19 : decode cX6_follow 19 = .ok (.getfield 30, 3) := by decide +kernel
theorem dX6_follow_22 : decode cX6_follow 22 = .ok (.aload_n 2, 1) := by decide +kernel
theorem dX6_follow_23 : decode cX6_follow 23 = .ok (.invokevirtual 45, 3) := by decide +kernel
theorem dX6_follow_26 : decode cX6_follow 26 = .ok (.invokestatic 49, 3) := by decide +kernel
theorem dX6_follow_29 : decode cX6_follow 29 = .ok (.istore 4, 2) := by decide +kernel
theorem dX6_follow_31 : decode cX6_follow 31 = .ok (.iconst 0, 1) := by decide +kernel
theorem dX6_follow_32 : decode cX6_follow 32 = .ok (.istore 5, 2) := by decide +kernel
theorem dX6_follow_34 : decode cX6_follow 34 = .ok (.iconst 0, 1) := by decide +kernel
theorem dX6_follow_35 : decode cX6_follow 35 = .ok (.istore 6, 2) := by decide +kernel
theorem dX6_follow_37 : decode cX6_follow 37 = .ok (.iload 6, 2) := by decide +kernel
theorem dX6_follow_39 : decode cX6_follow 39 = .ok (.iload 4, 2) := by decide +kernel
theorem dX6_follow_41 : decode cX6_follow 41 = .ok (.if_icmp .ge 35, 3) := by decide +kernel
theorem dX6_follow_44 : decode cX6_follow 44 = .ok (.iload 5, 2) := by decide +kernel
theorem dX6_follow_46 : decode cX6_follow 46 = .ok (.aload_n 0, 1) := by decide +kernel
theorem dX6_follow_47 : decode cX6_follow 47 = .ok (.getfield 30, 3) := by decide +kernel
theorem dX6_follow_50 : decode cX6_follow 50 = .ok (.aload_n 0, 1) := by decide +kernel
theorem dX6_follow_51 : decode cX6_follow 51 = .ok (.getfield 17, 3) := by decide +kernel
theorem dX6_follow_54 : decode cX6_follow 54 = .ok (.iconst 0, 1) := by decide +kernel
theorem dX6_follow_55 : decode cX6_follow 55 = .ok (.aaload, 1) := by decide +kernel
theorem dX6_follow_56 : decode cX6_follow 56 = .ok (.aload_n 2, 1) := by decide +kernel
theorem dX6_follow_57 : decode cX6_follow 57 = .ok (.getfield 55, 3) := by decide +kernel
theorem dX6_follow_60 : decode cX6_follow 60 = .ok (.iload 6, 2) := by decide +kernel
theorem dX6_follow_62 : decode cX6_follow 62 = .ok (.laload, 1) := by decide +kernel
theorem dX6_follow_63 : decode cX6_follow 63 = .ok (.l2i, 1) := by decide +kernel
theorem dX6_follow_64 : decode cX6_follow 64 = .ok (.invokevirtual 61, 3) := by decide +kernel
theorem dX6_follow_67 : decode cX6_follow 67 = .ok (.iadd, 1) := by decide +kernel
theorem dX6_follow_68 : decode cX6_follow 68 = .ok (.istore 5, 2) := by decide +kernel
theorem dX6_follow_70 : decode cX6_follow 70 = .ok (.iinc 6 1, 3) := by decide +kernel
theorem dX6_follow_73 : decode cX6_follow 73 = .ok (.goto (-36), 3) := by decide +kernel
theorem dX6_follow_76 : decode cX6_follow 76 = .ok (.iload 5, 2) := by decide +kernel
theorem dX6_follow_78 : decode cX6_follow 78 = .ok (.ireturn, 1) := by decide +kernel
theorem dX6_weigh_0 : decode cX6_weigh 0 = .ok (.aload_n 0, 1) := by decide +kernel
theorem dX6_weigh_1 : decode cX6_weigh 1 = .ok (.getfield 17, 3) := by decide +kernel
theorem dX6_weigh_4 : decode cX6_weigh 4 = .ok (.iload_n 1, 1) := by decide +kernel
theorem dX6_weigh_5 : decode cX6_weigh 5 = .ok (.aaload, 1) := by decide +kernel
theorem dX6_weigh_6 : decode cX6_weigh 6 = .ok (.aload_n 0, 1) := by decide +kernel
theorem dX6_weigh_7 : decode cX6_weigh 7 = .ok (.getfield 30, 3) := by decide +kernel
theorem dX6_weigh_10 : decode cX6_weigh 10 = .ok (.getfield 35, 3) := by decide +kernel
theorem dX6_weigh_13 : decode cX6_weigh 13 = .ok (.invokevirtual 77, 3) := by decide +kernel
theorem dX6_weigh_16 : decode cX6_weigh 16 = .ok (.istore_n 3, 1) := by decide +kernel
theorem dX6_weigh_17 : decode cX6_weigh 17 = .ok (.aload_n 0, 1) := by decide +kernel
theorem dX6_weigh_18 : decode cX6_weigh 18 = .ok (.getfield 65, 3) := by decide +kernel
theorem dX6_weigh_21 : decode cX6_weigh 21 = .ok (.ifCond .eq 27, 3) := by decide +kernel
theorem dX6_weigh_24 : decode cX6_weigh 24 = .ok (.iload_n 2, 1) := by decide +kernel
theorem dX6_weigh_25 : decode cX6_weigh 25 = .ok (.aload_n 0, 1) := by decide +kernel
theorem dX6_weigh_26 : decode cX6_weigh 26 = .ok (.getfield 81, 3) := by decide +kernel
theorem dX6_weigh_29 : decode cX6_weigh 29 = .ok (.if_icmp .gt 19, 3) := by decide +kernel
theorem dX6_weigh_32 : decode cX6_weigh 32 = .ok (.iload_n 2, 1) := by decide +kernel
theorem dX6_weigh_33 : decode cX6_weigh 33 = .ok (.aload_n 0, 1) := by decide +kernel
theorem dX6_weigh_34 : decode cX6_weigh 34 = .ok (.getfield 81, 3) := by decide +kernel
theorem dX6_weigh_37 : decode cX6_weigh 37 = .ok (.if_icmp .ne 15, 3) := by decide +kernel
theorem dX6_weigh_40 : decode cX6_weigh 40 = .ok (.iload_n 3, 1) := by decide +kernel
theorem dX6_weigh_41 : decode cX6_weigh 41 = .ok (.aload_n 0, 1) := by decide +kernel
theorem dX6_weigh_42 : decode cX6_weigh 42 = .ok (.getfield 84, 3) := by decide +kernel
theorem dX6_weigh_45 : decode cX6_weigh 45 = .ok (.if_icmp .ge 7, 3) := by decide +kernel
theorem dX6_weigh_48 : decode cX6_weigh 48 = .ok (.iconst 1, 1) := by decide +kernel
theorem dX6_weigh_49 : decode cX6_weigh 49 = .ok (.goto 4, 3) := by decide +kernel
theorem dX6_weigh_52 : decode cX6_weigh 52 = .ok (.iconst 0, 1) := by decide +kernel
theorem dX6_weigh_53 : decode cX6_weigh 53 = .ok (.istore 4, 2) := by decide +kernel
theorem dX6_weigh_55 : decode cX6_weigh 55 = .ok (.iload 4, 2) := by decide +kernel
theorem dX6_weigh_57 : decode cX6_weigh 57 = .ok (.ifCond .eq 32, 3) := by decide +kernel
theorem dX6_weigh_60 : decode cX6_weigh 60 = .ok (.aload_n 0, 1) := by decide +kernel
theorem dX6_weigh_61 : decode cX6_weigh 61 = .ok (.iconst 1, 1) := by decide +kernel
theorem dX6_weigh_62 : decode cX6_weigh 62 = .ok (.putfield 65, 3) := by decide +kernel
theorem dX6_weigh_65 : decode cX6_weigh 65 = .ok (.aload_n 0, 1) := by decide +kernel
theorem dX6_weigh_66 : decode cX6_weigh 66 = .ok (.iload_n 2, 1) := by decide +kernel
theorem dX6_weigh_67 : decode cX6_weigh 67 = .ok (.putfield 81, 3) := by decide +kernel
theorem dX6_weigh_70 : decode cX6_weigh 70 = .ok (.aload_n 0, 1) := by decide +kernel
theorem dX6_weigh_71 : decode cX6_weigh 71 = .ok (.iload_n 3, 1) := by decide +kernel
theorem dX6_weigh_72 : decode cX6_weigh 72 = .ok (.putfield 84, 3) := by decide +kernel
theorem dX6_weigh_75 : decode cX6_weigh 75 = .ok (.aload_n 0, 1) := by decide +kernel
theorem dX6_weigh_76 : decode cX6_weigh 76 = .ok (.getfield 21, 3) := by decide +kernel
theorem dX6_weigh_79 : decode cX6_weigh 79 = .ok (.iconst 0, 1) := by decide +kernel
theorem dX6_weigh_80 : decode cX6_weigh 80 = .ok (.aload_n 0, 1) := by decide +kernel
theorem dX6_weigh_81 : decode cX6_weigh 81 = .ok (.getfield 9, 3) := by decide +kernel
theorem dX6_weigh_84 : decode cX6_weigh 84 = .ok (.iconst 0, 1) := by decide +kernel
theorem dX6_weigh_85 : decode cX6_weigh 85 = .ok (.iload_n 1, 1) := by decide +kernel
theorem dX6_weigh_86 : decode cX6_weigh 86 = .ok (.invokestatic 87, 3) := by decide +kernel
theorem dX6_weigh_89 : decode cX6_weigh 89 = .ok (.return_, 1) := by decide +kernel
theorem dX6_seekFrom_0 : decode cX6_seekFrom 0 = .ok (.iload_n 1, 1) := by decide +kernel
theorem dX6_seekFrom_1 : decode cX6_seekFrom 1 = .ok (.iload_n 2, 1) := by decide +kernel
theorem dX6_seekFrom_2 : decode cX6_seekFrom 2 = .ok (.if_icmp .lt 10, 3) := by decide +kernel
theorem dX6_seekFrom_5 : decode cX6_seekFrom 5 = .ok (.aload_n 0, 1) := by decide +kernel
theorem dX6_seekFrom_6 : decode cX6_seekFrom 6 = .ok (.iload_n 2, 1) := by decide +kernel
theorem dX6_seekFrom_7 : decode cX6_seekFrom 7 = .ok (.iload_n 3, 1) := by decide +kernel
theorem dX6_seekFrom_8 : decode cX6_seekFrom 8 = .ok (.invokevirtual 73, 3) := by decide +kernel
theorem dX6_seekFrom_11 : decode cX6_seekFrom 11 = .ok (.return_, 1) := by decide +kernel
theorem dX6_seekFrom_12 : decode cX6_seekFrom 12 = .ok (.iconst 0, 1) := by decide +kernel
theorem dX6_seekFrom_13 : decode cX6_seekFrom 13 = .ok (.istore 4, 2) := by decide +kernel
theorem dX6_seekFrom_15 : decode cX6_seekFrom 15 = .ok (.iload 4, 2) := by decide +kernel
theorem dX6_seekFrom_17 : decode cX6_seekFrom 17 = .ok (.aload_n 0, 1) := by decide +kernel
theorem dX6_seekFrom_18 : decode cX6_seekFrom 18 = .ok (.getfield 30, 3) := by decide +kernel
theorem dX6_seekFrom_21 : decode cX6_seekFrom 21 = .ok (.getfield 35, 3) := by decide +kernel
theorem dX6_seekFrom_24 : decode cX6_seekFrom 24 = .ok (.if_icmp .gt 89, 3) := by decide +kernel
theorem dX6_seekFrom_27 : decode cX6_seekFrom 27 = .ok (.aload_n 0, 1) := by decide +kernel
theorem dX6_seekFrom_28 : decode cX6_seekFrom 28 = .ok (.getfield 21, 3) := by decide +kernel
theorem dX6_seekFrom_31 : decode cX6_seekFrom 31 = .ok (.iload_n 1, 1) := by decide +kernel
theorem dX6_seekFrom_32 : decode cX6_seekFrom 32 = .ok (.iload 4, 2) := by decide +kernel
theorem dX6_seekFrom_34 : decode cX6_seekFrom 34 = .ok (.aload_n 0, 1) := by decide +kernel
theorem dX6_seekFrom_35 : decode cX6_seekFrom 35 = .ok (.getfield 30, 3) := by decide +kernel
theorem dX6_seekFrom_38 : decode cX6_seekFrom 38 = .ok (.getfield 35, 3) := by decide +kernel
theorem dX6_seekFrom_41 : decode cX6_seekFrom 41 = .ok (.if_icmp .ge 8, 3) := by decide +kernel
theorem dX6_seekFrom_44 : decode cX6_seekFrom 44 = .ok (.iload 4, 2) := by decide +kernel
theorem dX6_seekFrom_46 : decode cX6_seekFrom 46 = .ok (.goto 5, 3) := by decide +kernel
theorem dX6_seekFrom_49 : decode cX6_seekFrom 49 = .ok (.bipush 7, 2) := by decide +kernel
theorem dX6_seekFrom_51 : decode cX6_seekFrom 51 = .ok (.iastore, 1) := by decide +kernel
theorem dX6_seekFrom_52 : decode cX6_seekFrom 52 = .ok (.aload_n 0, 1) := by decide +kernel
theorem dX6_seekFrom_53 : decode cX6_seekFrom 53 = .ok (.getfield 17, 3) := by decide +kernel
theorem dX6_seekFrom_56 : decode cX6_seekFrom 56 = .ok (.iload_n 1, 1) := by decide +kernel
theorem dX6_seekFrom_57 : decode cX6_seekFrom 57 = .ok (.iconst 1, 1) := by decide +kernel
theorem dX6_seekFrom_58 : decode cX6_seekFrom 58 = .ok (.iadd, 1) := by decide +kernel
theorem dX6_seekFrom_59 : decode cX6_seekFrom 59 = .ok (.aaload, 1) := by decide +kernel
theorem dX6_seekFrom_60 : decode cX6_seekFrom 60 = .ok (.aload_n 0, 1) := by decide +kernel
theorem dX6_seekFrom_61 : decode cX6_seekFrom 61 = .ok (.getfield 17, 3) := by decide +kernel
theorem dX6_seekFrom_64 : decode cX6_seekFrom 64 = .ok (.iload_n 1, 1) := by decide +kernel
theorem dX6_seekFrom_65 : decode cX6_seekFrom 65 = .ok (.aaload, 1) := by decide +kernel
theorem dX6_seekFrom_66 : decode cX6_seekFrom 66 = .ok (.aload_n 0, 1) := by decide +kernel
theorem dX6_seekFrom_67 : decode cX6_seekFrom 67 = .ok (.getfield 30, 3) := by decide +kernel
theorem dX6_seekFrom_70 : decode cX6_seekFrom 70 = .ok (.getfield 35, 3) := by decide +kernel
theorem dX6_seekFrom_73 : decode cX6_seekFrom 73 = .ok (.invokevirtual 41, 3) := by decide +kernel
theorem dX6_seekFrom_76 : decode cX6_seekFrom 76 = .ok (.aload_n 0, 1) := by decide +kernel
theorem dX6_seekFrom_77 : decode cX6_seekFrom 77 = .ok (.iload_n 1, 1) := by decide +kernel
theorem dX6_seekFrom_78 : decode cX6_seekFrom 78 = .ok (.iconst 1, 1) := by decide +kernel
theorem dX6_seekFrom_79 : decode cX6_seekFrom 79 = .ok (.iadd, 1) := by decide +kernel
theorem dX6_seekFrom_80 : decode cX6_seekFrom 80 = .ok (.iload_n 2, 1) := by decide +kernel
theorem dX6_seekFrom_81 : decode cX6_seekFrom 81 = .ok (.iload_n 3, 1) := by decide +kernel
theorem dX6_seekFrom_82 : decode cX6_seekFrom 82 = .ok (.aload_n 0, 1) := by decide +kernel
theorem dX6_seekFrom_83 : decode cX6_seekFrom 83 = .ok (.getfield 30, 3) := by decide +kernel
theorem dX6_seekFrom_86 : decode cX6_seekFrom 86 = .ok (.aload_n 0, 1) := by decide +kernel
theorem dX6_seekFrom_87 : decode cX6_seekFrom 87 = .ok (.getfield 17, 3) := by decide +kernel
theorem dX6_seekFrom_90 : decode cX6_seekFrom 90 = .ok (.iload_n 1, 1) := by decide +kernel
theorem dX6_seekFrom_91 : decode cX6_seekFrom 91 = .ok (.iconst 1, 1) := by decide +kernel
theorem dX6_seekFrom_92 : decode cX6_seekFrom 92 = .ok (.iadd, 1) := by decide +kernel
theorem dX6_seekFrom_93 : decode cX6_seekFrom 93 = .ok (.aaload, 1) := by decide +kernel
theorem dX6_seekFrom_94 : decode cX6_seekFrom 94 = .ok (.aload_n 0, 1) := by decide +kernel
theorem dX6_seekFrom_95 : decode cX6_seekFrom 95 = .ok (.getfield 21, 3) := by decide +kernel
theorem dX6_seekFrom_98 : decode cX6_seekFrom 98 = .ok (.iload_n 1, 1) := by decide +kernel
theorem dX6_seekFrom_99 : decode cX6_seekFrom 99 = .ok (.iaload, 1) := by decide +kernel
theorem dX6_seekFrom_100 : decode cX6_seekFrom 100 = .ok (.invokevirtual 61, 3) := by decide +kernel
theorem dX6_seekFrom_103 : decode cX6_seekFrom 103 = .ok (.iadd, 1) := by decide +kernel
theorem dX6_seekFrom_104 : decode cX6_seekFrom 104 = .ok (.invokevirtual 69, 3) := by decide +kernel
theorem dX6_seekFrom_107 : decode cX6_seekFrom 107 = .ok (.iinc 4 1, 3) := by decide +kernel
theorem dX6_seekFrom_110 : decode cX6_seekFrom 110 = .ok (.goto (-95), 3) := by decide +kernel
theorem dX6_seekFrom_113 : decode cX6_seekFrom 113 = .ok (.return_, 1) := by decide +kernel
theorem dX6_seekBest_0 : decode cX6_seekBest 0 = .ok (.aload_n 0, 1) := by decide +kernel
theorem dX6_seekBest_1 : decode cX6_seekBest 1 = .ok (.getfield 17, 3) := by decide +kernel
theorem dX6_seekBest_4 : decode cX6_seekBest 4 = .ok (.iconst 0, 1) := by decide +kernel
theorem dX6_seekBest_5 : decode cX6_seekBest 5 = .ok (.aaload, 1) := by decide +kernel
theorem dX6_seekBest_6 : decode cX6_seekBest 6 = .ok (.aload_n 1, 1) := by decide +kernel
theorem dX6_seekBest_7 : decode cX6_seekBest 7 = .ok (.aload_n 0, 1) := by decide +kernel
theorem dX6_seekBest_8 : decode cX6_seekBest 8 = .ok (.getfield 30, 3) := by decide +kernel
theorem dX6_seekBest_11 : decode cX6_seekBest 11 = .ok (.getfield 35, 3) := by decide +kernel
theorem dX6_seekBest_14 : decode cX6_seekBest 14 = .ok (.invokevirtual 41, 3) := by decide +kernel
theorem dX6_seekBest_17 : decode cX6_seekBest 17 = .ok (.aload_n 0, 1) := by decide +kernel
theorem dX6_seekBest_18 : decode cX6_seekBest 18 = .ok (.iconst 0, 1) := by decide +kernel
theorem dX6_seekBest_19 : decode cX6_seekBest 19 = .ok (.putfield 65, 3) := by decide +kernel
theorem dX6_seekBest_22 : decode cX6_seekBest 22 = .ok (.aload_n 0, 1) := by decide +kernel
theorem dX6_seekBest_23 : decode cX6_seekBest 23 = .ok (.iconst 0, 1) := by decide +kernel
theorem dX6_seekBest_24 : decode cX6_seekBest 24 = .ok (.iload_n 2, 1) := by decide +kernel
theorem dX6_seekBest_25 : decode cX6_seekBest 25 = .ok (.iconst 0, 1) := by decide +kernel
theorem dX6_seekBest_26 : decode cX6_seekBest 26 = .ok (.invokevirtual 69, 3) := by decide +kernel
theorem dX6_seekBest_29 : decode cX6_seekBest 29 = .ok (.return_, 1) := by decide +kernel
theorem dX6_worthBehind_0 : decode cX6_worthBehind 0 = .ok (.aload_n 0, 1) := by decide +kernel
theorem dX6_worthBehind_1 : decode cX6_worthBehind 1 = .ok (.getfield 17, 3) := by decide +kernel
theorem dX6_worthBehind_4 : decode cX6_worthBehind 4 = .ok (.iload_n 1, 1) := by decide +kernel
theorem dX6_worthBehind_5 : decode cX6_worthBehind 5 = .ok (.iconst 1, 1) := by decide +kernel
theorem dX6_worthBehind_6 : decode cX6_worthBehind 6 = .ok (.iadd, 1) := by decide +kernel
theorem dX6_worthBehind_7 : decode cX6_worthBehind 7 = .ok (.aaload, 1) := by decide +kernel
theorem dX6_worthBehind_8 : decode cX6_worthBehind 8 = .ok (.aload_n 0, 1) := by decide +kernel
theorem dX6_worthBehind_9 : decode cX6_worthBehind 9 = .ok (.getfield 17, 3) := by decide +kernel
theorem dX6_worthBehind_12 : decode cX6_worthBehind 12 = .ok (.iload_n 1, 1) := by decide +kernel
theorem dX6_worthBehind_13 : decode cX6_worthBehind 13 = .ok (.aaload, 1) := by decide +kernel
theorem dX6_worthBehind_14 : decode cX6_worthBehind 14 = .ok (.aload_n 0, 1) := by decide +kernel
theorem dX6_worthBehind_15 : decode cX6_worthBehind 15 = .ok (.getfield 30, 3) := by decide +kernel
theorem dX6_worthBehind_18 : decode cX6_worthBehind 18 = .ok (.getfield 35, 3) := by decide +kernel
theorem dX6_worthBehind_21 : decode cX6_worthBehind 21 = .ok (.invokevirtual 41, 3) := by decide +kernel
theorem dX6_worthBehind_24 : decode cX6_worthBehind 24 = .ok (.aload_n 0, 1) := by decide +kernel
theorem dX6_worthBehind_25 : decode cX6_worthBehind 25 = .ok (.getfield 30, 3) := by decide +kernel
theorem dX6_worthBehind_28 : decode cX6_worthBehind 28 = .ok (.aload_n 0, 1) := by decide +kernel
theorem dX6_worthBehind_29 : decode cX6_worthBehind 29 = .ok (.getfield 17, 3) := by decide +kernel
theorem dX6_worthBehind_32 : decode cX6_worthBehind 32 = .ok (.iload_n 1, 1) := by decide +kernel
theorem dX6_worthBehind_33 : decode cX6_worthBehind 33 = .ok (.iconst 1, 1) := by decide +kernel
theorem dX6_worthBehind_34 : decode cX6_worthBehind 34 = .ok (.iadd, 1) := by decide +kernel
theorem dX6_worthBehind_35 : decode cX6_worthBehind 35 = .ok (.aaload, 1) := by decide +kernel
theorem dX6_worthBehind_36 : decode cX6_worthBehind 36 = .ok (.iload_n 3, 1) := by decide +kernel
theorem dX6_worthBehind_37 : decode cX6_worthBehind 37 = .ok (.invokevirtual 61, 3) := by decide +kernel
theorem dX6_worthBehind_40 : decode cX6_worthBehind 40 = .ok (.istore 6, 2) := by decide +kernel
theorem dX6_worthBehind_42 : decode cX6_worthBehind 42 = .ok (.iload 6, 2) := by decide +kernel
theorem dX6_worthBehind_44 : decode cX6_worthBehind 44 = .ok (.aload_n 0, 1) := by decide +kernel
theorem dX6_worthBehind_45 : decode cX6_worthBehind 45 = .ok (.iload_n 1, 1) := by decide +kernel
theorem dX6_worthBehind_46 : decode cX6_worthBehind 46 = .ok (.iconst 1, 1) := by decide +kernel
theorem dX6_worthBehind_47 : decode cX6_worthBehind 47 = .ok (.iadd, 1) := by decide +kernel
theorem dX6_worthBehind_48 : decode cX6_worthBehind 48 = .ok (.iload_n 2, 1) := by decide +kernel
theorem dX6_worthBehind_49 : decode cX6_worthBehind 49 = .ok (.iload 5, 2) := by decide +kernel
theorem dX6_worthBehind_51 : decode cX6_worthBehind 51 = .ok (.iload 4, 2) := by decide +kernel
theorem dX6_worthBehind_53 : decode cX6_worthBehind 53 = .ok (.invokevirtual 93, 3) := by decide +kernel
theorem dX6_worthBehind_56 : decode cX6_worthBehind 56 = .ok (.isub, 1) := by decide +kernel
theorem dX6_worthBehind_57 : decode cX6_worthBehind 57 = .ok (.ireturn, 1) := by decide +kernel
theorem dX6_worthFrom_0 : decode cX6_worthFrom 0 = .ok (.iload_n 1, 1) := by decide +kernel
theorem dX6_worthFrom_1 : decode cX6_worthFrom 1 = .ok (.iload_n 2, 1) := by decide +kernel
theorem dX6_worthFrom_2 : decode cX6_worthFrom 2 = .ok (.if_icmp .lt 5, 3) := by decide +kernel
theorem dX6_worthFrom_5 : decode cX6_worthFrom 5 = .ok (.iconst 0, 1) := by decide +kernel
theorem dX6_worthFrom_6 : decode cX6_worthFrom 6 = .ok (.ireturn, 1) := by decide +kernel
theorem dX6_worthFrom_7 : decode cX6_worthFrom 7 = .ok (.aload_n 0, 1) := by decide +kernel
theorem dX6_worthFrom_8 : decode cX6_worthFrom 8 = .ok (.iload_n 1, 1) := by decide +kernel
theorem dX6_worthFrom_9 : decode cX6_worthFrom 9 = .ok (.iload_n 2, 1) := by decide +kernel
theorem dX6_worthFrom_10 : decode cX6_worthFrom 10 = .ok (.bipush 7, 2) := by decide +kernel
theorem dX6_worthFrom_12 : decode cX6_worthFrom 12 = .ok (.iload_n 3, 1) := by decide +kernel
theorem dX6_worthFrom_13 : decode cX6_worthFrom 13 = .ok (.iload 4, 2) := by decide +kernel
theorem dX6_worthFrom_15 : decode cX6_worthFrom 15 = .ok (.invokevirtual 97, 3) := by decide +kernel
theorem dX6_worthFrom_18 : decode cX6_worthFrom 18 = .ok (.istore 5, 2) := by decide +kernel
theorem dX6_worthFrom_20 : decode cX6_worthFrom 20 = .ok (.aload_n 0, 1) := by decide +kernel
theorem dX6_worthFrom_21 : decode cX6_worthFrom 21 = .ok (.iload_n 1, 1) := by decide +kernel
theorem dX6_worthFrom_22 : decode cX6_worthFrom 22 = .ok (.iload_n 2, 1) := by decide +kernel
theorem dX6_worthFrom_23 : decode cX6_worthFrom 23 = .ok (.iload_n 3, 1) := by decide +kernel
theorem dX6_worthFrom_24 : decode cX6_worthFrom 24 = .ok (.iload_n 3, 1) := by decide +kernel
theorem dX6_worthFrom_25 : decode cX6_worthFrom 25 = .ok (.iload 4, 2) := by decide +kernel
theorem dX6_worthFrom_27 : decode cX6_worthFrom 27 = .ok (.invokevirtual 97, 3) := by decide +kernel
theorem dX6_worthFrom_30 : decode cX6_worthFrom 30 = .ok (.istore 6, 2) := by decide +kernel
theorem dX6_worthFrom_32 : decode cX6_worthFrom 32 = .ok (.iload_n 1, 1) := by decide +kernel
theorem dX6_worthFrom_33 : decode cX6_worthFrom 33 = .ok (.ifCond .ne 19, 3) := by decide +kernel
theorem dX6_worthFrom_36 : decode cX6_worthFrom 36 = .ok (.aload_n 0, 1) := by decide +kernel
theorem dX6_worthFrom_37 : decode cX6_worthFrom 37 = .ok (.iload 6, 2) := by decide +kernel
theorem dX6_worthFrom_39 : decode cX6_worthFrom 39 = .ok (.iload 5, 2) := by decide +kernel
theorem dX6_worthFrom_41 : decode cX6_worthFrom 41 = .ok (.if_icmp .le 7, 3) := by decide +kernel
theorem dX6_worthFrom_44 : decode cX6_worthFrom 44 = .ok (.iconst 1, 1) := by decide +kernel
theorem dX6_worthFrom_45 : decode cX6_worthFrom 45 = .ok (.goto 4, 3) := by decide +kernel
theorem dX6_worthFrom_48 : decode cX6_worthFrom 48 = .ok (.iconst 0, 1) := by decide +kernel
theorem dX6_worthFrom_49 : decode cX6_worthFrom 49 = .ok (.putfield 101, 3) := by decide +kernel
theorem dX6_worthFrom_52 : decode cX6_worthFrom 52 = .ok (.iload 5, 2) := by decide +kernel
theorem dX6_worthFrom_54 : decode cX6_worthFrom 54 = .ok (.iload 6, 2) := by decide +kernel
theorem dX6_worthFrom_56 : decode cX6_worthFrom 56 = .ok (.invokestatic 104, 3) := by decide +kernel
theorem dX6_worthFrom_59 : decode cX6_worthFrom 59 = .ok (.ireturn, 1) := by decide +kernel
theorem dX6_worthOfTurns_0 : decode cX6_worthOfTurns 0 = .ok (.aload_n 0, 1) := by decide +kernel
theorem dX6_worthOfTurns_1 : decode cX6_worthOfTurns 1 = .ok (.getfield 17, 3) := by decide +kernel
theorem dX6_worthOfTurns_4 : decode cX6_worthOfTurns 4 = .ok (.iconst 0, 1) := by decide +kernel
theorem dX6_worthOfTurns_5 : decode cX6_worthOfTurns 5 = .ok (.aaload, 1) := by decide +kernel
theorem dX6_worthOfTurns_6 : decode cX6_worthOfTurns 6 = .ok (.aload_n 1, 1) := by decide +kernel
theorem dX6_worthOfTurns_7 : decode cX6_worthOfTurns 7 = .ok (.aload_n 0, 1) := by decide +kernel
theorem dX6_worthOfTurns_8 : decode cX6_worthOfTurns 8 = .ok (.getfield 30, 3) := by decide +kernel
theorem dX6_worthOfTurns_11 : decode cX6_worthOfTurns 11 = .ok (.getfield 35, 3) := by decide +kernel
theorem dX6_worthOfTurns_14 : decode cX6_worthOfTurns 14 = .ok (.invokevirtual 41, 3) := by decide +kernel
theorem dX6_worthOfTurns_17 : decode cX6_worthOfTurns 17 = .ok (.aload_n 0, 1) := by decide +kernel
theorem dX6_worthOfTurns_18 : decode cX6_worthOfTurns 18 = .ok (.iconst 0, 1) := by decide +kernel
theorem dX6_worthOfTurns_19 : decode cX6_worthOfTurns 19 = .ok (.iload_n 2, 1) := by decide +kernel
theorem dX6_worthOfTurns_20 : decode cX6_worthOfTurns 20 = .ok (.iload_n 3, 1) := by decide +kernel
theorem dX6_worthOfTurns_21 : decode cX6_worthOfTurns 21 = .ok (.iload 4, 2) := by decide +kernel
theorem dX6_worthOfTurns_23 : decode cX6_worthOfTurns 23 = .ok (.invokevirtual 93, 3) := by decide +kernel
theorem dX6_worthOfTurns_26 : decode cX6_worthOfTurns 26 = .ok (.ireturn, 1) := by decide +kernel
theorem dX6_drawnBy_0 : decode cX6_drawnBy 0 = .ok (.aload_n 0, 1) := by decide +kernel
theorem dX6_drawnBy_1 : decode cX6_drawnBy 1 = .ok (.getfield 30, 3) := by decide +kernel
theorem dX6_drawnBy_4 : decode cX6_drawnBy 4 = .ok (.getfield 35, 3) := by decide +kernel
theorem dX6_drawnBy_7 : decode cX6_drawnBy 7 = .ok (.ifCond .eq 14, 3) := by decide +kernel
theorem dX6_drawnBy_10 : decode cX6_drawnBy 10 = .ok (.iload_n 1, 1) := by decide +kernel
theorem dX6_drawnBy_11 : decode cX6_drawnBy 11 = .ok (.bipush 16, 2) := by decide +kernel
theorem dX6_drawnBy_13 : decode cX6_drawnBy 13 = .ok (.iushr, 1) := by decide +kernel
theorem dX6_drawnBy_14 : decode cX6_drawnBy 14 = .ok (.bipush 12, 2) := by decide +kernel
theorem dX6_drawnBy_16 : decode cX6_drawnBy 16 = .ok (.irem, 1) := by decide +kernel
theorem dX6_drawnBy_17 : decode cX6_drawnBy 17 = .ok (.iload_n 2, 1) := by decide +kernel
theorem dX6_drawnBy_18 : decode cX6_drawnBy 18 = .ok (.if_icmp .ge 6, 3) := by decide +kernel
theorem dX6_drawnBy_21 : decode cX6_drawnBy 21 = .ok (.bipush 7, 2) := by decide +kernel
theorem dX6_drawnBy_23 : decode cX6_drawnBy 23 = .ok (.ireturn, 1) := by decide +kernel
theorem dX6_drawnBy_24 : decode cX6_drawnBy 24 = .ok (.iload_n 1, 1) := by decide +kernel
theorem dX6_drawnBy_25 : decode cX6_drawnBy 25 = .ok (.bipush 8, 2) := by decide +kernel
theorem dX6_drawnBy_27 : decode cX6_drawnBy 27 = .ok (.iushr, 1) := by decide +kernel
theorem dX6_drawnBy_28 : decode cX6_drawnBy 28 = .ok (.aload_n 0, 1) := by decide +kernel
theorem dX6_drawnBy_29 : decode cX6_drawnBy 29 = .ok (.getfield 30, 3) := by decide +kernel
theorem dX6_drawnBy_32 : decode cX6_drawnBy 32 = .ok (.getfield 35, 3) := by decide +kernel
theorem dX6_drawnBy_35 : decode cX6_drawnBy 35 = .ok (.irem, 1) := by decide +kernel
theorem dX6_drawnBy_36 : decode cX6_drawnBy 36 = .ok (.ireturn, 1) := by decide +kernel
theorem dX6_draw_0 : decode cX6_draw 0 = .ok (.iload_n 2, 1) := by decide +kernel
theorem dX6_draw_1 : decode cX6_draw 1 = .ok (.istore 7, 2) := by decide +kernel
theorem dX6_draw_3 : decode cX6_draw 3 = .ok (.iconst 0, 1) := by decide +kernel
theorem dX6_draw_4 : decode cX6_draw 4 = .ok (.istore 8, 2) := by decide +kernel
theorem dX6_draw_6 : decode cX6_draw 6 = .ok (.iconst 0, 1) := by decide +kernel
theorem dX6_draw_7 : decode cX6_draw 7 = .ok (.istore 9, 2) := by decide +kernel
theorem dX6_draw_9 : decode cX6_draw 9 = .ok (.iconst 0, 1) := by decide +kernel
theorem dX6_draw_10 : decode cX6_draw 10 = .ok (.istore 10, 2) := by decide +kernel
theorem dX6_draw_12 : decode cX6_draw 12 = .ok (.iload 10, 2) := by decide +kernel
theorem dX6_draw_14 : decode cX6_draw 14 = .ok (.iload_n 3, 1) := by decide +kernel
theorem dX6_draw_15 : decode cX6_draw 15 = .ok (.if_icmp .ge 100, 3) := by decide +kernel
theorem dX6_draw_18 : decode cX6_draw 18 = .ok (.aload_n 0, 1) := by decide +kernel
theorem dX6_draw_19 : decode cX6_draw 19 = .ok (.getfield 17, 3) := by decide +kernel
theorem dX6_draw_22 : decode cX6_draw 22 = .ok (.iconst 0, 1) := by decide +kernel
theorem dX6_draw_23 : decode cX6_draw 23 = .ok (.aaload, 1) := by decide +kernel
theorem dX6_draw_24 : decode cX6_draw 24 = .ok (.aload_n 1, 1) := by decide +kernel
theorem dX6_draw_25 : decode cX6_draw 25 = .ok (.aload_n 0, 1) := by decide +kernel
theorem dX6_draw_26 : decode cX6_draw 26 = .ok (.getfield 30, 3) := by decide +kernel
theorem dX6_draw_29 : decode cX6_draw 29 = .ok (.getfield 35, 3) := by decide +kernel
theorem dX6_draw_32 : decode cX6_draw 32 = .ok (.invokevirtual 41, 3) := by decide +kernel
theorem dX6_draw_35 : decode cX6_draw 35 = .ok (.iconst 0, 1) := by decide +kernel
theorem dX6_draw_36 : decode cX6_draw 36 = .ok (.istore 11, 2) := by decide +kernel
theorem dX6_draw_38 : decode cX6_draw 38 = .ok (.iload 11, 2) := by decide +kernel
theorem dX6_draw_40 : decode cX6_draw 40 = .ok (.iload 4, 2) := by decide +kernel
theorem dX6_draw_42 : decode cX6_draw 42 = .ok (.if_icmp .ge 67, 3) := by decide +kernel
theorem dX6_draw_45 : decode cX6_draw 45 = .ok (.iload 7, 2) := by decide +kernel
theorem dX6_draw_47 : decode cX6_draw 47 = .ok (.ldc 107, 2) := by decide +kernel
theorem dX6_draw_49 : decode cX6_draw 49 = .ok (.imul, 1) := by decide +kernel
theorem dX6_draw_50 : decode cX6_draw 50 = .ok (.sipush 12345, 3) := by decide +kernel
theorem dX6_draw_53 : decode cX6_draw 53 = .ok (.iadd, 1) := by decide +kernel
theorem dX6_draw_54 : decode cX6_draw 54 = .ok (.istore 7, 2) := by decide +kernel
theorem dX6_draw_56 : decode cX6_draw 56 = .ok (.aload_n 0, 1) := by decide +kernel
theorem dX6_draw_57 : decode cX6_draw 57 = .ok (.iload 7, 2) := by decide +kernel
theorem dX6_draw_59 : decode cX6_draw 59 = .ok (.iload 5, 2) := by decide +kernel
theorem dX6_draw_61 : decode cX6_draw 61 = .ok (.invokevirtual 108, 3) := by decide +kernel
theorem dX6_draw_64 : decode cX6_draw 64 = .ok (.istore 12, 2) := by decide +kernel
theorem dX6_draw_66 : decode cX6_draw 66 = .ok (.iload 8, 2) := by decide +kernel
theorem dX6_draw_68 : decode cX6_draw 68 = .ok (.aload_n 0, 1) := by decide +kernel
theorem dX6_draw_69 : decode cX6_draw 69 = .ok (.getfield 30, 3) := by decide +kernel
theorem dX6_draw_72 : decode cX6_draw 72 = .ok (.aload_n 0, 1) := by decide +kernel
theorem dX6_draw_73 : decode cX6_draw 73 = .ok (.getfield 17, 3) := by decide +kernel
theorem dX6_draw_76 : decode cX6_draw 76 = .ok (.iconst 0, 1) := by decide +kernel
theorem dX6_draw_77 : decode cX6_draw 77 = .ok (.aaload, 1) := by decide +kernel
theorem dX6_draw_78 : decode cX6_draw 78 = .ok (.iload 12, 2) := by decide +kernel
theorem dX6_draw_80 : decode cX6_draw 80 = .ok (.invokevirtual 61, 3) := by decide +kernel
theorem dX6_draw_83 : decode cX6_draw 83 = .ok (.iadd, 1) := by decide +kernel
theorem dX6_draw_84 : decode cX6_draw 84 = .ok (.istore 8, 2) := by decide +kernel
theorem dX6_draw_86 : decode cX6_draw 86 = .ok (.iload 9, 2) := by decide +kernel
theorem dX6_draw_88 : decode cX6_draw 88 = .ok (.iload 12, 2) := by decide +kernel
theorem dX6_draw_90 : decode cX6_draw 90 = .ok (.iload 6, 2) := by decide +kernel
theorem dX6_draw_92 : decode cX6_draw 92 = .ok (.if_icmp .ne 7, 3) := by decide +kernel
theorem dX6_draw_95 : decode cX6_draw 95 = .ok (.iconst 1, 1) := by decide +kernel
theorem dX6_draw_96 : decode cX6_draw 96 = .ok (.goto 4, 3) := by decide +kernel
theorem dX6_draw_99 : decode cX6_draw 99 = .ok (.iconst 0, 1) := by decide +kernel
theorem dX6_draw_100 : decode cX6_draw 100 = .ok (.iadd, 1) := by decide +kernel
theorem dX6_draw_101 : decode cX6_draw 101 = .ok (.istore 9, 2) := by decide +kernel
theorem dX6_draw_103 : decode cX6_draw 103 = .ok (.iinc 11 1, 3) := by decide +kernel
theorem dX6_draw_106 : decode cX6_draw 106 = .ok (.goto (-68), 3) := by decide +kernel
theorem dX6_draw_109 : decode cX6_draw 109 = .ok (.iinc 10 1, 3) := by decide +kernel
theorem dX6_draw_112 : decode cX6_draw 112 = .ok (.goto (-100), 3) := by decide +kernel
theorem dX6_draw_115 : decode cX6_draw 115 = .ok (.iload 6, 2) := by decide +kernel
theorem dX6_draw_117 : decode cX6_draw 117 = .ok (.iconst (-1), 1) := by decide +kernel
theorem dX6_draw_118 : decode cX6_draw 118 = .ok (.if_icmp .ne 8, 3) := by decide +kernel
theorem dX6_draw_121 : decode cX6_draw 121 = .ok (.iload 8, 2) := by decide +kernel
theorem dX6_draw_123 : decode cX6_draw 123 = .ok (.goto 5, 3) := by decide +kernel
theorem dX6_draw_126 : decode cX6_draw 126 = .ok (.iload 9, 2) := by decide +kernel
theorem dX6_draw_128 : decode cX6_draw 128 = .ok (.ireturn, 1) := by decide +kernel
theorem dX6_groupOf_0 : decode cX6_groupOf 0 = .ok (.iload_n 0, 1) := by decide +kernel
theorem dX6_groupOf_1 : decode cX6_groupOf 1 = .ok (.bipush 7, 2) := by decide +kernel
theorem dX6_groupOf_3 : decode cX6_groupOf 3 = .ok (.if_icmp .ne 7, 3) := by decide +kernel
theorem dX6_groupOf_6 : decode cX6_groupOf 6 = .ok (.iconst 0, 1) := by decide +kernel
theorem dX6_groupOf_7 : decode cX6_groupOf 7 = .ok (.goto 6, 3) := by decide +kernel
theorem dX6_groupOf_10 : decode cX6_groupOf 10 = .ok (.iconst 1, 1) := by decide +kernel
theorem dX6_groupOf_11 : decode cX6_groupOf 11 = .ok (.iload_n 0, 1) := by decide +kernel
theorem dX6_groupOf_12 : decode cX6_groupOf 12 = .ok (.ishl, 1) := by decide +kernel
theorem dX6_groupOf_13 : decode cX6_groupOf 13 = .ok (.ireturn, 1) := by decide +kernel
theorem dX6_dealtBy_0 : decode cX6_dealtBy 0 = .ok (.iload_n 3, 1) := by decide +kernel
theorem dX6_dealtBy_1 : decode cX6_dealtBy 1 = .ok (.bipush 7, 2) := by decide +kernel
theorem dX6_dealtBy_3 : decode cX6_dealtBy 3 = .ok (.if_icmp .ne 7, 3) := by decide +kernel
theorem dX6_dealtBy_6 : decode cX6_dealtBy 6 = .ok (.iconst 0, 1) := by decide +kernel
theorem dX6_dealtBy_7 : decode cX6_dealtBy 7 = .ok (.goto 4, 3) := by decide +kernel
theorem dX6_dealtBy_10 : decode cX6_dealtBy 10 = .ok (.iconst 1, 1) := by decide +kernel
theorem dX6_dealtBy_11 : decode cX6_dealtBy 11 = .ok (.istore 4, 2) := by decide +kernel
theorem dX6_dealtBy_13 : decode cX6_dealtBy 13 = .ok (.iload 4, 2) := by decide +kernel
theorem dX6_dealtBy_15 : decode cX6_dealtBy 15 = .ok (.aload_n 0, 1) := by decide +kernel
theorem dX6_dealtBy_16 : decode cX6_dealtBy 16 = .ok (.getfield 24, 3) := by decide +kernel
theorem dX6_dealtBy_19 : decode cX6_dealtBy 19 = .ok (.iload_n 1, 1) := by decide +kernel
theorem dX6_dealtBy_20 : decode cX6_dealtBy 20 = .ok (.iconst 1, 1) := by decide +kernel
theorem dX6_dealtBy_21 : decode cX6_dealtBy 21 = .ok (.iadd, 1) := by decide +kernel
theorem dX6_dealtBy_22 : decode cX6_dealtBy 22 = .ok (.sipush 128, 3) := by decide +kernel
theorem dX6_dealtBy_25 : decode cX6_dealtBy 25 = .ok (.imul, 1) := by decide +kernel
theorem dX6_dealtBy_26 : decode cX6_dealtBy 26 = .ok (.iload_n 2, 1) := by decide +kernel
theorem dX6_dealtBy_27 : decode cX6_dealtBy 27 = .ok (.iload_n 3, 1) := by decide +kernel
theorem dX6_dealtBy_28 : decode cX6_dealtBy 28 = .ok (.invokestatic 118, 3) := by decide +kernel
theorem dX6_dealtBy_31 : decode cX6_dealtBy 31 = .ok (.ior, 1) := by decide +kernel
theorem dX6_dealtBy_32 : decode cX6_dealtBy 32 = .ok (.iadd, 1) := by decide +kernel
theorem dX6_dealtBy_33 : decode cX6_dealtBy 33 = .ok (.iaload, 1) := by decide +kernel
theorem dX6_dealtBy_34 : decode cX6_dealtBy 34 = .ok (.iadd, 1) := by decide +kernel
theorem dX6_dealtBy_35 : decode cX6_dealtBy 35 = .ok (.ireturn, 1) := by decide +kernel
theorem dX6_holderOf_0 : decode cX6_holderOf 0 = .ok (.bipush 7, 2) := by decide +kernel
theorem dX6_holderOf_2 : decode cX6_holderOf 2 = .ok (.istore_n 3, 1) := by decide +kernel
theorem dX6_holderOf_3 : decode cX6_holderOf 3 = .ok (.iconst (-1), 1) := by decide +kernel
theorem dX6_holderOf_4 : decode cX6_holderOf 4 = .ok (.istore 4, 2) := by decide +kernel
theorem dX6_holderOf_6 : decode cX6_holderOf 6 = .ok (.iconst 0, 1) := by decide +kernel
theorem dX6_holderOf_7 : decode cX6_holderOf 7 = .ok (.istore 5, 2) := by decide +kernel
theorem dX6_holderOf_9 : decode cX6_holderOf 9 = .ok (.iload 5, 2) := by decide +kernel
theorem dX6_holderOf_11 : decode cX6_holderOf 11 = .ok (.aload_n 0, 1) := by decide +kernel
theorem dX6_holderOf_12 : decode cX6_holderOf 12 = .ok (.getfield 30, 3) := by decide +kernel
theorem dX6_holderOf_15 : decode cX6_holderOf 15 = .ok (.getfield 35, 3) := by decide +kernel
theorem dX6_holderOf_18 : decode cX6_holderOf 18 = .ok (.if_icmp .ge 73, 3) := by decide +kernel
theorem dX6_holderOf_21 : decode cX6_holderOf 21 = .ok (.aload_n 0, 1) := by decide +kernel
theorem dX6_holderOf_22 : decode cX6_holderOf 22 = .ok (.getfield 30, 3) := by decide +kernel
theorem dX6_holderOf_25 : decode cX6_holderOf 25 = .ok (.getfield 121, 3) := by decide +kernel
theorem dX6_holderOf_28 : decode cX6_holderOf 28 = .ok (.iload 5, 2) := by decide +kernel
theorem dX6_holderOf_30 : decode cX6_holderOf 30 = .ok (.iaload, 1) := by decide +kernel
theorem dX6_holderOf_31 : decode cX6_holderOf 31 = .ok (.iload_n 1, 1) := by decide +kernel
theorem dX6_holderOf_32 : decode cX6_holderOf 32 = .ok (.ishr, 1) := by decide +kernel
theorem dX6_holderOf_33 : decode cX6_holderOf 33 = .ok (.iconst 1, 1) := by decide +kernel
theorem dX6_holderOf_34 : decode cX6_holderOf 34 = .ok (.iand, 1) := by decide +kernel
theorem dX6_holderOf_35 : decode cX6_holderOf 35 = .ok (.ifCond .eq 16, 3) := by decide +kernel
theorem dX6_holderOf_38 : decode cX6_holderOf 38 = .ok (.iload_n 2, 1) := by decide +kernel
theorem dX6_holderOf_39 : decode cX6_holderOf 39 = .ok (.iload 5, 2) := by decide +kernel
theorem dX6_holderOf_41 : decode cX6_holderOf 41 = .ok (.ishr, 1) := by decide +kernel
theorem dX6_holderOf_42 : decode cX6_holderOf 42 = .ok (.iconst 1, 1) := by decide +kernel
theorem dX6_holderOf_43 : decode cX6_holderOf 43 = .ok (.iand, 1) := by decide +kernel
theorem dX6_holderOf_44 : decode cX6_holderOf 44 = .ok (.ifCond .ne 7, 3) := by decide +kernel
theorem dX6_holderOf_47 : decode cX6_holderOf 47 = .ok (.iconst 1, 1) := by decide +kernel
theorem dX6_holderOf_48 : decode cX6_holderOf 48 = .ok (.goto 4, 3) := by decide +kernel
theorem dX6_holderOf_51 : decode cX6_holderOf 51 = .ok (.iconst 0, 1) := by decide +kernel
theorem dX6_holderOf_52 : decode cX6_holderOf 52 = .ok (.istore 6, 2) := by decide +kernel
theorem dX6_holderOf_54 : decode cX6_holderOf 54 = .ok (.iload 6, 2) := by decide +kernel
theorem dX6_holderOf_56 : decode cX6_holderOf 56 = .ok (.ifCond .eq 29, 3) := by decide +kernel
theorem dX6_holderOf_59 : decode cX6_holderOf 59 = .ok (.aload_n 0, 1) := by decide +kernel
theorem dX6_holderOf_60 : decode cX6_holderOf 60 = .ok (.iload_n 1, 1) := by decide +kernel
theorem dX6_holderOf_61 : decode cX6_holderOf 61 = .ok (.iload_n 2, 1) := by decide +kernel
theorem dX6_holderOf_62 : decode cX6_holderOf 62 = .ok (.iload 5, 2) := by decide +kernel
theorem dX6_holderOf_64 : decode cX6_holderOf 64 = .ok (.invokevirtual 114, 3) := by decide +kernel
theorem dX6_holderOf_67 : decode cX6_holderOf 67 = .ok (.iload 4, 2) := by decide +kernel
theorem dX6_holderOf_69 : decode cX6_holderOf 69 = .ok (.if_icmp .le 16, 3) := by decide +kernel
theorem dX6_holderOf_72 : decode cX6_holderOf 72 = .ok (.aload_n 0, 1) := by decide +kernel
theorem dX6_holderOf_73 : decode cX6_holderOf 73 = .ok (.iload_n 1, 1) := by decide +kernel
theorem dX6_holderOf_74 : decode cX6_holderOf 74 = .ok (.iload_n 2, 1) := by decide +kernel
theorem dX6_holderOf_75 : decode cX6_holderOf 75 = .ok (.iload 5, 2) := by decide +kernel
theorem dX6_holderOf_77 : decode cX6_holderOf 77 = .ok (.invokevirtual 114, 3) := by decide +kernel
theorem dX6_holderOf_80 : decode cX6_holderOf 80 = .ok (.istore 4, 2) := by decide +kernel
theorem dX6_holderOf_82 : decode cX6_holderOf 82 = .ok (.iload 5, 2) := by decide +kernel
theorem dX6_holderOf_84 : decode cX6_holderOf 84 = .ok (.istore_n 3, 1) := by decide +kernel
theorem dX6_holderOf_85 : decode cX6_holderOf 85 = .ok (.iinc 5 1, 3) := by decide +kernel
theorem dX6_holderOf_88 : decode cX6_holderOf 88 = .ok (.goto (-79), 3) := by decide +kernel
theorem dX6_holderOf_91 : decode cX6_holderOf 91 = .ok (.aload_n 0, 1) := by decide +kernel
theorem dX6_holderOf_92 : decode cX6_holderOf 92 = .ok (.iload_n 1, 1) := by decide +kernel
theorem dX6_holderOf_93 : decode cX6_holderOf 93 = .ok (.iload_n 2, 1) := by decide +kernel
theorem dX6_holderOf_94 : decode cX6_holderOf 94 = .ok (.bipush 7, 2) := by decide +kernel
theorem dX6_holderOf_96 : decode cX6_holderOf 96 = .ok (.invokevirtual 114, 3) := by decide +kernel
theorem dX6_holderOf_99 : decode cX6_holderOf 99 = .ok (.iload 4, 2) := by decide +kernel
theorem dX6_holderOf_101 : decode cX6_holderOf 101 = .ok (.if_icmp .le 8, 3) := by decide +kernel
theorem dX6_holderOf_104 : decode cX6_holderOf 104 = .ok (.bipush 7, 2) := by decide +kernel
theorem dX6_holderOf_106 : decode cX6_holderOf 106 = .ok (.goto 4, 3) := by decide +kernel
theorem dX6_holderOf_109 : decode cX6_holderOf 109 = .ok (.iload_n 3, 1) := by decide +kernel
theorem dX6_holderOf_110 : decode cX6_holderOf 110 = .ok (.ireturn, 1) := by decide +kernel
theorem dX6_dealt_0 : decode cX6_dealt 0 = .ok (.iconst 1, 1) := by decide +kernel
theorem dX6_dealt_1 : decode cX6_dealt 1 = .ok (.aload_n 0, 1) := by decide +kernel
theorem dX6_dealt_2 : decode cX6_dealt 2 = .ok (.getfield 30, 3) := by decide +kernel
theorem dX6_dealt_5 : decode cX6_dealt 5 = .ok (.getfield 35, 3) := by decide +kernel
theorem dX6_dealt_8 : decode cX6_dealt 8 = .ok (.ishl, 1) := by decide +kernel
theorem dX6_dealt_9 : decode cX6_dealt 9 = .ok (.istore_n 2, 1) := by decide +kernel
theorem dX6_dealt_10 : decode cX6_dealt 10 = .ok (.bipush 6, 2) := by decide +kernel
theorem dX6_dealt_12 : decode cX6_dealt 12 = .ok (.istore_n 3, 1) := by decide +kernel
theorem dX6_dealt_13 : decode cX6_dealt 13 = .ok (.iload_n 3, 1) := by decide +kernel
theorem dX6_dealt_14 : decode cX6_dealt 14 = .ok (.ifCond .lt 51, 3) := by decide +kernel
theorem dX6_dealt_17 : decode cX6_dealt 17 = .ok (.iconst 0, 1) := by decide +kernel
theorem dX6_dealt_18 : decode cX6_dealt 18 = .ok (.istore 4, 2) := by decide +kernel
theorem dX6_dealt_20 : decode cX6_dealt 20 = .ok (.iload 4, 2) := by decide +kernel
theorem dX6_dealt_22 : decode cX6_dealt 22 = .ok (.iload_n 2, 1) := by decide +kernel
theorem dX6_dealt_23 : decode cX6_dealt 23 = .ok (.if_icmp .ge 36, 3) := by decide +kernel
theorem dX6_dealt_26 : decode cX6_dealt 26 = .ok (.aload_n 0, 1) := by decide +kernel
theorem dX6_dealt_27 : decode cX6_dealt 27 = .ok (.getfield 24, 3) := by decide +kernel
theorem dX6_dealt_30 : decode cX6_dealt 30 = .ok (.iload_n 3, 1) := by decide +kernel
theorem dX6_dealt_31 : decode cX6_dealt 31 = .ok (.sipush 128, 3) := by decide +kernel
theorem dX6_dealt_34 : decode cX6_dealt 34 = .ok (.imul, 1) := by decide +kernel
theorem dX6_dealt_35 : decode cX6_dealt 35 = .ok (.iload 4, 2) := by decide +kernel
theorem dX6_dealt_37 : decode cX6_dealt 37 = .ok (.iadd, 1) := by decide +kernel
theorem dX6_dealt_38 : decode cX6_dealt 38 = .ok (.aload_n 0, 1) := by decide +kernel
theorem dX6_dealt_39 : decode cX6_dealt 39 = .ok (.iload_n 3, 1) := by decide +kernel
theorem dX6_dealt_40 : decode cX6_dealt 40 = .ok (.iload 4, 2) := by decide +kernel
theorem dX6_dealt_42 : decode cX6_dealt 42 = .ok (.aload_n 0, 1) := by decide +kernel
theorem dX6_dealt_43 : decode cX6_dealt 43 = .ok (.iload_n 3, 1) := by decide +kernel
theorem dX6_dealt_44 : decode cX6_dealt 44 = .ok (.iload 4, 2) := by decide +kernel
theorem dX6_dealt_46 : decode cX6_dealt 46 = .ok (.invokevirtual 111, 3) := by decide +kernel
theorem dX6_dealt_49 : decode cX6_dealt 49 = .ok (.invokevirtual 114, 3) := by decide +kernel
theorem dX6_dealt_52 : decode cX6_dealt 52 = .ok (.iastore, 1) := by decide +kernel
theorem dX6_dealt_53 : decode cX6_dealt 53 = .ok (.iinc 4 1, 3) := by decide +kernel
theorem dX6_dealt_56 : decode cX6_dealt 56 = .ok (.goto (-36), 3) := by decide +kernel
theorem dX6_dealt_59 : decode cX6_dealt 59 = .ok (.iinc 3 (-1), 3) := by decide +kernel
theorem dX6_dealt_62 : decode cX6_dealt 62 = .ok (.goto (-49), 3) := by decide +kernel
theorem dX6_dealt_65 : decode cX6_dealt 65 = .ok (.iload_n 1, 1) := by decide +kernel
theorem dX6_dealt_66 : decode cX6_dealt 66 = .ok (.ifCond .ge 10, 3) := by decide +kernel
theorem dX6_dealt_69 : decode cX6_dealt 69 = .ok (.aload_n 0, 1) := by decide +kernel
theorem dX6_dealt_70 : decode cX6_dealt 70 = .ok (.getfield 24, 3) := by decide +kernel
theorem dX6_dealt_73 : decode cX6_dealt 73 = .ok (.iconst 0, 1) := by decide +kernel
theorem dX6_dealt_74 : decode cX6_dealt 74 = .ok (.iaload, 1) := by decide +kernel
theorem dX6_dealt_75 : decode cX6_dealt 75 = .ok (.ireturn, 1) := by decide +kernel
theorem dX6_dealt_76 : decode cX6_dealt 76 = .ok (.iconst 0, 1) := by decide +kernel
theorem dX6_dealt_77 : decode cX6_dealt 77 = .ok (.istore_n 3, 1) := by decide +kernel
theorem dX6_dealt_78 : decode cX6_dealt 78 = .ok (.iconst 0, 1) := by decide +kernel
theorem dX6_dealt_79 : decode cX6_dealt 79 = .ok (.istore 4, 2) := by decide +kernel
theorem dX6_dealt_81 : decode cX6_dealt 81 = .ok (.iload 4, 2) := by decide +kernel
theorem dX6_dealt_83 : decode cX6_dealt 83 = .ok (.iload_n 1, 1) := by decide +kernel
theorem dX6_dealt_84 : decode cX6_dealt 84 = .ok (.if_icmp .ge 22, 3) := by decide +kernel
theorem dX6_dealt_87 : decode cX6_dealt 87 = .ok (.iload_n 3, 1) := by decide +kernel
theorem dX6_dealt_88 : decode cX6_dealt 88 = .ok (.aload_n 0, 1) := by decide +kernel
theorem dX6_dealt_89 : decode cX6_dealt 89 = .ok (.iload 4, 2) := by decide +kernel
theorem dX6_dealt_91 : decode cX6_dealt 91 = .ok (.iload_n 3, 1) := by decide +kernel
theorem dX6_dealt_92 : decode cX6_dealt 92 = .ok (.invokevirtual 111, 3) := by decide +kernel
theorem dX6_dealt_95 : decode cX6_dealt 95 = .ok (.invokestatic 118, 3) := by decide +kernel
theorem dX6_dealt_98 : decode cX6_dealt 98 = .ok (.ior, 1) := by decide +kernel
theorem dX6_dealt_99 : decode cX6_dealt 99 = .ok (.istore_n 3, 1) := by decide +kernel
theorem dX6_dealt_100 : decode cX6_dealt 100 = .ok (.iinc 4 1, 3) := by decide +kernel
theorem dX6_dealt_103 : decode cX6_dealt 103 = .ok (.goto (-22), 3) := by decide +kernel
theorem dX6_dealt_106 : decode cX6_dealt 106 = .ok (.aload_n 0, 1) := by decide +kernel
theorem dX6_dealt_107 : decode cX6_dealt 107 = .ok (.iload_n 1, 1) := by decide +kernel
theorem dX6_dealt_108 : decode cX6_dealt 108 = .ok (.iload_n 3, 1) := by decide +kernel
theorem dX6_dealt_109 : decode cX6_dealt 109 = .ok (.invokevirtual 111, 3) := by decide +kernel
theorem dX6_dealt_112 : decode cX6_dealt 112 = .ok (.ireturn, 1) := by decide +kernel
theorem dX6_sortBySlow_0 : decode cX6_sortBySlow 0 = .ok (.iconst 0, 1) := by decide +kernel
theorem dX6_sortBySlow_1 : decode cX6_sortBySlow 1 = .ok (.istore_n 1, 1) := by decide +kernel
theorem dX6_sortBySlow_2 : decode cX6_sortBySlow 2 = .ok (.iload_n 1, 1) := by decide +kernel
theorem dX6_sortBySlow_3 : decode cX6_sortBySlow 3 = .ok (.aload_n 0, 1) := by decide +kernel
theorem dX6_sortBySlow_4 : decode cX6_sortBySlow 4 = .ok (.getfield 30, 3) := by decide +kernel
theorem dX6_sortBySlow_7 : decode cX6_sortBySlow 7 = .ok (.getfield 35, 3) := by decide +kernel
theorem dX6_sortBySlow_10 : decode cX6_sortBySlow 10 = .ok (.if_icmp .ge 70, 3) := by decide +kernel
theorem dX6_sortBySlow_13 : decode cX6_sortBySlow 13 = .ok (.iload_n 1, 1) := by decide +kernel
theorem dX6_sortBySlow_14 : decode cX6_sortBySlow 14 = .ok (.istore_n 2, 1) := by decide +kernel
theorem dX6_sortBySlow_15 : decode cX6_sortBySlow 15 = .ok (.iload_n 2, 1) := by decide +kernel
theorem dX6_sortBySlow_16 : decode cX6_sortBySlow 16 = .ok (.ifCond .le 43, 3) := by decide +kernel
theorem dX6_sortBySlow_19 : decode cX6_sortBySlow 19 = .ok (.aload_n 0, 1) := by decide +kernel
theorem dX6_sortBySlow_20 : decode cX6_sortBySlow 20 = .ok (.getfield 27, 3) := by decide +kernel
theorem dX6_sortBySlow_23 : decode cX6_sortBySlow 23 = .ok (.iload_n 2, 1) := by decide +kernel
theorem dX6_sortBySlow_24 : decode cX6_sortBySlow 24 = .ok (.iconst 1, 1) := by decide +kernel
theorem dX6_sortBySlow_25 : decode cX6_sortBySlow 25 = .ok (.isub, 1) := by decide +kernel
theorem dX6_sortBySlow_26 : decode cX6_sortBySlow 26 = .ok (.iaload, 1) := by decide +kernel
theorem dX6_sortBySlow_27 : decode cX6_sortBySlow 27 = .ok (.aload_n 0, 1) := by decide +kernel
theorem dX6_sortBySlow_28 : decode cX6_sortBySlow 28 = .ok (.getfield 30, 3) := by decide +kernel
theorem dX6_sortBySlow_31 : decode cX6_sortBySlow 31 = .ok (.getfield 127, 3) := by decide +kernel
theorem dX6_sortBySlow_34 : decode cX6_sortBySlow 34 = .ok (.iload_n 1, 1) := by decide +kernel
theorem dX6_sortBySlow_35 : decode cX6_sortBySlow 35 = .ok (.iaload, 1) := by decide +kernel
theorem dX6_sortBySlow_36 : decode cX6_sortBySlow 36 = .ok (.if_icmp .le 23, 3) := by decide +kernel
theorem dX6_sortBySlow_39 : decode cX6_sortBySlow 39 = .ok (.aload_n 0, 1) := by decide +kernel
theorem dX6_sortBySlow_40 : decode cX6_sortBySlow 40 = .ok (.getfield 27, 3) := by decide +kernel
theorem dX6_sortBySlow_43 : decode cX6_sortBySlow 43 = .ok (.iload_n 2, 1) := by decide +kernel
theorem dX6_sortBySlow_44 : decode cX6_sortBySlow 44 = .ok (.aload_n 0, 1) := by decide +kernel
theorem dX6_sortBySlow_45 : decode cX6_sortBySlow 45 = .ok (.getfield 27, 3) := by decide +kernel
theorem dX6_sortBySlow_48 : decode cX6_sortBySlow 48 = .ok (.iload_n 2, 1) := by decide +kernel
theorem dX6_sortBySlow_49 : decode cX6_sortBySlow 49 = .ok (.iconst 1, 1) := by decide +kernel
theorem dX6_sortBySlow_50 : decode cX6_sortBySlow 50 = .ok (.isub, 1) := by decide +kernel
theorem dX6_sortBySlow_51 : decode cX6_sortBySlow 51 = .ok (.iaload, 1) := by decide +kernel
theorem dX6_sortBySlow_52 : decode cX6_sortBySlow 52 = .ok (.iastore, 1) := by decide +kernel
theorem dX6_sortBySlow_53 : decode cX6_sortBySlow 53 = .ok (.iinc 2 (-1), 3) := by decide +kernel
theorem dX6_sortBySlow_56 : decode cX6_sortBySlow 56 = .ok (.goto (-41), 3) := by decide +kernel
theorem dX6_sortBySlow_59 : decode cX6_sortBySlow 59 = .ok (.aload_n 0, 1) := by decide +kernel
theorem dX6_sortBySlow_60 : decode cX6_sortBySlow 60 = .ok (.getfield 27, 3) := by decide +kernel
theorem dX6_sortBySlow_63 : decode cX6_sortBySlow 63 = .ok (.iload_n 2, 1) := by decide +kernel
theorem dX6_sortBySlow_64 : decode cX6_sortBySlow 64 = .ok (.aload_n 0, 1) := by decide +kernel
theorem dX6_sortBySlow_65 : decode cX6_sortBySlow 65 = .ok (.getfield 30, 3) := by decide +kernel
theorem dX6_sortBySlow_68 : decode cX6_sortBySlow 68 = .ok (.getfield 127, 3) := by decide +kernel
theorem dX6_sortBySlow_71 : decode cX6_sortBySlow 71 = .ok (.iload_n 1, 1) := by decide +kernel
theorem dX6_sortBySlow_72 : decode cX6_sortBySlow 72 = .ok (.iaload, 1) := by decide +kernel
theorem dX6_sortBySlow_73 : decode cX6_sortBySlow 73 = .ok (.iastore, 1) := by decide +kernel
theorem dX6_sortBySlow_74 : decode cX6_sortBySlow 74 = .ok (.iinc 1 1, 3) := by decide +kernel
theorem dX6_sortBySlow_77 : decode cX6_sortBySlow 77 = .ok (.goto (-75), 3) := by decide +kernel
theorem dX6_sortBySlow_80 : decode cX6_sortBySlow 80 = .ok (.return_, 1) := by decide +kernel
theorem dX6_minutesOut_0 : decode cX6_minutesOut 0 = .ok (.aload_n 0, 1) := by decide +kernel
theorem dX6_minutesOut_1 : decode cX6_minutesOut 1 = .ok (.invokevirtual 124, 3) := by decide +kernel
theorem dX6_minutesOut_4 : decode cX6_minutesOut 4 = .ok (.aload_n 0, 1) := by decide +kernel
theorem dX6_minutesOut_5 : decode cX6_minutesOut 5 = .ok (.getfield 30, 3) := by decide +kernel
theorem dX6_minutesOut_8 : decode cX6_minutesOut 8 = .ok (.getfield 35, 3) := by decide +kernel
theorem dX6_minutesOut_11 : decode cX6_minutesOut 11 = .ok (.istore_n 1, 1) := by decide +kernel
theorem dX6_minutesOut_12 : decode cX6_minutesOut 12 = .ok (.iconst 0, 1) := by decide +kernel
theorem dX6_minutesOut_13 : decode cX6_minutesOut 13 = .ok (.istore_n 2, 1) := by decide +kernel
theorem dX6_minutesOut_14 : decode cX6_minutesOut 14 = .ok (.iload_n 1, 1) := by decide +kernel
theorem dX6_minutesOut_15 : decode cX6_minutesOut 15 = .ok (.iconst 3, 1) := by decide +kernel
theorem dX6_minutesOut_16 : decode cX6_minutesOut 16 = .ok (.if_icmp .le 71, 3) := by decide +kernel
theorem dX6_minutesOut_19 : decode cX6_minutesOut 19 = .ok (.iconst 2, 1) := by decide +kernel
theorem dX6_minutesOut_20 : decode cX6_minutesOut 20 = .ok (.aload_n 0, 1) := by decide +kernel
theorem dX6_minutesOut_21 : decode cX6_minutesOut 21 = .ok (.getfield 27, 3) := by decide +kernel
theorem dX6_minutesOut_24 : decode cX6_minutesOut 24 = .ok (.iconst 0, 1) := by decide +kernel
theorem dX6_minutesOut_25 : decode cX6_minutesOut 25 = .ok (.iaload, 1) := by decide +kernel
theorem dX6_minutesOut_26 : decode cX6_minutesOut 26 = .ok (.imul, 1) := by decide +kernel
theorem dX6_minutesOut_27 : decode cX6_minutesOut 27 = .ok (.aload_n 0, 1) := by decide +kernel
theorem dX6_minutesOut_28 : decode cX6_minutesOut 28 = .ok (.getfield 27, 3) := by decide +kernel
theorem dX6_minutesOut_31 : decode cX6_minutesOut 31 = .ok (.iload_n 1, 1) := by decide +kernel
theorem dX6_minutesOut_32 : decode cX6_minutesOut 32 = .ok (.iconst 2, 1) := by decide +kernel
theorem dX6_minutesOut_33 : decode cX6_minutesOut 33 = .ok (.isub, 1) := by decide +kernel
theorem dX6_minutesOut_34 : decode cX6_minutesOut 34 = .ok (.iaload, 1) := by decide +kernel
theorem dX6_minutesOut_35 : decode cX6_minutesOut 35 = .ok (.iadd, 1) := by decide +kernel
theorem dX6_minutesOut_36 : decode cX6_minutesOut 36 = .ok (.aload_n 0, 1) := by decide +kernel
theorem dX6_minutesOut_37 : decode cX6_minutesOut 37 = .ok (.getfield 27, 3) := by decide +kernel
theorem dX6_minutesOut_40 : decode cX6_minutesOut 40 = .ok (.iload_n 1, 1) := by decide +kernel
theorem dX6_minutesOut_41 : decode cX6_minutesOut 41 = .ok (.iconst 1, 1) := by decide +kernel
theorem dX6_minutesOut_42 : decode cX6_minutesOut 42 = .ok (.isub, 1) := by decide +kernel
theorem dX6_minutesOut_43 : decode cX6_minutesOut 43 = .ok (.iaload, 1) := by decide +kernel
theorem dX6_minutesOut_44 : decode cX6_minutesOut 44 = .ok (.iadd, 1) := by decide +kernel
theorem dX6_minutesOut_45 : decode cX6_minutesOut 45 = .ok (.istore_n 3, 1) := by decide +kernel
theorem dX6_minutesOut_46 : decode cX6_minutesOut 46 = .ok (.aload_n 0, 1) := by decide +kernel
theorem dX6_minutesOut_47 : decode cX6_minutesOut 47 = .ok (.getfield 27, 3) := by decide +kernel
theorem dX6_minutesOut_50 : decode cX6_minutesOut 50 = .ok (.iconst 0, 1) := by decide +kernel
theorem dX6_minutesOut_51 : decode cX6_minutesOut 51 = .ok (.iaload, 1) := by decide +kernel
theorem dX6_minutesOut_52 : decode cX6_minutesOut 52 = .ok (.iconst 2, 1) := by decide +kernel
theorem dX6_minutesOut_53 : decode cX6_minutesOut 53 = .ok (.aload_n 0, 1) := by decide +kernel
theorem dX6_minutesOut_54 : decode cX6_minutesOut 54 = .ok (.getfield 27, 3) := by decide +kernel
theorem dX6_minutesOut_57 : decode cX6_minutesOut 57 = .ok (.iconst 1, 1) := by decide +kernel
theorem dX6_minutesOut_58 : decode cX6_minutesOut 58 = .ok (.iaload, 1) := by decide +kernel
theorem dX6_minutesOut_59 : decode cX6_minutesOut 59 = .ok (.imul, 1) := by decide +kernel
theorem dX6_minutesOut_60 : decode cX6_minutesOut 60 = .ok (.iadd, 1) := by decide +kernel
theorem dX6_minutesOut_61 : decode cX6_minutesOut 61 = .ok (.aload_n 0, 1) := by decide +kernel
theorem dX6_minutesOut_62 : decode cX6_minutesOut 62 = .ok (.getfield 27, 3) := by decide +kernel
theorem dX6_minutesOut_65 : decode cX6_minutesOut 65 = .ok (.iload_n 1, 1) := by decide +kernel
theorem dX6_minutesOut_66 : decode cX6_minutesOut 66 = .ok (.iconst 1, 1) := by decide +kernel
theorem dX6_minutesOut_67 : decode cX6_minutesOut 67 = .ok (.isub, 1) := by decide +kernel
theorem dX6_minutesOut_68 : decode cX6_minutesOut 68 = .ok (.iaload, 1) := by decide +kernel
theorem dX6_minutesOut_69 : decode cX6_minutesOut 69 = .ok (.iadd, 1) := by decide +kernel
theorem dX6_minutesOut_70 : decode cX6_minutesOut 70 = .ok (.istore 4, 2) := by decide +kernel
theorem dX6_minutesOut_72 : decode cX6_minutesOut 72 = .ok (.iload_n 2, 1) := by decide +kernel
theorem dX6_minutesOut_73 : decode cX6_minutesOut 73 = .ok (.iload_n 3, 1) := by decide +kernel
theorem dX6_minutesOut_74 : decode cX6_minutesOut 74 = .ok (.iload 4, 2) := by decide +kernel
theorem dX6_minutesOut_76 : decode cX6_minutesOut 76 = .ok (.invokestatic 49, 3) := by decide +kernel
theorem dX6_minutesOut_79 : decode cX6_minutesOut 79 = .ok (.iadd, 1) := by decide +kernel
theorem dX6_minutesOut_80 : decode cX6_minutesOut 80 = .ok (.istore_n 2, 1) := by decide +kernel
theorem dX6_minutesOut_81 : decode cX6_minutesOut 81 = .ok (.iinc 1 (-2), 3) := by decide +kernel
theorem dX6_minutesOut_84 : decode cX6_minutesOut 84 = .ok (.goto (-70), 3) := by decide +kernel
theorem dX6_minutesOut_87 : decode cX6_minutesOut 87 = .ok (.iload_n 1, 1) := by decide +kernel
theorem dX6_minutesOut_88 : decode cX6_minutesOut 88 = .ok (.iconst 3, 1) := by decide +kernel
theorem dX6_minutesOut_89 : decode cX6_minutesOut 89 = .ok (.if_icmp .ne 26, 3) := by decide +kernel
theorem dX6_minutesOut_92 : decode cX6_minutesOut 92 = .ok (.iload_n 2, 1) := by decide +kernel
theorem dX6_minutesOut_93 : decode cX6_minutesOut 93 = .ok (.aload_n 0, 1) := by decide +kernel
theorem dX6_minutesOut_94 : decode cX6_minutesOut 94 = .ok (.getfield 27, 3) := by decide +kernel
theorem dX6_minutesOut_97 : decode cX6_minutesOut 97 = .ok (.iconst 0, 1) := by decide +kernel
theorem dX6_minutesOut_98 : decode cX6_minutesOut 98 = .ok (.iaload, 1) := by decide +kernel
theorem dX6_minutesOut_99 : decode cX6_minutesOut 99 = .ok (.iadd, 1) := by decide +kernel
theorem dX6_minutesOut_100 : decode cX6_minutesOut 100 = .ok (.aload_n 0, 1) := by decide +kernel
theorem dX6_minutesOut_101 : decode cX6_minutesOut 101 = .ok (.getfield 27, 3) := by decide +kernel
theorem dX6_minutesOut_104 : decode cX6_minutesOut 104 = .ok (.iconst 1, 1) := by decide +kernel
theorem dX6_minutesOut_105 : decode cX6_minutesOut 105 = .ok (.iaload, 1) := by decide +kernel
theorem dX6_minutesOut_106 : decode cX6_minutesOut 106 = .ok (.iadd, 1) := by decide +kernel
theorem dX6_minutesOut_107 : decode cX6_minutesOut 107 = .ok (.aload_n 0, 1) := by decide +kernel
theorem dX6_minutesOut_108 : decode cX6_minutesOut 108 = .ok (.getfield 27, 3) := by decide +kernel
theorem dX6_minutesOut_111 : decode cX6_minutesOut 111 = .ok (.iconst 2, 1) := by decide +kernel
theorem dX6_minutesOut_112 : decode cX6_minutesOut 112 = .ok (.iaload, 1) := by decide +kernel
theorem dX6_minutesOut_113 : decode cX6_minutesOut 113 = .ok (.iadd, 1) := by decide +kernel
theorem dX6_minutesOut_114 : decode cX6_minutesOut 114 = .ok (.ireturn, 1) := by decide +kernel
theorem dX6_minutesOut_115 : decode cX6_minutesOut 115 = .ok (.iload_n 1, 1) := by decide +kernel
theorem dX6_minutesOut_116 : decode cX6_minutesOut 116 = .ok (.ifCond .ne 7, 3) := by decide +kernel
theorem dX6_minutesOut_119 : decode cX6_minutesOut 119 = .ok (.iconst 0, 1) := by decide +kernel
theorem dX6_minutesOut_120 : decode cX6_minutesOut 120 = .ok (.goto 13, 3) := by decide +kernel
theorem dX6_minutesOut_123 : decode cX6_minutesOut 123 = .ok (.iload_n 2, 1) := by decide +kernel
theorem dX6_minutesOut_124 : decode cX6_minutesOut 124 = .ok (.aload_n 0, 1) := by decide +kernel
theorem dX6_minutesOut_125 : decode cX6_minutesOut 125 = .ok (.getfield 27, 3) := by decide +kernel
theorem dX6_minutesOut_128 : decode cX6_minutesOut 128 = .ok (.iload_n 1, 1) := by decide +kernel
theorem dX6_minutesOut_129 : decode cX6_minutesOut 129 = .ok (.iconst 1, 1) := by decide +kernel
theorem dX6_minutesOut_130 : decode cX6_minutesOut 130 = .ok (.isub, 1) := by decide +kernel
theorem dX6_minutesOut_131 : decode cX6_minutesOut 131 = .ok (.iaload, 1) := by decide +kernel
theorem dX6_minutesOut_132 : decode cX6_minutesOut 132 = .ok (.iadd, 1) := by decide +kernel
theorem dX6_minutesOut_133 : decode cX6_minutesOut 133 = .ok (.ireturn, 1) := by decide +kernel
theorem dX7_isWithin_0 : decode cX7_isWithin 0 = .ok (.iload_n 0, 1) := by decide +kernel
theorem dX7_isWithin_1 : decode cX7_isWithin 1 = .ok (.iload_n 1, 1) := by decide +kernel
theorem dX7_isWithin_2 : decode cX7_isWithin 2 = .ok (.if_icmp .lt 12, 3) := by decide +kernel
theorem dX7_isWithin_5 : decode cX7_isWithin 5 = .ok (.iload_n 0, 1) := by decide +kernel
theorem dX7_isWithin_6 : decode cX7_isWithin 6 = .ok (.iload_n 2, 1) := by decide +kernel
theorem dX7_isWithin_7 : decode cX7_isWithin 7 = .ok (.if_icmp .gt 7, 3) := by decide +kernel
theorem dX7_isWithin_10 : decode cX7_isWithin 10 = .ok (.iconst 1, 1) := by decide +kernel
theorem dX7_isWithin_11 : decode cX7_isWithin 11 = .ok (.goto 4, 3) := by decide +kernel
theorem dX7_isWithin_14 : decode cX7_isWithin 14 = .ok (.iconst 0, 1) := by decide +kernel
theorem dX7_isWithin_15 : decode cX7_isWithin 15 = .ok (.ireturn, 1) := by decide +kernel
theorem dX7_welcome_0 : decode cX7_welcome 0 = .ok (.aload_n 0, 1) := by decide +kernel
theorem dX7_welcome_1 : decode cX7_welcome 1 = .ok (.getfield 10, 3) := by decide +kernel
theorem dX7_welcome_4 : decode cX7_welcome 4 = .ok (.getfield 67, 3) := by decide +kernel
theorem dX7_welcome_7 : decode cX7_welcome 7 = .ok (.istore 4, 2) := by decide +kernel
theorem dX7_welcome_9 : decode cX7_welcome 9 = .ok (.aload_n 0, 1) := by decide +kernel
theorem dX7_welcome_10 : decode cX7_welcome 10 = .ok (.getfield 10, 3) := by decide +kernel
theorem dX7_welcome_13 : decode cX7_welcome 13 = .ok (.getfield 91, 3) := by decide +kernel
theorem dX7_welcome_16 : decode cX7_welcome 16 = .ok (.iload 4, 2) := by decide +kernel
theorem dX7_welcome_18 : decode cX7_welcome 18 = .ok (.iload_n 1, 1) := by decide +kernel
theorem dX7_welcome_19 : decode cX7_welcome 19 = .ok (.iastore, 1) := by decide +kernel
theorem dX7_welcome_20 : decode cX7_welcome 20 = .ok (.aload_n 0, 1) := by decide +kernel
theorem dX7_welcome_21 : decode cX7_welcome 21 = .ok (.getfield 10, 3) := by decide +kernel
theorem dX7_welcome_24 : decode cX7_welcome 24 = .ok (.getfield 94, 3) := by decide +kernel
theorem dX7_welcome_27 : decode cX7_welcome 27 = .ok (.iload 4, 2) := by decide +kernel
theorem dX7_welcome_29 : decode cX7_welcome 29 = .ok (.iconst 3, 1) := by decide +kernel
theorem dX7_welcome_30 : decode cX7_welcome 30 = .ok (.iastore, 1) := by decide +kernel
theorem dX7_welcome_31 : decode cX7_welcome 31 = .ok (.aload_n 0, 1) := by decide +kernel
theorem dX7_welcome_32 : decode cX7_welcome 32 = .ok (.getfield 19, 3) := by decide +kernel
theorem dX7_welcome_35 : decode cX7_welcome 35 = .ok (.getfield 97, 3) := by decide +kernel
theorem dX7_welcome_38 : decode cX7_welcome 38 = .ok (.iload 4, 2) := by decide +kernel
theorem dX7_welcome_40 : decode cX7_welcome 40 = .ok (.iload_n 2, 1) := by decide +kernel
theorem dX7_welcome_41 : decode cX7_welcome 41 = .ok (.iastore, 1) := by decide +kernel
theorem dX7_welcome_42 : decode cX7_welcome 42 = .ok (.aload_n 0, 1) := by decide +kernel
theorem dX7_welcome_43 : decode cX7_welcome 43 = .ok (.getfield 19, 3) := by decide +kernel
theorem dX7_welcome_46 : decode cX7_welcome 46 = .ok (.getfield 100, 3) := by decide +kernel
theorem dX7_welcome_49 : decode cX7_welcome 49 = .ok (.iload 4, 2) := by decide +kernel
theorem dX7_welcome_51 : decode cX7_welcome 51 = .ok (.iload_n 3, 1) := by decide +kernel
theorem dX7_welcome_52 : decode cX7_welcome 52 = .ok (.iastore, 1) := by decide +kernel
theorem dX7_welcome_53 : decode cX7_welcome 53 = .ok (.aload_n 0, 1) := by decide +kernel
theorem dX7_welcome_54 : decode cX7_welcome 54 = .ok (.getfield 10, 3) := by decide +kernel
theorem dX7_welcome_57 : decode cX7_welcome 57 = .ok (.iload 4, 2) := by decide +kernel
theorem dX7_welcome_59 : decode cX7_welcome 59 = .ok (.iconst 1, 1) := by decide +kernel
theorem dX7_welcome_60 : decode cX7_welcome 60 = .ok (.iadd, 1) := by decide +kernel
theorem dX7_welcome_61 : decode cX7_welcome 61 = .ok (.putfield 67, 3) := by decide +kernel
theorem dX7_welcome_64 : decode cX7_welcome 64 = .ok (.iload 4, 2) := by decide +kernel
theorem dX7_welcome_66 : decode cX7_welcome 66 = .ok (.ireturn, 1) := by decide +kernel
theorem dX7_brother_0 : decode cX7_brother 0 = .ok (.iload_n 1, 1) := by decide +kernel
theorem dX7_brother_1 : decode cX7_brother 1 = .ok (.iconst 0, 1) := by decide +kernel
theorem dX7_brother_2 : decode cX7_brother 2 = .ok (.bipush 127, 2) := by decide +kernel
theorem dX7_brother_4 : decode cX7_brother 4 = .ok (.invokestatic 63, 3) := by decide +kernel
theorem dX7_brother_7 : decode cX7_brother 7 = .ok (.ifCond .ne 5, 3) := by decide +kernel
theorem dX7_brother_10 : decode cX7_brother 10 = .ok (.iconst (-1), 1) := by decide +kernel
theorem dX7_brother_11 : decode cX7_brother 11 = .ok (.ireturn, 1) := by decide +kernel
theorem dX7_brother_12 : decode cX7_brother 12 = .ok (.aload_n 0, 1) := by decide +kernel
theorem dX7_brother_13 : decode cX7_brother 13 = .ok (.getfield 10, 3) := by decide +kernel
theorem dX7_brother_16 : decode cX7_brother 16 = .ok (.getfield 67, 3) := by decide +kernel
theorem dX7_brother_19 : decode cX7_brother 19 = .ok (.bipush 7, 2) := by decide +kernel
theorem dX7_brother_21 : decode cX7_brother 21 = .ok (.if_icmp .ne 8, 3) := by decide +kernel
theorem dX7_brother_24 : decode cX7_brother 24 = .ok (.bipush (-3), 2) := by decide +kernel
theorem dX7_brother_26 : decode cX7_brother 26 = .ok (.goto 10, 3) := by decide +kernel
theorem dX7_brother_29 : decode cX7_brother 29 = .ok (.aload_n 0, 1) := by decide +kernel
theorem dX7_brother_30 : decode cX7_brother 30 = .ok (.iload_n 1, 1) := by decide +kernel
theorem dX7_brother_31 : decode cX7_brother 31 = .ok (.iconst 0, 1) := by decide +kernel
theorem dX7_brother_32 : decode cX7_brother 32 = .ok (.iconst 0, 1) := by decide +kernel
theorem dX7_brother_33 : decode cX7_brother 33 = .ok (.invokevirtual 71, 3) := by decide +kernel
theorem dX7_brother_36 : decode cX7_brother 36 = .ok (.ireturn, 1) := by decide +kernel
theorem dX7_comesFrom_0 : decode cX7_comesFrom 0 = .ok (.iload_n 2, 1) := by decide +kernel
theorem dX7_comesFrom_1 : decode cX7_comesFrom 1 = .ok (.ifCond .lt 25, 3) := by decide +kernel
theorem dX7_comesFrom_4 : decode cX7_comesFrom 4 = .ok (.iload_n 2, 1) := by decide +kernel
theorem dX7_comesFrom_5 : decode cX7_comesFrom 5 = .ok (.aload_n 1, 1) := by decide +kernel
theorem dX7_comesFrom_6 : decode cX7_comesFrom 6 = .ok (.getfield 86, 3) := by decide +kernel
theorem dX7_comesFrom_9 : decode cX7_comesFrom 9 = .ok (.iconst 3, 1) := by decide +kernel
theorem dX7_comesFrom_10 : decode cX7_comesFrom 10 = .ok (.isub, 1) := by decide +kernel
theorem dX7_comesFrom_11 : decode cX7_comesFrom 11 = .ok (.if_icmp .gt 15, 3) := by decide +kernel
theorem dX7_comesFrom_14 : decode cX7_comesFrom 14 = .ok (.aload_n 0, 1) := by decide +kernel
theorem dX7_comesFrom_15 : decode cX7_comesFrom 15 = .ok (.getfield 10, 3) := by decide +kernel
theorem dX7_comesFrom_18 : decode cX7_comesFrom 18 = .ok (.getfield 67, 3) := by decide +kernel
theorem dX7_comesFrom_21 : decode cX7_comesFrom 21 = .ok (.bipush 7, 2) := by decide +kernel
theorem dX7_comesFrom_23 : decode cX7_comesFrom 23 = .ok (.if_icmp .ne 5, 3) := by decide +kernel
theorem dX7_comesFrom_26 : decode cX7_comesFrom 26 = .ok (.iconst 0, 1) := by decide +kernel
theorem dX7_comesFrom_27 : decode cX7_comesFrom 27 = .ok (.ireturn, 1) := by decide +kernel
theorem dX7_comesFrom_28 : decode cX7_comesFrom 28 = .ok (.aload_n 1, 1) := by decide +kernel
theorem dX7_comesFrom_29 : decode cX7_comesFrom 29 = .ok (.getfield 87, 3) := by decide +kernel
theorem dX7_comesFrom_32 : decode cX7_comesFrom 32 = .ok (.iload_n 2, 1) := by decide +kernel
theorem dX7_comesFrom_33 : decode cX7_comesFrom 33 = .ok (.laload, 1) := by decide +kernel
theorem dX7_comesFrom_34 : decode cX7_comesFrom 34 = .ok (.l2i, 1) := by decide +kernel
theorem dX7_comesFrom_35 : decode cX7_comesFrom 35 = .ok (.istore_n 3, 1) := by decide +kernel
theorem dX7_comesFrom_36 : decode cX7_comesFrom 36 = .ok (.aload_n 1, 1) := by decide +kernel
theorem dX7_comesFrom_37 : decode cX7_comesFrom 37 = .ok (.getfield 87, 3) := by decide +kernel
theorem dX7_comesFrom_40 : decode cX7_comesFrom 40 = .ok (.iload_n 2, 1) := by decide +kernel
theorem dX7_comesFrom_41 : decode cX7_comesFrom 41 = .ok (.iconst 1, 1) := by decide +kernel
theorem dX7_comesFrom_42 : decode cX7_comesFrom 42 = .ok (.iadd, 1) := by decide +kernel
theorem dX7_comesFrom_43 : decode cX7_comesFrom 43 = .ok (.laload, 1) := by decide +kernel
theorem dX7_comesFrom_44 : decode cX7_comesFrom 44 = .ok (.l2i, 1) := by decide +kernel
theorem dX7_comesFrom_45 : decode cX7_comesFrom 45 = .ok (.istore 4, 2) := by decide +kernel
theorem dX7_comesFrom_47 : decode cX7_comesFrom 47 = .ok (.aload_n 1, 1) := by decide +kernel
theorem dX7_comesFrom_48 : decode cX7_comesFrom 48 = .ok (.getfield 87, 3) := by decide +kernel
theorem dX7_comesFrom_51 : decode cX7_comesFrom 51 = .ok (.iload_n 2, 1) := by decide +kernel
theorem dX7_comesFrom_52 : decode cX7_comesFrom 52 = .ok (.iconst 2, 1) := by decide +kernel
theorem dX7_comesFrom_53 : decode cX7_comesFrom 53 = .ok (.iadd, 1) := by decide +kernel
theorem dX7_comesFrom_54 : decode cX7_comesFrom 54 = .ok (.laload, 1) := by decide +kernel
theorem dX7_comesFrom_55 : decode cX7_comesFrom 55 = .ok (.l2i, 1) := by decide +kernel
theorem dX7_comesFrom_56 : decode cX7_comesFrom 56 = .ok (.istore 5, 2) := by decide +kernel
theorem dX7_comesFrom_58 : decode cX7_comesFrom 58 = .ok (.iload_n 3, 1) := by decide +kernel
theorem dX7_comesFrom_59 : decode cX7_comesFrom 59 = .ok (.iconst 0, 1) := by decide +kernel
theorem dX7_comesFrom_60 : decode cX7_comesFrom 60 = .ok (.bipush 127, 2) := by decide +kernel
theorem dX7_comesFrom_62 : decode cX7_comesFrom 62 = .ok (.invokestatic 63, 3) := by decide +kernel
theorem dX7_comesFrom_65 : decode cX7_comesFrom 65 = .ok (.ifCond .eq 26, 3) := by decide +kernel
theorem dX7_comesFrom_68 : decode cX7_comesFrom 68 = .ok (.iload 4, 2) := by decide +kernel
theorem dX7_comesFrom_70 : decode cX7_comesFrom 70 = .ok (.iconst 0, 1) := by decide +kernel
theorem dX7_comesFrom_71 : decode cX7_comesFrom 71 = .ok (.bipush 99, 2) := by decide +kernel
theorem dX7_comesFrom_73 : decode cX7_comesFrom 73 = .ok (.invokestatic 63, 3) := by decide +kernel
theorem dX7_comesFrom_76 : decode cX7_comesFrom 76 = .ok (.ifCond .eq 15, 3) := by decide +kernel
theorem dX7_comesFrom_79 : decode cX7_comesFrom 79 = .ok (.iload 5, 2) := by decide +kernel
theorem dX7_comesFrom_81 : decode cX7_comesFrom 81 = .ok (.iconst 0, 1) := by decide +kernel
theorem dX7_comesFrom_82 : decode cX7_comesFrom 82 = .ok (.sipush 255, 3) := by decide +kernel
theorem dX7_comesFrom_85 : decode cX7_comesFrom 85 = .ok (.invokestatic 63, 3) := by decide +kernel
theorem dX7_comesFrom_88 : decode cX7_comesFrom 88 = .ok (.ifCond .ne 5, 3) := by decide +kernel
theorem dX7_comesFrom_91 : decode cX7_comesFrom 91 = .ok (.iconst 0, 1) := by decide +kernel
theorem dX7_comesFrom_92 : decode cX7_comesFrom 92 = .ok (.ireturn, 1) := by decide +kernel
theorem dX7_comesFrom_93 : decode cX7_comesFrom 93 = .ok (.aload_n 0, 1) := by decide +kernel
theorem dX7_comesFrom_94 : decode cX7_comesFrom 94 = .ok (.iload_n 3, 1) := by decide +kernel
theorem dX7_comesFrom_95 : decode cX7_comesFrom 95 = .ok (.iload 4, 2) := by decide +kernel
theorem dX7_comesFrom_97 : decode cX7_comesFrom 97 = .ok (.iload 5, 2) := by decide +kernel
theorem dX7_comesFrom_99 : decode cX7_comesFrom 99 = .ok (.invokevirtual 71, 3) := by decide +kernel
theorem dX7_comesFrom_102 : decode cX7_comesFrom 102 = .ok (.pop, 1) := by decide +kernel
theorem dX7_comesFrom_103 : decode cX7_comesFrom 103 = .ok (.iconst 1, 1) := by decide +kernel
theorem dX7_comesFrom_104 : decode cX7_comesFrom 104 = .ok (.ireturn, 1) := by decide +kernel
theorem dX7_isShelf_0 : decode cX7_isShelf 0 = .ok (.iload_n 0, 1) := by decide +kernel
theorem dX7_isShelf_1 : decode cX7_isShelf 1 = .ok (.iconst 0, 1) := by decide +kernel
theorem dX7_isShelf_2 : decode cX7_isShelf 2 = .ok (.iconst 5, 1) := by decide +kernel
theorem dX7_isShelf_3 : decode cX7_isShelf 3 = .ok (.invokestatic 63, 3) := by decide +kernel
theorem dX7_isShelf_6 : decode cX7_isShelf 6 = .ok (.ireturn, 1) := by decide +kernel
theorem dX7_brothers_0 : decode cX7_brothers 0 = .ok (.iload_n 1, 1) := by decide +kernel
theorem dX7_brothers_1 : decode cX7_brothers 1 = .ok (.invokestatic 75, 3) := by decide +kernel
theorem dX7_brothers_4 : decode cX7_brothers 4 = .ok (.ifCond .eq 13, 3) := by decide +kernel
theorem dX7_brothers_7 : decode cX7_brothers 7 = .ok (.iload_n 3, 1) := by decide +kernel
theorem dX7_brothers_8 : decode cX7_brothers 8 = .ok (.iconst 1, 1) := by decide +kernel
theorem dX7_brothers_9 : decode cX7_brothers 9 = .ok (.bipush 7, 2) := by decide +kernel
theorem dX7_brothers_11 : decode cX7_brothers 11 = .ok (.invokestatic 63, 3) := by decide +kernel
theorem dX7_brothers_14 : decode cX7_brothers 14 = .ok (.ifCond .ne 5, 3) := by decide +kernel
theorem dX7_brothers_17 : decode cX7_brothers 17 = .ok (.iconst (-1), 1) := by decide +kernel
theorem dX7_brothers_18 : decode cX7_brothers 18 = .ok (.ireturn, 1) := by decide +kernel
theorem dX7_brothers_19 : decode cX7_brothers 19 = .ok (.aload_n 0, 1) := by decide +kernel
theorem dX7_brothers_20 : decode cX7_brothers 20 = .ok (.getfield 58, 3) := by decide +kernel
theorem dX7_brothers_23 : decode cX7_brothers 23 = .ok (.iload_n 1, 1) := by decide +kernel
theorem dX7_brothers_24 : decode cX7_brothers 24 = .ok (.aaload, 1) := by decide +kernel
theorem dX7_brothers_25 : decode cX7_brothers 25 = .ok (.astore 4, 2) := by decide +kernel
theorem dX7_brothers_27 : decode cX7_brothers 27 = .ok (.aload 4, 2) := by decide +kernel
theorem dX7_brothers_29 : decode cX7_brothers 29 = .ok (.getfield 79, 3) := by decide +kernel
theorem dX7_brothers_32 : decode cX7_brothers 32 = .ok (.bipush (-2), 2) := by decide +kernel
theorem dX7_brothers_34 : decode cX7_brothers 34 = .ok (.if_icmp .ne 5, 3) := by decide +kernel
theorem dX7_brothers_37 : decode cX7_brothers 37 = .ok (.iconst 0, 1) := by decide +kernel
theorem dX7_brothers_38 : decode cX7_brothers 38 = .ok (.ireturn, 1) := by decide +kernel
theorem dX7_brothers_39 : decode cX7_brothers 39 = .ok (.aload 4, 2) := by decide +kernel
theorem dX7_brothers_41 : decode cX7_brothers 41 = .ok (.getfield 79, 3) := by decide +kernel
theorem dX7_brothers_44 : decode cX7_brothers 44 = .ok (.iconst 1, 1) := by decide +kernel
theorem dX7_brothers_45 : decode cX7_brothers 45 = .ok (.if_icmp .eq 6, 3) := by decide +kernel
theorem dX7_brothers_48 : decode cX7_brothers 48 = .ok (.bipush (-12), 2) := by decide +kernel
theorem dX7_brothers_50 : decode cX7_brothers 50 = .ok (.ireturn, 1) := by decide +kernel
theorem dX7_brothers_51 : decode cX7_brothers 51 = .ok (.iconst 0, 1) := by decide +kernel
theorem dX7_brothers_52 : decode cX7_brothers 52 = .ok (.istore 5, 2) := by decide +kernel
theorem dX7_brothers_54 : decode cX7_brothers 54 = .ok (.iload_n 2, 1) := by decide +kernel
theorem dX7_brothers_55 : decode cX7_brothers 55 = .ok (.istore 6, 2) := by decide +kernel
theorem dX7_brothers_57 : decode cX7_brothers 57 = .ok (.iload 5, 2) := by decide +kernel
theorem dX7_brothers_59 : decode cX7_brothers 59 = .ok (.iload_n 3, 1) := by decide +kernel
theorem dX7_brothers_60 : decode cX7_brothers 60 = .ok (.if_icmp .ge 23, 3) := by decide +kernel
theorem dX7_brothers_63 : decode cX7_brothers 63 = .ok (.aload_n 0, 1) := by decide +kernel
theorem dX7_brothers_64 : decode cX7_brothers 64 = .ok (.aload 4, 2) := by decide +kernel
theorem dX7_brothers_66 : decode cX7_brothers 66 = .ok (.iload 6, 2) := by decide +kernel
theorem dX7_brothers_68 : decode cX7_brothers 68 = .ok (.invokevirtual 82, 3) := by decide +kernel
theorem dX7_brothers_71 : decode cX7_brothers 71 = .ok (.ifCond .eq 12, 3) := by decide +kernel
theorem dX7_brothers_74 : decode cX7_brothers 74 = .ok (.iinc 5 1, 3) := by decide +kernel
theorem dX7_brothers_77 : decode cX7_brothers 77 = .ok (.iinc 6 3, 3) := by decide +kernel
theorem dX7_brothers_80 : decode cX7_brothers 80 = .ok (.goto (-23), 3) := by decide +kernel
theorem dX7_brothers_83 : decode cX7_brothers 83 = .ok (.iload 5, 2) := by decide +kernel
theorem dX7_brothers_85 : decode cX7_brothers 85 = .ok (.ireturn, 1) := by decide +kernel
theorem dX7_become_0 : decode cX7_become 0 = .ok (.iload_n 2, 1) := by decide +kernel
theorem dX7_become_1 : decode cX7_become 1 = .ok (.tableswitch 132 0 6 #[43, 56, 69, 82, 95, 108, 121], 43) := by decide +kernel
theorem dX7_become_44 : decode cX7_become 44 = .ok (.aload_n 0, 1) := by decide +kernel
theorem dX7_become_45 : decode cX7_become 45 = .ok (.getfield 10, 3) := by decide +kernel
theorem dX7_become_48 : decode cX7_become 48 = .ok (.getfield 91, 3) := by decide +kernel
theorem dX7_become_51 : decode cX7_become 51 = .ok (.iload_n 1, 1) := by decide +kernel
theorem dX7_become_52 : decode cX7_become 52 = .ok (.iload_n 3, 1) := by decide +kernel
theorem dX7_become_53 : decode cX7_become 53 = .ok (.iastore, 1) := by decide +kernel
theorem dX7_become_54 : decode cX7_become 54 = .ok (.goto 87, 3) := by decide +kernel
theorem dX7_become_57 : decode cX7_become 57 = .ok (.aload_n 0, 1) := by decide +kernel
theorem dX7_become_58 : decode cX7_become 58 = .ok (.getfield 19, 3) := by decide +kernel
theorem dX7_become_61 : decode cX7_become 61 = .ok (.getfield 97, 3) := by decide +kernel
theorem dX7_become_64 : decode cX7_become 64 = .ok (.iload_n 1, 1) := by decide +kernel
theorem dX7_become_65 : decode cX7_become 65 = .ok (.iload_n 3, 1) := by decide +kernel
theorem dX7_become_66 : decode cX7_become 66 = .ok (.iastore, 1) := by decide +kernel
theorem dX7_become_67 : decode cX7_become 67 = .ok (.goto 74, 3) := by decide +kernel
theorem dX7_become_70 : decode cX7_become 70 = .ok (.aload_n 0, 1) := by decide +kernel
theorem dX7_become_71 : decode cX7_become 71 = .ok (.getfield 19, 3) := by decide +kernel
theorem dX7_become_74 : decode cX7_become 74 = .ok (.getfield 100, 3) := by decide +kernel
theorem dX7_become_77 : decode cX7_become 77 = .ok (.iload_n 1, 1) := by decide +kernel
theorem dX7_become_78 : decode cX7_become 78 = .ok (.iload_n 3, 1) := by decide +kernel
theorem dX7_become_79 : decode cX7_become 79 = .ok (.iastore, 1) := by decide +kernel
theorem dX7_become_80 : decode cX7_become 80 = .ok (.goto 61, 3) := by decide +kernel
theorem dX7_become_83 : decode cX7_become 83 = .ok (.aload_n 0, 1) := by decide +kernel
theorem dX7_become_84 : decode cX7_become 84 = .ok (.getfield 10, 3) := by decide +kernel
theorem dX7_become_87 : decode cX7_become 87 = .ok (.getfield 94, 3) := by decide +kernel
theorem dX7_become_90 : decode cX7_become 90 = .ok (.iload_n 1, 1) := by decide +kernel
theorem dX7_become_91 : decode cX7_become 91 = .ok (.iload_n 3, 1) := by decide +kernel
theorem dX7_become_92 : decode cX7_become 92 = .ok (.iastore, 1) := by decide +kernel
theorem dX7_become_93 : decode cX7_become 93 = .ok (.goto 48, 3) := by decide +kernel
theorem dX7_become_96 : decode cX7_become 96 = .ok (.aload_n 0, 1) := by decide +kernel
theorem dX7_become_97 : decode cX7_become 97 = .ok (.getfield 10, 3) := by decide +kernel
theorem dX7_become_100 : decode cX7_become 100 = .ok (.getfield 128, 3) := by decide +kernel
theorem dX7_become_103 : decode cX7_become 103 = .ok (.iload_n 1, 1) := by decide +kernel
theorem dX7_become_104 : decode cX7_become 104 = .ok (.iload_n 3, 1) := by decide +kernel
theorem dX7_become_105 : decode cX7_become 105 = .ok (.iastore, 1) := by decide +kernel
theorem dX7_become_106 : decode cX7_become 106 = .ok (.goto 35, 3) := by decide +kernel
theorem dX7_become_109 : decode cX7_become 109 = .ok (.aload_n 0, 1) := by decide +kernel
theorem dX7_become_110 : decode cX7_become 110 = .ok (.getfield 10, 3) := by decide +kernel
theorem dX7_become_113 : decode cX7_become 113 = .ok (.getfield 131, 3) := by decide +kernel
theorem dX7_become_116 : decode cX7_become 116 = .ok (.iload_n 1, 1) := by decide +kernel
theorem dX7_become_117 : decode cX7_become 117 = .ok (.iload_n 3, 1) := by decide +kernel
theorem dX7_become_118 : decode cX7_become 118 = .ok (.iastore, 1) := by decide +kernel
theorem dX7_become_119 : decode cX7_become 119 = .ok (.goto 22, 3) := by decide +kernel
theorem dX7_become_122 : decode cX7_become 122 = .ok (.aload_n 0, 1) := by decide +kernel
theorem dX7_become_123 : decode cX7_become 123 = .ok (.getfield 19, 3) := by decide +kernel
theorem dX7_become_126 : decode cX7_become 126 = .ok (.iload_n 3, 1) := by decide +kernel
theorem dX7_become_127 : decode cX7_become 127 = .ok (.putfield 134, 3) := by decide +kernel
theorem dX7_become_130 : decode cX7_become 130 = .ok (.goto 11, 3) := by decide +kernel
theorem dX7_become_133 : decode cX7_become 133 = .ok (.aload_n 0, 1) := by decide +kernel
theorem dX7_become_134 : decode cX7_become 134 = .ok (.getfield 19, 3) := by decide +kernel
theorem dX7_become_137 : decode cX7_become 137 = .ok (.iload_n 3, 1) := by decide +kernel
theorem dX7_become_138 : decode cX7_become 138 = .ok (.putfield 137, 3) := by decide +kernel
theorem dX7_become_141 : decode cX7_become 141 = .ok (.return_, 1) := by decide +kernel
theorem dX7_isNumber_0 : decode cX7_isNumber 0 = .ok (.iload_n 2, 1) := by decide +kernel
theorem dX7_isNumber_1 : decode cX7_isNumber 1 = .ok (.iconst 0, 1) := by decide +kernel
theorem dX7_isNumber_2 : decode cX7_isNumber 2 = .ok (.bipush 7, 2) := by decide +kernel
theorem dX7_isNumber_4 : decode cX7_isNumber 4 = .ok (.invokestatic 63, 3) := by decide +kernel
theorem dX7_isNumber_7 : decode cX7_isNumber 7 = .ok (.ifCond .ne 5, 3) := by decide +kernel
theorem dX7_isNumber_10 : decode cX7_isNumber 10 = .ok (.iconst 0, 1) := by decide +kernel
theorem dX7_isNumber_11 : decode cX7_isNumber 11 = .ok (.ireturn, 1) := by decide +kernel
theorem dX7_isNumber_12 : decode cX7_isNumber 12 = .ok (.iload_n 2, 1) := by decide +kernel
theorem dX7_isNumber_13 : decode cX7_isNumber 13 = .ok (.iconst 3, 1) := by decide +kernel
theorem dX7_isNumber_14 : decode cX7_isNumber 14 = .ok (.if_icmp .gt 12, 3) := by decide +kernel
theorem dX7_isNumber_17 : decode cX7_isNumber 17 = .ok (.aload_n 0, 1) := by decide +kernel
theorem dX7_isNumber_18 : decode cX7_isNumber 18 = .ok (.getfield 10, 3) := by decide +kernel
theorem dX7_isNumber_21 : decode cX7_isNumber 21 = .ok (.iload_n 1, 1) := by decide +kernel
theorem dX7_isNumber_22 : decode cX7_isNumber 22 = .ok (.invokevirtual 125, 3) := by decide +kernel
theorem dX7_isNumber_25 : decode cX7_isNumber 25 = .ok (.ireturn, 1) := by decide +kernel
theorem dX7_isNumber_26 : decode cX7_isNumber 26 = .ok (.iload_n 2, 1) := by decide +kernel
theorem dX7_isNumber_27 : decode cX7_isNumber 27 = .ok (.iconst 5, 1) := by decide +kernel
theorem dX7_isNumber_28 : decode cX7_isNumber 28 = .ok (.if_icmp .gt 13, 3) := by decide +kernel
theorem dX7_isNumber_31 : decode cX7_isNumber 31 = .ok (.iload_n 1, 1) := by decide +kernel
theorem dX7_isNumber_32 : decode cX7_isNumber 32 = .ok (.iconst 0, 1) := by decide +kernel
theorem dX7_isNumber_33 : decode cX7_isNumber 33 = .ok (.bipush 6, 2) := by decide +kernel
theorem dX7_isNumber_35 : decode cX7_isNumber 35 = .ok (.invokestatic 63, 3) := by decide +kernel
theorem dX7_isNumber_38 : decode cX7_isNumber 38 = .ok (.goto 12, 3) := by decide +kernel
theorem dX7_isNumber_41 : decode cX7_isNumber 41 = .ok (.iload_n 1, 1) := by decide +kernel
theorem dX7_isNumber_42 : decode cX7_isNumber 42 = .ok (.ifCond .ne 7, 3) := by decide +kernel
theorem dX7_isNumber_45 : decode cX7_isNumber 45 = .ok (.iconst 1, 1) := by decide +kernel
theorem dX7_isNumber_46 : decode cX7_isNumber 46 = .ok (.goto 4, 3) := by decide +kernel
theorem dX7_isNumber_49 : decode cX7_isNumber 49 = .ok (.iconst 0, 1) := by decide +kernel
theorem dX7_isNumber_50 : decode cX7_isNumber 50 = .ok (.ireturn, 1) := by decide +kernel
theorem dX7_numberOf_0 : decode cX7_numberOf 0 = .ok (.iload_n 2, 1) := by decide +kernel
theorem dX7_numberOf_1 : decode cX7_numberOf 1 = .ok (.tableswitch 111 0 6 #[43, 53, 63, 73, 83, 93, 103], 43) := by decide +kernel
theorem dX7_numberOf_44 : decode cX7_numberOf 44 = .ok (.aload_n 0, 1) := by decide +kernel
theorem dX7_numberOf_45 : decode cX7_numberOf 45 = .ok (.getfield 10, 3) := by decide +kernel
theorem dX7_numberOf_48 : decode cX7_numberOf 48 = .ok (.getfield 91, 3) := by decide +kernel
theorem dX7_numberOf_51 : decode cX7_numberOf 51 = .ok (.iload_n 1, 1) := by decide +kernel
theorem dX7_numberOf_52 : decode cX7_numberOf 52 = .ok (.iaload, 1) := by decide +kernel
theorem dX7_numberOf_53 : decode cX7_numberOf 53 = .ok (.ireturn, 1) := by decide +kernel
theorem dX7_numberOf_54 : decode cX7_numberOf 54 = .ok (.aload_n 0, 1) := by decide +kernel
theorem dX7_numberOf_55 : decode cX7_numberOf 55 = .ok (.getfield 19, 3) := by decide +kernel
theorem dX7_numberOf_58 : decode cX7_numberOf 58 = .ok (.getfield 97, 3) := by decide +kernel
theorem dX7_numberOf_61 : decode cX7_numberOf 61 = .ok (.iload_n 1, 1) := by decide +kernel
theorem dX7_numberOf_62 : decode cX7_numberOf 62 = .ok (.iaload, 1) := by decide +kernel
theorem dX7_numberOf_63 : decode cX7_numberOf 63 = .ok (.ireturn, 1) := by decide +kernel
theorem dX7_numberOf_64 : decode cX7_numberOf 64 = .ok (.aload_n 0, 1) := by decide +kernel
theorem dX7_numberOf_65 : decode cX7_numberOf 65 = .ok (.getfield 19, 3) := by decide +kernel
theorem dX7_numberOf_68 : decode cX7_numberOf 68 = .ok (.getfield 100, 3) := by decide +kernel
theorem dX7_numberOf_71 : decode cX7_numberOf 71 = .ok (.iload_n 1, 1) := by decide +kernel
theorem dX7_numberOf_72 : decode cX7_numberOf 72 = .ok (.iaload, 1) := by decide +kernel
theorem dX7_numberOf_73 : decode cX7_numberOf 73 = .ok (.ireturn, 1) := by decide +kernel
theorem dX7_numberOf_74 : decode cX7_numberOf 74 = .ok (.aload_n 0, 1) := by decide +kernel
theorem dX7_numberOf_75 : decode cX7_numberOf 75 = .ok (.getfield 10, 3) := by decide +kernel
theorem dX7_numberOf_78 : decode cX7_numberOf 78 = .ok (.getfield 94, 3) := by decide +kernel
theorem dX7_numberOf_81 : decode cX7_numberOf 81 = .ok (.iload_n 1, 1) := by decide +kernel
theorem dX7_numberOf_82 : decode cX7_numberOf 82 = .ok (.iaload, 1) := by decide +kernel
theorem dX7_numberOf_83 : decode cX7_numberOf 83 = .ok (.ireturn, 1) := by decide +kernel
theorem dX7_numberOf_84 : decode cX7_numberOf 84 = .ok (.aload_n 0, 1) := by decide +kernel
theorem dX7_numberOf_85 : decode cX7_numberOf 85 = .ok (.getfield 10, 3) := by decide +kernel
theorem dX7_numberOf_88 : decode cX7_numberOf 88 = .ok (.getfield 128, 3) := by decide +kernel
theorem dX7_numberOf_91 : decode cX7_numberOf 91 = .ok (.iload_n 1, 1) := by decide +kernel
theorem dX7_numberOf_92 : decode cX7_numberOf 92 = .ok (.iaload, 1) := by decide +kernel
theorem dX7_numberOf_93 : decode cX7_numberOf 93 = .ok (.ireturn, 1) := by decide +kernel
theorem dX7_numberOf_94 : decode cX7_numberOf 94 = .ok (.aload_n 0, 1) := by decide +kernel
theorem dX7_numberOf_95 : decode cX7_numberOf 95 = .ok (.getfield 10, 3) := by decide +kernel
theorem dX7_numberOf_98 : decode cX7_numberOf 98 = .ok (.getfield 131, 3) := by decide +kernel
theorem dX7_numberOf_101 : decode cX7_numberOf 101 = .ok (.iload_n 1, 1) := by decide +kernel
theorem dX7_numberOf_102 : decode cX7_numberOf 102 = .ok (.iaload, 1) := by decide +kernel
theorem dX7_numberOf_103 : decode cX7_numberOf 103 = .ok (.ireturn, 1) := by decide +kernel
theorem dX7_numberOf_104 : decode cX7_numberOf 104 = .ok (.aload_n 0, 1) := by decide +kernel
theorem dX7_numberOf_105 : decode cX7_numberOf 105 = .ok (.getfield 19, 3) := by decide +kernel
theorem dX7_numberOf_108 : decode cX7_numberOf 108 = .ok (.getfield 134, 3) := by decide +kernel
theorem dX7_numberOf_111 : decode cX7_numberOf 111 = .ok (.ireturn, 1) := by decide +kernel
theorem dX7_numberOf_112 : decode cX7_numberOf 112 = .ok (.aload_n 0, 1) := by decide +kernel
theorem dX7_numberOf_113 : decode cX7_numberOf 113 = .ok (.getfield 19, 3) := by decide +kernel
theorem dX7_numberOf_116 : decode cX7_numberOf 116 = .ok (.getfield 137, 3) := by decide +kernel
theorem dX7_numberOf_119 : decode cX7_numberOf 119 = .ok (.ireturn, 1) := by decide +kernel
theorem dX7_mend_0 : decode cX7_mend 0 = .ok (.aload_n 0, 1) := by decide +kernel
theorem dX7_mend_1 : decode cX7_mend 1 = .ok (.iload_n 1, 1) := by decide +kernel
theorem dX7_mend_2 : decode cX7_mend 2 = .ok (.iload_n 2, 1) := by decide +kernel
theorem dX7_mend_3 : decode cX7_mend 3 = .ok (.invokevirtual 103, 3) := by decide +kernel
theorem dX7_mend_6 : decode cX7_mend 6 = .ok (.ifCond .eq 20, 3) := by decide +kernel
theorem dX7_mend_9 : decode cX7_mend 9 = .ok (.iload_n 3, 1) := by decide +kernel
theorem dX7_mend_10 : decode cX7_mend 10 = .ok (.getstatic 107, 3) := by decide +kernel
theorem dX7_mend_13 : decode cX7_mend 13 = .ok (.iload_n 2, 1) := by decide +kernel
theorem dX7_mend_14 : decode cX7_mend 14 = .ok (.iaload, 1) := by decide +kernel
theorem dX7_mend_15 : decode cX7_mend 15 = .ok (.getstatic 110, 3) := by decide +kernel
theorem dX7_mend_18 : decode cX7_mend 18 = .ok (.iload_n 2, 1) := by decide +kernel
theorem dX7_mend_19 : decode cX7_mend 19 = .ok (.iaload, 1) := by decide +kernel
theorem dX7_mend_20 : decode cX7_mend 20 = .ok (.invokestatic 63, 3) := by decide +kernel
theorem dX7_mend_23 : decode cX7_mend 23 = .ok (.ifCond .ne 5, 3) := by decide +kernel
theorem dX7_mend_26 : decode cX7_mend 26 = .ok (.iconst (-1), 1) := by decide +kernel
theorem dX7_mend_27 : decode cX7_mend 27 = .ok (.ireturn, 1) := by decide +kernel
theorem dX7_mend_28 : decode cX7_mend 28 = .ok (.aload_n 0, 1) := by decide +kernel
theorem dX7_mend_29 : decode cX7_mend 29 = .ok (.iload_n 1, 1) := by decide +kernel
theorem dX7_mend_30 : decode cX7_mend 30 = .ok (.iload_n 2, 1) := by decide +kernel
theorem dX7_mend_31 : decode cX7_mend 31 = .ok (.invokevirtual 113, 3) := by decide +kernel
theorem dX7_mend_34 : decode cX7_mend 34 = .ok (.istore 4, 2) := by decide +kernel
theorem dX7_mend_36 : decode cX7_mend 36 = .ok (.iload 4, 2) := by decide +kernel
theorem dX7_mend_38 : decode cX7_mend 38 = .ok (.iload_n 3, 1) := by decide +kernel
theorem dX7_mend_39 : decode cX7_mend 39 = .ok (.if_icmp .eq 22, 3) := by decide +kernel
theorem dX7_mend_42 : decode cX7_mend 42 = .ok (.aload_n 0, 1) := by decide +kernel
theorem dX7_mend_43 : decode cX7_mend 43 = .ok (.getfield 45, 3) := by decide +kernel
theorem dX7_mend_46 : decode cX7_mend 46 = .ok (.iload_n 1, 1) := by decide +kernel
theorem dX7_mend_47 : decode cX7_mend 47 = .ok (.iload_n 2, 1) := by decide +kernel
theorem dX7_mend_48 : decode cX7_mend 48 = .ok (.iload 4, 2) := by decide +kernel
theorem dX7_mend_50 : decode cX7_mend 50 = .ok (.iload_n 3, 1) := by decide +kernel
theorem dX7_mend_51 : decode cX7_mend 51 = .ok (.invokevirtual 117, 3) := by decide +kernel
theorem dX7_mend_54 : decode cX7_mend 54 = .ok (.aload_n 0, 1) := by decide +kernel
theorem dX7_mend_55 : decode cX7_mend 55 = .ok (.iload_n 1, 1) := by decide +kernel
theorem dX7_mend_56 : decode cX7_mend 56 = .ok (.iload_n 2, 1) := by decide +kernel
theorem dX7_mend_57 : decode cX7_mend 57 = .ok (.iload_n 3, 1) := by decide +kernel
theorem dX7_mend_58 : decode cX7_mend 58 = .ok (.invokevirtual 121, 3) := by decide +kernel
theorem dX7_mend_61 : decode cX7_mend 61 = .ok (.iload 4, 2) := by decide +kernel
theorem dX7_mend_63 : decode cX7_mend 63 = .ok (.ireturn, 1) := by decide +kernel
theorem dX7_of_0 : decode cX7_of 0 = .ok (.aload_n 0, 1) := by decide +kernel
theorem dX7_of_1 : decode cX7_of 1 = .ok (.iload_n 1, 1) := by decide +kernel
theorem dX7_of_2 : decode cX7_of 2 = .ok (.iload_n 2, 1) := by decide +kernel
theorem dX7_of_3 : decode cX7_of 3 = .ok (.invokevirtual 103, 3) := by decide +kernel
theorem dX7_of_6 : decode cX7_of 6 = .ok (.ifCond .eq 12, 3) := by decide +kernel
theorem dX7_of_9 : decode cX7_of 9 = .ok (.aload_n 0, 1) := by decide +kernel
theorem dX7_of_10 : decode cX7_of 10 = .ok (.iload_n 1, 1) := by decide +kernel
theorem dX7_of_11 : decode cX7_of 11 = .ok (.iload_n 2, 1) := by decide +kernel
theorem dX7_of_12 : decode cX7_of 12 = .ok (.invokevirtual 113, 3) := by decide +kernel
theorem dX7_of_15 : decode cX7_of 15 = .ok (.goto 4, 3) := by decide +kernel
theorem dX7_of_18 : decode cX7_of 18 = .ok (.iconst (-1), 1) := by decide +kernel
theorem dX7_of_19 : decode cX7_of 19 = .ok (.ireturn, 1) := by decide +kernel
theorem dX7_feed_0 : decode cX7_feed 0 = .ok (.iload_n 1, 1) := by decide +kernel
theorem dX7_feed_1 : decode cX7_feed 1 = .ok (.iconst 0, 1) := by decide +kernel
theorem dX7_feed_2 : decode cX7_feed 2 = .ok (.sipush 255, 3) := by decide +kernel
theorem dX7_feed_5 : decode cX7_feed 5 = .ok (.invokestatic 63, 3) := by decide +kernel
theorem dX7_feed_8 : decode cX7_feed 8 = .ok (.ifCond .ne 5, 3) := by decide +kernel
theorem dX7_feed_11 : decode cX7_feed 11 = .ok (.iconst (-1), 1) := by decide +kernel
theorem dX7_feed_12 : decode cX7_feed 12 = .ok (.ireturn, 1) := by decide +kernel
theorem dX7_feed_13 : decode cX7_feed 13 = .ok (.aload_n 0, 1) := by decide +kernel
theorem dX7_feed_14 : decode cX7_feed 14 = .ok (.getfield 10, 3) := by decide +kernel
theorem dX7_feed_17 : decode cX7_feed 17 = .ok (.getfield 140, 3) := by decide +kernel
theorem dX7_feed_20 : decode cX7_feed 20 = .ok (.getfield 144, 3) := by decide +kernel
theorem dX7_feed_23 : decode cX7_feed 23 = .ok (.bipush 120, 2) := by decide +kernel
theorem dX7_feed_25 : decode cX7_feed 25 = .ok (.if_icmp .ne 8, 3) := by decide +kernel
theorem dX7_feed_28 : decode cX7_feed 28 = .ok (.bipush (-3), 2) := by decide +kernel
theorem dX7_feed_30 : decode cX7_feed 30 = .ok (.goto 14, 3) := by decide +kernel
theorem dX7_feed_33 : decode cX7_feed 33 = .ok (.aload_n 0, 1) := by decide +kernel
theorem dX7_feed_34 : decode cX7_feed 34 = .ok (.getfield 10, 3) := by decide +kernel
theorem dX7_feed_37 : decode cX7_feed 37 = .ok (.getfield 140, 3) := by decide +kernel
theorem dX7_feed_40 : decode cX7_feed 40 = .ok (.iload_n 1, 1) := by decide +kernel
theorem dX7_feed_41 : decode cX7_feed 41 = .ok (.invokevirtual 149, 3) := by decide +kernel
theorem dX7_feed_44 : decode cX7_feed 44 = .ok (.ireturn, 1) := by decide +kernel
theorem dX7_law_0 : decode cX7_law 0 = .ok (.aload_n 0, 1) := by decide +kernel
theorem dX7_law_1 : decode cX7_law 1 = .ok (.getfield 10, 3) := by decide +kernel
theorem dX7_law_4 : decode cX7_law 4 = .ok (.getfield 140, 3) := by decide +kernel
theorem dX7_law_7 : decode cX7_law 7 = .ok (.invokevirtual 153, 3) := by decide +kernel
theorem dX7_law_10 : decode cX7_law 10 = .ok (.istore_n 1, 1) := by decide +kernel
theorem dX7_law_11 : decode cX7_law 11 = .ok (.iload_n 1, 1) := by decide +kernel
theorem dX7_law_12 : decode cX7_law 12 = .ok (.iconst (-1), 1) := by decide +kernel
theorem dX7_law_13 : decode cX7_law 13 = .ok (.if_icmp .ne 7, 3) := by decide +kernel
theorem dX7_law_16 : decode cX7_law 16 = .ok (.iconst 1, 1) := by decide +kernel
theorem dX7_law_17 : decode cX7_law 17 = .ok (.goto 7, 3) := by decide +kernel
theorem dX7_law_20 : decode cX7_law 20 = .ok (.bipush (-100), 2) := by decide +kernel
theorem dX7_law_22 : decode cX7_law 22 = .ok (.iload_n 1, 1) := by decide +kernel
theorem dX7_law_23 : decode cX7_law 23 = .ok (.isub, 1) := by decide +kernel
theorem dX7_law_24 : decode cX7_law 24 = .ok (.ireturn, 1) := by decide +kernel
theorem dX7_does_0 : decode cX7_does 0 = .ok (.aload_n 0, 1) := by decide +kernel
theorem dX7_does_1 : decode cX7_does 1 = .ok (.getfield 10, 3) := by decide +kernel
theorem dX7_does_4 : decode cX7_does 4 = .ok (.iload_n 1, 1) := by decide +kernel
theorem dX7_does_5 : decode cX7_does 5 = .ok (.invokevirtual 125, 3) := by decide +kernel
theorem dX7_does_8 : decode cX7_does 8 = .ok (.ifCond .eq 18, 3) := by decide +kernel
theorem dX7_does_11 : decode cX7_does 11 = .ok (.aload_n 0, 1) := by decide +kernel
theorem dX7_does_12 : decode cX7_does 12 = .ok (.getfield 10, 3) := by decide +kernel
theorem dX7_does_15 : decode cX7_does 15 = .ok (.aload_n 0, 1) := by decide +kernel
theorem dX7_does_16 : decode cX7_does 16 = .ok (.getfield 19, 3) := by decide +kernel
theorem dX7_does_19 : decode cX7_does 19 = .ok (.iload_n 1, 1) := by decide +kernel
theorem dX7_does_20 : decode cX7_does 20 = .ok (.invokevirtual 157, 3) := by decide +kernel
theorem dX7_does_23 : decode cX7_does 23 = .ok (.goto 4, 3) := by decide +kernel
theorem dX7_does_26 : decode cX7_does 26 = .ok (.iconst (-1), 1) := by decide +kernel
theorem dX7_does_27 : decode cX7_does 27 = .ok (.ireturn, 1) := by decide +kernel
theorem dX7_later_0 : decode cX7_later 0 = .ok (.iload 4, 2) := by decide +kernel
theorem dX7_later_2 : decode cX7_later 2 = .ok (.ifCond .eq 9, 3) := by decide +kernel
theorem dX7_later_5 : decode cX7_later 5 = .ok (.iload 4, 2) := by decide +kernel
theorem dX7_later_7 : decode cX7_later 7 = .ok (.iconst 1, 1) := by decide +kernel
theorem dX7_later_8 : decode cX7_later 8 = .ok (.if_icmp .ne 7, 3) := by decide +kernel
theorem dX7_later_11 : decode cX7_later 11 = .ok (.iconst 1, 1) := by decide +kernel
theorem dX7_later_12 : decode cX7_later 12 = .ok (.goto 4, 3) := by decide +kernel
theorem dX7_later_15 : decode cX7_later 15 = .ok (.iconst 0, 1) := by decide +kernel
theorem dX7_later_16 : decode cX7_later 16 = .ok (.istore 5, 2) := by decide +kernel
theorem dX7_later_18 : decode cX7_later 18 = .ok (.iload 5, 2) := by decide +kernel
theorem dX7_later_20 : decode cX7_later 20 = .ok (.ifCond .eq 14, 3) := by decide +kernel
theorem dX7_later_23 : decode cX7_later 23 = .ok (.aload_n 0, 1) := by decide +kernel
theorem dX7_later_24 : decode cX7_later 24 = .ok (.getfield 10, 3) := by decide +kernel
theorem dX7_later_27 : decode cX7_later 27 = .ok (.iload_n 3, 1) := by decide +kernel
theorem dX7_later_28 : decode cX7_later 28 = .ok (.invokevirtual 125, 3) := by decide +kernel
theorem dX7_later_31 : decode cX7_later 31 = .ok (.goto 12, 3) := by decide +kernel
theorem dX7_later_34 : decode cX7_later 34 = .ok (.iload_n 3, 1) := by decide +kernel
theorem dX7_later_35 : decode cX7_later 35 = .ok (.ifCond .ne 7, 3) := by decide +kernel
theorem dX7_later_38 : decode cX7_later 38 = .ok (.iconst 1, 1) := by decide +kernel
theorem dX7_later_39 : decode cX7_later 39 = .ok (.goto 4, 3) := by decide +kernel
theorem dX7_later_42 : decode cX7_later 42 = .ok (.iconst 0, 1) := by decide +kernel
theorem dX7_later_43 : decode cX7_later 43 = .ok (.istore 6, 2) := by decide +kernel
theorem dX7_later_45 : decode cX7_later 45 = .ok (.iload_n 1, 1) := by decide +kernel
theorem dX7_later_46 : decode cX7_later 46 = .ok (.invokestatic 75, 3) := by decide +kernel
theorem dX7_later_49 : decode cX7_later 49 = .ok (.ifCond .eq 28, 3) := by decide +kernel
theorem dX7_later_52 : decode cX7_later 52 = .ok (.iload_n 2, 1) := by decide +kernel
theorem dX7_later_53 : decode cX7_later 53 = .ok (.iconst 0, 1) := by decide +kernel
theorem dX7_later_54 : decode cX7_later 54 = .ok (.bipush 28, 2) := by decide +kernel
theorem dX7_later_56 : decode cX7_later 56 = .ok (.invokestatic 63, 3) := by decide +kernel
theorem dX7_later_59 : decode cX7_later 59 = .ok (.ifCond .eq 18, 3) := by decide +kernel
theorem dX7_later_62 : decode cX7_later 62 = .ok (.iload 6, 2) := by decide +kernel
theorem dX7_later_64 : decode cX7_later 64 = .ok (.ifCond .eq 13, 3) := by decide +kernel
theorem dX7_later_67 : decode cX7_later 67 = .ok (.iload 4, 2) := by decide +kernel
theorem dX7_later_69 : decode cX7_later 69 = .ok (.iconst 0, 1) := by decide +kernel
theorem dX7_later_70 : decode cX7_later 70 = .ok (.iconst 4, 1) := by decide +kernel
theorem dX7_later_71 : decode cX7_later 71 = .ok (.invokestatic 63, 3) := by decide +kernel
theorem dX7_later_74 : decode cX7_later 74 = .ok (.ifCond .ne 5, 3) := by decide +kernel
theorem dX7_later_77 : decode cX7_later 77 = .ok (.iconst (-1), 1) := by decide +kernel
theorem dX7_later_78 : decode cX7_later 78 = .ok (.ireturn, 1) := by decide +kernel
theorem dX7_later_79 : decode cX7_later 79 = .ok (.aload_n 0, 1) := by decide +kernel
theorem dX7_later_80 : decode cX7_later 80 = .ok (.getfield 58, 3) := by decide +kernel
theorem dX7_later_83 : decode cX7_later 83 = .ok (.iload_n 1, 1) := by decide +kernel
theorem dX7_later_84 : decode cX7_later 84 = .ok (.aaload, 1) := by decide +kernel
theorem dX7_later_85 : decode cX7_later 85 = .ok (.iconst 0, 1) := by decide +kernel
theorem dX7_later_86 : decode cX7_later 86 = .ok (.invokevirtual 161, 3) := by decide +kernel
theorem dX7_later_89 : decode cX7_later 89 = .ok (.istore 7, 2) := by decide +kernel
theorem dX7_later_91 : decode cX7_later 91 = .ok (.iload 7, 2) := by decide +kernel
theorem dX7_later_93 : decode cX7_later 93 = .ok (.ifCond .eq 6, 3) := by decide +kernel
theorem dX7_later_96 : decode cX7_later 96 = .ok (.iload 7, 2) := by decide +kernel
theorem dX7_later_98 : decode cX7_later 98 = .ok (.ireturn, 1) := by decide +kernel
theorem dX7_later_99 : decode cX7_later 99 = .ok (.aload_n 0, 1) := by decide +kernel
theorem dX7_later_100 : decode cX7_later 100 = .ok (.getfield 38, 3) := by decide +kernel
theorem dX7_later_103 : decode cX7_later 103 = .ok (.aload_n 0, 1) := by decide +kernel
theorem dX7_later_104 : decode cX7_later 104 = .ok (.getfield 19, 3) := by decide +kernel
theorem dX7_later_107 : decode cX7_later 107 = .ok (.aload_n 0, 1) := by decide +kernel
theorem dX7_later_108 : decode cX7_later 108 = .ok (.getfield 58, 3) := by decide +kernel
theorem dX7_later_111 : decode cX7_later 111 = .ok (.iload_n 1, 1) := by decide +kernel
theorem dX7_later_112 : decode cX7_later 112 = .ok (.aaload, 1) := by decide +kernel
theorem dX7_later_113 : decode cX7_later 113 = .ok (.iload_n 2, 1) := by decide +kernel
theorem dX7_later_114 : decode cX7_later 114 = .ok (.invokevirtual 164, 3) := by decide +kernel
theorem dX7_later_117 : decode cX7_later 117 = .ok (.istore 8, 2) := by decide +kernel
theorem dX7_later_119 : decode cX7_later 119 = .ok (.aload_n 0, 1) := by decide +kernel
theorem dX7_later_120 : decode cX7_later 120 = .ok (.getfield 38, 3) := by decide +kernel
theorem dX7_later_123 : decode cX7_later 123 = .ok (.invokevirtual 168, 3) := by decide +kernel
theorem dX7_later_126 : decode cX7_later 126 = .ok (.astore 9, 2) := by decide +kernel
theorem dX7_later_128 : decode cX7_later 128 = .ok (.iload 4, 2) := by decide +kernel
theorem dX7_later_130 : decode cX7_later 130 = .ok (.tableswitch 55 0 3 #[30, 38, 46, 49], 30) := by decide +kernel
theorem dX7_later_160 : decode cX7_later 160 = .ok (.aload 9, 2) := by decide +kernel
theorem dX7_later_162 : decode cX7_later 162 = .ok (.getfield 97, 3) := by decide +kernel
theorem dX7_later_165 : decode cX7_later 165 = .ok (.iload_n 3, 1) := by decide +kernel
theorem dX7_later_166 : decode cX7_later 166 = .ok (.iaload, 1) := by decide +kernel
theorem dX7_later_167 : decode cX7_later 167 = .ok (.ireturn, 1) := by decide +kernel
theorem dX7_later_168 : decode cX7_later 168 = .ok (.aload 9, 2) := by decide +kernel
theorem dX7_later_170 : decode cX7_later 170 = .ok (.getfield 100, 3) := by decide +kernel
theorem dX7_later_173 : decode cX7_later 173 = .ok (.iload_n 3, 1) := by decide +kernel
theorem dX7_later_174 : decode cX7_later 174 = .ok (.iaload, 1) := by decide +kernel
theorem dX7_later_175 : decode cX7_later 175 = .ok (.ireturn, 1) := by decide +kernel
theorem dX7_later_176 : decode cX7_later 176 = .ok (.iload 8, 2) := by decide +kernel
theorem dX7_later_178 : decode cX7_later 178 = .ok (.ireturn, 1) := by decide +kernel
theorem dX7_later_179 : decode cX7_later 179 = .ok (.aload 9, 2) := by decide +kernel
theorem dX7_later_181 : decode cX7_later 181 = .ok (.getfield 134, 3) := by decide +kernel
theorem dX7_later_184 : decode cX7_later 184 = .ok (.ireturn, 1) := by decide +kernel
theorem dX7_later_185 : decode cX7_later 185 = .ok (.aload 9, 2) := by decide +kernel
theorem dX7_later_187 : decode cX7_later 187 = .ok (.aload_n 0, 1) := by decide +kernel
theorem dX7_later_188 : decode cX7_later 188 = .ok (.getfield 10, 3) := by decide +kernel
theorem dX7_later_191 : decode cX7_later 191 = .ok (.getfield 67, 3) := by decide +kernel
theorem dX7_later_194 : decode cX7_later 194 = .ok (.invokevirtual 172, 3) := by decide +kernel
theorem dX7_later_197 : decode cX7_later 197 = .ok (.ireturn, 1) := by decide +kernel
theorem dX7_deep_0 : decode cX7_deep 0 = .ok (.iload_n 1, 1) := by decide +kernel
theorem dX7_deep_1 : decode cX7_deep 1 = .ok (.invokestatic 75, 3) := by decide +kernel
theorem dX7_deep_4 : decode cX7_deep 4 = .ok (.ifCond .eq 24, 3) := by decide +kernel
theorem dX7_deep_7 : decode cX7_deep 7 = .ok (.aload_n 0, 1) := by decide +kernel
theorem dX7_deep_8 : decode cX7_deep 8 = .ok (.getfield 10, 3) := by decide +kernel
theorem dX7_deep_11 : decode cX7_deep 11 = .ok (.iload_n 2, 1) := by decide +kernel
theorem dX7_deep_12 : decode cX7_deep 12 = .ok (.invokevirtual 125, 3) := by decide +kernel
theorem dX7_deep_15 : decode cX7_deep 15 = .ok (.ifCond .eq 13, 3) := by decide +kernel
theorem dX7_deep_18 : decode cX7_deep 18 = .ok (.iload_n 3, 1) := by decide +kernel
theorem dX7_deep_19 : decode cX7_deep 19 = .ok (.iconst 0, 1) := by decide +kernel
theorem dX7_deep_20 : decode cX7_deep 20 = .ok (.bipush 99, 2) := by decide +kernel
theorem dX7_deep_22 : decode cX7_deep 22 = .ok (.invokestatic 63, 3) := by decide +kernel
theorem dX7_deep_25 : decode cX7_deep 25 = .ok (.ifCond .ne 5, 3) := by decide +kernel
theorem dX7_deep_28 : decode cX7_deep 28 = .ok (.iconst (-1), 1) := by decide +kernel
theorem dX7_deep_29 : decode cX7_deep 29 = .ok (.ireturn, 1) := by decide +kernel
theorem dX7_deep_30 : decode cX7_deep 30 = .ok (.aload_n 0, 1) := by decide +kernel
theorem dX7_deep_31 : decode cX7_deep 31 = .ok (.getfield 58, 3) := by decide +kernel
theorem dX7_deep_34 : decode cX7_deep 34 = .ok (.iload_n 1, 1) := by decide +kernel
theorem dX7_deep_35 : decode cX7_deep 35 = .ok (.aaload, 1) := by decide +kernel
theorem dX7_deep_36 : decode cX7_deep 36 = .ok (.iconst 0, 1) := by decide +kernel
theorem dX7_deep_37 : decode cX7_deep 37 = .ok (.invokevirtual 161, 3) := by decide +kernel
theorem dX7_deep_40 : decode cX7_deep 40 = .ok (.istore 4, 2) := by decide +kernel
theorem dX7_deep_42 : decode cX7_deep 42 = .ok (.iload 4, 2) := by decide +kernel
theorem dX7_deep_44 : decode cX7_deep 44 = .ok (.ifCond .eq 6, 3) := by decide +kernel
theorem dX7_deep_47 : decode cX7_deep 47 = .ok (.iload 4, 2) := by decide +kernel
theorem dX7_deep_49 : decode cX7_deep 49 = .ok (.ireturn, 1) := by decide +kernel
theorem dX7_deep_50 : decode cX7_deep 50 = .ok (.aload_n 0, 1) := by decide +kernel
theorem dX7_deep_51 : decode cX7_deep 51 = .ok (.getfield 58, 3) := by decide +kernel
theorem dX7_deep_54 : decode cX7_deep 54 = .ok (.iload_n 1, 1) := by decide +kernel
theorem dX7_deep_55 : decode cX7_deep 55 = .ok (.aaload, 1) := by decide +kernel
theorem dX7_deep_56 : decode cX7_deep 56 = .ok (.astore 5, 2) := by decide +kernel
theorem dX7_deep_58 : decode cX7_deep 58 = .ok (.aload_n 0, 1) := by decide +kernel
theorem dX7_deep_59 : decode cX7_deep 59 = .ok (.getfield 10, 3) := by decide +kernel
theorem dX7_deep_62 : decode cX7_deep 62 = .ok (.aload 5, 2) := by decide +kernel
theorem dX7_deep_64 : decode cX7_deep 64 = .ok (.invokevirtual 175, 3) := by decide +kernel
theorem dX7_deep_67 : decode cX7_deep 67 = .ok (.istore 6, 2) := by decide +kernel
theorem dX7_deep_69 : decode cX7_deep 69 = .ok (.aload_n 0, 1) := by decide +kernel
theorem dX7_deep_70 : decode cX7_deep 70 = .ok (.getfield 19, 3) := by decide +kernel
theorem dX7_deep_73 : decode cX7_deep 73 = .ok (.getfield 97, 3) := by decide +kernel
theorem dX7_deep_76 : decode cX7_deep 76 = .ok (.iload_n 2, 1) := by decide +kernel
theorem dX7_deep_77 : decode cX7_deep 77 = .ok (.iaload, 1) := by decide +kernel
theorem dX7_deep_78 : decode cX7_deep 78 = .ok (.istore 7, 2) := by decide +kernel
theorem dX7_deep_80 : decode cX7_deep 80 = .ok (.iconst 0, 1) := by decide +kernel
theorem dX7_deep_81 : decode cX7_deep 81 = .ok (.istore 8, 2) := by decide +kernel
theorem dX7_deep_83 : decode cX7_deep 83 = .ok (.iload 8, 2) := by decide +kernel
theorem dX7_deep_85 : decode cX7_deep 85 = .ok (.iload 6, 2) := by decide +kernel
theorem dX7_deep_87 : decode cX7_deep 87 = .ok (.if_icmp .gt 65, 3) := by decide +kernel
theorem dX7_deep_90 : decode cX7_deep 90 = .ok (.iload 7, 2) := by decide +kernel
theorem dX7_deep_92 : decode cX7_deep 92 = .ok (.iload_n 3, 1) := by decide +kernel
theorem dX7_deep_93 : decode cX7_deep 93 = .ok (.if_icmp .lt 6, 3) := by decide +kernel
theorem dX7_deep_96 : decode cX7_deep 96 = .ok (.iload 8, 2) := by decide +kernel
theorem dX7_deep_98 : decode cX7_deep 98 = .ok (.ireturn, 1) := by decide +kernel
theorem dX7_deep_99 : decode cX7_deep 99 = .ok (.iload 8, 2) := by decide +kernel
theorem dX7_deep_101 : decode cX7_deep 101 = .ok (.iload 6, 2) := by decide +kernel
theorem dX7_deep_103 : decode cX7_deep 103 = .ok (.if_icmp .ge 43, 3) := by decide +kernel
theorem dX7_deep_106 : decode cX7_deep 106 = .ok (.aload_n 0, 1) := by decide +kernel
theorem dX7_deep_107 : decode cX7_deep 107 = .ok (.getfield 10, 3) := by decide +kernel
theorem dX7_deep_110 : decode cX7_deep 110 = .ok (.iload 7, 2) := by decide +kernel
theorem dX7_deep_112 : decode cX7_deep 112 = .ok (.iload_n 2, 1) := by decide +kernel
theorem dX7_deep_113 : decode cX7_deep 113 = .ok (.aload_n 0, 1) := by decide +kernel
theorem dX7_deep_114 : decode cX7_deep 114 = .ok (.getfield 10, 3) := by decide +kernel
theorem dX7_deep_117 : decode cX7_deep 117 = .ok (.getfield 91, 3) := by decide +kernel
theorem dX7_deep_120 : decode cX7_deep 120 = .ok (.iload_n 2, 1) := by decide +kernel
theorem dX7_deep_121 : decode cX7_deep 121 = .ok (.iaload, 1) := by decide +kernel
theorem dX7_deep_122 : decode cX7_deep 122 = .ok (.aload 5, 2) := by decide +kernel
theorem dX7_deep_124 : decode cX7_deep 124 = .ok (.getfield 87, 3) := by decide +kernel
theorem dX7_deep_127 : decode cX7_deep 127 = .ok (.iload 8, 2) := by decide +kernel
theorem dX7_deep_129 : decode cX7_deep 129 = .ok (.laload, 1) := by decide +kernel
theorem dX7_deep_130 : decode cX7_deep 130 = .ok (.l2i, 1) := by decide +kernel
theorem dX7_deep_131 : decode cX7_deep 131 = .ok (.aload_n 0, 1) := by decide +kernel
theorem dX7_deep_132 : decode cX7_deep 132 = .ok (.getfield 19, 3) := by decide +kernel
theorem dX7_deep_135 : decode cX7_deep 135 = .ok (.getfield 137, 3) := by decide +kernel
theorem dX7_deep_138 : decode cX7_deep 138 = .ok (.iload 8, 2) := by decide +kernel
theorem dX7_deep_140 : decode cX7_deep 140 = .ok (.iadd, 1) := by decide +kernel
theorem dX7_deep_141 : decode cX7_deep 141 = .ok (.invokevirtual 179, 3) := by decide +kernel
theorem dX7_deep_144 : decode cX7_deep 144 = .ok (.istore 7, 2) := by decide +kernel
theorem dX7_deep_146 : decode cX7_deep 146 = .ok (.iinc 8 1, 3) := by decide +kernel
theorem dX7_deep_149 : decode cX7_deep 149 = .ok (.goto (-66), 3) := by decide +kernel
theorem dX7_deep_152 : decode cX7_deep 152 = .ok (.bipush (-2), 2) := by decide +kernel
theorem dX7_deep_154 : decode cX7_deep 154 = .ok (.ireturn, 1) := by decide +kernel
theorem dX7_bestRota_0 : decode cX7_bestRota 0 = .ok (.iload_n 1, 1) := by decide +kernel
theorem dX7_bestRota_1 : decode cX7_bestRota 1 = .ok (.iconst 0, 1) := by decide +kernel
theorem dX7_bestRota_2 : decode cX7_bestRota 2 = .ok (.iconst 4, 1) := by decide +kernel
theorem dX7_bestRota_3 : decode cX7_bestRota 3 = .ok (.invokestatic 63, 3) := by decide +kernel
theorem dX7_bestRota_6 : decode cX7_bestRota 6 = .ok (.ifCond .eq 15, 3) := by decide +kernel
theorem dX7_bestRota_9 : decode cX7_bestRota 9 = .ok (.iload_n 2, 1) := by decide +kernel
theorem dX7_bestRota_10 : decode cX7_bestRota 10 = .ok (.bipush (-2), 2) := by decide +kernel
theorem dX7_bestRota_12 : decode cX7_bestRota 12 = .ok (.iload_n 1, 1) := by decide +kernel
theorem dX7_bestRota_13 : decode cX7_bestRota 13 = .ok (.iconst 1, 1) := by decide +kernel
theorem dX7_bestRota_14 : decode cX7_bestRota 14 = .ok (.isub, 1) := by decide +kernel
theorem dX7_bestRota_15 : decode cX7_bestRota 15 = .ok (.invokestatic 63, 3) := by decide +kernel
theorem dX7_bestRota_18 : decode cX7_bestRota 18 = .ok (.ifCond .ne 5, 3) := by decide +kernel
theorem dX7_bestRota_21 : decode cX7_bestRota 21 = .ok (.iconst (-1), 1) := by decide +kernel
theorem dX7_bestRota_22 : decode cX7_bestRota 22 = .ok (.ireturn, 1) := by decide +kernel
theorem dX7_bestRota_23 : decode cX7_bestRota 23 = .ok (.aload_n 0, 1) := by decide +kernel
theorem dX7_bestRota_24 : decode cX7_bestRota 24 = .ok (.getfield 38, 3) := by decide +kernel
theorem dX7_bestRota_27 : decode cX7_bestRota 27 = .ok (.aload_n 0, 1) := by decide +kernel
theorem dX7_bestRota_28 : decode cX7_bestRota 28 = .ok (.getfield 19, 3) := by decide +kernel
theorem dX7_bestRota_31 : decode cX7_bestRota 31 = .ok (.iload_n 1, 1) := by decide +kernel
theorem dX7_bestRota_32 : decode cX7_bestRota 32 = .ok (.invokevirtual 183, 3) := by decide +kernel
theorem dX7_bestRota_35 : decode cX7_bestRota 35 = .ok (.iload_n 2, 1) := by decide +kernel
theorem dX7_bestRota_36 : decode cX7_bestRota 36 = .ok (.iconst (-1), 1) := by decide +kernel
theorem dX7_bestRota_37 : decode cX7_bestRota 37 = .ok (.if_icmp .ne 11, 3) := by decide +kernel
theorem dX7_bestRota_40 : decode cX7_bestRota 40 = .ok (.aload_n 0, 1) := by decide +kernel
theorem dX7_bestRota_41 : decode cX7_bestRota 41 = .ok (.getfield 38, 3) := by decide +kernel
theorem dX7_bestRota_44 : decode cX7_bestRota 44 = .ok (.getfield 187, 3) := by decide +kernel
theorem dX7_bestRota_47 : decode cX7_bestRota 47 = .ok (.ireturn, 1) := by decide +kernel
theorem dX7_bestRota_48 : decode cX7_bestRota 48 = .ok (.iload_n 2, 1) := by decide +kernel
theorem dX7_bestRota_49 : decode cX7_bestRota 49 = .ok (.bipush (-2), 2) := by decide +kernel
theorem dX7_bestRota_51 : decode cX7_bestRota 51 = .ok (.if_icmp .ne 13, 3) := by decide +kernel
theorem dX7_bestRota_54 : decode cX7_bestRota 54 = .ok (.aload_n 0, 1) := by decide +kernel
theorem dX7_bestRota_55 : decode cX7_bestRota 55 = .ok (.getfield 38, 3) := by decide +kernel
theorem dX7_bestRota_58 : decode cX7_bestRota 58 = .ok (.getfield 190, 3) := by decide +kernel
theorem dX7_bestRota_61 : decode cX7_bestRota 61 = .ok (.goto 12, 3) := by decide +kernel
theorem dX7_bestRota_64 : decode cX7_bestRota 64 = .ok (.aload_n 0, 1) := by decide +kernel
theorem dX7_bestRota_65 : decode cX7_bestRota 65 = .ok (.getfield 38, 3) := by decide +kernel
theorem dX7_bestRota_68 : decode cX7_bestRota 68 = .ok (.getfield 193, 3) := by decide +kernel
theorem dX7_bestRota_71 : decode cX7_bestRota 71 = .ok (.iload_n 2, 1) := by decide +kernel
theorem dX7_bestRota_72 : decode cX7_bestRota 72 = .ok (.iaload, 1) := by decide +kernel
theorem dX7_bestRota_73 : decode cX7_bestRota 73 = .ok (.ireturn, 1) := by decide +kernel
theorem dX7_fewer_0 : decode cX7_fewer 0 = .ok (.iload_n 0, 1) := by decide +kernel
theorem dX7_fewer_1 : decode cX7_fewer 1 = .ok (.bipush (-2), 2) := by decide +kernel
theorem dX7_fewer_3 : decode cX7_fewer 3 = .ok (.if_icmp .eq 14, 3) := by decide +kernel
theorem dX7_fewer_6 : decode cX7_fewer 6 = .ok (.iload_n 1, 1) := by decide +kernel
theorem dX7_fewer_7 : decode cX7_fewer 7 = .ok (.invokestatic 214, 3) := by decide +kernel
theorem dX7_fewer_10 : decode cX7_fewer 10 = .ok (.iload_n 0, 1) := by decide +kernel
theorem dX7_fewer_11 : decode cX7_fewer 11 = .ok (.invokestatic 214, 3) := by decide +kernel
theorem dX7_fewer_14 : decode cX7_fewer 14 = .ok (.if_icmp .ge 7, 3) := by decide +kernel
theorem dX7_fewer_17 : decode cX7_fewer 17 = .ok (.iload_n 1, 1) := by decide +kernel
theorem dX7_fewer_18 : decode cX7_fewer 18 = .ok (.goto 4, 3) := by decide +kernel
theorem dX7_fewer_21 : decode cX7_fewer 21 = .ok (.iload_n 0, 1) := by decide +kernel
theorem dX7_fewer_22 : decode cX7_fewer 22 = .ok (.ireturn, 1) := by decide +kernel
theorem dX7_knownByGroup_0 : decode cX7_knownByGroup 0 = .ok (.iconst 0, 1) := by decide +kernel
theorem dX7_knownByGroup_1 : decode cX7_knownByGroup 1 = .ok (.istore_n 2, 1) := by decide +kernel
theorem dX7_knownByGroup_2 : decode cX7_knownByGroup 2 = .ok (.iconst 0, 1) := by decide +kernel
theorem dX7_knownByGroup_3 : decode cX7_knownByGroup 3 = .ok (.istore_n 3, 1) := by decide +kernel
theorem dX7_knownByGroup_4 : decode cX7_knownByGroup 4 = .ok (.iload_n 3, 1) := by decide +kernel
theorem dX7_knownByGroup_5 : decode cX7_knownByGroup 5 = .ok (.aload_n 0, 1) := by decide +kernel
theorem dX7_knownByGroup_6 : decode cX7_knownByGroup 6 = .ok (.getfield 10, 3) := by decide +kernel
theorem dX7_knownByGroup_9 : decode cX7_knownByGroup 9 = .ok (.getfield 67, 3) := by decide +kernel
theorem dX7_knownByGroup_12 : decode cX7_knownByGroup 12 = .ok (.if_icmp .ge 29, 3) := by decide +kernel
theorem dX7_knownByGroup_15 : decode cX7_knownByGroup 15 = .ok (.iload_n 1, 1) := by decide +kernel
theorem dX7_knownByGroup_16 : decode cX7_knownByGroup 16 = .ok (.iload_n 3, 1) := by decide +kernel
theorem dX7_knownByGroup_17 : decode cX7_knownByGroup 17 = .ok (.ishr, 1) := by decide +kernel
theorem dX7_knownByGroup_18 : decode cX7_knownByGroup 18 = .ok (.iconst 1, 1) := by decide +kernel
theorem dX7_knownByGroup_19 : decode cX7_knownByGroup 19 = .ok (.iand, 1) := by decide +kernel
theorem dX7_knownByGroup_20 : decode cX7_knownByGroup 20 = .ok (.ifCond .eq 15, 3) := by decide +kernel
theorem dX7_knownByGroup_23 : decode cX7_knownByGroup 23 = .ok (.iload_n 2, 1) := by decide +kernel
theorem dX7_knownByGroup_24 : decode cX7_knownByGroup 24 = .ok (.aload_n 0, 1) := by decide +kernel
theorem dX7_knownByGroup_25 : decode cX7_knownByGroup 25 = .ok (.getfield 19, 3) := by decide +kernel
theorem dX7_knownByGroup_28 : decode cX7_knownByGroup 28 = .ok (.getfield 100, 3) := by decide +kernel
theorem dX7_knownByGroup_31 : decode cX7_knownByGroup 31 = .ok (.iload_n 3, 1) := by decide +kernel
theorem dX7_knownByGroup_32 : decode cX7_knownByGroup 32 = .ok (.iaload, 1) := by decide +kernel
theorem dX7_knownByGroup_33 : decode cX7_knownByGroup 33 = .ok (.ior, 1) := by decide +kernel
theorem dX7_knownByGroup_34 : decode cX7_knownByGroup 34 = .ok (.istore_n 2, 1) := by decide +kernel
theorem dX7_knownByGroup_35 : decode cX7_knownByGroup 35 = .ok (.iinc 3 1, 3) := by decide +kernel
theorem dX7_knownByGroup_38 : decode cX7_knownByGroup 38 = .ok (.goto (-34), 3) := by decide +kernel
theorem dX7_knownByGroup_41 : decode cX7_knownByGroup 41 = .ok (.iload_n 2, 1) := by decide +kernel
theorem dX7_knownByGroup_42 : decode cX7_knownByGroup 42 = .ok (.ireturn, 1) := by decide +kernel
theorem dX7_manyOrWhich_0 : decode cX7_manyOrWhich 0 = .ok (.iload_n 0, 1) := by decide +kernel
theorem dX7_manyOrWhich_1 : decode cX7_manyOrWhich 1 = .ok (.bipush (-2), 2) := by decide +kernel
theorem dX7_manyOrWhich_3 : decode cX7_manyOrWhich 3 = .ok (.if_icmp .eq 14, 3) := by decide +kernel
theorem dX7_manyOrWhich_6 : decode cX7_manyOrWhich 6 = .ok (.iload_n 1, 1) := by decide +kernel
theorem dX7_manyOrWhich_7 : decode cX7_manyOrWhich 7 = .ok (.ifCond .ne 10, 3) := by decide +kernel
theorem dX7_manyOrWhich_10 : decode cX7_manyOrWhich 10 = .ok (.iload_n 0, 1) := by decide +kernel
theorem dX7_manyOrWhich_11 : decode cX7_manyOrWhich 11 = .ok (.invokestatic 214, 3) := by decide +kernel
theorem dX7_manyOrWhich_14 : decode cX7_manyOrWhich 14 = .ok (.goto 4, 3) := by decide +kernel
theorem dX7_manyOrWhich_17 : decode cX7_manyOrWhich 17 = .ok (.iload_n 0, 1) := by decide +kernel
theorem dX7_manyOrWhich_18 : decode cX7_manyOrWhich 18 = .ok (.ireturn, 1) := by decide +kernel
theorem dX7_told_0 : decode cX7_told 0 = .ok (.aload_n 0, 1) := by decide +kernel
theorem dX7_told_1 : decode cX7_told 1 = .ok (.getfield 10, 3) := by decide +kernel
theorem dX7_told_4 : decode cX7_told 4 = .ok (.iload_n 1, 1) := by decide +kernel
theorem dX7_told_5 : decode cX7_told 5 = .ok (.invokevirtual 125, 3) := by decide +kernel
theorem dX7_told_8 : decode cX7_told 8 = .ok (.ifCond .eq 23, 3) := by decide +kernel
theorem dX7_told_11 : decode cX7_told 11 = .ok (.iload_n 2, 1) := by decide +kernel
theorem dX7_told_12 : decode cX7_told 12 = .ok (.iconst 0, 1) := by decide +kernel
theorem dX7_told_13 : decode cX7_told 13 = .ok (.sipush 255, 3) := by decide +kernel
theorem dX7_told_16 : decode cX7_told 16 = .ok (.invokestatic 63, 3) := by decide +kernel
theorem dX7_told_19 : decode cX7_told 19 = .ok (.ifCond .eq 12, 3) := by decide +kernel
theorem dX7_told_22 : decode cX7_told 22 = .ok (.iload_n 3, 1) := by decide +kernel
theorem dX7_told_23 : decode cX7_told 23 = .ok (.iconst 0, 1) := by decide +kernel
theorem dX7_told_24 : decode cX7_told 24 = .ok (.iconst 1, 1) := by decide +kernel
theorem dX7_told_25 : decode cX7_told 25 = .ok (.invokestatic 63, 3) := by decide +kernel
theorem dX7_told_28 : decode cX7_told 28 = .ok (.ifCond .ne 5, 3) := by decide +kernel
theorem dX7_told_31 : decode cX7_told 31 = .ok (.iconst (-1), 1) := by decide +kernel
theorem dX7_told_32 : decode cX7_told 32 = .ok (.ireturn, 1) := by decide +kernel
theorem dX7_told_33 : decode cX7_told 33 = .ok (.bipush (-2), 2) := by decide +kernel
theorem dX7_told_35 : decode cX7_told 35 = .ok (.istore 4, 2) := by decide +kernel
theorem dX7_told_37 : decode cX7_told 37 = .ok (.iconst 0, 1) := by decide +kernel
theorem dX7_told_38 : decode cX7_told 38 = .ok (.istore 5, 2) := by decide +kernel
theorem dX7_told_40 : decode cX7_told 40 = .ok (.iload 5, 2) := by decide +kernel
theorem dX7_told_42 : decode cX7_told 42 = .ok (.iconst 1, 1) := by decide +kernel
theorem dX7_told_43 : decode cX7_told 43 = .ok (.aload_n 0, 1) := by decide +kernel
theorem dX7_told_44 : decode cX7_told 44 = .ok (.getfield 10, 3) := by decide +kernel
theorem dX7_told_47 : decode cX7_told 47 = .ok (.getfield 67, 3) := by decide +kernel
theorem dX7_told_50 : decode cX7_told 50 = .ok (.ishl, 1) := by decide +kernel
theorem dX7_told_51 : decode cX7_told 51 = .ok (.if_icmp .ge 66, 3) := by decide +kernel
theorem dX7_told_54 : decode cX7_told 54 = .ok (.iload 5, 2) := by decide +kernel
theorem dX7_told_56 : decode cX7_told 56 = .ok (.iload_n 1, 1) := by decide +kernel
theorem dX7_told_57 : decode cX7_told 57 = .ok (.ishr, 1) := by decide +kernel
theorem dX7_told_58 : decode cX7_told 58 = .ok (.iconst 1, 1) := by decide +kernel
theorem dX7_told_59 : decode cX7_told 59 = .ok (.iand, 1) := by decide +kernel
theorem dX7_told_60 : decode cX7_told 60 = .ok (.ifCond .eq 7, 3) := by decide +kernel
theorem dX7_told_63 : decode cX7_told 63 = .ok (.iconst 1, 1) := by decide +kernel
theorem dX7_told_64 : decode cX7_told 64 = .ok (.goto 4, 3) := by decide +kernel
theorem dX7_told_67 : decode cX7_told 67 = .ok (.iconst 0, 1) := by decide +kernel
theorem dX7_told_68 : decode cX7_told 68 = .ok (.istore 6, 2) := by decide +kernel
theorem dX7_told_70 : decode cX7_told 70 = .ok (.aload_n 0, 1) := by decide +kernel
theorem dX7_told_71 : decode cX7_told 71 = .ok (.getfield 19, 3) := by decide +kernel
theorem dX7_told_74 : decode cX7_told 74 = .ok (.getfield 100, 3) := by decide +kernel
theorem dX7_told_77 : decode cX7_told 77 = .ok (.iload_n 1, 1) := by decide +kernel
theorem dX7_told_78 : decode cX7_told 78 = .ok (.iaload, 1) := by decide +kernel
theorem dX7_told_79 : decode cX7_told 79 = .ok (.aload_n 0, 1) := by decide +kernel
theorem dX7_told_80 : decode cX7_told 80 = .ok (.iload 5, 2) := by decide +kernel
theorem dX7_told_82 : decode cX7_told 82 = .ok (.invokevirtual 196, 3) := by decide +kernel
theorem dX7_told_85 : decode cX7_told 85 = .ok (.ior, 1) := by decide +kernel
theorem dX7_told_86 : decode cX7_told 86 = .ok (.istore 7, 2) := by decide +kernel
theorem dX7_told_88 : decode cX7_told 88 = .ok (.iload 6, 2) := by decide +kernel
theorem dX7_told_90 : decode cX7_told 90 = .ok (.ifCond .ne 21, 3) := by decide +kernel
theorem dX7_told_93 : decode cX7_told 93 = .ok (.iload_n 2, 1) := by decide +kernel
theorem dX7_told_94 : decode cX7_told 94 = .ok (.iload 7, 2) := by decide +kernel
theorem dX7_told_96 : decode cX7_told 96 = .ok (.iconst (-1), 1) := by decide +kernel
theorem dX7_told_97 : decode cX7_told 97 = .ok (.ixor, 1) := by decide +kernel
theorem dX7_told_98 : decode cX7_told 98 = .ok (.iand, 1) := by decide +kernel
theorem dX7_told_99 : decode cX7_told 99 = .ok (.ifCond .ne 12, 3) := by decide +kernel
theorem dX7_told_102 : decode cX7_told 102 = .ok (.iload 4, 2) := by decide +kernel
theorem dX7_told_104 : decode cX7_told 104 = .ok (.iload 5, 2) := by decide +kernel
theorem dX7_told_106 : decode cX7_told 106 = .ok (.invokestatic 199, 3) := by decide +kernel
theorem dX7_told_109 : decode cX7_told 109 = .ok (.istore 4, 2) := by decide +kernel
theorem dX7_told_111 : decode cX7_told 111 = .ok (.iinc 5 1, 3) := by decide +kernel
theorem dX7_told_114 : decode cX7_told 114 = .ok (.goto (-74), 3) := by decide +kernel
theorem dX7_told_117 : decode cX7_told 117 = .ok (.iload 4, 2) := by decide +kernel
theorem dX7_told_119 : decode cX7_told 119 = .ok (.iload_n 3, 1) := by decide +kernel
theorem dX7_told_120 : decode cX7_told 120 = .ok (.invokestatic 202, 3) := by decide +kernel
theorem dX7_told_123 : decode cX7_told 123 = .ok (.ireturn, 1) := by decide +kernel
theorem dX7_areToldApart_0 : decode cX7_areToldApart 0 = .ok (.iconst 0, 1) := by decide +kernel
theorem dX7_areToldApart_1 : decode cX7_areToldApart 1 = .ok (.istore_n 2, 1) := by decide +kernel
theorem dX7_areToldApart_2 : decode cX7_areToldApart 2 = .ok (.iload_n 2, 1) := by decide +kernel
theorem dX7_areToldApart_3 : decode cX7_areToldApart 3 = .ok (.aload_n 0, 1) := by decide +kernel
theorem dX7_areToldApart_4 : decode cX7_areToldApart 4 = .ok (.getfield 10, 3) := by decide +kernel
theorem dX7_areToldApart_7 : decode cX7_areToldApart 7 = .ok (.getfield 67, 3) := by decide +kernel
theorem dX7_areToldApart_10 : decode cX7_areToldApart 10 = .ok (.if_icmp .ge 48, 3) := by decide +kernel
theorem dX7_areToldApart_13 : decode cX7_areToldApart 13 = .ok (.iconst 0, 1) := by decide +kernel
theorem dX7_areToldApart_14 : decode cX7_areToldApart 14 = .ok (.istore_n 3, 1) := by decide +kernel
theorem dX7_areToldApart_15 : decode cX7_areToldApart 15 = .ok (.iload_n 3, 1) := by decide +kernel
theorem dX7_areToldApart_16 : decode cX7_areToldApart 16 = .ok (.iload_n 2, 1) := by decide +kernel
theorem dX7_areToldApart_17 : decode cX7_areToldApart 17 = .ok (.if_icmp .ge 35, 3) := by decide +kernel
theorem dX7_areToldApart_20 : decode cX7_areToldApart 20 = .ok (.aload_n 0, 1) := by decide +kernel
theorem dX7_areToldApart_21 : decode cX7_areToldApart 21 = .ok (.getfield 19, 3) := by decide +kernel
theorem dX7_areToldApart_24 : decode cX7_areToldApart 24 = .ok (.getfield 100, 3) := by decide +kernel
theorem dX7_areToldApart_27 : decode cX7_areToldApart 27 = .ok (.iload_n 2, 1) := by decide +kernel
theorem dX7_areToldApart_28 : decode cX7_areToldApart 28 = .ok (.iaload, 1) := by decide +kernel
theorem dX7_areToldApart_29 : decode cX7_areToldApart 29 = .ok (.aload_n 0, 1) := by decide +kernel
theorem dX7_areToldApart_30 : decode cX7_areToldApart 30 = .ok (.getfield 19, 3) := by decide +kernel
theorem dX7_areToldApart_33 : decode cX7_areToldApart 33 = .ok (.getfield 100, 3) := by decide +kernel
theorem dX7_areToldApart_36 : decode cX7_areToldApart 36 = .ok (.iload_n 3, 1) := by decide +kernel
theorem dX7_areToldApart_37 : decode cX7_areToldApart 37 = .ok (.iaload, 1) := by decide +kernel
theorem dX7_areToldApart_38 : decode cX7_areToldApart 38 = .ok (.ixor, 1) := by decide +kernel
theorem dX7_areToldApart_39 : decode cX7_areToldApart 39 = .ok (.iload_n 1, 1) := by decide +kernel
theorem dX7_areToldApart_40 : decode cX7_areToldApart 40 = .ok (.iand, 1) := by decide +kernel
theorem dX7_areToldApart_41 : decode cX7_areToldApart 41 = .ok (.ifCond .ne 5, 3) := by decide +kernel
theorem dX7_areToldApart_44 : decode cX7_areToldApart 44 = .ok (.iconst 0, 1) := by decide +kernel
theorem dX7_areToldApart_45 : decode cX7_areToldApart 45 = .ok (.ireturn, 1) := by decide +kernel
theorem dX7_areToldApart_46 : decode cX7_areToldApart 46 = .ok (.iinc 3 1, 3) := by decide +kernel
theorem dX7_areToldApart_49 : decode cX7_areToldApart 49 = .ok (.goto (-34), 3) := by decide +kernel
theorem dX7_areToldApart_52 : decode cX7_areToldApart 52 = .ok (.iinc 2 1, 3) := by decide +kernel
theorem dX7_areToldApart_55 : decode cX7_areToldApart 55 = .ok (.goto (-53), 3) := by decide +kernel
theorem dX7_areToldApart_58 : decode cX7_areToldApart 58 = .ok (.iconst 1, 1) := by decide +kernel
theorem dX7_areToldApart_59 : decode cX7_areToldApart 59 = .ok (.ireturn, 1) := by decide +kernel
theorem dX7_fewestApart_0 : decode cX7_fewestApart 0 = .ok (.bipush (-2), 2) := by decide +kernel
theorem dX7_fewestApart_2 : decode cX7_fewestApart 2 = .ok (.istore_n 1, 1) := by decide +kernel
theorem dX7_fewestApart_3 : decode cX7_fewestApart 3 = .ok (.iconst 0, 1) := by decide +kernel
theorem dX7_fewestApart_4 : decode cX7_fewestApart 4 = .ok (.istore_n 2, 1) := by decide +kernel
theorem dX7_fewestApart_5 : decode cX7_fewestApart 5 = .ok (.iload_n 2, 1) := by decide +kernel
theorem dX7_fewestApart_6 : decode cX7_fewestApart 6 = .ok (.sipush 256, 3) := by decide +kernel
theorem dX7_fewestApart_9 : decode cX7_fewestApart 9 = .ok (.if_icmp .ge 23, 3) := by decide +kernel
theorem dX7_fewestApart_12 : decode cX7_fewestApart 12 = .ok (.aload_n 0, 1) := by decide +kernel
theorem dX7_fewestApart_13 : decode cX7_fewestApart 13 = .ok (.iload_n 2, 1) := by decide +kernel
theorem dX7_fewestApart_14 : decode cX7_fewestApart 14 = .ok (.invokevirtual 211, 3) := by decide +kernel
theorem dX7_fewestApart_17 : decode cX7_fewestApart 17 = .ok (.ifCond .eq 9, 3) := by decide +kernel
theorem dX7_fewestApart_20 : decode cX7_fewestApart 20 = .ok (.iload_n 1, 1) := by decide +kernel
theorem dX7_fewestApart_21 : decode cX7_fewestApart 21 = .ok (.iload_n 2, 1) := by decide +kernel
theorem dX7_fewestApart_22 : decode cX7_fewestApart 22 = .ok (.invokestatic 199, 3) := by decide +kernel
theorem dX7_fewestApart_25 : decode cX7_fewestApart 25 = .ok (.istore_n 1, 1) := by decide +kernel
theorem dX7_fewestApart_26 : decode cX7_fewestApart 26 = .ok (.iinc 2 1, 3) := by decide +kernel
theorem dX7_fewestApart_29 : decode cX7_fewestApart 29 = .ok (.goto (-24), 3) := by decide +kernel
theorem dX7_fewestApart_32 : decode cX7_fewestApart 32 = .ok (.iload_n 1, 1) := by decide +kernel
theorem dX7_fewestApart_33 : decode cX7_fewestApart 33 = .ok (.ireturn, 1) := by decide +kernel
theorem dX7_knownByAll_0 : decode cX7_knownByAll 0 = .ok (.sipush 255, 3) := by decide +kernel
theorem dX7_knownByAll_3 : decode cX7_knownByAll 3 = .ok (.istore_n 1, 1) := by decide +kernel
theorem dX7_knownByAll_4 : decode cX7_knownByAll 4 = .ok (.iconst 0, 1) := by decide +kernel
theorem dX7_knownByAll_5 : decode cX7_knownByAll 5 = .ok (.istore_n 2, 1) := by decide +kernel
theorem dX7_knownByAll_6 : decode cX7_knownByAll 6 = .ok (.iload_n 2, 1) := by decide +kernel
theorem dX7_knownByAll_7 : decode cX7_knownByAll 7 = .ok (.aload_n 0, 1) := by decide +kernel
theorem dX7_knownByAll_8 : decode cX7_knownByAll 8 = .ok (.getfield 10, 3) := by decide +kernel
theorem dX7_knownByAll_11 : decode cX7_knownByAll 11 = .ok (.getfield 67, 3) := by decide +kernel
theorem dX7_knownByAll_14 : decode cX7_knownByAll 14 = .ok (.if_icmp .ge 21, 3) := by decide +kernel
theorem dX7_knownByAll_17 : decode cX7_knownByAll 17 = .ok (.iload_n 1, 1) := by decide +kernel
theorem dX7_knownByAll_18 : decode cX7_knownByAll 18 = .ok (.aload_n 0, 1) := by decide +kernel
theorem dX7_knownByAll_19 : decode cX7_knownByAll 19 = .ok (.getfield 19, 3) := by decide +kernel
theorem dX7_knownByAll_22 : decode cX7_knownByAll 22 = .ok (.getfield 100, 3) := by decide +kernel
theorem dX7_knownByAll_25 : decode cX7_knownByAll 25 = .ok (.iload_n 2, 1) := by decide +kernel
theorem dX7_knownByAll_26 : decode cX7_knownByAll 26 = .ok (.iaload, 1) := by decide +kernel
theorem dX7_knownByAll_27 : decode cX7_knownByAll 27 = .ok (.iand, 1) := by decide +kernel
theorem dX7_knownByAll_28 : decode cX7_knownByAll 28 = .ok (.istore_n 1, 1) := by decide +kernel
theorem dX7_knownByAll_29 : decode cX7_knownByAll 29 = .ok (.iinc 2 1, 3) := by decide +kernel
theorem dX7_knownByAll_32 : decode cX7_knownByAll 32 = .ok (.goto (-26), 3) := by decide +kernel
theorem dX7_knownByAll_35 : decode cX7_knownByAll 35 = .ok (.iload_n 1, 1) := by decide +kernel
theorem dX7_knownByAll_36 : decode cX7_knownByAll 36 = .ok (.ireturn, 1) := by decide +kernel
theorem dX7_apart_0 : decode cX7_apart 0 = .ok (.iload_n 1, 1) := by decide +kernel
theorem dX7_apart_1 : decode cX7_apart 1 = .ok (.tableswitch 61 0 3 #[31, 31, 40, 45], 31) := by decide +kernel
theorem dX7_apart_32 : decode cX7_apart 32 = .ok (.aload_n 0, 1) := by decide +kernel
theorem dX7_apart_33 : decode cX7_apart 33 = .ok (.invokevirtual 205, 3) := by decide +kernel
theorem dX7_apart_36 : decode cX7_apart 36 = .ok (.iload_n 1, 1) := by decide +kernel
theorem dX7_apart_37 : decode cX7_apart 37 = .ok (.invokestatic 202, 3) := by decide +kernel
theorem dX7_apart_40 : decode cX7_apart 40 = .ok (.ireturn, 1) := by decide +kernel
theorem dX7_apart_41 : decode cX7_apart 41 = .ok (.aload_n 0, 1) := by decide +kernel
theorem dX7_apart_42 : decode cX7_apart 42 = .ok (.invokevirtual 208, 3) := by decide +kernel
theorem dX7_apart_45 : decode cX7_apart 45 = .ok (.ireturn, 1) := by decide +kernel
theorem dX7_apart_46 : decode cX7_apart 46 = .ok (.aload_n 0, 1) := by decide +kernel
theorem dX7_apart_47 : decode cX7_apart 47 = .ok (.iconst 1, 1) := by decide +kernel
theorem dX7_apart_48 : decode cX7_apart 48 = .ok (.aload_n 0, 1) := by decide +kernel
theorem dX7_apart_49 : decode cX7_apart 49 = .ok (.getfield 10, 3) := by decide +kernel
theorem dX7_apart_52 : decode cX7_apart 52 = .ok (.getfield 67, 3) := by decide +kernel
theorem dX7_apart_55 : decode cX7_apart 55 = .ok (.ishl, 1) := by decide +kernel
theorem dX7_apart_56 : decode cX7_apart 56 = .ok (.iconst 1, 1) := by decide +kernel
theorem dX7_apart_57 : decode cX7_apart 57 = .ok (.isub, 1) := by decide +kernel
theorem dX7_apart_58 : decode cX7_apart 58 = .ok (.invokevirtual 196, 3) := by decide +kernel
theorem dX7_apart_61 : decode cX7_apart 61 = .ok (.ireturn, 1) := by decide +kernel
theorem dX7_apart_62 : decode cX7_apart 62 = .ok (.iconst (-1), 1) := by decide +kernel
theorem dX7_apart_63 : decode cX7_apart 63 = .ok (.ireturn, 1) := by decide +kernel
theorem dX7_week_0 : decode cX7_week 0 = .ok (.iload_n 1, 1) := by decide +kernel
theorem dX7_week_1 : decode cX7_week 1 = .ok (.iconst (-1), 1) := by decide +kernel
theorem dX7_week_2 : decode cX7_week 2 = .ok (.bipush 6, 2) := by decide +kernel
theorem dX7_week_4 : decode cX7_week 4 = .ok (.invokestatic 63, 3) := by decide +kernel
theorem dX7_week_7 : decode cX7_week 7 = .ok (.ifCond .eq 14, 3) := by decide +kernel
theorem dX7_week_10 : decode cX7_week 10 = .ok (.aload_n 0, 1) := by decide +kernel
theorem dX7_week_11 : decode cX7_week 11 = .ok (.getfield 38, 3) := by decide +kernel
theorem dX7_week_14 : decode cX7_week 14 = .ok (.iload_n 1, 1) := by decide +kernel
theorem dX7_week_15 : decode cX7_week 15 = .ok (.invokevirtual 219, 3) := by decide +kernel
theorem dX7_week_18 : decode cX7_week 18 = .ok (.goto 4, 3) := by decide +kernel
theorem dX7_week_21 : decode cX7_week 21 = .ok (.iconst (-1), 1) := by decide +kernel
theorem dX7_week_22 : decode cX7_week 22 = .ok (.ireturn, 1) := by decide +kernel
theorem dX7_firstOut_0 : decode cX7_firstOut 0 = .ok (.aload_n 0, 1) := by decide +kernel
theorem dX7_firstOut_1 : decode cX7_firstOut 1 = .ok (.getfield 10, 3) := by decide +kernel
theorem dX7_firstOut_4 : decode cX7_firstOut 4 = .ok (.getfield 67, 3) := by decide +kernel
theorem dX7_firstOut_7 : decode cX7_firstOut 7 = .ok (.iconst 2, 1) := by decide +kernel
theorem dX7_firstOut_8 : decode cX7_firstOut 8 = .ok (.invokestatic 228, 3) := by decide +kernel
theorem dX7_firstOut_11 : decode cX7_firstOut 11 = .ok (.ireturn, 1) := by decide +kernel
theorem dX7_fire_0 : decode cX7_fire 0 = .ok (.iload_n 1, 1) := by decide +kernel
theorem dX7_fire_1 : decode cX7_fire 1 = .ok (.lookupswitch 40 #[(0, 27), (1, 35)], 27) := by decide +kernel
theorem dX7_fire_28 : decode cX7_fire 28 = .ok (.aload_n 0, 1) := by decide +kernel
theorem dX7_fire_29 : decode cX7_fire 29 = .ok (.getfield 38, 3) := by decide +kernel
theorem dX7_fire_32 : decode cX7_fire 32 = .ok (.invokevirtual 222, 3) := by decide +kernel
theorem dX7_fire_35 : decode cX7_fire 35 = .ok (.ireturn, 1) := by decide +kernel
theorem dX7_fire_36 : decode cX7_fire 36 = .ok (.aload_n 0, 1) := by decide +kernel
theorem dX7_fire_37 : decode cX7_fire 37 = .ok (.invokevirtual 225, 3) := by decide +kernel
theorem dX7_fire_40 : decode cX7_fire 40 = .ok (.ireturn, 1) := by decide +kernel
theorem dX7_fire_41 : decode cX7_fire 41 = .ok (.iconst (-1), 1) := by decide +kernel
theorem dX7_fire_42 : decode cX7_fire 42 = .ok (.ireturn, 1) := by decide +kernel
theorem dX7_areShelves_0 : decode cX7_areShelves 0 = .ok (.iload_n 1, 1) := by decide +kernel
theorem dX7_areShelves_1 : decode cX7_areShelves 1 = .ok (.ifCond .lt 27, 3) := by decide +kernel
theorem dX7_areShelves_4 : decode cX7_areShelves 4 = .ok (.iload_n 1, 1) := by decide +kernel
theorem dX7_areShelves_5 : decode cX7_areShelves 5 = .ok (.bipush 10, 2) := by decide +kernel
theorem dX7_areShelves_7 : decode cX7_areShelves 7 = .ok (.idiv, 1) := by decide +kernel
theorem dX7_areShelves_8 : decode cX7_areShelves 8 = .ok (.invokestatic 75, 3) := by decide +kernel
theorem dX7_areShelves_11 : decode cX7_areShelves 11 = .ok (.ifCond .eq 17, 3) := by decide +kernel
theorem dX7_areShelves_14 : decode cX7_areShelves 14 = .ok (.iload_n 1, 1) := by decide +kernel
theorem dX7_areShelves_15 : decode cX7_areShelves 15 = .ok (.bipush 10, 2) := by decide +kernel
theorem dX7_areShelves_17 : decode cX7_areShelves 17 = .ok (.irem, 1) := by decide +kernel
theorem dX7_areShelves_18 : decode cX7_areShelves 18 = .ok (.invokestatic 75, 3) := by decide +kernel
theorem dX7_areShelves_21 : decode cX7_areShelves 21 = .ok (.ifCond .eq 7, 3) := by decide +kernel
theorem dX7_areShelves_24 : decode cX7_areShelves 24 = .ok (.iconst 1, 1) := by decide +kernel
theorem dX7_areShelves_25 : decode cX7_areShelves 25 = .ok (.goto 4, 3) := by decide +kernel
theorem dX7_areShelves_28 : decode cX7_areShelves 28 = .ok (.iconst 0, 1) := by decide +kernel
theorem dX7_areShelves_29 : decode cX7_areShelves 29 = .ok (.ireturn, 1) := by decide +kernel
theorem dX7_firstNotSo_0 : decode cX7_firstNotSo 0 = .ok (.aload_n 0, 1) := by decide +kernel
theorem dX7_firstNotSo_1 : decode cX7_firstNotSo 1 = .ok (.getfield 58, 3) := by decide +kernel
theorem dX7_firstNotSo_4 : decode cX7_firstNotSo 4 = .ok (.iload_n 1, 1) := by decide +kernel
theorem dX7_firstNotSo_5 : decode cX7_firstNotSo 5 = .ok (.bipush 10, 2) := by decide +kernel
theorem dX7_firstNotSo_7 : decode cX7_firstNotSo 7 = .ok (.idiv, 1) := by decide +kernel
theorem dX7_firstNotSo_8 : decode cX7_firstNotSo 8 = .ok (.aaload, 1) := by decide +kernel
theorem dX7_firstNotSo_9 : decode cX7_firstNotSo 9 = .ok (.astore 5, 2) := by decide +kernel
theorem dX7_firstNotSo_11 : decode cX7_firstNotSo 11 = .ok (.aload_n 0, 1) := by decide +kernel
theorem dX7_firstNotSo_12 : decode cX7_firstNotSo 12 = .ok (.getfield 58, 3) := by decide +kernel
theorem dX7_firstNotSo_15 : decode cX7_firstNotSo 15 = .ok (.iload_n 1, 1) := by decide +kernel
theorem dX7_firstNotSo_16 : decode cX7_firstNotSo 16 = .ok (.bipush 10, 2) := by decide +kernel
theorem dX7_firstNotSo_18 : decode cX7_firstNotSo 18 = .ok (.irem, 1) := by decide +kernel
theorem dX7_firstNotSo_19 : decode cX7_firstNotSo 19 = .ok (.aaload, 1) := by decide +kernel
theorem dX7_firstNotSo_20 : decode cX7_firstNotSo 20 = .ok (.astore 6, 2) := by decide +kernel
theorem dX7_firstNotSo_22 : decode cX7_firstNotSo 22 = .ok (.aload_n 0, 1) := by decide +kernel
theorem dX7_firstNotSo_23 : decode cX7_firstNotSo 23 = .ok (.getfield 10, 3) := by decide +kernel
theorem dX7_firstNotSo_26 : decode cX7_firstNotSo 26 = .ok (.aload 5, 2) := by decide +kernel
theorem dX7_firstNotSo_28 : decode cX7_firstNotSo 28 = .ok (.invokevirtual 175, 3) := by decide +kernel
theorem dX7_firstNotSo_31 : decode cX7_firstNotSo 31 = .ok (.istore 7, 2) := by decide +kernel
theorem dX7_firstNotSo_33 : decode cX7_firstNotSo 33 = .ok (.iload 4, 2) := by decide +kernel
theorem dX7_firstNotSo_35 : decode cX7_firstNotSo 35 = .ok (.istore 8, 2) := by decide +kernel
theorem dX7_firstNotSo_37 : decode cX7_firstNotSo 37 = .ok (.iconst 0, 1) := by decide +kernel
theorem dX7_firstNotSo_38 : decode cX7_firstNotSo 38 = .ok (.istore 9, 2) := by decide +kernel
theorem dX7_firstNotSo_40 : decode cX7_firstNotSo 40 = .ok (.iload 9, 2) := by decide +kernel
theorem dX7_firstNotSo_42 : decode cX7_firstNotSo 42 = .ok (.aload 6, 2) := by decide +kernel
theorem dX7_firstNotSo_44 : decode cX7_firstNotSo 44 = .ok (.getfield 86, 3) := by decide +kernel
theorem dX7_firstNotSo_47 : decode cX7_firstNotSo 47 = .ok (.if_icmp .ge 73, 3) := by decide +kernel
theorem dX7_firstNotSo_50 : decode cX7_firstNotSo 50 = .ok (.iload 9, 2) := by decide +kernel
theorem dX7_firstNotSo_52 : decode cX7_firstNotSo 52 = .ok (.iload 7, 2) := by decide +kernel
theorem dX7_firstNotSo_54 : decode cX7_firstNotSo 54 = .ok (.if_icmp .gt 18, 3) := by decide +kernel
theorem dX7_firstNotSo_57 : decode cX7_firstNotSo 57 = .ok (.aload 6, 2) := by decide +kernel
theorem dX7_firstNotSo_59 : decode cX7_firstNotSo 59 = .ok (.getfield 87, 3) := by decide +kernel
theorem dX7_firstNotSo_62 : decode cX7_firstNotSo 62 = .ok (.iload 9, 2) := by decide +kernel
theorem dX7_firstNotSo_64 : decode cX7_firstNotSo 64 = .ok (.laload, 1) := by decide +kernel
theorem dX7_firstNotSo_65 : decode cX7_firstNotSo 65 = .ok (.iload 8, 2) := by decide +kernel
theorem dX7_firstNotSo_67 : decode cX7_firstNotSo 67 = .ok (.i2l, 1) := by decide +kernel
theorem dX7_firstNotSo_68 : decode cX7_firstNotSo 68 = .ok (.lcmp, 1) := by decide +kernel
theorem dX7_firstNotSo_69 : decode cX7_firstNotSo 69 = .ok (.ifCond .eq 6, 3) := by decide +kernel
theorem dX7_firstNotSo_72 : decode cX7_firstNotSo 72 = .ok (.iload 9, 2) := by decide +kernel
theorem dX7_firstNotSo_74 : decode cX7_firstNotSo 74 = .ok (.ireturn, 1) := by decide +kernel
theorem dX7_firstNotSo_75 : decode cX7_firstNotSo 75 = .ok (.iload 9, 2) := by decide +kernel
theorem dX7_firstNotSo_77 : decode cX7_firstNotSo 77 = .ok (.iload 7, 2) := by decide +kernel
theorem dX7_firstNotSo_79 : decode cX7_firstNotSo 79 = .ok (.if_icmp .ge 35, 3) := by decide +kernel
theorem dX7_firstNotSo_82 : decode cX7_firstNotSo 82 = .ok (.aload_n 0, 1) := by decide +kernel
theorem dX7_firstNotSo_83 : decode cX7_firstNotSo 83 = .ok (.getfield 10, 3) := by decide +kernel
theorem dX7_firstNotSo_86 : decode cX7_firstNotSo 86 = .ok (.iload 8, 2) := by decide +kernel
theorem dX7_firstNotSo_88 : decode cX7_firstNotSo 88 = .ok (.iload_n 2, 1) := by decide +kernel
theorem dX7_firstNotSo_89 : decode cX7_firstNotSo 89 = .ok (.iload_n 3, 1) := by decide +kernel
theorem dX7_firstNotSo_90 : decode cX7_firstNotSo 90 = .ok (.aload 5, 2) := by decide +kernel
theorem dX7_firstNotSo_92 : decode cX7_firstNotSo 92 = .ok (.getfield 87, 3) := by decide +kernel
theorem dX7_firstNotSo_95 : decode cX7_firstNotSo 95 = .ok (.iload 9, 2) := by decide +kernel
theorem dX7_firstNotSo_97 : decode cX7_firstNotSo 97 = .ok (.laload, 1) := by decide +kernel
theorem dX7_firstNotSo_98 : decode cX7_firstNotSo 98 = .ok (.l2i, 1) := by decide +kernel
theorem dX7_firstNotSo_99 : decode cX7_firstNotSo 99 = .ok (.aload_n 0, 1) := by decide +kernel
theorem dX7_firstNotSo_100 : decode cX7_firstNotSo 100 = .ok (.getfield 19, 3) := by decide +kernel
theorem dX7_firstNotSo_103 : decode cX7_firstNotSo 103 = .ok (.getfield 137, 3) := by decide +kernel
theorem dX7_firstNotSo_106 : decode cX7_firstNotSo 106 = .ok (.iload 9, 2) := by decide +kernel
theorem dX7_firstNotSo_108 : decode cX7_firstNotSo 108 = .ok (.iadd, 1) := by decide +kernel
theorem dX7_firstNotSo_109 : decode cX7_firstNotSo 109 = .ok (.invokevirtual 179, 3) := by decide +kernel
theorem dX7_firstNotSo_112 : decode cX7_firstNotSo 112 = .ok (.istore 8, 2) := by decide +kernel
theorem dX7_firstNotSo_114 : decode cX7_firstNotSo 114 = .ok (.iinc 9 1, 3) := by decide +kernel
theorem dX7_firstNotSo_117 : decode cX7_firstNotSo 117 = .ok (.goto (-77), 3) := by decide +kernel
theorem dX7_firstNotSo_120 : decode cX7_firstNotSo 120 = .ok (.bipush (-2), 2) := by decide +kernel
theorem dX7_firstNotSo_122 : decode cX7_firstNotSo 122 = .ok (.ireturn, 1) := by decide +kernel
theorem dX7_refusalOfDebts_0 : decode cX7_refusalOfDebts 0 = .ok (.aload_n 0, 1) := by decide +kernel
theorem dX7_refusalOfDebts_1 : decode cX7_refusalOfDebts 1 = .ok (.getfield 58, 3) := by decide +kernel
theorem dX7_refusalOfDebts_4 : decode cX7_refusalOfDebts 4 = .ok (.iload_n 1, 1) := by decide +kernel
theorem dX7_refusalOfDebts_5 : decode cX7_refusalOfDebts 5 = .ok (.bipush 10, 2) := by decide +kernel
theorem dX7_refusalOfDebts_7 : decode cX7_refusalOfDebts 7 = .ok (.idiv, 1) := by decide +kernel
theorem dX7_refusalOfDebts_8 : decode cX7_refusalOfDebts 8 = .ok (.aaload, 1) := by decide +kernel
theorem dX7_refusalOfDebts_9 : decode cX7_refusalOfDebts 9 = .ok (.iconst 0, 1) := by decide +kernel
theorem dX7_refusalOfDebts_10 : decode cX7_refusalOfDebts 10 = .ok (.invokevirtual 161, 3) := by decide +kernel
theorem dX7_refusalOfDebts_13 : decode cX7_refusalOfDebts 13 = .ok (.istore_n 2, 1) := by decide +kernel
theorem dX7_refusalOfDebts_14 : decode cX7_refusalOfDebts 14 = .ok (.iload_n 2, 1) := by decide +kernel
theorem dX7_refusalOfDebts_15 : decode cX7_refusalOfDebts 15 = .ok (.ifCond .eq 7, 3) := by decide +kernel
theorem dX7_refusalOfDebts_18 : decode cX7_refusalOfDebts 18 = .ok (.iload_n 2, 1) := by decide +kernel
theorem dX7_refusalOfDebts_19 : decode cX7_refusalOfDebts 19 = .ok (.goto 16, 3) := by decide +kernel
theorem dX7_refusalOfDebts_22 : decode cX7_refusalOfDebts 22 = .ok (.aload_n 0, 1) := by decide +kernel
theorem dX7_refusalOfDebts_23 : decode cX7_refusalOfDebts 23 = .ok (.getfield 58, 3) := by decide +kernel
theorem dX7_refusalOfDebts_26 : decode cX7_refusalOfDebts 26 = .ok (.iload_n 1, 1) := by decide +kernel
theorem dX7_refusalOfDebts_27 : decode cX7_refusalOfDebts 27 = .ok (.bipush 10, 2) := by decide +kernel
theorem dX7_refusalOfDebts_29 : decode cX7_refusalOfDebts 29 = .ok (.irem, 1) := by decide +kernel
theorem dX7_refusalOfDebts_30 : decode cX7_refusalOfDebts 30 = .ok (.aaload, 1) := by decide +kernel
theorem dX7_refusalOfDebts_31 : decode cX7_refusalOfDebts 31 = .ok (.iconst 0, 1) := by decide +kernel
theorem dX7_refusalOfDebts_32 : decode cX7_refusalOfDebts 32 = .ok (.invokevirtual 161, 3) := by decide +kernel
theorem dX7_refusalOfDebts_35 : decode cX7_refusalOfDebts 35 = .ok (.ireturn, 1) := by decide +kernel
theorem dX7_judge_0 : decode cX7_judge 0 = .ok (.aload_n 0, 1) := by decide +kernel
theorem dX7_judge_1 : decode cX7_judge 1 = .ok (.iload_n 1, 1) := by decide +kernel
theorem dX7_judge_2 : decode cX7_judge 2 = .ok (.invokevirtual 233, 3) := by decide +kernel
theorem dX7_judge_5 : decode cX7_judge 5 = .ok (.ifCond .eq 14, 3) := by decide +kernel
theorem dX7_judge_8 : decode cX7_judge 8 = .ok (.aload_n 0, 1) := by decide +kernel
theorem dX7_judge_9 : decode cX7_judge 9 = .ok (.getfield 10, 3) := by decide +kernel
theorem dX7_judge_12 : decode cX7_judge 12 = .ok (.iload_n 2, 1) := by decide +kernel
theorem dX7_judge_13 : decode cX7_judge 13 = .ok (.invokevirtual 125, 3) := by decide +kernel
theorem dX7_judge_16 : decode cX7_judge 16 = .ok (.ifCond .ne 5, 3) := by decide +kernel
theorem dX7_judge_19 : decode cX7_judge 19 = .ok (.iconst (-1), 1) := by decide +kernel
theorem dX7_judge_20 : decode cX7_judge 20 = .ok (.ireturn, 1) := by decide +kernel
theorem dX7_judge_21 : decode cX7_judge 21 = .ok (.aload_n 0, 1) := by decide +kernel
theorem dX7_judge_22 : decode cX7_judge 22 = .ok (.iload_n 1, 1) := by decide +kernel
theorem dX7_judge_23 : decode cX7_judge 23 = .ok (.invokevirtual 236, 3) := by decide +kernel
theorem dX7_judge_26 : decode cX7_judge 26 = .ok (.istore_n 3, 1) := by decide +kernel
theorem dX7_judge_27 : decode cX7_judge 27 = .ok (.iload_n 3, 1) := by decide +kernel
theorem dX7_judge_28 : decode cX7_judge 28 = .ok (.ifCond .eq 7, 3) := by decide +kernel
theorem dX7_judge_31 : decode cX7_judge 31 = .ok (.iload_n 3, 1) := by decide +kernel
theorem dX7_judge_32 : decode cX7_judge 32 = .ok (.goto 27, 3) := by decide +kernel
theorem dX7_judge_35 : decode cX7_judge 35 = .ok (.aload_n 0, 1) := by decide +kernel
theorem dX7_judge_36 : decode cX7_judge 36 = .ok (.iload_n 1, 1) := by decide +kernel
theorem dX7_judge_37 : decode cX7_judge 37 = .ok (.iload_n 2, 1) := by decide +kernel
theorem dX7_judge_38 : decode cX7_judge 38 = .ok (.aload_n 0, 1) := by decide +kernel
theorem dX7_judge_39 : decode cX7_judge 39 = .ok (.getfield 10, 3) := by decide +kernel
theorem dX7_judge_42 : decode cX7_judge 42 = .ok (.getfield 91, 3) := by decide +kernel
theorem dX7_judge_45 : decode cX7_judge 45 = .ok (.iload_n 2, 1) := by decide +kernel
theorem dX7_judge_46 : decode cX7_judge 46 = .ok (.iaload, 1) := by decide +kernel
theorem dX7_judge_47 : decode cX7_judge 47 = .ok (.aload_n 0, 1) := by decide +kernel
theorem dX7_judge_48 : decode cX7_judge 48 = .ok (.getfield 19, 3) := by decide +kernel
theorem dX7_judge_51 : decode cX7_judge 51 = .ok (.getfield 97, 3) := by decide +kernel
theorem dX7_judge_54 : decode cX7_judge 54 = .ok (.iload_n 2, 1) := by decide +kernel
theorem dX7_judge_55 : decode cX7_judge 55 = .ok (.iaload, 1) := by decide +kernel
theorem dX7_judge_56 : decode cX7_judge 56 = .ok (.invokevirtual 239, 3) := by decide +kernel
theorem dX7_judge_59 : decode cX7_judge 59 = .ok (.ireturn, 1) := by decide +kernel
theorem dX7_areBrothers_0 : decode cX7_areBrothers 0 = .ok (.iload_n 1, 1) := by decide +kernel
theorem dX7_areBrothers_1 : decode cX7_areBrothers 1 = .ok (.ifCond .lt 35, 3) := by decide +kernel
theorem dX7_areBrothers_4 : decode cX7_areBrothers 4 = .ok (.aload_n 0, 1) := by decide +kernel
theorem dX7_areBrothers_5 : decode cX7_areBrothers 5 = .ok (.getfield 10, 3) := by decide +kernel
theorem dX7_areBrothers_8 : decode cX7_areBrothers 8 = .ok (.iload_n 1, 1) := by decide +kernel
theorem dX7_areBrothers_9 : decode cX7_areBrothers 9 = .ok (.bipush 10, 2) := by decide +kernel
theorem dX7_areBrothers_11 : decode cX7_areBrothers 11 = .ok (.idiv, 1) := by decide +kernel
theorem dX7_areBrothers_12 : decode cX7_areBrothers 12 = .ok (.invokevirtual 125, 3) := by decide +kernel
theorem dX7_areBrothers_15 : decode cX7_areBrothers 15 = .ok (.ifCond .eq 21, 3) := by decide +kernel
theorem dX7_areBrothers_18 : decode cX7_areBrothers 18 = .ok (.aload_n 0, 1) := by decide +kernel
theorem dX7_areBrothers_19 : decode cX7_areBrothers 19 = .ok (.getfield 10, 3) := by decide +kernel
theorem dX7_areBrothers_22 : decode cX7_areBrothers 22 = .ok (.iload_n 1, 1) := by decide +kernel
theorem dX7_areBrothers_23 : decode cX7_areBrothers 23 = .ok (.bipush 10, 2) := by decide +kernel
theorem dX7_areBrothers_25 : decode cX7_areBrothers 25 = .ok (.irem, 1) := by decide +kernel
theorem dX7_areBrothers_26 : decode cX7_areBrothers 26 = .ok (.invokevirtual 125, 3) := by decide +kernel
theorem dX7_areBrothers_29 : decode cX7_areBrothers 29 = .ok (.ifCond .eq 7, 3) := by decide +kernel
theorem dX7_areBrothers_32 : decode cX7_areBrothers 32 = .ok (.iconst 1, 1) := by decide +kernel
theorem dX7_areBrothers_33 : decode cX7_areBrothers 33 = .ok (.goto 4, 3) := by decide +kernel
theorem dX7_areBrothers_36 : decode cX7_areBrothers 36 = .ok (.iconst 0, 1) := by decide +kernel
theorem dX7_areBrothers_37 : decode cX7_areBrothers 37 = .ok (.ireturn, 1) := by decide +kernel
theorem dX7_fits_0 : decode cX7_fits 0 = .ok (.aload_n 0, 1) := by decide +kernel
theorem dX7_fits_1 : decode cX7_fits 1 = .ok (.iload_n 1, 1) := by decide +kernel
theorem dX7_fits_2 : decode cX7_fits 2 = .ok (.invokevirtual 233, 3) := by decide +kernel
theorem dX7_fits_5 : decode cX7_fits 5 = .ok (.ifCond .eq 20, 3) := by decide +kernel
theorem dX7_fits_8 : decode cX7_fits 8 = .ok (.aload_n 0, 1) := by decide +kernel
theorem dX7_fits_9 : decode cX7_fits 9 = .ok (.iload_n 2, 1) := by decide +kernel
theorem dX7_fits_10 : decode cX7_fits 10 = .ok (.invokevirtual 243, 3) := by decide +kernel
theorem dX7_fits_13 : decode cX7_fits 13 = .ok (.ifCond .eq 12, 3) := by decide +kernel
theorem dX7_fits_16 : decode cX7_fits 16 = .ok (.iload_n 3, 1) := by decide +kernel
theorem dX7_fits_17 : decode cX7_fits 17 = .ok (.iconst 0, 1) := by decide +kernel
theorem dX7_fits_18 : decode cX7_fits 18 = .ok (.iconst 3, 1) := by decide +kernel
theorem dX7_fits_19 : decode cX7_fits 19 = .ok (.invokestatic 63, 3) := by decide +kernel
theorem dX7_fits_22 : decode cX7_fits 22 = .ok (.ifCond .ne 5, 3) := by decide +kernel
theorem dX7_fits_25 : decode cX7_fits 25 = .ok (.iconst (-1), 1) := by decide +kernel
theorem dX7_fits_26 : decode cX7_fits 26 = .ok (.ireturn, 1) := by decide +kernel
theorem dX7_fits_27 : decode cX7_fits 27 = .ok (.aload_n 0, 1) := by decide +kernel
theorem dX7_fits_28 : decode cX7_fits 28 = .ok (.iload_n 1, 1) := by decide +kernel
theorem dX7_fits_29 : decode cX7_fits 29 = .ok (.invokevirtual 236, 3) := by decide +kernel
theorem dX7_fits_32 : decode cX7_fits 32 = .ok (.istore 4, 2) := by decide +kernel
theorem dX7_fits_34 : decode cX7_fits 34 = .ok (.iload 4, 2) := by decide +kernel
theorem dX7_fits_36 : decode cX7_fits 36 = .ok (.ifCond .eq 6, 3) := by decide +kernel
theorem dX7_fits_39 : decode cX7_fits 39 = .ok (.iload 4, 2) := by decide +kernel
theorem dX7_fits_41 : decode cX7_fits 41 = .ok (.ireturn, 1) := by decide +kernel
theorem dX7_fits_42 : decode cX7_fits 42 = .ok (.iload_n 2, 1) := by decide +kernel
theorem dX7_fits_43 : decode cX7_fits 43 = .ok (.bipush 10, 2) := by decide +kernel
theorem dX7_fits_45 : decode cX7_fits 45 = .ok (.idiv, 1) := by decide +kernel
theorem dX7_fits_46 : decode cX7_fits 46 = .ok (.istore 5, 2) := by decide +kernel
theorem dX7_fits_48 : decode cX7_fits 48 = .ok (.iload 5, 2) := by decide +kernel
theorem dX7_fits_50 : decode cX7_fits 50 = .ok (.iload_n 2, 1) := by decide +kernel
theorem dX7_fits_51 : decode cX7_fits 51 = .ok (.bipush 10, 2) := by decide +kernel
theorem dX7_fits_53 : decode cX7_fits 53 = .ok (.irem, 1) := by decide +kernel
theorem dX7_fits_54 : decode cX7_fits 54 = .ok (.if_icmp .ne 7, 3) := by decide +kernel
theorem dX7_fits_57 : decode cX7_fits 57 = .ok (.iconst 1, 1) := by decide +kernel
theorem dX7_fits_58 : decode cX7_fits 58 = .ok (.goto 4, 3) := by decide +kernel
theorem dX7_fits_61 : decode cX7_fits 61 = .ok (.iconst 0, 1) := by decide +kernel
theorem dX7_fits_62 : decode cX7_fits 62 = .ok (.istore 6, 2) := by decide +kernel
theorem dX7_fits_64 : decode cX7_fits 64 = .ok (.iload_n 3, 1) := by decide +kernel
theorem dX7_fits_65 : decode cX7_fits 65 = .ok (.iconst 2, 1) := by decide +kernel
theorem dX7_fits_66 : decode cX7_fits 66 = .ok (.if_icmp .ge 7, 3) := by decide +kernel
theorem dX7_fits_69 : decode cX7_fits 69 = .ok (.iconst 1, 1) := by decide +kernel
theorem dX7_fits_70 : decode cX7_fits 70 = .ok (.goto 4, 3) := by decide +kernel
theorem dX7_fits_73 : decode cX7_fits 73 = .ok (.iconst 0, 1) := by decide +kernel
theorem dX7_fits_74 : decode cX7_fits 74 = .ok (.istore 7, 2) := by decide +kernel
theorem dX7_fits_76 : decode cX7_fits 76 = .ok (.iload 7, 2) := by decide +kernel
theorem dX7_fits_78 : decode cX7_fits 78 = .ok (.ifCond .eq 8, 3) := by decide +kernel
theorem dX7_fits_81 : decode cX7_fits 81 = .ok (.bipush 127, 2) := by decide +kernel
theorem dX7_fits_83 : decode cX7_fits 83 = .ok (.goto 5, 3) := by decide +kernel
theorem dX7_fits_86 : decode cX7_fits 86 = .ok (.bipush 99, 2) := by decide +kernel
theorem dX7_fits_88 : decode cX7_fits 88 = .ok (.istore 8, 2) := by decide +kernel
theorem dX7_fits_90 : decode cX7_fits 90 = .ok (.iconst 0, 1) := by decide +kernel
theorem dX7_fits_91 : decode cX7_fits 91 = .ok (.istore 9, 2) := by decide +kernel
theorem dX7_fits_93 : decode cX7_fits 93 = .ok (.bipush (-2), 2) := by decide +kernel
theorem dX7_fits_95 : decode cX7_fits 95 = .ok (.istore 10, 2) := by decide +kernel
theorem dX7_fits_97 : decode cX7_fits 97 = .ok (.iconst 0, 1) := by decide +kernel
theorem dX7_fits_98 : decode cX7_fits 98 = .ok (.istore 11, 2) := by decide +kernel
theorem dX7_fits_100 : decode cX7_fits 100 = .ok (.iload 11, 2) := by decide +kernel
theorem dX7_fits_102 : decode cX7_fits 102 = .ok (.iload 8, 2) := by decide +kernel
theorem dX7_fits_104 : decode cX7_fits 104 = .ok (.if_icmp .gt 98, 3) := by decide +kernel
theorem dX7_fits_107 : decode cX7_fits 107 = .ok (.iload 6, 2) := by decide +kernel
theorem dX7_fits_109 : decode cX7_fits 109 = .ok (.ifCond .eq 13, 3) := by decide +kernel
theorem dX7_fits_112 : decode cX7_fits 112 = .ok (.iload 7, 2) := by decide +kernel
theorem dX7_fits_114 : decode cX7_fits 114 = .ok (.ifCond .eq 8, 3) := by decide +kernel
theorem dX7_fits_117 : decode cX7_fits 117 = .ok (.iload 11, 2) := by decide +kernel
theorem dX7_fits_119 : decode cX7_fits 119 = .ok (.goto 13, 3) := by decide +kernel
theorem dX7_fits_122 : decode cX7_fits 122 = .ok (.aload_n 0, 1) := by decide +kernel
theorem dX7_fits_123 : decode cX7_fits 123 = .ok (.getfield 10, 3) := by decide +kernel
theorem dX7_fits_126 : decode cX7_fits 126 = .ok (.getfield 91, 3) := by decide +kernel
theorem dX7_fits_129 : decode cX7_fits 129 = .ok (.iload 5, 2) := by decide +kernel
theorem dX7_fits_131 : decode cX7_fits 131 = .ok (.iaload, 1) := by decide +kernel
theorem dX7_fits_132 : decode cX7_fits 132 = .ok (.istore 12, 2) := by decide +kernel
theorem dX7_fits_134 : decode cX7_fits 134 = .ok (.iload 6, 2) := by decide +kernel
theorem dX7_fits_136 : decode cX7_fits 136 = .ok (.ifCond .eq 13, 3) := by decide +kernel
theorem dX7_fits_139 : decode cX7_fits 139 = .ok (.iload 7, 2) := by decide +kernel
theorem dX7_fits_141 : decode cX7_fits 141 = .ok (.ifCond .ne 8, 3) := by decide +kernel
theorem dX7_fits_144 : decode cX7_fits 144 = .ok (.iload 11, 2) := by decide +kernel
theorem dX7_fits_146 : decode cX7_fits 146 = .ok (.goto 13, 3) := by decide +kernel
theorem dX7_fits_149 : decode cX7_fits 149 = .ok (.aload_n 0, 1) := by decide +kernel
theorem dX7_fits_150 : decode cX7_fits 150 = .ok (.getfield 19, 3) := by decide +kernel
theorem dX7_fits_153 : decode cX7_fits 153 = .ok (.getfield 97, 3) := by decide +kernel
theorem dX7_fits_156 : decode cX7_fits 156 = .ok (.iload 5, 2) := by decide +kernel
theorem dX7_fits_158 : decode cX7_fits 158 = .ok (.iaload, 1) := by decide +kernel
theorem dX7_fits_159 : decode cX7_fits 159 = .ok (.istore 13, 2) := by decide +kernel
theorem dX7_fits_161 : decode cX7_fits 161 = .ok (.aload_n 0, 1) := by decide +kernel
theorem dX7_fits_162 : decode cX7_fits 162 = .ok (.iload_n 1, 1) := by decide +kernel
theorem dX7_fits_163 : decode cX7_fits 163 = .ok (.iload 5, 2) := by decide +kernel
theorem dX7_fits_165 : decode cX7_fits 165 = .ok (.iload 12, 2) := by decide +kernel
theorem dX7_fits_167 : decode cX7_fits 167 = .ok (.iload 13, 2) := by decide +kernel
theorem dX7_fits_169 : decode cX7_fits 169 = .ok (.invokevirtual 239, 3) := by decide +kernel
theorem dX7_fits_172 : decode cX7_fits 172 = .ok (.bipush (-2), 2) := by decide +kernel
theorem dX7_fits_174 : decode cX7_fits 174 = .ok (.if_icmp .ne 22, 3) := by decide +kernel
theorem dX7_fits_177 : decode cX7_fits 177 = .ok (.iinc 9 1, 3) := by decide +kernel
theorem dX7_fits_180 : decode cX7_fits 180 = .ok (.iload 10, 2) := by decide +kernel
theorem dX7_fits_182 : decode cX7_fits 182 = .ok (.bipush (-2), 2) := by decide +kernel
theorem dX7_fits_184 : decode cX7_fits 184 = .ok (.if_icmp .ne 8, 3) := by decide +kernel
theorem dX7_fits_187 : decode cX7_fits 187 = .ok (.iload 11, 2) := by decide +kernel
theorem dX7_fits_189 : decode cX7_fits 189 = .ok (.goto 5, 3) := by decide +kernel
theorem dX7_fits_192 : decode cX7_fits 192 = .ok (.iload 10, 2) := by decide +kernel
theorem dX7_fits_194 : decode cX7_fits 194 = .ok (.istore 10, 2) := by decide +kernel
theorem dX7_fits_196 : decode cX7_fits 196 = .ok (.iinc 11 1, 3) := by decide +kernel
theorem dX7_fits_199 : decode cX7_fits 199 = .ok (.goto (-99), 3) := by decide +kernel
theorem dX7_fits_202 : decode cX7_fits 202 = .ok (.iload_n 3, 1) := by decide +kernel
theorem dX7_fits_203 : decode cX7_fits 203 = .ok (.iconst 2, 1) := by decide +kernel
theorem dX7_fits_204 : decode cX7_fits 204 = .ok (.irem, 1) := by decide +kernel
theorem dX7_fits_205 : decode cX7_fits 205 = .ok (.ifCond .ne 8, 3) := by decide +kernel
theorem dX7_fits_208 : decode cX7_fits 208 = .ok (.iload 9, 2) := by decide +kernel
theorem dX7_fits_210 : decode cX7_fits 210 = .ok (.goto 5, 3) := by decide +kernel
theorem dX7_fits_213 : decode cX7_fits 213 = .ok (.iload 10, 2) := by decide +kernel
theorem dX7_fits_215 : decode cX7_fits 215 = .ok (.ireturn, 1) := by decide +kernel
theorem dX7_byTurns_0 : decode cX7_byTurns 0 = .ok (.aload_n 0, 1) := by decide +kernel
theorem dX7_byTurns_1 : decode cX7_byTurns 1 = .ok (.iload_n 1, 1) := by decide +kernel
theorem dX7_byTurns_2 : decode cX7_byTurns 2 = .ok (.invokevirtual 243, 3) := by decide +kernel
theorem dX7_byTurns_5 : decode cX7_byTurns 5 = .ok (.ifCond .eq 32, 3) := by decide +kernel
theorem dX7_byTurns_8 : decode cX7_byTurns 8 = .ok (.iload_n 1, 1) := by decide +kernel
theorem dX7_byTurns_9 : decode cX7_byTurns 9 = .ok (.bipush 10, 2) := by decide +kernel
theorem dX7_byTurns_11 : decode cX7_byTurns 11 = .ok (.idiv, 1) := by decide +kernel
theorem dX7_byTurns_12 : decode cX7_byTurns 12 = .ok (.iload_n 1, 1) := by decide +kernel
theorem dX7_byTurns_13 : decode cX7_byTurns 13 = .ok (.bipush 10, 2) := by decide +kernel
theorem dX7_byTurns_15 : decode cX7_byTurns 15 = .ok (.irem, 1) := by decide +kernel
theorem dX7_byTurns_16 : decode cX7_byTurns 16 = .ok (.if_icmp .eq 21, 3) := by decide +kernel
theorem dX7_byTurns_19 : decode cX7_byTurns 19 = .ok (.iload_n 2, 1) := by decide +kernel
theorem dX7_byTurns_20 : decode cX7_byTurns 20 = .ok (.iconst 1, 1) := by decide +kernel
theorem dX7_byTurns_21 : decode cX7_byTurns 21 = .ok (.iconst 5, 1) := by decide +kernel
theorem dX7_byTurns_22 : decode cX7_byTurns 22 = .ok (.invokestatic 63, 3) := by decide +kernel
theorem dX7_byTurns_25 : decode cX7_byTurns 25 = .ok (.ifCond .eq 12, 3) := by decide +kernel
theorem dX7_byTurns_28 : decode cX7_byTurns 28 = .ok (.iload_n 3, 1) := by decide +kernel
theorem dX7_byTurns_29 : decode cX7_byTurns 29 = .ok (.iconst 0, 1) := by decide +kernel
theorem dX7_byTurns_30 : decode cX7_byTurns 30 = .ok (.iconst 1, 1) := by decide +kernel
theorem dX7_byTurns_31 : decode cX7_byTurns 31 = .ok (.invokestatic 63, 3) := by decide +kernel
theorem dX7_byTurns_34 : decode cX7_byTurns 34 = .ok (.ifCond .ne 6, 3) := by decide +kernel
theorem dX7_byTurns_37 : decode cX7_byTurns 37 = .ok (.ldc 246, 2) := by decide +kernel
theorem dX7_byTurns_39 : decode cX7_byTurns 39 = .ok (.ireturn, 1) := by decide +kernel
theorem dX7_byTurns_40 : decode cX7_byTurns 40 = .ok (.aload_n 0, 1) := by decide +kernel
theorem dX7_byTurns_41 : decode cX7_byTurns 41 = .ok (.getfield 38, 3) := by decide +kernel
theorem dX7_byTurns_44 : decode cX7_byTurns 44 = .ok (.aload_n 0, 1) := by decide +kernel
theorem dX7_byTurns_45 : decode cX7_byTurns 45 = .ok (.getfield 19, 3) := by decide +kernel
theorem dX7_byTurns_48 : decode cX7_byTurns 48 = .ok (.iload_n 2, 1) := by decide +kernel
theorem dX7_byTurns_49 : decode cX7_byTurns 49 = .ok (.iload_n 1, 1) := by decide +kernel
theorem dX7_byTurns_50 : decode cX7_byTurns 50 = .ok (.bipush 10, 2) := by decide +kernel
theorem dX7_byTurns_52 : decode cX7_byTurns 52 = .ok (.idiv, 1) := by decide +kernel
theorem dX7_byTurns_53 : decode cX7_byTurns 53 = .ok (.iload_n 1, 1) := by decide +kernel
theorem dX7_byTurns_54 : decode cX7_byTurns 54 = .ok (.bipush 10, 2) := by decide +kernel
theorem dX7_byTurns_56 : decode cX7_byTurns 56 = .ok (.irem, 1) := by decide +kernel
theorem dX7_byTurns_57 : decode cX7_byTurns 57 = .ok (.invokevirtual 247, 3) := by decide +kernel
theorem dX7_byTurns_60 : decode cX7_byTurns 60 = .ok (.istore 4, 2) := by decide +kernel
theorem dX7_byTurns_62 : decode cX7_byTurns 62 = .ok (.iload_n 3, 1) := by decide +kernel
theorem dX7_byTurns_63 : decode cX7_byTurns 63 = .ok (.ifCond .ne 6, 3) := by decide +kernel
theorem dX7_byTurns_66 : decode cX7_byTurns 66 = .ok (.iload 4, 2) := by decide +kernel
theorem dX7_byTurns_68 : decode cX7_byTurns 68 = .ok (.ireturn, 1) := by decide +kernel
theorem dX7_byTurns_69 : decode cX7_byTurns 69 = .ok (.aload_n 0, 1) := by decide +kernel
theorem dX7_byTurns_70 : decode cX7_byTurns 70 = .ok (.getfield 38, 3) := by decide +kernel
theorem dX7_byTurns_73 : decode cX7_byTurns 73 = .ok (.getfield 251, 3) := by decide +kernel
theorem dX7_byTurns_76 : decode cX7_byTurns 76 = .ok (.ifCond .eq 7, 3) := by decide +kernel
theorem dX7_byTurns_79 : decode cX7_byTurns 79 = .ok (.iconst 1, 1) := by decide +kernel
theorem dX7_byTurns_80 : decode cX7_byTurns 80 = .ok (.goto 4, 3) := by decide +kernel
theorem dX7_byTurns_83 : decode cX7_byTurns 83 = .ok (.iconst 0, 1) := by decide +kernel
theorem dX7_byTurns_84 : decode cX7_byTurns 84 = .ok (.ireturn, 1) := by decide +kernel
theorem dX7_drawn_0 : decode cX7_drawn 0 = .ok (.iload_n 2, 1) := by decide +kernel
theorem dX7_drawn_1 : decode cX7_drawn 1 = .ok (.ifCond .lt 19, 3) := by decide +kernel
theorem dX7_drawn_4 : decode cX7_drawn 4 = .ok (.iload_n 3, 1) := by decide +kernel
theorem dX7_drawn_5 : decode cX7_drawn 5 = .ok (.iconst (-1), 1) := by decide +kernel
theorem dX7_drawn_6 : decode cX7_drawn 6 = .ok (.if_icmp .eq 16, 3) := by decide +kernel
theorem dX7_drawn_9 : decode cX7_drawn 9 = .ok (.aload_n 0, 1) := by decide +kernel
theorem dX7_drawn_10 : decode cX7_drawn 10 = .ok (.getfield 10, 3) := by decide +kernel
theorem dX7_drawn_13 : decode cX7_drawn 13 = .ok (.iload_n 3, 1) := by decide +kernel
theorem dX7_drawn_14 : decode cX7_drawn 14 = .ok (.invokevirtual 125, 3) := by decide +kernel
theorem dX7_drawn_17 : decode cX7_drawn 17 = .ok (.ifCond .ne 5, 3) := by decide +kernel
theorem dX7_drawn_20 : decode cX7_drawn 20 = .ok (.iconst (-1), 1) := by decide +kernel
theorem dX7_drawn_21 : decode cX7_drawn 21 = .ok (.ireturn, 1) := by decide +kernel
theorem dX7_drawn_22 : decode cX7_drawn 22 = .ok (.iload_n 2, 1) := by decide +kernel
theorem dX7_drawn_23 : decode cX7_drawn 23 = .ok (.sipush 10000, 3) := by decide +kernel
theorem dX7_drawn_26 : decode cX7_drawn 26 = .ok (.idiv, 1) := by decide +kernel
theorem dX7_drawn_27 : decode cX7_drawn 27 = .ok (.istore 4, 2) := by decide +kernel
theorem dX7_drawn_29 : decode cX7_drawn 29 = .ok (.iload_n 2, 1) := by decide +kernel
theorem dX7_drawn_30 : decode cX7_drawn 30 = .ok (.bipush 100, 2) := by decide +kernel
theorem dX7_drawn_32 : decode cX7_drawn 32 = .ok (.idiv, 1) := by decide +kernel
theorem dX7_drawn_33 : decode cX7_drawn 33 = .ok (.bipush 100, 2) := by decide +kernel
theorem dX7_drawn_35 : decode cX7_drawn 35 = .ok (.irem, 1) := by decide +kernel
theorem dX7_drawn_36 : decode cX7_drawn 36 = .ok (.istore 5, 2) := by decide +kernel
theorem dX7_drawn_38 : decode cX7_drawn 38 = .ok (.iload_n 2, 1) := by decide +kernel
theorem dX7_drawn_39 : decode cX7_drawn 39 = .ok (.bipush 100, 2) := by decide +kernel
theorem dX7_drawn_41 : decode cX7_drawn 41 = .ok (.irem, 1) := by decide +kernel
theorem dX7_drawn_42 : decode cX7_drawn 42 = .ok (.istore 6, 2) := by decide +kernel
theorem dX7_drawn_44 : decode cX7_drawn 44 = .ok (.iload 4, 2) := by decide +kernel
theorem dX7_drawn_46 : decode cX7_drawn 46 = .ok (.iconst 1, 1) := by decide +kernel
theorem dX7_drawn_47 : decode cX7_drawn 47 = .ok (.bipush 30, 2) := by decide +kernel
theorem dX7_drawn_49 : decode cX7_drawn 49 = .ok (.invokestatic 63, 3) := by decide +kernel
theorem dX7_drawn_52 : decode cX7_drawn 52 = .ok (.ifCond .eq 21, 3) := by decide +kernel
theorem dX7_drawn_55 : decode cX7_drawn 55 = .ok (.iload 5, 2) := by decide +kernel
theorem dX7_drawn_57 : decode cX7_drawn 57 = .ok (.iconst 1, 1) := by decide +kernel
theorem dX7_drawn_58 : decode cX7_drawn 58 = .ok (.bipush 28, 2) := by decide +kernel
theorem dX7_drawn_60 : decode cX7_drawn 60 = .ok (.invokestatic 63, 3) := by decide +kernel
theorem dX7_drawn_63 : decode cX7_drawn 63 = .ok (.ifCond .eq 10, 3) := by decide +kernel
theorem dX7_drawn_66 : decode cX7_drawn 66 = .ok (.iload 6, 2) := by decide +kernel
theorem dX7_drawn_68 : decode cX7_drawn 68 = .ok (.bipush 12, 2) := by decide +kernel
theorem dX7_drawn_70 : decode cX7_drawn 70 = .ok (.if_icmp .le 5, 3) := by decide +kernel
theorem dX7_drawn_73 : decode cX7_drawn 73 = .ok (.iconst (-1), 1) := by decide +kernel
theorem dX7_drawn_74 : decode cX7_drawn 74 = .ok (.ireturn, 1) := by decide +kernel
theorem dX7_drawn_75 : decode cX7_drawn 75 = .ok (.aload_n 0, 1) := by decide +kernel
theorem dX7_drawn_76 : decode cX7_drawn 76 = .ok (.getfield 38, 3) := by decide +kernel
theorem dX7_drawn_79 : decode cX7_drawn 79 = .ok (.aload_n 0, 1) := by decide +kernel
theorem dX7_drawn_80 : decode cX7_drawn 80 = .ok (.getfield 19, 3) := by decide +kernel
theorem dX7_drawn_83 : decode cX7_drawn 83 = .ok (.iload_n 1, 1) := by decide +kernel
theorem dX7_drawn_84 : decode cX7_drawn 84 = .ok (.iload 4, 2) := by decide +kernel
theorem dX7_drawn_86 : decode cX7_drawn 86 = .ok (.iload 5, 2) := by decide +kernel
theorem dX7_drawn_88 : decode cX7_drawn 88 = .ok (.iload 6, 2) := by decide +kernel
theorem dX7_drawn_90 : decode cX7_drawn 90 = .ok (.iload_n 3, 1) := by decide +kernel
theorem dX7_drawn_91 : decode cX7_drawn 91 = .ok (.invokevirtual 255, 3) := by decide +kernel
theorem dX7_drawn_94 : decode cX7_drawn 94 = .ok (.ireturn, 1) := by decide +kernel
theorem dX7_day_0 : decode cX7_day 0 = .ok (.aload_n 0, 1) := by decide +kernel
theorem dX7_day_1 : decode cX7_day 1 = .ok (.getfield 10, 3) := by decide +kernel
theorem dX7_day_4 : decode cX7_day 4 = .ok (.iload_n 1, 1) := by decide +kernel
theorem dX7_day_5 : decode cX7_day 5 = .ok (.i2l, 1) := by decide +kernel
theorem dX7_day_6 : decode cX7_day 6 = .ok (.invokevirtual 259, 3) := by decide +kernel
theorem dX7_day_9 : decode cX7_day 9 = .ok (.ifCond .ne 5, 3) := by decide +kernel
theorem dX7_day_12 : decode cX7_day 12 = .ok (.iconst (-1), 1) := by decide +kernel
theorem dX7_day_13 : decode cX7_day 13 = .ok (.ireturn, 1) := by decide +kernel
theorem dX7_day_14 : decode cX7_day 14 = .ok (.aload_n 0, 1) := by decide +kernel
theorem dX7_day_15 : decode cX7_day 15 = .ok (.getfield 10, 3) := by decide +kernel
theorem dX7_day_18 : decode cX7_day 18 = .ok (.aload_n 0, 1) := by decide +kernel
theorem dX7_day_19 : decode cX7_day 19 = .ok (.getfield 19, 3) := by decide +kernel
theorem dX7_day_22 : decode cX7_day 22 = .ok (.iload_n 1, 1) := by decide +kernel
theorem dX7_day_23 : decode cX7_day 23 = .ok (.invokevirtual 263, 3) := by decide +kernel
theorem dX7_day_26 : decode cX7_day 26 = .ok (.istore_n 2, 1) := by decide +kernel
theorem dX7_day_27 : decode cX7_day 27 = .ok (.aload_n 0, 1) := by decide +kernel
theorem dX7_day_28 : decode cX7_day 28 = .ok (.getfield 23, 3) := by decide +kernel
theorem dX7_day_31 : decode cX7_day 31 = .ok (.iconst 0, 1) := by decide +kernel
theorem dX7_day_32 : decode cX7_day 32 = .ok (.dup2, 1) := by decide +kernel
theorem dX7_day_33 : decode cX7_day 33 = .ok (.iaload, 1) := by decide +kernel
theorem dX7_day_34 : decode cX7_day 34 = .ok (.iconst 1, 1) := by decide +kernel
theorem dX7_day_35 : decode cX7_day 35 = .ok (.iadd, 1) := by decide +kernel
theorem dX7_day_36 : decode cX7_day 36 = .ok (.iastore, 1) := by decide +kernel
theorem dX7_day_37 : decode cX7_day 37 = .ok (.aload_n 0, 1) := by decide +kernel
theorem dX7_day_38 : decode cX7_day 38 = .ok (.getfield 23, 3) := by decide +kernel
theorem dX7_day_41 : decode cX7_day 41 = .ok (.iconst 1, 1) := by decide +kernel
theorem dX7_day_42 : decode cX7_day 42 = .ok (.dup2, 1) := by decide +kernel
theorem dX7_day_43 : decode cX7_day 43 = .ok (.iaload, 1) := by decide +kernel
theorem dX7_day_44 : decode cX7_day 44 = .ok (.iload_n 2, 1) := by decide +kernel
theorem dX7_day_45 : decode cX7_day 45 = .ok (.iadd, 1) := by decide +kernel
theorem dX7_day_46 : decode cX7_day 46 = .ok (.iastore, 1) := by decide +kernel
theorem dX7_day_47 : decode cX7_day 47 = .ok (.iload_n 2, 1) := by decide +kernel
theorem dX7_day_48 : decode cX7_day 48 = .ok (.ireturn, 1) := by decide +kernel
theorem dX7_areTwo_0 : decode cX7_areTwo 0 = .ok (.aload_n 0, 1) := by decide +kernel
theorem dX7_areTwo_1 : decode cX7_areTwo 1 = .ok (.getfield 10, 3) := by decide +kernel
theorem dX7_areTwo_4 : decode cX7_areTwo 4 = .ok (.iload_n 1, 1) := by decide +kernel
theorem dX7_areTwo_5 : decode cX7_areTwo 5 = .ok (.invokevirtual 125, 3) := by decide +kernel
theorem dX7_areTwo_8 : decode cX7_areTwo 8 = .ok (.ifCond .eq 23, 3) := by decide +kernel
theorem dX7_areTwo_11 : decode cX7_areTwo 11 = .ok (.aload_n 0, 1) := by decide +kernel
theorem dX7_areTwo_12 : decode cX7_areTwo 12 = .ok (.getfield 10, 3) := by decide +kernel
theorem dX7_areTwo_15 : decode cX7_areTwo 15 = .ok (.iload_n 2, 1) := by decide +kernel
theorem dX7_areTwo_16 : decode cX7_areTwo 16 = .ok (.invokevirtual 125, 3) := by decide +kernel
theorem dX7_areTwo_19 : decode cX7_areTwo 19 = .ok (.ifCond .eq 12, 3) := by decide +kernel
theorem dX7_areTwo_22 : decode cX7_areTwo 22 = .ok (.iload_n 1, 1) := by decide +kernel
theorem dX7_areTwo_23 : decode cX7_areTwo 23 = .ok (.iload_n 2, 1) := by decide +kernel
theorem dX7_areTwo_24 : decode cX7_areTwo 24 = .ok (.if_icmp .eq 7, 3) := by decide +kernel
theorem dX7_areTwo_27 : decode cX7_areTwo 27 = .ok (.iconst 1, 1) := by decide +kernel
theorem dX7_areTwo_28 : decode cX7_areTwo 28 = .ok (.goto 4, 3) := by decide +kernel
theorem dX7_areTwo_31 : decode cX7_areTwo 31 = .ok (.iconst 0, 1) := by decide +kernel
theorem dX7_areTwo_32 : decode cX7_areTwo 32 = .ok (.ireturn, 1) := by decide +kernel
theorem dX7_tells_0 : decode cX7_tells 0 = .ok (.aload_n 0, 1) := by decide +kernel
theorem dX7_tells_1 : decode cX7_tells 1 = .ok (.iload_n 1, 1) := by decide +kernel
theorem dX7_tells_2 : decode cX7_tells 2 = .ok (.iload_n 2, 1) := by decide +kernel
theorem dX7_tells_3 : decode cX7_tells 3 = .ok (.invokevirtual 266, 3) := by decide +kernel
theorem dX7_tells_6 : decode cX7_tells 6 = .ok (.ifCond .ne 5, 3) := by decide +kernel
theorem dX7_tells_9 : decode cX7_tells 9 = .ok (.iconst (-1), 1) := by decide +kernel
theorem dX7_tells_10 : decode cX7_tells 10 = .ok (.ireturn, 1) := by decide +kernel
theorem dX7_tells_11 : decode cX7_tells 11 = .ok (.aload_n 0, 1) := by decide +kernel
theorem dX7_tells_12 : decode cX7_tells 12 = .ok (.getfield 19, 3) := by decide +kernel
theorem dX7_tells_15 : decode cX7_tells 15 = .ok (.getfield 100, 3) := by decide +kernel
theorem dX7_tells_18 : decode cX7_tells 18 = .ok (.iload_n 1, 1) := by decide +kernel
theorem dX7_tells_19 : decode cX7_tells 19 = .ok (.iaload, 1) := by decide +kernel
theorem dX7_tells_20 : decode cX7_tells 20 = .ok (.aload_n 0, 1) := by decide +kernel
theorem dX7_tells_21 : decode cX7_tells 21 = .ok (.getfield 19, 3) := by decide +kernel
theorem dX7_tells_24 : decode cX7_tells 24 = .ok (.getfield 100, 3) := by decide +kernel
theorem dX7_tells_27 : decode cX7_tells 27 = .ok (.iload_n 2, 1) := by decide +kernel
theorem dX7_tells_28 : decode cX7_tells 28 = .ok (.iaload, 1) := by decide +kernel
theorem dX7_tells_29 : decode cX7_tells 29 = .ok (.iconst (-1), 1) := by decide +kernel
theorem dX7_tells_30 : decode cX7_tells 30 = .ok (.ixor, 1) := by decide +kernel
theorem dX7_tells_31 : decode cX7_tells 31 = .ok (.iand, 1) := by decide +kernel
theorem dX7_tells_32 : decode cX7_tells 32 = .ok (.istore_n 3, 1) := by decide +kernel
theorem dX7_tells_33 : decode cX7_tells 33 = .ok (.aload_n 0, 1) := by decide +kernel
theorem dX7_tells_34 : decode cX7_tells 34 = .ok (.getfield 19, 3) := by decide +kernel
theorem dX7_tells_37 : decode cX7_tells 37 = .ok (.getfield 100, 3) := by decide +kernel
theorem dX7_tells_40 : decode cX7_tells 40 = .ok (.iload_n 2, 1) := by decide +kernel
theorem dX7_tells_41 : decode cX7_tells 41 = .ok (.dup2, 1) := by decide +kernel
theorem dX7_tells_42 : decode cX7_tells 42 = .ok (.iaload, 1) := by decide +kernel
theorem dX7_tells_43 : decode cX7_tells 43 = .ok (.iload_n 3, 1) := by decide +kernel
theorem dX7_tells_44 : decode cX7_tells 44 = .ok (.ior, 1) := by decide +kernel
theorem dX7_tells_45 : decode cX7_tells 45 = .ok (.iastore, 1) := by decide +kernel
theorem dX7_tells_46 : decode cX7_tells 46 = .ok (.aload_n 0, 1) := by decide +kernel
theorem dX7_tells_47 : decode cX7_tells 47 = .ok (.getfield 23, 3) := by decide +kernel
theorem dX7_tells_50 : decode cX7_tells 50 = .ok (.iconst 2, 1) := by decide +kernel
theorem dX7_tells_51 : decode cX7_tells 51 = .ok (.dup2, 1) := by decide +kernel
theorem dX7_tells_52 : decode cX7_tells 52 = .ok (.iaload, 1) := by decide +kernel
theorem dX7_tells_53 : decode cX7_tells 53 = .ok (.iconst 1, 1) := by decide +kernel
theorem dX7_tells_54 : decode cX7_tells 54 = .ok (.iadd, 1) := by decide +kernel
theorem dX7_tells_55 : decode cX7_tells 55 = .ok (.iastore, 1) := by decide +kernel
theorem dX7_tells_56 : decode cX7_tells 56 = .ok (.iload_n 3, 1) := by decide +kernel
theorem dX7_tells_57 : decode cX7_tells 57 = .ok (.invokestatic 214, 3) := by decide +kernel
theorem dX7_tells_60 : decode cX7_tells 60 = .ok (.ireturn, 1) := by decide +kernel
theorem dX7_pays_0 : decode cX7_pays 0 = .ok (.aload_n 0, 1) := by decide +kernel
theorem dX7_pays_1 : decode cX7_pays 1 = .ok (.iload_n 1, 1) := by decide +kernel
theorem dX7_pays_2 : decode cX7_pays 2 = .ok (.iload_n 2, 1) := by decide +kernel
theorem dX7_pays_3 : decode cX7_pays 3 = .ok (.invokevirtual 266, 3) := by decide +kernel
theorem dX7_pays_6 : decode cX7_pays 6 = .ok (.ifCond .eq 13, 3) := by decide +kernel
theorem dX7_pays_9 : decode cX7_pays 9 = .ok (.iload_n 3, 1) := by decide +kernel
theorem dX7_pays_10 : decode cX7_pays 10 = .ok (.iconst 1, 1) := by decide +kernel
theorem dX7_pays_11 : decode cX7_pays 11 = .ok (.bipush 99, 2) := by decide +kernel
theorem dX7_pays_13 : decode cX7_pays 13 = .ok (.invokestatic 63, 3) := by decide +kernel
theorem dX7_pays_16 : decode cX7_pays 16 = .ok (.ifCond .ne 5, 3) := by decide +kernel
theorem dX7_pays_19 : decode cX7_pays 19 = .ok (.iconst (-1), 1) := by decide +kernel
theorem dX7_pays_20 : decode cX7_pays 20 = .ok (.ireturn, 1) := by decide +kernel
theorem dX7_pays_21 : decode cX7_pays 21 = .ok (.aload_n 0, 1) := by decide +kernel
theorem dX7_pays_22 : decode cX7_pays 22 = .ok (.getfield 19, 3) := by decide +kernel
theorem dX7_pays_25 : decode cX7_pays 25 = .ok (.getfield 97, 3) := by decide +kernel
theorem dX7_pays_28 : decode cX7_pays 28 = .ok (.iload_n 1, 1) := by decide +kernel
theorem dX7_pays_29 : decode cX7_pays 29 = .ok (.iaload, 1) := by decide +kernel
theorem dX7_pays_30 : decode cX7_pays 30 = .ok (.iload_n 3, 1) := by decide +kernel
theorem dX7_pays_31 : decode cX7_pays 31 = .ok (.if_icmp .lt 16, 3) := by decide +kernel
theorem dX7_pays_34 : decode cX7_pays 34 = .ok (.aload_n 0, 1) := by decide +kernel
theorem dX7_pays_35 : decode cX7_pays 35 = .ok (.getfield 19, 3) := by decide +kernel
theorem dX7_pays_38 : decode cX7_pays 38 = .ok (.getfield 97, 3) := by decide +kernel
theorem dX7_pays_41 : decode cX7_pays 41 = .ok (.iload_n 2, 1) := by decide +kernel
theorem dX7_pays_42 : decode cX7_pays 42 = .ok (.iaload, 1) := by decide +kernel
theorem dX7_pays_43 : decode cX7_pays 43 = .ok (.iload_n 3, 1) := by decide +kernel
theorem dX7_pays_44 : decode cX7_pays 44 = .ok (.if_icmp .ge 6, 3) := by decide +kernel
theorem dX7_pays_47 : decode cX7_pays 47 = .ok (.bipush (-5), 2) := by decide +kernel
theorem dX7_pays_49 : decode cX7_pays 49 = .ok (.ireturn, 1) := by decide +kernel
theorem dX7_pays_50 : decode cX7_pays 50 = .ok (.aload_n 0, 1) := by decide +kernel
theorem dX7_pays_51 : decode cX7_pays 51 = .ok (.getfield 19, 3) := by decide +kernel
theorem dX7_pays_54 : decode cX7_pays 54 = .ok (.getfield 97, 3) := by decide +kernel
theorem dX7_pays_57 : decode cX7_pays 57 = .ok (.iload_n 1, 1) := by decide +kernel
theorem dX7_pays_58 : decode cX7_pays 58 = .ok (.dup2, 1) := by decide +kernel
theorem dX7_pays_59 : decode cX7_pays 59 = .ok (.iaload, 1) := by decide +kernel
theorem dX7_pays_60 : decode cX7_pays 60 = .ok (.iload_n 3, 1) := by decide +kernel
theorem dX7_pays_61 : decode cX7_pays 61 = .ok (.isub, 1) := by decide +kernel
theorem dX7_pays_62 : decode cX7_pays 62 = .ok (.iastore, 1) := by decide +kernel
theorem dX7_pays_63 : decode cX7_pays 63 = .ok (.aload_n 0, 1) := by decide +kernel
theorem dX7_pays_64 : decode cX7_pays 64 = .ok (.getfield 19, 3) := by decide +kernel
theorem dX7_pays_67 : decode cX7_pays 67 = .ok (.getfield 97, 3) := by decide +kernel
theorem dX7_pays_70 : decode cX7_pays 70 = .ok (.iload_n 2, 1) := by decide +kernel
theorem dX7_pays_71 : decode cX7_pays 71 = .ok (.dup2, 1) := by decide +kernel
theorem dX7_pays_72 : decode cX7_pays 72 = .ok (.iaload, 1) := by decide +kernel
theorem dX7_pays_73 : decode cX7_pays 73 = .ok (.iload_n 3, 1) := by decide +kernel
theorem dX7_pays_74 : decode cX7_pays 74 = .ok (.isub, 1) := by decide +kernel
theorem dX7_pays_75 : decode cX7_pays 75 = .ok (.iastore, 1) := by decide +kernel
theorem dX7_pays_76 : decode cX7_pays 76 = .ok (.aload_n 0, 1) := by decide +kernel
theorem dX7_pays_77 : decode cX7_pays 77 = .ok (.getfield 23, 3) := by decide +kernel
theorem dX7_pays_80 : decode cX7_pays 80 = .ok (.iconst 3, 1) := by decide +kernel
theorem dX7_pays_81 : decode cX7_pays 81 = .ok (.dup2, 1) := by decide +kernel
theorem dX7_pays_82 : decode cX7_pays 82 = .ok (.iaload, 1) := by decide +kernel
theorem dX7_pays_83 : decode cX7_pays 83 = .ok (.iload_n 3, 1) := by decide +kernel
theorem dX7_pays_84 : decode cX7_pays 84 = .ok (.iadd, 1) := by decide +kernel
theorem dX7_pays_85 : decode cX7_pays 85 = .ok (.iastore, 1) := by decide +kernel
theorem dX7_pays_86 : decode cX7_pays 86 = .ok (.aload_n 0, 1) := by decide +kernel
theorem dX7_pays_87 : decode cX7_pays 87 = .ok (.getfield 19, 3) := by decide +kernel
theorem dX7_pays_90 : decode cX7_pays 90 = .ok (.getfield 97, 3) := by decide +kernel
theorem dX7_pays_93 : decode cX7_pays 93 = .ok (.iload_n 1, 1) := by decide +kernel
theorem dX7_pays_94 : decode cX7_pays 94 = .ok (.iaload, 1) := by decide +kernel
theorem dX7_pays_95 : decode cX7_pays 95 = .ok (.ireturn, 1) := by decide +kernel
theorem dX7_cobble_0 : decode cX7_cobble 0 = .ok (.aload_n 0, 1) := by decide +kernel
theorem dX7_cobble_1 : decode cX7_cobble 1 = .ok (.getfield 19, 3) := by decide +kernel
theorem dX7_cobble_4 : decode cX7_cobble 4 = .ok (.getfield 134, 3) := by decide +kernel
theorem dX7_cobble_7 : decode cX7_cobble 7 = .ok (.istore_n 1, 1) := by decide +kernel
theorem dX7_cobble_8 : decode cX7_cobble 8 = .ok (.aload_n 0, 1) := by decide +kernel
theorem dX7_cobble_9 : decode cX7_cobble 9 = .ok (.getfield 19, 3) := by decide +kernel
theorem dX7_cobble_12 : decode cX7_cobble 12 = .ok (.iconst 0, 1) := by decide +kernel
theorem dX7_cobble_13 : decode cX7_cobble 13 = .ok (.putfield 134, 3) := by decide +kernel
theorem dX7_cobble_16 : decode cX7_cobble 16 = .ok (.aload_n 0, 1) := by decide +kernel
theorem dX7_cobble_17 : decode cX7_cobble 17 = .ok (.getfield 23, 3) := by decide +kernel
theorem dX7_cobble_20 : decode cX7_cobble 20 = .ok (.iconst 4, 1) := by decide +kernel
theorem dX7_cobble_21 : decode cX7_cobble 21 = .ok (.dup2, 1) := by decide +kernel
theorem dX7_cobble_22 : decode cX7_cobble 22 = .ok (.iaload, 1) := by decide +kernel
theorem dX7_cobble_23 : decode cX7_cobble 23 = .ok (.iconst 1, 1) := by decide +kernel
theorem dX7_cobble_24 : decode cX7_cobble 24 = .ok (.iadd, 1) := by decide +kernel
theorem dX7_cobble_25 : decode cX7_cobble 25 = .ok (.iastore, 1) := by decide +kernel
theorem dX7_cobble_26 : decode cX7_cobble 26 = .ok (.iload_n 1, 1) := by decide +kernel
theorem dX7_cobble_27 : decode cX7_cobble 27 = .ok (.ireturn, 1) := by decide +kernel
theorem dX7_led_0 : decode cX7_led 0 = .ok (.iload_n 1, 1) := by decide +kernel
theorem dX7_led_1 : decode cX7_led 1 = .ok (.iconst 0, 1) := by decide +kernel
theorem dX7_led_2 : decode cX7_led 2 = .ok (.iconst 4, 1) := by decide +kernel
theorem dX7_led_3 : decode cX7_led 3 = .ok (.invokestatic 63, 3) := by decide +kernel
theorem dX7_led_6 : decode cX7_led 6 = .ok (.ifCond .eq 12, 3) := by decide +kernel
theorem dX7_led_9 : decode cX7_led 9 = .ok (.aload_n 0, 1) := by decide +kernel
theorem dX7_led_10 : decode cX7_led 10 = .ok (.getfield 23, 3) := by decide +kernel
theorem dX7_led_13 : decode cX7_led 13 = .ok (.iload_n 1, 1) := by decide +kernel
theorem dX7_led_14 : decode cX7_led 14 = .ok (.iaload, 1) := by decide +kernel
theorem dX7_led_15 : decode cX7_led 15 = .ok (.goto 4, 3) := by decide +kernel
theorem dX7_led_18 : decode cX7_led 18 = .ok (.iconst (-1), 1) := by decide +kernel
theorem dX7_led_19 : decode cX7_led 19 = .ok (.ireturn, 1) := by decide +kernel
theorem dX7_image_0 : decode cX7_image 0 = .ok (.aload_n 0, 1) := by decide +kernel
theorem dX7_image_1 : decode cX7_image 1 = .ok (.aload_n 0, 1) := by decide +kernel
theorem dX7_image_2 : decode cX7_image 2 = .ok (.getfield 10, 3) := by decide +kernel
theorem dX7_image_5 : decode cX7_image 5 = .ok (.getfield 67, 3) := by decide +kernel
theorem dX7_image_8 : decode cX7_image 8 = .ok (.putfield 269, 3) := by decide +kernel
theorem dX7_image_11 : decode cX7_image 11 = .ok (.aload_n 0, 1) := by decide +kernel
theorem dX7_image_12 : decode cX7_image 12 = .ok (.getfield 27, 3) := by decide +kernel
theorem dX7_image_15 : decode cX7_image 15 = .ok (.aload_n 0, 1) := by decide +kernel
theorem dX7_image_16 : decode cX7_image 16 = .ok (.getfield 19, 3) := by decide +kernel
theorem dX7_image_19 : decode cX7_image 19 = .ok (.aload_n 0, 1) := by decide +kernel
theorem dX7_image_20 : decode cX7_image 20 = .ok (.getfield 269, 3) := by decide +kernel
theorem dX7_image_23 : decode cX7_image 23 = .ok (.invokevirtual 272, 3) := by decide +kernel
theorem dX7_image_26 : decode cX7_image 26 = .ok (.aload_n 0, 1) := by decide +kernel
theorem dX7_image_27 : decode cX7_image 27 = .ok (.getfield 23, 3) := by decide +kernel
theorem dX7_image_30 : decode cX7_image 30 = .ok (.iconst 0, 1) := by decide +kernel
theorem dX7_image_31 : decode cX7_image 31 = .ok (.aload_n 0, 1) := by decide +kernel
theorem dX7_image_32 : decode cX7_image 32 = .ok (.getfield 30, 3) := by decide +kernel
theorem dX7_image_35 : decode cX7_image 35 = .ok (.iconst 0, 1) := by decide +kernel
theorem dX7_image_36 : decode cX7_image 36 = .ok (.iconst 5, 1) := by decide +kernel
theorem dX7_image_37 : decode cX7_image 37 = .ok (.invokestatic 275, 3) := by decide +kernel
theorem dX7_image_40 : decode cX7_image 40 = .ok (.aload_n 0, 1) := by decide +kernel
theorem dX7_image_41 : decode cX7_image 41 = .ok (.iconst 1, 1) := by decide +kernel
theorem dX7_image_42 : decode cX7_image 42 = .ok (.putfield 281, 3) := by decide +kernel
theorem dX7_image_45 : decode cX7_image 45 = .ok (.aload_n 0, 1) := by decide +kernel
theorem dX7_image_46 : decode cX7_image 46 = .ok (.getfield 23, 3) := by decide +kernel
theorem dX7_image_49 : decode cX7_image 49 = .ok (.iconst 0, 1) := by decide +kernel
theorem dX7_image_50 : decode cX7_image 50 = .ok (.iaload, 1) := by decide +kernel
theorem dX7_image_51 : decode cX7_image 51 = .ok (.ireturn, 1) := by decide +kernel
theorem dX7_back_0 : decode cX7_back 0 = .ok (.aload_n 0, 1) := by decide +kernel
theorem dX7_back_1 : decode cX7_back 1 = .ok (.getfield 281, 3) := by decide +kernel
theorem dX7_back_4 : decode cX7_back 4 = .ok (.ifCond .ne 6, 3) := by decide +kernel
theorem dX7_back_7 : decode cX7_back 7 = .ok (.bipush (-5), 2) := by decide +kernel
theorem dX7_back_9 : decode cX7_back 9 = .ok (.ireturn, 1) := by decide +kernel
theorem dX7_back_10 : decode cX7_back 10 = .ok (.aload_n 0, 1) := by decide +kernel
theorem dX7_back_11 : decode cX7_back 11 = .ok (.getfield 19, 3) := by decide +kernel
theorem dX7_back_14 : decode cX7_back 14 = .ok (.aload_n 0, 1) := by decide +kernel
theorem dX7_back_15 : decode cX7_back 15 = .ok (.getfield 27, 3) := by decide +kernel
theorem dX7_back_18 : decode cX7_back 18 = .ok (.aload_n 0, 1) := by decide +kernel
theorem dX7_back_19 : decode cX7_back 19 = .ok (.getfield 269, 3) := by decide +kernel
theorem dX7_back_22 : decode cX7_back 22 = .ok (.invokevirtual 272, 3) := by decide +kernel
theorem dX7_back_25 : decode cX7_back 25 = .ok (.aload_n 0, 1) := by decide +kernel
theorem dX7_back_26 : decode cX7_back 26 = .ok (.getfield 30, 3) := by decide +kernel
theorem dX7_back_29 : decode cX7_back 29 = .ok (.iconst 0, 1) := by decide +kernel
theorem dX7_back_30 : decode cX7_back 30 = .ok (.aload_n 0, 1) := by decide +kernel
theorem dX7_back_31 : decode cX7_back 31 = .ok (.getfield 23, 3) := by decide +kernel
theorem dX7_back_34 : decode cX7_back 34 = .ok (.iconst 0, 1) := by decide +kernel
theorem dX7_back_35 : decode cX7_back 35 = .ok (.iconst 5, 1) := by decide +kernel
theorem dX7_back_36 : decode cX7_back 36 = .ok (.invokestatic 275, 3) := by decide +kernel
theorem dX7_back_39 : decode cX7_back 39 = .ok (.aload_n 0, 1) := by decide +kernel
theorem dX7_back_40 : decode cX7_back 40 = .ok (.getfield 23, 3) := by decide +kernel
theorem dX7_back_43 : decode cX7_back 43 = .ok (.iconst 0, 1) := by decide +kernel
theorem dX7_back_44 : decode cX7_back 44 = .ok (.iaload, 1) := by decide +kernel
theorem dX7_back_45 : decode cX7_back 45 = .ok (.ireturn, 1) := by decide +kernel
theorem dX7_undo_0 : decode cX7_undo 0 = .ok (.aload_n 0, 1) := by decide +kernel
theorem dX7_undo_1 : decode cX7_undo 1 = .ok (.getfield 45, 3) := by decide +kernel
theorem dX7_undo_4 : decode cX7_undo 4 = .ok (.getfield 284, 3) := by decide +kernel
theorem dX7_undo_7 : decode cX7_undo 7 = .ok (.ifCond .ne 6, 3) := by decide +kernel
theorem dX7_undo_10 : decode cX7_undo 10 = .ok (.bipush (-5), 2) := by decide +kernel
theorem dX7_undo_12 : decode cX7_undo 12 = .ok (.ireturn, 1) := by decide +kernel
theorem dX7_undo_13 : decode cX7_undo 13 = .ok (.aload_n 0, 1) := by decide +kernel
theorem dX7_undo_14 : decode cX7_undo 14 = .ok (.getfield 45, 3) := by decide +kernel
theorem dX7_undo_17 : decode cX7_undo 17 = .ok (.dup, 1) := by decide +kernel
theorem dX7_undo_18 : decode cX7_undo 18 = .ok (.getfield 284, 3) := by decide +kernel
theorem dX7_undo_21 : decode cX7_undo 21 = .ok (.iconst 1, 1) := by decide +kernel
theorem dX7_undo_22 : decode cX7_undo 22 = .ok (.isub, 1) := by decide +kernel
theorem dX7_undo_23 : decode cX7_undo 23 = .ok (.putfield 284, 3) := by decide +kernel
theorem dX7_undo_26 : decode cX7_undo 26 = .ok (.aload_n 0, 1) := by decide +kernel
theorem dX7_undo_27 : decode cX7_undo 27 = .ok (.getfield 45, 3) := by decide +kernel
theorem dX7_undo_30 : decode cX7_undo 30 = .ok (.getfield 284, 3) := by decide +kernel
theorem dX7_undo_33 : decode cX7_undo 33 = .ok (.istore_n 1, 1) := by decide +kernel
theorem dX7_undo_34 : decode cX7_undo 34 = .ok (.aload_n 0, 1) := by decide +kernel
theorem dX7_undo_35 : decode cX7_undo 35 = .ok (.aload_n 0, 1) := by decide +kernel
theorem dX7_undo_36 : decode cX7_undo 36 = .ok (.getfield 45, 3) := by decide +kernel
theorem dX7_undo_39 : decode cX7_undo 39 = .ok (.getfield 287, 3) := by decide +kernel
theorem dX7_undo_42 : decode cX7_undo 42 = .ok (.iload_n 1, 1) := by decide +kernel
theorem dX7_undo_43 : decode cX7_undo 43 = .ok (.iaload, 1) := by decide +kernel
theorem dX7_undo_44 : decode cX7_undo 44 = .ok (.aload_n 0, 1) := by decide +kernel
theorem dX7_undo_45 : decode cX7_undo 45 = .ok (.getfield 45, 3) := by decide +kernel
theorem dX7_undo_48 : decode cX7_undo 48 = .ok (.getfield 290, 3) := by decide +kernel
theorem dX7_undo_51 : decode cX7_undo 51 = .ok (.iload_n 1, 1) := by decide +kernel
theorem dX7_undo_52 : decode cX7_undo 52 = .ok (.iaload, 1) := by decide +kernel
theorem dX7_undo_53 : decode cX7_undo 53 = .ok (.aload_n 0, 1) := by decide +kernel
theorem dX7_undo_54 : decode cX7_undo 54 = .ok (.getfield 45, 3) := by decide +kernel
theorem dX7_undo_57 : decode cX7_undo 57 = .ok (.getfield 293, 3) := by decide +kernel
theorem dX7_undo_60 : decode cX7_undo 60 = .ok (.iload_n 1, 1) := by decide +kernel
theorem dX7_undo_61 : decode cX7_undo 61 = .ok (.iaload, 1) := by decide +kernel
theorem dX7_undo_62 : decode cX7_undo 62 = .ok (.invokevirtual 121, 3) := by decide +kernel
theorem dX7_undo_65 : decode cX7_undo 65 = .ok (.aload_n 0, 1) := by decide +kernel
theorem dX7_undo_66 : decode cX7_undo 66 = .ok (.getfield 45, 3) := by decide +kernel
theorem dX7_undo_69 : decode cX7_undo 69 = .ok (.getfield 284, 3) := by decide +kernel
theorem dX7_undo_72 : decode cX7_undo 72 = .ok (.ireturn, 1) := by decide +kernel
theorem dX7_redo_0 : decode cX7_redo 0 = .ok (.aload_n 0, 1) := by decide +kernel
theorem dX7_redo_1 : decode cX7_redo 1 = .ok (.getfield 45, 3) := by decide +kernel
theorem dX7_redo_4 : decode cX7_redo 4 = .ok (.getfield 284, 3) := by decide +kernel
theorem dX7_redo_7 : decode cX7_redo 7 = .ok (.aload_n 0, 1) := by decide +kernel
theorem dX7_redo_8 : decode cX7_redo 8 = .ok (.getfield 45, 3) := by decide +kernel
theorem dX7_redo_11 : decode cX7_redo 11 = .ok (.getfield 296, 3) := by decide +kernel
theorem dX7_redo_14 : decode cX7_redo 14 = .ok (.if_icmp .ne 6, 3) := by decide +kernel
theorem dX7_redo_17 : decode cX7_redo 17 = .ok (.bipush (-5), 2) := by decide +kernel
theorem dX7_redo_19 : decode cX7_redo 19 = .ok (.ireturn, 1) := by decide +kernel
theorem dX7_redo_20 : decode cX7_redo 20 = .ok (.aload_n 0, 1) := by decide +kernel
theorem dX7_redo_21 : decode cX7_redo 21 = .ok (.getfield 45, 3) := by decide +kernel
theorem dX7_redo_24 : decode cX7_redo 24 = .ok (.getfield 284, 3) := by decide +kernel
theorem dX7_redo_27 : decode cX7_redo 27 = .ok (.istore_n 1, 1) := by decide +kernel
theorem dX7_redo_28 : decode cX7_redo 28 = .ok (.aload_n 0, 1) := by decide +kernel
theorem dX7_redo_29 : decode cX7_redo 29 = .ok (.aload_n 0, 1) := by decide +kernel
theorem dX7_redo_30 : decode cX7_redo 30 = .ok (.getfield 45, 3) := by decide +kernel
theorem dX7_redo_33 : decode cX7_redo 33 = .ok (.getfield 287, 3) := by decide +kernel
theorem dX7_redo_36 : decode cX7_redo 36 = .ok (.iload_n 1, 1) := by decide +kernel
theorem dX7_redo_37 : decode cX7_redo 37 = .ok (.iaload, 1) := by decide +kernel
theorem dX7_redo_38 : decode cX7_redo 38 = .ok (.aload_n 0, 1) := by decide +kernel
theorem dX7_redo_39 : decode cX7_redo 39 = .ok (.getfield 45, 3) := by decide +kernel
theorem dX7_redo_42 : decode cX7_redo 42 = .ok (.getfield 290, 3) := by decide +kernel
theorem dX7_redo_45 : decode cX7_redo 45 = .ok (.iload_n 1, 1) := by decide +kernel
theorem dX7_redo_46 : decode cX7_redo 46 = .ok (.iaload, 1) := by decide +kernel
theorem dX7_redo_47 : decode cX7_redo 47 = .ok (.aload_n 0, 1) := by decide +kernel
theorem dX7_redo_48 : decode cX7_redo 48 = .ok (.getfield 45, 3) := by decide +kernel
theorem dX7_redo_51 : decode cX7_redo 51 = .ok (.getfield 299, 3) := by decide +kernel
theorem dX7_redo_54 : decode cX7_redo 54 = .ok (.iload_n 1, 1) := by decide +kernel
theorem dX7_redo_55 : decode cX7_redo 55 = .ok (.iaload, 1) := by decide +kernel
theorem dX7_redo_56 : decode cX7_redo 56 = .ok (.invokevirtual 121, 3) := by decide +kernel
theorem dX7_redo_59 : decode cX7_redo 59 = .ok (.aload_n 0, 1) := by decide +kernel
theorem dX7_redo_60 : decode cX7_redo 60 = .ok (.getfield 45, 3) := by decide +kernel
theorem dX7_redo_63 : decode cX7_redo 63 = .ok (.dup, 1) := by decide +kernel
theorem dX7_redo_64 : decode cX7_redo 64 = .ok (.getfield 284, 3) := by decide +kernel
theorem dX7_redo_67 : decode cX7_redo 67 = .ok (.iconst 1, 1) := by decide +kernel
theorem dX7_redo_68 : decode cX7_redo 68 = .ok (.iadd, 1) := by decide +kernel
theorem dX7_redo_69 : decode cX7_redo 69 = .ok (.putfield 284, 3) := by decide +kernel
theorem dX7_redo_72 : decode cX7_redo 72 = .ok (.aload_n 0, 1) := by decide +kernel
theorem dX7_redo_73 : decode cX7_redo 73 = .ok (.getfield 45, 3) := by decide +kernel
theorem dX7_redo_76 : decode cX7_redo 76 = .ok (.getfield 296, 3) := by decide +kernel
theorem dX7_redo_79 : decode cX7_redo 79 = .ok (.aload_n 0, 1) := by decide +kernel
theorem dX7_redo_80 : decode cX7_redo 80 = .ok (.getfield 45, 3) := by decide +kernel
theorem dX7_redo_83 : decode cX7_redo 83 = .ok (.getfield 284, 3) := by decide +kernel
theorem dX7_redo_86 : decode cX7_redo 86 = .ok (.isub, 1) := by decide +kernel
theorem dX7_redo_87 : decode cX7_redo 87 = .ok (.ireturn, 1) := by decide +kernel
theorem dX7_body_0 : decode cX7_body 0 = .ok (.iload_n 1, 1) := by decide +kernel
theorem dX7_body_1 : decode cX7_body 1 = .ok (.iconst 0, 1) := by decide +kernel
theorem dX7_body_2 : decode cX7_body 2 = .ok (.bipush 7, 2) := by decide +kernel
theorem dX7_body_4 : decode cX7_body 4 = .ok (.invokestatic 63, 3) := by decide +kernel
theorem dX7_body_7 : decode cX7_body 7 = .ok (.ifCond .ne 5, 3) := by decide +kernel
theorem dX7_body_10 : decode cX7_body 10 = .ok (.iconst (-1), 1) := by decide +kernel
theorem dX7_body_11 : decode cX7_body 11 = .ok (.ireturn, 1) := by decide +kernel
theorem dX7_body_12 : decode cX7_body 12 = .ok (.aload_n 0, 1) := by decide +kernel
theorem dX7_body_13 : decode cX7_body 13 = .ok (.getfield 52, 3) := by decide +kernel
theorem dX7_body_16 : decode cX7_body 16 = .ok (.getfield 302, 3) := by decide +kernel
theorem dX7_body_19 : decode cX7_body 19 = .ok (.bipush 50, 2) := by decide +kernel
theorem dX7_body_21 : decode cX7_body 21 = .ok (.if_icmp .ne 8, 3) := by decide +kernel
theorem dX7_body_24 : decode cX7_body 24 = .ok (.bipush (-3), 2) := by decide +kernel
theorem dX7_body_26 : decode cX7_body 26 = .ok (.goto 11, 3) := by decide +kernel
theorem dX7_body_29 : decode cX7_body 29 = .ok (.aload_n 0, 1) := by decide +kernel
theorem dX7_body_30 : decode cX7_body 30 = .ok (.getfield 52, 3) := by decide +kernel
theorem dX7_body_33 : decode cX7_body 33 = .ok (.iload_n 1, 1) := by decide +kernel
theorem dX7_body_34 : decode cX7_body 34 = .ok (.invokevirtual 303, 3) := by decide +kernel
theorem dX7_body_37 : decode cX7_body 37 = .ok (.ireturn, 1) := by decide +kernel
theorem dX7_isBody_0 : decode cX7_isBody 0 = .ok (.iload_n 1, 1) := by decide +kernel
theorem dX7_isBody_1 : decode cX7_isBody 1 = .ok (.iconst 0, 1) := by decide +kernel
theorem dX7_isBody_2 : decode cX7_isBody 2 = .ok (.aload_n 0, 1) := by decide +kernel
theorem dX7_isBody_3 : decode cX7_isBody 3 = .ok (.getfield 52, 3) := by decide +kernel
theorem dX7_isBody_6 : decode cX7_isBody 6 = .ok (.getfield 302, 3) := by decide +kernel
theorem dX7_isBody_9 : decode cX7_isBody 9 = .ok (.iconst 1, 1) := by decide +kernel
theorem dX7_isBody_10 : decode cX7_isBody 10 = .ok (.isub, 1) := by decide +kernel
theorem dX7_isBody_11 : decode cX7_isBody 11 = .ok (.invokestatic 63, 3) := by decide +kernel
theorem dX7_isBody_14 : decode cX7_isBody 14 = .ok (.ireturn, 1) := by decide +kernel
theorem dX7_act_0 : decode cX7_act 0 = .ok (.aload_n 0, 1) := by decide +kernel
theorem dX7_act_1 : decode cX7_act 1 = .ok (.getfield 52, 3) := by decide +kernel
theorem dX7_act_4 : decode cX7_act 4 = .ok (.iconst 0, 1) := by decide +kernel
theorem dX7_act_5 : decode cX7_act 5 = .ok (.putfield 305, 3) := by decide +kernel
theorem dX7_act_8 : decode cX7_act 8 = .ok (.aload_n 0, 1) := by decide +kernel
theorem dX7_act_9 : decode cX7_act 9 = .ok (.iload_n 1, 1) := by decide +kernel
theorem dX7_act_10 : decode cX7_act 10 = .ok (.invokevirtual 308, 3) := by decide +kernel
theorem dX7_act_13 : decode cX7_act 13 = .ok (.ifCond .eq 12, 3) := by decide +kernel
theorem dX7_act_16 : decode cX7_act 16 = .ok (.iload_n 2, 1) := by decide +kernel
theorem dX7_act_17 : decode cX7_act 17 = .ok (.iconst 0, 1) := by decide +kernel
theorem dX7_act_18 : decode cX7_act 18 = .ok (.iconst 3, 1) := by decide +kernel
theorem dX7_act_19 : decode cX7_act 19 = .ok (.invokestatic 63, 3) := by decide +kernel
theorem dX7_act_22 : decode cX7_act 22 = .ok (.ifCond .ne 5, 3) := by decide +kernel
theorem dX7_act_25 : decode cX7_act 25 = .ok (.iconst 0, 1) := by decide +kernel
theorem dX7_act_26 : decode cX7_act 26 = .ok (.ireturn, 1) := by decide +kernel
theorem dX7_act_27 : decode cX7_act 27 = .ok (.aload_n 0, 1) := by decide +kernel
theorem dX7_act_28 : decode cX7_act 28 = .ok (.getfield 52, 3) := by decide +kernel
theorem dX7_act_31 : decode cX7_act 31 = .ok (.iload_n 1, 1) := by decide +kernel
theorem dX7_act_32 : decode cX7_act 32 = .ok (.iload_n 2, 1) := by decide +kernel
theorem dX7_act_33 : decode cX7_act 33 = .ok (.iload_n 3, 1) := by decide +kernel
theorem dX7_act_34 : decode cX7_act 34 = .ok (.invokevirtual 311, 3) := by decide +kernel
theorem dX7_act_37 : decode cX7_act 37 = .ok (.ireturn, 1) := by decide +kernel
theorem dX7_trace_0 : decode cX7_trace 0 = .ok (.iload_n 1, 1) := by decide +kernel
theorem dX7_trace_1 : decode cX7_trace 1 = .ok (.iconst 0, 1) := by decide +kernel
theorem dX7_trace_2 : decode cX7_trace 2 = .ok (.aload_n 0, 1) := by decide +kernel
theorem dX7_trace_3 : decode cX7_trace 3 = .ok (.getfield 52, 3) := by decide +kernel
theorem dX7_trace_6 : decode cX7_trace 6 = .ok (.getfield 305, 3) := by decide +kernel
theorem dX7_trace_9 : decode cX7_trace 9 = .ok (.bipush 24, 2) := by decide +kernel
theorem dX7_trace_11 : decode cX7_trace 11 = .ok (.invokestatic 228, 3) := by decide +kernel
theorem dX7_trace_14 : decode cX7_trace 14 = .ok (.iconst 1, 1) := by decide +kernel
theorem dX7_trace_15 : decode cX7_trace 15 = .ok (.isub, 1) := by decide +kernel
theorem dX7_trace_16 : decode cX7_trace 16 = .ok (.invokestatic 63, 3) := by decide +kernel
theorem dX7_trace_19 : decode cX7_trace 19 = .ok (.ifCond .eq 15, 3) := by decide +kernel
theorem dX7_trace_22 : decode cX7_trace 22 = .ok (.aload_n 0, 1) := by decide +kernel
theorem dX7_trace_23 : decode cX7_trace 23 = .ok (.getfield 52, 3) := by decide +kernel
theorem dX7_trace_26 : decode cX7_trace 26 = .ok (.getfield 314, 3) := by decide +kernel
theorem dX7_trace_29 : decode cX7_trace 29 = .ok (.iload_n 1, 1) := by decide +kernel
theorem dX7_trace_30 : decode cX7_trace 30 = .ok (.iaload, 1) := by decide +kernel
theorem dX7_trace_31 : decode cX7_trace 31 = .ok (.goto 4, 3) := by decide +kernel
theorem dX7_trace_34 : decode cX7_trace 34 = .ok (.iconst (-1), 1) := by decide +kernel
theorem dX7_trace_35 : decode cX7_trace 35 = .ok (.ireturn, 1) := by decide +kernel
theorem dX7_keep_0 : decode cX7_keep 0 = .ok (.iload_n 1, 1) := by decide +kernel
theorem dX7_keep_1 : decode cX7_keep 1 = .ok (.invokestatic 75, 3) := by decide +kernel
theorem dX7_keep_4 : decode cX7_keep 4 = .ok (.ifCond .eq 16, 3) := by decide +kernel
theorem dX7_keep_7 : decode cX7_keep 7 = .ok (.iload_n 2, 1) := by decide +kernel
theorem dX7_keep_8 : decode cX7_keep 8 = .ok (.iconst (-1), 1) := by decide +kernel
theorem dX7_keep_9 : decode cX7_keep 9 = .ok (.if_icmp .eq 13, 3) := by decide +kernel
theorem dX7_keep_12 : decode cX7_keep 12 = .ok (.aload_n 0, 1) := by decide +kernel
theorem dX7_keep_13 : decode cX7_keep 13 = .ok (.iload_n 2, 1) := by decide +kernel
theorem dX7_keep_14 : decode cX7_keep 14 = .ok (.invokevirtual 308, 3) := by decide +kernel
theorem dX7_keep_17 : decode cX7_keep 17 = .ok (.ifCond .ne 5, 3) := by decide +kernel
theorem dX7_keep_20 : decode cX7_keep 20 = .ok (.iconst (-1), 1) := by decide +kernel
theorem dX7_keep_21 : decode cX7_keep 21 = .ok (.ireturn, 1) := by decide +kernel
theorem dX7_keep_22 : decode cX7_keep 22 = .ok (.aload_n 0, 1) := by decide +kernel
theorem dX7_keep_23 : decode cX7_keep 23 = .ok (.getfield 58, 3) := by decide +kernel
theorem dX7_keep_26 : decode cX7_keep 26 = .ok (.iload_n 1, 1) := by decide +kernel
theorem dX7_keep_27 : decode cX7_keep 27 = .ok (.aaload, 1) := by decide +kernel
theorem dX7_keep_28 : decode cX7_keep 28 = .ok (.iload_n 2, 1) := by decide +kernel
theorem dX7_keep_29 : decode cX7_keep 29 = .ok (.iconst (-1), 1) := by decide +kernel
theorem dX7_keep_30 : decode cX7_keep 30 = .ok (.if_icmp .ne 8, 3) := by decide +kernel
theorem dX7_keep_33 : decode cX7_keep 33 = .ok (.bipush (-2), 2) := by decide +kernel
theorem dX7_keep_35 : decode cX7_keep 35 = .ok (.goto 4, 3) := by decide +kernel
theorem dX7_keep_38 : decode cX7_keep 38 = .ok (.iconst (-1), 1) := by decide +kernel
theorem dX7_keep_39 : decode cX7_keep 39 = .ok (.putfield 79, 3) := by decide +kernel
theorem dX7_keep_42 : decode cX7_keep 42 = .ok (.aload_n 0, 1) := by decide +kernel
theorem dX7_keep_43 : decode cX7_keep 43 = .ok (.getfield 58, 3) := by decide +kernel
theorem dX7_keep_46 : decode cX7_keep 46 = .ok (.iload_n 1, 1) := by decide +kernel
theorem dX7_keep_47 : decode cX7_keep 47 = .ok (.aaload, 1) := by decide +kernel
theorem dX7_keep_48 : decode cX7_keep 48 = .ok (.iload_n 2, 1) := by decide +kernel
theorem dX7_keep_49 : decode cX7_keep 49 = .ok (.putfield 317, 3) := by decide +kernel
theorem dX7_keep_52 : decode cX7_keep 52 = .ok (.iconst 1, 1) := by decide +kernel
theorem dX7_keep_53 : decode cX7_keep 53 = .ok (.ireturn, 1) := by decide +kernel
theorem dX7_row_0 : decode cX7_row 0 = .ok (.iload_n 1, 1) := by decide +kernel
theorem dX7_row_1 : decode cX7_row 1 = .ok (.invokestatic 75, 3) := by decide +kernel
theorem dX7_row_4 : decode cX7_row 4 = .ok (.ifCond .eq 18, 3) := by decide +kernel
theorem dX7_row_7 : decode cX7_row 7 = .ok (.iload_n 2, 1) := by decide +kernel
theorem dX7_row_8 : decode cX7_row 8 = .ok (.iconst 0, 1) := by decide +kernel
theorem dX7_row_9 : decode cX7_row 9 = .ok (.iconst 4, 1) := by decide +kernel
theorem dX7_row_10 : decode cX7_row 10 = .ok (.invokestatic 63, 3) := by decide +kernel
theorem dX7_row_13 : decode cX7_row 13 = .ok (.ifCond .eq 9, 3) := by decide +kernel
theorem dX7_row_16 : decode cX7_row 16 = .ok (.iload_n 3, 1) := by decide +kernel
theorem dX7_row_17 : decode cX7_row 17 = .ok (.bipush 60, 2) := by decide +kernel
theorem dX7_row_19 : decode cX7_row 19 = .ok (.if_icmp .le 5, 3) := by decide +kernel
theorem dX7_row_22 : decode cX7_row 22 = .ok (.iconst (-1), 1) := by decide +kernel
theorem dX7_row_23 : decode cX7_row 23 = .ok (.ireturn, 1) := by decide +kernel
theorem dX7_row_24 : decode cX7_row 24 = .ok (.iload_n 3, 1) := by decide +kernel
theorem dX7_row_25 : decode cX7_row 25 = .ok (.ifCond .ge 6, 3) := by decide +kernel
theorem dX7_row_28 : decode cX7_row 28 = .ok (.bipush (-14), 2) := by decide +kernel
theorem dX7_row_30 : decode cX7_row 30 = .ok (.ireturn, 1) := by decide +kernel
theorem dX7_row_31 : decode cX7_row 31 = .ok (.aload_n 0, 1) := by decide +kernel
theorem dX7_row_32 : decode cX7_row 32 = .ok (.getfield 58, 3) := by decide +kernel
theorem dX7_row_35 : decode cX7_row 35 = .ok (.iload_n 1, 1) := by decide +kernel
theorem dX7_row_36 : decode cX7_row 36 = .ok (.aaload, 1) := by decide +kernel
theorem dX7_row_37 : decode cX7_row 37 = .ok (.iload_n 2, 1) := by decide +kernel
theorem dX7_row_38 : decode cX7_row 38 = .ok (.iload_n 3, 1) := by decide +kernel
theorem dX7_row_39 : decode cX7_row 39 = .ok (.invokevirtual 320, 3) := by decide +kernel
theorem dX7_row_42 : decode cX7_row 42 = .ok (.iconst 1, 1) := by decide +kernel
theorem dX7_row_43 : decode cX7_row 43 = .ok (.ireturn, 1) := by decide +kernel
theorem dX7_refusalOfPlace_0 : decode cX7_refusalOfPlace 0 = .ok (.iload_n 1, 1) := by decide +kernel
theorem dX7_refusalOfPlace_1 : decode cX7_refusalOfPlace 1 = .ok (.invokestatic 75, 3) := by decide +kernel
theorem dX7_refusalOfPlace_4 : decode cX7_refusalOfPlace 4 = .ok (.ifCond .ne 5, 3) := by decide +kernel
theorem dX7_refusalOfPlace_7 : decode cX7_refusalOfPlace 7 = .ok (.iconst (-1), 1) := by decide +kernel
theorem dX7_refusalOfPlace_8 : decode cX7_refusalOfPlace 8 = .ok (.ireturn, 1) := by decide +kernel
theorem dX7_refusalOfPlace_9 : decode cX7_refusalOfPlace 9 = .ok (.aload_n 0, 1) := by decide +kernel
theorem dX7_refusalOfPlace_10 : decode cX7_refusalOfPlace 10 = .ok (.getfield 58, 3) := by decide +kernel
theorem dX7_refusalOfPlace_13 : decode cX7_refusalOfPlace 13 = .ok (.iload_n 1, 1) := by decide +kernel
theorem dX7_refusalOfPlace_14 : decode cX7_refusalOfPlace 14 = .ok (.aaload, 1) := by decide +kernel
theorem dX7_refusalOfPlace_15 : decode cX7_refusalOfPlace 15 = .ok (.astore_n 3, 1) := by decide +kernel
theorem dX7_refusalOfPlace_16 : decode cX7_refusalOfPlace 16 = .ok (.aload_n 3, 1) := by decide +kernel
theorem dX7_refusalOfPlace_17 : decode cX7_refusalOfPlace 17 = .ok (.getfield 79, 3) := by decide +kernel
theorem dX7_refusalOfPlace_20 : decode cX7_refusalOfPlace 20 = .ok (.bipush (-2), 2) := by decide +kernel
theorem dX7_refusalOfPlace_22 : decode cX7_refusalOfPlace 22 = .ok (.if_icmp .ne 6, 3) := by decide +kernel
theorem dX7_refusalOfPlace_25 : decode cX7_refusalOfPlace 25 = .ok (.bipush (-11), 2) := by decide +kernel
theorem dX7_refusalOfPlace_27 : decode cX7_refusalOfPlace 27 = .ok (.ireturn, 1) := by decide +kernel
theorem dX7_refusalOfPlace_28 : decode cX7_refusalOfPlace 28 = .ok (.aload_n 3, 1) := by decide +kernel
theorem dX7_refusalOfPlace_29 : decode cX7_refusalOfPlace 29 = .ok (.getfield 79, 3) := by decide +kernel
theorem dX7_refusalOfPlace_32 : decode cX7_refusalOfPlace 32 = .ok (.iconst (-1), 1) := by decide +kernel
theorem dX7_refusalOfPlace_33 : decode cX7_refusalOfPlace 33 = .ok (.if_icmp .ne 6, 3) := by decide +kernel
theorem dX7_refusalOfPlace_36 : decode cX7_refusalOfPlace 36 = .ok (.bipush (-12), 2) := by decide +kernel
theorem dX7_refusalOfPlace_38 : decode cX7_refusalOfPlace 38 = .ok (.ireturn, 1) := by decide +kernel
theorem dX7_refusalOfPlace_39 : decode cX7_refusalOfPlace 39 = .ok (.iload_n 2, 1) := by decide +kernel
theorem dX7_refusalOfPlace_40 : decode cX7_refusalOfPlace 40 = .ok (.iconst 0, 1) := by decide +kernel
theorem dX7_refusalOfPlace_41 : decode cX7_refusalOfPlace 41 = .ok (.aload_n 3, 1) := by decide +kernel
theorem dX7_refusalOfPlace_42 : decode cX7_refusalOfPlace 42 = .ok (.getfield 86, 3) := by decide +kernel
theorem dX7_refusalOfPlace_45 : decode cX7_refusalOfPlace 45 = .ok (.iconst 1, 1) := by decide +kernel
theorem dX7_refusalOfPlace_46 : decode cX7_refusalOfPlace 46 = .ok (.isub, 1) := by decide +kernel
theorem dX7_refusalOfPlace_47 : decode cX7_refusalOfPlace 47 = .ok (.invokestatic 63, 3) := by decide +kernel
theorem dX7_refusalOfPlace_50 : decode cX7_refusalOfPlace 50 = .ok (.ifCond .eq 7, 3) := by decide +kernel
theorem dX7_refusalOfPlace_53 : decode cX7_refusalOfPlace 53 = .ok (.iconst 0, 1) := by decide +kernel
theorem dX7_refusalOfPlace_54 : decode cX7_refusalOfPlace 54 = .ok (.goto 5, 3) := by decide +kernel
theorem dX7_refusalOfPlace_57 : decode cX7_refusalOfPlace 57 = .ok (.bipush (-13), 2) := by decide +kernel
theorem dX7_refusalOfPlace_59 : decode cX7_refusalOfPlace 59 = .ok (.ireturn, 1) := by decide +kernel
theorem dX7_put_0 : decode cX7_put 0 = .ok (.aload_n 0, 1) := by decide +kernel
theorem dX7_put_1 : decode cX7_put 1 = .ok (.iload_n 1, 1) := by decide +kernel
theorem dX7_put_2 : decode cX7_put 2 = .ok (.iload_n 2, 1) := by decide +kernel
theorem dX7_put_3 : decode cX7_put 3 = .ok (.invokevirtual 324, 3) := by decide +kernel
theorem dX7_put_6 : decode cX7_put 6 = .ok (.istore 5, 2) := by decide +kernel
theorem dX7_put_8 : decode cX7_put 8 = .ok (.iload 5, 2) := by decide +kernel
theorem dX7_put_10 : decode cX7_put 10 = .ok (.ifCond .eq 6, 3) := by decide +kernel
theorem dX7_put_13 : decode cX7_put 13 = .ok (.iload 5, 2) := by decide +kernel
theorem dX7_put_15 : decode cX7_put 15 = .ok (.ireturn, 1) := by decide +kernel
theorem dX7_put_16 : decode cX7_put 16 = .ok (.aload_n 0, 1) := by decide +kernel
theorem dX7_put_17 : decode cX7_put 17 = .ok (.getfield 58, 3) := by decide +kernel
theorem dX7_put_20 : decode cX7_put 20 = .ok (.iload_n 1, 1) := by decide +kernel
theorem dX7_put_21 : decode cX7_put 21 = .ok (.aaload, 1) := by decide +kernel
theorem dX7_put_22 : decode cX7_put 22 = .ok (.getfield 87, 3) := by decide +kernel
theorem dX7_put_25 : decode cX7_put 25 = .ok (.iload_n 2, 1) := by decide +kernel
theorem dX7_put_26 : decode cX7_put 26 = .ok (.aload_n 0, 1) := by decide +kernel
theorem dX7_put_27 : decode cX7_put 27 = .ok (.getfield 58, 3) := by decide +kernel
theorem dX7_put_30 : decode cX7_put 30 = .ok (.iload_n 1, 1) := by decide +kernel
theorem dX7_put_31 : decode cX7_put 31 = .ok (.aaload, 1) := by decide +kernel
theorem dX7_put_32 : decode cX7_put 32 = .ok (.lload_n 3, 1) := by decide +kernel
theorem dX7_put_33 : decode cX7_put 33 = .ok (.invokevirtual 327, 3) := by decide +kernel
theorem dX7_put_36 : decode cX7_put 36 = .ok (.lastore, 1) := by decide +kernel
theorem dX7_put_37 : decode cX7_put 37 = .ok (.iconst 1, 1) := by decide +kernel
theorem dX7_put_38 : decode cX7_put 38 = .ok (.ireturn, 1) := by decide +kernel
theorem dX7_element_0 : decode cX7_element 0 = .ok (.aload_n 0, 1) := by decide +kernel
theorem dX7_element_1 : decode cX7_element 1 = .ok (.iload_n 1, 1) := by decide +kernel
theorem dX7_element_2 : decode cX7_element 2 = .ok (.iload_n 2, 1) := by decide +kernel
theorem dX7_element_3 : decode cX7_element 3 = .ok (.invokevirtual 324, 3) := by decide +kernel
theorem dX7_element_6 : decode cX7_element 6 = .ok (.ifCond .eq 9, 3) := by decide +kernel
theorem dX7_element_9 : decode cX7_element 9 = .ok (.ldc2_w 331, 3) := by decide +kernel
theorem dX7_element_12 : decode cX7_element 12 = .ok (.goto 14, 3) := by decide +kernel
theorem dX7_element_15 : decode cX7_element 15 = .ok (.aload_n 0, 1) := by decide +kernel
theorem dX7_element_16 : decode cX7_element 16 = .ok (.getfield 58, 3) := by decide +kernel
theorem dX7_element_19 : decode cX7_element 19 = .ok (.iload_n 1, 1) := by decide +kernel
theorem dX7_element_20 : decode cX7_element 20 = .ok (.aaload, 1) := by decide +kernel
theorem dX7_element_21 : decode cX7_element 21 = .ok (.getfield 87, 3) := by decide +kernel
theorem dX7_element_24 : decode cX7_element 24 = .ok (.iload_n 2, 1) := by decide +kernel
theorem dX7_element_25 : decode cX7_element 25 = .ok (.laload, 1) := by decide +kernel
theorem dX7_element_26 : decode cX7_element 26 = .ok (.lreturn, 1) := by decide +kernel
theorem dX7_shift_0 : decode cX7_shift 0 = .ok (.iload_n 1, 1) := by decide +kernel
theorem dX7_shift_1 : decode cX7_shift 1 = .ok (.invokestatic 75, 3) := by decide +kernel
theorem dX7_shift_4 : decode cX7_shift 4 = .ok (.ifCond .eq 10, 3) := by decide +kernel
theorem dX7_shift_7 : decode cX7_shift 7 = .ok (.iload_n 3, 1) := by decide +kernel
theorem dX7_shift_8 : decode cX7_shift 8 = .ok (.invokestatic 75, 3) := by decide +kernel
theorem dX7_shift_11 : decode cX7_shift 11 = .ok (.ifCond .ne 5, 3) := by decide +kernel
theorem dX7_shift_14 : decode cX7_shift 14 = .ok (.iconst (-1), 1) := by decide +kernel
theorem dX7_shift_15 : decode cX7_shift 15 = .ok (.ireturn, 1) := by decide +kernel
theorem dX7_shift_16 : decode cX7_shift 16 = .ok (.aload_n 0, 1) := by decide +kernel
theorem dX7_shift_17 : decode cX7_shift 17 = .ok (.getfield 58, 3) := by decide +kernel
theorem dX7_shift_20 : decode cX7_shift 20 = .ok (.iload_n 1, 1) := by decide +kernel
theorem dX7_shift_21 : decode cX7_shift 21 = .ok (.aaload, 1) := by decide +kernel
theorem dX7_shift_22 : decode cX7_shift 22 = .ok (.astore 6, 2) := by decide +kernel
theorem dX7_shift_24 : decode cX7_shift 24 = .ok (.aload_n 0, 1) := by decide +kernel
theorem dX7_shift_25 : decode cX7_shift 25 = .ok (.getfield 58, 3) := by decide +kernel
theorem dX7_shift_28 : decode cX7_shift 28 = .ok (.iload_n 3, 1) := by decide +kernel
theorem dX7_shift_29 : decode cX7_shift 29 = .ok (.aaload, 1) := by decide +kernel
theorem dX7_shift_30 : decode cX7_shift 30 = .ok (.astore 7, 2) := by decide +kernel
theorem dX7_shift_32 : decode cX7_shift 32 = .ok (.aload 6, 2) := by decide +kernel
theorem dX7_shift_34 : decode cX7_shift 34 = .ok (.getfield 79, 3) := by decide +kernel
theorem dX7_shift_37 : decode cX7_shift 37 = .ok (.bipush (-2), 2) := by decide +kernel
theorem dX7_shift_39 : decode cX7_shift 39 = .ok (.if_icmp .eq 13, 3) := by decide +kernel
theorem dX7_shift_42 : decode cX7_shift 42 = .ok (.aload 7, 2) := by decide +kernel
theorem dX7_shift_44 : decode cX7_shift 44 = .ok (.getfield 79, 3) := by decide +kernel
theorem dX7_shift_47 : decode cX7_shift 47 = .ok (.bipush (-2), 2) := by decide +kernel
theorem dX7_shift_49 : decode cX7_shift 49 = .ok (.if_icmp .ne 6, 3) := by decide +kernel
theorem dX7_shift_52 : decode cX7_shift 52 = .ok (.bipush (-11), 2) := by decide +kernel
theorem dX7_shift_54 : decode cX7_shift 54 = .ok (.ireturn, 1) := by decide +kernel
theorem dX7_shift_55 : decode cX7_shift 55 = .ok (.aload 6, 2) := by decide +kernel
theorem dX7_shift_57 : decode cX7_shift 57 = .ok (.getfield 79, 3) := by decide +kernel
theorem dX7_shift_60 : decode cX7_shift 60 = .ok (.iconst (-1), 1) := by decide +kernel
theorem dX7_shift_61 : decode cX7_shift 61 = .ok (.if_icmp .eq 16, 3) := by decide +kernel
theorem dX7_shift_64 : decode cX7_shift 64 = .ok (.aload 6, 2) := by decide +kernel
theorem dX7_shift_66 : decode cX7_shift 66 = .ok (.getfield 79, 3) := by decide +kernel
theorem dX7_shift_69 : decode cX7_shift 69 = .ok (.aload 7, 2) := by decide +kernel
theorem dX7_shift_71 : decode cX7_shift 71 = .ok (.getfield 79, 3) := by decide +kernel
theorem dX7_shift_74 : decode cX7_shift 74 = .ok (.if_icmp .eq 6, 3) := by decide +kernel
theorem dX7_shift_77 : decode cX7_shift 77 = .ok (.bipush (-12), 2) := by decide +kernel
theorem dX7_shift_79 : decode cX7_shift 79 = .ok (.ireturn, 1) := by decide +kernel
theorem dX7_shift_80 : decode cX7_shift 80 = .ok (.aload 6, 2) := by decide +kernel
theorem dX7_shift_82 : decode cX7_shift 82 = .ok (.iload_n 2, 1) := by decide +kernel
theorem dX7_shift_83 : decode cX7_shift 83 = .ok (.iload 5, 2) := by decide +kernel
theorem dX7_shift_85 : decode cX7_shift 85 = .ok (.invokevirtual 333, 3) := by decide +kernel
theorem dX7_shift_88 : decode cX7_shift 88 = .ok (.ifCond .eq 15, 3) := by decide +kernel
theorem dX7_shift_91 : decode cX7_shift 91 = .ok (.aload 7, 2) := by decide +kernel
theorem dX7_shift_93 : decode cX7_shift 93 = .ok (.iload 4, 2) := by decide +kernel
theorem dX7_shift_95 : decode cX7_shift 95 = .ok (.iload 5, 2) := by decide +kernel
theorem dX7_shift_97 : decode cX7_shift 97 = .ok (.invokevirtual 333, 3) := by decide +kernel
theorem dX7_shift_100 : decode cX7_shift 100 = .ok (.ifCond .ne 6, 3) := by decide +kernel
theorem dX7_shift_103 : decode cX7_shift 103 = .ok (.bipush (-13), 2) := by decide +kernel
theorem dX7_shift_105 : decode cX7_shift 105 = .ok (.ireturn, 1) := by decide +kernel
theorem dX7_shift_106 : decode cX7_shift 106 = .ok (.aload 6, 2) := by decide +kernel
theorem dX7_shift_108 : decode cX7_shift 108 = .ok (.getfield 87, 3) := by decide +kernel
theorem dX7_shift_111 : decode cX7_shift 111 = .ok (.iload_n 2, 1) := by decide +kernel
theorem dX7_shift_112 : decode cX7_shift 112 = .ok (.aload 7, 2) := by decide +kernel
theorem dX7_shift_114 : decode cX7_shift 114 = .ok (.getfield 87, 3) := by decide +kernel
theorem dX7_shift_117 : decode cX7_shift 117 = .ok (.iload 4, 2) := by decide +kernel
theorem dX7_shift_119 : decode cX7_shift 119 = .ok (.iload 5, 2) := by decide +kernel
theorem dX7_shift_121 : decode cX7_shift 121 = .ok (.invokestatic 275, 3) := by decide +kernel
theorem dX7_shift_124 : decode cX7_shift 124 = .ok (.iload 5, 2) := by decide +kernel
theorem dX7_shift_126 : decode cX7_shift 126 = .ok (.ireturn, 1) := by decide +kernel
theorem dX7_taken_0 : decode cX7_taken 0 = .ok (.iload_n 1, 1) := by decide +kernel
theorem dX7_taken_1 : decode cX7_taken 1 = .ok (.invokestatic 75, 3) := by decide +kernel
theorem dX7_taken_4 : decode cX7_taken 4 = .ok (.ifCond .eq 13, 3) := by decide +kernel
theorem dX7_taken_7 : decode cX7_taken 7 = .ok (.iload_n 2, 1) := by decide +kernel
theorem dX7_taken_8 : decode cX7_taken 8 = .ok (.iconst 0, 1) := by decide +kernel
theorem dX7_taken_9 : decode cX7_taken 9 = .ok (.bipush 7, 2) := by decide +kernel
theorem dX7_taken_11 : decode cX7_taken 11 = .ok (.invokestatic 63, 3) := by decide +kernel
theorem dX7_taken_14 : decode cX7_taken 14 = .ok (.ifCond .ne 5, 3) := by decide +kernel
theorem dX7_taken_17 : decode cX7_taken 17 = .ok (.iconst (-1), 1) := by decide +kernel
theorem dX7_taken_18 : decode cX7_taken 18 = .ok (.ireturn, 1) := by decide +kernel
theorem dX7_taken_19 : decode cX7_taken 19 = .ok (.aload_n 0, 1) := by decide +kernel
theorem dX7_taken_20 : decode cX7_taken 20 = .ok (.getfield 58, 3) := by decide +kernel
theorem dX7_taken_23 : decode cX7_taken 23 = .ok (.iload_n 1, 1) := by decide +kernel
theorem dX7_taken_24 : decode cX7_taken 24 = .ok (.aaload, 1) := by decide +kernel
theorem dX7_taken_25 : decode cX7_taken 25 = .ok (.astore_n 3, 1) := by decide +kernel
theorem dX7_taken_26 : decode cX7_taken 26 = .ok (.aload_n 3, 1) := by decide +kernel
theorem dX7_taken_27 : decode cX7_taken 27 = .ok (.getfield 79, 3) := by decide +kernel
theorem dX7_taken_30 : decode cX7_taken 30 = .ok (.bipush (-2), 2) := by decide +kernel
theorem dX7_taken_32 : decode cX7_taken 32 = .ok (.if_icmp .ne 6, 3) := by decide +kernel
theorem dX7_taken_35 : decode cX7_taken 35 = .ok (.bipush (-11), 2) := by decide +kernel
theorem dX7_taken_37 : decode cX7_taken 37 = .ok (.ireturn, 1) := by decide +kernel
theorem dX7_taken_38 : decode cX7_taken 38 = .ok (.aload_n 3, 1) := by decide +kernel
theorem dX7_taken_39 : decode cX7_taken 39 = .ok (.getfield 79, 3) := by decide +kernel
theorem dX7_taken_42 : decode cX7_taken 42 = .ok (.iconst (-1), 1) := by decide +kernel
theorem dX7_taken_43 : decode cX7_taken 43 = .ok (.if_icmp .ne 22, 3) := by decide +kernel
theorem dX7_taken_46 : decode cX7_taken 46 = .ok (.aload_n 0, 1) := by decide +kernel
theorem dX7_taken_47 : decode cX7_taken 47 = .ok (.getfield 52, 3) := by decide +kernel
theorem dX7_taken_50 : decode cX7_taken 50 = .ok (.getfield 336, 3) := by decide +kernel
theorem dX7_taken_53 : decode cX7_taken 53 = .ok (.aload_n 3, 1) := by decide +kernel
theorem dX7_taken_54 : decode cX7_taken 54 = .ok (.getfield 317, 3) := by decide +kernel
theorem dX7_taken_57 : decode cX7_taken 57 = .ok (.iaload, 1) := by decide +kernel
theorem dX7_taken_58 : decode cX7_taken 58 = .ok (.iload_n 2, 1) := by decide +kernel
theorem dX7_taken_59 : decode cX7_taken 59 = .ok (.invokestatic 337, 3) := by decide +kernel
theorem dX7_taken_62 : decode cX7_taken 62 = .ok (.ifCond .ne 6, 3) := by decide +kernel
theorem dX7_taken_65 : decode cX7_taken 65 = .ok (.bipush (-12), 2) := by decide +kernel
theorem dX7_taken_67 : decode cX7_taken 67 = .ok (.ireturn, 1) := by decide +kernel
theorem dX7_taken_68 : decode cX7_taken 68 = .ok (.aload_n 0, 1) := by decide +kernel
theorem dX7_taken_69 : decode cX7_taken 69 = .ok (.getfield 52, 3) := by decide +kernel
theorem dX7_taken_72 : decode cX7_taken 72 = .ok (.getfield 336, 3) := by decide +kernel
theorem dX7_taken_75 : decode cX7_taken 75 = .ok (.aload_n 3, 1) := by decide +kernel
theorem dX7_taken_76 : decode cX7_taken 76 = .ok (.getfield 317, 3) := by decide +kernel
theorem dX7_taken_79 : decode cX7_taken 79 = .ok (.iaload, 1) := by decide +kernel
theorem dX7_taken_80 : decode cX7_taken 80 = .ok (.ireturn, 1) := by decide +kernel
theorem dX7_count_0 : decode cX7_count 0 = .ok (.iload_n 1, 1) := by decide +kernel
theorem dX7_count_1 : decode cX7_count 1 = .ok (.tableswitch 101 0 5 #[39, 47, 66, 77, 85, 93], 39) := by decide +kernel
theorem dX7_count_40 : decode cX7_count 40 = .ok (.aload_n 0, 1) := by decide +kernel
theorem dX7_count_41 : decode cX7_count 41 = .ok (.getfield 10, 3) := by decide +kernel
theorem dX7_count_44 : decode cX7_count 44 = .ok (.getfield 67, 3) := by decide +kernel
theorem dX7_count_47 : decode cX7_count 47 = .ok (.ireturn, 1) := by decide +kernel
theorem dX7_count_48 : decode cX7_count 48 = .ok (.aload_n 0, 1) := by decide +kernel
theorem dX7_count_49 : decode cX7_count 49 = .ok (.iconst 1, 1) := by decide +kernel
theorem dX7_count_50 : decode cX7_count 50 = .ok (.aload_n 0, 1) := by decide +kernel
theorem dX7_count_51 : decode cX7_count 51 = .ok (.getfield 10, 3) := by decide +kernel
theorem dX7_count_54 : decode cX7_count 54 = .ok (.getfield 67, 3) := by decide +kernel
theorem dX7_count_57 : decode cX7_count 57 = .ok (.ishl, 1) := by decide +kernel
theorem dX7_count_58 : decode cX7_count 58 = .ok (.iconst 1, 1) := by decide +kernel
theorem dX7_count_59 : decode cX7_count 59 = .ok (.isub, 1) := by decide +kernel
theorem dX7_count_60 : decode cX7_count 60 = .ok (.invokevirtual 196, 3) := by decide +kernel
theorem dX7_count_63 : decode cX7_count 63 = .ok (.invokestatic 214, 3) := by decide +kernel
theorem dX7_count_66 : decode cX7_count 66 = .ok (.ireturn, 1) := by decide +kernel
theorem dX7_count_67 : decode cX7_count 67 = .ok (.aload_n 0, 1) := by decide +kernel
theorem dX7_count_68 : decode cX7_count 68 = .ok (.getfield 10, 3) := by decide +kernel
theorem dX7_count_71 : decode cX7_count 71 = .ok (.getfield 140, 3) := by decide +kernel
theorem dX7_count_74 : decode cX7_count 74 = .ok (.getfield 144, 3) := by decide +kernel
theorem dX7_count_77 : decode cX7_count 77 = .ok (.ireturn, 1) := by decide +kernel
theorem dX7_count_78 : decode cX7_count 78 = .ok (.aload_n 0, 1) := by decide +kernel
theorem dX7_count_79 : decode cX7_count 79 = .ok (.getfield 45, 3) := by decide +kernel
theorem dX7_count_82 : decode cX7_count 82 = .ok (.getfield 284, 3) := by decide +kernel
theorem dX7_count_85 : decode cX7_count 85 = .ok (.ireturn, 1) := by decide +kernel
theorem dX7_count_86 : decode cX7_count 86 = .ok (.aload_n 0, 1) := by decide +kernel
theorem dX7_count_87 : decode cX7_count 87 = .ok (.getfield 52, 3) := by decide +kernel
theorem dX7_count_90 : decode cX7_count 90 = .ok (.getfield 302, 3) := by decide +kernel
theorem dX7_count_93 : decode cX7_count 93 = .ok (.ireturn, 1) := by decide +kernel
theorem dX7_count_94 : decode cX7_count 94 = .ok (.aload_n 0, 1) := by decide +kernel
theorem dX7_count_95 : decode cX7_count 95 = .ok (.getfield 52, 3) := by decide +kernel
theorem dX7_count_98 : decode cX7_count 98 = .ok (.getfield 305, 3) := by decide +kernel
theorem dX7_count_101 : decode cX7_count 101 = .ok (.ireturn, 1) := by decide +kernel
theorem dX7_count_102 : decode cX7_count 102 = .ok (.iconst (-1), 1) := by decide +kernel
theorem dX7_count_103 : decode cX7_count 103 = .ok (.ireturn, 1) := by decide +kernel
