/-! the law, rows 0 -/
theorem dw_0 : decode code 0 = .ok (.new 7, 3) := by decide +kernel
theorem dw_3 : decode code 3 = .ok (.dup, 1) := by decide +kernel
theorem dw_4 : decode code 4 = .ok (.invokespecial 9, 3) := by decide +kernel
theorem dw_7 : decode code 7 = .ok (.astore_n 1, 1) := by decide +kernel
theorem dw_8 : decode code 8 = .ok (.new 10, 3) := by decide +kernel
theorem dw_11 : decode code 11 = .ok (.dup, 1) := by decide +kernel
theorem dw_12 : decode code 12 = .ok (.invokespecial 12, 3) := by decide +kernel
theorem dw_15 : decode code 15 = .ok (.astore_n 2, 1) := by decide +kernel
theorem dw_16 : decode code 16 = .ok (.iconst 0, 1) := by decide +kernel
theorem dw_17 : decode code 17 = .ok (.istore_n 3, 1) := by decide +kernel
theorem dw_18 : decode code 18 = .ok (.iload_n 3, 1) := by decide +kernel
theorem dw_19 : decode code 19 = .ok (.aload_n 0, 1) := by decide +kernel
theorem dw_20 : decode code 20 = .ok (.arraylength, 1) := by decide +kernel
theorem dw_21 : decode code 21 = .ok (.bipush 6, 2) := by decide +kernel
theorem dw_23 : decode code 23 = .ok (.isub, 1) := by decide +kernel
theorem dw_24 : decode code 24 = .ok (.if_icmp .gt 1360, 3) := by decide +kernel
theorem dw_27 : decode code 27 = .ok (.aload_n 0, 1) := by decide +kernel
theorem dw_28 : decode code 28 = .ok (.iload_n 3, 1) := by decide +kernel
theorem dw_29 : decode code 29 = .ok (.iaload, 1) := by decide +kernel
theorem dw_30 : decode code 30 = .ok (.bipush 63, 2) := by decide +kernel
theorem dw_32 : decode code 32 = .ok (.iand, 1) := by decide +kernel
theorem dw_33 : decode code 33 = .ok (.tableswitch 1345 0 36 #[163, 186, 229, 272, 305, 328, 341, 364, 417, 460, 493, 536, 559, 582, 605, 638, 681, 724, 767, 790, 823, 866, 879, 902, 915, 928, 941, 954, 977, 1020, 1043, 1076, 1119, 1192, 1226, 1289, 1322], 163) := by decide +kernel
theorem dw_196 : decode code 196 = .ok (.aload_n 1, 1) := by decide +kernel
theorem dw_197 : decode code 197 = .ok (.aload_n 0, 1) := by decide +kernel
theorem dw_198 : decode code 198 = .ok (.iload_n 3, 1) := by decide +kernel
theorem dw_199 : decode code 199 = .ok (.iconst 1, 1) := by decide +kernel
theorem dw_200 : decode code 200 = .ok (.iadd, 1) := by decide +kernel
theorem dw_201 : decode code 201 = .ok (.iaload, 1) := by decide +kernel
theorem dw_202 : decode code 202 = .ok (.invokevirtual 13, 3) := by decide +kernel
theorem dw_205 : decode code 205 = .ok (.aload_n 2, 1) := by decide +kernel
theorem dw_206 : decode code 206 = .ok (.aload_n 0, 1) := by decide +kernel
theorem dw_207 : decode code 207 = .ok (.iload_n 3, 1) := by decide +kernel
theorem dw_208 : decode code 208 = .ok (.iconst 1, 1) := by decide +kernel
theorem dw_209 : decode code 209 = .ok (.iadd, 1) := by decide +kernel
theorem dw_210 : decode code 210 = .ok (.iaload, 1) := by decide +kernel
theorem dw_211 : decode code 211 = .ok (.invokevirtual 17, 3) := by decide +kernel
theorem dw_214 : decode code 214 = .ok (.if_icmp .eq 1164, 3) := by decide +kernel
theorem dw_217 : decode code 217 = .ok (.iconst 0, 1) := by decide +kernel
theorem dw_218 : decode code 218 = .ok (.ireturn, 1) := by decide +kernel
theorem dw_219 : decode code 219 = .ok (.aload_n 1, 1) := by decide +kernel
theorem dw_220 : decode code 220 = .ok (.aload_n 0, 1) := by decide +kernel
theorem dw_221 : decode code 221 = .ok (.iload_n 3, 1) := by decide +kernel
theorem dw_222 : decode code 222 = .ok (.iconst 1, 1) := by decide +kernel
theorem dw_223 : decode code 223 = .ok (.iadd, 1) := by decide +kernel
theorem dw_224 : decode code 224 = .ok (.iaload, 1) := by decide +kernel
theorem dw_225 : decode code 225 = .ok (.aload_n 0, 1) := by decide +kernel
theorem dw_226 : decode code 226 = .ok (.iload_n 3, 1) := by decide +kernel
theorem dw_227 : decode code 227 = .ok (.iconst 2, 1) := by decide +kernel
theorem dw_228 : decode code 228 = .ok (.iadd, 1) := by decide +kernel
theorem dw_229 : decode code 229 = .ok (.iaload, 1) := by decide +kernel
theorem dw_230 : decode code 230 = .ok (.aload_n 0, 1) := by decide +kernel
theorem dw_231 : decode code 231 = .ok (.iload_n 3, 1) := by decide +kernel
theorem dw_232 : decode code 232 = .ok (.iconst 3, 1) := by decide +kernel
theorem dw_233 : decode code 233 = .ok (.iadd, 1) := by decide +kernel
theorem dw_234 : decode code 234 = .ok (.iaload, 1) := by decide +kernel
theorem dw_235 : decode code 235 = .ok (.invokevirtual 18, 3) := by decide +kernel
theorem dw_238 : decode code 238 = .ok (.aload_n 2, 1) := by decide +kernel
theorem dw_239 : decode code 239 = .ok (.aload_n 0, 1) := by decide +kernel
theorem dw_240 : decode code 240 = .ok (.iload_n 3, 1) := by decide +kernel
theorem dw_241 : decode code 241 = .ok (.iconst 1, 1) := by decide +kernel
theorem dw_242 : decode code 242 = .ok (.iadd, 1) := by decide +kernel
theorem dw_243 : decode code 243 = .ok (.iaload, 1) := by decide +kernel
theorem dw_244 : decode code 244 = .ok (.aload_n 0, 1) := by decide +kernel
theorem dw_245 : decode code 245 = .ok (.iload_n 3, 1) := by decide +kernel
theorem dw_246 : decode code 246 = .ok (.iconst 2, 1) := by decide +kernel
theorem dw_247 : decode code 247 = .ok (.iadd, 1) := by decide +kernel
theorem dw_248 : decode code 248 = .ok (.iaload, 1) := by decide +kernel
theorem dw_249 : decode code 249 = .ok (.aload_n 0, 1) := by decide +kernel
theorem dw_250 : decode code 250 = .ok (.iload_n 3, 1) := by decide +kernel
theorem dw_251 : decode code 251 = .ok (.iconst 3, 1) := by decide +kernel
theorem dw_252 : decode code 252 = .ok (.iadd, 1) := by decide +kernel
theorem dw_253 : decode code 253 = .ok (.iaload, 1) := by decide +kernel
theorem dw_254 : decode code 254 = .ok (.invokevirtual 22, 3) := by decide +kernel
theorem dw_257 : decode code 257 = .ok (.if_icmp .eq 1121, 3) := by decide +kernel
theorem dw_260 : decode code 260 = .ok (.iconst 0, 1) := by decide +kernel
theorem dw_261 : decode code 261 = .ok (.ireturn, 1) := by decide +kernel
theorem dw_262 : decode code 262 = .ok (.aload_n 1, 1) := by decide +kernel
theorem dw_263 : decode code 263 = .ok (.aload_n 0, 1) := by decide +kernel
theorem dw_264 : decode code 264 = .ok (.iload_n 3, 1) := by decide +kernel
theorem dw_265 : decode code 265 = .ok (.iconst 1, 1) := by decide +kernel
theorem dw_266 : decode code 266 = .ok (.iadd, 1) := by decide +kernel
theorem dw_267 : decode code 267 = .ok (.iaload, 1) := by decide +kernel
theorem dw_268 : decode code 268 = .ok (.aload_n 0, 1) := by decide +kernel
theorem dw_269 : decode code 269 = .ok (.iload_n 3, 1) := by decide +kernel
theorem dw_270 : decode code 270 = .ok (.iconst 2, 1) := by decide +kernel
theorem dw_271 : decode code 271 = .ok (.iadd, 1) := by decide +kernel
theorem dw_272 : decode code 272 = .ok (.iaload, 1) := by decide +kernel
theorem dw_273 : decode code 273 = .ok (.aload_n 0, 1) := by decide +kernel
theorem dw_274 : decode code 274 = .ok (.iload_n 3, 1) := by decide +kernel
theorem dw_275 : decode code 275 = .ok (.iconst 3, 1) := by decide +kernel
theorem dw_276 : decode code 276 = .ok (.iadd, 1) := by decide +kernel
theorem dw_277 : decode code 277 = .ok (.iaload, 1) := by decide +kernel
theorem dw_278 : decode code 278 = .ok (.invokevirtual 23, 3) := by decide +kernel
theorem dw_281 : decode code 281 = .ok (.aload_n 2, 1) := by decide +kernel
theorem dw_282 : decode code 282 = .ok (.aload_n 0, 1) := by decide +kernel
theorem dw_283 : decode code 283 = .ok (.iload_n 3, 1) := by decide +kernel
theorem dw_284 : decode code 284 = .ok (.iconst 1, 1) := by decide +kernel
theorem dw_285 : decode code 285 = .ok (.iadd, 1) := by decide +kernel
theorem dw_286 : decode code 286 = .ok (.iaload, 1) := by decide +kernel
theorem dw_287 : decode code 287 = .ok (.aload_n 0, 1) := by decide +kernel
theorem dw_288 : decode code 288 = .ok (.iload_n 3, 1) := by decide +kernel
theorem dw_289 : decode code 289 = .ok (.iconst 2, 1) := by decide +kernel
theorem dw_290 : decode code 290 = .ok (.iadd, 1) := by decide +kernel
theorem dw_291 : decode code 291 = .ok (.iaload, 1) := by decide +kernel
theorem dw_292 : decode code 292 = .ok (.aload_n 0, 1) := by decide +kernel
theorem dw_293 : decode code 293 = .ok (.iload_n 3, 1) := by decide +kernel
theorem dw_294 : decode code 294 = .ok (.iconst 3, 1) := by decide +kernel
theorem dw_295 : decode code 295 = .ok (.iadd, 1) := by decide +kernel
theorem dw_296 : decode code 296 = .ok (.iaload, 1) := by decide +kernel
theorem dw_297 : decode code 297 = .ok (.invokevirtual 26, 3) := by decide +kernel
theorem dw_300 : decode code 300 = .ok (.if_icmp .eq 1078, 3) := by decide +kernel
theorem dw_303 : decode code 303 = .ok (.iconst 0, 1) := by decide +kernel
theorem dw_304 : decode code 304 = .ok (.ireturn, 1) := by decide +kernel
theorem dw_305 : decode code 305 = .ok (.aload_n 1, 1) := by decide +kernel
theorem dw_306 : decode code 306 = .ok (.aload_n 0, 1) := by decide +kernel
theorem dw_307 : decode code 307 = .ok (.iload_n 3, 1) := by decide +kernel
theorem dw_308 : decode code 308 = .ok (.iconst 1, 1) := by decide +kernel
theorem dw_309 : decode code 309 = .ok (.iadd, 1) := by decide +kernel
theorem dw_310 : decode code 310 = .ok (.iaload, 1) := by decide +kernel
theorem dw_311 : decode code 311 = .ok (.aload_n 0, 1) := by decide +kernel
theorem dw_312 : decode code 312 = .ok (.iload_n 3, 1) := by decide +kernel
theorem dw_313 : decode code 313 = .ok (.iconst 2, 1) := by decide +kernel
theorem dw_314 : decode code 314 = .ok (.iadd, 1) := by decide +kernel
theorem dw_315 : decode code 315 = .ok (.iaload, 1) := by decide +kernel
theorem dw_316 : decode code 316 = .ok (.invokevirtual 27, 3) := by decide +kernel
theorem dw_319 : decode code 319 = .ok (.aload_n 2, 1) := by decide +kernel
theorem dw_320 : decode code 320 = .ok (.aload_n 0, 1) := by decide +kernel
theorem dw_321 : decode code 321 = .ok (.iload_n 3, 1) := by decide +kernel
theorem dw_322 : decode code 322 = .ok (.iconst 1, 1) := by decide +kernel
theorem dw_323 : decode code 323 = .ok (.iadd, 1) := by decide +kernel
theorem dw_324 : decode code 324 = .ok (.iaload, 1) := by decide +kernel
theorem dw_325 : decode code 325 = .ok (.aload_n 0, 1) := by decide +kernel
theorem dw_326 : decode code 326 = .ok (.iload_n 3, 1) := by decide +kernel
theorem dw_327 : decode code 327 = .ok (.iconst 2, 1) := by decide +kernel
theorem dw_328 : decode code 328 = .ok (.iadd, 1) := by decide +kernel
theorem dw_329 : decode code 329 = .ok (.iaload, 1) := by decide +kernel
theorem dw_330 : decode code 330 = .ok (.invokevirtual 31, 3) := by decide +kernel
theorem dw_333 : decode code 333 = .ok (.if_icmp .eq 1045, 3) := by decide +kernel
theorem dw_336 : decode code 336 = .ok (.iconst 0, 1) := by decide +kernel
theorem dw_337 : decode code 337 = .ok (.ireturn, 1) := by decide +kernel
theorem dw_338 : decode code 338 = .ok (.aload_n 1, 1) := by decide +kernel
theorem dw_339 : decode code 339 = .ok (.aload_n 0, 1) := by decide +kernel
theorem dw_340 : decode code 340 = .ok (.iload_n 3, 1) := by decide +kernel
theorem dw_341 : decode code 341 = .ok (.iconst 1, 1) := by decide +kernel
theorem dw_342 : decode code 342 = .ok (.iadd, 1) := by decide +kernel
theorem dw_343 : decode code 343 = .ok (.iaload, 1) := by decide +kernel
theorem dw_344 : decode code 344 = .ok (.invokevirtual 32, 3) := by decide +kernel
theorem dw_347 : decode code 347 = .ok (.aload_n 2, 1) := by decide +kernel
theorem dw_348 : decode code 348 = .ok (.aload_n 0, 1) := by decide +kernel
theorem dw_349 : decode code 349 = .ok (.iload_n 3, 1) := by decide +kernel
theorem dw_350 : decode code 350 = .ok (.iconst 1, 1) := by decide +kernel
theorem dw_351 : decode code 351 = .ok (.iadd, 1) := by decide +kernel
theorem dw_352 : decode code 352 = .ok (.iaload, 1) := by decide +kernel
theorem dw_353 : decode code 353 = .ok (.invokevirtual 35, 3) := by decide +kernel
theorem dw_356 : decode code 356 = .ok (.if_icmp .eq 1022, 3) := by decide +kernel
theorem dw_359 : decode code 359 = .ok (.iconst 0, 1) := by decide +kernel
theorem dw_360 : decode code 360 = .ok (.ireturn, 1) := by decide +kernel
theorem dw_361 : decode code 361 = .ok (.aload_n 1, 1) := by decide +kernel
theorem dw_362 : decode code 362 = .ok (.invokevirtual 36, 3) := by decide +kernel
theorem dw_365 : decode code 365 = .ok (.aload_n 2, 1) := by decide +kernel
theorem dw_366 : decode code 366 = .ok (.invokevirtual 40, 3) := by decide +kernel
theorem dw_369 : decode code 369 = .ok (.if_icmp .eq 1009, 3) := by decide +kernel
theorem dw_372 : decode code 372 = .ok (.iconst 0, 1) := by decide +kernel
theorem dw_373 : decode code 373 = .ok (.ireturn, 1) := by decide +kernel
theorem dw_374 : decode code 374 = .ok (.aload_n 1, 1) := by decide +kernel
theorem dw_375 : decode code 375 = .ok (.aload_n 0, 1) := by decide +kernel
theorem dw_376 : decode code 376 = .ok (.iload_n 3, 1) := by decide +kernel
theorem dw_377 : decode code 377 = .ok (.iconst 1, 1) := by decide +kernel
theorem dw_378 : decode code 378 = .ok (.iadd, 1) := by decide +kernel
theorem dw_379 : decode code 379 = .ok (.iaload, 1) := by decide +kernel
theorem dw_380 : decode code 380 = .ok (.invokevirtual 41, 3) := by decide +kernel
theorem dw_383 : decode code 383 = .ok (.aload_n 2, 1) := by decide +kernel
theorem dw_384 : decode code 384 = .ok (.aload_n 0, 1) := by decide +kernel
theorem dw_385 : decode code 385 = .ok (.iload_n 3, 1) := by decide +kernel
theorem dw_386 : decode code 386 = .ok (.iconst 1, 1) := by decide +kernel
theorem dw_387 : decode code 387 = .ok (.iadd, 1) := by decide +kernel
theorem dw_388 : decode code 388 = .ok (.iaload, 1) := by decide +kernel
theorem dw_389 : decode code 389 = .ok (.invokevirtual 44, 3) := by decide +kernel
theorem dw_392 : decode code 392 = .ok (.if_icmp .eq 986, 3) := by decide +kernel
theorem dw_395 : decode code 395 = .ok (.iconst 0, 1) := by decide +kernel
theorem dw_396 : decode code 396 = .ok (.ireturn, 1) := by decide +kernel
theorem dw_397 : decode code 397 = .ok (.aload_n 1, 1) := by decide +kernel
theorem dw_398 : decode code 398 = .ok (.aload_n 0, 1) := by decide +kernel
theorem dw_399 : decode code 399 = .ok (.iload_n 3, 1) := by decide +kernel
theorem dw_400 : decode code 400 = .ok (.iconst 1, 1) := by decide +kernel
theorem dw_401 : decode code 401 = .ok (.iadd, 1) := by decide +kernel
theorem dw_402 : decode code 402 = .ok (.iaload, 1) := by decide +kernel
theorem dw_403 : decode code 403 = .ok (.aload_n 0, 1) := by decide +kernel
theorem dw_404 : decode code 404 = .ok (.iload_n 3, 1) := by decide +kernel
theorem dw_405 : decode code 405 = .ok (.iconst 2, 1) := by decide +kernel
theorem dw_406 : decode code 406 = .ok (.iadd, 1) := by decide +kernel
theorem dw_407 : decode code 407 = .ok (.iaload, 1) := by decide +kernel
theorem dw_408 : decode code 408 = .ok (.aload_n 0, 1) := by decide +kernel
theorem dw_409 : decode code 409 = .ok (.iload_n 3, 1) := by decide +kernel
theorem dw_410 : decode code 410 = .ok (.iconst 3, 1) := by decide +kernel
theorem dw_411 : decode code 411 = .ok (.iadd, 1) := by decide +kernel
theorem dw_412 : decode code 412 = .ok (.iaload, 1) := by decide +kernel
theorem dw_413 : decode code 413 = .ok (.aload_n 0, 1) := by decide +kernel
theorem dw_414 : decode code 414 = .ok (.iload_n 3, 1) := by decide +kernel
theorem dw_415 : decode code 415 = .ok (.iconst 4, 1) := by decide +kernel
theorem dw_416 : decode code 416 = .ok (.iadd, 1) := by decide +kernel
theorem dw_417 : decode code 417 = .ok (.iaload, 1) := by decide +kernel
theorem dw_418 : decode code 418 = .ok (.invokevirtual 45, 3) := by decide +kernel
theorem dw_421 : decode code 421 = .ok (.aload_n 2, 1) := by decide +kernel
theorem dw_422 : decode code 422 = .ok (.aload_n 0, 1) := by decide +kernel
theorem dw_423 : decode code 423 = .ok (.iload_n 3, 1) := by decide +kernel
theorem dw_424 : decode code 424 = .ok (.iconst 1, 1) := by decide +kernel
theorem dw_425 : decode code 425 = .ok (.iadd, 1) := by decide +kernel
theorem dw_426 : decode code 426 = .ok (.iaload, 1) := by decide +kernel
theorem dw_427 : decode code 427 = .ok (.aload_n 0, 1) := by decide +kernel
theorem dw_428 : decode code 428 = .ok (.iload_n 3, 1) := by decide +kernel
theorem dw_429 : decode code 429 = .ok (.iconst 2, 1) := by decide +kernel
theorem dw_430 : decode code 430 = .ok (.iadd, 1) := by decide +kernel
theorem dw_431 : decode code 431 = .ok (.iaload, 1) := by decide +kernel
theorem dw_432 : decode code 432 = .ok (.aload_n 0, 1) := by decide +kernel
theorem dw_433 : decode code 433 = .ok (.iload_n 3, 1) := by decide +kernel
theorem dw_434 : decode code 434 = .ok (.iconst 3, 1) := by decide +kernel
theorem dw_435 : decode code 435 = .ok (.iadd, 1) := by decide +kernel
theorem dw_436 : decode code 436 = .ok (.iaload, 1) := by decide +kernel
theorem dw_437 : decode code 437 = .ok (.aload_n 0, 1) := by decide +kernel
theorem dw_438 : decode code 438 = .ok (.iload_n 3, 1) := by decide +kernel
theorem dw_439 : decode code 439 = .ok (.iconst 4, 1) := by decide +kernel
theorem dw_440 : decode code 440 = .ok (.iadd, 1) := by decide +kernel
theorem dw_441 : decode code 441 = .ok (.iaload, 1) := by decide +kernel
theorem dw_442 : decode code 442 = .ok (.invokevirtual 49, 3) := by decide +kernel
theorem dw_445 : decode code 445 = .ok (.if_icmp .eq 933, 3) := by decide +kernel
theorem dw_448 : decode code 448 = .ok (.iconst 0, 1) := by decide +kernel
theorem dw_449 : decode code 449 = .ok (.ireturn, 1) := by decide +kernel
theorem dw_450 : decode code 450 = .ok (.aload_n 1, 1) := by decide +kernel
theorem dw_451 : decode code 451 = .ok (.aload_n 0, 1) := by decide +kernel
theorem dw_452 : decode code 452 = .ok (.iload_n 3, 1) := by decide +kernel
theorem dw_453 : decode code 453 = .ok (.iconst 1, 1) := by decide +kernel
theorem dw_454 : decode code 454 = .ok (.iadd, 1) := by decide +kernel
theorem dw_455 : decode code 455 = .ok (.iaload, 1) := by decide +kernel
theorem dw_456 : decode code 456 = .ok (.aload_n 0, 1) := by decide +kernel
theorem dw_457 : decode code 457 = .ok (.iload_n 3, 1) := by decide +kernel
theorem dw_458 : decode code 458 = .ok (.iconst 2, 1) := by decide +kernel
theorem dw_459 : decode code 459 = .ok (.iadd, 1) := by decide +kernel
theorem dw_460 : decode code 460 = .ok (.iaload, 1) := by decide +kernel
theorem dw_461 : decode code 461 = .ok (.aload_n 0, 1) := by decide +kernel
theorem dw_462 : decode code 462 = .ok (.iload_n 3, 1) := by decide +kernel
theorem dw_463 : decode code 463 = .ok (.iconst 3, 1) := by decide +kernel
theorem dw_464 : decode code 464 = .ok (.iadd, 1) := by decide +kernel
theorem dw_465 : decode code 465 = .ok (.iaload, 1) := by decide +kernel
theorem dw_466 : decode code 466 = .ok (.invokevirtual 50, 3) := by decide +kernel
