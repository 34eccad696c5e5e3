theorem dL_isWhole_221 : decode cL_isWhole 221 = .ok (.iload 7, 2) := by decide +kernel
theorem dL_isWhole_223 : decode cL_isWhole 223 = .ok (.iadd, 1) := by decide +kernel
theorem dL_isWhole_224 : decode cL_isWhole 224 = .ok (.istore_n 3, 1) := by decide +kernel
theorem dL_isWhole_225 : decode cL_isWhole 225 = .ok (.iload 7, 2) := by decide +kernel
theorem dL_isWhole_227 : decode cL_isWhole 227 = .ok (.aload_n 0, 1) := by decide +kernel
theorem dL_isWhole_228 : decode cL_isWhole 228 = .ok (.iconst 4, 1) := by decide +kernel
theorem dL_isWhole_229 : decode cL_isWhole 229 = .ok (.iload 4, 2) := by decide +kernel
theorem dL_isWhole_231 : decode cL_isWhole 231 = .ok (.invokevirtual 29, 3) := by decide +kernel
theorem dL_isWhole_234 : decode cL_isWhole 234 = .ok (.if_icmp .le 8, 3) := by decide +kernel
theorem dL_isWhole_237 : decode cL_isWhole 237 = .ok (.iload 6, 2) := by decide +kernel
theorem dL_isWhole_239 : decode cL_isWhole 239 = .ok (.goto 5, 3) := by decide +kernel
theorem dL_isWhole_242 : decode cL_isWhole 242 = .ok (.iload 4, 2) := by decide +kernel
theorem dL_isWhole_244 : decode cL_isWhole 244 = .ok (.istore 4, 2) := by decide +kernel
theorem dL_isWhole_246 : decode cL_isWhole 246 = .ok (.iload 7, 2) := by decide +kernel
theorem dL_isWhole_248 : decode cL_isWhole 248 = .ok (.aload_n 0, 1) := by decide +kernel
theorem dL_isWhole_249 : decode cL_isWhole 249 = .ok (.iconst 5, 1) := by decide +kernel
theorem dL_isWhole_250 : decode cL_isWhole 250 = .ok (.iconst 2, 1) := by decide +kernel
theorem dL_isWhole_251 : decode cL_isWhole 251 = .ok (.iload 6, 2) := by decide +kernel
theorem dL_isWhole_253 : decode cL_isWhole 253 = .ok (.imul, 1) := by decide +kernel
theorem dL_isWhole_254 : decode cL_isWhole 254 = .ok (.invokevirtual 29, 3) := by decide +kernel
theorem dL_isWhole_257 : decode cL_isWhole 257 = .ok (.aload_n 0, 1) := by decide +kernel
theorem dL_isWhole_258 : decode cL_isWhole 258 = .ok (.iconst 5, 1) := by decide +kernel
theorem dL_isWhole_259 : decode cL_isWhole 259 = .ok (.iconst 2, 1) := by decide +kernel
theorem dL_isWhole_260 : decode cL_isWhole 260 = .ok (.iload 6, 2) := by decide +kernel
theorem dL_isWhole_262 : decode cL_isWhole 262 = .ok (.imul, 1) := by decide +kernel
theorem dL_isWhole_263 : decode cL_isWhole 263 = .ok (.iconst 1, 1) := by decide +kernel
theorem dL_isWhole_264 : decode cL_isWhole 264 = .ok (.iadd, 1) := by decide +kernel
theorem dL_isWhole_265 : decode cL_isWhole 265 = .ok (.invokevirtual 29, 3) := by decide +kernel
theorem dL_isWhole_268 : decode cL_isWhole 268 = .ok (.iadd, 1) := by decide +kernel
theorem dL_isWhole_269 : decode cL_isWhole 269 = .ok (.if_icmp .ne 7, 3) := by decide +kernel
theorem dL_isWhole_272 : decode cL_isWhole 272 = .ok (.iconst 1, 1) := by decide +kernel
theorem dL_isWhole_273 : decode cL_isWhole 273 = .ok (.goto 4, 3) := by decide +kernel
theorem dL_isWhole_276 : decode cL_isWhole 276 = .ok (.iconst 0, 1) := by decide +kernel
theorem dL_isWhole_277 : decode cL_isWhole 277 = .ok (.istore 5, 2) := by decide +kernel
theorem dL_isWhole_279 : decode cL_isWhole 279 = .ok (.iinc 6 1, 3) := by decide +kernel
theorem dL_isWhole_282 : decode cL_isWhole 282 = .ok (.goto (-83), 3) := by decide +kernel
theorem dL_isWhole_285 : decode cL_isWhole 285 = .ok (.iload 5, 2) := by decide +kernel
theorem dL_isWhole_287 : decode cL_isWhole 287 = .ok (.ifCond .eq 160, 3) := by decide +kernel
theorem dL_isWhole_290 : decode cL_isWhole 290 = .ok (.aload_n 0, 1) := by decide +kernel
theorem dL_isWhole_291 : decode cL_isWhole 291 = .ok (.iconst 1, 1) := by decide +kernel
theorem dL_isWhole_292 : decode cL_isWhole 292 = .ok (.invokevirtual 13, 3) := by decide +kernel
theorem dL_isWhole_295 : decode cL_isWhole 295 = .ok (.iload_n 1, 1) := by decide +kernel
theorem dL_isWhole_296 : decode cL_isWhole 296 = .ok (.if_icmp .ne 151, 3) := by decide +kernel
theorem dL_isWhole_299 : decode cL_isWhole 299 = .ok (.aload_n 0, 1) := by decide +kernel
theorem dL_isWhole_300 : decode cL_isWhole 300 = .ok (.iconst 2, 1) := by decide +kernel
theorem dL_isWhole_301 : decode cL_isWhole 301 = .ok (.invokevirtual 13, 3) := by decide +kernel
theorem dL_isWhole_304 : decode cL_isWhole 304 = .ok (.iload_n 2, 1) := by decide +kernel
theorem dL_isWhole_305 : decode cL_isWhole 305 = .ok (.if_icmp .ne 142, 3) := by decide +kernel
theorem dL_isWhole_308 : decode cL_isWhole 308 = .ok (.iload_n 3, 1) := by decide +kernel
theorem dL_isWhole_309 : decode cL_isWhole 309 = .ok (.iload_n 1, 1) := by decide +kernel
theorem dL_isWhole_310 : decode cL_isWhole 310 = .ok (.if_icmp .ne 137, 3) := by decide +kernel
theorem dL_isWhole_313 : decode cL_isWhole 313 = .ok (.aload_n 0, 1) := by decide +kernel
theorem dL_isWhole_314 : decode cL_isWhole 314 = .ok (.iconst 0, 1) := by decide +kernel
theorem dL_isWhole_315 : decode cL_isWhole 315 = .ok (.iconst 0, 1) := by decide +kernel
theorem dL_isWhole_316 : decode cL_isWhole 316 = .ok (.invokevirtual 29, 3) := by decide +kernel
theorem dL_isWhole_319 : decode cL_isWhole 319 = .ok (.iload_n 1, 1) := by decide +kernel
theorem dL_isWhole_320 : decode cL_isWhole 320 = .ok (.if_icmp .ne 127, 3) := by decide +kernel
theorem dL_isWhole_323 : decode cL_isWhole 323 = .ok (.aload_n 0, 1) := by decide +kernel
theorem dL_isWhole_324 : decode cL_isWhole 324 = .ok (.iconst 4, 1) := by decide +kernel
theorem dL_isWhole_325 : decode cL_isWhole 325 = .ok (.invokevirtual 34, 3) := by decide +kernel
theorem dL_isWhole_328 : decode cL_isWhole 328 = .ok (.iload_n 1, 1) := by decide +kernel
theorem dL_isWhole_329 : decode cL_isWhole 329 = .ok (.ifCond .ne 8, 3) := by decide +kernel
theorem dL_isWhole_332 : decode cL_isWhole 332 = .ok (.bipush (-5), 2) := by decide +kernel
theorem dL_isWhole_334 : decode cL_isWhole 334 = .ok (.goto 5, 3) := by decide +kernel
theorem dL_isWhole_337 : decode cL_isWhole 337 = .ok (.iload 4, 2) := by decide +kernel
theorem dL_isWhole_339 : decode cL_isWhole 339 = .ok (.if_icmp .ne 108, 3) := by decide +kernel
theorem dL_isWhole_342 : decode cL_isWhole 342 = .ok (.aload_n 0, 1) := by decide +kernel
theorem dL_isWhole_343 : decode cL_isWhole 343 = .ok (.iconst 0, 1) := by decide +kernel
theorem dL_isWhole_344 : decode cL_isWhole 344 = .ok (.invokevirtual 13, 3) := by decide +kernel
theorem dL_isWhole_347 : decode cL_isWhole 347 = .ok (.bipush 20, 2) := by decide +kernel
theorem dL_isWhole_349 : decode cL_isWhole 349 = .ok (.if_icmp .gt 98, 3) := by decide +kernel
theorem dL_isWhole_352 : decode cL_isWhole 352 = .ok (.aload_n 0, 1) := by decide +kernel
theorem dL_isWhole_353 : decode cL_isWhole 353 = .ok (.iconst 3, 1) := by decide +kernel
theorem dL_isWhole_354 : decode cL_isWhole 354 = .ok (.invokevirtual 13, 3) := by decide +kernel
theorem dL_isWhole_357 : decode cL_isWhole 357 = .ok (.sipush 200, 3) := by decide +kernel
theorem dL_isWhole_360 : decode cL_isWhole 360 = .ok (.if_icmp .gt 87, 3) := by decide +kernel
theorem dL_isWhole_363 : decode cL_isWhole 363 = .ok (.aload_n 0, 1) := by decide +kernel
theorem dL_isWhole_364 : decode cL_isWhole 364 = .ok (.iconst 4, 1) := by decide +kernel
theorem dL_isWhole_365 : decode cL_isWhole 365 = .ok (.invokevirtual 13, 3) := by decide +kernel
theorem dL_isWhole_368 : decode cL_isWhole 368 = .ok (.aload_n 0, 1) := by decide +kernel
theorem dL_isWhole_369 : decode cL_isWhole 369 = .ok (.iconst 5, 1) := by decide +kernel
theorem dL_isWhole_370 : decode cL_isWhole 370 = .ok (.invokevirtual 13, 3) := by decide +kernel
theorem dL_isWhole_373 : decode cL_isWhole 373 = .ok (.iadd, 1) := by decide +kernel
theorem dL_isWhole_374 : decode cL_isWhole 374 = .ok (.aload_n 0, 1) := by decide +kernel
theorem dL_isWhole_375 : decode cL_isWhole 375 = .ok (.bipush 6, 2) := by decide +kernel
theorem dL_isWhole_377 : decode cL_isWhole 377 = .ok (.invokevirtual 13, 3) := by decide +kernel
theorem dL_isWhole_380 : decode cL_isWhole 380 = .ok (.aload_n 0, 1) := by decide +kernel
theorem dL_isWhole_381 : decode cL_isWhole 381 = .ok (.bipush 7, 2) := by decide +kernel
theorem dL_isWhole_383 : decode cL_isWhole 383 = .ok (.invokevirtual 13, 3) := by decide +kernel
theorem dL_isWhole_386 : decode cL_isWhole 386 = .ok (.iadd, 1) := by decide +kernel
theorem dL_isWhole_387 : decode cL_isWhole 387 = .ok (.aload_n 0, 1) := by decide +kernel
theorem dL_isWhole_388 : decode cL_isWhole 388 = .ok (.bipush 8, 2) := by decide +kernel
theorem dL_isWhole_390 : decode cL_isWhole 390 = .ok (.invokevirtual 13, 3) := by decide +kernel
theorem dL_isWhole_393 : decode cL_isWhole 393 = .ok (.iadd, 1) := by decide +kernel
theorem dL_isWhole_394 : decode cL_isWhole 394 = .ok (.if_icmp .ne 53, 3) := by decide +kernel
theorem dL_isWhole_397 : decode cL_isWhole 397 = .ok (.aload_n 0, 1) := by decide +kernel
theorem dL_isWhole_398 : decode cL_isWhole 398 = .ok (.iconst 3, 1) := by decide +kernel
theorem dL_isWhole_399 : decode cL_isWhole 399 = .ok (.invokevirtual 13, 3) := by decide +kernel
theorem dL_isWhole_402 : decode cL_isWhole 402 = .ok (.aload_n 0, 1) := by decide +kernel
theorem dL_isWhole_403 : decode cL_isWhole 403 = .ok (.bipush 7, 2) := by decide +kernel
theorem dL_isWhole_405 : decode cL_isWhole 405 = .ok (.invokevirtual 13, 3) := by decide +kernel
theorem dL_isWhole_408 : decode cL_isWhole 408 = .ok (.if_icmp .gt 39, 3) := by decide +kernel
theorem dL_isWhole_411 : decode cL_isWhole 411 = .ok (.aload_n 0, 1) := by decide +kernel
theorem dL_isWhole_412 : decode cL_isWhole 412 = .ok (.bipush 9, 2) := by decide +kernel
theorem dL_isWhole_414 : decode cL_isWhole 414 = .ok (.invokevirtual 13, 3) := by decide +kernel
theorem dL_isWhole_417 : decode cL_isWhole 417 = .ok (.bipush 6, 2) := by decide +kernel
theorem dL_isWhole_419 : decode cL_isWhole 419 = .ok (.aload_n 0, 1) := by decide +kernel
theorem dL_isWhole_420 : decode cL_isWhole 420 = .ok (.iconst 4, 1) := by decide +kernel
theorem dL_isWhole_421 : decode cL_isWhole 421 = .ok (.invokevirtual 13, 3) := by decide +kernel
theorem dL_isWhole_424 : decode cL_isWhole 424 = .ok (.imul, 1) := by decide +kernel
theorem dL_isWhole_425 : decode cL_isWhole 425 = .ok (.aload_n 0, 1) := by decide +kernel
theorem dL_isWhole_426 : decode cL_isWhole 426 = .ok (.iconst 5, 1) := by decide +kernel
theorem dL_isWhole_427 : decode cL_isWhole 427 = .ok (.invokevirtual 13, 3) := by decide +kernel
theorem dL_isWhole_430 : decode cL_isWhole 430 = .ok (.iadd, 1) := by decide +kernel
theorem dL_isWhole_431 : decode cL_isWhole 431 = .ok (.iconst 4, 1) := by decide +kernel
theorem dL_isWhole_432 : decode cL_isWhole 432 = .ok (.aload_n 0, 1) := by decide +kernel
theorem dL_isWhole_433 : decode cL_isWhole 433 = .ok (.bipush 10, 2) := by decide +kernel
theorem dL_isWhole_435 : decode cL_isWhole 435 = .ok (.invokevirtual 13, 3) := by decide +kernel
theorem dL_isWhole_438 : decode cL_isWhole 438 = .ok (.imul, 1) := by decide +kernel
theorem dL_isWhole_439 : decode cL_isWhole 439 = .ok (.iadd, 1) := by decide +kernel
theorem dL_isWhole_440 : decode cL_isWhole 440 = .ok (.if_icmp .lt 7, 3) := by decide +kernel
theorem dL_isWhole_443 : decode cL_isWhole 443 = .ok (.iconst 1, 1) := by decide +kernel
theorem dL_isWhole_444 : decode cL_isWhole 444 = .ok (.goto 4, 3) := by decide +kernel
theorem dL_isWhole_447 : decode cL_isWhole 447 = .ok (.iconst 0, 1) := by decide +kernel
theorem dL_isWhole_448 : decode cL_isWhole 448 = .ok (.ireturn, 1) := by decide +kernel
theorem dL_refusesAny_0 : decode cL_refusesAny 0 = .ok (.iload_n 1, 1) := by decide +kernel
theorem dL_refusesAny_1 : decode cL_refusesAny 1 = .ok (.iconst 2, 1) := by decide +kernel
theorem dL_refusesAny_2 : decode cL_refusesAny 2 = .ok (.irem, 1) := by decide +kernel
theorem dL_refusesAny_3 : decode cL_refusesAny 3 = .ok (.ifCond .ne 12, 3) := by decide +kernel
theorem dL_refusesAny_6 : decode cL_refusesAny 6 = .ok (.iconst (-1), 1) := by decide +kernel
theorem dL_refusesAny_7 : decode cL_refusesAny 7 = .ok (.iload_n 1, 1) := by decide +kernel
theorem dL_refusesAny_8 : decode cL_refusesAny 8 = .ok (.bipush 99, 2) := by decide +kernel
theorem dL_refusesAny_10 : decode cL_refusesAny 10 = .ok (.irem, 1) := by decide +kernel
theorem dL_refusesAny_11 : decode cL_refusesAny 11 = .ok (.isub, 1) := by decide +kernel
theorem dL_refusesAny_12 : decode cL_refusesAny 12 = .ok (.goto 11, 3) := by decide +kernel
theorem dL_refusesAny_15 : decode cL_refusesAny 15 = .ok (.sipush 256, 3) := by decide +kernel
theorem dL_refusesAny_18 : decode cL_refusesAny 18 = .ok (.iload_n 1, 1) := by decide +kernel
theorem dL_refusesAny_19 : decode cL_refusesAny 19 = .ok (.bipush 99, 2) := by decide +kernel
theorem dL_refusesAny_21 : decode cL_refusesAny 21 = .ok (.irem, 1) := by decide +kernel
theorem dL_refusesAny_22 : decode cL_refusesAny 22 = .ok (.iadd, 1) := by decide +kernel
theorem dL_refusesAny_23 : decode cL_refusesAny 23 = .ok (.istore_n 2, 1) := by decide +kernel
theorem dL_refusesAny_24 : decode cL_refusesAny 24 = .ok (.iconst (-1), 1) := by decide +kernel
theorem dL_refusesAny_25 : decode cL_refusesAny 25 = .ok (.iload_n 1, 1) := by decide +kernel
theorem dL_refusesAny_26 : decode cL_refusesAny 26 = .ok (.bipush 99, 2) := by decide +kernel
theorem dL_refusesAny_28 : decode cL_refusesAny 28 = .ok (.irem, 1) := by decide +kernel
theorem dL_refusesAny_29 : decode cL_refusesAny 29 = .ok (.isub, 1) := by decide +kernel
theorem dL_refusesAny_30 : decode cL_refusesAny 30 = .ok (.istore_n 3, 1) := by decide +kernel
theorem dL_refusesAny_31 : decode cL_refusesAny 31 = .ok (.aload_n 0, 1) := by decide +kernel
theorem dL_refusesAny_32 : decode cL_refusesAny 32 = .ok (.iconst 0, 1) := by decide +kernel
theorem dL_refusesAny_33 : decode cL_refusesAny 33 = .ok (.invokevirtual 19, 3) := by decide +kernel
theorem dL_refusesAny_36 : decode cL_refusesAny 36 = .ok (.istore 4, 2) := by decide +kernel
theorem dL_refusesAny_38 : decode cL_refusesAny 38 = .ok (.aload_n 0, 1) := by decide +kernel
theorem dL_refusesAny_39 : decode cL_refusesAny 39 = .ok (.iload_n 2, 1) := by decide +kernel
theorem dL_refusesAny_40 : decode cL_refusesAny 40 = .ok (.invokevirtual 37, 3) := by decide +kernel
theorem dL_refusesAny_43 : decode cL_refusesAny 43 = .ok (.bipush (-2), 2) := by decide +kernel
theorem dL_refusesAny_45 : decode cL_refusesAny 45 = .ok (.if_icmp .ne 275, 3) := by decide +kernel
theorem dL_refusesAny_48 : decode cL_refusesAny 48 = .ok (.iload 4, 2) := by decide +kernel
theorem dL_refusesAny_50 : decode cL_refusesAny 50 = .ok (.ifCond .lt 14, 3) := by decide +kernel
theorem dL_refusesAny_53 : decode cL_refusesAny 53 = .ok (.aload_n 0, 1) := by decide +kernel
theorem dL_refusesAny_54 : decode cL_refusesAny 54 = .ok (.iload 4, 2) := by decide +kernel
theorem dL_refusesAny_56 : decode cL_refusesAny 56 = .ok (.invokevirtual 37, 3) := by decide +kernel
theorem dL_refusesAny_59 : decode cL_refusesAny 59 = .ok (.bipush (-4), 2) := by decide +kernel
theorem dL_refusesAny_61 : decode cL_refusesAny 61 = .ok (.if_icmp .ne 259, 3) := by decide +kernel
theorem dL_refusesAny_64 : decode cL_refusesAny 64 = .ok (.aload_n 0, 1) := by decide +kernel
theorem dL_refusesAny_65 : decode cL_refusesAny 65 = .ok (.iload_n 2, 1) := by decide +kernel
theorem dL_refusesAny_66 : decode cL_refusesAny 66 = .ok (.invokevirtual 40, 3) := by decide +kernel
theorem dL_refusesAny_69 : decode cL_refusesAny 69 = .ok (.iconst (-1), 1) := by decide +kernel
theorem dL_refusesAny_70 : decode cL_refusesAny 70 = .ok (.if_icmp .ne 250, 3) := by decide +kernel
theorem dL_refusesAny_73 : decode cL_refusesAny 73 = .ok (.aload_n 0, 1) := by decide +kernel
theorem dL_refusesAny_74 : decode cL_refusesAny 74 = .ok (.iload_n 2, 1) := by decide +kernel
theorem dL_refusesAny_75 : decode cL_refusesAny 75 = .ok (.invokevirtual 43, 3) := by decide +kernel
theorem dL_refusesAny_78 : decode cL_refusesAny 78 = .ok (.iconst (-1), 1) := by decide +kernel
theorem dL_refusesAny_79 : decode cL_refusesAny 79 = .ok (.if_icmp .ne 241, 3) := by decide +kernel
theorem dL_refusesAny_82 : decode cL_refusesAny 82 = .ok (.iload 4, 2) := by decide +kernel
theorem dL_refusesAny_84 : decode cL_refusesAny 84 = .ok (.ifCond .lt 25, 3) := by decide +kernel
theorem dL_refusesAny_87 : decode cL_refusesAny 87 = .ok (.aload_n 0, 1) := by decide +kernel
theorem dL_refusesAny_88 : decode cL_refusesAny 88 = .ok (.iload 4, 2) := by decide +kernel
theorem dL_refusesAny_90 : decode cL_refusesAny 90 = .ok (.iconst 0, 1) := by decide +kernel
theorem dL_refusesAny_91 : decode cL_refusesAny 91 = .ok (.invokevirtual 22, 3) := by decide +kernel
theorem dL_refusesAny_94 : decode cL_refusesAny 94 = .ok (.iconst 1, 1) := by decide +kernel
theorem dL_refusesAny_95 : decode cL_refusesAny 95 = .ok (.if_icmp .eq 14, 3) := by decide +kernel
theorem dL_refusesAny_98 : decode cL_refusesAny 98 = .ok (.aload_n 0, 1) := by decide +kernel
theorem dL_refusesAny_99 : decode cL_refusesAny 99 = .ok (.iload 4, 2) := by decide +kernel
theorem dL_refusesAny_101 : decode cL_refusesAny 101 = .ok (.invokevirtual 43, 3) := by decide +kernel
theorem dL_refusesAny_104 : decode cL_refusesAny 104 = .ok (.bipush (-5), 2) := by decide +kernel
theorem dL_refusesAny_106 : decode cL_refusesAny 106 = .ok (.if_icmp .ne 214, 3) := by decide +kernel
theorem dL_refusesAny_109 : decode cL_refusesAny 109 = .ok (.aload_n 0, 1) := by decide +kernel
theorem dL_refusesAny_110 : decode cL_refusesAny 110 = .ok (.iconst 1, 1) := by decide +kernel
theorem dL_refusesAny_111 : decode cL_refusesAny 111 = .ok (.invokevirtual 13, 3) := by decide +kernel
theorem dL_refusesAny_114 : decode cL_refusesAny 114 = .ok (.aload_n 0, 1) := by decide +kernel
theorem dL_refusesAny_115 : decode cL_refusesAny 115 = .ok (.iconst 0, 1) := by decide +kernel
theorem dL_refusesAny_116 : decode cL_refusesAny 116 = .ok (.invokevirtual 13, 3) := by decide +kernel
theorem dL_refusesAny_119 : decode cL_refusesAny 119 = .ok (.if_icmp .lt 12, 3) := by decide +kernel
theorem dL_refusesAny_122 : decode cL_refusesAny 122 = .ok (.aload_n 0, 1) := by decide +kernel
theorem dL_refusesAny_123 : decode cL_refusesAny 123 = .ok (.invokevirtual 46, 3) := by decide +kernel
theorem dL_refusesAny_126 : decode cL_refusesAny 126 = .ok (.bipush (-5), 2) := by decide +kernel
theorem dL_refusesAny_128 : decode cL_refusesAny 128 = .ok (.if_icmp .ne 192, 3) := by decide +kernel
theorem dL_refusesAny_131 : decode cL_refusesAny 131 = .ok (.aload_n 0, 1) := by decide +kernel
theorem dL_refusesAny_132 : decode cL_refusesAny 132 = .ok (.iload_n 2, 1) := by decide +kernel
theorem dL_refusesAny_133 : decode cL_refusesAny 133 = .ok (.sipush 201, 3) := by decide +kernel
theorem dL_refusesAny_136 : decode cL_refusesAny 136 = .ok (.invokevirtual 50, 3) := by decide +kernel
theorem dL_refusesAny_139 : decode cL_refusesAny 139 = .ok (.iconst (-1), 1) := by decide +kernel
theorem dL_refusesAny_140 : decode cL_refusesAny 140 = .ok (.if_icmp .ne 180, 3) := by decide +kernel
theorem dL_refusesAny_143 : decode cL_refusesAny 143 = .ok (.iload 4, 2) := by decide +kernel
theorem dL_refusesAny_145 : decode cL_refusesAny 145 = .ok (.ifCond .lt 45, 3) := by decide +kernel
theorem dL_refusesAny_148 : decode cL_refusesAny 148 = .ok (.aload_n 0, 1) := by decide +kernel
theorem dL_refusesAny_149 : decode cL_refusesAny 149 = .ok (.iload 4, 2) := by decide +kernel
theorem dL_refusesAny_151 : decode cL_refusesAny 151 = .ok (.iload_n 1, 1) := by decide +kernel
theorem dL_refusesAny_152 : decode cL_refusesAny 152 = .ok (.iconst 2, 1) := by decide +kernel
theorem dL_refusesAny_153 : decode cL_refusesAny 153 = .ok (.irem, 1) := by decide +kernel
theorem dL_refusesAny_154 : decode cL_refusesAny 154 = .ok (.ifCond .ne 7, 3) := by decide +kernel
theorem dL_refusesAny_157 : decode cL_refusesAny 157 = .ok (.iconst (-1), 1) := by decide +kernel
theorem dL_refusesAny_158 : decode cL_refusesAny 158 = .ok (.goto 6, 3) := by decide +kernel
theorem dL_refusesAny_161 : decode cL_refusesAny 161 = .ok (.sipush 201, 3) := by decide +kernel
theorem dL_refusesAny_164 : decode cL_refusesAny 164 = .ok (.invokevirtual 50, 3) := by decide +kernel
theorem dL_refusesAny_167 : decode cL_refusesAny 167 = .ok (.bipush (-2), 2) := by decide +kernel
theorem dL_refusesAny_169 : decode cL_refusesAny 169 = .ok (.if_icmp .ne 151, 3) := by decide +kernel
theorem dL_refusesAny_172 : decode cL_refusesAny 172 = .ok (.aload_n 0, 1) := by decide +kernel
theorem dL_refusesAny_173 : decode cL_refusesAny 173 = .ok (.iload 4, 2) := by decide +kernel
theorem dL_refusesAny_175 : decode cL_refusesAny 175 = .ok (.aload_n 0, 1) := by decide +kernel
theorem dL_refusesAny_176 : decode cL_refusesAny 176 = .ok (.iload 4, 2) := by decide +kernel
theorem dL_refusesAny_178 : decode cL_refusesAny 178 = .ok (.iconst 1, 1) := by decide +kernel
theorem dL_refusesAny_179 : decode cL_refusesAny 179 = .ok (.invokevirtual 22, 3) := by decide +kernel
theorem dL_refusesAny_182 : decode cL_refusesAny 182 = .ok (.invokevirtual 50, 3) := by decide +kernel
theorem dL_refusesAny_185 : decode cL_refusesAny 185 = .ok (.bipush (-5), 2) := by decide +kernel
theorem dL_refusesAny_187 : decode cL_refusesAny 187 = .ok (.if_icmp .ne 133, 3) := by decide +kernel
theorem dL_refusesAny_190 : decode cL_refusesAny 190 = .ok (.aload_n 0, 1) := by decide +kernel
theorem dL_refusesAny_191 : decode cL_refusesAny 191 = .ok (.iload_n 1, 1) := by decide +kernel
theorem dL_refusesAny_192 : decode cL_refusesAny 192 = .ok (.iconst 2, 1) := by decide +kernel
theorem dL_refusesAny_193 : decode cL_refusesAny 193 = .ok (.irem, 1) := by decide +kernel
theorem dL_refusesAny_194 : decode cL_refusesAny 194 = .ok (.ifCond .ne 7, 3) := by decide +kernel
theorem dL_refusesAny_197 : decode cL_refusesAny 197 = .ok (.iconst (-1), 1) := by decide +kernel
theorem dL_refusesAny_198 : decode cL_refusesAny 198 = .ok (.goto 4, 3) := by decide +kernel
theorem dL_refusesAny_201 : decode cL_refusesAny 201 = .ok (.iconst 2, 1) := by decide +kernel
theorem dL_refusesAny_202 : decode cL_refusesAny 202 = .ok (.iconst 0, 1) := by decide +kernel
theorem dL_refusesAny_203 : decode cL_refusesAny 203 = .ok (.invokevirtual 53, 3) := by decide +kernel
theorem dL_refusesAny_206 : decode cL_refusesAny 206 = .ok (.iconst (-1), 1) := by decide +kernel
theorem dL_refusesAny_207 : decode cL_refusesAny 207 = .ok (.if_icmp .ne 113, 3) := by decide +kernel
theorem dL_refusesAny_210 : decode cL_refusesAny 210 = .ok (.aload_n 0, 1) := by decide +kernel
theorem dL_refusesAny_211 : decode cL_refusesAny 211 = .ok (.iconst 0, 1) := by decide +kernel
theorem dL_refusesAny_212 : decode cL_refusesAny 212 = .ok (.iload_n 1, 1) := by decide +kernel
theorem dL_refusesAny_213 : decode cL_refusesAny 213 = .ok (.iconst 2, 1) := by decide +kernel
theorem dL_refusesAny_214 : decode cL_refusesAny 214 = .ok (.irem, 1) := by decide +kernel
theorem dL_refusesAny_215 : decode cL_refusesAny 215 = .ok (.ifCond .ne 7, 3) := by decide +kernel
theorem dL_refusesAny_218 : decode cL_refusesAny 218 = .ok (.iconst (-1), 1) := by decide +kernel
theorem dL_refusesAny_219 : decode cL_refusesAny 219 = .ok (.goto 4, 3) := by decide +kernel
theorem dL_refusesAny_222 : decode cL_refusesAny 222 = .ok (.iconst 2, 1) := by decide +kernel
theorem dL_refusesAny_223 : decode cL_refusesAny 223 = .ok (.invokevirtual 53, 3) := by decide +kernel
theorem dL_refusesAny_226 : decode cL_refusesAny 226 = .ok (.bipush (-2), 2) := by decide +kernel
theorem dL_refusesAny_228 : decode cL_refusesAny 228 = .ok (.if_icmp .ne 92, 3) := by decide +kernel
theorem dL_refusesAny_231 : decode cL_refusesAny 231 = .ok (.aload_n 0, 1) := by decide +kernel
theorem dL_refusesAny_232 : decode cL_refusesAny 232 = .ok (.iconst 1, 1) := by decide +kernel
theorem dL_refusesAny_233 : decode cL_refusesAny 233 = .ok (.iload_n 1, 1) := by decide +kernel
theorem dL_refusesAny_234 : decode cL_refusesAny 234 = .ok (.iconst 2, 1) := by decide +kernel
theorem dL_refusesAny_235 : decode cL_refusesAny 235 = .ok (.irem, 1) := by decide +kernel
theorem dL_refusesAny_236 : decode cL_refusesAny 236 = .ok (.ifCond .ne 7, 3) := by decide +kernel
theorem dL_refusesAny_239 : decode cL_refusesAny 239 = .ok (.iconst (-1), 1) := by decide +kernel
theorem dL_refusesAny_240 : decode cL_refusesAny 240 = .ok (.goto 4, 3) := by decide +kernel
theorem dL_refusesAny_243 : decode cL_refusesAny 243 = .ok (.iconst 3, 1) := by decide +kernel
theorem dL_refusesAny_244 : decode cL_refusesAny 244 = .ok (.invokevirtual 53, 3) := by decide +kernel
theorem dL_refusesAny_247 : decode cL_refusesAny 247 = .ok (.bipush (-2), 2) := by decide +kernel
theorem dL_refusesAny_249 : decode cL_refusesAny 249 = .ok (.if_icmp .ne 71, 3) := by decide +kernel
theorem dL_refusesAny_252 : decode cL_refusesAny 252 = .ok (.aload_n 0, 1) := by decide +kernel
theorem dL_refusesAny_253 : decode cL_refusesAny 253 = .ok (.iload_n 1, 1) := by decide +kernel
theorem dL_refusesAny_254 : decode cL_refusesAny 254 = .ok (.iconst 2, 1) := by decide +kernel
theorem dL_refusesAny_255 : decode cL_refusesAny 255 = .ok (.irem, 1) := by decide +kernel
theorem dL_refusesAny_256 : decode cL_refusesAny 256 = .ok (.aload_n 0, 1) := by decide +kernel
theorem dL_refusesAny_257 : decode cL_refusesAny 257 = .ok (.bipush 11, 2) := by decide +kernel
theorem dL_refusesAny_259 : decode cL_refusesAny 259 = .ok (.iload_n 1, 1) := by decide +kernel
theorem dL_refusesAny_260 : decode cL_refusesAny 260 = .ok (.iconst 2, 1) := by decide +kernel
theorem dL_refusesAny_261 : decode cL_refusesAny 261 = .ok (.irem, 1) := by decide +kernel
theorem dL_refusesAny_262 : decode cL_refusesAny 262 = .ok (.iadd, 1) := by decide +kernel
theorem dL_refusesAny_263 : decode cL_refusesAny 263 = .ok (.invokevirtual 13, 3) := by decide +kernel
theorem dL_refusesAny_266 : decode cL_refusesAny 266 = .ok (.invokevirtual 53, 3) := by decide +kernel
theorem dL_refusesAny_269 : decode cL_refusesAny 269 = .ok (.bipush (-5), 2) := by decide +kernel
theorem dL_refusesAny_271 : decode cL_refusesAny 271 = .ok (.if_icmp .ne 49, 3) := by decide +kernel
theorem dL_refusesAny_274 : decode cL_refusesAny 274 = .ok (.aload_n 0, 1) := by decide +kernel
theorem dL_refusesAny_275 : decode cL_refusesAny 275 = .ok (.iload_n 3, 1) := by decide +kernel
theorem dL_refusesAny_276 : decode cL_refusesAny 276 = .ok (.invokevirtual 56, 3) := by decide +kernel
theorem dL_refusesAny_279 : decode cL_refusesAny 279 = .ok (.bipush (-2), 2) := by decide +kernel
theorem dL_refusesAny_281 : decode cL_refusesAny 281 = .ok (.if_icmp .ne 39, 3) := by decide +kernel
theorem dL_refusesAny_284 : decode cL_refusesAny 284 = .ok (.aload_n 0, 1) := by decide +kernel
theorem dL_refusesAny_285 : decode cL_refusesAny 285 = .ok (.aload_n 0, 1) := by decide +kernel
theorem dL_refusesAny_286 : decode cL_refusesAny 286 = .ok (.bipush 13, 2) := by decide +kernel
theorem dL_refusesAny_288 : decode cL_refusesAny 288 = .ok (.invokevirtual 13, 3) := by decide +kernel
theorem dL_refusesAny_291 : decode cL_refusesAny 291 = .ok (.invokevirtual 56, 3) := by decide +kernel
theorem dL_refusesAny_294 : decode cL_refusesAny 294 = .ok (.bipush (-5), 2) := by decide +kernel
theorem dL_refusesAny_296 : decode cL_refusesAny 296 = .ok (.if_icmp .ne 24, 3) := by decide +kernel
theorem dL_refusesAny_299 : decode cL_refusesAny 299 = .ok (.aload_n 0, 1) := by decide +kernel
theorem dL_refusesAny_300 : decode cL_refusesAny 300 = .ok (.iconst 3, 1) := by decide +kernel
theorem dL_refusesAny_301 : decode cL_refusesAny 301 = .ok (.invokevirtual 13, 3) := by decide +kernel
theorem dL_refusesAny_304 : decode cL_refusesAny 304 = .ok (.ifCond .gt 12, 3) := by decide +kernel
theorem dL_refusesAny_307 : decode cL_refusesAny 307 = .ok (.aload_n 0, 1) := by decide +kernel
theorem dL_refusesAny_308 : decode cL_refusesAny 308 = .ok (.invokevirtual 59, 3) := by decide +kernel
theorem dL_refusesAny_311 : decode cL_refusesAny 311 = .ok (.bipush (-5), 2) := by decide +kernel
theorem dL_refusesAny_313 : decode cL_refusesAny 313 = .ok (.if_icmp .ne 7, 3) := by decide +kernel
theorem dL_refusesAny_316 : decode cL_refusesAny 316 = .ok (.iconst 1, 1) := by decide +kernel
theorem dL_refusesAny_317 : decode cL_refusesAny 317 = .ok (.goto 4, 3) := by decide +kernel
theorem dL_refusesAny_320 : decode cL_refusesAny 320 = .ok (.iconst 0, 1) := by decide +kernel
theorem dL_refusesAny_321 : decode cL_refusesAny 321 = .ok (.istore 5, 2) := by decide +kernel
theorem dL_refusesAny_323 : decode cL_refusesAny 323 = .ok (.iload 5, 2) := by decide +kernel
theorem dL_refusesAny_325 : decode cL_refusesAny 325 = .ok (.ifCond .eq 211, 3) := by decide +kernel
theorem dL_refusesAny_328 : decode cL_refusesAny 328 = .ok (.aload_n 0, 1) := by decide +kernel
theorem dL_refusesAny_329 : decode cL_refusesAny 329 = .ok (.iload_n 1, 1) := by decide +kernel
theorem dL_refusesAny_330 : decode cL_refusesAny 330 = .ok (.iconst 2, 1) := by decide +kernel
theorem dL_refusesAny_331 : decode cL_refusesAny 331 = .ok (.irem, 1) := by decide +kernel
theorem dL_refusesAny_332 : decode cL_refusesAny 332 = .ok (.ifCond .ne 7, 3) := by decide +kernel
theorem dL_refusesAny_335 : decode cL_refusesAny 335 = .ok (.iconst (-1), 1) := by decide +kernel
theorem dL_refusesAny_336 : decode cL_refusesAny 336 = .ok (.goto 5, 3) := by decide +kernel
theorem dL_refusesAny_339 : decode cL_refusesAny 339 = .ok (.bipush 9, 2) := by decide +kernel
theorem dL_refusesAny_341 : decode cL_refusesAny 341 = .ok (.iconst 0, 1) := by decide +kernel
theorem dL_refusesAny_342 : decode cL_refusesAny 342 = .ok (.invokevirtual 62, 3) := by decide +kernel
theorem dL_refusesAny_345 : decode cL_refusesAny 345 = .ok (.bipush (-2), 2) := by decide +kernel
theorem dL_refusesAny_347 : decode cL_refusesAny 347 = .ok (.if_icmp .ne 189, 3) := by decide +kernel
theorem dL_refusesAny_350 : decode cL_refusesAny 350 = .ok (.aload_n 0, 1) := by decide +kernel
theorem dL_refusesAny_351 : decode cL_refusesAny 351 = .ok (.iload_n 1, 1) := by decide +kernel
theorem dL_refusesAny_352 : decode cL_refusesAny 352 = .ok (.bipush 9, 2) := by decide +kernel
theorem dL_refusesAny_354 : decode cL_refusesAny 354 = .ok (.irem, 1) := by decide +kernel
theorem dL_refusesAny_355 : decode cL_refusesAny 355 = .ok (.iconst 1, 1) := by decide +kernel
theorem dL_refusesAny_356 : decode cL_refusesAny 356 = .ok (.iload_n 1, 1) := by decide +kernel
theorem dL_refusesAny_357 : decode cL_refusesAny 357 = .ok (.bipush 9, 2) := by decide +kernel
theorem dL_refusesAny_359 : decode cL_refusesAny 359 = .ok (.irem, 1) := by decide +kernel
theorem dL_refusesAny_360 : decode cL_refusesAny 360 = .ok (.ishl, 1) := by decide +kernel
theorem dL_refusesAny_361 : decode cL_refusesAny 361 = .ok (.invokevirtual 62, 3) := by decide +kernel
theorem dL_refusesAny_364 : decode cL_refusesAny 364 = .ok (.bipush (-2), 2) := by decide +kernel
theorem dL_refusesAny_366 : decode cL_refusesAny 366 = .ok (.if_icmp .ne 170, 3) := by decide +kernel
theorem dL_refusesAny_369 : decode cL_refusesAny 369 = .ok (.aload_n 0, 1) := by decide +kernel
theorem dL_refusesAny_370 : decode cL_refusesAny 370 = .ok (.iload_n 1, 1) := by decide +kernel
theorem dL_refusesAny_371 : decode cL_refusesAny 371 = .ok (.bipush 9, 2) := by decide +kernel
theorem dL_refusesAny_373 : decode cL_refusesAny 373 = .ok (.irem, 1) := by decide +kernel
theorem dL_refusesAny_374 : decode cL_refusesAny 374 = .ok (.iload_n 3, 1) := by decide +kernel
theorem dL_refusesAny_375 : decode cL_refusesAny 375 = .ok (.invokevirtual 62, 3) := by decide +kernel
theorem dL_refusesAny_378 : decode cL_refusesAny 378 = .ok (.bipush (-2), 2) := by decide +kernel
theorem dL_refusesAny_380 : decode cL_refusesAny 380 = .ok (.if_icmp .ne 156, 3) := by decide +kernel
theorem dL_refusesAny_383 : decode cL_refusesAny 383 = .ok (.aload_n 0, 1) := by decide +kernel
theorem dL_refusesAny_384 : decode cL_refusesAny 384 = .ok (.iload_n 1, 1) := by decide +kernel
theorem dL_refusesAny_385 : decode cL_refusesAny 385 = .ok (.iconst 2, 1) := by decide +kernel
theorem dL_refusesAny_386 : decode cL_refusesAny 386 = .ok (.irem, 1) := by decide +kernel
theorem dL_refusesAny_387 : decode cL_refusesAny 387 = .ok (.ifCond .ne 7, 3) := by decide +kernel
theorem dL_refusesAny_390 : decode cL_refusesAny 390 = .ok (.iconst 0, 1) := by decide +kernel
theorem dL_refusesAny_391 : decode cL_refusesAny 391 = .ok (.goto 5, 3) := by decide +kernel
theorem dL_refusesAny_394 : decode cL_refusesAny 394 = .ok (.bipush 65, 2) := by decide +kernel
theorem dL_refusesAny_396 : decode cL_refusesAny 396 = .ok (.invokevirtual 65, 3) := by decide +kernel
theorem dL_refusesAny_399 : decode cL_refusesAny 399 = .ok (.bipush (-2), 2) := by decide +kernel
theorem dL_refusesAny_401 : decode cL_refusesAny 401 = .ok (.if_icmp .ne 135, 3) := by decide +kernel
theorem dL_refusesAny_404 : decode cL_refusesAny 404 = .ok (.aload_n 0, 1) := by decide +kernel
theorem dL_refusesAny_405 : decode cL_refusesAny 405 = .ok (.iload_n 1, 1) := by decide +kernel
theorem dL_refusesAny_406 : decode cL_refusesAny 406 = .ok (.iconst 2, 1) := by decide +kernel
theorem dL_refusesAny_407 : decode cL_refusesAny 407 = .ok (.irem, 1) := by decide +kernel
theorem dL_refusesAny_408 : decode cL_refusesAny 408 = .ok (.ifCond .ne 7, 3) := by decide +kernel
theorem dL_refusesAny_411 : decode cL_refusesAny 411 = .ok (.iconst 0, 1) := by decide +kernel
theorem dL_refusesAny_412 : decode cL_refusesAny 412 = .ok (.goto 5, 3) := by decide +kernel
theorem dL_refusesAny_415 : decode cL_refusesAny 415 = .ok (.bipush 65, 2) := by decide +kernel
theorem dL_refusesAny_417 : decode cL_refusesAny 417 = .ok (.invokevirtual 68, 3) := by decide +kernel
theorem dL_refusesAny_420 : decode cL_refusesAny 420 = .ok (.bipush (-2), 2) := by decide +kernel
theorem dL_refusesAny_422 : decode cL_refusesAny 422 = .ok (.if_icmp .ne 114, 3) := by decide +kernel
theorem dL_refusesAny_425 : decode cL_refusesAny 425 = .ok (.aload_n 0, 1) := by decide +kernel
theorem dL_refusesAny_426 : decode cL_refusesAny 426 = .ok (.iload_n 3, 1) := by decide +kernel
theorem dL_refusesAny_427 : decode cL_refusesAny 427 = .ok (.invokevirtual 19, 3) := by decide +kernel
theorem dL_refusesAny_430 : decode cL_refusesAny 430 = .ok (.bipush (-2), 2) := by decide +kernel
theorem dL_refusesAny_432 : decode cL_refusesAny 432 = .ok (.if_icmp .ne 104, 3) := by decide +kernel
theorem dL_refusesAny_435 : decode cL_refusesAny 435 = .ok (.aload_n 0, 1) := by decide +kernel
theorem dL_refusesAny_436 : decode cL_refusesAny 436 = .ok (.aload_n 0, 1) := by decide +kernel
theorem dL_refusesAny_437 : decode cL_refusesAny 437 = .ok (.iconst 0, 1) := by decide +kernel
theorem dL_refusesAny_438 : decode cL_refusesAny 438 = .ok (.invokevirtual 13, 3) := by decide +kernel
theorem dL_refusesAny_441 : decode cL_refusesAny 441 = .ok (.invokevirtual 19, 3) := by decide +kernel
theorem dL_refusesAny_444 : decode cL_refusesAny 444 = .ok (.bipush (-5), 2) := by decide +kernel
theorem dL_refusesAny_446 : decode cL_refusesAny 446 = .ok (.if_icmp .ne 90, 3) := by decide +kernel
theorem dL_refusesAny_449 : decode cL_refusesAny 449 = .ok (.aload_n 0, 1) := by decide +kernel
theorem dL_refusesAny_450 : decode cL_refusesAny 450 = .ok (.iload_n 2, 1) := by decide +kernel
theorem dL_refusesAny_451 : decode cL_refusesAny 451 = .ok (.bipush 9, 2) := by decide +kernel
theorem dL_refusesAny_453 : decode cL_refusesAny 453 = .ok (.invokevirtual 22, 3) := by decide +kernel
theorem dL_refusesAny_456 : decode cL_refusesAny 456 = .ok (.iconst (-1), 1) := by decide +kernel
theorem dL_refusesAny_457 : decode cL_refusesAny 457 = .ok (.if_icmp .ne 79, 3) := by decide +kernel
theorem dL_refusesAny_460 : decode cL_refusesAny 460 = .ok (.iload 4, 2) := by decide +kernel
theorem dL_refusesAny_462 : decode cL_refusesAny 462 = .ok (.ifCond .lt 25, 3) := by decide +kernel
theorem dL_refusesAny_465 : decode cL_refusesAny 465 = .ok (.aload_n 0, 1) := by decide +kernel
theorem dL_refusesAny_466 : decode cL_refusesAny 466 = .ok (.iload 4, 2) := by decide +kernel
theorem dL_refusesAny_468 : decode cL_refusesAny 468 = .ok (.iload_n 1, 1) := by decide +kernel
theorem dL_refusesAny_469 : decode cL_refusesAny 469 = .ok (.iconst 2, 1) := by decide +kernel
theorem dL_refusesAny_470 : decode cL_refusesAny 470 = .ok (.irem, 1) := by decide +kernel
theorem dL_refusesAny_471 : decode cL_refusesAny 471 = .ok (.ifCond .ne 7, 3) := by decide +kernel
theorem dL_refusesAny_474 : decode cL_refusesAny 474 = .ok (.iconst (-1), 1) := by decide +kernel
theorem dL_refusesAny_475 : decode cL_refusesAny 475 = .ok (.goto 4, 3) := by decide +kernel
theorem dL_refusesAny_478 : decode cL_refusesAny 478 = .ok (.iconst 4, 1) := by decide +kernel
theorem dL_refusesAny_479 : decode cL_refusesAny 479 = .ok (.invokevirtual 22, 3) := by decide +kernel
theorem dL_refusesAny_482 : decode cL_refusesAny 482 = .ok (.bipush (-2), 2) := by decide +kernel
theorem dL_refusesAny_484 : decode cL_refusesAny 484 = .ok (.if_icmp .ne 52, 3) := by decide +kernel
theorem dL_refusesAny_487 : decode cL_refusesAny 487 = .ok (.aload_n 0, 1) := by decide +kernel
theorem dL_refusesAny_488 : decode cL_refusesAny 488 = .ok (.iload_n 3, 1) := by decide +kernel
theorem dL_refusesAny_489 : decode cL_refusesAny 489 = .ok (.invokevirtual 26, 3) := by decide +kernel
theorem dL_refusesAny_492 : decode cL_refusesAny 492 = .ok (.bipush (-2), 2) := by decide +kernel
theorem dL_refusesAny_494 : decode cL_refusesAny 494 = .ok (.if_icmp .ne 42, 3) := by decide +kernel
theorem dL_refusesAny_497 : decode cL_refusesAny 497 = .ok (.aload_n 0, 1) := by decide +kernel
theorem dL_refusesAny_498 : decode cL_refusesAny 498 = .ok (.aload_n 0, 1) := by decide +kernel
theorem dL_refusesAny_499 : decode cL_refusesAny 499 = .ok (.iconst 3, 1) := by decide +kernel
theorem dL_refusesAny_500 : decode cL_refusesAny 500 = .ok (.invokevirtual 13, 3) := by decide +kernel
theorem dL_refusesAny_503 : decode cL_refusesAny 503 = .ok (.invokevirtual 26, 3) := by decide +kernel
theorem dL_refusesAny_506 : decode cL_refusesAny 506 = .ok (.bipush (-5), 2) := by decide +kernel
theorem dL_refusesAny_508 : decode cL_refusesAny 508 = .ok (.if_icmp .ne 28, 3) := by decide +kernel
theorem dL_refusesAny_511 : decode cL_refusesAny 511 = .ok (.aload_n 0, 1) := by decide +kernel
theorem dL_refusesAny_512 : decode cL_refusesAny 512 = .ok (.iload_n 1, 1) := by decide +kernel
theorem dL_refusesAny_513 : decode cL_refusesAny 513 = .ok (.iconst 2, 1) := by decide +kernel
theorem dL_refusesAny_514 : decode cL_refusesAny 514 = .ok (.irem, 1) := by decide +kernel
theorem dL_refusesAny_515 : decode cL_refusesAny 515 = .ok (.ifCond .ne 7, 3) := by decide +kernel
theorem dL_refusesAny_518 : decode cL_refusesAny 518 = .ok (.iconst (-1), 1) := by decide +kernel
theorem dL_refusesAny_519 : decode cL_refusesAny 519 = .ok (.goto 5, 3) := by decide +kernel
theorem dL_refusesAny_522 : decode cL_refusesAny 522 = .ok (.bipush 17, 2) := by decide +kernel
theorem dL_refusesAny_524 : decode cL_refusesAny 524 = .ok (.invokevirtual 13, 3) := by decide +kernel
theorem dL_refusesAny_527 : decode cL_refusesAny 527 = .ok (.bipush (-2), 2) := by decide +kernel
theorem dL_refusesAny_529 : decode cL_refusesAny 529 = .ok (.if_icmp .ne 7, 3) := by decide +kernel
theorem dL_refusesAny_532 : decode cL_refusesAny 532 = .ok (.iconst 1, 1) := by decide +kernel
theorem dL_refusesAny_533 : decode cL_refusesAny 533 = .ok (.goto 4, 3) := by decide +kernel
theorem dL_refusesAny_536 : decode cL_refusesAny 536 = .ok (.iconst 0, 1) := by decide +kernel
theorem dL_refusesAny_537 : decode cL_refusesAny 537 = .ok (.istore 5, 2) := by decide +kernel
theorem dL_refusesAny_539 : decode cL_refusesAny 539 = .ok (.iload 5, 2) := by decide +kernel
theorem dL_refusesAny_541 : decode cL_refusesAny 541 = .ok (.ifCond .eq 157, 3) := by decide +kernel
theorem dL_refusesAny_544 : decode cL_refusesAny 544 = .ok (.aload_n 0, 1) := by decide +kernel
theorem dL_refusesAny_545 : decode cL_refusesAny 545 = .ok (.iload_n 1, 1) := by decide +kernel
theorem dL_refusesAny_546 : decode cL_refusesAny 546 = .ok (.iconst 2, 1) := by decide +kernel
theorem dL_refusesAny_547 : decode cL_refusesAny 547 = .ok (.irem, 1) := by decide +kernel
theorem dL_refusesAny_548 : decode cL_refusesAny 548 = .ok (.ifCond .ne 7, 3) := by decide +kernel
theorem dL_refusesAny_551 : decode cL_refusesAny 551 = .ok (.iconst (-1), 1) := by decide +kernel
theorem dL_refusesAny_552 : decode cL_refusesAny 552 = .ok (.goto 5, 3) := by decide +kernel
theorem dL_refusesAny_555 : decode cL_refusesAny 555 = .ok (.bipush 9, 2) := by decide +kernel
theorem dL_refusesAny_557 : decode cL_refusesAny 557 = .ok (.iconst 0, 1) := by decide +kernel
theorem dL_refusesAny_558 : decode cL_refusesAny 558 = .ok (.invokevirtual 29, 3) := by decide +kernel
theorem dL_refusesAny_561 : decode cL_refusesAny 561 = .ok (.bipush (-2), 2) := by decide +kernel
theorem dL_refusesAny_563 : decode cL_refusesAny 563 = .ok (.if_icmp .ne 135, 3) := by decide +kernel
theorem dL_refusesAny_566 : decode cL_refusesAny 566 = .ok (.aload_n 0, 1) := by decide +kernel
theorem dL_refusesAny_567 : decode cL_refusesAny 567 = .ok (.iload_n 1, 1) := by decide +kernel
theorem dL_refusesAny_568 : decode cL_refusesAny 568 = .ok (.bipush 9, 2) := by decide +kernel
theorem dL_refusesAny_570 : decode cL_refusesAny 570 = .ok (.irem, 1) := by decide +kernel
theorem dL_refusesAny_571 : decode cL_refusesAny 571 = .ok (.iconst 1, 1) := by decide +kernel
theorem dL_refusesAny_572 : decode cL_refusesAny 572 = .ok (.iload_n 1, 1) := by decide +kernel
theorem dL_refusesAny_573 : decode cL_refusesAny 573 = .ok (.bipush 9, 2) := by decide +kernel
theorem dL_refusesAny_575 : decode cL_refusesAny 575 = .ok (.irem, 1) := by decide +kernel
theorem dL_refusesAny_576 : decode cL_refusesAny 576 = .ok (.ishl, 1) := by decide +kernel
theorem dL_refusesAny_577 : decode cL_refusesAny 577 = .ok (.invokevirtual 29, 3) := by decide +kernel
theorem dL_refusesAny_580 : decode cL_refusesAny 580 = .ok (.bipush (-2), 2) := by decide +kernel
theorem dL_refusesAny_582 : decode cL_refusesAny 582 = .ok (.if_icmp .ne 116, 3) := by decide +kernel
theorem dL_refusesAny_585 : decode cL_refusesAny 585 = .ok (.aload_n 0, 1) := by decide +kernel
theorem dL_refusesAny_586 : decode cL_refusesAny 586 = .ok (.iload_n 1, 1) := by decide +kernel
theorem dL_refusesAny_587 : decode cL_refusesAny 587 = .ok (.bipush 9, 2) := by decide +kernel
theorem dL_refusesAny_589 : decode cL_refusesAny 589 = .ok (.irem, 1) := by decide +kernel
theorem dL_refusesAny_590 : decode cL_refusesAny 590 = .ok (.iload_n 3, 1) := by decide +kernel
theorem dL_refusesAny_591 : decode cL_refusesAny 591 = .ok (.invokevirtual 29, 3) := by decide +kernel
theorem dL_refusesAny_594 : decode cL_refusesAny 594 = .ok (.bipush (-2), 2) := by decide +kernel
theorem dL_refusesAny_596 : decode cL_refusesAny 596 = .ok (.if_icmp .ne 102, 3) := by decide +kernel
theorem dL_refusesAny_599 : decode cL_refusesAny 599 = .ok (.aload_n 0, 1) := by decide +kernel
theorem dL_refusesAny_600 : decode cL_refusesAny 600 = .ok (.iload_n 1, 1) := by decide +kernel
theorem dL_refusesAny_601 : decode cL_refusesAny 601 = .ok (.iconst 2, 1) := by decide +kernel
theorem dL_refusesAny_602 : decode cL_refusesAny 602 = .ok (.irem, 1) := by decide +kernel
theorem dL_refusesAny_603 : decode cL_refusesAny 603 = .ok (.ifCond .ne 7, 3) := by decide +kernel
theorem dL_refusesAny_606 : decode cL_refusesAny 606 = .ok (.iconst 1, 1) := by decide +kernel
theorem dL_refusesAny_607 : decode cL_refusesAny 607 = .ok (.goto 4, 3) := by decide +kernel
theorem dL_refusesAny_610 : decode cL_refusesAny 610 = .ok (.iconst 0, 1) := by decide +kernel
theorem dL_refusesAny_611 : decode cL_refusesAny 611 = .ok (.iload_n 1, 1) := by decide +kernel
theorem dL_refusesAny_612 : decode cL_refusesAny 612 = .ok (.iconst 3, 1) := by decide +kernel
theorem dL_refusesAny_613 : decode cL_refusesAny 613 = .ok (.irem, 1) := by decide +kernel
theorem dL_refusesAny_614 : decode cL_refusesAny 614 = .ok (.ifCond .ne 7, 3) := by decide +kernel
theorem dL_refusesAny_617 : decode cL_refusesAny 617 = .ok (.iconst (-1), 1) := by decide +kernel
theorem dL_refusesAny_618 : decode cL_refusesAny 618 = .ok (.goto 4, 3) := by decide +kernel
theorem dL_refusesAny_621 : decode cL_refusesAny 621 = .ok (.iconst 5, 1) := by decide +kernel
theorem dL_refusesAny_622 : decode cL_refusesAny 622 = .ok (.invokevirtual 71, 3) := by decide +kernel
theorem dL_refusesAny_625 : decode cL_refusesAny 625 = .ok (.bipush (-2), 2) := by decide +kernel
theorem dL_refusesAny_627 : decode cL_refusesAny 627 = .ok (.if_icmp .ne 71, 3) := by decide +kernel
theorem dL_refusesAny_630 : decode cL_refusesAny 630 = .ok (.aload_n 0, 1) := by decide +kernel
theorem dL_refusesAny_631 : decode cL_refusesAny 631 = .ok (.iload_n 1, 1) := by decide +kernel
theorem dL_refusesAny_632 : decode cL_refusesAny 632 = .ok (.iconst 2, 1) := by decide +kernel
theorem dL_refusesAny_633 : decode cL_refusesAny 633 = .ok (.irem, 1) := by decide +kernel
theorem dL_refusesAny_634 : decode cL_refusesAny 634 = .ok (.ifCond .ne 7, 3) := by decide +kernel
theorem dL_refusesAny_637 : decode cL_refusesAny 637 = .ok (.iconst 0, 1) := by decide +kernel
theorem dL_refusesAny_638 : decode cL_refusesAny 638 = .ok (.goto 5, 3) := by decide +kernel
theorem dL_refusesAny_641 : decode cL_refusesAny 641 = .ok (.bipush 65, 2) := by decide +kernel
theorem dL_refusesAny_643 : decode cL_refusesAny 643 = .ok (.iconst 0, 1) := by decide +kernel
theorem dL_refusesAny_644 : decode cL_refusesAny 644 = .ok (.invokevirtual 75, 3) := by decide +kernel
theorem dL_refusesAny_647 : decode cL_refusesAny 647 = .ok (.bipush (-2), 2) := by decide +kernel
theorem dL_refusesAny_649 : decode cL_refusesAny 649 = .ok (.if_icmp .ne 49, 3) := by decide +kernel
theorem dL_refusesAny_652 : decode cL_refusesAny 652 = .ok (.aload_n 0, 1) := by decide +kernel
theorem dL_refusesAny_653 : decode cL_refusesAny 653 = .ok (.iconst 1, 1) := by decide +kernel
theorem dL_refusesAny_654 : decode cL_refusesAny 654 = .ok (.iload_n 1, 1) := by decide +kernel
theorem dL_refusesAny_655 : decode cL_refusesAny 655 = .ok (.iconst 2, 1) := by decide +kernel
theorem dL_refusesAny_656 : decode cL_refusesAny 656 = .ok (.irem, 1) := by decide +kernel
theorem dL_refusesAny_657 : decode cL_refusesAny 657 = .ok (.ifCond .ne 7, 3) := by decide +kernel
theorem dL_refusesAny_660 : decode cL_refusesAny 660 = .ok (.iconst (-1), 1) := by decide +kernel
theorem dL_refusesAny_661 : decode cL_refusesAny 661 = .ok (.goto 4, 3) := by decide +kernel
theorem dL_refusesAny_664 : decode cL_refusesAny 664 = .ok (.iconst 5, 1) := by decide +kernel
theorem dL_refusesAny_665 : decode cL_refusesAny 665 = .ok (.invokevirtual 75, 3) := by decide +kernel
theorem dL_refusesAny_668 : decode cL_refusesAny 668 = .ok (.bipush (-2), 2) := by decide +kernel
theorem dL_refusesAny_670 : decode cL_refusesAny 670 = .ok (.if_icmp .ne 28, 3) := by decide +kernel
theorem dL_refusesAny_673 : decode cL_refusesAny 673 = .ok (.aload_n 0, 1) := by decide +kernel
theorem dL_refusesAny_674 : decode cL_refusesAny 674 = .ok (.iload_n 1, 1) := by decide +kernel
theorem dL_refusesAny_675 : decode cL_refusesAny 675 = .ok (.iconst 2, 1) := by decide +kernel
theorem dL_refusesAny_676 : decode cL_refusesAny 676 = .ok (.irem, 1) := by decide +kernel
theorem dL_refusesAny_677 : decode cL_refusesAny 677 = .ok (.ifCond .ne 7, 3) := by decide +kernel
theorem dL_refusesAny_680 : decode cL_refusesAny 680 = .ok (.iconst (-1), 1) := by decide +kernel
theorem dL_refusesAny_681 : decode cL_refusesAny 681 = .ok (.goto 5, 3) := by decide +kernel
theorem dL_refusesAny_684 : decode cL_refusesAny 684 = .ok (.bipush 9, 2) := by decide +kernel
theorem dL_refusesAny_686 : decode cL_refusesAny 686 = .ok (.invokevirtual 34, 3) := by decide +kernel
theorem dL_refusesAny_689 : decode cL_refusesAny 689 = .ok (.bipush (-2), 2) := by decide +kernel
theorem dL_refusesAny_691 : decode cL_refusesAny 691 = .ok (.if_icmp .ne 7, 3) := by decide +kernel
theorem dL_refusesAny_694 : decode cL_refusesAny 694 = .ok (.iconst 1, 1) := by decide +kernel
theorem dL_refusesAny_695 : decode cL_refusesAny 695 = .ok (.goto 4, 3) := by decide +kernel
theorem dL_refusesAny_698 : decode cL_refusesAny 698 = .ok (.iconst 0, 1) := by decide +kernel
theorem dL_refusesAny_699 : decode cL_refusesAny 699 = .ok (.istore 5, 2) := by decide +kernel
theorem dL_refusesAny_701 : decode cL_refusesAny 701 = .ok (.iload 5, 2) := by decide +kernel
theorem dL_refusesAny_703 : decode cL_refusesAny 703 = .ok (.ifCond .eq 23, 3) := by decide +kernel
theorem dL_refusesAny_706 : decode cL_refusesAny 706 = .ok (.aload_n 0, 1) := by decide +kernel
theorem dL_refusesAny_707 : decode cL_refusesAny 707 = .ok (.invokevirtual 78, 3) := by decide +kernel
theorem dL_refusesAny_710 : decode cL_refusesAny 710 = .ok (.ifCond .ne 16, 3) := by decide +kernel
theorem dL_refusesAny_713 : decode cL_refusesAny 713 = .ok (.aload_n 0, 1) := by decide +kernel
theorem dL_refusesAny_714 : decode cL_refusesAny 714 = .ok (.invokevirtual 81, 3) := by decide +kernel
theorem dL_refusesAny_717 : decode cL_refusesAny 717 = .ok (.bipush (-100), 2) := by decide +kernel
theorem dL_refusesAny_719 : decode cL_refusesAny 719 = .ok (.if_icmp .ne 7, 3) := by decide +kernel
theorem dL_refusesAny_722 : decode cL_refusesAny 722 = .ok (.iconst 1, 1) := by decide +kernel
theorem dL_refusesAny_723 : decode cL_refusesAny 723 = .ok (.goto 4, 3) := by decide +kernel
theorem dL_refusesAny_726 : decode cL_refusesAny 726 = .ok (.iconst 0, 1) := by decide +kernel
theorem dL_refusesAny_727 : decode cL_refusesAny 727 = .ok (.ireturn, 1) := by decide +kernel
theorem dL_refuses_0 : decode cL_refuses 0 = .ok (.aload_n 0, 1) := by decide +kernel
theorem dL_refuses_1 : decode cL_refuses 1 = .ok (.invokestatic 84, 3) := by decide +kernel
theorem dL_refuses_4 : decode cL_refuses 4 = .ok (.lstore_n 2, 1) := by decide +kernel
theorem dL_refuses_5 : decode cL_refuses 5 = .ok (.aload_n 0, 1) := by decide +kernel
theorem dL_refuses_6 : decode cL_refuses 6 = .ok (.bipush 15, 2) := by decide +kernel
theorem dL_refuses_8 : decode cL_refuses 8 = .ok (.invokevirtual 13, 3) := by decide +kernel
theorem dL_refuses_11 : decode cL_refuses 11 = .ok (.istore 4, 2) := by decide +kernel
theorem dL_refuses_13 : decode cL_refuses 13 = .ok (.aload_n 0, 1) := by decide +kernel
theorem dL_refuses_14 : decode cL_refuses 14 = .ok (.iload_n 1, 1) := by decide +kernel
theorem dL_refuses_15 : decode cL_refuses 15 = .ok (.invokestatic 88, 3) := by decide +kernel
theorem dL_refuses_18 : decode cL_refuses 18 = .ok (.ifCond .eq 27, 3) := by decide +kernel
theorem dL_refuses_21 : decode cL_refuses 21 = .ok (.aload_n 0, 1) := by decide +kernel
theorem dL_refuses_22 : decode cL_refuses 22 = .ok (.invokestatic 84, 3) := by decide +kernel
theorem dL_refuses_25 : decode cL_refuses 25 = .ok (.lload_n 2, 1) := by decide +kernel
theorem dL_refuses_26 : decode cL_refuses 26 = .ok (.lcmp, 1) := by decide +kernel
theorem dL_refuses_27 : decode cL_refuses 27 = .ok (.ifCond .ne 18, 3) := by decide +kernel
theorem dL_refuses_30 : decode cL_refuses 30 = .ok (.aload_n 0, 1) := by decide +kernel
theorem dL_refuses_31 : decode cL_refuses 31 = .ok (.bipush 15, 2) := by decide +kernel
theorem dL_refuses_33 : decode cL_refuses 33 = .ok (.invokevirtual 13, 3) := by decide +kernel
theorem dL_refuses_36 : decode cL_refuses 36 = .ok (.iload 4, 2) := by decide +kernel
theorem dL_refuses_38 : decode cL_refuses 38 = .ok (.if_icmp .ne 7, 3) := by decide +kernel
theorem dL_refuses_41 : decode cL_refuses 41 = .ok (.iconst 1, 1) := by decide +kernel
theorem dL_refuses_42 : decode cL_refuses 42 = .ok (.goto 4, 3) := by decide +kernel
theorem dL_refuses_45 : decode cL_refuses 45 = .ok (.iconst 0, 1) := by decide +kernel
theorem dL_refuses_46 : decode cL_refuses 46 = .ok (.ireturn, 1) := by decide +kernel
theorem dL_ask_0 : decode cL_ask 0 = .ok (.aload_n 0, 1) := by decide +kernel
theorem dL_ask_1 : decode cL_ask 1 = .ok (.iload_n 1, 1) := by decide +kernel
theorem dL_ask_2 : decode cL_ask 2 = .ok (.iload_n 2, 1) := by decide +kernel
theorem dL_ask_3 : decode cL_ask 3 = .ok (.invokevirtual 29, 3) := by decide +kernel
theorem dL_ask_6 : decode cL_ask 6 = .ok (.istore_n 3, 1) := by decide +kernel
theorem dL_ask_7 : decode cL_ask 7 = .ok (.aload_n 0, 1) := by decide +kernel
theorem dL_ask_8 : decode cL_ask 8 = .ok (.iconst 0, 1) := by decide +kernel
theorem dL_ask_9 : decode cL_ask 9 = .ok (.invokevirtual 13, 3) := by decide +kernel
theorem dL_ask_12 : decode cL_ask 12 = .ok (.istore 4, 2) := by decide +kernel
theorem dL_ask_14 : decode cL_ask 14 = .ok (.aload_n 0, 1) := by decide +kernel
theorem dL_ask_15 : decode cL_ask 15 = .ok (.bipush 9, 2) := by decide +kernel
theorem dL_ask_17 : decode cL_ask 17 = .ok (.invokevirtual 13, 3) := by decide +kernel
theorem dL_ask_20 : decode cL_ask 20 = .ok (.istore 5, 2) := by decide +kernel
theorem dL_ask_22 : decode cL_ask 22 = .ok (.aload_n 0, 1) := by decide +kernel
theorem dL_ask_23 : decode cL_ask 23 = .ok (.iconst 3, 1) := by decide +kernel
theorem dL_ask_24 : decode cL_ask 24 = .ok (.invokevirtual 13, 3) := by decide +kernel
theorem dL_ask_27 : decode cL_ask 27 = .ok (.istore 6, 2) := by decide +kernel
theorem dL_ask_29 : decode cL_ask 29 = .ok (.iconst 0, 1) := by decide +kernel
theorem dL_ask_30 : decode cL_ask 30 = .ok (.istore 7, 2) := by decide +kernel
theorem dL_ask_32 : decode cL_ask 32 = .ok (.iload_n 1, 1) := by decide +kernel
theorem dL_ask_33 : decode cL_ask 33 = .ok (.istore 8, 2) := by decide +kernel
theorem dL_ask_35 : decode cL_ask 35 = .ok (.iconst 0, 1) := by decide +kernel
theorem dL_ask_36 : decode cL_ask 36 = .ok (.istore 9, 2) := by decide +kernel
theorem dL_ask_38 : decode cL_ask 38 = .ok (.iload 9, 2) := by decide +kernel
theorem dL_ask_40 : decode cL_ask 40 = .ok (.iload 4, 2) := by decide +kernel
theorem dL_ask_42 : decode cL_ask 42 = .ok (.if_icmp .ge 34, 3) := by decide +kernel
theorem dL_ask_45 : decode cL_ask 45 = .ok (.iload 7, 2) := by decide +kernel
theorem dL_ask_47 : decode cL_ask 47 = .ok (.aload_n 0, 1) := by decide +kernel
theorem dL_ask_48 : decode cL_ask 48 = .ok (.aload_n 0, 1) := by decide +kernel
theorem dL_ask_49 : decode cL_ask 49 = .ok (.iload 9, 2) := by decide +kernel
theorem dL_ask_51 : decode cL_ask 51 = .ok (.invokevirtual 19, 3) := by decide +kernel
theorem dL_ask_54 : decode cL_ask 54 = .ok (.iconst 1, 1) := by decide +kernel
theorem dL_ask_55 : decode cL_ask 55 = .ok (.invokevirtual 22, 3) := by decide +kernel
theorem dL_ask_58 : decode cL_ask 58 = .ok (.iconst 1, 1) := by decide +kernel
theorem dL_ask_59 : decode cL_ask 59 = .ok (.if_icmp .ne 7, 3) := by decide +kernel
theorem dL_ask_62 : decode cL_ask 62 = .ok (.iconst 1, 1) := by decide +kernel
theorem dL_ask_63 : decode cL_ask 63 = .ok (.goto 4, 3) := by decide +kernel
theorem dL_ask_66 : decode cL_ask 66 = .ok (.iconst 0, 1) := by decide +kernel
theorem dL_ask_67 : decode cL_ask 67 = .ok (.iadd, 1) := by decide +kernel
theorem dL_ask_68 : decode cL_ask 68 = .ok (.istore 7, 2) := by decide +kernel
theorem dL_ask_70 : decode cL_ask 70 = .ok (.iinc 9 1, 3) := by decide +kernel
theorem dL_ask_73 : decode cL_ask 73 = .ok (.goto (-35), 3) := by decide +kernel
theorem dL_ask_76 : decode cL_ask 76 = .ok (.iload_n 2, 1) := by decide +kernel
theorem dL_ask_77 : decode cL_ask 77 = .ok (.istore 9, 2) := by decide +kernel
theorem dL_ask_79 : decode cL_ask 79 = .ok (.iload 8, 2) := by decide +kernel
theorem dL_ask_81 : decode cL_ask 81 = .ok (.bipush 8, 2) := by decide +kernel
theorem dL_ask_83 : decode cL_ask 83 = .ok (.if_icmp .ge 73, 3) := by decide +kernel
theorem dL_ask_86 : decode cL_ask 86 = .ok (.iload_n 3, 1) := by decide +kernel
theorem dL_ask_87 : decode cL_ask 87 = .ok (.iconst 1, 1) := by decide +kernel
theorem dL_ask_88 : decode cL_ask 88 = .ok (.if_icmp .le 68, 3) := by decide +kernel
theorem dL_ask_91 : decode cL_ask 91 = .ok (.aload_n 0, 1) := by decide +kernel
theorem dL_ask_92 : decode cL_ask 92 = .ok (.iload 8, 2) := by decide +kernel
theorem dL_ask_94 : decode cL_ask 94 = .ok (.iconst 1, 1) := by decide +kernel
theorem dL_ask_95 : decode cL_ask 95 = .ok (.iadd, 1) := by decide +kernel
theorem dL_ask_96 : decode cL_ask 96 = .ok (.iconst 2, 1) := by decide +kernel
theorem dL_ask_97 : decode cL_ask 97 = .ok (.iload 9, 2) := by decide +kernel
theorem dL_ask_99 : decode cL_ask 99 = .ok (.imul, 1) := by decide +kernel
theorem dL_ask_100 : decode cL_ask 100 = .ok (.invokevirtual 29, 3) := by decide +kernel
theorem dL_ask_103 : decode cL_ask 103 = .ok (.ifCond .eq 20, 3) := by decide +kernel
theorem dL_ask_106 : decode cL_ask 106 = .ok (.aload_n 0, 1) := by decide +kernel
theorem dL_ask_107 : decode cL_ask 107 = .ok (.iload 8, 2) := by decide +kernel
theorem dL_ask_109 : decode cL_ask 109 = .ok (.iconst 1, 1) := by decide +kernel
theorem dL_ask_110 : decode cL_ask 110 = .ok (.iadd, 1) := by decide +kernel
theorem dL_ask_111 : decode cL_ask 111 = .ok (.iconst 2, 1) := by decide +kernel
theorem dL_ask_112 : decode cL_ask 112 = .ok (.iload 9, 2) := by decide +kernel
theorem dL_ask_114 : decode cL_ask 114 = .ok (.imul, 1) := by decide +kernel
theorem dL_ask_115 : decode cL_ask 115 = .ok (.iconst 1, 1) := by decide +kernel
theorem dL_ask_116 : decode cL_ask 116 = .ok (.iadd, 1) := by decide +kernel
theorem dL_ask_117 : decode cL_ask 117 = .ok (.invokevirtual 29, 3) := by decide +kernel
theorem dL_ask_120 : decode cL_ask 120 = .ok (.ifCond .ne 36, 3) := by decide +kernel
theorem dL_ask_123 : decode cL_ask 123 = .ok (.iconst 2, 1) := by decide +kernel
theorem dL_ask_124 : decode cL_ask 124 = .ok (.iload 9, 2) := by decide +kernel
theorem dL_ask_126 : decode cL_ask 126 = .ok (.imul, 1) := by decide +kernel
theorem dL_ask_127 : decode cL_ask 127 = .ok (.aload_n 0, 1) := by decide +kernel
theorem dL_ask_128 : decode cL_ask 128 = .ok (.iload 8, 2) := by decide +kernel
theorem dL_ask_130 : decode cL_ask 130 = .ok (.iconst 1, 1) := by decide +kernel
theorem dL_ask_131 : decode cL_ask 131 = .ok (.iadd, 1) := by decide +kernel
theorem dL_ask_132 : decode cL_ask 132 = .ok (.iconst 2, 1) := by decide +kernel
theorem dL_ask_133 : decode cL_ask 133 = .ok (.iload 9, 2) := by decide +kernel
theorem dL_ask_135 : decode cL_ask 135 = .ok (.imul, 1) := by decide +kernel
theorem dL_ask_136 : decode cL_ask 136 = .ok (.invokevirtual 29, 3) := by decide +kernel
theorem dL_ask_139 : decode cL_ask 139 = .ok (.ifCond .ne 7, 3) := by decide +kernel
theorem dL_ask_142 : decode cL_ask 142 = .ok (.iconst 1, 1) := by decide +kernel
theorem dL_ask_143 : decode cL_ask 143 = .ok (.goto 4, 3) := by decide +kernel
theorem dL_ask_146 : decode cL_ask 146 = .ok (.iconst 0, 1) := by decide +kernel
theorem dL_ask_147 : decode cL_ask 147 = .ok (.iadd, 1) := by decide +kernel
theorem dL_ask_148 : decode cL_ask 148 = .ok (.istore 9, 2) := by decide +kernel
theorem dL_ask_150 : decode cL_ask 150 = .ok (.iinc 8 1, 3) := by decide +kernel
theorem dL_ask_153 : decode cL_ask 153 = .ok (.goto (-74), 3) := by decide +kernel
theorem dL_ask_156 : decode cL_ask 156 = .ok (.aload_n 0, 1) := by decide +kernel
theorem dL_ask_157 : decode cL_ask 157 = .ok (.iload_n 1, 1) := by decide +kernel
theorem dL_ask_158 : decode cL_ask 158 = .ok (.iload_n 2, 1) := by decide +kernel
theorem dL_ask_159 : decode cL_ask 159 = .ok (.invokevirtual 62, 3) := by decide +kernel
theorem dL_ask_162 : decode cL_ask 162 = .ok (.istore 10, 2) := by decide +kernel
theorem dL_ask_164 : decode cL_ask 164 = .ok (.aload_n 0, 1) := by decide +kernel
theorem dL_ask_165 : decode cL_ask 165 = .ok (.iconst 3, 1) := by decide +kernel
theorem dL_ask_166 : decode cL_ask 166 = .ok (.invokevirtual 13, 3) := by decide +kernel
theorem dL_ask_169 : decode cL_ask 169 = .ok (.ifCond .ne 8, 3) := by decide +kernel
theorem dL_ask_172 : decode cL_ask 172 = .ok (.bipush (-5), 2) := by decide +kernel
theorem dL_ask_174 : decode cL_ask 174 = .ok (.goto 14, 3) := by decide +kernel
theorem dL_ask_177 : decode cL_ask 177 = .ok (.aload_n 0, 1) := by decide +kernel
theorem dL_ask_178 : decode cL_ask 178 = .ok (.aload_n 0, 1) := by decide +kernel
theorem dL_ask_179 : decode cL_ask 179 = .ok (.iconst 3, 1) := by decide +kernel
theorem dL_ask_180 : decode cL_ask 180 = .ok (.invokevirtual 13, 3) := by decide +kernel
theorem dL_ask_183 : decode cL_ask 183 = .ok (.iconst 1, 1) := by decide +kernel
theorem dL_ask_184 : decode cL_ask 184 = .ok (.isub, 1) := by decide +kernel
theorem dL_ask_185 : decode cL_ask 185 = .ok (.invokevirtual 26, 3) := by decide +kernel
theorem dL_ask_188 : decode cL_ask 188 = .ok (.istore 11, 2) := by decide +kernel
theorem dL_ask_190 : decode cL_ask 190 = .ok (.iload_n 3, 1) := by decide +kernel
theorem dL_ask_191 : decode cL_ask 191 = .ok (.ifCond .ne 19, 3) := by decide +kernel
theorem dL_ask_194 : decode cL_ask 194 = .ok (.iload 10, 2) := by decide +kernel
theorem dL_ask_196 : decode cL_ask 196 = .ok (.sipush 300, 3) := by decide +kernel
theorem dL_ask_199 : decode cL_ask 199 = .ok (.if_icmp .ne 7, 3) := by decide +kernel
theorem dL_ask_202 : decode cL_ask 202 = .ok (.iconst 1, 1) := by decide +kernel
theorem dL_ask_203 : decode cL_ask 203 = .ok (.goto 74, 3) := by decide +kernel
theorem dL_ask_206 : decode cL_ask 206 = .ok (.iconst 0, 1) := by decide +kernel
theorem dL_ask_207 : decode cL_ask 207 = .ok (.goto 70, 3) := by decide +kernel
theorem dL_ask_210 : decode cL_ask 210 = .ok (.iload_n 3, 1) := by decide +kernel
theorem dL_ask_211 : decode cL_ask 211 = .ok (.iconst 1, 1) := by decide +kernel
theorem dL_ask_212 : decode cL_ask 212 = .ok (.if_icmp .ne 42, 3) := by decide +kernel
theorem dL_ask_215 : decode cL_ask 215 = .ok (.iload 10, 2) := by decide +kernel
theorem dL_ask_217 : decode cL_ask 217 = .ok (.ifCond .lt 33, 3) := by decide +kernel
theorem dL_ask_220 : decode cL_ask 220 = .ok (.iload 10, 2) := by decide +kernel
theorem dL_ask_222 : decode cL_ask 222 = .ok (.sipush 256, 3) := by decide +kernel
theorem dL_ask_225 : decode cL_ask 225 = .ok (.if_icmp .ge 25, 3) := by decide +kernel
theorem dL_ask_228 : decode cL_ask 228 = .ok (.iload 10, 2) := by decide +kernel
theorem dL_ask_230 : decode cL_ask 230 = .ok (.bipush 8, 2) := by decide +kernel
theorem dL_ask_232 : decode cL_ask 232 = .ok (.iload_n 1, 1) := by decide +kernel
theorem dL_ask_233 : decode cL_ask 233 = .ok (.isub, 1) := by decide +kernel
theorem dL_ask_234 : decode cL_ask 234 = .ok (.ishr, 1) := by decide +kernel
theorem dL_ask_235 : decode cL_ask 235 = .ok (.iload_n 2, 1) := by decide +kernel
theorem dL_ask_236 : decode cL_ask 236 = .ok (.if_icmp .ne 14, 3) := by decide +kernel
theorem dL_ask_239 : decode cL_ask 239 = .ok (.iload 11, 2) := by decide +kernel
theorem dL_ask_241 : decode cL_ask 241 = .ok (.iload 10, 2) := by decide +kernel
theorem dL_ask_243 : decode cL_ask 243 = .ok (.if_icmp .ne 7, 3) := by decide +kernel
theorem dL_ask_246 : decode cL_ask 246 = .ok (.iconst 1, 1) := by decide +kernel
theorem dL_ask_247 : decode cL_ask 247 = .ok (.goto 30, 3) := by decide +kernel
theorem dL_ask_250 : decode cL_ask 250 = .ok (.iconst 0, 1) := by decide +kernel
theorem dL_ask_251 : decode cL_ask 251 = .ok (.goto 26, 3) := by decide +kernel
theorem dL_ask_254 : decode cL_ask 254 = .ok (.iload 10, 2) := by decide +kernel
theorem dL_ask_256 : decode cL_ask 256 = .ok (.sipush 400, 3) := by decide +kernel
theorem dL_ask_259 : decode cL_ask 259 = .ok (.iload 8, 2) := by decide +kernel
theorem dL_ask_261 : decode cL_ask 261 = .ok (.iadd, 1) := by decide +kernel
theorem dL_ask_262 : decode cL_ask 262 = .ok (.if_icmp .ne 14, 3) := by decide +kernel
theorem dL_ask_265 : decode cL_ask 265 = .ok (.iload 8, 2) := by decide +kernel
theorem dL_ask_267 : decode cL_ask 267 = .ok (.bipush 8, 2) := by decide +kernel
theorem dL_ask_269 : decode cL_ask 269 = .ok (.if_icmp .ge 7, 3) := by decide +kernel
theorem dL_ask_272 : decode cL_ask 272 = .ok (.iconst 1, 1) := by decide +kernel
theorem dL_ask_273 : decode cL_ask 273 = .ok (.goto 4, 3) := by decide +kernel
theorem dL_ask_276 : decode cL_ask 276 = .ok (.iconst 0, 1) := by decide +kernel
theorem dL_ask_277 : decode cL_ask 277 = .ok (.istore 12, 2) := by decide +kernel
theorem dL_ask_279 : decode cL_ask 279 = .ok (.iload 5, 2) := by decide +kernel
theorem dL_ask_281 : decode cL_ask 281 = .ok (.iconst 4, 1) := by decide +kernel
theorem dL_ask_282 : decode cL_ask 282 = .ok (.iadd, 1) := by decide +kernel
theorem dL_ask_283 : decode cL_ask 283 = .ok (.iload_n 1, 1) := by decide +kernel
theorem dL_ask_284 : decode cL_ask 284 = .ok (.iadd, 1) := by decide +kernel
theorem dL_ask_285 : decode cL_ask 285 = .ok (.iload_n 3, 1) := by decide +kernel
theorem dL_ask_286 : decode cL_ask 286 = .ok (.ifCond .ne 7, 3) := by decide +kernel
theorem dL_ask_289 : decode cL_ask 289 = .ok (.iconst 2, 1) := by decide +kernel
theorem dL_ask_290 : decode cL_ask 290 = .ok (.goto 17, 3) := by decide +kernel
theorem dL_ask_293 : decode cL_ask 293 = .ok (.iload_n 1, 1) := by decide +kernel
theorem dL_ask_294 : decode cL_ask 294 = .ok (.bipush 8, 2) := by decide +kernel
theorem dL_ask_296 : decode cL_ask 296 = .ok (.if_icmp .ne 7, 3) := by decide +kernel
theorem dL_ask_299 : decode cL_ask 299 = .ok (.iconst 1, 1) := by decide +kernel
theorem dL_ask_300 : decode cL_ask 300 = .ok (.goto 7, 3) := by decide +kernel
theorem dL_ask_303 : decode cL_ask 303 = .ok (.bipush 8, 2) := by decide +kernel
theorem dL_ask_305 : decode cL_ask 305 = .ok (.iload_n 1, 1) := by decide +kernel
theorem dL_ask_306 : decode cL_ask 306 = .ok (.isub, 1) := by decide +kernel
theorem dL_ask_307 : decode cL_ask 307 = .ok (.iadd, 1) := by decide +kernel
theorem dL_ask_308 : decode cL_ask 308 = .ok (.istore 13, 2) := by decide +kernel
theorem dL_ask_310 : decode cL_ask 310 = .ok (.iload 12, 2) := by decide +kernel
theorem dL_ask_312 : decode cL_ask 312 = .ok (.ifCond .eq 86, 3) := by decide +kernel
theorem dL_ask_315 : decode cL_ask 315 = .ok (.aload_n 0, 1) := by decide +kernel
theorem dL_ask_316 : decode cL_ask 316 = .ok (.bipush 9, 2) := by decide +kernel
theorem dL_ask_318 : decode cL_ask 318 = .ok (.invokevirtual 13, 3) := by decide +kernel
theorem dL_ask_321 : decode cL_ask 321 = .ok (.iload 13, 2) := by decide +kernel
theorem dL_ask_323 : decode cL_ask 323 = .ok (.if_icmp .ne 75, 3) := by decide +kernel
theorem dL_ask_326 : decode cL_ask 326 = .ok (.aload_n 0, 1) := by decide +kernel
theorem dL_ask_327 : decode cL_ask 327 = .ok (.iconst 0, 1) := by decide +kernel
theorem dL_ask_328 : decode cL_ask 328 = .ok (.invokevirtual 13, 3) := by decide +kernel
theorem dL_ask_331 : decode cL_ask 331 = .ok (.iload 4, 2) := by decide +kernel
theorem dL_ask_333 : decode cL_ask 333 = .ok (.iload 7, 2) := by decide +kernel
theorem dL_ask_335 : decode cL_ask 335 = .ok (.isub, 1) := by decide +kernel
theorem dL_ask_336 : decode cL_ask 336 = .ok (.if_icmp .ne 62, 3) := by decide +kernel
theorem dL_ask_339 : decode cL_ask 339 = .ok (.aload_n 0, 1) := by decide +kernel
theorem dL_ask_340 : decode cL_ask 340 = .ok (.iconst 3, 1) := by decide +kernel
theorem dL_ask_341 : decode cL_ask 341 = .ok (.invokevirtual 13, 3) := by decide +kernel
theorem dL_ask_344 : decode cL_ask 344 = .ok (.iload_n 3, 1) := by decide +kernel
theorem dL_ask_345 : decode cL_ask 345 = .ok (.iconst 1, 1) := by decide +kernel
theorem dL_ask_346 : decode cL_ask 346 = .ok (.if_icmp .ne 18, 3) := by decide +kernel
theorem dL_ask_349 : decode cL_ask 349 = .ok (.iload 6, 2) := by decide +kernel
theorem dL_ask_351 : decode cL_ask 351 = .ok (.sipush 200, 3) := by decide +kernel
theorem dL_ask_354 : decode cL_ask 354 = .ok (.if_icmp .ge 10, 3) := by decide +kernel
theorem dL_ask_357 : decode cL_ask 357 = .ok (.iload 6, 2) := by decide +kernel
theorem dL_ask_359 : decode cL_ask 359 = .ok (.iconst 1, 1) := by decide +kernel
theorem dL_ask_360 : decode cL_ask 360 = .ok (.iadd, 1) := by decide +kernel
theorem dL_ask_361 : decode cL_ask 361 = .ok (.goto 5, 3) := by decide +kernel
theorem dL_ask_364 : decode cL_ask 364 = .ok (.iload 6, 2) := by decide +kernel
theorem dL_ask_366 : decode cL_ask 366 = .ok (.if_icmp .ne 32, 3) := by decide +kernel
theorem dL_ask_369 : decode cL_ask 369 = .ok (.iload_n 3, 1) := by decide +kernel
theorem dL_ask_370 : decode cL_ask 370 = .ok (.iconst 1, 1) := by decide +kernel
theorem dL_ask_371 : decode cL_ask 371 = .ok (.if_icmp .ne 23, 3) := by decide +kernel
theorem dL_ask_374 : decode cL_ask 374 = .ok (.aload_n 0, 1) := by decide +kernel
theorem dL_ask_375 : decode cL_ask 375 = .ok (.bipush 8, 2) := by decide +kernel
theorem dL_ask_377 : decode cL_ask 377 = .ok (.iload 10, 2) := by decide +kernel
theorem dL_ask_379 : decode cL_ask 379 = .ok (.invokevirtual 29, 3) := by decide +kernel
theorem dL_ask_382 : decode cL_ask 382 = .ok (.ifCond .eq 12, 3) := by decide +kernel
theorem dL_ask_385 : decode cL_ask 385 = .ok (.aload_n 0, 1) := by decide +kernel
theorem dL_ask_386 : decode cL_ask 386 = .ok (.bipush 11, 2) := by decide +kernel
theorem dL_ask_388 : decode cL_ask 388 = .ok (.invokevirtual 13, 3) := by decide +kernel
theorem dL_ask_391 : decode cL_ask 391 = .ok (.ifCond .ne 7, 3) := by decide +kernel
theorem dL_ask_394 : decode cL_ask 394 = .ok (.iconst 1, 1) := by decide +kernel
theorem dL_ask_395 : decode cL_ask 395 = .ok (.goto 4, 3) := by decide +kernel
theorem dL_ask_398 : decode cL_ask 398 = .ok (.iconst 0, 1) := by decide +kernel
theorem dL_ask_399 : decode cL_ask 399 = .ok (.istore 12, 2) := by decide +kernel
theorem dL_ask_401 : decode cL_ask 401 = .ok (.iload 12, 2) := by decide +kernel
theorem dL_ask_403 : decode cL_ask 403 = .ok (.ifCond .eq 8, 3) := by decide +kernel
theorem dL_ask_406 : decode cL_ask 406 = .ok (.iload 10, 2) := by decide +kernel
theorem dL_ask_408 : decode cL_ask 408 = .ok (.goto 5, 3) := by decide +kernel
theorem dL_ask_411 : decode cL_ask 411 = .ok (.bipush (-9), 2) := by decide +kernel
theorem dL_ask_413 : decode cL_ask 413 = .ok (.ireturn, 1) := by decide +kernel
theorem dL_put_0 : decode cL_put 0 = .ok (.aload_n 0, 1) := by decide +kernel
theorem dL_put_1 : decode cL_put 1 = .ok (.iconst 0, 1) := by decide +kernel
theorem dL_put_2 : decode cL_put 2 = .ok (.invokevirtual 13, 3) := by decide +kernel
theorem dL_put_5 : decode cL_put 5 = .ok (.istore_n 2, 1) := by decide +kernel
theorem dL_put_6 : decode cL_put 6 = .ok (.aload_n 0, 1) := by decide +kernel
theorem dL_put_7 : decode cL_put 7 = .ok (.iload_n 1, 1) := by decide +kernel
theorem dL_put_8 : decode cL_put 8 = .ok (.iconst 0, 1) := by decide +kernel
theorem dL_put_9 : decode cL_put 9 = .ok (.invokevirtual 22, 3) := by decide +kernel
theorem dL_put_12 : decode cL_put 12 = .ok (.ifCond .lt 7, 3) := by decide +kernel
theorem dL_put_15 : decode cL_put 15 = .ok (.iconst 1, 1) := by decide +kernel
theorem dL_put_16 : decode cL_put 16 = .ok (.goto 4, 3) := by decide +kernel
theorem dL_put_19 : decode cL_put 19 = .ok (.iconst 0, 1) := by decide +kernel
theorem dL_put_20 : decode cL_put 20 = .ok (.istore_n 3, 1) := by decide +kernel
theorem dL_put_21 : decode cL_put 21 = .ok (.aload_n 0, 1) := by decide +kernel
theorem dL_put_22 : decode cL_put 22 = .ok (.iload_n 1, 1) := by decide +kernel
theorem dL_put_23 : decode cL_put 23 = .ok (.invokevirtual 37, 3) := by decide +kernel
theorem dL_put_26 : decode cL_put 26 = .ok (.istore 4, 2) := by decide +kernel
theorem dL_put_28 : decode cL_put 28 = .ok (.iload 4, 2) := by decide +kernel
theorem dL_put_30 : decode cL_put 30 = .ok (.iload_n 3, 1) := by decide +kernel
theorem dL_put_31 : decode cL_put 31 = .ok (.ifCond .eq 8, 3) := by decide +kernel
theorem dL_put_34 : decode cL_put 34 = .ok (.bipush (-4), 2) := by decide +kernel
theorem dL_put_36 : decode cL_put 36 = .ok (.goto 17, 3) := by decide +kernel
theorem dL_put_39 : decode cL_put 39 = .ok (.iload_n 2, 1) := by decide +kernel
theorem dL_put_40 : decode cL_put 40 = .ok (.bipush 20, 2) := by decide +kernel
theorem dL_put_42 : decode cL_put 42 = .ok (.if_icmp .ne 8, 3) := by decide +kernel
theorem dL_put_45 : decode cL_put 45 = .ok (.bipush (-3), 2) := by decide +kernel
theorem dL_put_47 : decode cL_put 47 = .ok (.goto 6, 3) := by decide +kernel
theorem dL_put_50 : decode cL_put 50 = .ok (.iload_n 2, 1) := by decide +kernel
theorem dL_put_51 : decode cL_put 51 = .ok (.iconst 1, 1) := by decide +kernel
theorem dL_put_52 : decode cL_put 52 = .ok (.iadd, 1) := by decide +kernel
theorem dL_put_53 : decode cL_put 53 = .ok (.if_icmp .ne 40, 3) := by decide +kernel
theorem dL_put_56 : decode cL_put 56 = .ok (.iload 4, 2) := by decide +kernel
theorem dL_put_58 : decode cL_put 58 = .ok (.ifCond .lt 31, 3) := by decide +kernel
theorem dL_put_61 : decode cL_put 61 = .ok (.aload_n 0, 1) := by decide +kernel
theorem dL_put_62 : decode cL_put 62 = .ok (.iload_n 1, 1) := by decide +kernel
theorem dL_put_63 : decode cL_put 63 = .ok (.iconst 0, 1) := by decide +kernel
theorem dL_put_64 : decode cL_put 64 = .ok (.invokevirtual 22, 3) := by decide +kernel
theorem dL_put_67 : decode cL_put 67 = .ok (.iconst 1, 1) := by decide +kernel
theorem dL_put_68 : decode cL_put 68 = .ok (.if_icmp .ne 25, 3) := by decide +kernel
theorem dL_put_71 : decode cL_put 71 = .ok (.aload_n 0, 1) := by decide +kernel
theorem dL_put_72 : decode cL_put 72 = .ok (.iload_n 1, 1) := by decide +kernel
theorem dL_put_73 : decode cL_put 73 = .ok (.iconst 1, 1) := by decide +kernel
theorem dL_put_74 : decode cL_put 74 = .ok (.invokevirtual 22, 3) := by decide +kernel
theorem dL_put_77 : decode cL_put 77 = .ok (.ifCond .ne 16, 3) := by decide +kernel
theorem dL_put_80 : decode cL_put 80 = .ok (.aload_n 0, 1) := by decide +kernel
theorem dL_put_81 : decode cL_put 81 = .ok (.iload_n 1, 1) := by decide +kernel
theorem dL_put_82 : decode cL_put 82 = .ok (.iconst 2, 1) := by decide +kernel
theorem dL_put_83 : decode cL_put 83 = .ok (.invokevirtual 22, 3) := by decide +kernel
theorem dL_put_86 : decode cL_put 86 = .ok (.ifCond .ne 7, 3) := by decide +kernel
theorem dL_put_89 : decode cL_put 89 = .ok (.iconst 1, 1) := by decide +kernel
theorem dL_put_90 : decode cL_put 90 = .ok (.goto 4, 3) := by decide +kernel
theorem dL_put_93 : decode cL_put 93 = .ok (.iconst 0, 1) := by decide +kernel
theorem dL_put_94 : decode cL_put 94 = .ok (.istore 5, 2) := by decide +kernel
theorem dL_put_96 : decode cL_put 96 = .ok (.iload 5, 2) := by decide +kernel
theorem dL_put_98 : decode cL_put 98 = .ok (.ifCond .eq 8, 3) := by decide +kernel
theorem dL_put_101 : decode cL_put 101 = .ok (.iload 4, 2) := by decide +kernel
theorem dL_put_103 : decode cL_put 103 = .ok (.goto 5, 3) := by decide +kernel
theorem dL_put_106 : decode cL_put 106 = .ok (.bipush (-9), 2) := by decide +kernel
theorem dL_put_108 : decode cL_put 108 = .ok (.ireturn, 1) := by decide +kernel
theorem dL_change_0 : decode cL_change 0 = .ok (.aload_n 0, 1) := by decide +kernel
theorem dL_change_1 : decode cL_change 1 = .ok (.iconst 0, 1) := by decide +kernel
theorem dL_change_2 : decode cL_change 2 = .ok (.invokevirtual 13, 3) := by decide +kernel
theorem dL_change_5 : decode cL_change 5 = .ok (.istore_n 3, 1) := by decide +kernel
theorem dL_change_6 : decode cL_change 6 = .ok (.aload_n 0, 1) := by decide +kernel
theorem dL_change_7 : decode cL_change 7 = .ok (.iconst 1, 1) := by decide +kernel
theorem dL_change_8 : decode cL_change 8 = .ok (.invokevirtual 13, 3) := by decide +kernel
theorem dL_change_11 : decode cL_change 11 = .ok (.istore 4, 2) := by decide +kernel
theorem dL_change_13 : decode cL_change 13 = .ok (.iload_n 3, 1) := by decide +kernel
theorem dL_change_14 : decode cL_change 14 = .ok (.ifCond .le 21, 3) := by decide +kernel
theorem dL_change_17 : decode cL_change 17 = .ok (.iload_n 2, 1) := by decide +kernel
theorem dL_change_18 : decode cL_change 18 = .ok (.iconst 5, 1) := by decide +kernel
theorem dL_change_19 : decode cL_change 19 = .ok (.irem, 1) := by decide +kernel
theorem dL_change_20 : decode cL_change 20 = .ok (.ifCond .le 15, 3) := by decide +kernel
theorem dL_change_23 : decode cL_change 23 = .ok (.aload_n 0, 1) := by decide +kernel
theorem dL_change_24 : decode cL_change 24 = .ok (.iload_n 2, 1) := by decide +kernel
theorem dL_change_25 : decode cL_change 25 = .ok (.iconst 5, 1) := by decide +kernel
theorem dL_change_26 : decode cL_change 26 = .ok (.idiv, 1) := by decide +kernel
theorem dL_change_27 : decode cL_change 27 = .ok (.iload_n 3, 1) := by decide +kernel
theorem dL_change_28 : decode cL_change 28 = .ok (.irem, 1) := by decide +kernel
theorem dL_change_29 : decode cL_change 29 = .ok (.invokevirtual 19, 3) := by decide +kernel
theorem dL_change_32 : decode cL_change 32 = .ok (.goto 10, 3) := by decide +kernel
theorem dL_change_35 : decode cL_change 35 = .ok (.iload_n 2, 1) := by decide +kernel
theorem dL_change_36 : decode cL_change 36 = .ok (.iconst 5, 1) := by decide +kernel
theorem dL_change_37 : decode cL_change 37 = .ok (.idiv, 1) := by decide +kernel
theorem dL_change_38 : decode cL_change 38 = .ok (.sipush 256, 3) := by decide +kernel
theorem dL_change_41 : decode cL_change 41 = .ok (.irem, 1) := by decide +kernel
theorem dL_change_42 : decode cL_change 42 = .ok (.istore 5, 2) := by decide +kernel
theorem dL_change_44 : decode cL_change 44 = .ok (.aload_n 0, 1) := by decide +kernel
theorem dL_change_45 : decode cL_change 45 = .ok (.iload 5, 2) := by decide +kernel
theorem dL_change_47 : decode cL_change 47 = .ok (.iconst 0, 1) := by decide +kernel
theorem dL_change_48 : decode cL_change 48 = .ok (.invokevirtual 22, 3) := by decide +kernel
theorem dL_change_51 : decode cL_change 51 = .ok (.istore 6, 2) := by decide +kernel
theorem dL_change_53 : decode cL_change 53 = .ok (.iload_n 1, 1) := by decide +kernel
theorem dL_change_54 : decode cL_change 54 = .ok (.ifCond .ne 47, 3) := by decide +kernel
theorem dL_change_57 : decode cL_change 57 = .ok (.aload_n 0, 1) := by decide +kernel
theorem dL_change_58 : decode cL_change 58 = .ok (.iload 5, 2) := by decide +kernel
theorem dL_change_60 : decode cL_change 60 = .ok (.invokevirtual 40, 3) := by decide +kernel
theorem dL_change_63 : decode cL_change 63 = .ok (.istore 7, 2) := by decide +kernel
theorem dL_change_65 : decode cL_change 65 = .ok (.iload 7, 2) := by decide +kernel
theorem dL_change_67 : decode cL_change 67 = .ok (.iload 6, 2) := by decide +kernel
theorem dL_change_69 : decode cL_change 69 = .ok (.ifCond .ge 7, 3) := by decide +kernel
theorem dL_change_72 : decode cL_change 72 = .ok (.iconst (-1), 1) := by decide +kernel
theorem dL_change_73 : decode cL_change 73 = .ok (.goto 6, 3) := by decide +kernel
theorem dL_change_76 : decode cL_change 76 = .ok (.iload_n 3, 1) := by decide +kernel
theorem dL_change_77 : decode cL_change 77 = .ok (.iconst 1, 1) := by decide +kernel
theorem dL_change_78 : decode cL_change 78 = .ok (.isub, 1) := by decide +kernel
theorem dL_change_79 : decode cL_change 79 = .ok (.if_icmp .ne 19, 3) := by decide +kernel
theorem dL_change_82 : decode cL_change 82 = .ok (.aload_n 0, 1) := by decide +kernel
theorem dL_change_83 : decode cL_change 83 = .ok (.iload 5, 2) := by decide +kernel
theorem dL_change_85 : decode cL_change 85 = .ok (.iconst 0, 1) := by decide +kernel
theorem dL_change_86 : decode cL_change 86 = .ok (.invokevirtual 22, 3) := by decide +kernel
theorem dL_change_89 : decode cL_change 89 = .ok (.iconst (-1), 1) := by decide +kernel
theorem dL_change_90 : decode cL_change 90 = .ok (.if_icmp .ne 8, 3) := by decide +kernel
theorem dL_change_93 : decode cL_change 93 = .ok (.iload 7, 2) := by decide +kernel
theorem dL_change_95 : decode cL_change 95 = .ok (.goto 5, 3) := by decide +kernel
theorem dL_change_98 : decode cL_change 98 = .ok (.bipush (-9), 2) := by decide +kernel
theorem dL_change_100 : decode cL_change 100 = .ok (.ireturn, 1) := by decide +kernel
theorem dL_change_101 : decode cL_change 101 = .ok (.iload_n 1, 1) := by decide +kernel
theorem dL_change_102 : decode cL_change 102 = .ok (.iconst 1, 1) := by decide +kernel
theorem dL_change_103 : decode cL_change 103 = .ok (.if_icmp .ne 67, 3) := by decide +kernel
theorem dL_change_106 : decode cL_change 106 = .ok (.aload_n 0, 1) := by decide +kernel
theorem dL_change_107 : decode cL_change 107 = .ok (.iload 5, 2) := by decide +kernel
theorem dL_change_109 : decode cL_change 109 = .ok (.invokevirtual 43, 3) := by decide +kernel
theorem dL_change_112 : decode cL_change 112 = .ok (.istore 7, 2) := by decide +kernel
theorem dL_change_114 : decode cL_change 114 = .ok (.iload 7, 2) := by decide +kernel
theorem dL_change_116 : decode cL_change 116 = .ok (.iload 6, 2) := by decide +kernel
theorem dL_change_118 : decode cL_change 118 = .ok (.ifCond .ge 7, 3) := by decide +kernel
theorem dL_change_121 : decode cL_change 121 = .ok (.iconst (-1), 1) := by decide +kernel
theorem dL_change_122 : decode cL_change 122 = .ok (.goto 17, 3) := by decide +kernel
theorem dL_change_125 : decode cL_change 125 = .ok (.iload 6, 2) := by decide +kernel
theorem dL_change_127 : decode cL_change 127 = .ok (.ifCond .ne 8, 3) := by decide +kernel
theorem dL_change_130 : decode cL_change 130 = .ok (.bipush (-5), 2) := by decide +kernel
theorem dL_change_132 : decode cL_change 132 = .ok (.goto 7, 3) := by decide +kernel
theorem dL_change_135 : decode cL_change 135 = .ok (.iload 4, 2) := by decide +kernel
theorem dL_change_137 : decode cL_change 137 = .ok (.iconst 1, 1) := by decide +kernel
theorem dL_change_138 : decode cL_change 138 = .ok (.isub, 1) := by decide +kernel
theorem dL_change_139 : decode cL_change 139 = .ok (.if_icmp .ne 28, 3) := by decide +kernel
theorem dL_change_142 : decode cL_change 142 = .ok (.aload_n 0, 1) := by decide +kernel
theorem dL_change_143 : decode cL_change 143 = .ok (.iload 5, 2) := by decide +kernel
theorem dL_change_145 : decode cL_change 145 = .ok (.iconst 0, 1) := by decide +kernel
theorem dL_change_146 : decode cL_change 146 = .ok (.invokevirtual 22, 3) := by decide +kernel
theorem dL_change_149 : decode cL_change 149 = .ok (.iload 6, 2) := by decide +kernel
theorem dL_change_151 : decode cL_change 151 = .ok (.ifCond .ge 7, 3) := by decide +kernel
theorem dL_change_154 : decode cL_change 154 = .ok (.iconst (-1), 1) := by decide +kernel
theorem dL_change_155 : decode cL_change 155 = .ok (.goto 4, 3) := by decide +kernel
theorem dL_change_158 : decode cL_change 158 = .ok (.iconst 0, 1) := by decide +kernel
theorem dL_change_159 : decode cL_change 159 = .ok (.if_icmp .ne 8, 3) := by decide +kernel
theorem dL_change_162 : decode cL_change 162 = .ok (.iload 7, 2) := by decide +kernel
theorem dL_change_164 : decode cL_change 164 = .ok (.goto 5, 3) := by decide +kernel
theorem dL_change_167 : decode cL_change 167 = .ok (.bipush (-9), 2) := by decide +kernel
theorem dL_change_169 : decode cL_change 169 = .ok (.ireturn, 1) := by decide +kernel
theorem dL_change_170 : decode cL_change 170 = .ok (.iload_n 1, 1) := by decide +kernel
theorem dL_change_171 : decode cL_change 171 = .ok (.iconst 2, 1) := by decide +kernel
theorem dL_change_172 : decode cL_change 172 = .ok (.if_icmp .ne 46, 3) := by decide +kernel
theorem dL_change_175 : decode cL_change 175 = .ok (.aload_n 0, 1) := by decide +kernel
theorem dL_change_176 : decode cL_change 176 = .ok (.invokevirtual 46, 3) := by decide +kernel
theorem dL_change_179 : decode cL_change 179 = .ok (.istore 7, 2) := by decide +kernel
theorem dL_change_181 : decode cL_change 181 = .ok (.iload 7, 2) := by decide +kernel
theorem dL_change_183 : decode cL_change 183 = .ok (.iload 4, 2) := by decide +kernel
theorem dL_change_185 : decode cL_change 185 = .ok (.iload_n 3, 1) := by decide +kernel
theorem dL_change_186 : decode cL_change 186 = .ok (.if_icmp .ne 8, 3) := by decide +kernel
theorem dL_change_189 : decode cL_change 189 = .ok (.bipush (-5), 2) := by decide +kernel
theorem dL_change_191 : decode cL_change 191 = .ok (.goto 7, 3) := by decide +kernel
theorem dL_change_194 : decode cL_change 194 = .ok (.iload_n 3, 1) := by decide +kernel
theorem dL_change_195 : decode cL_change 195 = .ok (.iload 4, 2) := by decide +kernel
theorem dL_change_197 : decode cL_change 197 = .ok (.isub, 1) := by decide +kernel
theorem dL_change_198 : decode cL_change 198 = .ok (.if_icmp .ne 17, 3) := by decide +kernel
theorem dL_change_201 : decode cL_change 201 = .ok (.aload_n 0, 1) := by decide +kernel
theorem dL_change_202 : decode cL_change 202 = .ok (.iconst 1, 1) := by decide +kernel
theorem dL_change_203 : decode cL_change 203 = .ok (.invokevirtual 13, 3) := by decide +kernel
theorem dL_change_206 : decode cL_change 206 = .ok (.iload_n 3, 1) := by decide +kernel
theorem dL_change_207 : decode cL_change 207 = .ok (.if_icmp .ne 8, 3) := by decide +kernel
theorem dL_change_210 : decode cL_change 210 = .ok (.iload 7, 2) := by decide +kernel
theorem dL_change_212 : decode cL_change 212 = .ok (.goto 5, 3) := by decide +kernel
theorem dL_change_215 : decode cL_change 215 = .ok (.bipush (-9), 2) := by decide +kernel
theorem dL_change_217 : decode cL_change 217 = .ok (.ireturn, 1) := by decide +kernel
theorem dL_change_218 : decode cL_change 218 = .ok (.aload_n 0, 1) := by decide +kernel
theorem dL_change_219 : decode cL_change 219 = .ok (.iload 5, 2) := by decide +kernel
theorem dL_change_221 : decode cL_change 221 = .ok (.iconst 1, 1) := by decide +kernel
theorem dL_change_222 : decode cL_change 222 = .ok (.invokevirtual 22, 3) := by decide +kernel
theorem dL_change_225 : decode cL_change 225 = .ok (.istore 7, 2) := by decide +kernel
theorem dL_change_227 : decode cL_change 227 = .ok (.iload_n 2, 1) := by decide +kernel
theorem dL_change_228 : decode cL_change 228 = .ok (.bipush 11, 2) := by decide +kernel
theorem dL_change_230 : decode cL_change 230 = .ok (.idiv, 1) := by decide +kernel
theorem dL_change_231 : decode cL_change 231 = .ok (.iconst 3, 1) := by decide +kernel
theorem dL_change_232 : decode cL_change 232 = .ok (.irem, 1) := by decide +kernel
theorem dL_change_233 : decode cL_change 233 = .ok (.ifCond .ne 14, 3) := by decide +kernel
theorem dL_change_236 : decode cL_change 236 = .ok (.iload_n 2, 1) := by decide +kernel
theorem dL_change_237 : decode cL_change 237 = .ok (.bipush 33, 2) := by decide +kernel
theorem dL_change_239 : decode cL_change 239 = .ok (.idiv, 1) := by decide +kernel
theorem dL_change_240 : decode cL_change 240 = .ok (.sipush 201, 3) := by decide +kernel
theorem dL_change_243 : decode cL_change 243 = .ok (.irem, 1) := by decide +kernel
theorem dL_change_244 : decode cL_change 244 = .ok (.goto 10, 3) := by decide +kernel
theorem dL_change_247 : decode cL_change 247 = .ok (.iload_n 2, 1) := by decide +kernel
theorem dL_change_248 : decode cL_change 248 = .ok (.bipush 33, 2) := by decide +kernel
theorem dL_change_250 : decode cL_change 250 = .ok (.idiv, 1) := by decide +kernel
theorem dL_change_251 : decode cL_change 251 = .ok (.bipush 8, 2) := by decide +kernel
theorem dL_change_253 : decode cL_change 253 = .ok (.irem, 1) := by decide +kernel
theorem dL_change_254 : decode cL_change 254 = .ok (.istore 8, 2) := by decide +kernel
theorem dL_change_256 : decode cL_change 256 = .ok (.aload_n 0, 1) := by decide +kernel
theorem dL_change_257 : decode cL_change 257 = .ok (.iload 5, 2) := by decide +kernel
theorem dL_change_259 : decode cL_change 259 = .ok (.iload 8, 2) := by decide +kernel
theorem dL_change_261 : decode cL_change 261 = .ok (.invokevirtual 50, 3) := by decide +kernel
theorem dL_change_264 : decode cL_change 264 = .ok (.istore 9, 2) := by decide +kernel
theorem dL_change_266 : decode cL_change 266 = .ok (.iload 9, 2) := by decide +kernel
theorem dL_change_268 : decode cL_change 268 = .ok (.iload 6, 2) := by decide +kernel
theorem dL_change_270 : decode cL_change 270 = .ok (.ifCond .ge 7, 3) := by decide +kernel
theorem dL_change_273 : decode cL_change 273 = .ok (.iconst (-1), 1) := by decide +kernel
theorem dL_change_274 : decode cL_change 274 = .ok (.goto 17, 3) := by decide +kernel
theorem dL_change_277 : decode cL_change 277 = .ok (.iload 7, 2) := by decide +kernel
theorem dL_change_279 : decode cL_change 279 = .ok (.iload 8, 2) := by decide +kernel
theorem dL_change_281 : decode cL_change 281 = .ok (.if_icmp .ne 8, 3) := by decide +kernel
theorem dL_change_284 : decode cL_change 284 = .ok (.bipush (-5), 2) := by decide +kernel
theorem dL_change_286 : decode cL_change 286 = .ok (.goto 5, 3) := by decide +kernel
theorem dL_change_289 : decode cL_change 289 = .ok (.iload 7, 2) := by decide +kernel
theorem dL_change_291 : decode cL_change 291 = .ok (.if_icmp .ne 25, 3) := by decide +kernel
theorem dL_change_294 : decode cL_change 294 = .ok (.iload 6, 2) := by decide +kernel
theorem dL_change_296 : decode cL_change 296 = .ok (.ifCond .lt 15, 3) := by decide +kernel
theorem dL_change_299 : decode cL_change 299 = .ok (.aload_n 0, 1) := by decide +kernel
theorem dL_change_300 : decode cL_change 300 = .ok (.iload 5, 2) := by decide +kernel
theorem dL_change_302 : decode cL_change 302 = .ok (.iconst 1, 1) := by decide +kernel
theorem dL_change_303 : decode cL_change 303 = .ok (.invokevirtual 22, 3) := by decide +kernel
theorem dL_change_306 : decode cL_change 306 = .ok (.iload 8, 2) := by decide +kernel
theorem dL_change_308 : decode cL_change 308 = .ok (.if_icmp .ne 8, 3) := by decide +kernel
theorem dL_change_311 : decode cL_change 311 = .ok (.iload 9, 2) := by decide +kernel
theorem dL_change_313 : decode cL_change 313 = .ok (.goto 5, 3) := by decide +kernel
theorem dL_change_316 : decode cL_change 316 = .ok (.bipush (-9), 2) := by decide +kernel
theorem dL_change_318 : decode cL_change 318 = .ok (.ireturn, 1) := by decide +kernel
theorem dL_act_0 : decode cL_act 0 = .ok (.iload_n 1, 1) := by decide +kernel
theorem dL_act_1 : decode cL_act 1 = .ok (.bipush 16, 2) := by decide +kernel
theorem dL_act_3 : decode cL_act 3 = .ok (.irem, 1) := by decide +kernel
theorem dL_act_4 : decode cL_act 4 = .ok (.istore_n 2, 1) := by decide +kernel
theorem dL_act_5 : decode cL_act 5 = .ok (.iload_n 1, 1) := by decide +kernel
theorem dL_act_6 : decode cL_act 6 = .ok (.bipush 16, 2) := by decide +kernel
theorem dL_act_8 : decode cL_act 8 = .ok (.idiv, 1) := by decide +kernel
theorem dL_act_9 : decode cL_act 9 = .ok (.istore_n 3, 1) := by decide +kernel
theorem dL_act_10 : decode cL_act 10 = .ok (.iload_n 2, 1) := by decide +kernel
theorem dL_act_11 : decode cL_act 11 = .ok (.iconst 5, 1) := by decide +kernel
theorem dL_act_12 : decode cL_act 12 = .ok (.if_icmp .ge 33, 3) := by decide +kernel
theorem dL_act_15 : decode cL_act 15 = .ok (.aload_n 0, 1) := by decide +kernel
theorem dL_act_16 : decode cL_act 16 = .ok (.iload_n 3, 1) := by decide +kernel
theorem dL_act_17 : decode cL_act 17 = .ok (.iconst 3, 1) := by decide +kernel
theorem dL_act_18 : decode cL_act 18 = .ok (.irem, 1) := by decide +kernel
theorem dL_act_19 : decode cL_act 19 = .ok (.ifCond .ne 15, 3) := by decide +kernel
theorem dL_act_22 : decode cL_act 22 = .ok (.iload_n 3, 1) := by decide +kernel
theorem dL_act_23 : decode cL_act 23 = .ok (.iconst 3, 1) := by decide +kernel
theorem dL_act_24 : decode cL_act 24 = .ok (.idiv, 1) := by decide +kernel
theorem dL_act_25 : decode cL_act 25 = .ok (.bipush 16, 2) := by decide +kernel
theorem dL_act_27 : decode cL_act 27 = .ok (.irem, 1) := by decide +kernel
theorem dL_act_28 : decode cL_act 28 = .ok (.bipush 8, 2) := by decide +kernel
theorem dL_act_30 : decode cL_act 30 = .ok (.imul, 1) := by decide +kernel
theorem dL_act_31 : decode cL_act 31 = .ok (.goto 10, 3) := by decide +kernel
theorem dL_act_34 : decode cL_act 34 = .ok (.iload_n 3, 1) := by decide +kernel
theorem dL_act_35 : decode cL_act 35 = .ok (.iconst 3, 1) := by decide +kernel
theorem dL_act_36 : decode cL_act 36 = .ok (.idiv, 1) := by decide +kernel
theorem dL_act_37 : decode cL_act 37 = .ok (.sipush 256, 3) := by decide +kernel
theorem dL_act_40 : decode cL_act 40 = .ok (.irem, 1) := by decide +kernel
theorem dL_act_41 : decode cL_act 41 = .ok (.invokestatic 92, 3) := by decide +kernel
theorem dL_act_44 : decode cL_act 44 = .ok (.ireturn, 1) := by decide +kernel
theorem dL_act_45 : decode cL_act 45 = .ok (.iload_n 2, 1) := by decide +kernel
theorem dL_act_46 : decode cL_act 46 = .ok (.bipush 9, 2) := by decide +kernel
theorem dL_act_48 : decode cL_act 48 = .ok (.if_icmp .ge 12, 3) := by decide +kernel
theorem dL_act_51 : decode cL_act 51 = .ok (.aload_n 0, 1) := by decide +kernel
theorem dL_act_52 : decode cL_act 52 = .ok (.iload_n 2, 1) := by decide +kernel
theorem dL_act_53 : decode cL_act 53 = .ok (.iconst 5, 1) := by decide +kernel
theorem dL_act_54 : decode cL_act 54 = .ok (.isub, 1) := by decide +kernel
theorem dL_act_55 : decode cL_act 55 = .ok (.iload_n 3, 1) := by decide +kernel
theorem dL_act_56 : decode cL_act 56 = .ok (.invokestatic 95, 3) := by decide +kernel
theorem dL_act_59 : decode cL_act 59 = .ok (.ireturn, 1) := by decide +kernel
theorem dL_act_60 : decode cL_act 60 = .ok (.iload_n 2, 1) := by decide +kernel
theorem dL_act_61 : decode cL_act 61 = .ok (.bipush 12, 2) := by decide +kernel
theorem dL_act_63 : decode cL_act 63 = .ok (.if_icmp .ge 65, 3) := by decide +kernel
theorem dL_act_66 : decode cL_act 66 = .ok (.iload_n 3, 1) := by decide +kernel
theorem dL_act_67 : decode cL_act 67 = .ok (.bipush 9, 2) := by decide +kernel
theorem dL_act_69 : decode cL_act 69 = .ok (.irem, 1) := by decide +kernel
theorem dL_act_70 : decode cL_act 70 = .ok (.istore 4, 2) := by decide +kernel
theorem dL_act_72 : decode cL_act 72 = .ok (.aload_n 0, 1) := by decide +kernel
theorem dL_act_73 : decode cL_act 73 = .ok (.iconst 0, 1) := by decide +kernel
theorem dL_act_74 : decode cL_act 74 = .ok (.invokevirtual 13, 3) := by decide +kernel
theorem dL_act_77 : decode cL_act 77 = .ok (.ifCond .le 26, 3) := by decide +kernel
theorem dL_act_80 : decode cL_act 80 = .ok (.iload_n 3, 1) := by decide +kernel
theorem dL_act_81 : decode cL_act 81 = .ok (.iconst 4, 1) := by decide +kernel
theorem dL_act_82 : decode cL_act 82 = .ok (.irem, 1) := by decide +kernel
theorem dL_act_83 : decode cL_act 83 = .ok (.ifCond .le 20, 3) := by decide +kernel
theorem dL_act_86 : decode cL_act 86 = .ok (.aload_n 0, 1) := by decide +kernel
theorem dL_act_87 : decode cL_act 87 = .ok (.iload_n 3, 1) := by decide +kernel
theorem dL_act_88 : decode cL_act 88 = .ok (.bipush 9, 2) := by decide +kernel
theorem dL_act_90 : decode cL_act 90 = .ok (.idiv, 1) := by decide +kernel
theorem dL_act_91 : decode cL_act 91 = .ok (.aload_n 0, 1) := by decide +kernel
theorem dL_act_92 : decode cL_act 92 = .ok (.iconst 0, 1) := by decide +kernel
theorem dL_act_93 : decode cL_act 93 = .ok (.invokevirtual 13, 3) := by decide +kernel
theorem dL_act_96 : decode cL_act 96 = .ok (.irem, 1) := by decide +kernel
theorem dL_act_97 : decode cL_act 97 = .ok (.invokevirtual 19, 3) := by decide +kernel
theorem dL_act_100 : decode cL_act 100 = .ok (.goto 11, 3) := by decide +kernel
theorem dL_act_103 : decode cL_act 103 = .ok (.iload_n 3, 1) := by decide +kernel
theorem dL_act_104 : decode cL_act 104 = .ok (.bipush 9, 2) := by decide +kernel
theorem dL_act_106 : decode cL_act 106 = .ok (.idiv, 1) := by decide +kernel
theorem dL_act_107 : decode cL_act 107 = .ok (.sipush 256, 3) := by decide +kernel
theorem dL_act_110 : decode cL_act 110 = .ok (.irem, 1) := by decide +kernel
theorem dL_act_111 : decode cL_act 111 = .ok (.istore 5, 2) := by decide +kernel
theorem dL_act_113 : decode cL_act 113 = .ok (.aload_n 0, 1) := by decide +kernel
theorem dL_act_114 : decode cL_act 114 = .ok (.iload 4, 2) := by decide +kernel
theorem dL_act_116 : decode cL_act 116 = .ok (.iload 5, 2) := by decide +kernel
theorem dL_act_118 : decode cL_act 118 = .ok (.bipush 8, 2) := by decide +kernel
theorem dL_act_120 : decode cL_act 120 = .ok (.iload 4, 2) := by decide +kernel
theorem dL_act_122 : decode cL_act 122 = .ok (.isub, 1) := by decide +kernel
theorem dL_act_123 : decode cL_act 123 = .ok (.ishr, 1) := by decide +kernel
theorem dL_act_124 : decode cL_act 124 = .ok (.invokestatic 99, 3) := by decide +kernel
theorem dL_act_127 : decode cL_act 127 = .ok (.ireturn, 1) := by decide +kernel
theorem dL_act_128 : decode cL_act 128 = .ok (.iload_n 2, 1) := by decide +kernel
theorem dL_act_129 : decode cL_act 129 = .ok (.bipush 12, 2) := by decide +kernel
theorem dL_act_131 : decode cL_act 131 = .ok (.if_icmp .ne 55, 3) := by decide +kernel
theorem dL_act_134 : decode cL_act 134 = .ok (.aload_n 0, 1) := by decide +kernel
theorem dL_act_135 : decode cL_act 135 = .ok (.bipush 7, 2) := by decide +kernel
theorem dL_act_137 : decode cL_act 137 = .ok (.invokevirtual 13, 3) := by decide +kernel
theorem dL_act_140 : decode cL_act 140 = .ok (.istore 4, 2) := by decide +kernel
theorem dL_act_142 : decode cL_act 142 = .ok (.aload_n 0, 1) := by decide +kernel
theorem dL_act_143 : decode cL_act 143 = .ok (.iload_n 3, 1) := by decide +kernel
theorem dL_act_144 : decode cL_act 144 = .ok (.iconst 2, 1) := by decide +kernel
theorem dL_act_145 : decode cL_act 145 = .ok (.irem, 1) := by decide +kernel
theorem dL_act_146 : decode cL_act 146 = .ok (.ifCond .ne 7, 3) := by decide +kernel
theorem dL_act_149 : decode cL_act 149 = .ok (.iconst 1, 1) := by decide +kernel
theorem dL_act_150 : decode cL_act 150 = .ok (.goto 4, 3) := by decide +kernel
theorem dL_act_153 : decode cL_act 153 = .ok (.iconst 0, 1) := by decide +kernel
theorem dL_act_154 : decode cL_act 154 = .ok (.invokevirtual 101, 3) := by decide +kernel
theorem dL_act_157 : decode cL_act 157 = .ok (.istore 5, 2) := by decide +kernel
theorem dL_act_159 : decode cL_act 159 = .ok (.iload 5, 2) := by decide +kernel
theorem dL_act_161 : decode cL_act 161 = .ok (.ifCond .lt 22, 3) := by decide +kernel
theorem dL_act_164 : decode cL_act 164 = .ok (.aload_n 0, 1) := by decide +kernel
theorem dL_act_165 : decode cL_act 165 = .ok (.bipush 7, 2) := by decide +kernel
theorem dL_act_167 : decode cL_act 167 = .ok (.invokevirtual 13, 3) := by decide +kernel
theorem dL_act_170 : decode cL_act 170 = .ok (.iload 4, 2) := by decide +kernel
theorem dL_act_172 : decode cL_act 172 = .ok (.iload 5, 2) := by decide +kernel
theorem dL_act_174 : decode cL_act 174 = .ok (.iadd, 1) := by decide +kernel
theorem dL_act_175 : decode cL_act 175 = .ok (.if_icmp .ne 8, 3) := by decide +kernel
theorem dL_act_178 : decode cL_act 178 = .ok (.iload 5, 2) := by decide +kernel
theorem dL_act_180 : decode cL_act 180 = .ok (.goto 5, 3) := by decide +kernel
theorem dL_act_183 : decode cL_act 183 = .ok (.bipush (-9), 2) := by decide +kernel
theorem dL_act_185 : decode cL_act 185 = .ok (.ireturn, 1) := by decide +kernel
theorem dL_act_186 : decode cL_act 186 = .ok (.iload_n 2, 1) := by decide +kernel
theorem dL_act_187 : decode cL_act 187 = .ok (.bipush 13, 2) := by decide +kernel
theorem dL_act_189 : decode cL_act 189 = .ok (.if_icmp .ne 83, 3) := by decide +kernel
theorem dL_act_192 : decode cL_act 192 = .ok (.aload_n 0, 1) := by decide +kernel
theorem dL_act_193 : decode cL_act 193 = .ok (.bipush 10, 2) := by decide +kernel
theorem dL_act_195 : decode cL_act 195 = .ok (.invokevirtual 13, 3) := by decide +kernel
theorem dL_act_198 : decode cL_act 198 = .ok (.istore 4, 2) := by decide +kernel
theorem dL_act_200 : decode cL_act 200 = .ok (.iload_n 3, 1) := by decide +kernel
theorem dL_act_201 : decode cL_act 201 = .ok (.iconst 2, 1) := by decide +kernel
theorem dL_act_202 : decode cL_act 202 = .ok (.irem, 1) := by decide +kernel
theorem dL_act_203 : decode cL_act 203 = .ok (.ifCond .ne 18, 3) := by decide +kernel
theorem dL_act_206 : decode cL_act 206 = .ok (.aload_n 0, 1) := by decide +kernel
theorem dL_act_207 : decode cL_act 207 = .ok (.iconst 1, 1) := by decide +kernel
theorem dL_act_208 : decode cL_act 208 = .ok (.iload_n 3, 1) := by decide +kernel
theorem dL_act_209 : decode cL_act 209 = .ok (.iconst 2, 1) := by decide +kernel
theorem dL_act_210 : decode cL_act 210 = .ok (.idiv, 1) := by decide +kernel
theorem dL_act_211 : decode cL_act 211 = .ok (.bipush 64, 2) := by decide +kernel
theorem dL_act_213 : decode cL_act 213 = .ok (.irem, 1) := by decide +kernel
theorem dL_act_214 : decode cL_act 214 = .ok (.iadd, 1) := by decide +kernel
theorem dL_act_215 : decode cL_act 215 = .ok (.invokevirtual 68, 3) := by decide +kernel
theorem dL_act_218 : decode cL_act 218 = .ok (.goto 15, 3) := by decide +kernel
theorem dL_act_221 : decode cL_act 221 = .ok (.aload_n 0, 1) := by decide +kernel
theorem dL_act_222 : decode cL_act 222 = .ok (.iconst 1, 1) := by decide +kernel
theorem dL_act_223 : decode cL_act 223 = .ok (.iload_n 3, 1) := by decide +kernel
theorem dL_act_224 : decode cL_act 224 = .ok (.iconst 2, 1) := by decide +kernel
theorem dL_act_225 : decode cL_act 225 = .ok (.idiv, 1) := by decide +kernel
theorem dL_act_226 : decode cL_act 226 = .ok (.bipush 64, 2) := by decide +kernel
theorem dL_act_228 : decode cL_act 228 = .ok (.irem, 1) := by decide +kernel
theorem dL_act_229 : decode cL_act 229 = .ok (.iadd, 1) := by decide +kernel
theorem dL_act_230 : decode cL_act 230 = .ok (.invokevirtual 65, 3) := by decide +kernel
theorem dL_act_233 : decode cL_act 233 = .ok (.istore 5, 2) := by decide +kernel
theorem dL_act_235 : decode cL_act 235 = .ok (.iload 5, 2) := by decide +kernel
theorem dL_act_237 : decode cL_act 237 = .ok (.ifCond .lt 32, 3) := by decide +kernel
theorem dL_act_240 : decode cL_act 240 = .ok (.aload_n 0, 1) := by decide +kernel
theorem dL_act_241 : decode cL_act 241 = .ok (.bipush 10, 2) := by decide +kernel
theorem dL_act_243 : decode cL_act 243 = .ok (.invokevirtual 13, 3) := by decide +kernel
theorem dL_act_246 : decode cL_act 246 = .ok (.iload 4, 2) := by decide +kernel
theorem dL_act_248 : decode cL_act 248 = .ok (.iload_n 3, 1) := by decide +kernel
theorem dL_act_249 : decode cL_act 249 = .ok (.iconst 2, 1) := by decide +kernel
theorem dL_act_250 : decode cL_act 250 = .ok (.irem, 1) := by decide +kernel
theorem dL_act_251 : decode cL_act 251 = .ok (.ifCond .ne 8, 3) := by decide +kernel
theorem dL_act_254 : decode cL_act 254 = .ok (.iload 5, 2) := by decide +kernel
theorem dL_act_256 : decode cL_act 256 = .ok (.goto 4, 3) := by decide +kernel
theorem dL_act_259 : decode cL_act 259 = .ok (.iconst 1, 1) := by decide +kernel
theorem dL_act_260 : decode cL_act 260 = .ok (.iadd, 1) := by decide +kernel
theorem dL_act_261 : decode cL_act 261 = .ok (.if_icmp .ne 8, 3) := by decide +kernel
theorem dL_act_264 : decode cL_act 264 = .ok (.iload 5, 2) := by decide +kernel
theorem dL_act_266 : decode cL_act 266 = .ok (.goto 5, 3) := by decide +kernel
theorem dL_act_269 : decode cL_act 269 = .ok (.bipush (-9), 2) := by decide +kernel
theorem dL_act_271 : decode cL_act 271 = .ok (.ireturn, 1) := by decide +kernel
theorem dL_act_272 : decode cL_act 272 = .ok (.iload_n 2, 1) := by decide +kernel
theorem dL_act_273 : decode cL_act 273 = .ok (.bipush 14, 2) := by decide +kernel
theorem dL_act_275 : decode cL_act 275 = .ok (.if_icmp .ne 80, 3) := by decide +kernel
theorem dL_act_278 : decode cL_act 278 = .ok (.iload_n 3, 1) := by decide +kernel
theorem dL_act_279 : decode cL_act 279 = .ok (.iconst 2, 1) := by decide +kernel
theorem dL_act_280 : decode cL_act 280 = .ok (.irem, 1) := by decide +kernel
theorem dL_act_281 : decode cL_act 281 = .ok (.istore 4, 2) := by decide +kernel
theorem dL_act_283 : decode cL_act 283 = .ok (.aload_n 0, 1) := by decide +kernel
theorem dL_act_284 : decode cL_act 284 = .ok (.bipush 11, 2) := by decide +kernel
theorem dL_act_286 : decode cL_act 286 = .ok (.iload 4, 2) := by decide +kernel
theorem dL_act_288 : decode cL_act 288 = .ok (.iadd, 1) := by decide +kernel
theorem dL_act_289 : decode cL_act 289 = .ok (.invokevirtual 13, 3) := by decide +kernel
theorem dL_act_292 : decode cL_act 292 = .ok (.istore 5, 2) := by decide +kernel
theorem dL_act_294 : decode cL_act 294 = .ok (.iload_n 3, 1) := by decide +kernel
theorem dL_act_295 : decode cL_act 295 = .ok (.iconst 2, 1) := by decide +kernel
theorem dL_act_296 : decode cL_act 296 = .ok (.idiv, 1) := by decide +kernel
theorem dL_act_297 : decode cL_act 297 = .ok (.iconst 2, 1) := by decide +kernel
theorem dL_act_298 : decode cL_act 298 = .ok (.iload 4, 2) := by decide +kernel
theorem dL_act_300 : decode cL_act 300 = .ok (.iadd, 1) := by decide +kernel
theorem dL_act_301 : decode cL_act 301 = .ok (.irem, 1) := by decide +kernel
theorem dL_act_302 : decode cL_act 302 = .ok (.istore 6, 2) := by decide +kernel
theorem dL_act_304 : decode cL_act 304 = .ok (.aload_n 0, 1) := by decide +kernel
theorem dL_act_305 : decode cL_act 305 = .ok (.iload 4, 2) := by decide +kernel
theorem dL_act_307 : decode cL_act 307 = .ok (.iload 6, 2) := by decide +kernel
theorem dL_act_309 : decode cL_act 309 = .ok (.invokevirtual 53, 3) := by decide +kernel
theorem dL_act_312 : decode cL_act 312 = .ok (.istore 7, 2) := by decide +kernel
theorem dL_act_314 : decode cL_act 314 = .ok (.iload 7, 2) := by decide +kernel
theorem dL_act_316 : decode cL_act 316 = .ok (.iload 5, 2) := by decide +kernel
theorem dL_act_318 : decode cL_act 318 = .ok (.iload 6, 2) := by decide +kernel
theorem dL_act_320 : decode cL_act 320 = .ok (.if_icmp .ne 8, 3) := by decide +kernel
theorem dL_act_323 : decode cL_act 323 = .ok (.bipush (-5), 2) := by decide +kernel
theorem dL_act_325 : decode cL_act 325 = .ok (.goto 5, 3) := by decide +kernel
theorem dL_act_328 : decode cL_act 328 = .ok (.iload 5, 2) := by decide +kernel
theorem dL_act_330 : decode cL_act 330 = .ok (.if_icmp .ne 22, 3) := by decide +kernel
theorem dL_act_333 : decode cL_act 333 = .ok (.aload_n 0, 1) := by decide +kernel
theorem dL_act_334 : decode cL_act 334 = .ok (.bipush 11, 2) := by decide +kernel
theorem dL_act_336 : decode cL_act 336 = .ok (.iload 4, 2) := by decide +kernel
theorem dL_act_338 : decode cL_act 338 = .ok (.iadd, 1) := by decide +kernel
theorem dL_act_339 : decode cL_act 339 = .ok (.invokevirtual 13, 3) := by decide +kernel
theorem dL_act_342 : decode cL_act 342 = .ok (.iload 6, 2) := by decide +kernel
theorem dL_act_344 : decode cL_act 344 = .ok (.if_icmp .ne 8, 3) := by decide +kernel
theorem dL_act_347 : decode cL_act 347 = .ok (.iload 7, 2) := by decide +kernel
theorem dL_act_349 : decode cL_act 349 = .ok (.goto 5, 3) := by decide +kernel
theorem dL_act_352 : decode cL_act 352 = .ok (.bipush (-9), 2) := by decide +kernel
theorem dL_act_354 : decode cL_act 354 = .ok (.ireturn, 1) := by decide +kernel
theorem dL_act_355 : decode cL_act 355 = .ok (.iload_n 3, 1) := by decide +kernel
theorem dL_act_356 : decode cL_act 356 = .ok (.iconst 2, 1) := by decide +kernel
theorem dL_act_357 : decode cL_act 357 = .ok (.irem, 1) := by decide +kernel
theorem dL_act_358 : decode cL_act 358 = .ok (.ifCond .ne 11, 3) := by decide +kernel
theorem dL_act_361 : decode cL_act 361 = .ok (.aload_n 0, 1) := by decide +kernel
theorem dL_act_362 : decode cL_act 362 = .ok (.iconst 3, 1) := by decide +kernel
theorem dL_act_363 : decode cL_act 363 = .ok (.invokevirtual 13, 3) := by decide +kernel
theorem dL_act_366 : decode cL_act 366 = .ok (.goto 9, 3) := by decide +kernel
theorem dL_act_369 : decode cL_act 369 = .ok (.aload_n 0, 1) := by decide +kernel
theorem dL_act_370 : decode cL_act 370 = .ok (.bipush 13, 2) := by decide +kernel
theorem dL_act_372 : decode cL_act 372 = .ok (.invokevirtual 13, 3) := by decide +kernel
theorem dL_act_375 : decode cL_act 375 = .ok (.istore 4, 2) := by decide +kernel
theorem dL_act_377 : decode cL_act 377 = .ok (.iload_n 3, 1) := by decide +kernel
theorem dL_act_378 : decode cL_act 378 = .ok (.iconst 2, 1) := by decide +kernel
theorem dL_act_379 : decode cL_act 379 = .ok (.irem, 1) := by decide +kernel
theorem dL_act_380 : decode cL_act 380 = .ok (.ifCond .ne 10, 3) := by decide +kernel
theorem dL_act_383 : decode cL_act 383 = .ok (.aload_n 0, 1) := by decide +kernel
theorem dL_act_384 : decode cL_act 384 = .ok (.invokevirtual 59, 3) := by decide +kernel
theorem dL_act_387 : decode cL_act 387 = .ok (.goto 8, 3) := by decide +kernel
theorem dL_act_390 : decode cL_act 390 = .ok (.aload_n 0, 1) := by decide +kernel
theorem dL_act_391 : decode cL_act 391 = .ok (.iload_n 3, 1) := by decide +kernel
theorem dL_act_392 : decode cL_act 392 = .ok (.invokevirtual 56, 3) := by decide +kernel
theorem dL_act_395 : decode cL_act 395 = .ok (.istore 5, 2) := by decide +kernel
theorem dL_act_397 : decode cL_act 397 = .ok (.iload_n 3, 1) := by decide +kernel
theorem dL_act_398 : decode cL_act 398 = .ok (.iconst 2, 1) := by decide +kernel
theorem dL_act_399 : decode cL_act 399 = .ok (.irem, 1) := by decide +kernel
theorem dL_act_400 : decode cL_act 400 = .ok (.ifCond .ne 38, 3) := by decide +kernel
theorem dL_act_403 : decode cL_act 403 = .ok (.iload 5, 2) := by decide +kernel
theorem dL_act_405 : decode cL_act 405 = .ok (.iload 4, 2) := by decide +kernel
theorem dL_act_407 : decode cL_act 407 = .ok (.ifCond .ne 8, 3) := by decide +kernel
theorem dL_act_410 : decode cL_act 410 = .ok (.bipush (-5), 2) := by decide +kernel
theorem dL_act_412 : decode cL_act 412 = .ok (.goto 5, 3) := by decide +kernel
theorem dL_act_415 : decode cL_act 415 = .ok (.iload 4, 2) := by decide +kernel
theorem dL_act_417 : decode cL_act 417 = .ok (.if_icmp .ne 16, 3) := by decide +kernel
theorem dL_act_420 : decode cL_act 420 = .ok (.aload_n 0, 1) := by decide +kernel
theorem dL_act_421 : decode cL_act 421 = .ok (.iconst 3, 1) := by decide +kernel
theorem dL_act_422 : decode cL_act 422 = .ok (.invokevirtual 13, 3) := by decide +kernel
theorem dL_act_425 : decode cL_act 425 = .ok (.ifCond .ne 8, 3) := by decide +kernel
theorem dL_act_428 : decode cL_act 428 = .ok (.iload 5, 2) := by decide +kernel
theorem dL_act_430 : decode cL_act 430 = .ok (.goto 43, 3) := by decide +kernel
theorem dL_act_433 : decode cL_act 433 = .ok (.bipush (-9), 2) := by decide +kernel
theorem dL_act_435 : decode cL_act 435 = .ok (.goto 38, 3) := by decide +kernel
theorem dL_act_438 : decode cL_act 438 = .ok (.iload 5, 2) := by decide +kernel
theorem dL_act_440 : decode cL_act 440 = .ok (.iload 4, 2) := by decide +kernel
theorem dL_act_442 : decode cL_act 442 = .ok (.iload_n 3, 1) := by decide +kernel
theorem dL_act_443 : decode cL_act 443 = .ok (.if_icmp .ne 8, 3) := by decide +kernel
theorem dL_act_446 : decode cL_act 446 = .ok (.bipush (-5), 2) := by decide +kernel
theorem dL_act_448 : decode cL_act 448 = .ok (.goto 5, 3) := by decide +kernel
theorem dL_act_451 : decode cL_act 451 = .ok (.iload 4, 2) := by decide +kernel
theorem dL_act_453 : decode cL_act 453 = .ok (.if_icmp .ne 18, 3) := by decide +kernel
theorem dL_act_456 : decode cL_act 456 = .ok (.aload_n 0, 1) := by decide +kernel
theorem dL_act_457 : decode cL_act 457 = .ok (.bipush 13, 2) := by decide +kernel
theorem dL_act_459 : decode cL_act 459 = .ok (.invokevirtual 13, 3) := by decide +kernel
theorem dL_act_462 : decode cL_act 462 = .ok (.iload_n 3, 1) := by decide +kernel
theorem dL_act_463 : decode cL_act 463 = .ok (.if_icmp .ne 8, 3) := by decide +kernel
theorem dL_act_466 : decode cL_act 466 = .ok (.iload 5, 2) := by decide +kernel
theorem dL_act_468 : decode cL_act 468 = .ok (.goto 5, 3) := by decide +kernel
theorem dL_act_471 : decode cL_act 471 = .ok (.bipush (-9), 2) := by decide +kernel
theorem dL_act_473 : decode cL_act 473 = .ok (.ireturn, 1) := by decide +kernel
theorem dL_law_0 : decode cL_law 0 = .ok (.new 14, 3) := by decide +kernel
theorem dL_law_3 : decode cL_law 3 = .ok (.dup, 1) := by decide +kernel
theorem dL_law_4 : decode cL_law 4 = .ok (.invokespecial 105, 3) := by decide +kernel
theorem dL_law_7 : decode cL_law 7 = .ok (.astore_n 1, 1) := by decide +kernel
theorem dL_law_8 : decode cL_law 8 = .ok (.aload_n 1, 1) := by decide +kernel
theorem dL_law_9 : decode cL_law 9 = .ok (.invokevirtual 106, 3) := by decide +kernel
theorem dL_law_12 : decode cL_law 12 = .ok (.bipush (-5), 2) := by decide +kernel
theorem dL_law_14 : decode cL_law 14 = .ok (.if_icmp .ne 78, 3) := by decide +kernel
theorem dL_law_17 : decode cL_law 17 = .ok (.aload_n 1, 1) := by decide +kernel
theorem dL_law_18 : decode cL_law 18 = .ok (.invokevirtual 109, 3) := by decide +kernel
theorem dL_law_21 : decode cL_law 21 = .ok (.bipush (-5), 2) := by decide +kernel
theorem dL_law_23 : decode cL_law 23 = .ok (.if_icmp .ne 69, 3) := by decide +kernel
theorem dL_law_26 : decode cL_law 26 = .ok (.aload_n 1, 1) := by decide +kernel
theorem dL_law_27 : decode cL_law 27 = .ok (.bipush 11, 2) := by decide +kernel
theorem dL_law_29 : decode cL_law 29 = .ok (.invokevirtual 13, 3) := by decide +kernel
theorem dL_law_32 : decode cL_law 32 = .ok (.iconst 1, 1) := by decide +kernel
theorem dL_law_33 : decode cL_law 33 = .ok (.if_icmp .ne 59, 3) := by decide +kernel
theorem dL_law_36 : decode cL_law 36 = .ok (.aload_n 1, 1) := by decide +kernel
theorem dL_law_37 : decode cL_law 37 = .ok (.bipush 12, 2) := by decide +kernel
theorem dL_law_39 : decode cL_law 39 = .ok (.invokevirtual 13, 3) := by decide +kernel
theorem dL_law_42 : decode cL_law 42 = .ok (.ifCond .ne 50, 3) := by decide +kernel
theorem dL_law_45 : decode cL_law 45 = .ok (.aload_n 1, 1) := by decide +kernel
theorem dL_law_46 : decode cL_law 46 = .ok (.bipush 13, 2) := by decide +kernel
theorem dL_law_48 : decode cL_law 48 = .ok (.invokevirtual 13, 3) := by decide +kernel
theorem dL_law_51 : decode cL_law 51 = .ok (.iconst 1, 1) := by decide +kernel
theorem dL_law_52 : decode cL_law 52 = .ok (.if_icmp .ne 40, 3) := by decide +kernel
theorem dL_law_55 : decode cL_law 55 = .ok (.aload_n 1, 1) := by decide +kernel
theorem dL_law_56 : decode cL_law 56 = .ok (.iconst 0, 1) := by decide +kernel
theorem dL_law_57 : decode cL_law 57 = .ok (.invokevirtual 19, 3) := by decide +kernel
theorem dL_law_60 : decode cL_law 60 = .ok (.bipush (-5), 2) := by decide +kernel
theorem dL_law_62 : decode cL_law 62 = .ok (.if_icmp .ne 30, 3) := by decide +kernel
theorem dL_law_65 : decode cL_law 65 = .ok (.aload_n 1, 1) := by decide +kernel
theorem dL_law_66 : decode cL_law 66 = .ok (.iconst 0, 1) := by decide +kernel
theorem dL_law_67 : decode cL_law 67 = .ok (.invokestatic 112, 3) := by decide +kernel
theorem dL_law_70 : decode cL_law 70 = .ok (.ifCond .eq 22, 3) := by decide +kernel
theorem dL_law_73 : decode cL_law 73 = .ok (.aload_n 1, 1) := by decide +kernel
theorem dL_law_74 : decode cL_law 74 = .ok (.iconst 1, 1) := by decide +kernel
theorem dL_law_75 : decode cL_law 75 = .ok (.invokestatic 112, 3) := by decide +kernel
theorem dL_law_78 : decode cL_law 78 = .ok (.ifCond .eq 14, 3) := by decide +kernel
theorem dL_law_81 : decode cL_law 81 = .ok (.aload_n 1, 1) := by decide +kernel
theorem dL_law_82 : decode cL_law 82 = .ok (.invokevirtual 115, 3) := by decide +kernel
theorem dL_law_85 : decode cL_law 85 = .ok (.ifCond .ne 7, 3) := by decide +kernel
theorem dL_law_88 : decode cL_law 88 = .ok (.iconst 1, 1) := by decide +kernel
theorem dL_law_89 : decode cL_law 89 = .ok (.goto 4, 3) := by decide +kernel
theorem dL_law_92 : decode cL_law 92 = .ok (.iconst 0, 1) := by decide +kernel
theorem dL_law_93 : decode cL_law 93 = .ok (.istore_n 2, 1) := by decide +kernel
theorem dL_law_94 : decode cL_law 94 = .ok (.aload_n 1, 1) := by decide +kernel
theorem dL_law_95 : decode cL_law 95 = .ok (.invokestatic 84, 3) := by decide +kernel
theorem dL_law_98 : decode cL_law 98 = .ok (.lstore_n 3, 1) := by decide +kernel
theorem dL_law_99 : decode cL_law 99 = .ok (.iconst 0, 1) := by decide +kernel
theorem dL_law_100 : decode cL_law 100 = .ok (.istore 5, 2) := by decide +kernel
theorem dL_law_102 : decode cL_law 102 = .ok (.iconst 0, 1) := by decide +kernel
theorem dL_law_103 : decode cL_law 103 = .ok (.istore 6, 2) := by decide +kernel
theorem dL_law_105 : decode cL_law 105 = .ok (.iload 6, 2) := by decide +kernel
theorem dL_law_107 : decode cL_law 107 = .ok (.bipush 64, 2) := by decide +kernel
theorem dL_law_109 : decode cL_law 109 = .ok (.if_icmp .ge 275, 3) := by decide +kernel
theorem dL_law_112 : decode cL_law 112 = .ok (.iload_n 2, 1) := by decide +kernel
theorem dL_law_113 : decode cL_law 113 = .ok (.ifCond .eq 271, 3) := by decide +kernel
theorem dL_law_116 : decode cL_law 116 = .ok (.aload_n 0, 1) := by decide +kernel
theorem dL_law_117 : decode cL_law 117 = .ok (.iload 6, 2) := by decide +kernel
theorem dL_law_119 : decode cL_law 119 = .ok (.invokestatic 118, 3) := by decide +kernel
theorem dL_law_122 : decode cL_law 122 = .ok (.istore 7, 2) := by decide +kernel
theorem dL_law_124 : decode cL_law 124 = .ok (.aload_n 1, 1) := by decide +kernel
theorem dL_law_125 : decode cL_law 125 = .ok (.invokestatic 84, 3) := by decide +kernel
theorem dL_law_128 : decode cL_law 128 = .ok (.lstore 8, 2) := by decide +kernel
theorem dL_law_130 : decode cL_law 130 = .ok (.aload_n 1, 1) := by decide +kernel
theorem dL_law_131 : decode cL_law 131 = .ok (.bipush 15, 2) := by decide +kernel
theorem dL_law_133 : decode cL_law 133 = .ok (.invokevirtual 13, 3) := by decide +kernel
theorem dL_law_136 : decode cL_law 136 = .ok (.istore 10, 2) := by decide +kernel
theorem dL_law_138 : decode cL_law 138 = .ok (.aload_n 1, 1) := by decide +kernel
theorem dL_law_139 : decode cL_law 139 = .ok (.iload 7, 2) := by decide +kernel
theorem dL_law_141 : decode cL_law 141 = .ok (.invokestatic 122, 3) := by decide +kernel
theorem dL_law_144 : decode cL_law 144 = .ok (.istore 11, 2) := by decide +kernel
theorem dL_law_146 : decode cL_law 146 = .ok (.aload_n 1, 1) := by decide +kernel
theorem dL_law_147 : decode cL_law 147 = .ok (.bipush 15, 2) := by decide +kernel
theorem dL_law_149 : decode cL_law 149 = .ok (.invokevirtual 13, 3) := by decide +kernel
theorem dL_law_152 : decode cL_law 152 = .ok (.istore 12, 2) := by decide +kernel
theorem dL_law_154 : decode cL_law 154 = .ok (.iload 11, 2) := by decide +kernel
theorem dL_law_156 : decode cL_law 156 = .ok (.bipush (-9), 2) := by decide +kernel
theorem dL_law_158 : decode cL_law 158 = .ok (.if_icmp .le 80, 3) := by decide +kernel
theorem dL_law_161 : decode cL_law 161 = .ok (.iload 11, 2) := by decide +kernel
theorem dL_law_163 : decode cL_law 163 = .ok (.ifCond .ge 23, 3) := by decide +kernel
theorem dL_law_166 : decode cL_law 166 = .ok (.iload 12, 2) := by decide +kernel
theorem dL_law_168 : decode cL_law 168 = .ok (.iload 10, 2) := by decide +kernel
theorem dL_law_170 : decode cL_law 170 = .ok (.if_icmp .ne 68, 3) := by decide +kernel
theorem dL_law_173 : decode cL_law 173 = .ok (.aload_n 1, 1) := by decide +kernel
theorem dL_law_174 : decode cL_law 174 = .ok (.invokestatic 84, 3) := by decide +kernel
theorem dL_law_177 : decode cL_law 177 = .ok (.lload 8, 2) := by decide +kernel
theorem dL_law_179 : decode cL_law 179 = .ok (.lcmp, 1) := by decide +kernel
theorem dL_law_180 : decode cL_law 180 = .ok (.ifCond .ne 58, 3) := by decide +kernel
theorem dL_law_183 : decode cL_law 183 = .ok (.goto 22, 3) := by decide +kernel
theorem dL_law_186 : decode cL_law 186 = .ok (.iload 12, 2) := by decide +kernel
theorem dL_law_188 : decode cL_law 188 = .ok (.iload 10, 2) := by decide +kernel
theorem dL_law_190 : decode cL_law 190 = .ok (.iconst 4, 1) := by decide +kernel
theorem dL_law_191 : decode cL_law 191 = .ok (.if_icmp .ge 10, 3) := by decide +kernel
theorem dL_law_194 : decode cL_law 194 = .ok (.iload 10, 2) := by decide +kernel
theorem dL_law_196 : decode cL_law 196 = .ok (.iconst 1, 1) := by decide +kernel
theorem dL_law_197 : decode cL_law 197 = .ok (.iadd, 1) := by decide +kernel
theorem dL_law_198 : decode cL_law 198 = .ok (.goto 4, 3) := by decide +kernel
theorem dL_law_201 : decode cL_law 201 = .ok (.iconst 4, 1) := by decide +kernel
theorem dL_law_202 : decode cL_law 202 = .ok (.if_icmp .ne 36, 3) := by decide +kernel
theorem dL_law_205 : decode cL_law 205 = .ok (.aload_n 1, 1) := by decide +kernel
theorem dL_law_206 : decode cL_law 206 = .ok (.invokestatic 125, 3) := by decide +kernel
theorem dL_law_209 : decode cL_law 209 = .ok (.ifCond .eq 29, 3) := by decide +kernel
theorem dL_law_212 : decode cL_law 212 = .ok (.iload 6, 2) := by decide +kernel
theorem dL_law_214 : decode cL_law 214 = .ok (.bipush 7, 2) := by decide +kernel
theorem dL_law_216 : decode cL_law 216 = .ok (.irem, 1) := by decide +kernel
theorem dL_law_217 : decode cL_law 217 = .ok (.bipush 6, 2) := by decide +kernel
theorem dL_law_219 : decode cL_law 219 = .ok (.if_icmp .ne 15, 3) := by decide +kernel
theorem dL_law_222 : decode cL_law 222 = .ok (.aload_n 1, 1) := by decide +kernel
theorem dL_law_223 : decode cL_law 223 = .ok (.iload 7, 2) := by decide +kernel
theorem dL_law_225 : decode cL_law 225 = .ok (.bipush 7, 2) := by decide +kernel
theorem dL_law_227 : decode cL_law 227 = .ok (.idiv, 1) := by decide +kernel
theorem dL_law_228 : decode cL_law 228 = .ok (.invokestatic 112, 3) := by decide +kernel
theorem dL_law_231 : decode cL_law 231 = .ok (.ifCond .eq 7, 3) := by decide +kernel
theorem dL_law_234 : decode cL_law 234 = .ok (.iconst 1, 1) := by decide +kernel
theorem dL_law_235 : decode cL_law 235 = .ok (.goto 4, 3) := by decide +kernel
theorem dL_law_238 : decode cL_law 238 = .ok (.iconst 0, 1) := by decide +kernel
theorem dL_law_239 : decode cL_law 239 = .ok (.istore_n 2, 1) := by decide +kernel
theorem dL_law_240 : decode cL_law 240 = .ok (.iload_n 2, 1) := by decide +kernel
theorem dL_law_241 : decode cL_law 241 = .ok (.ifCond .eq 53, 3) := by decide +kernel
theorem dL_law_244 : decode cL_law 244 = .ok (.iload 11, 2) := by decide +kernel
theorem dL_law_246 : decode cL_law 246 = .ok (.ifCond .lt 48, 3) := by decide +kernel
theorem dL_law_249 : decode cL_law 249 = .ok (.iload 7, 2) := by decide +kernel
theorem dL_law_251 : decode cL_law 251 = .ok (.bipush 17, 2) := by decide +kernel
theorem dL_law_253 : decode cL_law 253 = .ok (.idiv, 1) := by decide +kernel
theorem dL_law_254 : decode cL_law 254 = .ok (.iconst 4, 1) := by decide +kernel
theorem dL_law_255 : decode cL_law 255 = .ok (.irem, 1) := by decide +kernel
theorem dL_law_256 : decode cL_law 256 = .ok (.ifCond .ne 38, 3) := by decide +kernel
theorem dL_law_259 : decode cL_law 259 = .ok (.aload_n 1, 1) := by decide +kernel
theorem dL_law_260 : decode cL_law 260 = .ok (.invokevirtual 106, 3) := by decide +kernel
theorem dL_law_263 : decode cL_law 263 = .ok (.iload 10, 2) := by decide +kernel
theorem dL_law_265 : decode cL_law 265 = .ok (.iconst 4, 1) := by decide +kernel
theorem dL_law_266 : decode cL_law 266 = .ok (.if_icmp .ge 8, 3) := by decide +kernel
theorem dL_law_269 : decode cL_law 269 = .ok (.iload 10, 2) := by decide +kernel
theorem dL_law_271 : decode cL_law 271 = .ok (.goto 4, 3) := by decide +kernel
theorem dL_law_274 : decode cL_law 274 = .ok (.iconst 3, 1) := by decide +kernel
theorem dL_law_275 : decode cL_law 275 = .ok (.if_icmp .ne 17, 3) := by decide +kernel
theorem dL_law_278 : decode cL_law 278 = .ok (.aload_n 1, 1) := by decide +kernel
theorem dL_law_279 : decode cL_law 279 = .ok (.invokestatic 84, 3) := by decide +kernel
theorem dL_law_282 : decode cL_law 282 = .ok (.lload 8, 2) := by decide +kernel
theorem dL_law_284 : decode cL_law 284 = .ok (.lcmp, 1) := by decide +kernel
