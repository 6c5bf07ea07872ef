theorem dX12_init_241 : decode cX12_init 241 = .ok (.ldc 101, 2) := by decide +kernel
theorem dX12_init_243 : decode cX12_init 243 = .ok (.newarray .int, 2) := by decide +kernel
theorem dX12_init_245 : decode cX12_init 245 = .ok (.putfield 105, 3) := by decide +kernel
theorem dX12_init_248 : decode cX12_init 248 = .ok (.aload_n 0, 1) := by decide +kernel
theorem dX12_init_249 : decode cX12_init 249 = .ok (.bipush 8, 2) := by decide +kernel
theorem dX12_init_251 : decode cX12_init 251 = .ok (.newarray .int, 2) := by decide +kernel
theorem dX12_init_253 : decode cX12_init 253 = .ok (.putfield 108, 3) := by decide +kernel
theorem dX12_init_256 : decode cX12_init 256 = .ok (.aload_n 0, 1) := by decide +kernel
theorem dX12_init_257 : decode cX12_init 257 = .ok (.bipush 8, 2) := by decide +kernel
theorem dX12_init_259 : decode cX12_init 259 = .ok (.newarray .int, 2) := by decide +kernel
theorem dX12_init_261 : decode cX12_init 261 = .ok (.putfield 111, 3) := by decide +kernel
theorem dX12_init_264 : decode cX12_init 264 = .ok (.aload_n 0, 1) := by decide +kernel
theorem dX12_init_265 : decode cX12_init 265 = .ok (.iconst 4, 1) := by decide +kernel
theorem dX12_init_266 : decode cX12_init 266 = .ok (.newarray .int, 2) := by decide +kernel
theorem dX12_init_268 : decode cX12_init 268 = .ok (.putfield 114, 3) := by decide +kernel
theorem dX12_init_271 : decode cX12_init 271 = .ok (.aload_n 0, 1) := by decide +kernel
theorem dX12_init_272 : decode cX12_init 272 = .ok (.bipush 16, 2) := by decide +kernel
theorem dX12_init_274 : decode cX12_init 274 = .ok (.newarray .int, 2) := by decide +kernel
theorem dX12_init_276 : decode cX12_init 276 = .ok (.putfield 117, 3) := by decide +kernel
theorem dX12_init_279 : decode cX12_init 279 = .ok (.aload_n 0, 1) := by decide +kernel
theorem dX12_init_280 : decode cX12_init 280 = .ok (.bipush 64, 2) := by decide +kernel
theorem dX12_init_282 : decode cX12_init 282 = .ok (.newarray .boolean, 2) := by decide +kernel
theorem dX12_init_284 : decode cX12_init 284 = .ok (.putfield 120, 3) := by decide +kernel
theorem dX12_init_287 : decode cX12_init 287 = .ok (.aload_n 0, 1) := by decide +kernel
theorem dX12_init_288 : decode cX12_init 288 = .ok (.getfield 34, 3) := by decide +kernel
theorem dX12_init_291 : decode cX12_init 291 = .ok (.iconst 0, 1) := by decide +kernel
theorem dX12_init_292 : decode cX12_init 292 = .ok (.bipush 119, 2) := by decide +kernel
theorem dX12_init_294 : decode cX12_init 294 = .ok (.bipush 105, 2) := by decide +kernel
theorem dX12_init_296 : decode cX12_init 296 = .ok (.bipush 114, 2) := by decide +kernel
theorem dX12_init_298 : decode cX12_init 298 = .ok (.bipush 101, 2) := by decide +kernel
theorem dX12_init_300 : decode cX12_init 300 = .ok (.iconst 0, 1) := by decide +kernel
theorem dX12_init_301 : decode cX12_init 301 = .ok (.iconst 0, 1) := by decide +kernel
theorem dX12_init_302 : decode cX12_init 302 = .ok (.iconst 0, 1) := by decide +kernel
theorem dX12_init_303 : decode cX12_init 303 = .ok (.invokestatic 123, 3) := by decide +kernel
theorem dX12_init_306 : decode cX12_init 306 = .ok (.lastore, 1) := by decide +kernel
theorem dX12_init_307 : decode cX12_init 307 = .ok (.aload_n 0, 1) := by decide +kernel
theorem dX12_init_308 : decode cX12_init 308 = .ok (.getfield 34, 3) := by decide +kernel
theorem dX12_init_311 : decode cX12_init 311 = .ok (.iconst 1, 1) := by decide +kernel
theorem dX12_init_312 : decode cX12_init 312 = .ok (.bipush 103, 2) := by decide +kernel
theorem dX12_init_314 : decode cX12_init 314 = .ok (.bipush 97, 2) := by decide +kernel
theorem dX12_init_316 : decode cX12_init 316 = .ok (.bipush 116, 2) := by decide +kernel
theorem dX12_init_318 : decode cX12_init 318 = .ok (.bipush 101, 2) := by decide +kernel
theorem dX12_init_320 : decode cX12_init 320 = .ok (.iconst 0, 1) := by decide +kernel
theorem dX12_init_321 : decode cX12_init 321 = .ok (.iconst 0, 1) := by decide +kernel
theorem dX12_init_322 : decode cX12_init 322 = .ok (.iconst 0, 1) := by decide +kernel
theorem dX12_init_323 : decode cX12_init 323 = .ok (.invokestatic 123, 3) := by decide +kernel
theorem dX12_init_326 : decode cX12_init 326 = .ok (.lastore, 1) := by decide +kernel
theorem dX12_init_327 : decode cX12_init 327 = .ok (.aload_n 0, 1) := by decide +kernel
theorem dX12_init_328 : decode cX12_init 328 = .ok (.getfield 34, 3) := by decide +kernel
theorem dX12_init_331 : decode cX12_init 331 = .ok (.iconst 2, 1) := by decide +kernel
theorem dX12_init_332 : decode cX12_init 332 = .ok (.bipush 112, 2) := by decide +kernel
theorem dX12_init_334 : decode cX12_init 334 = .ok (.bipush 114, 2) := by decide +kernel
theorem dX12_init_336 : decode cX12_init 336 = .ok (.bipush 105, 2) := by decide +kernel
theorem dX12_init_338 : decode cX12_init 338 = .ok (.bipush 99, 2) := by decide +kernel
theorem dX12_init_340 : decode cX12_init 340 = .ok (.bipush 101, 2) := by decide +kernel
theorem dX12_init_342 : decode cX12_init 342 = .ok (.iconst 0, 1) := by decide +kernel
theorem dX12_init_343 : decode cX12_init 343 = .ok (.iconst 0, 1) := by decide +kernel
theorem dX12_init_344 : decode cX12_init 344 = .ok (.invokestatic 123, 3) := by decide +kernel
theorem dX12_init_347 : decode cX12_init 347 = .ok (.lastore, 1) := by decide +kernel
theorem dX12_init_348 : decode cX12_init 348 = .ok (.aload_n 0, 1) := by decide +kernel
theorem dX12_init_349 : decode cX12_init 349 = .ok (.getfield 34, 3) := by decide +kernel
theorem dX12_init_352 : decode cX12_init 352 = .ok (.iconst 3, 1) := by decide +kernel
theorem dX12_init_353 : decode cX12_init 353 = .ok (.bipush 116, 2) := by decide +kernel
theorem dX12_init_355 : decode cX12_init 355 = .ok (.bipush 97, 2) := by decide +kernel
theorem dX12_init_357 : decode cX12_init 357 = .ok (.bipush 98, 2) := by decide +kernel
theorem dX12_init_359 : decode cX12_init 359 = .ok (.bipush 108, 2) := by decide +kernel
theorem dX12_init_361 : decode cX12_init 361 = .ok (.bipush 101, 2) := by decide +kernel
theorem dX12_init_363 : decode cX12_init 363 = .ok (.iconst 0, 1) := by decide +kernel
theorem dX12_init_364 : decode cX12_init 364 = .ok (.iconst 0, 1) := by decide +kernel
theorem dX12_init_365 : decode cX12_init 365 = .ok (.invokestatic 123, 3) := by decide +kernel
theorem dX12_init_368 : decode cX12_init 368 = .ok (.lastore, 1) := by decide +kernel
theorem dX12_init_369 : decode cX12_init 369 = .ok (.aload_n 0, 1) := by decide +kernel
theorem dX12_init_370 : decode cX12_init 370 = .ok (.getfield 40, 3) := by decide +kernel
theorem dX12_init_373 : decode cX12_init 373 = .ok (.iconst 0, 1) := by decide +kernel
theorem dX12_init_374 : decode cX12_init 374 = .ok (.iconst 1, 1) := by decide +kernel
theorem dX12_init_375 : decode cX12_init 375 = .ok (.iastore, 1) := by decide +kernel
theorem dX12_init_376 : decode cX12_init 376 = .ok (.aload_n 0, 1) := by decide +kernel
theorem dX12_init_377 : decode cX12_init 377 = .ok (.getfield 40, 3) := by decide +kernel
theorem dX12_init_380 : decode cX12_init 380 = .ok (.iconst 1, 1) := by decide +kernel
theorem dX12_init_381 : decode cX12_init 381 = .ok (.iconst 1, 1) := by decide +kernel
theorem dX12_init_382 : decode cX12_init 382 = .ok (.iastore, 1) := by decide +kernel
theorem dX12_init_383 : decode cX12_init 383 = .ok (.aload_n 0, 1) := by decide +kernel
theorem dX12_init_384 : decode cX12_init 384 = .ok (.getfield 40, 3) := by decide +kernel
theorem dX12_init_387 : decode cX12_init 387 = .ok (.iconst 2, 1) := by decide +kernel
theorem dX12_init_388 : decode cX12_init 388 = .ok (.iconst 5, 1) := by decide +kernel
theorem dX12_init_389 : decode cX12_init 389 = .ok (.iastore, 1) := by decide +kernel
theorem dX12_init_390 : decode cX12_init 390 = .ok (.aload_n 0, 1) := by decide +kernel
theorem dX12_init_391 : decode cX12_init 391 = .ok (.getfield 40, 3) := by decide +kernel
theorem dX12_init_394 : decode cX12_init 394 = .ok (.iconst 3, 1) := by decide +kernel
theorem dX12_init_395 : decode cX12_init 395 = .ok (.bipush 13, 2) := by decide +kernel
theorem dX12_init_397 : decode cX12_init 397 = .ok (.iastore, 1) := by decide +kernel
theorem dX12_init_398 : decode cX12_init 398 = .ok (.return_, 1) := by decide +kernel
theorem dX12_is_0 : decode cX12_is 0 = .ok (.aload_n 0, 1) := by decide +kernel
theorem dX12_is_1 : decode cX12_is 1 = .ok (.getfield 165, 3) := by decide +kernel
theorem dX12_is_4 : decode cX12_is 4 = .ok (.ifCond .ne 20, 3) := by decide +kernel
theorem dX12_is_7 : decode cX12_is 7 = .ok (.aload_n 0, 1) := by decide +kernel
theorem dX12_is_8 : decode cX12_is 8 = .ok (.getfield 20, 3) := by decide +kernel
theorem dX12_is_11 : decode cX12_is 11 = .ok (.aload_n 0, 1) := by decide +kernel
theorem dX12_is_12 : decode cX12_is 12 = .ok (.getfield 168, 3) := by decide +kernel
theorem dX12_is_15 : decode cX12_is 15 = .ok (.iaload, 1) := by decide +kernel
theorem dX12_is_16 : decode cX12_is 16 = .ok (.iload_n 1, 1) := by decide +kernel
theorem dX12_is_17 : decode cX12_is 17 = .ok (.if_icmp .ne 7, 3) := by decide +kernel
theorem dX12_is_20 : decode cX12_is 20 = .ok (.iconst 1, 1) := by decide +kernel
theorem dX12_is_21 : decode cX12_is 21 = .ok (.goto 4, 3) := by decide +kernel
theorem dX12_is_25 : decode cX12_is 25 = .ok (.ireturn, 1) := by decide +kernel
theorem dX12_isFirst_0 : decode cX12_isFirst 0 = .ok (.iload_n 0, 1) := by decide +kernel
theorem dX12_isFirst_1 : decode cX12_isFirst 1 = .ok (.invokestatic 322, 3) := by decide +kernel
theorem dX12_isFirst_4 : decode cX12_isFirst 4 = .ok (.iload_n 1, 1) := by decide +kernel
theorem dX12_isFirst_5 : decode cX12_isFirst 5 = .ok (.invokestatic 322, 3) := by decide +kernel
theorem dX12_isFirst_8 : decode cX12_isFirst 8 = .ok (.if_icmp .eq 20, 3) := by decide +kernel
theorem dX12_isFirst_11 : decode cX12_isFirst 11 = .ok (.iload_n 0, 1) := by decide +kernel
theorem dX12_isFirst_12 : decode cX12_isFirst 12 = .ok (.invokestatic 322, 3) := by decide +kernel
theorem dX12_isFirst_15 : decode cX12_isFirst 15 = .ok (.iload_n 1, 1) := by decide +kernel
theorem dX12_isFirst_16 : decode cX12_isFirst 16 = .ok (.invokestatic 322, 3) := by decide +kernel
theorem dX12_isFirst_19 : decode cX12_isFirst 19 = .ok (.if_icmp .ge 7, 3) := by decide +kernel
theorem dX12_isFirst_26 : decode cX12_isFirst 26 = .ok (.iconst 0, 1) := by decide +kernel
theorem dX12_isFirst_27 : decode cX12_isFirst 27 = .ok (.ireturn, 1) := by decide +kernel
theorem dX12_isGate_0 : decode cX12_isGate 0 = .ok (.iload_n 1, 1) := by decide +kernel
theorem dX12_isGate_1 : decode cX12_isGate 1 = .ok (.iconst 0, 1) := by decide +kernel
theorem dX12_isGate_2 : decode cX12_isGate 2 = .ok (.aload_n 0, 1) := by decide +kernel
theorem dX12_isGate_3 : decode cX12_isGate 3 = .ok (.invokevirtual 244, 3) := by decide +kernel
theorem dX12_isGate_6 : decode cX12_isGate 6 = .ok (.iconst 1, 1) := by decide +kernel
theorem dX12_isGate_7 : decode cX12_isGate 7 = .ok (.isub, 1) := by decide +kernel
theorem dX12_isGate_8 : decode cX12_isGate 8 = .ok (.invokestatic 237, 3) := by decide +kernel
theorem dX12_isGate_11 : decode cX12_isGate 11 = .ok (.ireturn, 1) := by decide +kernel
theorem dX12_isRow_0 : decode cX12_isRow 0 = .ok (.iload_n 1, 1) := by decide +kernel
theorem dX12_isRow_1 : decode cX12_isRow 1 = .ok (.iconst 0, 1) := by decide +kernel
theorem dX12_isRow_2 : decode cX12_isRow 2 = .ok (.aload_n 0, 1) := by decide +kernel
theorem dX12_isRow_3 : decode cX12_isRow 3 = .ok (.invokevirtual 248, 3) := by decide +kernel
theorem dX12_isRow_6 : decode cX12_isRow 6 = .ok (.iconst 1, 1) := by decide +kernel
theorem dX12_isRow_7 : decode cX12_isRow 7 = .ok (.isub, 1) := by decide +kernel
theorem dX12_isRow_8 : decode cX12_isRow 8 = .ok (.invokestatic 237, 3) := by decide +kernel
theorem dX12_isRow_11 : decode cX12_isRow 11 = .ok (.ireturn, 1) := by decide +kernel
theorem dX12_laid_0 : decode cX12_laid 0 = .ok (.aload_n 0, 1) := by decide +kernel
theorem dX12_laid_1 : decode cX12_laid 1 = .ok (.getfield 209, 3) := by decide +kernel
theorem dX12_laid_4 : decode cX12_laid 4 = .ok (.ifCond .eq 19, 3) := by decide +kernel
theorem dX12_laid_23 : decode cX12_laid 23 = .ok (.iconst (-1), 1) := by decide +kernel
theorem dX12_laid_24 : decode cX12_laid 24 = .ok (.ireturn, 1) := by decide +kernel
theorem dX12_lays_0 : decode cX12_lays 0 = .ok (.bipush 24, 2) := by decide +kernel
theorem dX12_lays_2 : decode cX12_lays 2 = .ok (.istore_n 2, 1) := by decide +kernel
theorem dX12_lays_3 : decode cX12_lays 3 = .ok (.iload_n 2, 1) := by decide +kernel
theorem dX12_lays_4 : decode cX12_lays 4 = .ok (.ifCond .lt 32, 3) := by decide +kernel
theorem dX12_lays_7 : decode cX12_lays 7 = .ok (.aload_n 0, 1) := by decide +kernel
theorem dX12_lays_8 : decode cX12_lays 8 = .ok (.getfield 13, 3) := by decide +kernel
theorem dX12_lays_11 : decode cX12_lays 11 = .ok (.aload_n 0, 1) := by decide +kernel
theorem dX12_lays_12 : decode cX12_lays 12 = .ok (.getfield 127, 3) := by decide +kernel
theorem dX12_lays_15 : decode cX12_lays 15 = .ok (.iload_n 1, 1) := by decide +kernel
theorem dX12_lays_16 : decode cX12_lays 16 = .ok (.iload_n 2, 1) := by decide +kernel
theorem dX12_lays_17 : decode cX12_lays 17 = .ok (.ishr, 1) := by decide +kernel
theorem dX12_lays_18 : decode cX12_lays 18 = .ok (.i2b, 1) := by decide +kernel
theorem dX12_lays_19 : decode cX12_lays 19 = .ok (.bastore, 1) := by decide +kernel
theorem dX12_lays_20 : decode cX12_lays 20 = .ok (.aload_n 0, 1) := by decide +kernel
theorem dX12_lays_21 : decode cX12_lays 21 = .ok (.dup, 1) := by decide +kernel
theorem dX12_lays_22 : decode cX12_lays 22 = .ok (.getfield 127, 3) := by decide +kernel
theorem dX12_lays_25 : decode cX12_lays 25 = .ok (.iconst 1, 1) := by decide +kernel
theorem dX12_lays_26 : decode cX12_lays 26 = .ok (.iadd, 1) := by decide +kernel
theorem dX12_lays_27 : decode cX12_lays 27 = .ok (.putfield 127, 3) := by decide +kernel
theorem dX12_lays_30 : decode cX12_lays 30 = .ok (.iinc 2 (-8), 3) := by decide +kernel
theorem dX12_lays_33 : decode cX12_lays 33 = .ok (.goto (-30), 3) := by decide +kernel
theorem dX12_lays_36 : decode cX12_lays 36 = .ok (.return_, 1) := by decide +kernel
theorem dX12_laysBecome_0 : decode cX12_laysBecome 0 = .ok (.iload_n 1, 1) := by decide +kernel
theorem dX12_laysBecome_1 : decode cX12_laysBecome 1 = .ok (.ifCond .ne 7, 3) := by decide +kernel
theorem dX12_laysBecome_4 : decode cX12_laysBecome 4 = .ok (.aload_n 0, 1) := by decide +kernel
theorem dX12_laysBecome_5 : decode cX12_laysBecome 5 = .ok (.invokevirtual 282, 3) := by decide +kernel
theorem dX12_laysBecome_8 : decode cX12_laysBecome 8 = .ok (.iload_n 1, 1) := by decide +kernel
theorem dX12_laysBecome_9 : decode cX12_laysBecome 9 = .ok (.iconst 3, 1) := by decide +kernel
theorem dX12_laysBecome_10 : decode cX12_laysBecome 10 = .ok (.if_icmp .ne 49, 3) := by decide +kernel
theorem dX12_laysBecome_13 : decode cX12_laysBecome 13 = .ok (.aload_n 0, 1) := by decide +kernel
theorem dX12_laysBecome_14 : decode cX12_laysBecome 14 = .ok (.getfield 74, 3) := by decide +kernel
theorem dX12_laysBecome_17 : decode cX12_laysBecome 17 = .ok (.iconst 0, 1) := by decide +kernel
theorem dX12_laysBecome_18 : decode cX12_laysBecome 18 = .ok (.aload_n 0, 1) := by decide +kernel
theorem dX12_laysBecome_19 : decode cX12_laysBecome 19 = .ok (.invokevirtual 244, 3) := by decide +kernel
theorem dX12_laysBecome_22 : decode cX12_laysBecome 22 = .ok (.iastore, 1) := by decide +kernel
theorem dX12_laysBecome_23 : decode cX12_laysBecome 23 = .ok (.iconst 0, 1) := by decide +kernel
theorem dX12_laysBecome_24 : decode cX12_laysBecome 24 = .ok (.istore_n 2, 1) := by decide +kernel
theorem dX12_laysBecome_25 : decode cX12_laysBecome 25 = .ok (.iload_n 2, 1) := by decide +kernel
theorem dX12_laysBecome_26 : decode cX12_laysBecome 26 = .ok (.aload_n 0, 1) := by decide +kernel
theorem dX12_laysBecome_27 : decode cX12_laysBecome 27 = .ok (.invokevirtual 244, 3) := by decide +kernel
theorem dX12_laysBecome_30 : decode cX12_laysBecome 30 = .ok (.if_icmp .ge 29, 3) := by decide +kernel
theorem dX12_laysBecome_59 : decode cX12_laysBecome 59 = .ok (.iload_n 1, 1) := by decide +kernel
theorem dX12_laysBecome_60 : decode cX12_laysBecome 60 = .ok (.iconst 1, 1) := by decide +kernel
theorem dX12_laysBecome_61 : decode cX12_laysBecome 61 = .ok (.if_icmp .eq 8, 3) := by decide +kernel
theorem dX12_laysBecome_64 : decode cX12_laysBecome 64 = .ok (.iload_n 1, 1) := by decide +kernel
theorem dX12_laysBecome_65 : decode cX12_laysBecome 65 = .ok (.iconst 2, 1) := by decide +kernel
theorem dX12_laysBecome_66 : decode cX12_laysBecome 66 = .ok (.if_icmp .ne 29, 3) := by decide +kernel
theorem dX12_laysBecome_69 : decode cX12_laysBecome 69 = .ok (.aload_n 0, 1) := by decide +kernel
theorem dX12_laysBecome_70 : decode cX12_laysBecome 70 = .ok (.aload_n 0, 1) := by decide +kernel
theorem dX12_laysBecome_71 : decode cX12_laysBecome 71 = .ok (.getfield 52, 3) := by decide +kernel
theorem dX12_laysBecome_74 : decode cX12_laysBecome 74 = .ok (.invokevirtual 285, 3) := by decide +kernel
theorem dX12_laysBecome_77 : decode cX12_laysBecome 77 = .ok (.aload_n 0, 1) := by decide +kernel
theorem dX12_laysBecome_78 : decode cX12_laysBecome 78 = .ok (.aload_n 0, 1) := by decide +kernel
theorem dX12_laysBecome_79 : decode cX12_laysBecome 79 = .ok (.getfield 203, 3) := by decide +kernel
theorem dX12_laysBecome_82 : decode cX12_laysBecome 82 = .ok (.iload_n 1, 1) := by decide +kernel
theorem dX12_laysBecome_83 : decode cX12_laysBecome 83 = .ok (.iconst 2, 1) := by decide +kernel
theorem dX12_laysBecome_84 : decode cX12_laysBecome 84 = .ok (.if_icmp .ne 7, 3) := by decide +kernel
theorem dX12_laysBecome_87 : decode cX12_laysBecome 87 = .ok (.iconst 1, 1) := by decide +kernel
theorem dX12_laysBecome_88 : decode cX12_laysBecome 88 = .ok (.goto 4, 3) := by decide +kernel
theorem dX12_laysBecome_91 : decode cX12_laysBecome 91 = .ok (.iconst 0, 1) := by decide +kernel
theorem dX12_laysBecome_92 : decode cX12_laysBecome 92 = .ok (.invokevirtual 289, 3) := by decide +kernel
theorem dX12_laysBecome_95 : decode cX12_laysBecome 95 = .ok (.iload_n 1, 1) := by decide +kernel
theorem dX12_laysBecome_96 : decode cX12_laysBecome 96 = .ok (.iconst 4, 1) := by decide +kernel
theorem dX12_laysBecome_97 : decode cX12_laysBecome 97 = .ok (.if_icmp .ne 7, 3) := by decide +kernel
theorem dX12_laysBecome_100 : decode cX12_laysBecome 100 = .ok (.aload_n 0, 1) := by decide +kernel
theorem dX12_laysBecome_101 : decode cX12_laysBecome 101 = .ok (.invokevirtual 293, 3) := by decide +kernel
theorem dX12_laysBecome_104 : decode cX12_laysBecome 104 = .ok (.iload_n 1, 1) := by decide +kernel
theorem dX12_laysBecome_105 : decode cX12_laysBecome 105 = .ok (.ifCond .eq 8, 3) := by decide +kernel
theorem dX12_laysBecome_108 : decode cX12_laysBecome 108 = .ok (.iload_n 1, 1) := by decide +kernel
theorem dX12_laysBecome_109 : decode cX12_laysBecome 109 = .ok (.iconst 3, 1) := by decide +kernel
theorem dX12_laysBecome_110 : decode cX12_laysBecome 110 = .ok (.if_icmp .ne 4, 3) := by decide +kernel
theorem dX12_laysBecome_113 : decode cX12_laysBecome 113 = .ok (.return_, 1) := by decide +kernel
theorem dX12_laysBecome_114 : decode cX12_laysBecome 114 = .ok (.aload_n 0, 1) := by decide +kernel
theorem dX12_laysBecome_115 : decode cX12_laysBecome 115 = .ok (.getfield 74, 3) := by decide +kernel
theorem dX12_laysBecome_118 : decode cX12_laysBecome 118 = .ok (.iconst 0, 1) := by decide +kernel
theorem dX12_laysBecome_119 : decode cX12_laysBecome 119 = .ok (.aload_n 0, 1) := by decide +kernel
theorem dX12_laysBecome_120 : decode cX12_laysBecome 120 = .ok (.getfield 296, 3) := by decide +kernel
theorem dX12_laysBecome_123 : decode cX12_laysBecome 123 = .ok (.iastore, 1) := by decide +kernel
theorem dX12_laysBecome_124 : decode cX12_laysBecome 124 = .ok (.iconst 0, 1) := by decide +kernel
theorem dX12_laysBecome_125 : decode cX12_laysBecome 125 = .ok (.istore_n 2, 1) := by decide +kernel
theorem dX12_laysBecome_126 : decode cX12_laysBecome 126 = .ok (.iload_n 2, 1) := by decide +kernel
theorem dX12_laysBecome_127 : decode cX12_laysBecome 127 = .ok (.aload_n 0, 1) := by decide +kernel
theorem dX12_laysBecome_128 : decode cX12_laysBecome 128 = .ok (.getfield 296, 3) := by decide +kernel
theorem dX12_laysBecome_131 : decode cX12_laysBecome 131 = .ok (.if_icmp .ge 36, 3) := by decide +kernel
theorem dX12_laysBecome_167 : decode cX12_laysBecome 167 = .ok (.return_, 1) := by decide +kernel
theorem dX12_laysFirst_0 : decode cX12_laysFirst 0 = .ok (.aload_n 0, 1) := by decide +kernel
theorem dX12_laysFirst_1 : decode cX12_laysFirst 1 = .ok (.invokevirtual 369, 3) := by decide +kernel
theorem dX12_laysFirst_4 : decode cX12_laysFirst 4 = .ok (.aload_n 0, 1) := by decide +kernel
theorem dX12_laysFirst_5 : decode cX12_laysFirst 5 = .ok (.aload_n 0, 1) := by decide +kernel
theorem dX12_laysFirst_6 : decode cX12_laysFirst 6 = .ok (.getfield 52, 3) := by decide +kernel
theorem dX12_laysFirst_9 : decode cX12_laysFirst 9 = .ok (.invokevirtual 285, 3) := by decide +kernel
theorem dX12_laysFirst_12 : decode cX12_laysFirst 12 = .ok (.aload_n 0, 1) := by decide +kernel
theorem dX12_laysFirst_13 : decode cX12_laysFirst 13 = .ok (.iconst 0, 1) := by decide +kernel
theorem dX12_laysFirst_14 : decode cX12_laysFirst 14 = .ok (.putfield 296, 3) := by decide +kernel
theorem dX12_laysFirst_17 : decode cX12_laysFirst 17 = .ok (.aload_n 0, 1) := by decide +kernel
theorem dX12_laysFirst_18 : decode cX12_laysFirst 18 = .ok (.invokevirtual 372, 3) := by decide +kernel
theorem dX12_laysFirst_21 : decode cX12_laysFirst 21 = .ok (.istore_n 1, 1) := by decide +kernel
theorem dX12_laysFirst_22 : decode cX12_laysFirst 22 = .ok (.iload_n 1, 1) := by decide +kernel
theorem dX12_laysFirst_23 : decode cX12_laysFirst 23 = .ok (.ifCond .le 169, 3) := by decide +kernel
theorem dX12_laysFirst_192 : decode cX12_laysFirst 192 = .ok (.return_, 1) := by decide +kernel
theorem dX12_laysFound_0 : decode cX12_laysFound 0 = .ok (.iconst 1, 1) := by decide +kernel
theorem dX12_laysFound_1 : decode cX12_laysFound 1 = .ok (.iload_n 1, 1) := by decide +kernel
theorem dX12_laysFound_2 : decode cX12_laysFound 2 = .ok (.ishl, 1) := by decide +kernel
theorem dX12_laysFound_3 : decode cX12_laysFound 3 = .ok (.istore_n 3, 1) := by decide +kernel
theorem dX12_laysFound_4 : decode cX12_laysFound 4 = .ok (.aload_n 0, 1) := by decide +kernel
theorem dX12_laysFound_5 : decode cX12_laysFound 5 = .ok (.iconst 0, 1) := by decide +kernel
theorem dX12_laysFound_6 : decode cX12_laysFound 6 = .ok (.putfield 347, 3) := by decide +kernel
theorem dX12_laysFound_9 : decode cX12_laysFound 9 = .ok (.aload_n 0, 1) := by decide +kernel
theorem dX12_laysFound_10 : decode cX12_laysFound 10 = .ok (.iconst 0, 1) := by decide +kernel
theorem dX12_laysFound_11 : decode cX12_laysFound 11 = .ok (.putfield 350, 3) := by decide +kernel
theorem dX12_laysFound_14 : decode cX12_laysFound 14 = .ok (.iconst 0, 1) := by decide +kernel
theorem dX12_laysFound_15 : decode cX12_laysFound 15 = .ok (.istore 4, 2) := by decide +kernel
theorem dX12_laysFound_17 : decode cX12_laysFound 17 = .ok (.iload 4, 2) := by decide +kernel
theorem dX12_laysFound_19 : decode cX12_laysFound 19 = .ok (.iload_n 3, 1) := by decide +kernel
theorem dX12_laysFound_20 : decode cX12_laysFound 20 = .ok (.if_icmp .ge 190, 3) := by decide +kernel
theorem dX12_laysFound_23 : decode cX12_laysFound 23 = .ok (.aload_n 0, 1) := by decide +kernel
theorem dX12_laysFound_24 : decode cX12_laysFound 24 = .ok (.getfield 68, 3) := by decide +kernel
theorem dX12_laysFound_27 : decode cX12_laysFound 27 = .ok (.iload 4, 2) := by decide +kernel
theorem dX12_laysFound_29 : decode cX12_laysFound 29 = .ok (.iaload, 1) := by decide +kernel
theorem dX12_laysFound_30 : decode cX12_laysFound 30 = .ok (.istore 5, 2) := by decide +kernel
theorem dX12_laysFound_32 : decode cX12_laysFound 32 = .ok (.iconst 0, 1) := by decide +kernel
theorem dX12_laysFound_33 : decode cX12_laysFound 33 = .ok (.istore 6, 2) := by decide +kernel
theorem dX12_laysFound_35 : decode cX12_laysFound 35 = .ok (.aload_n 0, 1) := by decide +kernel
theorem dX12_laysFound_36 : decode cX12_laysFound 36 = .ok (.getfield 68, 3) := by decide +kernel
theorem dX12_laysFound_39 : decode cX12_laysFound 39 = .ok (.iload 6, 2) := by decide +kernel
theorem dX12_laysFound_41 : decode cX12_laysFound 41 = .ok (.iaload, 1) := by decide +kernel
theorem dX12_laysFound_42 : decode cX12_laysFound 42 = .ok (.iload 4, 2) := by decide +kernel
theorem dX12_laysFound_44 : decode cX12_laysFound 44 = .ok (.if_icmp .eq 9, 3) := by decide +kernel
theorem dX12_laysFound_53 : decode cX12_laysFound 53 = .ok (.iload_n 2, 1) := by decide +kernel
theorem dX12_laysFound_54 : decode cX12_laysFound 54 = .ok (.ifCond .eq 26, 3) := by decide +kernel
theorem dX12_laysFound_57 : decode cX12_laysFound 57 = .ok (.iload 4, 2) := by decide +kernel
theorem dX12_laysFound_59 : decode cX12_laysFound 59 = .ok (.iload 6, 2) := by decide +kernel
theorem dX12_laysFound_61 : decode cX12_laysFound 61 = .ok (.ixor, 1) := by decide +kernel
theorem dX12_laysFound_62 : decode cX12_laysFound 62 = .ok (.invokestatic 322, 3) := by decide +kernel
theorem dX12_laysFound_65 : decode cX12_laysFound 65 = .ok (.iload 4, 2) := by decide +kernel
theorem dX12_laysFound_67 : decode cX12_laysFound 67 = .ok (.iload 5, 2) := by decide +kernel
theorem dX12_laysFound_69 : decode cX12_laysFound 69 = .ok (.ixor, 1) := by decide +kernel
theorem dX12_laysFound_70 : decode cX12_laysFound 70 = .ok (.invokestatic 322, 3) := by decide +kernel
theorem dX12_laysFound_73 : decode cX12_laysFound 73 = .ok (.if_icmp .ge 7, 3) := by decide +kernel
theorem dX12_laysFound_80 : decode cX12_laysFound 80 = .ok (.iconst 0, 1) := by decide +kernel
theorem dX12_laysFound_81 : decode cX12_laysFound 81 = .ok (.istore 7, 2) := by decide +kernel
theorem dX12_laysFound_83 : decode cX12_laysFound 83 = .ok (.iload 7, 2) := by decide +kernel
theorem dX12_laysFound_85 : decode cX12_laysFound 85 = .ok (.ifCond .eq 8, 3) := by decide +kernel
theorem dX12_laysFound_93 : decode cX12_laysFound 93 = .ok (.iload 5, 2) := by decide +kernel
theorem dX12_laysFound_95 : decode cX12_laysFound 95 = .ok (.istore 8, 2) := by decide +kernel
theorem dX12_laysFound_97 : decode cX12_laysFound 97 = .ok (.iconst 0, 1) := by decide +kernel
theorem dX12_laysFound_98 : decode cX12_laysFound 98 = .ok (.istore 9, 2) := by decide +kernel
theorem dX12_laysFound_100 : decode cX12_laysFound 100 = .ok (.iload 9, 2) := by decide +kernel
theorem dX12_laysFound_102 : decode cX12_laysFound 102 = .ok (.iload_n 1, 1) := by decide +kernel
theorem dX12_laysFound_103 : decode cX12_laysFound 103 = .ok (.if_icmp .ge 44, 3) := by decide +kernel
theorem dX12_laysFound_147 : decode cX12_laysFound 147 = .ok (.iconst 0, 1) := by decide +kernel
theorem dX12_laysFound_148 : decode cX12_laysFound 148 = .ok (.istore 9, 2) := by decide +kernel
theorem dX12_laysFound_150 : decode cX12_laysFound 150 = .ok (.iload 9, 2) := by decide +kernel
theorem dX12_laysFound_152 : decode cX12_laysFound 152 = .ok (.iload_n 1, 1) := by decide +kernel
theorem dX12_laysFound_153 : decode cX12_laysFound 153 = .ok (.if_icmp .ge 51, 3) := by decide +kernel
theorem dX12_laysFound_204 : decode cX12_laysFound 204 = .ok (.iinc 4 1, 3) := by decide +kernel
theorem dX12_laysFound_207 : decode cX12_laysFound 207 = .ok (.goto (-190), 3) := by decide +kernel
theorem dX12_laysFound_210 : decode cX12_laysFound 210 = .ok (.aload_n 0, 1) := by decide +kernel
theorem dX12_laysFound_211 : decode cX12_laysFound 211 = .ok (.iconst 0, 1) := by decide +kernel
theorem dX12_laysFound_212 : decode cX12_laysFound 212 = .ok (.putfield 296, 3) := by decide +kernel
theorem dX12_laysFound_215 : decode cX12_laysFound 215 = .ok (.iconst 0, 1) := by decide +kernel
theorem dX12_laysFound_216 : decode cX12_laysFound 216 = .ok (.istore 4, 2) := by decide +kernel
theorem dX12_laysFound_218 : decode cX12_laysFound 218 = .ok (.iload 4, 2) := by decide +kernel
theorem dX12_laysFound_220 : decode cX12_laysFound 220 = .ok (.aload_n 0, 1) := by decide +kernel
theorem dX12_laysFound_221 : decode cX12_laysFound 221 = .ok (.getfield 347, 3) := by decide +kernel
theorem dX12_laysFound_224 : decode cX12_laysFound 224 = .ok (.if_icmp .ge 27, 3) := by decide +kernel
theorem dX12_laysFound_251 : decode cX12_laysFound 251 = .ok (.aload_n 0, 1) := by decide +kernel
theorem dX12_laysFound_252 : decode cX12_laysFound 252 = .ok (.getfield 350, 3) := by decide +kernel
theorem dX12_laysFound_255 : decode cX12_laysFound 255 = .ok (.iconst 1, 1) := by decide +kernel
theorem dX12_laysFound_256 : decode cX12_laysFound 256 = .ok (.isub, 1) := by decide +kernel
theorem dX12_laysFound_257 : decode cX12_laysFound 257 = .ok (.istore 4, 2) := by decide +kernel
theorem dX12_laysFound_259 : decode cX12_laysFound 259 = .ok (.iload 4, 2) := by decide +kernel
theorem dX12_laysFound_261 : decode cX12_laysFound 261 = .ok (.ifCond .lt 27, 3) := by decide +kernel
theorem dX12_laysFound_288 : decode cX12_laysFound 288 = .ok (.return_, 1) := by decide +kernel
theorem dX12_laysLevels_0 : decode cX12_laysLevels 0 = .ok (.iconst 0, 1) := by decide +kernel
theorem dX12_laysLevels_1 : decode cX12_laysLevels 1 = .ok (.istore_n 1, 1) := by decide +kernel
theorem dX12_laysLevels_2 : decode cX12_laysLevels 2 = .ok (.iconst 0, 1) := by decide +kernel
theorem dX12_laysLevels_3 : decode cX12_laysLevels 3 = .ok (.istore_n 2, 1) := by decide +kernel
theorem dX12_laysLevels_4 : decode cX12_laysLevels 4 = .ok (.iload_n 2, 1) := by decide +kernel
theorem dX12_laysLevels_5 : decode cX12_laysLevels 5 = .ok (.aload_n 0, 1) := by decide +kernel
theorem dX12_laysLevels_6 : decode cX12_laysLevels 6 = .ok (.invokevirtual 244, 3) := by decide +kernel
theorem dX12_laysLevels_9 : decode cX12_laysLevels 9 = .ok (.if_icmp .ge 97, 3) := by decide +kernel
theorem dX12_laysLevels_106 : decode cX12_laysLevels 106 = .ok (.iload_n 1, 1) := by decide +kernel
theorem dX12_laysLevels_107 : decode cX12_laysLevels 107 = .ok (.ireturn, 1) := by decide +kernel
theorem dX12_laysOrder_0 : decode cX12_laysOrder 0 = .ok (.iconst 0, 1) := by decide +kernel
theorem dX12_laysOrder_1 : decode cX12_laysOrder 1 = .ok (.istore_n 2, 1) := by decide +kernel
theorem dX12_laysOrder_2 : decode cX12_laysOrder 2 = .ok (.iload_n 2, 1) := by decide +kernel
theorem dX12_laysOrder_3 : decode cX12_laysOrder 3 = .ok (.aload_n 0, 1) := by decide +kernel
theorem dX12_laysOrder_4 : decode cX12_laysOrder 4 = .ok (.invokevirtual 248, 3) := by decide +kernel
theorem dX12_laysOrder_7 : decode cX12_laysOrder 7 = .ok (.if_icmp .ge 48, 3) := by decide +kernel
theorem dX12_laysOrder_10 : decode cX12_laysOrder 10 = .ok (.aload_n 0, 1) := by decide +kernel
theorem dX12_laysOrder_11 : decode cX12_laysOrder 11 = .ok (.getfield 68, 3) := by decide +kernel
theorem dX12_laysOrder_14 : decode cX12_laysOrder 14 = .ok (.iload_n 2, 1) := by decide +kernel
theorem dX12_laysOrder_15 : decode cX12_laysOrder 15 = .ok (.iload_n 2, 1) := by decide +kernel
theorem dX12_laysOrder_16 : decode cX12_laysOrder 16 = .ok (.iastore, 1) := by decide +kernel
theorem dX12_laysOrder_17 : decode cX12_laysOrder 17 = .ok (.iconst 0, 1) := by decide +kernel
theorem dX12_laysOrder_18 : decode cX12_laysOrder 18 = .ok (.istore_n 3, 1) := by decide +kernel
theorem dX12_laysOrder_19 : decode cX12_laysOrder 19 = .ok (.iload_n 3, 1) := by decide +kernel
theorem dX12_laysOrder_20 : decode cX12_laysOrder 20 = .ok (.aload_n 1, 1) := by decide +kernel
theorem dX12_laysOrder_21 : decode cX12_laysOrder 21 = .ok (.iconst 0, 1) := by decide +kernel
theorem dX12_laysOrder_22 : decode cX12_laysOrder 22 = .ok (.iaload, 1) := by decide +kernel
theorem dX12_laysOrder_23 : decode cX12_laysOrder 23 = .ok (.if_icmp .ge 26, 3) := by decide +kernel
theorem dX12_laysOrder_49 : decode cX12_laysOrder 49 = .ok (.iinc 2 1, 3) := by decide +kernel
theorem dX12_laysOrder_52 : decode cX12_laysOrder 52 = .ok (.goto (-50), 3) := by decide +kernel
theorem dX12_laysOrder_55 : decode cX12_laysOrder 55 = .ok (.return_, 1) := by decide +kernel
theorem dX12_laysPlace_0 : decode cX12_laysPlace 0 = .ok (.iload_n 1, 1) := by decide +kernel
theorem dX12_laysPlace_1 : decode cX12_laysPlace 1 = .ok (.istore_n 3, 1) := by decide +kernel
theorem dX12_laysPlace_2 : decode cX12_laysPlace 2 = .ok (.iload_n 2, 1) := by decide +kernel
theorem dX12_laysPlace_3 : decode cX12_laysPlace 3 = .ok (.iconst 1, 1) := by decide +kernel
theorem dX12_laysPlace_4 : decode cX12_laysPlace 4 = .ok (.isub, 1) := by decide +kernel
theorem dX12_laysPlace_5 : decode cX12_laysPlace 5 = .ok (.istore 4, 2) := by decide +kernel
theorem dX12_laysPlace_7 : decode cX12_laysPlace 7 = .ok (.iload 4, 2) := by decide +kernel
theorem dX12_laysPlace_9 : decode cX12_laysPlace 9 = .ok (.ifCond .lt 75, 3) := by decide +kernel
theorem dX12_laysPlace_12 : decode cX12_laysPlace 12 = .ok (.aload_n 0, 1) := by decide +kernel
theorem dX12_laysPlace_13 : decode cX12_laysPlace 13 = .ok (.getfield 108, 3) := by decide +kernel
theorem dX12_laysPlace_16 : decode cX12_laysPlace 16 = .ok (.iload 4, 2) := by decide +kernel
theorem dX12_laysPlace_18 : decode cX12_laysPlace 18 = .ok (.iload_n 3, 1) := by decide +kernel
theorem dX12_laysPlace_19 : decode cX12_laysPlace 19 = .ok (.iload_n 2, 1) := by decide +kernel
theorem dX12_laysPlace_20 : decode cX12_laysPlace 20 = .ok (.iload 4, 2) := by decide +kernel
theorem dX12_laysPlace_22 : decode cX12_laysPlace 22 = .ok (.isub, 1) := by decide +kernel
theorem dX12_laysPlace_23 : decode cX12_laysPlace 23 = .ok (.irem, 1) := by decide +kernel
theorem dX12_laysPlace_24 : decode cX12_laysPlace 24 = .ok (.iastore, 1) := by decide +kernel
theorem dX12_laysPlace_25 : decode cX12_laysPlace 25 = .ok (.iload_n 3, 1) := by decide +kernel
theorem dX12_laysPlace_26 : decode cX12_laysPlace 26 = .ok (.iload_n 2, 1) := by decide +kernel
theorem dX12_laysPlace_27 : decode cX12_laysPlace 27 = .ok (.iload 4, 2) := by decide +kernel
theorem dX12_laysPlace_29 : decode cX12_laysPlace 29 = .ok (.isub, 1) := by decide +kernel
theorem dX12_laysPlace_30 : decode cX12_laysPlace 30 = .ok (.idiv, 1) := by decide +kernel
theorem dX12_laysPlace_31 : decode cX12_laysPlace 31 = .ok (.istore_n 3, 1) := by decide +kernel
theorem dX12_laysPlace_32 : decode cX12_laysPlace 32 = .ok (.iload 4, 2) := by decide +kernel
theorem dX12_laysPlace_34 : decode cX12_laysPlace 34 = .ok (.iconst 1, 1) := by decide +kernel
theorem dX12_laysPlace_35 : decode cX12_laysPlace 35 = .ok (.iadd, 1) := by decide +kernel
theorem dX12_laysPlace_36 : decode cX12_laysPlace 36 = .ok (.istore 5, 2) := by decide +kernel
theorem dX12_laysPlace_38 : decode cX12_laysPlace 38 = .ok (.iload 5, 2) := by decide +kernel
theorem dX12_laysPlace_40 : decode cX12_laysPlace 40 = .ok (.iload_n 2, 1) := by decide +kernel
theorem dX12_laysPlace_41 : decode cX12_laysPlace 41 = .ok (.if_icmp .ge 37, 3) := by decide +kernel
theorem dX12_laysPlace_78 : decode cX12_laysPlace 78 = .ok (.iinc 4 (-1), 3) := by decide +kernel
theorem dX12_laysPlace_81 : decode cX12_laysPlace 81 = .ok (.goto (-74), 3) := by decide +kernel
theorem dX12_laysPlace_84 : decode cX12_laysPlace 84 = .ok (.return_, 1) := by decide +kernel
theorem dX12_laysShrunk_0 : decode cX12_laysShrunk 0 = .ok (.iconst 0, 1) := by decide +kernel
theorem dX12_laysShrunk_1 : decode cX12_laysShrunk 1 = .ok (.istore_n 1, 1) := by decide +kernel
theorem dX12_laysShrunk_2 : decode cX12_laysShrunk 2 = .ok (.iload_n 1, 1) := by decide +kernel
theorem dX12_laysShrunk_3 : decode cX12_laysShrunk 3 = .ok (.bipush 49, 2) := by decide +kernel
theorem dX12_laysShrunk_5 : decode cX12_laysShrunk 5 = .ok (.if_icmp .ge 21, 3) := by decide +kernel
theorem dX12_laysShrunk_8 : decode cX12_laysShrunk 8 = .ok (.aload_n 0, 1) := by decide +kernel
theorem dX12_laysShrunk_9 : decode cX12_laysShrunk 9 = .ok (.getfield 74, 3) := by decide +kernel
theorem dX12_laysShrunk_12 : decode cX12_laysShrunk 12 = .ok (.iload_n 1, 1) := by decide +kernel
theorem dX12_laysShrunk_13 : decode cX12_laysShrunk 13 = .ok (.aload_n 0, 1) := by decide +kernel
theorem dX12_laysShrunk_14 : decode cX12_laysShrunk 14 = .ok (.getfield 52, 3) := by decide +kernel
theorem dX12_laysShrunk_17 : decode cX12_laysShrunk 17 = .ok (.iload_n 1, 1) := by decide +kernel
theorem dX12_laysShrunk_18 : decode cX12_laysShrunk 18 = .ok (.iaload, 1) := by decide +kernel
theorem dX12_laysShrunk_19 : decode cX12_laysShrunk 19 = .ok (.iastore, 1) := by decide +kernel
theorem dX12_laysShrunk_20 : decode cX12_laysShrunk 20 = .ok (.iinc 1 1, 3) := by decide +kernel
theorem dX12_laysShrunk_23 : decode cX12_laysShrunk 23 = .ok (.goto (-21), 3) := by decide +kernel
theorem dX12_laysShrunk_26 : decode cX12_laysShrunk 26 = .ok (.iconst 1, 1) := by decide +kernel
theorem dX12_laysShrunk_27 : decode cX12_laysShrunk 27 = .ok (.istore_n 1, 1) := by decide +kernel
theorem dX12_laysShrunk_28 : decode cX12_laysShrunk 28 = .ok (.iload_n 1, 1) := by decide +kernel
theorem dX12_laysShrunk_29 : decode cX12_laysShrunk 29 = .ok (.ifCond .eq 36, 3) := by decide +kernel
theorem dX12_laysShrunk_32 : decode cX12_laysShrunk 32 = .ok (.aload_n 0, 1) := by decide +kernel
theorem dX12_laysShrunk_33 : decode cX12_laysShrunk 33 = .ok (.iconst 1, 1) := by decide +kernel
theorem dX12_laysShrunk_34 : decode cX12_laysShrunk 34 = .ok (.invokevirtual 334, 3) := by decide +kernel
theorem dX12_laysShrunk_37 : decode cX12_laysShrunk 37 = .ok (.ifCond .ne 19, 3) := by decide +kernel
theorem dX12_laysShrunk_40 : decode cX12_laysShrunk 40 = .ok (.aload_n 0, 1) := by decide +kernel
theorem dX12_laysShrunk_41 : decode cX12_laysShrunk 41 = .ok (.iconst 2, 1) := by decide +kernel
theorem dX12_laysShrunk_42 : decode cX12_laysShrunk 42 = .ok (.invokevirtual 334, 3) := by decide +kernel
theorem dX12_laysShrunk_45 : decode cX12_laysShrunk 45 = .ok (.ifCond .ne 11, 3) := by decide +kernel
theorem dX12_laysShrunk_48 : decode cX12_laysShrunk 48 = .ok (.aload_n 0, 1) := by decide +kernel
theorem dX12_laysShrunk_49 : decode cX12_laysShrunk 49 = .ok (.iconst 3, 1) := by decide +kernel
theorem dX12_laysShrunk_50 : decode cX12_laysShrunk 50 = .ok (.invokevirtual 334, 3) := by decide +kernel
theorem dX12_laysShrunk_53 : decode cX12_laysShrunk 53 = .ok (.ifCond .eq 7, 3) := by decide +kernel
theorem dX12_laysShrunk_60 : decode cX12_laysShrunk 60 = .ok (.iconst 0, 1) := by decide +kernel
theorem dX12_laysShrunk_61 : decode cX12_laysShrunk 61 = .ok (.istore_n 1, 1) := by decide +kernel
theorem dX12_laysShrunk_62 : decode cX12_laysShrunk 62 = .ok (.goto (-34), 3) := by decide +kernel
theorem dX12_laysShrunk_65 : decode cX12_laysShrunk 65 = .ok (.return_, 1) := by decide +kernel
theorem dX12_laysTable_0 : decode cX12_laysTable 0 = .ok (.aload_n 0, 1) := by decide +kernel
theorem dX12_laysTable_1 : decode cX12_laysTable 1 = .ok (.getfield 98, 3) := by decide +kernel
theorem dX12_laysTable_4 : decode cX12_laysTable 4 = .ok (.aload_n 0, 1) := by decide +kernel
theorem dX12_laysTable_5 : decode cX12_laysTable 5 = .ok (.getfield 203, 3) := by decide +kernel
theorem dX12_laysTable_8 : decode cX12_laysTable 8 = .ok (.if_icmp .ne 4, 3) := by decide +kernel
theorem dX12_laysTable_12 : decode cX12_laysTable 12 = .ok (.aload_n 0, 1) := by decide +kernel
theorem dX12_laysTable_13 : decode cX12_laysTable 13 = .ok (.aload_n 0, 1) := by decide +kernel
theorem dX12_laysTable_14 : decode cX12_laysTable 14 = .ok (.getfield 203, 3) := by decide +kernel
theorem dX12_laysTable_17 : decode cX12_laysTable 17 = .ok (.putfield 98, 3) := by decide +kernel
theorem dX12_laysTable_20 : decode cX12_laysTable 20 = .ok (.iconst 0, 1) := by decide +kernel
theorem dX12_laysTable_21 : decode cX12_laysTable 21 = .ok (.istore_n 1, 1) := by decide +kernel
theorem dX12_laysTable_22 : decode cX12_laysTable 22 = .ok (.iload_n 1, 1) := by decide +kernel
theorem dX12_laysTable_23 : decode cX12_laysTable 23 = .ok (.ldc 101, 2) := by decide +kernel
theorem dX12_laysTable_25 : decode cX12_laysTable 25 = .ok (.if_icmp .ge 17, 3) := by decide +kernel
theorem dX12_laysTable_28 : decode cX12_laysTable 28 = .ok (.aload_n 0, 1) := by decide +kernel
theorem dX12_laysTable_29 : decode cX12_laysTable 29 = .ok (.getfield 102, 3) := by decide +kernel
theorem dX12_laysTable_32 : decode cX12_laysTable 32 = .ok (.iload_n 1, 1) := by decide +kernel
theorem dX12_laysTable_33 : decode cX12_laysTable 33 = .ok (.bipush 99, 2) := by decide +kernel
theorem dX12_laysTable_35 : decode cX12_laysTable 35 = .ok (.iastore, 1) := by decide +kernel
theorem dX12_laysTable_36 : decode cX12_laysTable 36 = .ok (.iinc 1 1, 3) := by decide +kernel
theorem dX12_laysTable_39 : decode cX12_laysTable 39 = .ok (.goto (-17), 3) := by decide +kernel
theorem dX12_laysTable_42 : decode cX12_laysTable 42 = .ok (.iconst 0, 1) := by decide +kernel
theorem dX12_laysTable_43 : decode cX12_laysTable 43 = .ok (.istore_n 1, 1) := by decide +kernel
theorem dX12_laysTable_44 : decode cX12_laysTable 44 = .ok (.iload_n 1, 1) := by decide +kernel
theorem dX12_laysTable_45 : decode cX12_laysTable 45 = .ok (.aload_n 0, 1) := by decide +kernel
theorem dX12_laysTable_46 : decode cX12_laysTable 46 = .ok (.invokevirtual 248, 3) := by decide +kernel
theorem dX12_laysTable_49 : decode cX12_laysTable 49 = .ok (.if_icmp .ge 16, 3) := by decide +kernel
theorem dX12_laysTable_52 : decode cX12_laysTable 52 = .ok (.aload_n 0, 1) := by decide +kernel
theorem dX12_laysTable_53 : decode cX12_laysTable 53 = .ok (.getfield 111, 3) := by decide +kernel
theorem dX12_laysTable_56 : decode cX12_laysTable 56 = .ok (.iload_n 1, 1) := by decide +kernel
theorem dX12_laysTable_57 : decode cX12_laysTable 57 = .ok (.iload_n 1, 1) := by decide +kernel
theorem dX12_laysTable_58 : decode cX12_laysTable 58 = .ok (.iastore, 1) := by decide +kernel
theorem dX12_laysTable_59 : decode cX12_laysTable 59 = .ok (.iinc 1 1, 3) := by decide +kernel
theorem dX12_laysTable_62 : decode cX12_laysTable 62 = .ok (.goto (-18), 3) := by decide +kernel
theorem dX12_laysTable_65 : decode cX12_laysTable 65 = .ok (.aload_n 0, 1) := by decide +kernel
theorem dX12_laysTable_66 : decode cX12_laysTable 66 = .ok (.getfield 105, 3) := by decide +kernel
theorem dX12_laysTable_69 : decode cX12_laysTable 69 = .ok (.iconst 0, 1) := by decide +kernel
theorem dX12_laysTable_70 : decode cX12_laysTable 70 = .ok (.aload_n 0, 1) := by decide +kernel
theorem dX12_laysTable_71 : decode cX12_laysTable 71 = .ok (.aload_n 0, 1) := by decide +kernel
theorem dX12_laysTable_72 : decode cX12_laysTable 72 = .ok (.invokevirtual 248, 3) := by decide +kernel
theorem dX12_laysTable_75 : decode cX12_laysTable 75 = .ok (.invokevirtual 363, 3) := by decide +kernel
theorem dX12_laysTable_78 : decode cX12_laysTable 78 = .ok (.iastore, 1) := by decide +kernel
theorem dX12_laysTable_79 : decode cX12_laysTable 79 = .ok (.aload_n 0, 1) := by decide +kernel
theorem dX12_laysTable_80 : decode cX12_laysTable 80 = .ok (.getfield 102, 3) := by decide +kernel
theorem dX12_laysTable_83 : decode cX12_laysTable 83 = .ok (.aload_n 0, 1) := by decide +kernel
theorem dX12_laysTable_84 : decode cX12_laysTable 84 = .ok (.getfield 105, 3) := by decide +kernel
theorem dX12_laysTable_87 : decode cX12_laysTable 87 = .ok (.iconst 0, 1) := by decide +kernel
theorem dX12_laysTable_88 : decode cX12_laysTable 88 = .ok (.iaload, 1) := by decide +kernel
theorem dX12_laysTable_89 : decode cX12_laysTable 89 = .ok (.iconst 0, 1) := by decide +kernel
theorem dX12_laysTable_90 : decode cX12_laysTable 90 = .ok (.iastore, 1) := by decide +kernel
theorem dX12_laysTable_91 : decode cX12_laysTable 91 = .ok (.iconst 1, 1) := by decide +kernel
theorem dX12_laysTable_92 : decode cX12_laysTable 92 = .ok (.istore_n 1, 1) := by decide +kernel
theorem dX12_laysTable_93 : decode cX12_laysTable 93 = .ok (.iconst 0, 1) := by decide +kernel
theorem dX12_laysTable_94 : decode cX12_laysTable 94 = .ok (.istore_n 2, 1) := by decide +kernel
theorem dX12_laysTable_95 : decode cX12_laysTable 95 = .ok (.iload_n 2, 1) := by decide +kernel
theorem dX12_laysTable_96 : decode cX12_laysTable 96 = .ok (.iload_n 1, 1) := by decide +kernel
theorem dX12_laysTable_97 : decode cX12_laysTable 97 = .ok (.if_icmp .ge 169, 3) := by decide +kernel
theorem dX12_laysTable_100 : decode cX12_laysTable 100 = .ok (.aload_n 0, 1) := by decide +kernel
theorem dX12_laysTable_101 : decode cX12_laysTable 101 = .ok (.aload_n 0, 1) := by decide +kernel
theorem dX12_laysTable_102 : decode cX12_laysTable 102 = .ok (.getfield 105, 3) := by decide +kernel
theorem dX12_laysTable_105 : decode cX12_laysTable 105 = .ok (.iload_n 2, 1) := by decide +kernel
theorem dX12_laysTable_106 : decode cX12_laysTable 106 = .ok (.iaload, 1) := by decide +kernel
theorem dX12_laysTable_107 : decode cX12_laysTable 107 = .ok (.aload_n 0, 1) := by decide +kernel
theorem dX12_laysTable_108 : decode cX12_laysTable 108 = .ok (.invokevirtual 248, 3) := by decide +kernel
theorem dX12_laysTable_111 : decode cX12_laysTable 111 = .ok (.invokevirtual 366, 3) := by decide +kernel
theorem dX12_laysTable_114 : decode cX12_laysTable 114 = .ok (.iconst 0, 1) := by decide +kernel
theorem dX12_laysTable_115 : decode cX12_laysTable 115 = .ok (.istore_n 3, 1) := by decide +kernel
theorem dX12_laysTable_116 : decode cX12_laysTable 116 = .ok (.iload_n 3, 1) := by decide +kernel
theorem dX12_laysTable_117 : decode cX12_laysTable 117 = .ok (.aload_n 0, 1) := by decide +kernel
theorem dX12_laysTable_118 : decode cX12_laysTable 118 = .ok (.getfield 203, 3) := by decide +kernel
theorem dX12_laysTable_121 : decode cX12_laysTable 121 = .ok (.aload_n 0, 1) := by decide +kernel
theorem dX12_laysTable_122 : decode cX12_laysTable 122 = .ok (.invokevirtual 248, 3) := by decide +kernel
theorem dX12_laysTable_125 : decode cX12_laysTable 125 = .ok (.imul, 1) := by decide +kernel
theorem dX12_laysTable_126 : decode cX12_laysTable 126 = .ok (.if_icmp .ge 134, 3) := by decide +kernel
theorem dX12_laysTable_260 : decode cX12_laysTable 260 = .ok (.iinc 2 1, 3) := by decide +kernel
theorem dX12_laysTable_263 : decode cX12_laysTable 263 = .ok (.goto (-168), 3) := by decide +kernel
theorem dX12_laysTable_266 : decode cX12_laysTable 266 = .ok (.return_, 1) := by decide +kernel
theorem dX12_least_0 : decode cX12_least 0 = .ok (.aload_n 0, 1) := by decide +kernel
theorem dX12_least_1 : decode cX12_least 1 = .ok (.getfield 203, 3) := by decide +kernel
theorem dX12_least_4 : decode cX12_least 4 = .ok (.iconst 4, 1) := by decide +kernel
theorem dX12_least_5 : decode cX12_least 5 = .ok (.if_icmp .ne 5, 3) := by decide +kernel
theorem dX12_least_10 : decode cX12_least 10 = .ok (.aload_n 0, 1) := by decide +kernel
theorem dX12_least_11 : decode cX12_least 11 = .ok (.invokevirtual 293, 3) := by decide +kernel
theorem dX12_least_14 : decode cX12_least 14 = .ok (.aload_n 0, 1) := by decide +kernel
theorem dX12_least_15 : decode cX12_least 15 = .ok (.iload_n 1, 1) := by decide +kernel
theorem dX12_least_16 : decode cX12_least 16 = .ok (.iload_n 2, 1) := by decide +kernel
theorem dX12_least_17 : decode cX12_least 17 = .ok (.invokevirtual 360, 3) := by decide +kernel
theorem dX12_least_20 : decode cX12_least 20 = .ok (.ireturn, 1) := by decide +kernel
theorem dX12_letters_0 : decode cX12_letters 0 = .ok (.lconst 0, 1) := by decide +kernel
theorem dX12_letters_1 : decode cX12_letters 1 = .ok (.iload_n 0, 1) := by decide +kernel
theorem dX12_letters_2 : decode cX12_letters 2 = .ok (.invokestatic 139, 3) := by decide +kernel
theorem dX12_letters_5 : decode cX12_letters 5 = .ok (.iload_n 1, 1) := by decide +kernel
theorem dX12_letters_6 : decode cX12_letters 6 = .ok (.invokestatic 139, 3) := by decide +kernel
theorem dX12_letters_9 : decode cX12_letters 9 = .ok (.iload_n 2, 1) := by decide +kernel
theorem dX12_letters_10 : decode cX12_letters 10 = .ok (.invokestatic 139, 3) := by decide +kernel
theorem dX12_letters_13 : decode cX12_letters 13 = .ok (.iload_n 3, 1) := by decide +kernel
theorem dX12_letters_14 : decode cX12_letters 14 = .ok (.invokestatic 139, 3) := by decide +kernel
theorem dX12_letters_17 : decode cX12_letters 17 = .ok (.iload 4, 2) := by decide +kernel
theorem dX12_letters_19 : decode cX12_letters 19 = .ok (.invokestatic 139, 3) := by decide +kernel
theorem dX12_letters_22 : decode cX12_letters 22 = .ok (.iload 5, 2) := by decide +kernel
theorem dX12_letters_24 : decode cX12_letters 24 = .ok (.invokestatic 139, 3) := by decide +kernel
theorem dX12_letters_27 : decode cX12_letters 27 = .ok (.iload 6, 2) := by decide +kernel
theorem dX12_letters_29 : decode cX12_letters 29 = .ok (.invokestatic 139, 3) := by decide +kernel
theorem dX12_letters_32 : decode cX12_letters 32 = .ok (.lreturn, 1) := by decide +kernel
theorem dX12_like_0 : decode cX12_like 0 = .ok (.iload_n 1, 1) := by decide +kernel
theorem dX12_like_1 : decode cX12_like 1 = .ok (.iconst 0, 1) := by decide +kernel
theorem dX12_like_2 : decode cX12_like 2 = .ok (.iconst 2, 1) := by decide +kernel
theorem dX12_like_3 : decode cX12_like 3 = .ok (.invokestatic 237, 3) := by decide +kernel
theorem dX12_like_6 : decode cX12_like 6 = .ok (.ifCond .eq 12, 3) := by decide +kernel
theorem dX12_like_9 : decode cX12_like 9 = .ok (.aload_n 0, 1) := by decide +kernel
theorem dX12_like_10 : decode cX12_like 10 = .ok (.getfield 64, 3) := by decide +kernel
theorem dX12_like_13 : decode cX12_like 13 = .ok (.iload_n 1, 1) := by decide +kernel
theorem dX12_like_14 : decode cX12_like 14 = .ok (.baload, 1) := by decide +kernel
theorem dX12_like_15 : decode cX12_like 15 = .ok (.ifCond .ne 5, 3) := by decide +kernel
theorem dX12_like_18 : decode cX12_like 18 = .ok (.iconst (-1), 1) := by decide +kernel
theorem dX12_like_19 : decode cX12_like 19 = .ok (.ireturn, 1) := by decide +kernel
theorem dX12_made_0 : decode cX12_made 0 = .ok (.aload_n 0, 1) := by decide +kernel
theorem dX12_made_1 : decode cX12_made 1 = .ok (.iload_n 1, 1) := by decide +kernel
theorem dX12_made_2 : decode cX12_made 2 = .ok (.invokevirtual 258, 3) := by decide +kernel
theorem dX12_made_5 : decode cX12_made 5 = .ok (.ifCond .eq 25, 3) := by decide +kernel
theorem dX12_made_8 : decode cX12_made 8 = .ok (.iload_n 2, 1) := by decide +kernel
theorem dX12_made_9 : decode cX12_made 9 = .ok (.iconst 0, 1) := by decide +kernel
theorem dX12_made_10 : decode cX12_made 10 = .ok (.aload_n 0, 1) := by decide +kernel
theorem dX12_made_11 : decode cX12_made 11 = .ok (.invokevirtual 244, 3) := by decide +kernel
theorem dX12_made_14 : decode cX12_made 14 = .ok (.invokestatic 237, 3) := by decide +kernel
theorem dX12_made_17 : decode cX12_made 17 = .ok (.ifCond .eq 13, 3) := by decide +kernel
theorem dX12_made_20 : decode cX12_made 20 = .ok (.aload_n 0, 1) := by decide +kernel
theorem dX12_made_21 : decode cX12_made 21 = .ok (.iload_n 1, 1) := by decide +kernel
theorem dX12_made_22 : decode cX12_made 22 = .ok (.iconst 0, 1) := by decide +kernel
theorem dX12_made_23 : decode cX12_made 23 = .ok (.iload_n 2, 1) := by decide +kernel
theorem dX12_made_24 : decode cX12_made 24 = .ok (.invokevirtual 307, 3) := by decide +kernel
theorem dX12_made_27 : decode cX12_made 27 = .ok (.goto 4, 3) := by decide +kernel
theorem dX12_made_30 : decode cX12_made 30 = .ok (.iconst (-1), 1) := by decide +kernel
theorem dX12_made_31 : decode cX12_made 31 = .ok (.ireturn, 1) := by decide +kernel
theorem dX12_madeBy_0 : decode cX12_madeBy 0 = .ok (.iload_n 1, 1) := by decide +kernel
theorem dX12_madeBy_1 : decode cX12_madeBy 1 = .ok (.istore 4, 2) := by decide +kernel
theorem dX12_madeBy_3 : decode cX12_madeBy 3 = .ok (.iload_n 2, 1) := by decide +kernel
theorem dX12_madeBy_4 : decode cX12_madeBy 4 = .ok (.istore 5, 2) := by decide +kernel
theorem dX12_madeBy_6 : decode cX12_madeBy 6 = .ok (.iload 5, 2) := by decide +kernel
theorem dX12_madeBy_8 : decode cX12_madeBy 8 = .ok (.iload_n 3, 1) := by decide +kernel
theorem dX12_madeBy_9 : decode cX12_madeBy 9 = .ok (.if_icmp .ge 22, 3) := by decide +kernel
theorem dX12_madeBy_31 : decode cX12_madeBy 31 = .ok (.iload 4, 2) := by decide +kernel
theorem dX12_madeBy_33 : decode cX12_madeBy 33 = .ok (.ireturn, 1) := by decide +kernel
theorem dX12_marks_0 : decode cX12_marks 0 = .ok (.aload_n 0, 1) := by decide +kernel
theorem dX12_marks_1 : decode cX12_marks 1 = .ok (.getfield 218, 3) := by decide +kernel
theorem dX12_marks_4 : decode cX12_marks 4 = .ok (.bipush 40, 2) := by decide +kernel
theorem dX12_marks_6 : decode cX12_marks 6 = .ok (.if_icmp .ne 26, 3) := by decide +kernel
theorem dX12_marks_32 : decode cX12_marks 32 = .ok (.bipush 49, 2) := by decide +kernel
theorem dX12_marks_34 : decode cX12_marks 34 = .ok (.aload_n 0, 1) := by decide +kernel
theorem dX12_marks_35 : decode cX12_marks 35 = .ok (.getfield 251, 3) := by decide +kernel
theorem dX12_marks_38 : decode cX12_marks 38 = .ok (.aload_n 0, 1) := by decide +kernel
theorem dX12_marks_39 : decode cX12_marks 39 = .ok (.getfield 218, 3) := by decide +kernel
theorem dX12_marks_42 : decode cX12_marks 42 = .ok (.iadd, 1) := by decide +kernel
theorem dX12_marks_43 : decode cX12_marks 43 = .ok (.bipush 40, 2) := by decide +kernel
theorem dX12_marks_45 : decode cX12_marks 45 = .ok (.irem, 1) := by decide +kernel
theorem dX12_marks_46 : decode cX12_marks 46 = .ok (.imul, 1) := by decide +kernel
theorem dX12_marks_47 : decode cX12_marks 47 = .ok (.istore_n 1, 1) := by decide +kernel
theorem dX12_marks_48 : decode cX12_marks 48 = .ok (.iconst 0, 1) := by decide +kernel
theorem dX12_marks_49 : decode cX12_marks 49 = .ok (.istore_n 2, 1) := by decide +kernel
theorem dX12_marks_50 : decode cX12_marks 50 = .ok (.iload_n 2, 1) := by decide +kernel
theorem dX12_marks_51 : decode cX12_marks 51 = .ok (.bipush 49, 2) := by decide +kernel
theorem dX12_marks_53 : decode cX12_marks 53 = .ok (.if_icmp .ge 23, 3) := by decide +kernel
theorem dX12_marks_56 : decode cX12_marks 56 = .ok (.aload_n 0, 1) := by decide +kernel
theorem dX12_marks_57 : decode cX12_marks 57 = .ok (.getfield 58, 3) := by decide +kernel
theorem dX12_marks_60 : decode cX12_marks 60 = .ok (.iload_n 1, 1) := by decide +kernel
theorem dX12_marks_61 : decode cX12_marks 61 = .ok (.iload_n 2, 1) := by decide +kernel
theorem dX12_marks_62 : decode cX12_marks 62 = .ok (.iadd, 1) := by decide +kernel
theorem dX12_marks_63 : decode cX12_marks 63 = .ok (.aload_n 0, 1) := by decide +kernel
theorem dX12_marks_64 : decode cX12_marks 64 = .ok (.getfield 52, 3) := by decide +kernel
theorem dX12_marks_67 : decode cX12_marks 67 = .ok (.iload_n 2, 1) := by decide +kernel
theorem dX12_marks_68 : decode cX12_marks 68 = .ok (.iaload, 1) := by decide +kernel
theorem dX12_marks_69 : decode cX12_marks 69 = .ok (.iastore, 1) := by decide +kernel
theorem dX12_marks_70 : decode cX12_marks 70 = .ok (.iinc 2 1, 3) := by decide +kernel
theorem dX12_marks_73 : decode cX12_marks 73 = .ok (.goto (-23), 3) := by decide +kernel
theorem dX12_marks_76 : decode cX12_marks 76 = .ok (.aload_n 0, 1) := by decide +kernel
theorem dX12_marks_77 : decode cX12_marks 77 = .ok (.dup, 1) := by decide +kernel
theorem dX12_marks_78 : decode cX12_marks 78 = .ok (.getfield 218, 3) := by decide +kernel
theorem dX12_marks_81 : decode cX12_marks 81 = .ok (.iconst 1, 1) := by decide +kernel
theorem dX12_marks_82 : decode cX12_marks 82 = .ok (.iadd, 1) := by decide +kernel
theorem dX12_marks_83 : decode cX12_marks 83 = .ok (.putfield 218, 3) := by decide +kernel
theorem dX12_marks_86 : decode cX12_marks 86 = .ok (.return_, 1) := by decide +kernel
theorem dX12_means_0 : decode cX12_means 0 = .ok (.iconst 0, 1) := by decide +kernel
theorem dX12_means_1 : decode cX12_means 1 = .ok (.istore_n 1, 1) := by decide +kernel
theorem dX12_means_2 : decode cX12_means 2 = .ok (.iload_n 1, 1) := by decide +kernel
theorem dX12_means_3 : decode cX12_means 3 = .ok (.bipush 49, 2) := by decide +kernel
theorem dX12_means_5 : decode cX12_means 5 = .ok (.if_icmp .ge 16, 3) := by decide +kernel
theorem dX12_means_8 : decode cX12_means 8 = .ok (.aload_n 0, 1) := by decide +kernel
theorem dX12_means_9 : decode cX12_means 9 = .ok (.getfield 55, 3) := by decide +kernel
theorem dX12_means_12 : decode cX12_means 12 = .ok (.iload_n 1, 1) := by decide +kernel
theorem dX12_means_13 : decode cX12_means 13 = .ok (.iconst 0, 1) := by decide +kernel
theorem dX12_means_14 : decode cX12_means 14 = .ok (.iastore, 1) := by decide +kernel
theorem dX12_means_15 : decode cX12_means 15 = .ok (.iinc 1 1, 3) := by decide +kernel
theorem dX12_means_18 : decode cX12_means 18 = .ok (.goto (-16), 3) := by decide +kernel
theorem dX12_means_21 : decode cX12_means 21 = .ok (.aload_n 0, 1) := by decide +kernel
theorem dX12_means_22 : decode cX12_means 22 = .ok (.getfield 46, 3) := by decide +kernel
theorem dX12_means_25 : decode cX12_means 25 = .ok (.iconst 0, 1) := by decide +kernel
theorem dX12_means_26 : decode cX12_means 26 = .ok (.iconst 1, 1) := by decide +kernel
theorem dX12_means_27 : decode cX12_means 27 = .ok (.iastore, 1) := by decide +kernel
theorem dX12_means_28 : decode cX12_means 28 = .ok (.aload_n 0, 1) := by decide +kernel
theorem dX12_means_29 : decode cX12_means 29 = .ok (.getfield 46, 3) := by decide +kernel
theorem dX12_means_32 : decode cX12_means 32 = .ok (.iconst 1, 1) := by decide +kernel
theorem dX12_means_33 : decode cX12_means 33 = .ok (.iconst 1, 1) := by decide +kernel
theorem dX12_means_34 : decode cX12_means 34 = .ok (.iastore, 1) := by decide +kernel
theorem dX12_means_35 : decode cX12_means 35 = .ok (.aload_n 0, 1) := by decide +kernel
theorem dX12_means_36 : decode cX12_means 36 = .ok (.getfield 46, 3) := by decide +kernel
theorem dX12_means_39 : decode cX12_means 39 = .ok (.iconst 2, 1) := by decide +kernel
theorem dX12_means_40 : decode cX12_means 40 = .ok (.iconst 5, 1) := by decide +kernel
theorem dX12_means_41 : decode cX12_means 41 = .ok (.iastore, 1) := by decide +kernel
theorem dX12_means_42 : decode cX12_means 42 = .ok (.aload_n 0, 1) := by decide +kernel
theorem dX12_means_43 : decode cX12_means 43 = .ok (.getfield 46, 3) := by decide +kernel
theorem dX12_means_46 : decode cX12_means 46 = .ok (.iconst 3, 1) := by decide +kernel
theorem dX12_means_47 : decode cX12_means 47 = .ok (.bipush 13, 2) := by decide +kernel
theorem dX12_means_49 : decode cX12_means 49 = .ok (.iastore, 1) := by decide +kernel
theorem dX12_means_50 : decode cX12_means 50 = .ok (.aload_n 0, 1) := by decide +kernel
theorem dX12_means_51 : decode cX12_means 51 = .ok (.iconst 0, 1) := by decide +kernel
theorem dX12_means_52 : decode cX12_means 52 = .ok (.putfield 206, 3) := by decide +kernel
theorem dX12_means_55 : decode cX12_means 55 = .ok (.aload_n 0, 1) := by decide +kernel
theorem dX12_means_56 : decode cX12_means 56 = .ok (.iconst 0, 1) := by decide +kernel
theorem dX12_means_57 : decode cX12_means 57 = .ok (.putfield 212, 3) := by decide +kernel
theorem dX12_means_60 : decode cX12_means 60 = .ok (.iconst 0, 1) := by decide +kernel
theorem dX12_means_61 : decode cX12_means 61 = .ok (.istore_n 1, 1) := by decide +kernel
theorem dX12_means_62 : decode cX12_means 62 = .ok (.iload_n 1, 1) := by decide +kernel
theorem dX12_means_63 : decode cX12_means 63 = .ok (.aload_n 0, 1) := by decide +kernel
theorem dX12_means_64 : decode cX12_means 64 = .ok (.getfield 143, 3) := by decide +kernel
theorem dX12_means_67 : decode cX12_means 67 = .ok (.if_icmp .ge 136, 3) := by decide +kernel
theorem dX12_means_70 : decode cX12_means 70 = .ok (.aload_n 0, 1) := by decide +kernel
theorem dX12_means_71 : decode cX12_means 71 = .ok (.getfield 20, 3) := by decide +kernel
theorem dX12_means_74 : decode cX12_means 74 = .ok (.iload_n 1, 1) := by decide +kernel
theorem dX12_means_75 : decode cX12_means 75 = .ok (.iaload, 1) := by decide +kernel
theorem dX12_means_76 : decode cX12_means 76 = .ok (.bipush 20, 2) := by decide +kernel
theorem dX12_means_78 : decode cX12_means 78 = .ok (.if_icmp .ne 22, 3) := by decide +kernel
theorem dX12_means_100 : decode cX12_means 100 = .ok (.aload_n 0, 1) := by decide +kernel
theorem dX12_means_101 : decode cX12_means 101 = .ok (.getfield 20, 3) := by decide +kernel
theorem dX12_means_104 : decode cX12_means 104 = .ok (.iload_n 1, 1) := by decide +kernel
theorem dX12_means_105 : decode cX12_means 105 = .ok (.iaload, 1) := by decide +kernel
theorem dX12_means_106 : decode cX12_means 106 = .ok (.bipush 21, 2) := by decide +kernel
theorem dX12_means_108 : decode cX12_means 108 = .ok (.if_icmp .ne 8, 3) := by decide +kernel
theorem dX12_means_116 : decode cX12_means 116 = .ok (.iconst 0, 1) := by decide +kernel
theorem dX12_means_117 : decode cX12_means 117 = .ok (.istore_n 2, 1) := by decide +kernel
theorem dX12_means_118 : decode cX12_means 118 = .ok (.iload_n 2, 1) := by decide +kernel
theorem dX12_means_119 : decode cX12_means 119 = .ok (.iconst 4, 1) := by decide +kernel
theorem dX12_means_120 : decode cX12_means 120 = .ok (.if_icmp .ge 61, 3) := by decide +kernel
theorem dX12_means_123 : decode cX12_means 123 = .ok (.aload_n 0, 1) := by decide +kernel
theorem dX12_means_124 : decode cX12_means 124 = .ok (.getfield 20, 3) := by decide +kernel
theorem dX12_means_127 : decode cX12_means 127 = .ok (.iload_n 1, 1) := by decide +kernel
theorem dX12_means_128 : decode cX12_means 128 = .ok (.iaload, 1) := by decide +kernel
theorem dX12_means_129 : decode cX12_means 129 = .ok (.bipush 22, 2) := by decide +kernel
theorem dX12_means_131 : decode cX12_means 131 = .ok (.if_icmp .ne 50, 3) := by decide +kernel
theorem dX12_means_181 : decode cX12_means 181 = .ok (.aload_n 0, 1) := by decide +kernel
theorem dX12_means_182 : decode cX12_means 182 = .ok (.getfield 20, 3) := by decide +kernel
theorem dX12_means_185 : decode cX12_means 185 = .ok (.iload_n 1, 1) := by decide +kernel
theorem dX12_means_186 : decode cX12_means 186 = .ok (.iaload, 1) := by decide +kernel
theorem dX12_means_187 : decode cX12_means 187 = .ok (.bipush 23, 2) := by decide +kernel
theorem dX12_means_189 : decode cX12_means 189 = .ok (.if_icmp .ne 8, 3) := by decide +kernel
theorem dX12_means_197 : decode cX12_means 197 = .ok (.iinc 1 1, 3) := by decide +kernel
theorem dX12_means_200 : decode cX12_means 200 = .ok (.goto (-138), 3) := by decide +kernel
theorem dX12_means_203 : decode cX12_means 203 = .ok (.return_, 1) := by decide +kernel
theorem dX12_off_0 : decode cX12_off 0 = .ok (.iload_n 1, 1) := by decide +kernel
theorem dX12_off_1 : decode cX12_off 1 = .ok (.iconst 0, 1) := by decide +kernel
theorem dX12_off_2 : decode cX12_off 2 = .ok (.iconst 2, 1) := by decide +kernel
theorem dX12_off_3 : decode cX12_off 3 = .ok (.invokestatic 237, 3) := by decide +kernel
theorem dX12_off_6 : decode cX12_off 6 = .ok (.ifCond .eq 20, 3) := by decide +kernel
theorem dX12_off_9 : decode cX12_off 9 = .ok (.aload_n 0, 1) := by decide +kernel
theorem dX12_off_10 : decode cX12_off 10 = .ok (.getfield 64, 3) := by decide +kernel
theorem dX12_off_13 : decode cX12_off 13 = .ok (.iload_n 1, 1) := by decide +kernel
theorem dX12_off_14 : decode cX12_off 14 = .ok (.baload, 1) := by decide +kernel
theorem dX12_off_15 : decode cX12_off 15 = .ok (.ifCond .eq 11, 3) := by decide +kernel
theorem dX12_off_26 : decode cX12_off 26 = .ok (.iconst (-1), 1) := by decide +kernel
theorem dX12_off_27 : decode cX12_off 27 = .ok (.ireturn, 1) := by decide +kernel
theorem dX12_order_0 : decode cX12_order 0 = .ok (.iload_n 1, 1) := by decide +kernel
theorem dX12_order_1 : decode cX12_order 1 = .ok (.iconst 0, 1) := by decide +kernel
theorem dX12_order_2 : decode cX12_order 2 = .ok (.iconst 4, 1) := by decide +kernel
theorem dX12_order_3 : decode cX12_order 3 = .ok (.invokestatic 237, 3) := by decide +kernel
theorem dX12_order_6 : decode cX12_order 6 = .ok (.ifCond .ne 5, 3) := by decide +kernel
theorem dX12_order_9 : decode cX12_order 9 = .ok (.iconst (-1), 1) := by decide +kernel
theorem dX12_order_10 : decode cX12_order 10 = .ok (.ireturn, 1) := by decide +kernel
theorem dX12_order_11 : decode cX12_order 11 = .ok (.aload_n 0, 1) := by decide +kernel
theorem dX12_order_12 : decode cX12_order 12 = .ok (.aload_n 0, 1) := by decide +kernel
theorem dX12_order_13 : decode cX12_order 13 = .ok (.getfield 52, 3) := by decide +kernel
theorem dX12_order_16 : decode cX12_order 16 = .ok (.invokevirtual 285, 3) := by decide +kernel
theorem dX12_order_19 : decode cX12_order 19 = .ok (.iconst 0, 1) := by decide +kernel
theorem dX12_order_20 : decode cX12_order 20 = .ok (.istore_n 2, 1) := by decide +kernel
theorem dX12_order_21 : decode cX12_order 21 = .ok (.iconst 0, 1) := by decide +kernel
theorem dX12_order_22 : decode cX12_order 22 = .ok (.istore_n 3, 1) := by decide +kernel
theorem dX12_order_23 : decode cX12_order 23 = .ok (.iconst 1, 1) := by decide +kernel
theorem dX12_order_24 : decode cX12_order 24 = .ok (.istore 4, 2) := by decide +kernel
theorem dX12_order_26 : decode cX12_order 26 = .ok (.iconst 0, 1) := by decide +kernel
theorem dX12_order_27 : decode cX12_order 27 = .ok (.istore 5, 2) := by decide +kernel
theorem dX12_order_29 : decode cX12_order 29 = .ok (.iconst 0, 1) := by decide +kernel
