theorem dL_act_270 : decode cL_act 270 = .ok (.lreturn, 1) := by decide +kernel
theorem dL_act_271 : decode cL_act 271 = .ok (.aload_n 0, 1) := by decide +kernel
theorem dL_act_272 : decode cL_act 272 = .ok (.iload_n 3, 1) := by decide +kernel
theorem dL_act_273 : decode cL_act 273 = .ok (.ifCond .eq 7, 3) := by decide +kernel
theorem dL_act_276 : decode cL_act 276 = .ok (.iload_n 1, 1) := by decide +kernel
theorem dL_act_277 : decode cL_act 277 = .ok (.goto 14, 3) := by decide +kernel
theorem dL_act_280 : decode cL_act 280 = .ok (.iconst 1, 1) := by decide +kernel
theorem dL_act_281 : decode cL_act 281 = .ok (.iload_n 1, 1) := by decide +kernel
theorem dL_act_282 : decode cL_act 282 = .ok (.bipush 6, 2) := by decide +kernel
theorem dL_act_284 : decode cL_act 284 = .ok (.ishr, 1) := by decide +kernel
theorem dL_act_285 : decode cL_act 285 = .ok (.ldc 84, 2) := by decide +kernel
theorem dL_act_287 : decode cL_act 287 = .ok (.invokestatic 76, 3) := by decide +kernel
theorem dL_act_290 : decode cL_act 290 = .ok (.iadd, 1) := by decide +kernel
theorem dL_act_291 : decode cL_act 291 = .ok (.invokestatic 85, 3) := by decide +kernel
theorem dL_act_294 : decode cL_act 294 = .ok (.lreturn, 1) := by decide +kernel
theorem dL_act_295 : decode cL_act 295 = .ok (.aload_n 0, 1) := by decide +kernel
theorem dL_act_296 : decode cL_act 296 = .ok (.iload_n 3, 1) := by decide +kernel
theorem dL_act_297 : decode cL_act 297 = .ok (.ifCond .eq 10, 3) := by decide +kernel
theorem dL_act_300 : decode cL_act 300 = .ok (.iload_n 1, 1) := by decide +kernel
theorem dL_act_301 : decode cL_act 301 = .ok (.bipush 7, 2) := by decide +kernel
theorem dL_act_303 : decode cL_act 303 = .ok (.ishr, 1) := by decide +kernel
theorem dL_act_304 : decode cL_act 304 = .ok (.goto 15, 3) := by decide +kernel
theorem dL_act_307 : decode cL_act 307 = .ok (.bipush 8, 2) := by decide +kernel
theorem dL_act_309 : decode cL_act 309 = .ok (.iload_n 1, 1) := by decide +kernel
theorem dL_act_310 : decode cL_act 310 = .ok (.bipush 7, 2) := by decide +kernel
theorem dL_act_312 : decode cL_act 312 = .ok (.ishr, 1) := by decide +kernel
theorem dL_act_313 : decode cL_act 313 = .ok (.bipush 57, 2) := by decide +kernel
theorem dL_act_315 : decode cL_act 315 = .ok (.invokestatic 76, 3) := by decide +kernel
theorem dL_act_318 : decode cL_act 318 = .ok (.iadd, 1) := by decide +kernel
theorem dL_act_319 : decode cL_act 319 = .ok (.invokestatic 88, 3) := by decide +kernel
theorem dL_act_322 : decode cL_act 322 = .ok (.lreturn, 1) := by decide +kernel
theorem dL_act_323 : decode cL_act 323 = .ok (.aload_n 0, 1) := by decide +kernel
theorem dL_act_324 : decode cL_act 324 = .ok (.iload 6, 2) := by decide +kernel
theorem dL_act_326 : decode cL_act 326 = .ok (.invokestatic 90, 3) := by decide +kernel
theorem dL_act_329 : decode cL_act 329 = .ok (.lreturn, 1) := by decide +kernel
theorem dL_act_330 : decode cL_act 330 = .ok (.aload_n 0, 1) := by decide +kernel
theorem dL_act_331 : decode cL_act 331 = .ok (.iload 6, 2) := by decide +kernel
theorem dL_act_333 : decode cL_act 333 = .ok (.iload_n 3, 1) := by decide +kernel
theorem dL_act_334 : decode cL_act 334 = .ok (.ifCond .eq 10, 3) := by decide +kernel
theorem dL_act_337 : decode cL_act 337 = .ok (.iload_n 1, 1) := by decide +kernel
theorem dL_act_338 : decode cL_act 338 = .ok (.bipush 9, 2) := by decide +kernel
theorem dL_act_340 : decode cL_act 340 = .ok (.ishr, 1) := by decide +kernel
theorem dL_act_341 : decode cL_act 341 = .ok (.goto 12, 3) := by decide +kernel
theorem dL_act_344 : decode cL_act 344 = .ok (.iload_n 1, 1) := by decide +kernel
theorem dL_act_345 : decode cL_act 345 = .ok (.bipush 14, 2) := by decide +kernel
theorem dL_act_347 : decode cL_act 347 = .ok (.ishr, 1) := by decide +kernel
theorem dL_act_348 : decode cL_act 348 = .ok (.bipush 8, 2) := by decide +kernel
theorem dL_act_350 : decode cL_act 350 = .ok (.invokestatic 76, 3) := by decide +kernel
theorem dL_act_353 : decode cL_act 353 = .ok (.invokestatic 92, 3) := by decide +kernel
theorem dL_act_356 : decode cL_act 356 = .ok (.lreturn, 1) := by decide +kernel
theorem dL_act_357 : decode cL_act 357 = .ok (.aload_n 0, 1) := by decide +kernel
theorem dL_act_358 : decode cL_act 358 = .ok (.iload 4, 2) := by decide +kernel
theorem dL_act_360 : decode cL_act 360 = .ok (.iload 5, 2) := by decide +kernel
theorem dL_act_362 : decode cL_act 362 = .ok (.iload 6, 2) := by decide +kernel
theorem dL_act_364 : decode cL_act 364 = .ok (.invokestatic 95, 3) := by decide +kernel
theorem dL_act_367 : decode cL_act 367 = .ok (.lreturn, 1) := by decide +kernel
theorem dL_act_368 : decode cL_act 368 = .ok (.aload_n 0, 1) := by decide +kernel
theorem dL_act_369 : decode cL_act 369 = .ok (.iload_n 3, 1) := by decide +kernel
theorem dL_act_370 : decode cL_act 370 = .ok (.ifCond .eq 10, 3) := by decide +kernel
theorem dL_act_373 : decode cL_act 373 = .ok (.iload_n 1, 1) := by decide +kernel
theorem dL_act_374 : decode cL_act 374 = .ok (.bipush 9, 2) := by decide +kernel
theorem dL_act_376 : decode cL_act 376 = .ok (.ishr, 1) := by decide +kernel
theorem dL_act_377 : decode cL_act 377 = .ok (.goto 12, 3) := by decide +kernel
theorem dL_act_380 : decode cL_act 380 = .ok (.iload_n 1, 1) := by decide +kernel
theorem dL_act_381 : decode cL_act 381 = .ok (.bipush 9, 2) := by decide +kernel
theorem dL_act_383 : decode cL_act 383 = .ok (.ishr, 1) := by decide +kernel
theorem dL_act_384 : decode cL_act 384 = .ok (.bipush 20, 2) := by decide +kernel
theorem dL_act_386 : decode cL_act 386 = .ok (.invokestatic 76, 3) := by decide +kernel
theorem dL_act_389 : decode cL_act 389 = .ok (.invokestatic 98, 3) := by decide +kernel
theorem dL_act_392 : decode cL_act 392 = .ok (.lreturn, 1) := by decide +kernel
theorem dL_act_393 : decode cL_act 393 = .ok (.aload_n 0, 1) := by decide +kernel
theorem dL_act_394 : decode cL_act 394 = .ok (.iload 7, 2) := by decide +kernel
theorem dL_act_396 : decode cL_act 396 = .ok (.invokestatic 100, 3) := by decide +kernel
theorem dL_act_399 : decode cL_act 399 = .ok (.lreturn, 1) := by decide +kernel
theorem dL_act_400 : decode cL_act 400 = .ok (.aload_n 0, 1) := by decide +kernel
theorem dL_act_401 : decode cL_act 401 = .ok (.iload 7, 2) := by decide +kernel
theorem dL_act_403 : decode cL_act 403 = .ok (.iload_n 1, 1) := by decide +kernel
theorem dL_act_404 : decode cL_act 404 = .ok (.bipush 21, 2) := by decide +kernel
theorem dL_act_406 : decode cL_act 406 = .ok (.ishr, 1) := by decide +kernel
theorem dL_act_407 : decode cL_act 407 = .ok (.iconst 1, 1) := by decide +kernel
theorem dL_act_408 : decode cL_act 408 = .ok (.iand, 1) := by decide +kernel
theorem dL_act_409 : decode cL_act 409 = .ok (.iconst 1, 1) := by decide +kernel
theorem dL_act_410 : decode cL_act 410 = .ok (.if_icmp .ne 7, 3) := by decide +kernel
theorem dL_act_413 : decode cL_act 413 = .ok (.iconst 1, 1) := by decide +kernel
theorem dL_act_414 : decode cL_act 414 = .ok (.goto 4, 3) := by decide +kernel
theorem dL_act_417 : decode cL_act 417 = .ok (.iconst 0, 1) := by decide +kernel
theorem dL_act_418 : decode cL_act 418 = .ok (.invokestatic 103, 3) := by decide +kernel
theorem dL_act_421 : decode cL_act 421 = .ok (.lreturn, 1) := by decide +kernel
theorem dL_act_422 : decode cL_act 422 = .ok (.aload_n 0, 1) := by decide +kernel
theorem dL_act_423 : decode cL_act 423 = .ok (.iload 4, 2) := by decide +kernel
theorem dL_act_425 : decode cL_act 425 = .ok (.iload 5, 2) := by decide +kernel
theorem dL_act_427 : decode cL_act 427 = .ok (.iload_n 3, 1) := by decide +kernel
theorem dL_act_428 : decode cL_act 428 = .ok (.ifCond .eq 10, 3) := by decide +kernel
theorem dL_act_431 : decode cL_act 431 = .ok (.iload_n 1, 1) := by decide +kernel
theorem dL_act_432 : decode cL_act 432 = .ok (.bipush 9, 2) := by decide +kernel
theorem dL_act_434 : decode cL_act 434 = .ok (.ishr, 1) := by decide +kernel
theorem dL_act_435 : decode cL_act 435 = .ok (.goto 14, 3) := by decide +kernel
theorem dL_act_438 : decode cL_act 438 = .ok (.bipush 7, 2) := by decide +kernel
theorem dL_act_440 : decode cL_act 440 = .ok (.iload_n 1, 1) := by decide +kernel
theorem dL_act_441 : decode cL_act 441 = .ok (.bipush 9, 2) := by decide +kernel
theorem dL_act_443 : decode cL_act 443 = .ok (.ishr, 1) := by decide +kernel
theorem dL_act_444 : decode cL_act 444 = .ok (.iconst 3, 1) := by decide +kernel
theorem dL_act_445 : decode cL_act 445 = .ok (.invokestatic 76, 3) := by decide +kernel
theorem dL_act_448 : decode cL_act 448 = .ok (.isub, 1) := by decide +kernel
theorem dL_act_449 : decode cL_act 449 = .ok (.iload_n 3, 1) := by decide +kernel
theorem dL_act_450 : decode cL_act 450 = .ok (.ifCond .eq 8, 3) := by decide +kernel
theorem dL_act_453 : decode cL_act 453 = .ok (.iload 5, 2) := by decide +kernel
theorem dL_act_455 : decode cL_act 455 = .ok (.goto 5, 3) := by decide +kernel
theorem dL_act_458 : decode cL_act 458 = .ok (.bipush 7, 2) := by decide +kernel
theorem dL_act_460 : decode cL_act 460 = .ok (.iload 7, 2) := by decide +kernel
theorem dL_act_462 : decode cL_act 462 = .ok (.invokestatic 106, 3) := by decide +kernel
theorem dL_act_465 : decode cL_act 465 = .ok (.lreturn, 1) := by decide +kernel
theorem dL_act_466 : decode cL_act 466 = .ok (.aload_n 0, 1) := by decide +kernel
theorem dL_act_467 : decode cL_act 467 = .ok (.iload_n 3, 1) := by decide +kernel
theorem dL_act_468 : decode cL_act 468 = .ok (.ifCond .eq 10, 3) := by decide +kernel
theorem dL_act_471 : decode cL_act 471 = .ok (.iload_n 1, 1) := by decide +kernel
theorem dL_act_472 : decode cL_act 472 = .ok (.bipush 9, 2) := by decide +kernel
theorem dL_act_474 : decode cL_act 474 = .ok (.ishr, 1) := by decide +kernel
theorem dL_act_475 : decode cL_act 475 = .ok (.goto 12, 3) := by decide +kernel
theorem dL_act_478 : decode cL_act 478 = .ok (.iload_n 1, 1) := by decide +kernel
theorem dL_act_479 : decode cL_act 479 = .ok (.bipush 9, 2) := by decide +kernel
theorem dL_act_481 : decode cL_act 481 = .ok (.ishr, 1) := by decide +kernel
theorem dL_act_482 : decode cL_act 482 = .ok (.bipush 30, 2) := by decide +kernel
theorem dL_act_484 : decode cL_act 484 = .ok (.invokestatic 76, 3) := by decide +kernel
theorem dL_act_487 : decode cL_act 487 = .ok (.invokestatic 109, 3) := by decide +kernel
theorem dL_act_490 : decode cL_act 490 = .ok (.lreturn, 1) := by decide +kernel
theorem dL_act_491 : decode cL_act 491 = .ok (.aload_n 0, 1) := by decide +kernel
theorem dL_act_492 : decode cL_act 492 = .ok (.invokestatic 111, 3) := by decide +kernel
theorem dL_act_495 : decode cL_act 495 = .ok (.lreturn, 1) := by decide +kernel
theorem dL_act_496 : decode cL_act 496 = .ok (.aload_n 0, 1) := by decide +kernel
theorem dL_act_497 : decode cL_act 497 = .ok (.iload 4, 2) := by decide +kernel
theorem dL_act_499 : decode cL_act 499 = .ok (.iload 5, 2) := by decide +kernel
theorem dL_act_501 : decode cL_act 501 = .ok (.invokestatic 114, 3) := by decide +kernel
theorem dL_act_504 : decode cL_act 504 = .ok (.lreturn, 1) := by decide +kernel
set_option maxRecDepth 20000 in
theorem ggL_areAlike_L_samples : GoodIn wsL_areAlike wsL_samples := goodIn_ca (goodIn_r _ [4, 5, 6, 7, 8, 9, 10, 11, 12, 13, 14, 15, 16, 17, 18, 19, 20, 21, 22, 23, 24, 25, 140, 141, 142, 143, 144, 145, 146, 147, 148, 149, 150, 151, 152, 153, 154, 155, 156, 157, 158, 159] (by decide +kernel) (by decide +kernel)) (goodIn_sub (fun _ h => List.mem_cons_of_mem _ (List.mem_append_left _ (List.mem_append_right _ h))) (by decide +kernel))
set_option maxRecDepth 20000 in
theorem gL_areAlike_L_samples : GoodIn wsL_areAlike (va_wsS RL 116 yL_samples wsL_samples) := goodIn_app (goodIn_of _ (by decide +kernel)) ggL_areAlike_L_samples
set_option maxRecDepth 20000 in
theorem ggL_areAlike_L_doubt : GoodIn wsL_areAlike wsL_doubt := goodIn_ca (goodIn_r _ [28, 5, 6, 29, 30, 31, 10, 32, 12, 13, 14, 15, 16, 17, 18, 19, 33, 34, 35, 23, 36, 37, 140, 141, 142, 143, 144, 145, 146, 147, 148, 149, 150, 151, 152, 153, 154, 155, 156, 157, 158, 159] (by decide +kernel) (by decide +kernel)) (goodIn_sub (fun _ h => List.mem_cons_of_mem _ (List.mem_append_left _ (List.mem_append_right _ h))) (by decide +kernel))
set_option maxRecDepth 20000 in
theorem gL_areAlike_L_doubt : GoodIn wsL_areAlike (va_wsS RL 111 yL_doubt wsL_doubt) := goodIn_app (goodIn_of _ (by decide +kernel)) ggL_areAlike_L_doubt
set_option maxRecDepth 20000 in
theorem ggL_areAlike_L_mode : GoodIn wsL_areAlike wsL_mode := goodIn_ca (goodIn_r _ [40, 5, 6, 41, 42, 43, 10, 44, 13, 14, 15, 16, 17, 18, 19, 45, 46, 47, 48, 12, 49, 50, 51, 52, 23, 53, 54, 25, 55, 56, 57, 58, 59, 60, 61, 62, 63, 64, 65, 66, 67, 68, 69, 70, 71, 72, 73, 74, 75, 76, 77, 78, 79, 80, 81, 82, 83, 84, 85, 140, 141, 142, 143, 144, 145, 146, 147, 148, 149, 150, 151, 152, 153, 154, 155, 156, 157, 158, 159, 160, 161, 162, 163] (by decide +kernel) (by decide +kernel)) (goodIn_sub (fun _ h => List.mem_cons_of_mem _ (List.mem_append_left _ (List.mem_append_right _ h))) (by decide +kernel))
set_option maxRecDepth 20000 in
theorem gL_areAlike_L_mode : GoodIn wsL_areAlike (va_wsS RL 100 yL_mode wsL_mode) := goodIn_app (goodIn_of _ (by decide +kernel)) ggL_areAlike_L_mode
set_option maxRecDepth 20000 in
theorem ggL_areAlike_L_low : GoodIn wsL_areAlike wsL_low := goodIn_r _ [88, 89] (by decide +kernel) (by decide +kernel)
set_option maxRecDepth 20000 in
theorem gL_areAlike_L_low : GoodIn wsL_areAlike (va_wsS RL 76 yL_low wsL_low) := goodIn_app (goodIn_of _ (by decide +kernel)) ggL_areAlike_L_low
set_option maxRecDepth 20000 in
theorem ggL_areAlike_L_sample : GoodIn wsL_areAlike wsL_sample := goodIn_ca (goodIn_r _ [92, 93, 6, 94, 95, 96, 10, 97, 98, 99, 12, 20, 21, 22, 23, 24, 25, 100, 101, 102, 103, 55, 140, 141, 142, 143, 144, 145, 146, 147, 148, 149, 150, 151, 152, 153, 154, 155, 156, 157, 158, 159] (by decide +kernel) (by decide +kernel)) (goodIn_sub (fun _ h => List.mem_cons_of_mem _ (List.mem_append_right _ h)) (by decide +kernel))
set_option maxRecDepth 20000 in
theorem gL_areAlike_L_sample : GoodIn wsL_areAlike (va_wsS RL 98 yL_sample wsL_sample) := goodIn_app (goodIn_of _ (by decide +kernel)) ggL_areAlike_L_sample
set_option maxRecDepth 20000 in
theorem ggL_areAlike_L_belief : GoodIn wsL_areAlike wsL_belief := goodIn_ca (goodIn_ca (goodIn_r _ [106, 93, 5, 6, 107, 108, 109, 10, 110, 49, 111, 112, 113, 98, 99, 114, 115, 116, 13, 14, 15, 16, 17, 18, 19, 68, 69, 70, 71, 72, 73, 117, 118, 119, 120, 121, 122, 59, 123, 61, 66, 67, 140, 141, 142, 143, 144, 145, 146, 147, 148, 161, 162, 163, 160] (by decide +kernel) (by decide +kernel)) (goodIn_sub (fun _ h => List.mem_cons_of_mem _ (List.mem_append_right _ h)) (by decide +kernel))) (goodIn_sub (fun _ h => List.mem_cons_of_mem _ (List.mem_append_left _ (List.mem_append_right _ h))) (by decide +kernel))
set_option maxRecDepth 20000 in
theorem gL_areAlike_L_belief : GoodIn wsL_areAlike (va_wsS RL 114 yL_belief wsL_belief) := goodIn_app (goodIn_of _ (by decide +kernel)) ggL_areAlike_L_belief
set_option maxRecDepth 20000 in
theorem ggL_areAlike_L_best : GoodIn wsL_areAlike wsL_best := goodIn_ca (goodIn_ca (goodIn_r _ [126, 93, 5, 6, 127, 128, 129, 10, 130, 98, 99, 49, 13, 14, 15, 16, 17, 18, 19, 68, 69, 70, 71, 72, 73, 131, 132, 133, 59, 134, 61, 135, 136, 137, 138, 139, 121, 122, 123, 66, 67, 140, 141, 142, 143, 144, 145, 146, 147, 148, 161, 162, 163, 160] (by decide +kernel) (by decide +kernel)) (goodIn_sub (fun _ h => List.mem_cons_of_mem _ (List.mem_append_right _ h)) (by decide +kernel))) (goodIn_sub (fun _ h => List.mem_cons_of_mem _ (List.mem_append_left _ (List.mem_append_right _ h))) (by decide +kernel))
set_option maxRecDepth 20000 in
theorem gL_areAlike_L_best : GoodIn wsL_areAlike (va_wsS RL 109 yL_best wsL_best) := goodIn_app (goodIn_of _ (by decide +kernel)) ggL_areAlike_L_best
theorem dL_areAlike_0 : decode cL_areAlike 0 = .ok (.aload_n 0, 1) := by decide +kernel
theorem dL_areAlike_1 : decode cL_areAlike 1 = .ok (.invokestatic 116, 3) := by decide +kernel
theorem dL_areAlike_4 : decode cL_areAlike 4 = .ok (.aload_n 1, 1) := by decide +kernel
theorem dL_areAlike_5 : decode cL_areAlike 5 = .ok (.invokestatic 116, 3) := by decide +kernel
theorem dL_areAlike_8 : decode cL_areAlike 8 = .ok (.lcmp, 1) := by decide +kernel
theorem dL_areAlike_9 : decode cL_areAlike 9 = .ok (.ifCond .ne 33, 3) := by decide +kernel
theorem dL_areAlike_12 : decode cL_areAlike 12 = .ok (.aload_n 0, 1) := by decide +kernel
theorem dL_areAlike_13 : decode cL_areAlike 13 = .ok (.invokestatic 111, 3) := by decide +kernel
theorem dL_areAlike_16 : decode cL_areAlike 16 = .ok (.aload_n 1, 1) := by decide +kernel
theorem dL_areAlike_17 : decode cL_areAlike 17 = .ok (.invokestatic 111, 3) := by decide +kernel
theorem dL_areAlike_20 : decode cL_areAlike 20 = .ok (.lcmp, 1) := by decide +kernel
theorem dL_areAlike_21 : decode cL_areAlike 21 = .ok (.ifCond .ne 21, 3) := by decide +kernel
theorem dL_areAlike_24 : decode cL_areAlike 24 = .ok (.aload_n 0, 1) := by decide +kernel
theorem dL_areAlike_25 : decode cL_areAlike 25 = .ok (.iconst 1, 1) := by decide +kernel
theorem dL_areAlike_26 : decode cL_areAlike 26 = .ok (.invokestatic 100, 3) := by decide +kernel
theorem dL_areAlike_29 : decode cL_areAlike 29 = .ok (.aload_n 1, 1) := by decide +kernel
theorem dL_areAlike_30 : decode cL_areAlike 30 = .ok (.iconst 1, 1) := by decide +kernel
theorem dL_areAlike_31 : decode cL_areAlike 31 = .ok (.invokestatic 100, 3) := by decide +kernel
theorem dL_areAlike_34 : decode cL_areAlike 34 = .ok (.lcmp, 1) := by decide +kernel
theorem dL_areAlike_35 : decode cL_areAlike 35 = .ok (.ifCond .ne 7, 3) := by decide +kernel
theorem dL_areAlike_38 : decode cL_areAlike 38 = .ok (.iconst 1, 1) := by decide +kernel
theorem dL_areAlike_39 : decode cL_areAlike 39 = .ok (.goto 4, 3) := by decide +kernel
theorem dL_areAlike_42 : decode cL_areAlike 42 = .ok (.iconst 0, 1) := by decide +kernel
theorem dL_areAlike_43 : decode cL_areAlike 43 = .ok (.istore_n 3, 1) := by decide +kernel
theorem dL_areAlike_44 : decode cL_areAlike 44 = .ok (.iconst 0, 1) := by decide +kernel
theorem dL_areAlike_45 : decode cL_areAlike 45 = .ok (.istore 4, 2) := by decide +kernel
theorem dL_areAlike_47 : decode cL_areAlike 47 = .ok (.iload 4, 2) := by decide +kernel
theorem dL_areAlike_49 : decode cL_areAlike 49 = .ok (.bipush 8, 2) := by decide +kernel
theorem dL_areAlike_51 : decode cL_areAlike 51 = .ok (.if_icmp .ge 97, 3) := by decide +kernel
theorem dL_areAlike_54 : decode cL_areAlike 54 = .ok (.iload_n 3, 1) := by decide +kernel
theorem dL_areAlike_55 : decode cL_areAlike 55 = .ok (.ifCond .eq 93, 3) := by decide +kernel
theorem dL_areAlike_58 : decode cL_areAlike 58 = .ok (.aload_n 0, 1) := by decide +kernel
theorem dL_areAlike_59 : decode cL_areAlike 59 = .ok (.iload_n 2, 1) := by decide +kernel
theorem dL_areAlike_60 : decode cL_areAlike 60 = .ok (.bipush 8, 2) := by decide +kernel
theorem dL_areAlike_62 : decode cL_areAlike 62 = .ok (.invokestatic 76, 3) := by decide +kernel
theorem dL_areAlike_65 : decode cL_areAlike 65 = .ok (.iload 4, 2) := by decide +kernel
theorem dL_areAlike_67 : decode cL_areAlike 67 = .ok (.iadd, 1) := by decide +kernel
theorem dL_areAlike_68 : decode cL_areAlike 68 = .ok (.invokestatic 98, 3) := by decide +kernel
theorem dL_areAlike_71 : decode cL_areAlike 71 = .ok (.aload_n 1, 1) := by decide +kernel
theorem dL_areAlike_72 : decode cL_areAlike 72 = .ok (.iload_n 2, 1) := by decide +kernel
theorem dL_areAlike_73 : decode cL_areAlike 73 = .ok (.bipush 8, 2) := by decide +kernel
theorem dL_areAlike_75 : decode cL_areAlike 75 = .ok (.invokestatic 76, 3) := by decide +kernel
theorem dL_areAlike_78 : decode cL_areAlike 78 = .ok (.iload 4, 2) := by decide +kernel
theorem dL_areAlike_80 : decode cL_areAlike 80 = .ok (.iadd, 1) := by decide +kernel
theorem dL_areAlike_81 : decode cL_areAlike 81 = .ok (.invokestatic 98, 3) := by decide +kernel
theorem dL_areAlike_84 : decode cL_areAlike 84 = .ok (.lcmp, 1) := by decide +kernel
theorem dL_areAlike_85 : decode cL_areAlike 85 = .ok (.ifCond .ne 55, 3) := by decide +kernel
theorem dL_areAlike_88 : decode cL_areAlike 88 = .ok (.aload_n 0, 1) := by decide +kernel
theorem dL_areAlike_89 : decode cL_areAlike 89 = .ok (.iload 4, 2) := by decide +kernel
theorem dL_areAlike_91 : decode cL_areAlike 91 = .ok (.iload_n 2, 1) := by decide +kernel
theorem dL_areAlike_92 : decode cL_areAlike 92 = .ok (.iconst 3, 1) := by decide +kernel
theorem dL_areAlike_93 : decode cL_areAlike 93 = .ok (.ishr, 1) := by decide +kernel
theorem dL_areAlike_94 : decode cL_areAlike 94 = .ok (.bipush 8, 2) := by decide +kernel
theorem dL_areAlike_96 : decode cL_areAlike 96 = .ok (.invokestatic 76, 3) := by decide +kernel
theorem dL_areAlike_99 : decode cL_areAlike 99 = .ok (.invokestatic 114, 3) := by decide +kernel
theorem dL_areAlike_102 : decode cL_areAlike 102 = .ok (.aload_n 1, 1) := by decide +kernel
theorem dL_areAlike_103 : decode cL_areAlike 103 = .ok (.iload 4, 2) := by decide +kernel
theorem dL_areAlike_105 : decode cL_areAlike 105 = .ok (.iload_n 2, 1) := by decide +kernel
theorem dL_areAlike_106 : decode cL_areAlike 106 = .ok (.iconst 3, 1) := by decide +kernel
theorem dL_areAlike_107 : decode cL_areAlike 107 = .ok (.ishr, 1) := by decide +kernel
theorem dL_areAlike_108 : decode cL_areAlike 108 = .ok (.bipush 8, 2) := by decide +kernel
theorem dL_areAlike_110 : decode cL_areAlike 110 = .ok (.invokestatic 76, 3) := by decide +kernel
theorem dL_areAlike_113 : decode cL_areAlike 113 = .ok (.invokestatic 114, 3) := by decide +kernel
theorem dL_areAlike_116 : decode cL_areAlike 116 = .ok (.lcmp, 1) := by decide +kernel
theorem dL_areAlike_117 : decode cL_areAlike 117 = .ok (.ifCond .ne 23, 3) := by decide +kernel
theorem dL_areAlike_120 : decode cL_areAlike 120 = .ok (.aload_n 0, 1) := by decide +kernel
theorem dL_areAlike_121 : decode cL_areAlike 121 = .ok (.iload 4, 2) := by decide +kernel
theorem dL_areAlike_123 : decode cL_areAlike 123 = .ok (.invokestatic 109, 3) := by decide +kernel
theorem dL_areAlike_126 : decode cL_areAlike 126 = .ok (.aload_n 1, 1) := by decide +kernel
theorem dL_areAlike_127 : decode cL_areAlike 127 = .ok (.iload 4, 2) := by decide +kernel
theorem dL_areAlike_129 : decode cL_areAlike 129 = .ok (.invokestatic 109, 3) := by decide +kernel
theorem dL_areAlike_132 : decode cL_areAlike 132 = .ok (.lcmp, 1) := by decide +kernel
theorem dL_areAlike_133 : decode cL_areAlike 133 = .ok (.ifCond .ne 7, 3) := by decide +kernel
theorem dL_areAlike_136 : decode cL_areAlike 136 = .ok (.iconst 1, 1) := by decide +kernel
theorem dL_areAlike_137 : decode cL_areAlike 137 = .ok (.goto 4, 3) := by decide +kernel
theorem dL_areAlike_140 : decode cL_areAlike 140 = .ok (.iconst 0, 1) := by decide +kernel
theorem dL_areAlike_141 : decode cL_areAlike 141 = .ok (.istore_n 3, 1) := by decide +kernel
theorem dL_areAlike_142 : decode cL_areAlike 142 = .ok (.iinc 4 1, 3) := by decide +kernel
theorem dL_areAlike_145 : decode cL_areAlike 145 = .ok (.goto (-98), 3) := by decide +kernel
theorem dL_areAlike_148 : decode cL_areAlike 148 = .ok (.iload_n 3, 1) := by decide +kernel
theorem dL_areAlike_149 : decode cL_areAlike 149 = .ok (.ireturn, 1) := by decide +kernel
set_option maxRecDepth 20000 in
theorem ggL_isSo_X5_toRead : GoodIn wsL_isSo wsX5_toRead := goodIn_ca (goodIn_r _ [7, 8, 9, 10, 6, 11, 12, 13, 14, 15, 16, 17, 18, 19, 20, 21, 22, 23, 24, 25, 26, 27, 28, 29, 30, 31, 32, 33, 244, 245, 246, 247, 248, 249, 250, 251, 252, 253, 254, 255] (by decide +kernel) (by decide +kernel)) (goodIn_sub (fun _ h => List.mem_cons_of_mem _ (List.mem_append_left _ (List.mem_append_left _ (List.mem_append_right _ h)))) (by decide +kernel))
set_option maxRecDepth 20000 in
theorem gL_isSo_X5_toRead : GoodIn wsL_isSo (wsV RL 37 RX5 yX5_toRead wsX5_toRead) := goodIn_app (goodIn_of _ (by decide +kernel)) ggL_isSo_X5_toRead
set_option maxRecDepth 20000 in
theorem ggL_isSo_X5_count : GoodIn wsL_isSo wsX5_count := goodIn_ca (goodIn_ca (goodIn_r _ [37, 38, 9, 10, 6, 11, 12, 13, 14, 15, 16, 39, 40, 41, 42, 43, 44, 45, 46, 47, 48, 49, 50, 51, 52, 53, 54, 55, 56, 57, 58, 59, 60, 61, 62, 63, 32, 33, 23, 24, 25, 64, 65, 66, 67, 244, 245, 246, 247, 248, 249, 250, 251, 252, 256, 257, 258, 259, 260, 261, 262, 263, 264, 265, 266, 267] (by decide +kernel) (by decide +kernel)) (goodIn_sub (fun _ h => List.mem_cons_of_mem _ (List.mem_append_left _ (List.mem_append_left _ (List.mem_append_right _ h)))) (by decide +kernel))) (goodIn_sub (fun _ h => List.mem_cons_of_mem _ (List.mem_append_left _ (List.mem_append_right _ h))) (by decide +kernel))
set_option maxRecDepth 20000 in
theorem gL_isSo_X5_count : GoodIn wsL_isSo (wsV RL 48 RX5 yX5_count wsX5_count) := goodIn_app (goodIn_of _ (by decide +kernel)) ggL_isSo_X5_count
set_option maxRecDepth 20000 in
theorem ggL_isSo_X5_belief : GoodIn wsL_isSo wsX5_belief := goodIn_ca (goodIn_ca (goodIn_r _ [71, 72, 9, 10, 6, 11, 12, 13, 14, 15, 16, 39, 40, 41, 42, 43, 44, 45, 73, 74, 75, 76, 77, 78, 23, 24, 25, 64, 65, 66, 57, 67, 59, 32, 33, 244, 245, 246, 247, 248, 249, 250, 251, 252, 268, 269, 270, 267] (by decide +kernel) (by decide +kernel)) (goodIn_sub (fun _ h => List.mem_cons_of_mem _ (List.mem_append_left _ (List.mem_append_left _ (List.mem_append_right _ h)))) (by decide +kernel))) (goodIn_sub (fun _ h => List.mem_cons_of_mem _ (List.mem_append_left _ (List.mem_append_right _ h))) (by decide +kernel))
set_option maxRecDepth 20000 in
theorem gL_isSo_X5_belief : GoodIn wsL_isSo (wsV RL 51 RX5 yX5_belief wsX5_belief) := goodIn_app (goodIn_of _ (by decide +kernel)) ggL_isSo_X5_belief
set_option maxRecDepth 20000 in
theorem ggL_isSo_X5_beliefAnew : GoodIn wsL_isSo wsX5_beliefAnew := goodIn_ca (goodIn_ca (goodIn_r _ [82, 83, 9, 10, 6, 11, 12, 13, 14, 15, 16, 39, 40, 41, 42, 43, 44, 45, 84, 85, 86, 87, 88, 89, 90, 91, 92, 93, 76, 94, 78, 95, 96, 97, 98, 29, 99, 100, 32, 33, 101, 102, 103, 57, 104, 59, 105, 106, 107, 108, 109, 110, 111, 112, 113, 114, 115, 116, 117, 118, 119, 120, 121, 122, 123, 124, 65, 66, 67, 125, 126, 127, 128, 129, 21, 22, 24, 25, 130, 131, 132, 133, 134, 135, 136, 137, 138, 27, 28, 30, 31, 139, 140, 141, 142, 143, 144, 145, 146, 147, 148, 149, 150, 151, 152, 153, 154, 155, 156, 157, 158, 159, 160, 161, 162, 163, 164, 165, 166, 167, 168, 73, 74, 75, 77, 23, 64, 244, 245, 246, 247, 248, 249, 250, 251, 252, 268, 269, 270, 253, 254, 255, 267] (by decide +kernel) (by decide +kernel)) (goodIn_sub (fun _ h => List.mem_cons_of_mem _ (List.mem_append_left _ (List.mem_append_left _ (List.mem_append_right _ h)))) (by decide +kernel))) (goodIn_sub (fun _ h => List.mem_cons_of_mem _ (List.mem_append_left _ (List.mem_append_right _ h))) (by decide +kernel))
set_option maxRecDepth 20000 in
theorem gL_isSo_X5_beliefAnew : GoodIn wsL_isSo (wsV RL 55 RX5 yX5_beliefAnew wsX5_beliefAnew) := goodIn_app (goodIn_of _ (by decide +kernel)) ggL_isSo_X5_beliefAnew
set_option maxRecDepth 20000 in
theorem ggL_isSo_X5_best : GoodIn wsL_isSo wsX5_best := goodIn_ca (goodIn_ca (goodIn_r _ [172, 12, 13, 72, 39, 40, 41, 6, 42, 43, 44, 45, 73, 74, 75, 76, 77, 78, 173, 174, 175, 57, 176, 59, 177, 178, 179, 180, 181, 65, 66, 67, 32, 33, 244, 245, 246, 247, 248, 249, 250, 251, 252, 268, 269, 270, 267] (by decide +kernel) (by decide +kernel)) (goodIn_sub (fun _ h => List.mem_cons_of_mem _ (List.mem_append_left _ (List.mem_append_left _ (List.mem_append_right _ h)))) (by decide +kernel))) (goodIn_sub (fun _ h => List.mem_cons_of_mem _ (List.mem_append_left _ (List.mem_append_right _ h))) (by decide +kernel))
set_option maxRecDepth 20000 in
theorem gL_isSo_X5_best : GoodIn wsL_isSo (wsV RL 70 RX5 yX5_best wsX5_best) := goodIn_app (goodIn_of _ (by decide +kernel)) ggL_isSo_X5_best
set_option maxRecDepth 20000 in
theorem ggL_isSo_X5_samples : GoodIn wsL_isSo wsX5_samples := goodIn_ca (goodIn_r _ [185, 38, 39, 40, 41, 6, 42, 43, 44, 45, 186, 187, 188, 49, 189, 52, 244, 245, 246, 247, 248, 249, 250, 251, 252, 256, 257, 258, 259, 260, 261, 262, 263, 264, 265, 266] (by decide +kernel) (by decide +kernel)) (goodIn_sub (fun _ h => List.mem_cons_of_mem _ (List.mem_append_left _ (List.mem_append_right _ h))) (by decide +kernel))
set_option maxRecDepth 20000 in
theorem gL_isSo_X5_samples : GoodIn wsL_isSo (wsV RL 41 RX5 yX5_samples wsX5_samples) := goodIn_app (goodIn_of _ (by decide +kernel)) ggL_isSo_X5_samples
set_option maxRecDepth 20000 in
theorem ggL_isSo_X5_mode : GoodIn wsL_isSo wsX5_mode := goodIn_ca (goodIn_r _ [193, 39, 40, 41, 6, 42, 43, 44, 45, 194, 195, 196, 197, 38, 72, 46, 47, 48, 49, 50, 51, 52, 53, 54, 55, 56, 57, 58, 59, 60, 61, 62, 63, 32, 33, 73, 74, 75, 76, 77, 78, 198, 199, 200, 201, 202, 146, 147, 148, 149, 150, 136, 151, 244, 245, 246, 247, 248, 249, 250, 251, 252, 256, 257, 258, 259, 260, 261, 262, 263, 264, 265, 266, 267, 268, 269, 270] (by decide +kernel) (by decide +kernel)) (goodIn_sub (fun _ h => List.mem_cons_of_mem _ (List.mem_append_left _ (List.mem_append_right _ h))) (by decide +kernel))
set_option maxRecDepth 20000 in
theorem gL_isSo_X5_mode : GoodIn wsL_isSo (wsV RL 58 RX5 yX5_mode wsX5_mode) := goodIn_app (goodIn_of _ (by decide +kernel)) ggL_isSo_X5_mode
set_option maxRecDepth 20000 in
theorem ggL_isSo_X5_share : GoodIn wsL_isSo wsX5_share := goodIn_ca (goodIn_ca (goodIn_ca (goodIn_r _ [206, 207, 208, 209, 9, 10, 6, 11, 12, 13, 14, 15, 16, 39, 40, 41, 42, 43, 44, 45, 194, 195, 196, 197, 38, 72, 46, 47, 48, 49, 50, 51, 52, 53, 54, 55, 56, 57, 58, 59, 60, 61, 62, 63, 32, 33, 73, 74, 75, 76, 77, 78, 210, 211, 212, 213, 214, 215, 216, 217, 218, 219, 220, 221, 244, 245, 246, 247, 248, 249, 250, 251, 252, 256, 257, 258, 259, 260, 261, 262, 263, 264, 265, 266, 267, 268, 269, 270] (by decide +kernel) (by decide +kernel)) (goodIn_sub (fun _ h => List.mem_cons_of_mem _ (List.mem_append_right _ h)) (by decide +kernel))) (goodIn_sub (fun _ h => List.mem_cons_of_mem _ (List.mem_append_left _ (List.mem_append_left _ (List.mem_append_right _ h)))) (by decide +kernel))) (goodIn_sub (fun _ h => List.mem_cons_of_mem _ (List.mem_append_left _ (List.mem_append_right _ h))) (by decide +kernel))
set_option maxRecDepth 20000 in
theorem gL_isSo_X5_share : GoodIn wsL_isSo (wsV RL 66 RX5 yX5_share wsX5_share) := goodIn_app (goodIn_of _ (by decide +kernel)) ggL_isSo_X5_share
set_option maxRecDepth 20000 in
theorem ggL_isSo_X5_doubt : GoodIn wsL_isSo wsX5_doubt := goodIn_ca (goodIn_r _ [225, 38, 39, 40, 41, 6, 42, 43, 44, 45, 226, 227, 228, 49, 229, 230, 244, 245, 246, 247, 248, 249, 250, 251, 252, 256, 257, 258, 259, 260, 261, 262, 263, 264, 265, 266] (by decide +kernel) (by decide +kernel)) (goodIn_sub (fun _ h => List.mem_cons_of_mem _ (List.mem_append_left _ (List.mem_append_right _ h))) (by decide +kernel))
set_option maxRecDepth 20000 in
theorem gL_isSo_X5_doubt : GoodIn wsL_isSo (wsV RL 73 RX5 yX5_doubt wsX5_doubt) := goodIn_app (goodIn_of _ (by decide +kernel)) ggL_isSo_X5_doubt
set_option maxRecDepth 20000 in
theorem ggL_isSo_L_sample : GoodIn wsL_isSo wsL_sample := goodIn_ca (goodIn_r _ [234, 235, 2, 236, 237, 238, 6, 239, 12, 13, 38, 186, 187, 188, 49, 189, 52, 240, 241, 242, 243, 53, 244, 245, 246, 247, 248, 249, 250, 251, 252, 256, 257, 258, 259, 260, 261, 262, 263, 264, 265, 266] (by decide +kernel) (by decide +kernel)) (goodIn_sub (fun _ h => List.mem_cons_of_mem _ (List.mem_append_left _ (List.mem_append_left _ (List.mem_append_right _ h)))) (by decide +kernel))
set_option maxRecDepth 20000 in
theorem gL_isSo_L_sample : GoodIn wsL_isSo (va_wsS RL 98 yL_sample wsL_sample) := goodIn_app (goodIn_of _ (by decide +kernel)) ggL_isSo_L_sample
theorem dL_isSo_0 : decode cL_isSo 0 = .ok (.iconst 0, 1) := by decide +kernel
theorem dL_isSo_1 : decode cL_isSo 1 = .ok (.istore_n 1, 1) := by decide +kernel
theorem dL_isSo_2 : decode cL_isSo 2 = .ok (.iconst 1, 1) := by decide +kernel
theorem dL_isSo_3 : decode cL_isSo 3 = .ok (.istore_n 2, 1) := by decide +kernel
theorem dL_isSo_4 : decode cL_isSo 4 = .ok (.iconst 0, 1) := by decide +kernel
theorem dL_isSo_5 : decode cL_isSo 5 = .ok (.istore_n 3, 1) := by decide +kernel
theorem dL_isSo_6 : decode cL_isSo 6 = .ok (.iload_n 3, 1) := by decide +kernel
theorem dL_isSo_7 : decode cL_isSo 7 = .ok (.bipush 64, 2) := by decide +kernel
theorem dL_isSo_9 : decode cL_isSo 9 = .ok (.if_icmp .ge 146, 3) := by decide +kernel
theorem dL_isSo_12 : decode cL_isSo 12 = .ok (.iload_n 2, 1) := by decide +kernel
theorem dL_isSo_13 : decode cL_isSo 13 = .ok (.ifCond .eq 142, 3) := by decide +kernel
theorem dL_isSo_16 : decode cL_isSo 16 = .ok (.iload_n 3, 1) := by decide +kernel
theorem dL_isSo_17 : decode cL_isSo 17 = .ok (.bipush 8, 2) := by decide +kernel
theorem dL_isSo_19 : decode cL_isSo 19 = .ok (.irem, 1) := by decide +kernel
theorem dL_isSo_20 : decode cL_isSo 20 = .ok (.istore 4, 2) := by decide +kernel
theorem dL_isSo_22 : decode cL_isSo 22 = .ok (.iload_n 3, 1) := by decide +kernel
theorem dL_isSo_23 : decode cL_isSo 23 = .ok (.bipush 8, 2) := by decide +kernel
theorem dL_isSo_25 : decode cL_isSo 25 = .ok (.idiv, 1) := by decide +kernel
theorem dL_isSo_26 : decode cL_isSo 26 = .ok (.istore 5, 2) := by decide +kernel
theorem dL_isSo_28 : decode cL_isSo 28 = .ok (.aload_n 0, 1) := by decide +kernel
theorem dL_isSo_29 : decode cL_isSo 29 = .ok (.iload 4, 2) := by decide +kernel
theorem dL_isSo_31 : decode cL_isSo 31 = .ok (.iload 5, 2) := by decide +kernel
theorem dL_isSo_33 : decode cL_isSo 33 = .ok (.iconst 0, 1) := by decide +kernel
theorem dL_isSo_34 : decode cL_isSo 34 = .ok (.invokevirtual 37, 3) := by decide +kernel
theorem dL_isSo_37 : decode cL_isSo 37 = .ok (.iconst (-1), 1) := by decide +kernel
theorem dL_isSo_38 : decode cL_isSo 38 = .ok (.if_icmp .ne 7, 3) := by decide +kernel
theorem dL_isSo_41 : decode cL_isSo 41 = .ok (.iconst 1, 1) := by decide +kernel
theorem dL_isSo_42 : decode cL_isSo 42 = .ok (.goto 4, 3) := by decide +kernel
theorem dL_isSo_45 : decode cL_isSo 45 = .ok (.iconst 0, 1) := by decide +kernel
theorem dL_isSo_46 : decode cL_isSo 46 = .ok (.istore 6, 2) := by decide +kernel
theorem dL_isSo_48 : decode cL_isSo 48 = .ok (.iload_n 1, 1) := by decide +kernel
theorem dL_isSo_49 : decode cL_isSo 49 = .ok (.aload_n 0, 1) := by decide +kernel
theorem dL_isSo_50 : decode cL_isSo 50 = .ok (.iload 4, 2) := by decide +kernel
theorem dL_isSo_52 : decode cL_isSo 52 = .ok (.iload 5, 2) := by decide +kernel
theorem dL_isSo_54 : decode cL_isSo 54 = .ok (.invokevirtual 48, 3) := by decide +kernel
theorem dL_isSo_57 : decode cL_isSo 57 = .ok (.iadd, 1) := by decide +kernel
theorem dL_isSo_58 : decode cL_isSo 58 = .ok (.istore_n 1, 1) := by decide +kernel
theorem dL_isSo_59 : decode cL_isSo 59 = .ok (.aload_n 0, 1) := by decide +kernel
theorem dL_isSo_60 : decode cL_isSo 60 = .ok (.iload 4, 2) := by decide +kernel
theorem dL_isSo_62 : decode cL_isSo 62 = .ok (.iload 5, 2) := by decide +kernel
theorem dL_isSo_64 : decode cL_isSo 64 = .ok (.invokevirtual 51, 3) := by decide +kernel
theorem dL_isSo_67 : decode cL_isSo 67 = .ok (.lconst 0, 1) := by decide +kernel
theorem dL_isSo_68 : decode cL_isSo 68 = .ok (.lcmp, 1) := by decide +kernel
theorem dL_isSo_69 : decode cL_isSo 69 = .ok (.ifCond .lt 78, 3) := by decide +kernel
theorem dL_isSo_72 : decode cL_isSo 72 = .ok (.aload_n 0, 1) := by decide +kernel
theorem dL_isSo_73 : decode cL_isSo 73 = .ok (.iload 4, 2) := by decide +kernel
theorem dL_isSo_75 : decode cL_isSo 75 = .ok (.iload 5, 2) := by decide +kernel
theorem dL_isSo_77 : decode cL_isSo 77 = .ok (.invokevirtual 51, 3) := by decide +kernel
theorem dL_isSo_80 : decode cL_isSo 80 = .ok (.ldc2_w 118, 3) := by decide +kernel
theorem dL_isSo_83 : decode cL_isSo 83 = .ok (.lcmp, 1) := by decide +kernel
theorem dL_isSo_84 : decode cL_isSo 84 = .ok (.ifCond .gt 63, 3) := by decide +kernel
theorem dL_isSo_87 : decode cL_isSo 87 = .ok (.iload 6, 2) := by decide +kernel
theorem dL_isSo_89 : decode cL_isSo 89 = .ok (.ifCond .eq 27, 3) := by decide +kernel
theorem dL_isSo_92 : decode cL_isSo 92 = .ok (.aload_n 0, 1) := by decide +kernel
theorem dL_isSo_93 : decode cL_isSo 93 = .ok (.iload 4, 2) := by decide +kernel
theorem dL_isSo_95 : decode cL_isSo 95 = .ok (.iload 5, 2) := by decide +kernel
theorem dL_isSo_97 : decode cL_isSo 97 = .ok (.invokevirtual 51, 3) := by decide +kernel
theorem dL_isSo_100 : decode cL_isSo 100 = .ok (.lconst 0, 1) := by decide +kernel
theorem dL_isSo_101 : decode cL_isSo 101 = .ok (.lcmp, 1) := by decide +kernel
theorem dL_isSo_102 : decode cL_isSo 102 = .ok (.ifCond .ne 45, 3) := by decide +kernel
theorem dL_isSo_105 : decode cL_isSo 105 = .ok (.aload_n 0, 1) := by decide +kernel
theorem dL_isSo_106 : decode cL_isSo 106 = .ok (.iload 4, 2) := by decide +kernel
theorem dL_isSo_108 : decode cL_isSo 108 = .ok (.iload 5, 2) := by decide +kernel
theorem dL_isSo_110 : decode cL_isSo 110 = .ok (.invokevirtual 48, 3) := by decide +kernel
theorem dL_isSo_113 : decode cL_isSo 113 = .ok (.ifCond .ne 34, 3) := by decide +kernel
theorem dL_isSo_116 : decode cL_isSo 116 = .ok (.iload_n 3, 1) := by decide +kernel
theorem dL_isSo_117 : decode cL_isSo 117 = .ok (.bipush 16, 2) := by decide +kernel
theorem dL_isSo_119 : decode cL_isSo 119 = .ok (.irem, 1) := by decide +kernel
theorem dL_isSo_120 : decode cL_isSo 120 = .ok (.ifCond .gt 23, 3) := by decide +kernel
theorem dL_isSo_123 : decode cL_isSo 123 = .ok (.aload_n 0, 1) := by decide +kernel
theorem dL_isSo_124 : decode cL_isSo 124 = .ok (.iload 4, 2) := by decide +kernel
theorem dL_isSo_126 : decode cL_isSo 126 = .ok (.iload 5, 2) := by decide +kernel
theorem dL_isSo_128 : decode cL_isSo 128 = .ok (.invokevirtual 55, 3) := by decide +kernel
theorem dL_isSo_131 : decode cL_isSo 131 = .ok (.aload_n 0, 1) := by decide +kernel
theorem dL_isSo_132 : decode cL_isSo 132 = .ok (.iload 4, 2) := by decide +kernel
theorem dL_isSo_134 : decode cL_isSo 134 = .ok (.iload 5, 2) := by decide +kernel
theorem dL_isSo_136 : decode cL_isSo 136 = .ok (.invokevirtual 51, 3) := by decide +kernel
theorem dL_isSo_139 : decode cL_isSo 139 = .ok (.lcmp, 1) := by decide +kernel
theorem dL_isSo_140 : decode cL_isSo 140 = .ok (.ifCond .ne 7, 3) := by decide +kernel
theorem dL_isSo_143 : decode cL_isSo 143 = .ok (.iconst 1, 1) := by decide +kernel
theorem dL_isSo_144 : decode cL_isSo 144 = .ok (.goto 4, 3) := by decide +kernel
theorem dL_isSo_147 : decode cL_isSo 147 = .ok (.iconst 0, 1) := by decide +kernel
theorem dL_isSo_148 : decode cL_isSo 148 = .ok (.istore_n 2, 1) := by decide +kernel
theorem dL_isSo_149 : decode cL_isSo 149 = .ok (.iinc 3 1, 3) := by decide +kernel
theorem dL_isSo_152 : decode cL_isSo 152 = .ok (.goto (-146), 3) := by decide +kernel
theorem dL_isSo_155 : decode cL_isSo 155 = .ok (.iconst 0, 1) := by decide +kernel
theorem dL_isSo_156 : decode cL_isSo 156 = .ok (.istore_n 3, 1) := by decide +kernel
theorem dL_isSo_157 : decode cL_isSo 157 = .ok (.iload_n 3, 1) := by decide +kernel
theorem dL_isSo_158 : decode cL_isSo 158 = .ok (.bipush 8, 2) := by decide +kernel
theorem dL_isSo_160 : decode cL_isSo 160 = .ok (.if_icmp .ge 116, 3) := by decide +kernel
theorem dL_isSo_163 : decode cL_isSo 163 = .ok (.iload_n 2, 1) := by decide +kernel
theorem dL_isSo_164 : decode cL_isSo 164 = .ok (.ifCond .eq 112, 3) := by decide +kernel
theorem dL_isSo_167 : decode cL_isSo 167 = .ok (.aload_n 0, 1) := by decide +kernel
theorem dL_isSo_168 : decode cL_isSo 168 = .ok (.iload_n 3, 1) := by decide +kernel
theorem dL_isSo_169 : decode cL_isSo 169 = .ok (.invokevirtual 70, 3) := by decide +kernel
theorem dL_isSo_172 : decode cL_isSo 172 = .ok (.istore 4, 2) := by decide +kernel
theorem dL_isSo_174 : decode cL_isSo 174 = .ok (.aload_n 0, 1) := by decide +kernel
theorem dL_isSo_175 : decode cL_isSo 175 = .ok (.iload_n 3, 1) := by decide +kernel
theorem dL_isSo_176 : decode cL_isSo 176 = .ok (.iconst 1, 1) := by decide +kernel
theorem dL_isSo_177 : decode cL_isSo 177 = .ok (.iadd, 1) := by decide +kernel
theorem dL_isSo_178 : decode cL_isSo 178 = .ok (.invokevirtual 70, 3) := by decide +kernel
theorem dL_isSo_181 : decode cL_isSo 181 = .ok (.istore 5, 2) := by decide +kernel
theorem dL_isSo_183 : decode cL_isSo 183 = .ok (.iload 5, 2) := by decide +kernel
theorem dL_isSo_185 : decode cL_isSo 185 = .ok (.ifCond .lt 79, 3) := by decide +kernel
theorem dL_isSo_188 : decode cL_isSo 188 = .ok (.iload 4, 2) := by decide +kernel
theorem dL_isSo_190 : decode cL_isSo 190 = .ok (.ifCond .lt 78, 3) := by decide +kernel
theorem dL_isSo_193 : decode cL_isSo 193 = .ok (.aload_n 0, 1) := by decide +kernel
theorem dL_isSo_194 : decode cL_isSo 194 = .ok (.iload 4, 2) := by decide +kernel
theorem dL_isSo_196 : decode cL_isSo 196 = .ok (.bipush 8, 2) := by decide +kernel
theorem dL_isSo_198 : decode cL_isSo 198 = .ok (.irem, 1) := by decide +kernel
theorem dL_isSo_199 : decode cL_isSo 199 = .ok (.iload 4, 2) := by decide +kernel
theorem dL_isSo_201 : decode cL_isSo 201 = .ok (.bipush 8, 2) := by decide +kernel
theorem dL_isSo_203 : decode cL_isSo 203 = .ok (.idiv, 1) := by decide +kernel
theorem dL_isSo_204 : decode cL_isSo 204 = .ok (.invokevirtual 51, 3) := by decide +kernel
theorem dL_isSo_207 : decode cL_isSo 207 = .ok (.aload_n 0, 1) := by decide +kernel
theorem dL_isSo_208 : decode cL_isSo 208 = .ok (.iload 5, 2) := by decide +kernel
theorem dL_isSo_210 : decode cL_isSo 210 = .ok (.bipush 8, 2) := by decide +kernel
theorem dL_isSo_212 : decode cL_isSo 212 = .ok (.irem, 1) := by decide +kernel
theorem dL_isSo_213 : decode cL_isSo 213 = .ok (.iload 5, 2) := by decide +kernel
theorem dL_isSo_215 : decode cL_isSo 215 = .ok (.bipush 8, 2) := by decide +kernel
theorem dL_isSo_217 : decode cL_isSo 217 = .ok (.idiv, 1) := by decide +kernel
theorem dL_isSo_218 : decode cL_isSo 218 = .ok (.invokevirtual 51, 3) := by decide +kernel
theorem dL_isSo_221 : decode cL_isSo 221 = .ok (.lcmp, 1) := by decide +kernel
theorem dL_isSo_222 : decode cL_isSo 222 = .ok (.ifCond .gt 42, 3) := by decide +kernel
theorem dL_isSo_225 : decode cL_isSo 225 = .ok (.aload_n 0, 1) := by decide +kernel
theorem dL_isSo_226 : decode cL_isSo 226 = .ok (.iload 4, 2) := by decide +kernel
theorem dL_isSo_228 : decode cL_isSo 228 = .ok (.bipush 8, 2) := by decide +kernel
theorem dL_isSo_230 : decode cL_isSo 230 = .ok (.irem, 1) := by decide +kernel
theorem dL_isSo_231 : decode cL_isSo 231 = .ok (.iload 4, 2) := by decide +kernel
theorem dL_isSo_233 : decode cL_isSo 233 = .ok (.bipush 8, 2) := by decide +kernel
theorem dL_isSo_235 : decode cL_isSo 235 = .ok (.idiv, 1) := by decide +kernel
theorem dL_isSo_236 : decode cL_isSo 236 = .ok (.invokevirtual 51, 3) := by decide +kernel
theorem dL_isSo_239 : decode cL_isSo 239 = .ok (.aload_n 0, 1) := by decide +kernel
theorem dL_isSo_240 : decode cL_isSo 240 = .ok (.iload 5, 2) := by decide +kernel
theorem dL_isSo_242 : decode cL_isSo 242 = .ok (.bipush 8, 2) := by decide +kernel
theorem dL_isSo_244 : decode cL_isSo 244 = .ok (.irem, 1) := by decide +kernel
theorem dL_isSo_245 : decode cL_isSo 245 = .ok (.iload 5, 2) := by decide +kernel
theorem dL_isSo_247 : decode cL_isSo 247 = .ok (.bipush 8, 2) := by decide +kernel
theorem dL_isSo_249 : decode cL_isSo 249 = .ok (.idiv, 1) := by decide +kernel
theorem dL_isSo_250 : decode cL_isSo 250 = .ok (.invokevirtual 51, 3) := by decide +kernel
theorem dL_isSo_253 : decode cL_isSo 253 = .ok (.lcmp, 1) := by decide +kernel
theorem dL_isSo_254 : decode cL_isSo 254 = .ok (.ifCond .ne 14, 3) := by decide +kernel
theorem dL_isSo_257 : decode cL_isSo 257 = .ok (.iload 4, 2) := by decide +kernel
theorem dL_isSo_259 : decode cL_isSo 259 = .ok (.iload 5, 2) := by decide +kernel
theorem dL_isSo_261 : decode cL_isSo 261 = .ok (.if_icmp .ge 7, 3) := by decide +kernel
theorem dL_isSo_264 : decode cL_isSo 264 = .ok (.iconst 1, 1) := by decide +kernel
theorem dL_isSo_265 : decode cL_isSo 265 = .ok (.goto 4, 3) := by decide +kernel
theorem dL_isSo_268 : decode cL_isSo 268 = .ok (.iconst 0, 1) := by decide +kernel
theorem dL_isSo_269 : decode cL_isSo 269 = .ok (.istore_n 2, 1) := by decide +kernel
theorem dL_isSo_270 : decode cL_isSo 270 = .ok (.iinc 3 1, 3) := by decide +kernel
theorem dL_isSo_273 : decode cL_isSo 273 = .ok (.goto (-116), 3) := by decide +kernel
theorem dL_isSo_276 : decode cL_isSo 276 = .ok (.iload_n 2, 1) := by decide +kernel
theorem dL_isSo_277 : decode cL_isSo 277 = .ok (.ifCond .eq 91, 3) := by decide +kernel
theorem dL_isSo_280 : decode cL_isSo 280 = .ok (.iload_n 1, 1) := by decide +kernel
theorem dL_isSo_281 : decode cL_isSo 281 = .ok (.aload_n 0, 1) := by decide +kernel
theorem dL_isSo_282 : decode cL_isSo 282 = .ok (.invokevirtual 41, 3) := by decide +kernel
theorem dL_isSo_285 : decode cL_isSo 285 = .ok (.if_icmp .ne 83, 3) := by decide +kernel
theorem dL_isSo_288 : decode cL_isSo 288 = .ok (.aload_n 0, 1) := by decide +kernel
theorem dL_isSo_289 : decode cL_isSo 289 = .ok (.iconst 0, 1) := by decide +kernel
theorem dL_isSo_290 : decode cL_isSo 290 = .ok (.invokevirtual 70, 3) := by decide +kernel
theorem dL_isSo_293 : decode cL_isSo 293 = .ok (.aload_n 0, 1) := by decide +kernel
theorem dL_isSo_294 : decode cL_isSo 294 = .ok (.iconst 0, 1) := by decide +kernel
theorem dL_isSo_295 : decode cL_isSo 295 = .ok (.invokevirtual 58, 3) := by decide +kernel
theorem dL_isSo_298 : decode cL_isSo 298 = .ok (.if_icmp .ne 70, 3) := by decide +kernel
theorem dL_isSo_301 : decode cL_isSo 301 = .ok (.aload_n 0, 1) := by decide +kernel
theorem dL_isSo_302 : decode cL_isSo 302 = .ok (.iconst 0, 1) := by decide +kernel
theorem dL_isSo_303 : decode cL_isSo 303 = .ok (.iconst 0, 1) := by decide +kernel
theorem dL_isSo_304 : decode cL_isSo 304 = .ok (.bipush 7, 2) := by decide +kernel
theorem dL_isSo_306 : decode cL_isSo 306 = .ok (.bipush 7, 2) := by decide +kernel
theorem dL_isSo_308 : decode cL_isSo 308 = .ok (.iconst 1, 1) := by decide +kernel
theorem dL_isSo_309 : decode cL_isSo 309 = .ok (.invokevirtual 66, 3) := by decide +kernel
theorem dL_isSo_312 : decode cL_isSo 312 = .ok (.sipush 1000, 3) := by decide +kernel
theorem dL_isSo_315 : decode cL_isSo 315 = .ok (.if_icmp .ne 53, 3) := by decide +kernel
theorem dL_isSo_318 : decode cL_isSo 318 = .ok (.aload_n 0, 1) := by decide +kernel
theorem dL_isSo_319 : decode cL_isSo 319 = .ok (.iconst 0, 1) := by decide +kernel
theorem dL_isSo_320 : decode cL_isSo 320 = .ok (.iconst 0, 1) := by decide +kernel
theorem dL_isSo_321 : decode cL_isSo 321 = .ok (.bipush 7, 2) := by decide +kernel
theorem dL_isSo_323 : decode cL_isSo 323 = .ok (.bipush 7, 2) := by decide +kernel
theorem dL_isSo_325 : decode cL_isSo 325 = .ok (.iconst 0, 1) := by decide +kernel
theorem dL_isSo_326 : decode cL_isSo 326 = .ok (.invokevirtual 66, 3) := by decide +kernel
theorem dL_isSo_329 : decode cL_isSo 329 = .ok (.sipush 1000, 3) := by decide +kernel
theorem dL_isSo_332 : decode cL_isSo 332 = .ok (.if_icmp .ne 36, 3) := by decide +kernel
theorem dL_isSo_335 : decode cL_isSo 335 = .ok (.aload_n 0, 1) := by decide +kernel
theorem dL_isSo_336 : decode cL_isSo 336 = .ok (.invokevirtual 73, 3) := by decide +kernel
theorem dL_isSo_339 : decode cL_isSo 339 = .ok (.ifCond .lt 29, 3) := by decide +kernel
theorem dL_isSo_342 : decode cL_isSo 342 = .ok (.aload_n 0, 1) := by decide +kernel
theorem dL_isSo_343 : decode cL_isSo 343 = .ok (.invokevirtual 73, 3) := by decide +kernel
theorem dL_isSo_346 : decode cL_isSo 346 = .ok (.sipush 256, 3) := by decide +kernel
theorem dL_isSo_349 : decode cL_isSo 349 = .ok (.if_icmp .gt 19, 3) := by decide +kernel
theorem dL_isSo_352 : decode cL_isSo 352 = .ok (.aload_n 0, 1) := by decide +kernel
theorem dL_isSo_353 : decode cL_isSo 353 = .ok (.iload_n 1, 1) := by decide +kernel
theorem dL_isSo_354 : decode cL_isSo 354 = .ok (.invokestatic 98, 3) := by decide +kernel
theorem dL_isSo_357 : decode cL_isSo 357 = .ok (.ldc2_w 16, 3) := by decide +kernel
theorem dL_isSo_360 : decode cL_isSo 360 = .ok (.lcmp, 1) := by decide +kernel
theorem dL_isSo_361 : decode cL_isSo 361 = .ok (.ifCond .ne 7, 3) := by decide +kernel
theorem dL_isSo_364 : decode cL_isSo 364 = .ok (.iconst 1, 1) := by decide +kernel
theorem dL_isSo_365 : decode cL_isSo 365 = .ok (.goto 4, 3) := by decide +kernel
theorem dL_isSo_368 : decode cL_isSo 368 = .ok (.iconst 0, 1) := by decide +kernel
theorem dL_isSo_369 : decode cL_isSo 369 = .ok (.ireturn, 1) := by decide +kernel
set_option maxRecDepth 20000 in
theorem ggL_law_X5_init : GoodIn wsL_law wsX5_init := goodIn_r _ [6, 7, 8, 9, 10, 11, 12, 13, 14, 15, 16, 17, 18, 19, 20, 21, 22, 23, 24, 25, 26, 27, 28, 29, 30, 31, 32, 33, 34, 35, 36, 37, 38, 39, 40, 41, 42, 43, 44, 45, 46, 47, 48, 49, 50, 51, 52, 53, 2, 54, 55, 56, 57, 58, 59, 60, 61, 62, 63, 64, 65, 66, 67, 68, 69, 70, 71, 72, 73, 74, 75, 76, 77, 78, 79, 80, 81, 82, 83, 84, 85, 86, 87, 88, 89, 90, 91, 92, 93, 94, 95, 96, 97, 98, 481, 482, 483, 472, 473, 474, 475, 476, 477, 478, 479, 480, 484, 485, 486, 487, 488, 489, 490, 491, 492, 493, 494, 495, 496, 497, 498, 499] (by decide +kernel) (by decide +kernel)
set_option maxRecDepth 20000 in
theorem gL_law_X5_init : GoodIn wsL_law (wsX5_init) := ggL_law_X5_init
set_option maxRecDepth 20000 in
theorem ggL_law_L_cell : GoodIn wsL_law wsL_cell := goodIn_r _ [102] (by decide +kernel) (by decide +kernel)
set_option maxRecDepth 20000 in
theorem gL_law_L_cell : GoodIn wsL_law (va_wsS RL 121 yL_cell wsL_cell) := goodIn_app (goodIn_of _ (by decide +kernel)) ggL_law_L_cell
theorem goodIn_cons {big a : List Cond} {c : Cond} (h1 : GoodIn big [c]) (h2 : GoodIn big a) : GoodIn big (c :: a) := fun w h => (List.mem_cons.mp h).elim (fun e => h1 w (List.mem_cons.mpr (Or.inl e))) (h2 w)
set_option maxRecDepth 20000 in
theorem ggL_act_c : GoodIn wsL_law [.code yL_act cL_act 8 (some .long)] := goodIn_r _ [105] (by decide +kernel) (by decide +kernel)
set_option maxRecDepth 20000 in
theorem ggL_act_r1 : GoodIn wsL_law wsL_act_r1 := goodIn_r _ [106, 107, 108, 101, 109, 110, 111, 112, 113, 114, 115, 3, 116, 117, 118, 2, 119, 120, 121, 13, 31, 122, 123, 124] (by decide +kernel) (by decide +kernel)
set_option maxRecDepth 20000 in
theorem ggL_act_r2 : GoodIn wsL_law wsL_act_r2 := goodIn_r _ [125, 126, 127, 57, 58, 128, 59, 60, 129, 62, 63, 12, 64, 37, 53, 54, 130, 131, 132, 133, 43, 134, 135, 136] (by decide +kernel) (by decide +kernel)
set_option maxRecDepth 20000 in
theorem ggL_act_r3 : GoodIn wsL_law wsL_act_r3 := goodIn_r _ [137, 39, 40, 41, 42, 38, 44, 45, 46, 47, 48, 49, 50, 51, 52, 55, 56, 61, 138, 139, 140, 141, 142, 143] (by decide +kernel) (by decide +kernel)
set_option maxRecDepth 20000 in
theorem ggL_act_r4 : GoodIn wsL_law wsL_act_r4 := goodIn_r _ [144, 145, 146, 147, 148, 17, 149, 150, 151, 16, 152, 69, 153, 154, 155, 156, 157, 158, 159, 21, 25, 30, 160, 161] (by decide +kernel) (by decide +kernel)
set_option maxRecDepth 20000 in
theorem ggL_act_r5 : GoodIn wsL_law wsL_act_r5 := goodIn_r _ [162, 20, 163, 83, 76, 74, 75, 164, 165, 166, 167, 168, 169, 170, 171, 172, 173, 174, 175, 176, 177, 178, 179, 24] (by decide +kernel) (by decide +kernel)
set_option maxRecDepth 20000 in
theorem ggL_act_r6 : GoodIn wsL_law wsL_act_r6 := goodIn_r _ [180, 96, 94, 181, 182, 183, 184, 81, 185, 89, 186, 187, 188, 189, 190, 191, 192, 193, 194, 195, 196, 197, 198, 199] (by decide +kernel) (by decide +kernel)
set_option maxRecDepth 20000 in
theorem ggL_act_r7 : GoodIn wsL_law wsL_act_r7 := goodIn_r _ [200, 201, 202, 203, 204, 205, 206, 207, 208, 209, 210, 211, 212, 213, 214, 215, 216, 217, 218, 219, 220, 221, 222, 223] (by decide +kernel) (by decide +kernel)
set_option maxRecDepth 20000 in
theorem ggL_act_r8 : GoodIn wsL_law wsL_act_r8 := goodIn_r _ [224, 225, 97, 226, 227, 228, 229, 230, 231, 232, 233, 234, 235, 236, 237, 238, 239, 240, 241, 242, 243, 244, 245, 246] (by decide +kernel) (by decide +kernel)
set_option maxRecDepth 20000 in
theorem ggL_act_r9 : GoodIn wsL_law wsL_act_r9 := goodIn_r _ [247, 248, 249, 250, 251, 252, 253, 254, 255, 256, 257, 258, 259, 260, 261, 262, 263, 264, 265, 266, 267, 268, 269, 28] (by decide +kernel) (by decide +kernel)
set_option maxRecDepth 20000 in
theorem ggL_act_r10 : GoodIn wsL_law wsL_act_r10 := goodIn_r _ [29, 270, 271, 272, 273, 274, 275, 276, 277, 278, 279, 280, 78, 281, 282, 283, 284, 285, 286, 287, 288, 289, 290, 291] (by decide +kernel) (by decide +kernel)
set_option maxRecDepth 20000 in
theorem ggL_act_r11 : GoodIn wsL_law wsL_act_r11 := goodIn_r _ [292, 293, 294, 295, 296, 297, 298, 299, 300, 301, 302, 303, 304, 305, 82, 306, 307, 308, 309, 310, 311, 312, 77, 313] (by decide +kernel) (by decide +kernel)
set_option maxRecDepth 20000 in
theorem ggL_act_r12 : GoodIn wsL_law wsL_act_r12 := goodIn_r _ [314, 315, 316, 317, 318, 319, 320, 321, 322, 323, 324, 325, 326, 327, 328, 329, 330, 331, 332, 333, 334, 335, 336, 337] (by decide +kernel) (by decide +kernel)
set_option maxRecDepth 20000 in
theorem ggL_act_r13 : GoodIn wsL_law wsL_act_r13 := goodIn_r _ [338, 339, 340, 341, 342, 343, 344, 345, 346, 347, 348, 349, 350, 351, 352, 353, 354, 355, 356, 357, 358, 359, 360, 361] (by decide +kernel) (by decide +kernel)
set_option maxRecDepth 20000 in
theorem ggL_act_r14 : GoodIn wsL_law wsL_act_r14 := goodIn_r _ [362, 363, 364, 365, 366, 367, 368, 369, 370, 371, 372, 373, 374, 375, 376, 377, 378, 379, 380, 381, 382, 383, 384, 385] (by decide +kernel) (by decide +kernel)
set_option maxRecDepth 20000 in
theorem ggL_act_r15 : GoodIn wsL_law wsL_act_r15 := goodIn_r _ [386, 387, 388, 389, 390, 391, 392, 393, 394, 395, 396, 397, 398, 399, 400, 401, 402, 403, 404, 405, 406, 407, 408, 409] (by decide +kernel) (by decide +kernel)
set_option maxRecDepth 20000 in
theorem ggL_act_r16 : GoodIn wsL_law wsL_act_r16 := goodIn_r _ [410, 411, 412, 413, 414, 415, 416, 417, 418, 419, 420, 421, 422, 423, 424, 425, 426, 427, 428, 429, 430, 431, 432, 433] (by decide +kernel) (by decide +kernel)
set_option maxRecDepth 20000 in
theorem ggL_act_r17 : GoodIn wsL_law wsL_act_r17 := goodIn_r _ [434, 435, 436] (by decide +kernel) (by decide +kernel)
set_option maxRecDepth 20000 in
theorem ggL_law_L_act : GoodIn wsL_law wsL_act := goodIn_ca (goodIn_ca (goodIn_ca (goodIn_ca (goodIn_ca (goodIn_ca (goodIn_ca (goodIn_ca (goodIn_ca (goodIn_cons ggL_act_c (goodIn_app ggL_act_r1 (goodIn_app ggL_act_r2 (goodIn_app ggL_act_r3 (goodIn_app ggL_act_r4 (goodIn_app ggL_act_r5 (goodIn_app ggL_act_r6 (goodIn_app ggL_act_r7 (goodIn_app ggL_act_r8 (goodIn_app ggL_act_r9 (goodIn_app ggL_act_r10 (goodIn_app ggL_act_r11 (goodIn_app ggL_act_r12 (goodIn_app ggL_act_r13 (goodIn_app ggL_act_r14 (goodIn_app ggL_act_r15 (goodIn_app ggL_act_r16 ggL_act_r17))))))))))))))))) (goodIn_sub inlX5 (by decide +kernel))) (goodIn_sub inlX3 (by decide +kernel))) (goodIn_sub inlX1 (by decide +kernel))) (goodIn_sub inlX4 (by decide +kernel))) (goodIn_sub inlX0 (by decide +kernel))) (goodIn_sub inlX2 (by decide +kernel))) (goodIn_sub (fun _ h => List.mem_append_left _ (List.mem_append_left _ (List.mem_append_right _ h))) (by decide +kernel))) (goodIn_sub (fun _ h => List.mem_append_left _ (List.mem_append_right _ h)) (by decide +kernel))) (goodIn_sub (fun _ h => List.mem_append_right _ h) (by decide +kernel))
set_option maxRecDepth 20000 in
theorem gL_law_L_act : GoodIn wsL_law (va_wsS RL 125 yL_act wsL_act) := goodIn_app (goodIn_of _ (by decide +kernel)) ggL_law_L_act
set_option maxRecDepth 20000 in
theorem ggL_law_L_areAlike : GoodIn wsL_law wsL_areAlike := goodIn_ca (goodIn_ca (goodIn_r _ [439, 440, 441, 101, 442, 115, 3, 443, 444, 445, 2, 446, 21, 354, 355, 356, 357, 120, 121, 31, 339, 340, 341, 20, 342, 83, 418, 419, 420, 421, 422, 423, 424, 425, 426, 427, 428, 167, 347, 348, 349, 350, 351, 352, 353, 358, 359, 360, 361, 25, 362, 303, 304, 305, 82, 76, 306, 237, 238, 81, 239, 89, 307, 245, 246, 247, 53, 54, 363, 364, 365, 24, 366, 96, 367, 368, 369, 370, 371, 255, 256, 257, 258, 259, 216, 260, 107, 108, 109, 110, 332, 333, 334, 114, 335, 336, 337, 338, 125, 126, 343, 344, 345, 346, 429, 430, 431, 432, 433, 434, 435, 122, 123, 124, 127, 57, 58, 128, 59, 60, 436, 241, 242, 243, 402, 403, 404, 405, 406, 407, 408, 409, 410, 411, 412, 413, 414, 415, 416, 417, 472, 473, 474, 475, 476, 477, 478, 479, 480, 485, 486, 487, 488, 489, 490, 491, 492, 493, 494, 495, 499, 496, 497, 498] (by decide +kernel) (by decide +kernel)) (goodIn_sub (fun _ h => List.mem_append_left _ (List.mem_append_left _ (List.mem_append_right _ h))) (by decide +kernel))) (goodIn_sub (fun _ h => List.mem_append_left _ (List.mem_append_right _ h)) (by decide +kernel))
set_option maxRecDepth 20000 in
theorem gL_law_L_areAlike : GoodIn wsL_law (va_wsS RL 128 yL_areAlike wsL_areAlike) := goodIn_app (goodIn_of _ (by decide +kernel)) ggL_law_L_areAlike
set_option maxRecDepth 20000 in
theorem ggL_law_L_samples : GoodIn wsL_law wsL_samples := goodIn_ca (goodIn_r _ [442, 115, 3, 443, 444, 445, 2, 446, 21, 354, 355, 356, 357, 120, 121, 31, 339, 340, 341, 20, 342, 83, 472, 473, 474, 475, 476, 477, 478, 479, 480, 485, 486, 487, 488, 489, 490, 491, 492, 493, 494, 495] (by decide +kernel) (by decide +kernel)) (goodIn_sub (fun _ h => List.mem_append_left _ (List.mem_append_left _ (List.mem_append_right _ h))) (by decide +kernel))
set_option maxRecDepth 20000 in
theorem gL_law_L_samples : GoodIn wsL_law (va_wsS RL 116 yL_samples wsL_samples) := goodIn_app (goodIn_of _ (by decide +kernel)) ggL_law_L_samples
set_option maxRecDepth 20000 in
theorem ggL_law_L_read : GoodIn wsL_law wsL_read := goodIn_ca (goodIn_ca (goodIn_ca (goodIn_r _ [272, 114, 141, 115, 3, 273, 274, 275, 2, 276, 146, 147, 21, 25, 193, 194, 195, 125, 126, 196, 55, 56, 197, 198, 199, 200, 120, 121, 31, 30, 277, 278, 279, 20, 280, 83, 78, 74, 76, 281, 282, 283, 12, 284, 285, 286, 216, 287, 218, 219, 220, 221, 38, 53, 54, 288, 289, 290, 291, 292, 293, 164, 165, 166, 294, 295, 296, 167, 297, 298, 299, 300, 301, 215, 217, 302, 303, 304, 305, 82, 306, 237, 238, 81, 239, 89, 307, 245, 246, 247, 308, 241, 242, 243, 309, 310, 311, 312, 77, 313, 233, 234, 235, 75, 209, 173, 174, 16, 175, 69, 176, 168, 169, 170, 171, 43, 37, 172, 314, 315, 316, 317, 318, 319, 320, 24, 321, 96, 94, 240, 322, 182, 183, 184, 185, 254, 255, 256, 257, 258, 259, 260, 323, 178, 179, 180, 181, 62, 63, 64, 249, 250, 251, 252, 253, 261, 262, 263, 264, 265, 266, 267, 268, 269, 28, 29, 472, 473, 474, 475, 476, 477, 478, 479, 480, 485, 486, 487, 488, 489, 490, 491, 492, 493, 494, 495, 481, 482, 483, 499, 484, 496, 497, 498] (by decide +kernel) (by decide +kernel)) (goodIn_sub (fun _ h => List.mem_append_right _ h) (by decide +kernel))) (goodIn_sub (fun _ h => List.mem_append_left _ (List.mem_append_right _ h)) (by decide +kernel))) (goodIn_sub (fun _ h => List.mem_append_left _ (List.mem_append_left _ (List.mem_append_right _ h))) (by decide +kernel))
set_option maxRecDepth 20000 in
theorem gL_law_L_read : GoodIn wsL_law (va_wsS RL 92 yL_read wsL_read) := goodIn_app (goodIn_of _ (by decide +kernel)) ggL_law_L_read
set_option maxRecDepth 20000 in
theorem ggL_law_L_isSo : GoodIn wsL_law wsL_isSo := goodIn_ca (goodIn_ca (goodIn_ca (goodIn_r _ [449, 450, 3, 327, 328, 329, 2, 330, 13, 122, 123, 124, 125, 126, 127, 57, 58, 193, 194, 195, 196, 55, 56, 128, 59, 60, 331, 219, 220, 12, 221, 38, 53, 54, 451, 452, 453, 454, 21, 354, 355, 356, 357, 120, 121, 31, 362, 303, 304, 20, 305, 82, 83, 76, 306, 237, 238, 81, 239, 89, 307, 245, 246, 247, 436, 241, 242, 243, 432, 433, 434, 435, 25, 363, 364, 365, 24, 366, 96, 455, 456, 457, 458, 26, 459, 460, 461, 462, 30, 29, 28, 177, 178, 179, 180, 94, 181, 62, 63, 64, 37, 182, 183, 184, 185, 463, 464, 465, 466, 97, 228, 229, 230, 231, 232, 233, 234, 235, 467, 468, 469, 470, 226, 227, 240, 471, 49, 50, 51, 52, 248, 211, 212, 213, 214, 215, 216, 217, 218, 48, 249, 250, 251, 252, 253, 254, 255, 256, 257, 258, 259, 260, 261, 262, 263, 264, 265, 318, 319, 320, 321, 322, 282, 283, 284, 285, 286, 287, 323, 405, 406, 407, 408, 409, 410, 411, 412, 413, 414, 415, 416, 417, 443, 444, 445, 446, 339, 340, 341, 342, 350, 351, 352, 353, 358, 359, 360, 361, 367, 368, 369, 370, 371, 396, 397, 398, 399, 146, 147, 400, 401, 389, 390, 391, 384, 385, 386, 387, 388, 392, 288, 289, 421, 422, 423, 424, 425, 426, 427, 428, 167, 332, 333, 101, 334, 114, 335, 336, 337, 338, 343, 344, 345, 346, 472, 473, 474, 475, 476, 477, 478, 479, 480, 481, 482, 483, 485, 486, 487, 488, 489, 490, 491, 492, 493, 494, 495, 499, 496, 497, 498] (by decide +kernel) (by decide +kernel)) (goodIn_sub (fun _ h => List.mem_append_left _ (List.mem_append_right _ h)) (by decide +kernel))) (goodIn_sub (fun _ h => List.mem_append_left _ (List.mem_append_left _ (List.mem_append_right _ h))) (by decide +kernel))) (goodIn_sub (fun _ h => List.mem_append_right _ h) (by decide +kernel))
set_option maxRecDepth 20000 in
theorem gL_law_L_isSo : GoodIn wsL_law (va_wsS RL 132 yL_isSo wsL_isSo) := goodIn_app (goodIn_of _ (by decide +kernel)) ggL_law_L_isSo
theorem dL_law_0 : decode cL_law 0 = .ok (.new 9, 3) := by decide +kernel
theorem dL_law_3 : decode cL_law 3 = .ok (.dup, 1) := by decide +kernel
theorem dL_law_4 : decode cL_law 4 = .ok (.invokespecial 120, 3) := by decide +kernel
theorem dL_law_7 : decode cL_law 7 = .ok (.astore_n 1, 1) := by decide +kernel
theorem dL_law_8 : decode cL_law 8 = .ok (.new 9, 3) := by decide +kernel
theorem dL_law_11 : decode cL_law 11 = .ok (.dup, 1) := by decide +kernel
theorem dL_law_12 : decode cL_law 12 = .ok (.invokespecial 120, 3) := by decide +kernel
theorem dL_law_15 : decode cL_law 15 = .ok (.astore_n 2, 1) := by decide +kernel
theorem dL_law_16 : decode cL_law 16 = .ok (.iconst 0, 1) := by decide +kernel
theorem dL_law_17 : decode cL_law 17 = .ok (.istore_n 3, 1) := by decide +kernel
theorem dL_law_18 : decode cL_law 18 = .ok (.iload_n 3, 1) := by decide +kernel
theorem dL_law_19 : decode cL_law 19 = .ok (.bipush 80, 2) := by decide +kernel
theorem dL_law_21 : decode cL_law 21 = .ok (.if_icmp .ge 70, 3) := by decide +kernel
theorem dL_law_24 : decode cL_law 24 = .ok (.aload_n 0, 1) := by decide +kernel
theorem dL_law_25 : decode cL_law 25 = .ok (.iload_n 3, 1) := by decide +kernel
theorem dL_law_26 : decode cL_law 26 = .ok (.invokestatic 121, 3) := by decide +kernel
theorem dL_law_29 : decode cL_law 29 = .ok (.istore 4, 2) := by decide +kernel
theorem dL_law_31 : decode cL_law 31 = .ok (.aload_n 1, 1) := by decide +kernel
theorem dL_law_32 : decode cL_law 32 = .ok (.iload 4, 2) := by decide +kernel
theorem dL_law_34 : decode cL_law 34 = .ok (.iload_n 3, 1) := by decide +kernel
theorem dL_law_35 : decode cL_law 35 = .ok (.invokestatic 125, 3) := by decide +kernel
theorem dL_law_38 : decode cL_law 38 = .ok (.lstore 5, 2) := by decide +kernel
theorem dL_law_40 : decode cL_law 40 = .ok (.lload 5, 2) := by decide +kernel
theorem dL_law_42 : decode cL_law 42 = .ok (.ldc2_w 16, 3) := by decide +kernel
theorem dL_law_45 : decode cL_law 45 = .ok (.lcmp, 1) := by decide +kernel
theorem dL_law_46 : decode cL_law 46 = .ok (.ifCond .eq 16, 3) := by decide +kernel
theorem dL_law_49 : decode cL_law 49 = .ok (.aload_n 2, 1) := by decide +kernel
theorem dL_law_50 : decode cL_law 50 = .ok (.iload 4, 2) := by decide +kernel
theorem dL_law_52 : decode cL_law 52 = .ok (.iload_n 3, 1) := by decide +kernel
theorem dL_law_53 : decode cL_law 53 = .ok (.invokestatic 125, 3) := by decide +kernel
theorem dL_law_56 : decode cL_law 56 = .ok (.lload 5, 2) := by decide +kernel
theorem dL_law_58 : decode cL_law 58 = .ok (.lcmp, 1) := by decide +kernel
theorem dL_law_59 : decode cL_law 59 = .ok (.ifCond .ne 24, 3) := by decide +kernel
theorem dL_law_62 : decode cL_law 62 = .ok (.iload_n 3, 1) := by decide +kernel
theorem dL_law_63 : decode cL_law 63 = .ok (.bipush 20, 2) := by decide +kernel
theorem dL_law_65 : decode cL_law 65 = .ok (.irem, 1) := by decide +kernel
theorem dL_law_66 : decode cL_law 66 = .ok (.bipush 19, 2) := by decide +kernel
theorem dL_law_68 : decode cL_law 68 = .ok (.if_icmp .ne 17, 3) := by decide +kernel
theorem dL_law_71 : decode cL_law 71 = .ok (.aload_n 1, 1) := by decide +kernel
theorem dL_law_72 : decode cL_law 72 = .ok (.aload_n 2, 1) := by decide +kernel
theorem dL_law_73 : decode cL_law 73 = .ok (.iload 4, 2) := by decide +kernel
theorem dL_law_75 : decode cL_law 75 = .ok (.iconst 3, 1) := by decide +kernel
theorem dL_law_76 : decode cL_law 76 = .ok (.ishr, 1) := by decide +kernel
theorem dL_law_77 : decode cL_law 77 = .ok (.invokestatic 128, 3) := by decide +kernel
theorem dL_law_80 : decode cL_law 80 = .ok (.ifCond .ne 5, 3) := by decide +kernel
theorem dL_law_83 : decode cL_law 83 = .ok (.iconst 0, 1) := by decide +kernel
theorem dL_law_84 : decode cL_law 84 = .ok (.ireturn, 1) := by decide +kernel
theorem dL_law_85 : decode cL_law 85 = .ok (.iinc 3 1, 3) := by decide +kernel
theorem dL_law_88 : decode cL_law 88 = .ok (.goto (-70), 3) := by decide +kernel
theorem dL_law_91 : decode cL_law 91 = .ok (.aload_n 1, 1) := by decide +kernel
theorem dL_law_92 : decode cL_law 92 = .ok (.invokestatic 116, 3) := by decide +kernel
theorem dL_law_95 : decode cL_law 95 = .ok (.lconst 0, 1) := by decide +kernel
theorem dL_law_96 : decode cL_law 96 = .ok (.lcmp, 1) := by decide +kernel
theorem dL_law_97 : decode cL_law 97 = .ok (.ifCond .ge 24, 3) := by decide +kernel
theorem dL_law_100 : decode cL_law 100 = .ok (.aload_n 1, 1) := by decide +kernel
theorem dL_law_101 : decode cL_law 101 = .ok (.iconst 0, 1) := by decide +kernel
theorem dL_law_102 : decode cL_law 102 = .ok (.iconst 0, 1) := by decide +kernel
theorem dL_law_103 : decode cL_law 103 = .ok (.invokestatic 92, 3) := by decide +kernel
theorem dL_law_106 : decode cL_law 106 = .ok (.ldc2_w 16, 3) := by decide +kernel
theorem dL_law_109 : decode cL_law 109 = .ok (.lcmp, 1) := by decide +kernel
theorem dL_law_110 : decode cL_law 110 = .ok (.ifCond .ne 7, 3) := by decide +kernel
theorem dL_law_113 : decode cL_law 113 = .ok (.iconst 1, 1) := by decide +kernel
theorem dL_law_114 : decode cL_law 114 = .ok (.goto 11, 3) := by decide +kernel
theorem dL_law_117 : decode cL_law 117 = .ok (.iconst 0, 1) := by decide +kernel
theorem dL_law_118 : decode cL_law 118 = .ok (.goto 7, 3) := by decide +kernel
theorem dL_law_121 : decode cL_law 121 = .ok (.aload_n 1, 1) := by decide +kernel
theorem dL_law_122 : decode cL_law 122 = .ok (.invokestatic 132, 3) := by decide +kernel
theorem dL_law_125 : decode cL_law 125 = .ok (.ireturn, 1) := by decide +kernel
abbrev vwCl : List vw_C := [(RX0, TX0, 3), (RX1, TX1, 1), (RX2, TX2, 1), (RX3, TX3, 3), (RX4, TX4, 11), (RX5, TX5, 9)]
