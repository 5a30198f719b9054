/-! THE LAW: its bytes, its words -/
theorem dT_0 : (decode code 0 = .ok (.new 7, 3)) ∧ (decode code 3 = .ok (.dup, 1)) ∧ (decode code 4 = .ok (.invokespecial 9, 3)) ∧ (decode code 7 = .ok (.astore_n 1, 1)) ∧ (decode code 8 = .ok (.new 10, 3)) ∧ (decode code 11 = .ok (.dup, 1)) ∧ (decode code 12 = .ok (.invokespecial 12, 3)) ∧ (decode code 15 = .ok (.astore_n 2, 1)) ∧ (decode code 16 = .ok (.iconst 0, 1)) ∧ (decode code 17 = .ok (.istore_n 3, 1)) ∧ (decode code 18 = .ok (.iload_n 3, 1)) ∧ (decode code 19 = .ok (.aload_n 0, 1)) ∧ (decode code 20 = .ok (.arraylength, 1)) ∧ (decode code 21 = .ok (.bipush 6, 2)) ∧ (decode code 23 = .ok (.isub, 1)) ∧ (decode code 24 = .ok (.if_icmp .gt 2264, 3)) ∧ (decode code 27 = .ok (.aload_n 0, 1)) ∧ (decode code 28 = .ok (.iload_n 3, 1)) ∧ (decode code 29 = .ok (.iaload, 1)) ∧ (decode code 30 = .ok (.bipush 127, 2)) ∧ (decode code 32 = .ok (.iand, 1)) ∧ (decode code 33 = .ok (.tableswitch 2249 0 75 #[319, 382, 405, 418, 441, 474, 507, 520, 543, 566, 589, 602, 625, 648, 661, 674, 687, 710, 733, 756, 779, 802, 825, 858, 881, 904, 927, 950, 963, 986, 1009, 1022, 1045, 1068, 1091, 1114, 1137, 1160, 1183, 1206, 1239, 1262, 1285, 1308, 1331, 1354, 1367, 1390, 1403, 1426, 1449, 1472, 1495, 1518, 1541, 1564, 1587, 1630, 1664, 1707, 1730, 1763, 1786, 1810, 1843, 1866, 1879, 1892, 1925, 1968, 2001, 2024, 2047, 2070, 2113, 2186], 319)) ∧ (decode code 352 = .ok (.aload_n 1, 1)) ∧ (decode code 353 = .ok (.aload_n 0, 1)) := by decide +kernel
theorem dL_0 : decode code 0 = .ok (.new 7, 3) := dT_0.1
theorem dL_3 : decode code 3 = .ok (.dup, 1) := dT_0.2.1
theorem dL_4 : decode code 4 = .ok (.invokespecial 9, 3) := dT_0.2.2.1
theorem dL_7 : decode code 7 = .ok (.astore_n 1, 1) := dT_0.2.2.2.1
theorem dL_8 : decode code 8 = .ok (.new 10, 3) := dT_0.2.2.2.2.1
theorem dL_11 : decode code 11 = .ok (.dup, 1) := dT_0.2.2.2.2.2.1
theorem dL_12 : decode code 12 = .ok (.invokespecial 12, 3) := dT_0.2.2.2.2.2.2.1
theorem dL_15 : decode code 15 = .ok (.astore_n 2, 1) := dT_0.2.2.2.2.2.2.2.1
theorem dL_16 : decode code 16 = .ok (.iconst 0, 1) := dT_0.2.2.2.2.2.2.2.2.1
theorem dL_17 : decode code 17 = .ok (.istore_n 3, 1) := dT_0.2.2.2.2.2.2.2.2.2.1
theorem dL_18 : decode code 18 = .ok (.iload_n 3, 1) := dT_0.2.2.2.2.2.2.2.2.2.2.1
theorem dL_19 : decode code 19 = .ok (.aload_n 0, 1) := dT_0.2.2.2.2.2.2.2.2.2.2.2.1
theorem dL_20 : decode code 20 = .ok (.arraylength, 1) := dT_0.2.2.2.2.2.2.2.2.2.2.2.2.1
theorem dL_21 : decode code 21 = .ok (.bipush 6, 2) := dT_0.2.2.2.2.2.2.2.2.2.2.2.2.2.1
theorem dL_23 : decode code 23 = .ok (.isub, 1) := dT_0.2.2.2.2.2.2.2.2.2.2.2.2.2.2.1
theorem dL_24 : decode code 24 = .ok (.if_icmp .gt 2264, 3) := dT_0.2.2.2.2.2.2.2.2.2.2.2.2.2.2.2.1
theorem dL_27 : decode code 27 = .ok (.aload_n 0, 1) := dT_0.2.2.2.2.2.2.2.2.2.2.2.2.2.2.2.2.1
theorem dL_28 : decode code 28 = .ok (.iload_n 3, 1) := dT_0.2.2.2.2.2.2.2.2.2.2.2.2.2.2.2.2.2.1
theorem dL_29 : decode code 29 = .ok (.iaload, 1) := dT_0.2.2.2.2.2.2.2.2.2.2.2.2.2.2.2.2.2.2.1
theorem dL_30 : decode code 30 = .ok (.bipush 127, 2) := dT_0.2.2.2.2.2.2.2.2.2.2.2.2.2.2.2.2.2.2.2.1
theorem dL_32 : decode code 32 = .ok (.iand, 1) := dT_0.2.2.2.2.2.2.2.2.2.2.2.2.2.2.2.2.2.2.2.2.1
theorem dL_33 : decode code 33 = .ok (.tableswitch 2249 0 75 #[319, 382, 405, 418, 441, 474, 507, 520, 543, 566, 589, 602, 625, 648, 661, 674, 687, 710, 733, 756, 779, 802, 825, 858, 881, 904, 927, 950, 963, 986, 1009, 1022, 1045, 1068, 1091, 1114, 1137, 1160, 1183, 1206, 1239, 1262, 1285, 1308, 1331, 1354, 1367, 1390, 1403, 1426, 1449, 1472, 1495, 1518, 1541, 1564, 1587, 1630, 1664, 1707, 1730, 1763, 1786, 1810, 1843, 1866, 1879, 1892, 1925, 1968, 2001, 2024, 2047, 2070, 2113, 2186], 319) := dT_0.2.2.2.2.2.2.2.2.2.2.2.2.2.2.2.2.2.2.2.2.2.1
theorem dL_352 : decode code 352 = .ok (.aload_n 1, 1) := dT_0.2.2.2.2.2.2.2.2.2.2.2.2.2.2.2.2.2.2.2.2.2.2.1
theorem dL_353 : decode code 353 = .ok (.aload_n 0, 1) := dT_0.2.2.2.2.2.2.2.2.2.2.2.2.2.2.2.2.2.2.2.2.2.2.2
theorem dT_1 : (decode code 354 = .ok (.iload_n 3, 1)) ∧ (decode code 355 = .ok (.iconst 1, 1)) ∧ (decode code 356 = .ok (.iadd, 1)) ∧ (decode code 357 = .ok (.iaload, 1)) ∧ (decode code 358 = .ok (.aload_n 0, 1)) ∧ (decode code 359 = .ok (.iload_n 3, 1)) ∧ (decode code 360 = .ok (.iconst 2, 1)) ∧ (decode code 361 = .ok (.iadd, 1)) ∧ (decode code 362 = .ok (.iaload, 1)) ∧ (decode code 363 = .ok (.aload_n 0, 1)) ∧ (decode code 364 = .ok (.iload_n 3, 1)) ∧ (decode code 365 = .ok (.iconst 3, 1)) ∧ (decode code 366 = .ok (.iadd, 1)) ∧ (decode code 367 = .ok (.iaload, 1)) ∧ (decode code 368 = .ok (.aload_n 0, 1)) ∧ (decode code 369 = .ok (.iload_n 3, 1)) ∧ (decode code 370 = .ok (.iconst 4, 1)) ∧ (decode code 371 = .ok (.iadd, 1)) ∧ (decode code 372 = .ok (.iaload, 1)) ∧ (decode code 373 = .ok (.aload_n 0, 1)) ∧ (decode code 374 = .ok (.iload_n 3, 1)) ∧ (decode code 375 = .ok (.iconst 5, 1)) ∧ (decode code 376 = .ok (.iadd, 1)) ∧ (decode code 377 = .ok (.iaload, 1)) := by decide +kernel
theorem dL_354 : decode code 354 = .ok (.iload_n 3, 1) := dT_1.1
theorem dL_355 : decode code 355 = .ok (.iconst 1, 1) := dT_1.2.1
theorem dL_356 : decode code 356 = .ok (.iadd, 1) := dT_1.2.2.1
theorem dL_357 : decode code 357 = .ok (.iaload, 1) := dT_1.2.2.2.1
theorem dL_358 : decode code 358 = .ok (.aload_n 0, 1) := dT_1.2.2.2.2.1
theorem dL_359 : decode code 359 = .ok (.iload_n 3, 1) := dT_1.2.2.2.2.2.1
theorem dL_360 : decode code 360 = .ok (.iconst 2, 1) := dT_1.2.2.2.2.2.2.1
theorem dL_361 : decode code 361 = .ok (.iadd, 1) := dT_1.2.2.2.2.2.2.2.1
theorem dL_362 : decode code 362 = .ok (.iaload, 1) := dT_1.2.2.2.2.2.2.2.2.1
theorem dL_363 : decode code 363 = .ok (.aload_n 0, 1) := dT_1.2.2.2.2.2.2.2.2.2.1
theorem dL_364 : decode code 364 = .ok (.iload_n 3, 1) := dT_1.2.2.2.2.2.2.2.2.2.2.1
theorem dL_365 : decode code 365 = .ok (.iconst 3, 1) := dT_1.2.2.2.2.2.2.2.2.2.2.2.1
theorem dL_366 : decode code 366 = .ok (.iadd, 1) := dT_1.2.2.2.2.2.2.2.2.2.2.2.2.1
theorem dL_367 : decode code 367 = .ok (.iaload, 1) := dT_1.2.2.2.2.2.2.2.2.2.2.2.2.2.1
theorem dL_368 : decode code 368 = .ok (.aload_n 0, 1) := dT_1.2.2.2.2.2.2.2.2.2.2.2.2.2.2.1
theorem dL_369 : decode code 369 = .ok (.iload_n 3, 1) := dT_1.2.2.2.2.2.2.2.2.2.2.2.2.2.2.2.1
theorem dL_370 : decode code 370 = .ok (.iconst 4, 1) := dT_1.2.2.2.2.2.2.2.2.2.2.2.2.2.2.2.2.1
theorem dL_371 : decode code 371 = .ok (.iadd, 1) := dT_1.2.2.2.2.2.2.2.2.2.2.2.2.2.2.2.2.2.1
theorem dL_372 : decode code 372 = .ok (.iaload, 1) := dT_1.2.2.2.2.2.2.2.2.2.2.2.2.2.2.2.2.2.2.1
theorem dL_373 : decode code 373 = .ok (.aload_n 0, 1) := dT_1.2.2.2.2.2.2.2.2.2.2.2.2.2.2.2.2.2.2.2.1
theorem dL_374 : decode code 374 = .ok (.iload_n 3, 1) := dT_1.2.2.2.2.2.2.2.2.2.2.2.2.2.2.2.2.2.2.2.2.1
theorem dL_375 : decode code 375 = .ok (.iconst 5, 1) := dT_1.2.2.2.2.2.2.2.2.2.2.2.2.2.2.2.2.2.2.2.2.2.1
theorem dL_376 : decode code 376 = .ok (.iadd, 1) := dT_1.2.2.2.2.2.2.2.2.2.2.2.2.2.2.2.2.2.2.2.2.2.2.1
theorem dL_377 : decode code 377 = .ok (.iaload, 1) := dT_1.2.2.2.2.2.2.2.2.2.2.2.2.2.2.2.2.2.2.2.2.2.2.2
theorem dT_2 : (decode code 378 = .ok (.invokevirtual 13, 3)) ∧ (decode code 381 = .ok (.aload_n 2, 1)) ∧ (decode code 382 = .ok (.aload_n 0, 1)) ∧ (decode code 383 = .ok (.iload_n 3, 1)) ∧ (decode code 384 = .ok (.iconst 1, 1)) ∧ (decode code 385 = .ok (.iadd, 1)) ∧ (decode code 386 = .ok (.iaload, 1)) ∧ (decode code 387 = .ok (.aload_n 0, 1)) ∧ (decode code 388 = .ok (.iload_n 3, 1)) ∧ (decode code 389 = .ok (.iconst 2, 1)) ∧ (decode code 390 = .ok (.iadd, 1)) ∧ (decode code 391 = .ok (.iaload, 1)) ∧ (decode code 392 = .ok (.aload_n 0, 1)) ∧ (decode code 393 = .ok (.iload_n 3, 1)) ∧ (decode code 394 = .ok (.iconst 3, 1)) ∧ (decode code 395 = .ok (.iadd, 1)) ∧ (decode code 396 = .ok (.iaload, 1)) ∧ (decode code 397 = .ok (.aload_n 0, 1)) ∧ (decode code 398 = .ok (.iload_n 3, 1)) ∧ (decode code 399 = .ok (.iconst 4, 1)) ∧ (decode code 400 = .ok (.iadd, 1)) ∧ (decode code 401 = .ok (.iaload, 1)) ∧ (decode code 402 = .ok (.aload_n 0, 1)) ∧ (decode code 403 = .ok (.iload_n 3, 1)) := by decide +kernel
theorem dL_378 : decode code 378 = .ok (.invokevirtual 13, 3) := dT_2.1
theorem dL_381 : decode code 381 = .ok (.aload_n 2, 1) := dT_2.2.1
theorem dL_382 : decode code 382 = .ok (.aload_n 0, 1) := dT_2.2.2.1
theorem dL_383 : decode code 383 = .ok (.iload_n 3, 1) := dT_2.2.2.2.1
theorem dL_384 : decode code 384 = .ok (.iconst 1, 1) := dT_2.2.2.2.2.1
theorem dL_385 : decode code 385 = .ok (.iadd, 1) := dT_2.2.2.2.2.2.1
theorem dL_386 : decode code 386 = .ok (.iaload, 1) := dT_2.2.2.2.2.2.2.1
theorem dL_387 : decode code 387 = .ok (.aload_n 0, 1) := dT_2.2.2.2.2.2.2.2.1
theorem dL_388 : decode code 388 = .ok (.iload_n 3, 1) := dT_2.2.2.2.2.2.2.2.2.1
theorem dL_389 : decode code 389 = .ok (.iconst 2, 1) := dT_2.2.2.2.2.2.2.2.2.2.1
theorem dL_390 : decode code 390 = .ok (.iadd, 1) := dT_2.2.2.2.2.2.2.2.2.2.2.1
theorem dL_391 : decode code 391 = .ok (.iaload, 1) := dT_2.2.2.2.2.2.2.2.2.2.2.2.1
theorem dL_392 : decode code 392 = .ok (.aload_n 0, 1) := dT_2.2.2.2.2.2.2.2.2.2.2.2.2.1
theorem dL_393 : decode code 393 = .ok (.iload_n 3, 1) := dT_2.2.2.2.2.2.2.2.2.2.2.2.2.2.1
theorem dL_394 : decode code 394 = .ok (.iconst 3, 1) := dT_2.2.2.2.2.2.2.2.2.2.2.2.2.2.2.1
theorem dL_395 : decode code 395 = .ok (.iadd, 1) := dT_2.2.2.2.2.2.2.2.2.2.2.2.2.2.2.2.1
theorem dL_396 : decode code 396 = .ok (.iaload, 1) := dT_2.2.2.2.2.2.2.2.2.2.2.2.2.2.2.2.2.1
theorem dL_397 : decode code 397 = .ok (.aload_n 0, 1) := dT_2.2.2.2.2.2.2.2.2.2.2.2.2.2.2.2.2.2.1
theorem dL_398 : decode code 398 = .ok (.iload_n 3, 1) := dT_2.2.2.2.2.2.2.2.2.2.2.2.2.2.2.2.2.2.2.1
theorem dL_399 : decode code 399 = .ok (.iconst 4, 1) := dT_2.2.2.2.2.2.2.2.2.2.2.2.2.2.2.2.2.2.2.2.1
theorem dL_400 : decode code 400 = .ok (.iadd, 1) := dT_2.2.2.2.2.2.2.2.2.2.2.2.2.2.2.2.2.2.2.2.2.1
theorem dL_401 : decode code 401 = .ok (.iaload, 1) := dT_2.2.2.2.2.2.2.2.2.2.2.2.2.2.2.2.2.2.2.2.2.2.1
theorem dL_402 : decode code 402 = .ok (.aload_n 0, 1) := dT_2.2.2.2.2.2.2.2.2.2.2.2.2.2.2.2.2.2.2.2.2.2.2.1
theorem dL_403 : decode code 403 = .ok (.iload_n 3, 1) := dT_2.2.2.2.2.2.2.2.2.2.2.2.2.2.2.2.2.2.2.2.2.2.2.2
theorem dT_3 : (decode code 404 = .ok (.iconst 5, 1)) ∧ (decode code 405 = .ok (.iadd, 1)) ∧ (decode code 406 = .ok (.iaload, 1)) ∧ (decode code 407 = .ok (.invokevirtual 17, 3)) ∧ (decode code 410 = .ok (.if_icmp .eq 1872, 3)) ∧ (decode code 413 = .ok (.iconst 0, 1)) ∧ (decode code 414 = .ok (.ireturn, 1)) ∧ (decode code 415 = .ok (.aload_n 1, 1)) ∧ (decode code 416 = .ok (.aload_n 0, 1)) ∧ (decode code 417 = .ok (.iload_n 3, 1)) ∧ (decode code 418 = .ok (.iconst 1, 1)) ∧ (decode code 419 = .ok (.iadd, 1)) ∧ (decode code 420 = .ok (.iaload, 1)) ∧ (decode code 421 = .ok (.invokevirtual 18, 3)) ∧ (decode code 424 = .ok (.aload_n 2, 1)) ∧ (decode code 425 = .ok (.aload_n 0, 1)) ∧ (decode code 426 = .ok (.iload_n 3, 1)) ∧ (decode code 427 = .ok (.iconst 1, 1)) ∧ (decode code 428 = .ok (.iadd, 1)) ∧ (decode code 429 = .ok (.iaload, 1)) ∧ (decode code 430 = .ok (.invokevirtual 22, 3)) ∧ (decode code 433 = .ok (.if_icmp .eq 1849, 3)) ∧ (decode code 436 = .ok (.iconst 0, 1)) ∧ (decode code 437 = .ok (.ireturn, 1)) := by decide +kernel
theorem dL_404 : decode code 404 = .ok (.iconst 5, 1) := dT_3.1
theorem dL_405 : decode code 405 = .ok (.iadd, 1) := dT_3.2.1
theorem dL_406 : decode code 406 = .ok (.iaload, 1) := dT_3.2.2.1
theorem dL_407 : decode code 407 = .ok (.invokevirtual 17, 3) := dT_3.2.2.2.1
theorem dL_410 : decode code 410 = .ok (.if_icmp .eq 1872, 3) := dT_3.2.2.2.2.1
theorem dL_413 : decode code 413 = .ok (.iconst 0, 1) := dT_3.2.2.2.2.2.1
theorem dL_414 : decode code 414 = .ok (.ireturn, 1) := dT_3.2.2.2.2.2.2.1
theorem dL_415 : decode code 415 = .ok (.aload_n 1, 1) := dT_3.2.2.2.2.2.2.2.1
theorem dL_416 : decode code 416 = .ok (.aload_n 0, 1) := dT_3.2.2.2.2.2.2.2.2.1
theorem dL_417 : decode code 417 = .ok (.iload_n 3, 1) := dT_3.2.2.2.2.2.2.2.2.2.1
theorem dL_418 : decode code 418 = .ok (.iconst 1, 1) := dT_3.2.2.2.2.2.2.2.2.2.2.1
theorem dL_419 : decode code 419 = .ok (.iadd, 1) := dT_3.2.2.2.2.2.2.2.2.2.2.2.1
theorem dL_420 : decode code 420 = .ok (.iaload, 1) := dT_3.2.2.2.2.2.2.2.2.2.2.2.2.1
theorem dL_421 : decode code 421 = .ok (.invokevirtual 18, 3) := dT_3.2.2.2.2.2.2.2.2.2.2.2.2.2.1
theorem dL_424 : decode code 424 = .ok (.aload_n 2, 1) := dT_3.2.2.2.2.2.2.2.2.2.2.2.2.2.2.1
theorem dL_425 : decode code 425 = .ok (.aload_n 0, 1) := dT_3.2.2.2.2.2.2.2.2.2.2.2.2.2.2.2.1
theorem dL_426 : decode code 426 = .ok (.iload_n 3, 1) := dT_3.2.2.2.2.2.2.2.2.2.2.2.2.2.2.2.2.1
theorem dL_427 : decode code 427 = .ok (.iconst 1, 1) := dT_3.2.2.2.2.2.2.2.2.2.2.2.2.2.2.2.2.2.1
theorem dL_428 : decode code 428 = .ok (.iadd, 1) := dT_3.2.2.2.2.2.2.2.2.2.2.2.2.2.2.2.2.2.2.1
theorem dL_429 : decode code 429 = .ok (.iaload, 1) := dT_3.2.2.2.2.2.2.2.2.2.2.2.2.2.2.2.2.2.2.2.1
theorem dL_430 : decode code 430 = .ok (.invokevirtual 22, 3) := dT_3.2.2.2.2.2.2.2.2.2.2.2.2.2.2.2.2.2.2.2.2.1
theorem dL_433 : decode code 433 = .ok (.if_icmp .eq 1849, 3) := dT_3.2.2.2.2.2.2.2.2.2.2.2.2.2.2.2.2.2.2.2.2.2.1
theorem dL_436 : decode code 436 = .ok (.iconst 0, 1) := dT_3.2.2.2.2.2.2.2.2.2.2.2.2.2.2.2.2.2.2.2.2.2.2.1
theorem dL_437 : decode code 437 = .ok (.ireturn, 1) := dT_3.2.2.2.2.2.2.2.2.2.2.2.2.2.2.2.2.2.2.2.2.2.2.2
theorem dT_4 : (decode code 438 = .ok (.aload_n 1, 1)) ∧ (decode code 439 = .ok (.invokevirtual 23, 3)) ∧ (decode code 442 = .ok (.aload_n 2, 1)) ∧ (decode code 443 = .ok (.invokevirtual 27, 3)) ∧ (decode code 446 = .ok (.if_icmp .eq 1836, 3)) ∧ (decode code 449 = .ok (.iconst 0, 1)) ∧ (decode code 450 = .ok (.ireturn, 1)) ∧ (decode code 451 = .ok (.aload_n 1, 1)) ∧ (decode code 452 = .ok (.aload_n 0, 1)) ∧ (decode code 453 = .ok (.iload_n 3, 1)) ∧ (decode code 454 = .ok (.iconst 1, 1)) ∧ (decode code 455 = .ok (.iadd, 1)) ∧ (decode code 456 = .ok (.iaload, 1)) ∧ (decode code 457 = .ok (.invokevirtual 28, 3)) ∧ (decode code 460 = .ok (.aload_n 2, 1)) ∧ (decode code 461 = .ok (.aload_n 0, 1)) ∧ (decode code 462 = .ok (.iload_n 3, 1)) ∧ (decode code 463 = .ok (.iconst 1, 1)) ∧ (decode code 464 = .ok (.iadd, 1)) ∧ (decode code 465 = .ok (.iaload, 1)) ∧ (decode code 466 = .ok (.invokevirtual 31, 3)) ∧ (decode code 469 = .ok (.if_icmp .eq 1813, 3)) ∧ (decode code 472 = .ok (.iconst 0, 1)) ∧ (decode code 473 = .ok (.ireturn, 1)) := by decide +kernel
theorem dL_438 : decode code 438 = .ok (.aload_n 1, 1) := dT_4.1
theorem dL_439 : decode code 439 = .ok (.invokevirtual 23, 3) := dT_4.2.1
theorem dL_442 : decode code 442 = .ok (.aload_n 2, 1) := dT_4.2.2.1
theorem dL_443 : decode code 443 = .ok (.invokevirtual 27, 3) := dT_4.2.2.2.1
theorem dL_446 : decode code 446 = .ok (.if_icmp .eq 1836, 3) := dT_4.2.2.2.2.1
theorem dL_449 : decode code 449 = .ok (.iconst 0, 1) := dT_4.2.2.2.2.2.1
theorem dL_450 : decode code 450 = .ok (.ireturn, 1) := dT_4.2.2.2.2.2.2.1
theorem dL_451 : decode code 451 = .ok (.aload_n 1, 1) := dT_4.2.2.2.2.2.2.2.1
theorem dL_452 : decode code 452 = .ok (.aload_n 0, 1) := dT_4.2.2.2.2.2.2.2.2.1
theorem dL_453 : decode code 453 = .ok (.iload_n 3, 1) := dT_4.2.2.2.2.2.2.2.2.2.1
theorem dL_454 : decode code 454 = .ok (.iconst 1, 1) := dT_4.2.2.2.2.2.2.2.2.2.2.1
theorem dL_455 : decode code 455 = .ok (.iadd, 1) := dT_4.2.2.2.2.2.2.2.2.2.2.2.1
theorem dL_456 : decode code 456 = .ok (.iaload, 1) := dT_4.2.2.2.2.2.2.2.2.2.2.2.2.1
theorem dL_457 : decode code 457 = .ok (.invokevirtual 28, 3) := dT_4.2.2.2.2.2.2.2.2.2.2.2.2.2.1
theorem dL_460 : decode code 460 = .ok (.aload_n 2, 1) := dT_4.2.2.2.2.2.2.2.2.2.2.2.2.2.2.1
theorem dL_461 : decode code 461 = .ok (.aload_n 0, 1) := dT_4.2.2.2.2.2.2.2.2.2.2.2.2.2.2.2.1
theorem dL_462 : decode code 462 = .ok (.iload_n 3, 1) := dT_4.2.2.2.2.2.2.2.2.2.2.2.2.2.2.2.2.1
theorem dL_463 : decode code 463 = .ok (.iconst 1, 1) := dT_4.2.2.2.2.2.2.2.2.2.2.2.2.2.2.2.2.2.1
theorem dL_464 : decode code 464 = .ok (.iadd, 1) := dT_4.2.2.2.2.2.2.2.2.2.2.2.2.2.2.2.2.2.2.1
theorem dL_465 : decode code 465 = .ok (.iaload, 1) := dT_4.2.2.2.2.2.2.2.2.2.2.2.2.2.2.2.2.2.2.2.1
theorem dL_466 : decode code 466 = .ok (.invokevirtual 31, 3) := dT_4.2.2.2.2.2.2.2.2.2.2.2.2.2.2.2.2.2.2.2.2.1
theorem dL_469 : decode code 469 = .ok (.if_icmp .eq 1813, 3) := dT_4.2.2.2.2.2.2.2.2.2.2.2.2.2.2.2.2.2.2.2.2.2.1
theorem dL_472 : decode code 472 = .ok (.iconst 0, 1) := dT_4.2.2.2.2.2.2.2.2.2.2.2.2.2.2.2.2.2.2.2.2.2.2.1
theorem dL_473 : decode code 473 = .ok (.ireturn, 1) := dT_4.2.2.2.2.2.2.2.2.2.2.2.2.2.2.2.2.2.2.2.2.2.2.2
theorem dT_5 : (decode code 474 = .ok (.aload_n 1, 1)) ∧ (decode code 475 = .ok (.aload_n 0, 1)) ∧ (decode code 476 = .ok (.iload_n 3, 1)) ∧ (decode code 477 = .ok (.iconst 1, 1)) ∧ (decode code 478 = .ok (.iadd, 1)) ∧ (decode code 479 = .ok (.iaload, 1)) ∧ (decode code 480 = .ok (.aload_n 0, 1)) ∧ (decode code 481 = .ok (.iload_n 3, 1)) ∧ (decode code 482 = .ok (.iconst 2, 1)) ∧ (decode code 483 = .ok (.iadd, 1)) ∧ (decode code 484 = .ok (.iaload, 1)) ∧ (decode code 485 = .ok (.invokevirtual 32, 3)) ∧ (decode code 488 = .ok (.aload_n 2, 1)) ∧ (decode code 489 = .ok (.aload_n 0, 1)) ∧ (decode code 490 = .ok (.iload_n 3, 1)) ∧ (decode code 491 = .ok (.iconst 1, 1)) ∧ (decode code 492 = .ok (.iadd, 1)) ∧ (decode code 493 = .ok (.iaload, 1)) ∧ (decode code 494 = .ok (.aload_n 0, 1)) ∧ (decode code 495 = .ok (.iload_n 3, 1)) ∧ (decode code 496 = .ok (.iconst 2, 1)) ∧ (decode code 497 = .ok (.iadd, 1)) ∧ (decode code 498 = .ok (.iaload, 1)) ∧ (decode code 499 = .ok (.invokevirtual 36, 3)) := by decide +kernel
theorem dL_474 : decode code 474 = .ok (.aload_n 1, 1) := dT_5.1
theorem dL_475 : decode code 475 = .ok (.aload_n 0, 1) := dT_5.2.1
theorem dL_476 : decode code 476 = .ok (.iload_n 3, 1) := dT_5.2.2.1
theorem dL_477 : decode code 477 = .ok (.iconst 1, 1) := dT_5.2.2.2.1
theorem dL_478 : decode code 478 = .ok (.iadd, 1) := dT_5.2.2.2.2.1
theorem dL_479 : decode code 479 = .ok (.iaload, 1) := dT_5.2.2.2.2.2.1
theorem dL_480 : decode code 480 = .ok (.aload_n 0, 1) := dT_5.2.2.2.2.2.2.1
theorem dL_481 : decode code 481 = .ok (.iload_n 3, 1) := dT_5.2.2.2.2.2.2.2.1
theorem dL_482 : decode code 482 = .ok (.iconst 2, 1) := dT_5.2.2.2.2.2.2.2.2.1
theorem dL_483 : decode code 483 = .ok (.iadd, 1) := dT_5.2.2.2.2.2.2.2.2.2.1
theorem dL_484 : decode code 484 = .ok (.iaload, 1) := dT_5.2.2.2.2.2.2.2.2.2.2.1
theorem dL_485 : decode code 485 = .ok (.invokevirtual 32, 3) := dT_5.2.2.2.2.2.2.2.2.2.2.2.1
theorem dL_488 : decode code 488 = .ok (.aload_n 2, 1) := dT_5.2.2.2.2.2.2.2.2.2.2.2.2.1
theorem dL_489 : decode code 489 = .ok (.aload_n 0, 1) := dT_5.2.2.2.2.2.2.2.2.2.2.2.2.2.1
theorem dL_490 : decode code 490 = .ok (.iload_n 3, 1) := dT_5.2.2.2.2.2.2.2.2.2.2.2.2.2.2.1
theorem dL_491 : decode code 491 = .ok (.iconst 1, 1) := dT_5.2.2.2.2.2.2.2.2.2.2.2.2.2.2.2.1
theorem dL_492 : decode code 492 = .ok (.iadd, 1) := dT_5.2.2.2.2.2.2.2.2.2.2.2.2.2.2.2.2.1
theorem dL_493 : decode code 493 = .ok (.iaload, 1) := dT_5.2.2.2.2.2.2.2.2.2.2.2.2.2.2.2.2.2.1
theorem dL_494 : decode code 494 = .ok (.aload_n 0, 1) := dT_5.2.2.2.2.2.2.2.2.2.2.2.2.2.2.2.2.2.2.1
theorem dL_495 : decode code 495 = .ok (.iload_n 3, 1) := dT_5.2.2.2.2.2.2.2.2.2.2.2.2.2.2.2.2.2.2.2.1
theorem dL_496 : decode code 496 = .ok (.iconst 2, 1) := dT_5.2.2.2.2.2.2.2.2.2.2.2.2.2.2.2.2.2.2.2.2.1
theorem dL_497 : decode code 497 = .ok (.iadd, 1) := dT_5.2.2.2.2.2.2.2.2.2.2.2.2.2.2.2.2.2.2.2.2.2.1
theorem dL_498 : decode code 498 = .ok (.iaload, 1) := dT_5.2.2.2.2.2.2.2.2.2.2.2.2.2.2.2.2.2.2.2.2.2.2.1
theorem dL_499 : decode code 499 = .ok (.invokevirtual 36, 3) := dT_5.2.2.2.2.2.2.2.2.2.2.2.2.2.2.2.2.2.2.2.2.2.2.2
theorem dT_6 : (decode code 502 = .ok (.if_icmp .eq 1780, 3)) ∧ (decode code 505 = .ok (.iconst 0, 1)) ∧ (decode code 506 = .ok (.ireturn, 1)) ∧ (decode code 507 = .ok (.aload_n 1, 1)) ∧ (decode code 508 = .ok (.aload_n 0, 1)) ∧ (decode code 509 = .ok (.iload_n 3, 1)) ∧ (decode code 510 = .ok (.iconst 1, 1)) ∧ (decode code 511 = .ok (.iadd, 1)) ∧ (decode code 512 = .ok (.iaload, 1)) ∧ (decode code 513 = .ok (.aload_n 0, 1)) ∧ (decode code 514 = .ok (.iload_n 3, 1)) ∧ (decode code 515 = .ok (.iconst 2, 1)) ∧ (decode code 516 = .ok (.iadd, 1)) ∧ (decode code 517 = .ok (.iaload, 1)) ∧ (decode code 518 = .ok (.invokevirtual 37, 3)) ∧ (decode code 521 = .ok (.aload_n 2, 1)) ∧ (decode code 522 = .ok (.aload_n 0, 1)) ∧ (decode code 523 = .ok (.iload_n 3, 1)) ∧ (decode code 524 = .ok (.iconst 1, 1)) ∧ (decode code 525 = .ok (.iadd, 1)) ∧ (decode code 526 = .ok (.iaload, 1)) ∧ (decode code 527 = .ok (.aload_n 0, 1)) ∧ (decode code 528 = .ok (.iload_n 3, 1)) ∧ (decode code 529 = .ok (.iconst 2, 1)) := by decide +kernel
theorem dL_502 : decode code 502 = .ok (.if_icmp .eq 1780, 3) := dT_6.1
theorem dL_505 : decode code 505 = .ok (.iconst 0, 1) := dT_6.2.1
theorem dL_506 : decode code 506 = .ok (.ireturn, 1) := dT_6.2.2.1
theorem dL_507 : decode code 507 = .ok (.aload_n 1, 1) := dT_6.2.2.2.1
theorem dL_508 : decode code 508 = .ok (.aload_n 0, 1) := dT_6.2.2.2.2.1
theorem dL_509 : decode code 509 = .ok (.iload_n 3, 1) := dT_6.2.2.2.2.2.1
theorem dL_510 : decode code 510 = .ok (.iconst 1, 1) := dT_6.2.2.2.2.2.2.1
theorem dL_511 : decode code 511 = .ok (.iadd, 1) := dT_6.2.2.2.2.2.2.2.1
theorem dL_512 : decode code 512 = .ok (.iaload, 1) := dT_6.2.2.2.2.2.2.2.2.1
theorem dL_513 : decode code 513 = .ok (.aload_n 0, 1) := dT_6.2.2.2.2.2.2.2.2.2.1
theorem dL_514 : decode code 514 = .ok (.iload_n 3, 1) := dT_6.2.2.2.2.2.2.2.2.2.2.1
theorem dL_515 : decode code 515 = .ok (.iconst 2, 1) := dT_6.2.2.2.2.2.2.2.2.2.2.2.1
theorem dL_516 : decode code 516 = .ok (.iadd, 1) := dT_6.2.2.2.2.2.2.2.2.2.2.2.2.1
theorem dL_517 : decode code 517 = .ok (.iaload, 1) := dT_6.2.2.2.2.2.2.2.2.2.2.2.2.2.1
theorem dL_518 : decode code 518 = .ok (.invokevirtual 37, 3) := dT_6.2.2.2.2.2.2.2.2.2.2.2.2.2.2.1
theorem dL_521 : decode code 521 = .ok (.aload_n 2, 1) := dT_6.2.2.2.2.2.2.2.2.2.2.2.2.2.2.2.1
theorem dL_522 : decode code 522 = .ok (.aload_n 0, 1) := dT_6.2.2.2.2.2.2.2.2.2.2.2.2.2.2.2.2.1
theorem dL_523 : decode code 523 = .ok (.iload_n 3, 1) := dT_6.2.2.2.2.2.2.2.2.2.2.2.2.2.2.2.2.2.1
theorem dL_524 : decode code 524 = .ok (.iconst 1, 1) := dT_6.2.2.2.2.2.2.2.2.2.2.2.2.2.2.2.2.2.2.1
theorem dL_525 : decode code 525 = .ok (.iadd, 1) := dT_6.2.2.2.2.2.2.2.2.2.2.2.2.2.2.2.2.2.2.2.1
theorem dL_526 : decode code 526 = .ok (.iaload, 1) := dT_6.2.2.2.2.2.2.2.2.2.2.2.2.2.2.2.2.2.2.2.2.1
theorem dL_527 : decode code 527 = .ok (.aload_n 0, 1) := dT_6.2.2.2.2.2.2.2.2.2.2.2.2.2.2.2.2.2.2.2.2.2.1
theorem dL_528 : decode code 528 = .ok (.iload_n 3, 1) := dT_6.2.2.2.2.2.2.2.2.2.2.2.2.2.2.2.2.2.2.2.2.2.2.1
theorem dL_529 : decode code 529 = .ok (.iconst 2, 1) := dT_6.2.2.2.2.2.2.2.2.2.2.2.2.2.2.2.2.2.2.2.2.2.2.2
theorem dT_7 : (decode code 530 = .ok (.iadd, 1)) ∧ (decode code 531 = .ok (.iaload, 1)) ∧ (decode code 532 = .ok (.invokevirtual 40, 3)) ∧ (decode code 535 = .ok (.if_icmp .eq 1747, 3)) ∧ (decode code 538 = .ok (.iconst 0, 1)) ∧ (decode code 539 = .ok (.ireturn, 1)) ∧ (decode code 540 = .ok (.aload_n 1, 1)) ∧ (decode code 541 = .ok (.invokevirtual 41, 3)) ∧ (decode code 544 = .ok (.aload_n 2, 1)) ∧ (decode code 545 = .ok (.invokevirtual 44, 3)) ∧ (decode code 548 = .ok (.if_icmp .eq 1734, 3)) ∧ (decode code 551 = .ok (.iconst 0, 1)) ∧ (decode code 552 = .ok (.ireturn, 1)) ∧ (decode code 553 = .ok (.aload_n 1, 1)) ∧ (decode code 554 = .ok (.aload_n 0, 1)) ∧ (decode code 555 = .ok (.iload_n 3, 1)) ∧ (decode code 556 = .ok (.iconst 1, 1)) ∧ (decode code 557 = .ok (.iadd, 1)) ∧ (decode code 558 = .ok (.iaload, 1)) ∧ (decode code 559 = .ok (.invokevirtual 45, 3)) ∧ (decode code 562 = .ok (.aload_n 2, 1)) ∧ (decode code 563 = .ok (.aload_n 0, 1)) ∧ (decode code 564 = .ok (.iload_n 3, 1)) ∧ (decode code 565 = .ok (.iconst 1, 1)) := by decide +kernel
theorem dL_530 : decode code 530 = .ok (.iadd, 1) := dT_7.1
theorem dL_531 : decode code 531 = .ok (.iaload, 1) := dT_7.2.1
theorem dL_532 : decode code 532 = .ok (.invokevirtual 40, 3) := dT_7.2.2.1
theorem dL_535 : decode code 535 = .ok (.if_icmp .eq 1747, 3) := dT_7.2.2.2.1
theorem dL_538 : decode code 538 = .ok (.iconst 0, 1) := dT_7.2.2.2.2.1
theorem dL_539 : decode code 539 = .ok (.ireturn, 1) := dT_7.2.2.2.2.2.1
theorem dL_540 : decode code 540 = .ok (.aload_n 1, 1) := dT_7.2.2.2.2.2.2.1
theorem dL_541 : decode code 541 = .ok (.invokevirtual 41, 3) := dT_7.2.2.2.2.2.2.2.1
theorem dL_544 : decode code 544 = .ok (.aload_n 2, 1) := dT_7.2.2.2.2.2.2.2.2.1
theorem dL_545 : decode code 545 = .ok (.invokevirtual 44, 3) := dT_7.2.2.2.2.2.2.2.2.2.1
theorem dL_548 : decode code 548 = .ok (.if_icmp .eq 1734, 3) := dT_7.2.2.2.2.2.2.2.2.2.2.1
theorem dL_551 : decode code 551 = .ok (.iconst 0, 1) := dT_7.2.2.2.2.2.2.2.2.2.2.2.1
theorem dL_552 : decode code 552 = .ok (.ireturn, 1) := dT_7.2.2.2.2.2.2.2.2.2.2.2.2.1
theorem dL_553 : decode code 553 = .ok (.aload_n 1, 1) := dT_7.2.2.2.2.2.2.2.2.2.2.2.2.2.1
theorem dL_554 : decode code 554 = .ok (.aload_n 0, 1) := dT_7.2.2.2.2.2.2.2.2.2.2.2.2.2.2.1
theorem dL_555 : decode code 555 = .ok (.iload_n 3, 1) := dT_7.2.2.2.2.2.2.2.2.2.2.2.2.2.2.2.1
theorem dL_556 : decode code 556 = .ok (.iconst 1, 1) := dT_7.2.2.2.2.2.2.2.2.2.2.2.2.2.2.2.2.1
theorem dL_557 : decode code 557 = .ok (.iadd, 1) := dT_7.2.2.2.2.2.2.2.2.2.2.2.2.2.2.2.2.2.1
theorem dL_558 : decode code 558 = .ok (.iaload, 1) := dT_7.2.2.2.2.2.2.2.2.2.2.2.2.2.2.2.2.2.2.1
theorem dL_559 : decode code 559 = .ok (.invokevirtual 45, 3) := dT_7.2.2.2.2.2.2.2.2.2.2.2.2.2.2.2.2.2.2.2.1
theorem dL_562 : decode code 562 = .ok (.aload_n 2, 1) := dT_7.2.2.2.2.2.2.2.2.2.2.2.2.2.2.2.2.2.2.2.2.1
theorem dL_563 : decode code 563 = .ok (.aload_n 0, 1) := dT_7.2.2.2.2.2.2.2.2.2.2.2.2.2.2.2.2.2.2.2.2.2.1
theorem dL_564 : decode code 564 = .ok (.iload_n 3, 1) := dT_7.2.2.2.2.2.2.2.2.2.2.2.2.2.2.2.2.2.2.2.2.2.2.1
theorem dL_565 : decode code 565 = .ok (.iconst 1, 1) := dT_7.2.2.2.2.2.2.2.2.2.2.2.2.2.2.2.2.2.2.2.2.2.2.2
theorem dT_8 : (decode code 566 = .ok (.iadd, 1)) ∧ (decode code 567 = .ok (.iaload, 1)) ∧ (decode code 568 = .ok (.invokevirtual 48, 3)) ∧ (decode code 571 = .ok (.if_icmp .eq 1711, 3)) ∧ (decode code 574 = .ok (.iconst 0, 1)) ∧ (decode code 575 = .ok (.ireturn, 1)) ∧ (decode code 576 = .ok (.aload_n 1, 1)) ∧ (decode code 577 = .ok (.aload_n 0, 1)) ∧ (decode code 578 = .ok (.iload_n 3, 1)) ∧ (decode code 579 = .ok (.iconst 1, 1)) ∧ (decode code 580 = .ok (.iadd, 1)) ∧ (decode code 581 = .ok (.iaload, 1)) ∧ (decode code 582 = .ok (.invokevirtual 49, 3)) ∧ (decode code 585 = .ok (.aload_n 2, 1)) ∧ (decode code 586 = .ok (.aload_n 0, 1)) ∧ (decode code 587 = .ok (.iload_n 3, 1)) ∧ (decode code 588 = .ok (.iconst 1, 1)) ∧ (decode code 589 = .ok (.iadd, 1)) ∧ (decode code 590 = .ok (.iaload, 1)) ∧ (decode code 591 = .ok (.invokevirtual 52, 3)) ∧ (decode code 594 = .ok (.if_icmp .eq 1688, 3)) ∧ (decode code 597 = .ok (.iconst 0, 1)) ∧ (decode code 598 = .ok (.ireturn, 1)) ∧ (decode code 599 = .ok (.aload_n 1, 1)) := by decide +kernel
theorem dL_566 : decode code 566 = .ok (.iadd, 1) := dT_8.1
theorem dL_567 : decode code 567 = .ok (.iaload, 1) := dT_8.2.1
theorem dL_568 : decode code 568 = .ok (.invokevirtual 48, 3) := dT_8.2.2.1
theorem dL_571 : decode code 571 = .ok (.if_icmp .eq 1711, 3) := dT_8.2.2.2.1
theorem dL_574 : decode code 574 = .ok (.iconst 0, 1) := dT_8.2.2.2.2.1
theorem dL_575 : decode code 575 = .ok (.ireturn, 1) := dT_8.2.2.2.2.2.1
theorem dL_576 : decode code 576 = .ok (.aload_n 1, 1) := dT_8.2.2.2.2.2.2.1
theorem dL_577 : decode code 577 = .ok (.aload_n 0, 1) := dT_8.2.2.2.2.2.2.2.1
theorem dL_578 : decode code 578 = .ok (.iload_n 3, 1) := dT_8.2.2.2.2.2.2.2.2.1
theorem dL_579 : decode code 579 = .ok (.iconst 1, 1) := dT_8.2.2.2.2.2.2.2.2.2.1
theorem dL_580 : decode code 580 = .ok (.iadd, 1) := dT_8.2.2.2.2.2.2.2.2.2.2.1
theorem dL_581 : decode code 581 = .ok (.iaload, 1) := dT_8.2.2.2.2.2.2.2.2.2.2.2.1
theorem dL_582 : decode code 582 = .ok (.invokevirtual 49, 3) := dT_8.2.2.2.2.2.2.2.2.2.2.2.2.1
theorem dL_585 : decode code 585 = .ok (.aload_n 2, 1) := dT_8.2.2.2.2.2.2.2.2.2.2.2.2.2.1
theorem dL_586 : decode code 586 = .ok (.aload_n 0, 1) := dT_8.2.2.2.2.2.2.2.2.2.2.2.2.2.2.1
theorem dL_587 : decode code 587 = .ok (.iload_n 3, 1) := dT_8.2.2.2.2.2.2.2.2.2.2.2.2.2.2.2.1
theorem dL_588 : decode code 588 = .ok (.iconst 1, 1) := dT_8.2.2.2.2.2.2.2.2.2.2.2.2.2.2.2.2.1
theorem dL_589 : decode code 589 = .ok (.iadd, 1) := dT_8.2.2.2.2.2.2.2.2.2.2.2.2.2.2.2.2.2.1
theorem dL_590 : decode code 590 = .ok (.iaload, 1) := dT_8.2.2.2.2.2.2.2.2.2.2.2.2.2.2.2.2.2.2.1
theorem dL_591 : decode code 591 = .ok (.invokevirtual 52, 3) := dT_8.2.2.2.2.2.2.2.2.2.2.2.2.2.2.2.2.2.2.2.1
theorem dL_594 : decode code 594 = .ok (.if_icmp .eq 1688, 3) := dT_8.2.2.2.2.2.2.2.2.2.2.2.2.2.2.2.2.2.2.2.2.1
theorem dL_597 : decode code 597 = .ok (.iconst 0, 1) := dT_8.2.2.2.2.2.2.2.2.2.2.2.2.2.2.2.2.2.2.2.2.2.1
theorem dL_598 : decode code 598 = .ok (.ireturn, 1) := dT_8.2.2.2.2.2.2.2.2.2.2.2.2.2.2.2.2.2.2.2.2.2.2.1
theorem dL_599 : decode code 599 = .ok (.aload_n 1, 1) := dT_8.2.2.2.2.2.2.2.2.2.2.2.2.2.2.2.2.2.2.2.2.2.2.2
theorem dT_9 : (decode code 600 = .ok (.aload_n 0, 1)) ∧ (decode code 601 = .ok (.iload_n 3, 1)) ∧ (decode code 602 = .ok (.iconst 1, 1)) ∧ (decode code 603 = .ok (.iadd, 1)) ∧ (decode code 604 = .ok (.iaload, 1)) ∧ (decode code 605 = .ok (.invokevirtual 53, 3)) ∧ (decode code 608 = .ok (.aload_n 2, 1)) ∧ (decode code 609 = .ok (.aload_n 0, 1)) ∧ (decode code 610 = .ok (.iload_n 3, 1)) ∧ (decode code 611 = .ok (.iconst 1, 1)) ∧ (decode code 612 = .ok (.iadd, 1)) ∧ (decode code 613 = .ok (.iaload, 1)) ∧ (decode code 614 = .ok (.invokevirtual 56, 3)) ∧ (decode code 617 = .ok (.if_icmp .eq 1665, 3)) ∧ (decode code 620 = .ok (.iconst 0, 1)) ∧ (decode code 621 = .ok (.ireturn, 1)) ∧ (decode code 622 = .ok (.aload_n 1, 1)) ∧ (decode code 623 = .ok (.invokevirtual 57, 3)) ∧ (decode code 626 = .ok (.aload_n 2, 1)) ∧ (decode code 627 = .ok (.invokevirtual 60, 3)) ∧ (decode code 630 = .ok (.if_icmp .eq 1652, 3)) ∧ (decode code 633 = .ok (.iconst 0, 1)) ∧ (decode code 634 = .ok (.ireturn, 1)) ∧ (decode code 635 = .ok (.aload_n 1, 1)) := by decide +kernel
theorem dL_600 : decode code 600 = .ok (.aload_n 0, 1) := dT_9.1
theorem dL_601 : decode code 601 = .ok (.iload_n 3, 1) := dT_9.2.1
theorem dL_602 : decode code 602 = .ok (.iconst 1, 1) := dT_9.2.2.1
theorem dL_603 : decode code 603 = .ok (.iadd, 1) := dT_9.2.2.2.1
theorem dL_604 : decode code 604 = .ok (.iaload, 1) := dT_9.2.2.2.2.1
theorem dL_605 : decode code 605 = .ok (.invokevirtual 53, 3) := dT_9.2.2.2.2.2.1
theorem dL_608 : decode code 608 = .ok (.aload_n 2, 1) := dT_9.2.2.2.2.2.2.1
theorem dL_609 : decode code 609 = .ok (.aload_n 0, 1) := dT_9.2.2.2.2.2.2.2.1
theorem dL_610 : decode code 610 = .ok (.iload_n 3, 1) := dT_9.2.2.2.2.2.2.2.2.1
theorem dL_611 : decode code 611 = .ok (.iconst 1, 1) := dT_9.2.2.2.2.2.2.2.2.2.1
theorem dL_612 : decode code 612 = .ok (.iadd, 1) := dT_9.2.2.2.2.2.2.2.2.2.2.1
theorem dL_613 : decode code 613 = .ok (.iaload, 1) := dT_9.2.2.2.2.2.2.2.2.2.2.2.1
theorem dL_614 : decode code 614 = .ok (.invokevirtual 56, 3) := dT_9.2.2.2.2.2.2.2.2.2.2.2.2.1
theorem dL_617 : decode code 617 = .ok (.if_icmp .eq 1665, 3) := dT_9.2.2.2.2.2.2.2.2.2.2.2.2.2.1
theorem dL_620 : decode code 620 = .ok (.iconst 0, 1) := dT_9.2.2.2.2.2.2.2.2.2.2.2.2.2.2.1
theorem dL_621 : decode code 621 = .ok (.ireturn, 1) := dT_9.2.2.2.2.2.2.2.2.2.2.2.2.2.2.2.1
theorem dL_622 : decode code 622 = .ok (.aload_n 1, 1) := dT_9.2.2.2.2.2.2.2.2.2.2.2.2.2.2.2.2.1
theorem dL_623 : decode code 623 = .ok (.invokevirtual 57, 3) := dT_9.2.2.2.2.2.2.2.2.2.2.2.2.2.2.2.2.2.1
theorem dL_626 : decode code 626 = .ok (.aload_n 2, 1) := dT_9.2.2.2.2.2.2.2.2.2.2.2.2.2.2.2.2.2.2.1
theorem dL_627 : decode code 627 = .ok (.invokevirtual 60, 3) := dT_9.2.2.2.2.2.2.2.2.2.2.2.2.2.2.2.2.2.2.2.1
theorem dL_630 : decode code 630 = .ok (.if_icmp .eq 1652, 3) := dT_9.2.2.2.2.2.2.2.2.2.2.2.2.2.2.2.2.2.2.2.2.1
theorem dL_633 : decode code 633 = .ok (.iconst 0, 1) := dT_9.2.2.2.2.2.2.2.2.2.2.2.2.2.2.2.2.2.2.2.2.2.1
theorem dL_634 : decode code 634 = .ok (.ireturn, 1) := dT_9.2.2.2.2.2.2.2.2.2.2.2.2.2.2.2.2.2.2.2.2.2.2.1
theorem dL_635 : decode code 635 = .ok (.aload_n 1, 1) := dT_9.2.2.2.2.2.2.2.2.2.2.2.2.2.2.2.2.2.2.2.2.2.2.2
theorem dT_10 : (decode code 636 = .ok (.aload_n 0, 1)) ∧ (decode code 637 = .ok (.iload_n 3, 1)) ∧ (decode code 638 = .ok (.iconst 1, 1)) ∧ (decode code 639 = .ok (.iadd, 1)) ∧ (decode code 640 = .ok (.iaload, 1)) ∧ (decode code 641 = .ok (.invokevirtual 61, 3)) ∧ (decode code 644 = .ok (.aload_n 2, 1)) ∧ (decode code 645 = .ok (.aload_n 0, 1)) ∧ (decode code 646 = .ok (.iload_n 3, 1)) ∧ (decode code 647 = .ok (.iconst 1, 1)) ∧ (decode code 648 = .ok (.iadd, 1)) ∧ (decode code 649 = .ok (.iaload, 1)) ∧ (decode code 650 = .ok (.invokevirtual 64, 3)) ∧ (decode code 653 = .ok (.if_icmp .eq 1629, 3)) ∧ (decode code 656 = .ok (.iconst 0, 1)) ∧ (decode code 657 = .ok (.ireturn, 1)) ∧ (decode code 658 = .ok (.aload_n 1, 1)) ∧ (decode code 659 = .ok (.aload_n 0, 1)) ∧ (decode code 660 = .ok (.iload_n 3, 1)) ∧ (decode code 661 = .ok (.iconst 1, 1)) ∧ (decode code 662 = .ok (.iadd, 1)) ∧ (decode code 663 = .ok (.iaload, 1)) ∧ (decode code 664 = .ok (.invokevirtual 65, 3)) ∧ (decode code 667 = .ok (.aload_n 2, 1)) := by decide +kernel
theorem dL_636 : decode code 636 = .ok (.aload_n 0, 1) := dT_10.1
theorem dL_637 : decode code 637 = .ok (.iload_n 3, 1) := dT_10.2.1
theorem dL_638 : decode code 638 = .ok (.iconst 1, 1) := dT_10.2.2.1
theorem dL_639 : decode code 639 = .ok (.iadd, 1) := dT_10.2.2.2.1
theorem dL_640 : decode code 640 = .ok (.iaload, 1) := dT_10.2.2.2.2.1
theorem dL_641 : decode code 641 = .ok (.invokevirtual 61, 3) := dT_10.2.2.2.2.2.1
theorem dL_644 : decode code 644 = .ok (.aload_n 2, 1) := dT_10.2.2.2.2.2.2.1
theorem dL_645 : decode code 645 = .ok (.aload_n 0, 1) := dT_10.2.2.2.2.2.2.2.1
theorem dL_646 : decode code 646 = .ok (.iload_n 3, 1) := dT_10.2.2.2.2.2.2.2.2.1
theorem dL_647 : decode code 647 = .ok (.iconst 1, 1) := dT_10.2.2.2.2.2.2.2.2.2.1
theorem dL_648 : decode code 648 = .ok (.iadd, 1) := dT_10.2.2.2.2.2.2.2.2.2.2.1
theorem dL_649 : decode code 649 = .ok (.iaload, 1) := dT_10.2.2.2.2.2.2.2.2.2.2.2.1
theorem dL_650 : decode code 650 = .ok (.invokevirtual 64, 3) := dT_10.2.2.2.2.2.2.2.2.2.2.2.2.1
theorem dL_653 : decode code 653 = .ok (.if_icmp .eq 1629, 3) := dT_10.2.2.2.2.2.2.2.2.2.2.2.2.2.1
theorem dL_656 : decode code 656 = .ok (.iconst 0, 1) := dT_10.2.2.2.2.2.2.2.2.2.2.2.2.2.2.1
theorem dL_657 : decode code 657 = .ok (.ireturn, 1) := dT_10.2.2.2.2.2.2.2.2.2.2.2.2.2.2.2.1
theorem dL_658 : decode code 658 = .ok (.aload_n 1, 1) := dT_10.2.2.2.2.2.2.2.2.2.2.2.2.2.2.2.2.1
theorem dL_659 : decode code 659 = .ok (.aload_n 0, 1) := dT_10.2.2.2.2.2.2.2.2.2.2.2.2.2.2.2.2.2.1
theorem dL_660 : decode code 660 = .ok (.iload_n 3, 1) := dT_10.2.2.2.2.2.2.2.2.2.2.2.2.2.2.2.2.2.2.1
theorem dL_661 : decode code 661 = .ok (.iconst 1, 1) := dT_10.2.2.2.2.2.2.2.2.2.2.2.2.2.2.2.2.2.2.2.1
theorem dL_662 : decode code 662 = .ok (.iadd, 1) := dT_10.2.2.2.2.2.2.2.2.2.2.2.2.2.2.2.2.2.2.2.2.1
theorem dL_663 : decode code 663 = .ok (.iaload, 1) := dT_10.2.2.2.2.2.2.2.2.2.2.2.2.2.2.2.2.2.2.2.2.2.1
theorem dL_664 : decode code 664 = .ok (.invokevirtual 65, 3) := dT_10.2.2.2.2.2.2.2.2.2.2.2.2.2.2.2.2.2.2.2.2.2.2.1
theorem dL_667 : decode code 667 = .ok (.aload_n 2, 1) := dT_10.2.2.2.2.2.2.2.2.2.2.2.2.2.2.2.2.2.2.2.2.2.2.2
theorem dT_11 : (decode code 668 = .ok (.aload_n 0, 1)) ∧ (decode code 669 = .ok (.iload_n 3, 1)) ∧ (decode code 670 = .ok (.iconst 1, 1)) ∧ (decode code 671 = .ok (.iadd, 1)) ∧ (decode code 672 = .ok (.iaload, 1)) ∧ (decode code 673 = .ok (.invokevirtual 68, 3)) ∧ (decode code 676 = .ok (.if_icmp .eq 1606, 3)) ∧ (decode code 679 = .ok (.iconst 0, 1)) ∧ (decode code 680 = .ok (.ireturn, 1)) ∧ (decode code 681 = .ok (.aload_n 1, 1)) ∧ (decode code 682 = .ok (.invokevirtual 69, 3)) ∧ (decode code 685 = .ok (.aload_n 2, 1)) ∧ (decode code 686 = .ok (.invokevirtual 72, 3)) ∧ (decode code 689 = .ok (.if_icmp .eq 1593, 3)) ∧ (decode code 692 = .ok (.iconst 0, 1)) ∧ (decode code 693 = .ok (.ireturn, 1)) ∧ (decode code 694 = .ok (.aload_n 1, 1)) ∧ (decode code 695 = .ok (.invokevirtual 73, 3)) ∧ (decode code 698 = .ok (.aload_n 2, 1)) ∧ (decode code 699 = .ok (.invokevirtual 76, 3)) ∧ (decode code 702 = .ok (.if_icmp .eq 1580, 3)) ∧ (decode code 705 = .ok (.iconst 0, 1)) ∧ (decode code 706 = .ok (.ireturn, 1)) ∧ (decode code 707 = .ok (.aload_n 1, 1)) := by decide +kernel
theorem dL_668 : decode code 668 = .ok (.aload_n 0, 1) := dT_11.1
theorem dL_669 : decode code 669 = .ok (.iload_n 3, 1) := dT_11.2.1
theorem dL_670 : decode code 670 = .ok (.iconst 1, 1) := dT_11.2.2.1
theorem dL_671 : decode code 671 = .ok (.iadd, 1) := dT_11.2.2.2.1
theorem dL_672 : decode code 672 = .ok (.iaload, 1) := dT_11.2.2.2.2.1
theorem dL_673 : decode code 673 = .ok (.invokevirtual 68, 3) := dT_11.2.2.2.2.2.1
theorem dL_676 : decode code 676 = .ok (.if_icmp .eq 1606, 3) := dT_11.2.2.2.2.2.2.1
theorem dL_679 : decode code 679 = .ok (.iconst 0, 1) := dT_11.2.2.2.2.2.2.2.1
theorem dL_680 : decode code 680 = .ok (.ireturn, 1) := dT_11.2.2.2.2.2.2.2.2.1
theorem dL_681 : decode code 681 = .ok (.aload_n 1, 1) := dT_11.2.2.2.2.2.2.2.2.2.1
theorem dL_682 : decode code 682 = .ok (.invokevirtual 69, 3) := dT_11.2.2.2.2.2.2.2.2.2.2.1
theorem dL_685 : decode code 685 = .ok (.aload_n 2, 1) := dT_11.2.2.2.2.2.2.2.2.2.2.2.1
theorem dL_686 : decode code 686 = .ok (.invokevirtual 72, 3) := dT_11.2.2.2.2.2.2.2.2.2.2.2.2.1
theorem dL_689 : decode code 689 = .ok (.if_icmp .eq 1593, 3) := dT_11.2.2.2.2.2.2.2.2.2.2.2.2.2.1
theorem dL_692 : decode code 692 = .ok (.iconst 0, 1) := dT_11.2.2.2.2.2.2.2.2.2.2.2.2.2.2.1
theorem dL_693 : decode code 693 = .ok (.ireturn, 1) := dT_11.2.2.2.2.2.2.2.2.2.2.2.2.2.2.2.1
theorem dL_694 : decode code 694 = .ok (.aload_n 1, 1) := dT_11.2.2.2.2.2.2.2.2.2.2.2.2.2.2.2.2.1
theorem dL_695 : decode code 695 = .ok (.invokevirtual 73, 3) := dT_11.2.2.2.2.2.2.2.2.2.2.2.2.2.2.2.2.2.1
theorem dL_698 : decode code 698 = .ok (.aload_n 2, 1) := dT_11.2.2.2.2.2.2.2.2.2.2.2.2.2.2.2.2.2.2.1
theorem dL_699 : decode code 699 = .ok (.invokevirtual 76, 3) := dT_11.2.2.2.2.2.2.2.2.2.2.2.2.2.2.2.2.2.2.2.1
theorem dL_702 : decode code 702 = .ok (.if_icmp .eq 1580, 3) := dT_11.2.2.2.2.2.2.2.2.2.2.2.2.2.2.2.2.2.2.2.2.1
theorem dL_705 : decode code 705 = .ok (.iconst 0, 1) := dT_11.2.2.2.2.2.2.2.2.2.2.2.2.2.2.2.2.2.2.2.2.2.1
theorem dL_706 : decode code 706 = .ok (.ireturn, 1) := dT_11.2.2.2.2.2.2.2.2.2.2.2.2.2.2.2.2.2.2.2.2.2.2.1
theorem dL_707 : decode code 707 = .ok (.aload_n 1, 1) := dT_11.2.2.2.2.2.2.2.2.2.2.2.2.2.2.2.2.2.2.2.2.2.2.2
theorem dT_12 : (decode code 708 = .ok (.invokevirtual 77, 3)) ∧ (decode code 711 = .ok (.aload_n 2, 1)) ∧ (decode code 712 = .ok (.invokevirtual 80, 3)) ∧ (decode code 715 = .ok (.if_icmp .eq 1567, 3)) ∧ (decode code 718 = .ok (.iconst 0, 1)) ∧ (decode code 719 = .ok (.ireturn, 1)) ∧ (decode code 720 = .ok (.aload_n 1, 1)) ∧ (decode code 721 = .ok (.aload_n 0, 1)) ∧ (decode code 722 = .ok (.iload_n 3, 1)) ∧ (decode code 723 = .ok (.iconst 1, 1)) ∧ (decode code 724 = .ok (.iadd, 1)) ∧ (decode code 725 = .ok (.iaload, 1)) ∧ (decode code 726 = .ok (.invokevirtual 81, 3)) ∧ (decode code 729 = .ok (.aload_n 2, 1)) ∧ (decode code 730 = .ok (.aload_n 0, 1)) ∧ (decode code 731 = .ok (.iload_n 3, 1)) ∧ (decode code 732 = .ok (.iconst 1, 1)) ∧ (decode code 733 = .ok (.iadd, 1)) ∧ (decode code 734 = .ok (.iaload, 1)) ∧ (decode code 735 = .ok (.invokevirtual 84, 3)) ∧ (decode code 738 = .ok (.if_icmp .eq 1544, 3)) ∧ (decode code 741 = .ok (.iconst 0, 1)) ∧ (decode code 742 = .ok (.ireturn, 1)) ∧ (decode code 743 = .ok (.aload_n 1, 1)) := by decide +kernel
theorem dL_708 : decode code 708 = .ok (.invokevirtual 77, 3) := dT_12.1
theorem dL_711 : decode code 711 = .ok (.aload_n 2, 1) := dT_12.2.1
theorem dL_712 : decode code 712 = .ok (.invokevirtual 80, 3) := dT_12.2.2.1
theorem dL_715 : decode code 715 = .ok (.if_icmp .eq 1567, 3) := dT_12.2.2.2.1
theorem dL_718 : decode code 718 = .ok (.iconst 0, 1) := dT_12.2.2.2.2.1
theorem dL_719 : decode code 719 = .ok (.ireturn, 1) := dT_12.2.2.2.2.2.1
theorem dL_720 : decode code 720 = .ok (.aload_n 1, 1) := dT_12.2.2.2.2.2.2.1
theorem dL_721 : decode code 721 = .ok (.aload_n 0, 1) := dT_12.2.2.2.2.2.2.2.1
theorem dL_722 : decode code 722 = .ok (.iload_n 3, 1) := dT_12.2.2.2.2.2.2.2.2.1
theorem dL_723 : decode code 723 = .ok (.iconst 1, 1) := dT_12.2.2.2.2.2.2.2.2.2.1
theorem dL_724 : decode code 724 = .ok (.iadd, 1) := dT_12.2.2.2.2.2.2.2.2.2.2.1
theorem dL_725 : decode code 725 = .ok (.iaload, 1) := dT_12.2.2.2.2.2.2.2.2.2.2.2.1
theorem dL_726 : decode code 726 = .ok (.invokevirtual 81, 3) := dT_12.2.2.2.2.2.2.2.2.2.2.2.2.1
theorem dL_729 : decode code 729 = .ok (.aload_n 2, 1) := dT_12.2.2.2.2.2.2.2.2.2.2.2.2.2.1
theorem dL_730 : decode code 730 = .ok (.aload_n 0, 1) := dT_12.2.2.2.2.2.2.2.2.2.2.2.2.2.2.1
theorem dL_731 : decode code 731 = .ok (.iload_n 3, 1) := dT_12.2.2.2.2.2.2.2.2.2.2.2.2.2.2.2.1
theorem dL_732 : decode code 732 = .ok (.iconst 1, 1) := dT_12.2.2.2.2.2.2.2.2.2.2.2.2.2.2.2.2.1
theorem dL_733 : decode code 733 = .ok (.iadd, 1) := dT_12.2.2.2.2.2.2.2.2.2.2.2.2.2.2.2.2.2.1
theorem dL_734 : decode code 734 = .ok (.iaload, 1) := dT_12.2.2.2.2.2.2.2.2.2.2.2.2.2.2.2.2.2.2.1
theorem dL_735 : decode code 735 = .ok (.invokevirtual 84, 3) := dT_12.2.2.2.2.2.2.2.2.2.2.2.2.2.2.2.2.2.2.2.1
theorem dL_738 : decode code 738 = .ok (.if_icmp .eq 1544, 3) := dT_12.2.2.2.2.2.2.2.2.2.2.2.2.2.2.2.2.2.2.2.2.1
theorem dL_741 : decode code 741 = .ok (.iconst 0, 1) := dT_12.2.2.2.2.2.2.2.2.2.2.2.2.2.2.2.2.2.2.2.2.2.1
theorem dL_742 : decode code 742 = .ok (.ireturn, 1) := dT_12.2.2.2.2.2.2.2.2.2.2.2.2.2.2.2.2.2.2.2.2.2.2.1
theorem dL_743 : decode code 743 = .ok (.aload_n 1, 1) := dT_12.2.2.2.2.2.2.2.2.2.2.2.2.2.2.2.2.2.2.2.2.2.2.2
theorem dT_13 : (decode code 744 = .ok (.aload_n 0, 1)) ∧ (decode code 745 = .ok (.iload_n 3, 1)) ∧ (decode code 746 = .ok (.iconst 1, 1)) ∧ (decode code 747 = .ok (.iadd, 1)) ∧ (decode code 748 = .ok (.iaload, 1)) ∧ (decode code 749 = .ok (.invokevirtual 85, 3)) ∧ (decode code 752 = .ok (.aload_n 2, 1)) ∧ (decode code 753 = .ok (.aload_n 0, 1)) ∧ (decode code 754 = .ok (.iload_n 3, 1)) ∧ (decode code 755 = .ok (.iconst 1, 1)) ∧ (decode code 756 = .ok (.iadd, 1)) ∧ (decode code 757 = .ok (.iaload, 1)) ∧ (decode code 758 = .ok (.invokevirtual 88, 3)) ∧ (decode code 761 = .ok (.if_icmp .eq 1521, 3)) ∧ (decode code 764 = .ok (.iconst 0, 1)) ∧ (decode code 765 = .ok (.ireturn, 1)) ∧ (decode code 766 = .ok (.aload_n 1, 1)) ∧ (decode code 767 = .ok (.aload_n 0, 1)) ∧ (decode code 768 = .ok (.iload_n 3, 1)) ∧ (decode code 769 = .ok (.iconst 1, 1)) ∧ (decode code 770 = .ok (.iadd, 1)) ∧ (decode code 771 = .ok (.iaload, 1)) ∧ (decode code 772 = .ok (.invokevirtual 89, 3)) ∧ (decode code 775 = .ok (.aload_n 2, 1)) := by decide +kernel
theorem dL_744 : decode code 744 = .ok (.aload_n 0, 1) := dT_13.1
theorem dL_745 : decode code 745 = .ok (.iload_n 3, 1) := dT_13.2.1
theorem dL_746 : decode code 746 = .ok (.iconst 1, 1) := dT_13.2.2.1
theorem dL_747 : decode code 747 = .ok (.iadd, 1) := dT_13.2.2.2.1
theorem dL_748 : decode code 748 = .ok (.iaload, 1) := dT_13.2.2.2.2.1
theorem dL_749 : decode code 749 = .ok (.invokevirtual 85, 3) := dT_13.2.2.2.2.2.1
theorem dL_752 : decode code 752 = .ok (.aload_n 2, 1) := dT_13.2.2.2.2.2.2.1
theorem dL_753 : decode code 753 = .ok (.aload_n 0, 1) := dT_13.2.2.2.2.2.2.2.1
theorem dL_754 : decode code 754 = .ok (.iload_n 3, 1) := dT_13.2.2.2.2.2.2.2.2.1
theorem dL_755 : decode code 755 = .ok (.iconst 1, 1) := dT_13.2.2.2.2.2.2.2.2.2.1
theorem dL_756 : decode code 756 = .ok (.iadd, 1) := dT_13.2.2.2.2.2.2.2.2.2.2.1
theorem dL_757 : decode code 757 = .ok (.iaload, 1) := dT_13.2.2.2.2.2.2.2.2.2.2.2.1
theorem dL_758 : decode code 758 = .ok (.invokevirtual 88, 3) := dT_13.2.2.2.2.2.2.2.2.2.2.2.2.1
theorem dL_761 : decode code 761 = .ok (.if_icmp .eq 1521, 3) := dT_13.2.2.2.2.2.2.2.2.2.2.2.2.2.1
theorem dL_764 : decode code 764 = .ok (.iconst 0, 1) := dT_13.2.2.2.2.2.2.2.2.2.2.2.2.2.2.1
theorem dL_765 : decode code 765 = .ok (.ireturn, 1) := dT_13.2.2.2.2.2.2.2.2.2.2.2.2.2.2.2.1
theorem dL_766 : decode code 766 = .ok (.aload_n 1, 1) := dT_13.2.2.2.2.2.2.2.2.2.2.2.2.2.2.2.2.1
theorem dL_767 : decode code 767 = .ok (.aload_n 0, 1) := dT_13.2.2.2.2.2.2.2.2.2.2.2.2.2.2.2.2.2.1
theorem dL_768 : decode code 768 = .ok (.iload_n 3, 1) := dT_13.2.2.2.2.2.2.2.2.2.2.2.2.2.2.2.2.2.2.1
theorem dL_769 : decode code 769 = .ok (.iconst 1, 1) := dT_13.2.2.2.2.2.2.2.2.2.2.2.2.2.2.2.2.2.2.2.1
theorem dL_770 : decode code 770 = .ok (.iadd, 1) := dT_13.2.2.2.2.2.2.2.2.2.2.2.2.2.2.2.2.2.2.2.2.1
theorem dL_771 : decode code 771 = .ok (.iaload, 1) := dT_13.2.2.2.2.2.2.2.2.2.2.2.2.2.2.2.2.2.2.2.2.2.1
theorem dL_772 : decode code 772 = .ok (.invokevirtual 89, 3) := dT_13.2.2.2.2.2.2.2.2.2.2.2.2.2.2.2.2.2.2.2.2.2.2.1
theorem dL_775 : decode code 775 = .ok (.aload_n 2, 1) := dT_13.2.2.2.2.2.2.2.2.2.2.2.2.2.2.2.2.2.2.2.2.2.2.2
theorem dT_14 : (decode code 776 = .ok (.aload_n 0, 1)) ∧ (decode code 777 = .ok (.iload_n 3, 1)) ∧ (decode code 778 = .ok (.iconst 1, 1)) ∧ (decode code 779 = .ok (.iadd, 1)) ∧ (decode code 780 = .ok (.iaload, 1)) ∧ (decode code 781 = .ok (.invokevirtual 92, 3)) ∧ (decode code 784 = .ok (.if_icmp .eq 1498, 3)) ∧ (decode code 787 = .ok (.iconst 0, 1)) ∧ (decode code 788 = .ok (.ireturn, 1)) ∧ (decode code 789 = .ok (.aload_n 1, 1)) ∧ (decode code 790 = .ok (.aload_n 0, 1)) ∧ (decode code 791 = .ok (.iload_n 3, 1)) ∧ (decode code 792 = .ok (.iconst 1, 1)) ∧ (decode code 793 = .ok (.iadd, 1)) ∧ (decode code 794 = .ok (.iaload, 1)) ∧ (decode code 795 = .ok (.invokevirtual 93, 3)) ∧ (decode code 798 = .ok (.aload_n 2, 1)) ∧ (decode code 799 = .ok (.aload_n 0, 1)) ∧ (decode code 800 = .ok (.iload_n 3, 1)) ∧ (decode code 801 = .ok (.iconst 1, 1)) ∧ (decode code 802 = .ok (.iadd, 1)) ∧ (decode code 803 = .ok (.iaload, 1)) ∧ (decode code 804 = .ok (.invokevirtual 96, 3)) ∧ (decode code 807 = .ok (.if_icmp .eq 1475, 3)) := by decide +kernel
theorem dL_776 : decode code 776 = .ok (.aload_n 0, 1) := dT_14.1
theorem dL_777 : decode code 777 = .ok (.iload_n 3, 1) := dT_14.2.1
theorem dL_778 : decode code 778 = .ok (.iconst 1, 1) := dT_14.2.2.1
theorem dL_779 : decode code 779 = .ok (.iadd, 1) := dT_14.2.2.2.1
theorem dL_780 : decode code 780 = .ok (.iaload, 1) := dT_14.2.2.2.2.1
theorem dL_781 : decode code 781 = .ok (.invokevirtual 92, 3) := dT_14.2.2.2.2.2.1
theorem dL_784 : decode code 784 = .ok (.if_icmp .eq 1498, 3) := dT_14.2.2.2.2.2.2.1
theorem dL_787 : decode code 787 = .ok (.iconst 0, 1) := dT_14.2.2.2.2.2.2.2.1
theorem dL_788 : decode code 788 = .ok (.ireturn, 1) := dT_14.2.2.2.2.2.2.2.2.1
theorem dL_789 : decode code 789 = .ok (.aload_n 1, 1) := dT_14.2.2.2.2.2.2.2.2.2.1
theorem dL_790 : decode code 790 = .ok (.aload_n 0, 1) := dT_14.2.2.2.2.2.2.2.2.2.2.1
theorem dL_791 : decode code 791 = .ok (.iload_n 3, 1) := dT_14.2.2.2.2.2.2.2.2.2.2.2.1
theorem dL_792 : decode code 792 = .ok (.iconst 1, 1) := dT_14.2.2.2.2.2.2.2.2.2.2.2.2.1
theorem dL_793 : decode code 793 = .ok (.iadd, 1) := dT_14.2.2.2.2.2.2.2.2.2.2.2.2.2.1
theorem dL_794 : decode code 794 = .ok (.iaload, 1) := dT_14.2.2.2.2.2.2.2.2.2.2.2.2.2.2.1
theorem dL_795 : decode code 795 = .ok (.invokevirtual 93, 3) := dT_14.2.2.2.2.2.2.2.2.2.2.2.2.2.2.2.1
theorem dL_798 : decode code 798 = .ok (.aload_n 2, 1) := dT_14.2.2.2.2.2.2.2.2.2.2.2.2.2.2.2.2.1
theorem dL_799 : decode code 799 = .ok (.aload_n 0, 1) := dT_14.2.2.2.2.2.2.2.2.2.2.2.2.2.2.2.2.2.1
theorem dL_800 : decode code 800 = .ok (.iload_n 3, 1) := dT_14.2.2.2.2.2.2.2.2.2.2.2.2.2.2.2.2.2.2.1
theorem dL_801 : decode code 801 = .ok (.iconst 1, 1) := dT_14.2.2.2.2.2.2.2.2.2.2.2.2.2.2.2.2.2.2.2.1
theorem dL_802 : decode code 802 = .ok (.iadd, 1) := dT_14.2.2.2.2.2.2.2.2.2.2.2.2.2.2.2.2.2.2.2.2.1
theorem dL_803 : decode code 803 = .ok (.iaload, 1) := dT_14.2.2.2.2.2.2.2.2.2.2.2.2.2.2.2.2.2.2.2.2.2.1
theorem dL_804 : decode code 804 = .ok (.invokevirtual 96, 3) := dT_14.2.2.2.2.2.2.2.2.2.2.2.2.2.2.2.2.2.2.2.2.2.2.1
theorem dL_807 : decode code 807 = .ok (.if_icmp .eq 1475, 3) := dT_14.2.2.2.2.2.2.2.2.2.2.2.2.2.2.2.2.2.2.2.2.2.2.2
theorem dT_15 : (decode code 810 = .ok (.iconst 0, 1)) ∧ (decode code 811 = .ok (.ireturn, 1)) ∧ (decode code 812 = .ok (.aload_n 1, 1)) ∧ (decode code 813 = .ok (.aload_n 0, 1)) ∧ (decode code 814 = .ok (.iload_n 3, 1)) ∧ (decode code 815 = .ok (.iconst 1, 1)) ∧ (decode code 816 = .ok (.iadd, 1)) ∧ (decode code 817 = .ok (.iaload, 1)) ∧ (decode code 818 = .ok (.invokevirtual 97, 3)) ∧ (decode code 821 = .ok (.aload_n 2, 1)) ∧ (decode code 822 = .ok (.aload_n 0, 1)) ∧ (decode code 823 = .ok (.iload_n 3, 1)) ∧ (decode code 824 = .ok (.iconst 1, 1)) ∧ (decode code 825 = .ok (.iadd, 1)) ∧ (decode code 826 = .ok (.iaload, 1)) ∧ (decode code 827 = .ok (.invokevirtual 100, 3)) ∧ (decode code 830 = .ok (.if_icmp .eq 1452, 3)) ∧ (decode code 833 = .ok (.iconst 0, 1)) ∧ (decode code 834 = .ok (.ireturn, 1)) ∧ (decode code 835 = .ok (.aload_n 1, 1)) ∧ (decode code 836 = .ok (.aload_n 0, 1)) ∧ (decode code 837 = .ok (.iload_n 3, 1)) ∧ (decode code 838 = .ok (.iconst 1, 1)) ∧ (decode code 839 = .ok (.iadd, 1)) := by decide +kernel
theorem dL_810 : decode code 810 = .ok (.iconst 0, 1) := dT_15.1
theorem dL_811 : decode code 811 = .ok (.ireturn, 1) := dT_15.2.1
theorem dL_812 : decode code 812 = .ok (.aload_n 1, 1) := dT_15.2.2.1
theorem dL_813 : decode code 813 = .ok (.aload_n 0, 1) := dT_15.2.2.2.1
theorem dL_814 : decode code 814 = .ok (.iload_n 3, 1) := dT_15.2.2.2.2.1
theorem dL_815 : decode code 815 = .ok (.iconst 1, 1) := dT_15.2.2.2.2.2.1
theorem dL_816 : decode code 816 = .ok (.iadd, 1) := dT_15.2.2.2.2.2.2.1
theorem dL_817 : decode code 817 = .ok (.iaload, 1) := dT_15.2.2.2.2.2.2.2.1
theorem dL_818 : decode code 818 = .ok (.invokevirtual 97, 3) := dT_15.2.2.2.2.2.2.2.2.1
theorem dL_821 : decode code 821 = .ok (.aload_n 2, 1) := dT_15.2.2.2.2.2.2.2.2.2.1
theorem dL_822 : decode code 822 = .ok (.aload_n 0, 1) := dT_15.2.2.2.2.2.2.2.2.2.2.1
theorem dL_823 : decode code 823 = .ok (.iload_n 3, 1) := dT_15.2.2.2.2.2.2.2.2.2.2.2.1
theorem dL_824 : decode code 824 = .ok (.iconst 1, 1) := dT_15.2.2.2.2.2.2.2.2.2.2.2.2.1
theorem dL_825 : decode code 825 = .ok (.iadd, 1) := dT_15.2.2.2.2.2.2.2.2.2.2.2.2.2.1
theorem dL_826 : decode code 826 = .ok (.iaload, 1) := dT_15.2.2.2.2.2.2.2.2.2.2.2.2.2.2.1
theorem dL_827 : decode code 827 = .ok (.invokevirtual 100, 3) := dT_15.2.2.2.2.2.2.2.2.2.2.2.2.2.2.2.1
theorem dL_830 : decode code 830 = .ok (.if_icmp .eq 1452, 3) := dT_15.2.2.2.2.2.2.2.2.2.2.2.2.2.2.2.2.1
theorem dL_833 : decode code 833 = .ok (.iconst 0, 1) := dT_15.2.2.2.2.2.2.2.2.2.2.2.2.2.2.2.2.2.1
theorem dL_834 : decode code 834 = .ok (.ireturn, 1) := dT_15.2.2.2.2.2.2.2.2.2.2.2.2.2.2.2.2.2.2.1
theorem dL_835 : decode code 835 = .ok (.aload_n 1, 1) := dT_15.2.2.2.2.2.2.2.2.2.2.2.2.2.2.2.2.2.2.2.1
theorem dL_836 : decode code 836 = .ok (.aload_n 0, 1) := dT_15.2.2.2.2.2.2.2.2.2.2.2.2.2.2.2.2.2.2.2.2.1
theorem dL_837 : decode code 837 = .ok (.iload_n 3, 1) := dT_15.2.2.2.2.2.2.2.2.2.2.2.2.2.2.2.2.2.2.2.2.2.1
theorem dL_838 : decode code 838 = .ok (.iconst 1, 1) := dT_15.2.2.2.2.2.2.2.2.2.2.2.2.2.2.2.2.2.2.2.2.2.2.1
theorem dL_839 : decode code 839 = .ok (.iadd, 1) := dT_15.2.2.2.2.2.2.2.2.2.2.2.2.2.2.2.2.2.2.2.2.2.2.2
theorem dT_16 : (decode code 840 = .ok (.iaload, 1)) ∧ (decode code 841 = .ok (.invokevirtual 101, 3)) ∧ (decode code 844 = .ok (.aload_n 2, 1)) ∧ (decode code 845 = .ok (.aload_n 0, 1)) ∧ (decode code 846 = .ok (.iload_n 3, 1)) ∧ (decode code 847 = .ok (.iconst 1, 1)) ∧ (decode code 848 = .ok (.iadd, 1)) ∧ (decode code 849 = .ok (.iaload, 1)) ∧ (decode code 850 = .ok (.invokevirtual 104, 3)) ∧ (decode code 853 = .ok (.if_icmp .eq 1429, 3)) ∧ (decode code 856 = .ok (.iconst 0, 1)) ∧ (decode code 857 = .ok (.ireturn, 1)) ∧ (decode code 858 = .ok (.aload_n 1, 1)) ∧ (decode code 859 = .ok (.aload_n 0, 1)) ∧ (decode code 860 = .ok (.iload_n 3, 1)) ∧ (decode code 861 = .ok (.iconst 1, 1)) ∧ (decode code 862 = .ok (.iadd, 1)) ∧ (decode code 863 = .ok (.iaload, 1)) ∧ (decode code 864 = .ok (.aload_n 0, 1)) ∧ (decode code 865 = .ok (.iload_n 3, 1)) ∧ (decode code 866 = .ok (.iconst 2, 1)) ∧ (decode code 867 = .ok (.iadd, 1)) ∧ (decode code 868 = .ok (.iaload, 1)) ∧ (decode code 869 = .ok (.invokevirtual 105, 3)) := by decide +kernel
theorem dL_840 : decode code 840 = .ok (.iaload, 1) := dT_16.1
theorem dL_841 : decode code 841 = .ok (.invokevirtual 101, 3) := dT_16.2.1
theorem dL_844 : decode code 844 = .ok (.aload_n 2, 1) := dT_16.2.2.1
theorem dL_845 : decode code 845 = .ok (.aload_n 0, 1) := dT_16.2.2.2.1
theorem dL_846 : decode code 846 = .ok (.iload_n 3, 1) := dT_16.2.2.2.2.1
theorem dL_847 : decode code 847 = .ok (.iconst 1, 1) := dT_16.2.2.2.2.2.1
theorem dL_848 : decode code 848 = .ok (.iadd, 1) := dT_16.2.2.2.2.2.2.1
theorem dL_849 : decode code 849 = .ok (.iaload, 1) := dT_16.2.2.2.2.2.2.2.1
theorem dL_850 : decode code 850 = .ok (.invokevirtual 104, 3) := dT_16.2.2.2.2.2.2.2.2.1
theorem dL_853 : decode code 853 = .ok (.if_icmp .eq 1429, 3) := dT_16.2.2.2.2.2.2.2.2.2.1
theorem dL_856 : decode code 856 = .ok (.iconst 0, 1) := dT_16.2.2.2.2.2.2.2.2.2.2.1
theorem dL_857 : decode code 857 = .ok (.ireturn, 1) := dT_16.2.2.2.2.2.2.2.2.2.2.2.1
theorem dL_858 : decode code 858 = .ok (.aload_n 1, 1) := dT_16.2.2.2.2.2.2.2.2.2.2.2.2.1
theorem dL_859 : decode code 859 = .ok (.aload_n 0, 1) := dT_16.2.2.2.2.2.2.2.2.2.2.2.2.2.1
theorem dL_860 : decode code 860 = .ok (.iload_n 3, 1) := dT_16.2.2.2.2.2.2.2.2.2.2.2.2.2.2.1
theorem dL_861 : decode code 861 = .ok (.iconst 1, 1) := dT_16.2.2.2.2.2.2.2.2.2.2.2.2.2.2.2.1
theorem dL_862 : decode code 862 = .ok (.iadd, 1) := dT_16.2.2.2.2.2.2.2.2.2.2.2.2.2.2.2.2.1
theorem dL_863 : decode code 863 = .ok (.iaload, 1) := dT_16.2.2.2.2.2.2.2.2.2.2.2.2.2.2.2.2.2.1
theorem dL_864 : decode code 864 = .ok (.aload_n 0, 1) := dT_16.2.2.2.2.2.2.2.2.2.2.2.2.2.2.2.2.2.2.1
theorem dL_865 : decode code 865 = .ok (.iload_n 3, 1) := dT_16.2.2.2.2.2.2.2.2.2.2.2.2.2.2.2.2.2.2.2.1
theorem dL_866 : decode code 866 = .ok (.iconst 2, 1) := dT_16.2.2.2.2.2.2.2.2.2.2.2.2.2.2.2.2.2.2.2.2.1
theorem dL_867 : decode code 867 = .ok (.iadd, 1) := dT_16.2.2.2.2.2.2.2.2.2.2.2.2.2.2.2.2.2.2.2.2.2.1
theorem dL_868 : decode code 868 = .ok (.iaload, 1) := dT_16.2.2.2.2.2.2.2.2.2.2.2.2.2.2.2.2.2.2.2.2.2.2.1
theorem dL_869 : decode code 869 = .ok (.invokevirtual 105, 3) := dT_16.2.2.2.2.2.2.2.2.2.2.2.2.2.2.2.2.2.2.2.2.2.2.2
theorem dT_17 : (decode code 872 = .ok (.aload_n 2, 1)) ∧ (decode code 873 = .ok (.aload_n 0, 1)) ∧ (decode code 874 = .ok (.iload_n 3, 1)) ∧ (decode code 875 = .ok (.iconst 1, 1)) ∧ (decode code 876 = .ok (.iadd, 1)) ∧ (decode code 877 = .ok (.iaload, 1)) ∧ (decode code 878 = .ok (.aload_n 0, 1)) ∧ (decode code 879 = .ok (.iload_n 3, 1)) ∧ (decode code 880 = .ok (.iconst 2, 1)) ∧ (decode code 881 = .ok (.iadd, 1)) ∧ (decode code 882 = .ok (.iaload, 1)) ∧ (decode code 883 = .ok (.invokevirtual 108, 3)) ∧ (decode code 886 = .ok (.if_icmp .eq 1396, 3)) ∧ (decode code 889 = .ok (.iconst 0, 1)) ∧ (decode code 890 = .ok (.ireturn, 1)) ∧ (decode code 891 = .ok (.aload_n 1, 1)) ∧ (decode code 892 = .ok (.aload_n 0, 1)) ∧ (decode code 893 = .ok (.iload_n 3, 1)) ∧ (decode code 894 = .ok (.iconst 1, 1)) ∧ (decode code 895 = .ok (.iadd, 1)) ∧ (decode code 896 = .ok (.iaload, 1)) ∧ (decode code 897 = .ok (.invokevirtual 109, 3)) ∧ (decode code 900 = .ok (.aload_n 2, 1)) ∧ (decode code 901 = .ok (.aload_n 0, 1)) := by decide +kernel
theorem dL_872 : decode code 872 = .ok (.aload_n 2, 1) := dT_17.1
theorem dL_873 : decode code 873 = .ok (.aload_n 0, 1) := dT_17.2.1
theorem dL_874 : decode code 874 = .ok (.iload_n 3, 1) := dT_17.2.2.1
theorem dL_875 : decode code 875 = .ok (.iconst 1, 1) := dT_17.2.2.2.1
theorem dL_876 : decode code 876 = .ok (.iadd, 1) := dT_17.2.2.2.2.1
theorem dL_877 : decode code 877 = .ok (.iaload, 1) := dT_17.2.2.2.2.2.1
theorem dL_878 : decode code 878 = .ok (.aload_n 0, 1) := dT_17.2.2.2.2.2.2.1
theorem dL_879 : decode code 879 = .ok (.iload_n 3, 1) := dT_17.2.2.2.2.2.2.2.1
theorem dL_880 : decode code 880 = .ok (.iconst 2, 1) := dT_17.2.2.2.2.2.2.2.2.1
theorem dL_881 : decode code 881 = .ok (.iadd, 1) := dT_17.2.2.2.2.2.2.2.2.2.1
theorem dL_882 : decode code 882 = .ok (.iaload, 1) := dT_17.2.2.2.2.2.2.2.2.2.2.1
theorem dL_883 : decode code 883 = .ok (.invokevirtual 108, 3) := dT_17.2.2.2.2.2.2.2.2.2.2.2.1
theorem dL_886 : decode code 886 = .ok (.if_icmp .eq 1396, 3) := dT_17.2.2.2.2.2.2.2.2.2.2.2.2.1
theorem dL_889 : decode code 889 = .ok (.iconst 0, 1) := dT_17.2.2.2.2.2.2.2.2.2.2.2.2.2.1
theorem dL_890 : decode code 890 = .ok (.ireturn, 1) := dT_17.2.2.2.2.2.2.2.2.2.2.2.2.2.2.1
theorem dL_891 : decode code 891 = .ok (.aload_n 1, 1) := dT_17.2.2.2.2.2.2.2.2.2.2.2.2.2.2.2.1
theorem dL_892 : decode code 892 = .ok (.aload_n 0, 1) := dT_17.2.2.2.2.2.2.2.2.2.2.2.2.2.2.2.2.1
theorem dL_893 : decode code 893 = .ok (.iload_n 3, 1) := dT_17.2.2.2.2.2.2.2.2.2.2.2.2.2.2.2.2.2.1
theorem dL_894 : decode code 894 = .ok (.iconst 1, 1) := dT_17.2.2.2.2.2.2.2.2.2.2.2.2.2.2.2.2.2.2.1
theorem dL_895 : decode code 895 = .ok (.iadd, 1) := dT_17.2.2.2.2.2.2.2.2.2.2.2.2.2.2.2.2.2.2.2.1
theorem dL_896 : decode code 896 = .ok (.iaload, 1) := dT_17.2.2.2.2.2.2.2.2.2.2.2.2.2.2.2.2.2.2.2.2.1
theorem dL_897 : decode code 897 = .ok (.invokevirtual 109, 3) := dT_17.2.2.2.2.2.2.2.2.2.2.2.2.2.2.2.2.2.2.2.2.2.1
theorem dL_900 : decode code 900 = .ok (.aload_n 2, 1) := dT_17.2.2.2.2.2.2.2.2.2.2.2.2.2.2.2.2.2.2.2.2.2.2.1
theorem dL_901 : decode code 901 = .ok (.aload_n 0, 1) := dT_17.2.2.2.2.2.2.2.2.2.2.2.2.2.2.2.2.2.2.2.2.2.2.2
theorem dT_18 : (decode code 902 = .ok (.iload_n 3, 1)) ∧ (decode code 903 = .ok (.iconst 1, 1)) ∧ (decode code 904 = .ok (.iadd, 1)) ∧ (decode code 905 = .ok (.iaload, 1)) ∧ (decode code 906 = .ok (.invokevirtual 112, 3)) ∧ (decode code 909 = .ok (.if_icmp .eq 1373, 3)) ∧ (decode code 912 = .ok (.iconst 0, 1)) ∧ (decode code 913 = .ok (.ireturn, 1)) ∧ (decode code 914 = .ok (.aload_n 1, 1)) ∧ (decode code 915 = .ok (.aload_n 0, 1)) ∧ (decode code 916 = .ok (.iload_n 3, 1)) ∧ (decode code 917 = .ok (.iconst 1, 1)) ∧ (decode code 918 = .ok (.iadd, 1)) ∧ (decode code 919 = .ok (.iaload, 1)) ∧ (decode code 920 = .ok (.invokevirtual 113, 3)) ∧ (decode code 923 = .ok (.aload_n 2, 1)) ∧ (decode code 924 = .ok (.aload_n 0, 1)) ∧ (decode code 925 = .ok (.iload_n 3, 1)) ∧ (decode code 926 = .ok (.iconst 1, 1)) ∧ (decode code 927 = .ok (.iadd, 1)) ∧ (decode code 928 = .ok (.iaload, 1)) ∧ (decode code 929 = .ok (.invokevirtual 116, 3)) ∧ (decode code 932 = .ok (.if_icmp .eq 1350, 3)) ∧ (decode code 935 = .ok (.iconst 0, 1)) := by decide +kernel
theorem dL_902 : decode code 902 = .ok (.iload_n 3, 1) := dT_18.1
theorem dL_903 : decode code 903 = .ok (.iconst 1, 1) := dT_18.2.1
theorem dL_904 : decode code 904 = .ok (.iadd, 1) := dT_18.2.2.1
theorem dL_905 : decode code 905 = .ok (.iaload, 1) := dT_18.2.2.2.1
theorem dL_906 : decode code 906 = .ok (.invokevirtual 112, 3) := dT_18.2.2.2.2.1
theorem dL_909 : decode code 909 = .ok (.if_icmp .eq 1373, 3) := dT_18.2.2.2.2.2.1
theorem dL_912 : decode code 912 = .ok (.iconst 0, 1) := dT_18.2.2.2.2.2.2.1
theorem dL_913 : decode code 913 = .ok (.ireturn, 1) := dT_18.2.2.2.2.2.2.2.1
theorem dL_914 : decode code 914 = .ok (.aload_n 1, 1) := dT_18.2.2.2.2.2.2.2.2.1
theorem dL_915 : decode code 915 = .ok (.aload_n 0, 1) := dT_18.2.2.2.2.2.2.2.2.2.1
theorem dL_916 : decode code 916 = .ok (.iload_n 3, 1) := dT_18.2.2.2.2.2.2.2.2.2.2.1
theorem dL_917 : decode code 917 = .ok (.iconst 1, 1) := dT_18.2.2.2.2.2.2.2.2.2.2.2.1
theorem dL_918 : decode code 918 = .ok (.iadd, 1) := dT_18.2.2.2.2.2.2.2.2.2.2.2.2.1
theorem dL_919 : decode code 919 = .ok (.iaload, 1) := dT_18.2.2.2.2.2.2.2.2.2.2.2.2.2.1
theorem dL_920 : decode code 920 = .ok (.invokevirtual 113, 3) := dT_18.2.2.2.2.2.2.2.2.2.2.2.2.2.2.1
theorem dL_923 : decode code 923 = .ok (.aload_n 2, 1) := dT_18.2.2.2.2.2.2.2.2.2.2.2.2.2.2.2.1
theorem dL_924 : decode code 924 = .ok (.aload_n 0, 1) := dT_18.2.2.2.2.2.2.2.2.2.2.2.2.2.2.2.2.1
theorem dL_925 : decode code 925 = .ok (.iload_n 3, 1) := dT_18.2.2.2.2.2.2.2.2.2.2.2.2.2.2.2.2.2.1
theorem dL_926 : decode code 926 = .ok (.iconst 1, 1) := dT_18.2.2.2.2.2.2.2.2.2.2.2.2.2.2.2.2.2.2.1
theorem dL_927 : decode code 927 = .ok (.iadd, 1) := dT_18.2.2.2.2.2.2.2.2.2.2.2.2.2.2.2.2.2.2.2.1
theorem dL_928 : decode code 928 = .ok (.iaload, 1) := dT_18.2.2.2.2.2.2.2.2.2.2.2.2.2.2.2.2.2.2.2.2.1
theorem dL_929 : decode code 929 = .ok (.invokevirtual 116, 3) := dT_18.2.2.2.2.2.2.2.2.2.2.2.2.2.2.2.2.2.2.2.2.2.1
theorem dL_932 : decode code 932 = .ok (.if_icmp .eq 1350, 3) := dT_18.2.2.2.2.2.2.2.2.2.2.2.2.2.2.2.2.2.2.2.2.2.2.1
theorem dL_935 : decode code 935 = .ok (.iconst 0, 1) := dT_18.2.2.2.2.2.2.2.2.2.2.2.2.2.2.2.2.2.2.2.2.2.2.2
theorem dT_19 : (decode code 936 = .ok (.ireturn, 1)) ∧ (decode code 937 = .ok (.aload_n 1, 1)) ∧ (decode code 938 = .ok (.aload_n 0, 1)) ∧ (decode code 939 = .ok (.iload_n 3, 1)) ∧ (decode code 940 = .ok (.iconst 1, 1)) ∧ (decode code 941 = .ok (.iadd, 1)) ∧ (decode code 942 = .ok (.iaload, 1)) ∧ (decode code 943 = .ok (.invokevirtual 117, 3)) ∧ (decode code 946 = .ok (.aload_n 2, 1)) ∧ (decode code 947 = .ok (.aload_n 0, 1)) ∧ (decode code 948 = .ok (.iload_n 3, 1)) ∧ (decode code 949 = .ok (.iconst 1, 1)) ∧ (decode code 950 = .ok (.iadd, 1)) ∧ (decode code 951 = .ok (.iaload, 1)) ∧ (decode code 952 = .ok (.invokevirtual 120, 3)) ∧ (decode code 955 = .ok (.if_icmp .eq 1327, 3)) ∧ (decode code 958 = .ok (.iconst 0, 1)) ∧ (decode code 959 = .ok (.ireturn, 1)) ∧ (decode code 960 = .ok (.aload_n 1, 1)) ∧ (decode code 961 = .ok (.aload_n 0, 1)) ∧ (decode code 962 = .ok (.iload_n 3, 1)) ∧ (decode code 963 = .ok (.iconst 1, 1)) ∧ (decode code 964 = .ok (.iadd, 1)) ∧ (decode code 965 = .ok (.iaload, 1)) := by decide +kernel
theorem dL_936 : decode code 936 = .ok (.ireturn, 1) := dT_19.1
theorem dL_937 : decode code 937 = .ok (.aload_n 1, 1) := dT_19.2.1
theorem dL_938 : decode code 938 = .ok (.aload_n 0, 1) := dT_19.2.2.1
theorem dL_939 : decode code 939 = .ok (.iload_n 3, 1) := dT_19.2.2.2.1
theorem dL_940 : decode code 940 = .ok (.iconst 1, 1) := dT_19.2.2.2.2.1
theorem dL_941 : decode code 941 = .ok (.iadd, 1) := dT_19.2.2.2.2.2.1
theorem dL_942 : decode code 942 = .ok (.iaload, 1) := dT_19.2.2.2.2.2.2.1
theorem dL_943 : decode code 943 = .ok (.invokevirtual 117, 3) := dT_19.2.2.2.2.2.2.2.1
theorem dL_946 : decode code 946 = .ok (.aload_n 2, 1) := dT_19.2.2.2.2.2.2.2.2.1
theorem dL_947 : decode code 947 = .ok (.aload_n 0, 1) := dT_19.2.2.2.2.2.2.2.2.2.1
theorem dL_948 : decode code 948 = .ok (.iload_n 3, 1) := dT_19.2.2.2.2.2.2.2.2.2.2.1
theorem dL_949 : decode code 949 = .ok (.iconst 1, 1) := dT_19.2.2.2.2.2.2.2.2.2.2.2.1
theorem dL_950 : decode code 950 = .ok (.iadd, 1) := dT_19.2.2.2.2.2.2.2.2.2.2.2.2.1
theorem dL_951 : decode code 951 = .ok (.iaload, 1) := dT_19.2.2.2.2.2.2.2.2.2.2.2.2.2.1
theorem dL_952 : decode code 952 = .ok (.invokevirtual 120, 3) := dT_19.2.2.2.2.2.2.2.2.2.2.2.2.2.2.1
theorem dL_955 : decode code 955 = .ok (.if_icmp .eq 1327, 3) := dT_19.2.2.2.2.2.2.2.2.2.2.2.2.2.2.2.1
theorem dL_958 : decode code 958 = .ok (.iconst 0, 1) := dT_19.2.2.2.2.2.2.2.2.2.2.2.2.2.2.2.2.1
theorem dL_959 : decode code 959 = .ok (.ireturn, 1) := dT_19.2.2.2.2.2.2.2.2.2.2.2.2.2.2.2.2.2.1
theorem dL_960 : decode code 960 = .ok (.aload_n 1, 1) := dT_19.2.2.2.2.2.2.2.2.2.2.2.2.2.2.2.2.2.2.1
theorem dL_961 : decode code 961 = .ok (.aload_n 0, 1) := dT_19.2.2.2.2.2.2.2.2.2.2.2.2.2.2.2.2.2.2.2.1
theorem dL_962 : decode code 962 = .ok (.iload_n 3, 1) := dT_19.2.2.2.2.2.2.2.2.2.2.2.2.2.2.2.2.2.2.2.2.1
theorem dL_963 : decode code 963 = .ok (.iconst 1, 1) := dT_19.2.2.2.2.2.2.2.2.2.2.2.2.2.2.2.2.2.2.2.2.2.1
theorem dL_964 : decode code 964 = .ok (.iadd, 1) := dT_19.2.2.2.2.2.2.2.2.2.2.2.2.2.2.2.2.2.2.2.2.2.2.1
theorem dL_965 : decode code 965 = .ok (.iaload, 1) := dT_19.2.2.2.2.2.2.2.2.2.2.2.2.2.2.2.2.2.2.2.2.2.2.2
theorem dT_20 : (decode code 966 = .ok (.invokevirtual 121, 3)) ∧ (decode code 969 = .ok (.aload_n 2, 1)) ∧ (decode code 970 = .ok (.aload_n 0, 1)) ∧ (decode code 971 = .ok (.iload_n 3, 1)) ∧ (decode code 972 = .ok (.iconst 1, 1)) ∧ (decode code 973 = .ok (.iadd, 1)) ∧ (decode code 974 = .ok (.iaload, 1)) ∧ (decode code 975 = .ok (.invokevirtual 124, 3)) ∧ (decode code 978 = .ok (.if_icmp .eq 1304, 3)) ∧ (decode code 981 = .ok (.iconst 0, 1)) ∧ (decode code 982 = .ok (.ireturn, 1)) ∧ (decode code 983 = .ok (.aload_n 1, 1)) ∧ (decode code 984 = .ok (.invokevirtual 125, 3)) ∧ (decode code 987 = .ok (.aload_n 2, 1)) ∧ (decode code 988 = .ok (.invokevirtual 128, 3)) ∧ (decode code 991 = .ok (.if_icmp .eq 1291, 3)) ∧ (decode code 994 = .ok (.iconst 0, 1)) ∧ (decode code 995 = .ok (.ireturn, 1)) ∧ (decode code 996 = .ok (.aload_n 1, 1)) ∧ (decode code 997 = .ok (.aload_n 0, 1)) ∧ (decode code 998 = .ok (.iload_n 3, 1)) ∧ (decode code 999 = .ok (.iconst 1, 1)) ∧ (decode code 1000 = .ok (.iadd, 1)) ∧ (decode code 1001 = .ok (.iaload, 1)) := by decide +kernel
theorem dL_966 : decode code 966 = .ok (.invokevirtual 121, 3) := dT_20.1
theorem dL_969 : decode code 969 = .ok (.aload_n 2, 1) := dT_20.2.1
theorem dL_970 : decode code 970 = .ok (.aload_n 0, 1) := dT_20.2.2.1
theorem dL_971 : decode code 971 = .ok (.iload_n 3, 1) := dT_20.2.2.2.1
theorem dL_972 : decode code 972 = .ok (.iconst 1, 1) := dT_20.2.2.2.2.1
theorem dL_973 : decode code 973 = .ok (.iadd, 1) := dT_20.2.2.2.2.2.1
theorem dL_974 : decode code 974 = .ok (.iaload, 1) := dT_20.2.2.2.2.2.2.1
theorem dL_975 : decode code 975 = .ok (.invokevirtual 124, 3) := dT_20.2.2.2.2.2.2.2.1
theorem dL_978 : decode code 978 = .ok (.if_icmp .eq 1304, 3) := dT_20.2.2.2.2.2.2.2.2.1
theorem dL_981 : decode code 981 = .ok (.iconst 0, 1) := dT_20.2.2.2.2.2.2.2.2.2.1
theorem dL_982 : decode code 982 = .ok (.ireturn, 1) := dT_20.2.2.2.2.2.2.2.2.2.2.1
theorem dL_983 : decode code 983 = .ok (.aload_n 1, 1) := dT_20.2.2.2.2.2.2.2.2.2.2.2.1
theorem dL_984 : decode code 984 = .ok (.invokevirtual 125, 3) := dT_20.2.2.2.2.2.2.2.2.2.2.2.2.1
theorem dL_987 : decode code 987 = .ok (.aload_n 2, 1) := dT_20.2.2.2.2.2.2.2.2.2.2.2.2.2.1
theorem dL_988 : decode code 988 = .ok (.invokevirtual 128, 3) := dT_20.2.2.2.2.2.2.2.2.2.2.2.2.2.2.1
theorem dL_991 : decode code 991 = .ok (.if_icmp .eq 1291, 3) := dT_20.2.2.2.2.2.2.2.2.2.2.2.2.2.2.2.1
theorem dL_994 : decode code 994 = .ok (.iconst 0, 1) := dT_20.2.2.2.2.2.2.2.2.2.2.2.2.2.2.2.2.1
theorem dL_995 : decode code 995 = .ok (.ireturn, 1) := dT_20.2.2.2.2.2.2.2.2.2.2.2.2.2.2.2.2.2.1
theorem dL_996 : decode code 996 = .ok (.aload_n 1, 1) := dT_20.2.2.2.2.2.2.2.2.2.2.2.2.2.2.2.2.2.2.1
theorem dL_997 : decode code 997 = .ok (.aload_n 0, 1) := dT_20.2.2.2.2.2.2.2.2.2.2.2.2.2.2.2.2.2.2.2.1
theorem dL_998 : decode code 998 = .ok (.iload_n 3, 1) := dT_20.2.2.2.2.2.2.2.2.2.2.2.2.2.2.2.2.2.2.2.2.1
theorem dL_999 : decode code 999 = .ok (.iconst 1, 1) := dT_20.2.2.2.2.2.2.2.2.2.2.2.2.2.2.2.2.2.2.2.2.2.1
theorem dL_1000 : decode code 1000 = .ok (.iadd, 1) := dT_20.2.2.2.2.2.2.2.2.2.2.2.2.2.2.2.2.2.2.2.2.2.2.1
theorem dL_1001 : decode code 1001 = .ok (.iaload, 1) := dT_20.2.2.2.2.2.2.2.2.2.2.2.2.2.2.2.2.2.2.2.2.2.2.2
theorem dT_21 : (decode code 1002 = .ok (.invokevirtual 129, 3)) ∧ (decode code 1005 = .ok (.aload_n 2, 1)) ∧ (decode code 1006 = .ok (.aload_n 0, 1)) ∧ (decode code 1007 = .ok (.iload_n 3, 1)) ∧ (decode code 1008 = .ok (.iconst 1, 1)) ∧ (decode code 1009 = .ok (.iadd, 1)) ∧ (decode code 1010 = .ok (.iaload, 1)) ∧ (decode code 1011 = .ok (.invokevirtual 132, 3)) ∧ (decode code 1014 = .ok (.if_icmp .eq 1268, 3)) ∧ (decode code 1017 = .ok (.iconst 0, 1)) ∧ (decode code 1018 = .ok (.ireturn, 1)) ∧ (decode code 1019 = .ok (.aload_n 1, 1)) ∧ (decode code 1020 = .ok (.aload_n 0, 1)) ∧ (decode code 1021 = .ok (.iload_n 3, 1)) ∧ (decode code 1022 = .ok (.iconst 1, 1)) ∧ (decode code 1023 = .ok (.iadd, 1)) ∧ (decode code 1024 = .ok (.iaload, 1)) ∧ (decode code 1025 = .ok (.invokevirtual 133, 3)) ∧ (decode code 1028 = .ok (.aload_n 2, 1)) ∧ (decode code 1029 = .ok (.aload_n 0, 1)) ∧ (decode code 1030 = .ok (.iload_n 3, 1)) ∧ (decode code 1031 = .ok (.iconst 1, 1)) ∧ (decode code 1032 = .ok (.iadd, 1)) ∧ (decode code 1033 = .ok (.iaload, 1)) := by decide +kernel
theorem dL_1002 : decode code 1002 = .ok (.invokevirtual 129, 3) := dT_21.1
theorem dL_1005 : decode code 1005 = .ok (.aload_n 2, 1) := dT_21.2.1
theorem dL_1006 : decode code 1006 = .ok (.aload_n 0, 1) := dT_21.2.2.1
theorem dL_1007 : decode code 1007 = .ok (.iload_n 3, 1) := dT_21.2.2.2.1
theorem dL_1008 : decode code 1008 = .ok (.iconst 1, 1) := dT_21.2.2.2.2.1
theorem dL_1009 : decode code 1009 = .ok (.iadd, 1) := dT_21.2.2.2.2.2.1
theorem dL_1010 : decode code 1010 = .ok (.iaload, 1) := dT_21.2.2.2.2.2.2.1
theorem dL_1011 : decode code 1011 = .ok (.invokevirtual 132, 3) := dT_21.2.2.2.2.2.2.2.1
theorem dL_1014 : decode code 1014 = .ok (.if_icmp .eq 1268, 3) := dT_21.2.2.2.2.2.2.2.2.1
theorem dL_1017 : decode code 1017 = .ok (.iconst 0, 1) := dT_21.2.2.2.2.2.2.2.2.2.1
theorem dL_1018 : decode code 1018 = .ok (.ireturn, 1) := dT_21.2.2.2.2.2.2.2.2.2.2.1
theorem dL_1019 : decode code 1019 = .ok (.aload_n 1, 1) := dT_21.2.2.2.2.2.2.2.2.2.2.2.1
theorem dL_1020 : decode code 1020 = .ok (.aload_n 0, 1) := dT_21.2.2.2.2.2.2.2.2.2.2.2.2.1
theorem dL_1021 : decode code 1021 = .ok (.iload_n 3, 1) := dT_21.2.2.2.2.2.2.2.2.2.2.2.2.2.1
theorem dL_1022 : decode code 1022 = .ok (.iconst 1, 1) := dT_21.2.2.2.2.2.2.2.2.2.2.2.2.2.2.1
theorem dL_1023 : decode code 1023 = .ok (.iadd, 1) := dT_21.2.2.2.2.2.2.2.2.2.2.2.2.2.2.2.1
theorem dL_1024 : decode code 1024 = .ok (.iaload, 1) := dT_21.2.2.2.2.2.2.2.2.2.2.2.2.2.2.2.2.1
theorem dL_1025 : decode code 1025 = .ok (.invokevirtual 133, 3) := dT_21.2.2.2.2.2.2.2.2.2.2.2.2.2.2.2.2.2.1
theorem dL_1028 : decode code 1028 = .ok (.aload_n 2, 1) := dT_21.2.2.2.2.2.2.2.2.2.2.2.2.2.2.2.2.2.2.1
theorem dL_1029 : decode code 1029 = .ok (.aload_n 0, 1) := dT_21.2.2.2.2.2.2.2.2.2.2.2.2.2.2.2.2.2.2.2.1
theorem dL_1030 : decode code 1030 = .ok (.iload_n 3, 1) := dT_21.2.2.2.2.2.2.2.2.2.2.2.2.2.2.2.2.2.2.2.2.1
theorem dL_1031 : decode code 1031 = .ok (.iconst 1, 1) := dT_21.2.2.2.2.2.2.2.2.2.2.2.2.2.2.2.2.2.2.2.2.2.1
theorem dL_1032 : decode code 1032 = .ok (.iadd, 1) := dT_21.2.2.2.2.2.2.2.2.2.2.2.2.2.2.2.2.2.2.2.2.2.2.1
theorem dL_1033 : decode code 1033 = .ok (.iaload, 1) := dT_21.2.2.2.2.2.2.2.2.2.2.2.2.2.2.2.2.2.2.2.2.2.2.2
theorem dT_22 : (decode code 1034 = .ok (.invokevirtual 136, 3)) ∧ (decode code 1037 = .ok (.if_icmp .eq 1245, 3)) ∧ (decode code 1040 = .ok (.iconst 0, 1)) ∧ (decode code 1041 = .ok (.ireturn, 1)) ∧ (decode code 1042 = .ok (.aload_n 1, 1)) ∧ (decode code 1043 = .ok (.invokevirtual 137, 3)) ∧ (decode code 1046 = .ok (.aload_n 2, 1)) ∧ (decode code 1047 = .ok (.invokevirtual 140, 3)) ∧ (decode code 1050 = .ok (.if_icmp .eq 1232, 3)) ∧ (decode code 1053 = .ok (.iconst 0, 1)) ∧ (decode code 1054 = .ok (.ireturn, 1)) ∧ (decode code 1055 = .ok (.aload_n 1, 1)) ∧ (decode code 1056 = .ok (.aload_n 0, 1)) ∧ (decode code 1057 = .ok (.iload_n 3, 1)) ∧ (decode code 1058 = .ok (.iconst 1, 1)) ∧ (decode code 1059 = .ok (.iadd, 1)) ∧ (decode code 1060 = .ok (.iaload, 1)) ∧ (decode code 1061 = .ok (.invokevirtual 141, 3)) ∧ (decode code 1064 = .ok (.aload_n 2, 1)) ∧ (decode code 1065 = .ok (.aload_n 0, 1)) ∧ (decode code 1066 = .ok (.iload_n 3, 1)) ∧ (decode code 1067 = .ok (.iconst 1, 1)) ∧ (decode code 1068 = .ok (.iadd, 1)) ∧ (decode code 1069 = .ok (.iaload, 1)) := by decide +kernel
theorem dL_1034 : decode code 1034 = .ok (.invokevirtual 136, 3) := dT_22.1
theorem dL_1037 : decode code 1037 = .ok (.if_icmp .eq 1245, 3) := dT_22.2.1
theorem dL_1040 : decode code 1040 = .ok (.iconst 0, 1) := dT_22.2.2.1
theorem dL_1041 : decode code 1041 = .ok (.ireturn, 1) := dT_22.2.2.2.1
theorem dL_1042 : decode code 1042 = .ok (.aload_n 1, 1) := dT_22.2.2.2.2.1
theorem dL_1043 : decode code 1043 = .ok (.invokevirtual 137, 3) := dT_22.2.2.2.2.2.1
theorem dL_1046 : decode code 1046 = .ok (.aload_n 2, 1) := dT_22.2.2.2.2.2.2.1
theorem dL_1047 : decode code 1047 = .ok (.invokevirtual 140, 3) := dT_22.2.2.2.2.2.2.2.1
theorem dL_1050 : decode code 1050 = .ok (.if_icmp .eq 1232, 3) := dT_22.2.2.2.2.2.2.2.2.1
theorem dL_1053 : decode code 1053 = .ok (.iconst 0, 1) := dT_22.2.2.2.2.2.2.2.2.2.1
theorem dL_1054 : decode code 1054 = .ok (.ireturn, 1) := dT_22.2.2.2.2.2.2.2.2.2.2.1
theorem dL_1055 : decode code 1055 = .ok (.aload_n 1, 1) := dT_22.2.2.2.2.2.2.2.2.2.2.2.1
theorem dL_1056 : decode code 1056 = .ok (.aload_n 0, 1) := dT_22.2.2.2.2.2.2.2.2.2.2.2.2.1
theorem dL_1057 : decode code 1057 = .ok (.iload_n 3, 1) := dT_22.2.2.2.2.2.2.2.2.2.2.2.2.2.1
theorem dL_1058 : decode code 1058 = .ok (.iconst 1, 1) := dT_22.2.2.2.2.2.2.2.2.2.2.2.2.2.2.1
theorem dL_1059 : decode code 1059 = .ok (.iadd, 1) := dT_22.2.2.2.2.2.2.2.2.2.2.2.2.2.2.2.1
theorem dL_1060 : decode code 1060 = .ok (.iaload, 1) := dT_22.2.2.2.2.2.2.2.2.2.2.2.2.2.2.2.2.1
theorem dL_1061 : decode code 1061 = .ok (.invokevirtual 141, 3) := dT_22.2.2.2.2.2.2.2.2.2.2.2.2.2.2.2.2.2.1
theorem dL_1064 : decode code 1064 = .ok (.aload_n 2, 1) := dT_22.2.2.2.2.2.2.2.2.2.2.2.2.2.2.2.2.2.2.1
theorem dL_1065 : decode code 1065 = .ok (.aload_n 0, 1) := dT_22.2.2.2.2.2.2.2.2.2.2.2.2.2.2.2.2.2.2.2.1
theorem dL_1066 : decode code 1066 = .ok (.iload_n 3, 1) := dT_22.2.2.2.2.2.2.2.2.2.2.2.2.2.2.2.2.2.2.2.2.1
theorem dL_1067 : decode code 1067 = .ok (.iconst 1, 1) := dT_22.2.2.2.2.2.2.2.2.2.2.2.2.2.2.2.2.2.2.2.2.2.1
theorem dL_1068 : decode code 1068 = .ok (.iadd, 1) := dT_22.2.2.2.2.2.2.2.2.2.2.2.2.2.2.2.2.2.2.2.2.2.2.1
theorem dL_1069 : decode code 1069 = .ok (.iaload, 1) := dT_22.2.2.2.2.2.2.2.2.2.2.2.2.2.2.2.2.2.2.2.2.2.2.2
theorem dT_23 : (decode code 1070 = .ok (.invokevirtual 144, 3)) ∧ (decode code 1073 = .ok (.if_icmp .eq 1209, 3)) ∧ (decode code 1076 = .ok (.iconst 0, 1)) ∧ (decode code 1077 = .ok (.ireturn, 1)) ∧ (decode code 1078 = .ok (.aload_n 1, 1)) ∧ (decode code 1079 = .ok (.aload_n 0, 1)) ∧ (decode code 1080 = .ok (.iload_n 3, 1)) ∧ (decode code 1081 = .ok (.iconst 1, 1)) ∧ (decode code 1082 = .ok (.iadd, 1)) ∧ (decode code 1083 = .ok (.iaload, 1)) ∧ (decode code 1084 = .ok (.invokevirtual 145, 3)) ∧ (decode code 1087 = .ok (.aload_n 2, 1)) ∧ (decode code 1088 = .ok (.aload_n 0, 1)) ∧ (decode code 1089 = .ok (.iload_n 3, 1)) ∧ (decode code 1090 = .ok (.iconst 1, 1)) ∧ (decode code 1091 = .ok (.iadd, 1)) ∧ (decode code 1092 = .ok (.iaload, 1)) ∧ (decode code 1093 = .ok (.invokevirtual 148, 3)) ∧ (decode code 1096 = .ok (.if_icmp .eq 1186, 3)) ∧ (decode code 1099 = .ok (.iconst 0, 1)) ∧ (decode code 1100 = .ok (.ireturn, 1)) ∧ (decode code 1101 = .ok (.aload_n 1, 1)) ∧ (decode code 1102 = .ok (.aload_n 0, 1)) ∧ (decode code 1103 = .ok (.iload_n 3, 1)) := by decide +kernel
theorem dL_1070 : decode code 1070 = .ok (.invokevirtual 144, 3) := dT_23.1
theorem dL_1073 : decode code 1073 = .ok (.if_icmp .eq 1209, 3) := dT_23.2.1
theorem dL_1076 : decode code 1076 = .ok (.iconst 0, 1) := dT_23.2.2.1
theorem dL_1077 : decode code 1077 = .ok (.ireturn, 1) := dT_23.2.2.2.1
theorem dL_1078 : decode code 1078 = .ok (.aload_n 1, 1) := dT_23.2.2.2.2.1
theorem dL_1079 : decode code 1079 = .ok (.aload_n 0, 1) := dT_23.2.2.2.2.2.1
theorem dL_1080 : decode code 1080 = .ok (.iload_n 3, 1) := dT_23.2.2.2.2.2.2.1
theorem dL_1081 : decode code 1081 = .ok (.iconst 1, 1) := dT_23.2.2.2.2.2.2.2.1
theorem dL_1082 : decode code 1082 = .ok (.iadd, 1) := dT_23.2.2.2.2.2.2.2.2.1
theorem dL_1083 : decode code 1083 = .ok (.iaload, 1) := dT_23.2.2.2.2.2.2.2.2.2.1
theorem dL_1084 : decode code 1084 = .ok (.invokevirtual 145, 3) := dT_23.2.2.2.2.2.2.2.2.2.2.1
theorem dL_1087 : decode code 1087 = .ok (.aload_n 2, 1) := dT_23.2.2.2.2.2.2.2.2.2.2.2.1
theorem dL_1088 : decode code 1088 = .ok (.aload_n 0, 1) := dT_23.2.2.2.2.2.2.2.2.2.2.2.2.1
theorem dL_1089 : decode code 1089 = .ok (.iload_n 3, 1) := dT_23.2.2.2.2.2.2.2.2.2.2.2.2.2.1
theorem dL_1090 : decode code 1090 = .ok (.iconst 1, 1) := dT_23.2.2.2.2.2.2.2.2.2.2.2.2.2.2.1
theorem dL_1091 : decode code 1091 = .ok (.iadd, 1) := dT_23.2.2.2.2.2.2.2.2.2.2.2.2.2.2.2.1
theorem dL_1092 : decode code 1092 = .ok (.iaload, 1) := dT_23.2.2.2.2.2.2.2.2.2.2.2.2.2.2.2.2.1
theorem dL_1093 : decode code 1093 = .ok (.invokevirtual 148, 3) := dT_23.2.2.2.2.2.2.2.2.2.2.2.2.2.2.2.2.2.1
theorem dL_1096 : decode code 1096 = .ok (.if_icmp .eq 1186, 3) := dT_23.2.2.2.2.2.2.2.2.2.2.2.2.2.2.2.2.2.2.1
theorem dL_1099 : decode code 1099 = .ok (.iconst 0, 1) := dT_23.2.2.2.2.2.2.2.2.2.2.2.2.2.2.2.2.2.2.2.1
theorem dL_1100 : decode code 1100 = .ok (.ireturn, 1) := dT_23.2.2.2.2.2.2.2.2.2.2.2.2.2.2.2.2.2.2.2.2.1
theorem dL_1101 : decode code 1101 = .ok (.aload_n 1, 1) := dT_23.2.2.2.2.2.2.2.2.2.2.2.2.2.2.2.2.2.2.2.2.2.1
theorem dL_1102 : decode code 1102 = .ok (.aload_n 0, 1) := dT_23.2.2.2.2.2.2.2.2.2.2.2.2.2.2.2.2.2.2.2.2.2.2.1
theorem dL_1103 : decode code 1103 = .ok (.iload_n 3, 1) := dT_23.2.2.2.2.2.2.2.2.2.2.2.2.2.2.2.2.2.2.2.2.2.2.2
theorem dT_24 : (decode code 1104 = .ok (.iconst 1, 1)) ∧ (decode code 1105 = .ok (.iadd, 1)) ∧ (decode code 1106 = .ok (.iaload, 1)) ∧ (decode code 1107 = .ok (.invokevirtual 149, 3)) ∧ (decode code 1110 = .ok (.aload_n 2, 1)) ∧ (decode code 1111 = .ok (.aload_n 0, 1)) ∧ (decode code 1112 = .ok (.iload_n 3, 1)) ∧ (decode code 1113 = .ok (.iconst 1, 1)) ∧ (decode code 1114 = .ok (.iadd, 1)) ∧ (decode code 1115 = .ok (.iaload, 1)) ∧ (decode code 1116 = .ok (.invokevirtual 152, 3)) ∧ (decode code 1119 = .ok (.if_icmp .eq 1163, 3)) ∧ (decode code 1122 = .ok (.iconst 0, 1)) ∧ (decode code 1123 = .ok (.ireturn, 1)) ∧ (decode code 1124 = .ok (.aload_n 1, 1)) ∧ (decode code 1125 = .ok (.aload_n 0, 1)) ∧ (decode code 1126 = .ok (.iload_n 3, 1)) ∧ (decode code 1127 = .ok (.iconst 1, 1)) ∧ (decode code 1128 = .ok (.iadd, 1)) ∧ (decode code 1129 = .ok (.iaload, 1)) ∧ (decode code 1130 = .ok (.invokevirtual 153, 3)) ∧ (decode code 1133 = .ok (.aload_n 2, 1)) ∧ (decode code 1134 = .ok (.aload_n 0, 1)) ∧ (decode code 1135 = .ok (.iload_n 3, 1)) := by decide +kernel
theorem dL_1104 : decode code 1104 = .ok (.iconst 1, 1) := dT_24.1
theorem dL_1105 : decode code 1105 = .ok (.iadd, 1) := dT_24.2.1
theorem dL_1106 : decode code 1106 = .ok (.iaload, 1) := dT_24.2.2.1
theorem dL_1107 : decode code 1107 = .ok (.invokevirtual 149, 3) := dT_24.2.2.2.1
theorem dL_1110 : decode code 1110 = .ok (.aload_n 2, 1) := dT_24.2.2.2.2.1
theorem dL_1111 : decode code 1111 = .ok (.aload_n 0, 1) := dT_24.2.2.2.2.2.1
theorem dL_1112 : decode code 1112 = .ok (.iload_n 3, 1) := dT_24.2.2.2.2.2.2.1
theorem dL_1113 : decode code 1113 = .ok (.iconst 1, 1) := dT_24.2.2.2.2.2.2.2.1
theorem dL_1114 : decode code 1114 = .ok (.iadd, 1) := dT_24.2.2.2.2.2.2.2.2.1
theorem dL_1115 : decode code 1115 = .ok (.iaload, 1) := dT_24.2.2.2.2.2.2.2.2.2.1
theorem dL_1116 : decode code 1116 = .ok (.invokevirtual 152, 3) := dT_24.2.2.2.2.2.2.2.2.2.2.1
theorem dL_1119 : decode code 1119 = .ok (.if_icmp .eq 1163, 3) := dT_24.2.2.2.2.2.2.2.2.2.2.2.1
theorem dL_1122 : decode code 1122 = .ok (.iconst 0, 1) := dT_24.2.2.2.2.2.2.2.2.2.2.2.2.1
theorem dL_1123 : decode code 1123 = .ok (.ireturn, 1) := dT_24.2.2.2.2.2.2.2.2.2.2.2.2.2.1
theorem dL_1124 : decode code 1124 = .ok (.aload_n 1, 1) := dT_24.2.2.2.2.2.2.2.2.2.2.2.2.2.2.1
theorem dL_1125 : decode code 1125 = .ok (.aload_n 0, 1) := dT_24.2.2.2.2.2.2.2.2.2.2.2.2.2.2.2.1
theorem dL_1126 : decode code 1126 = .ok (.iload_n 3, 1) := dT_24.2.2.2.2.2.2.2.2.2.2.2.2.2.2.2.2.1
theorem dL_1127 : decode code 1127 = .ok (.iconst 1, 1) := dT_24.2.2.2.2.2.2.2.2.2.2.2.2.2.2.2.2.2.1
theorem dL_1128 : decode code 1128 = .ok (.iadd, 1) := dT_24.2.2.2.2.2.2.2.2.2.2.2.2.2.2.2.2.2.2.1
theorem dL_1129 : decode code 1129 = .ok (.iaload, 1) := dT_24.2.2.2.2.2.2.2.2.2.2.2.2.2.2.2.2.2.2.2.1
theorem dL_1130 : decode code 1130 = .ok (.invokevirtual 153, 3) := dT_24.2.2.2.2.2.2.2.2.2.2.2.2.2.2.2.2.2.2.2.2.1
theorem dL_1133 : decode code 1133 = .ok (.aload_n 2, 1) := dT_24.2.2.2.2.2.2.2.2.2.2.2.2.2.2.2.2.2.2.2.2.2.1
theorem dL_1134 : decode code 1134 = .ok (.aload_n 0, 1) := dT_24.2.2.2.2.2.2.2.2.2.2.2.2.2.2.2.2.2.2.2.2.2.2.1
theorem dL_1135 : decode code 1135 = .ok (.iload_n 3, 1) := dT_24.2.2.2.2.2.2.2.2.2.2.2.2.2.2.2.2.2.2.2.2.2.2.2
theorem dT_25 : (decode code 1136 = .ok (.iconst 1, 1)) ∧ (decode code 1137 = .ok (.iadd, 1)) ∧ (decode code 1138 = .ok (.iaload, 1)) ∧ (decode code 1139 = .ok (.invokevirtual 156, 3)) ∧ (decode code 1142 = .ok (.if_icmp .eq 1140, 3)) ∧ (decode code 1145 = .ok (.iconst 0, 1)) ∧ (decode code 1146 = .ok (.ireturn, 1)) ∧ (decode code 1147 = .ok (.aload_n 1, 1)) ∧ (decode code 1148 = .ok (.aload_n 0, 1)) ∧ (decode code 1149 = .ok (.iload_n 3, 1)) ∧ (decode code 1150 = .ok (.iconst 1, 1)) ∧ (decode code 1151 = .ok (.iadd, 1)) ∧ (decode code 1152 = .ok (.iaload, 1)) ∧ (decode code 1153 = .ok (.invokevirtual 157, 3)) ∧ (decode code 1156 = .ok (.aload_n 2, 1)) ∧ (decode code 1157 = .ok (.aload_n 0, 1)) ∧ (decode code 1158 = .ok (.iload_n 3, 1)) ∧ (decode code 1159 = .ok (.iconst 1, 1)) ∧ (decode code 1160 = .ok (.iadd, 1)) ∧ (decode code 1161 = .ok (.iaload, 1)) ∧ (decode code 1162 = .ok (.invokevirtual 160, 3)) ∧ (decode code 1165 = .ok (.if_icmp .eq 1117, 3)) ∧ (decode code 1168 = .ok (.iconst 0, 1)) ∧ (decode code 1169 = .ok (.ireturn, 1)) := by decide +kernel
theorem dL_1136 : decode code 1136 = .ok (.iconst 1, 1) := dT_25.1
theorem dL_1137 : decode code 1137 = .ok (.iadd, 1) := dT_25.2.1
theorem dL_1138 : decode code 1138 = .ok (.iaload, 1) := dT_25.2.2.1
theorem dL_1139 : decode code 1139 = .ok (.invokevirtual 156, 3) := dT_25.2.2.2.1
theorem dL_1142 : decode code 1142 = .ok (.if_icmp .eq 1140, 3) := dT_25.2.2.2.2.1
theorem dL_1145 : decode code 1145 = .ok (.iconst 0, 1) := dT_25.2.2.2.2.2.1
theorem dL_1146 : decode code 1146 = .ok (.ireturn, 1) := dT_25.2.2.2.2.2.2.1
theorem dL_1147 : decode code 1147 = .ok (.aload_n 1, 1) := dT_25.2.2.2.2.2.2.2.1
theorem dL_1148 : decode code 1148 = .ok (.aload_n 0, 1) := dT_25.2.2.2.2.2.2.2.2.1
theorem dL_1149 : decode code 1149 = .ok (.iload_n 3, 1) := dT_25.2.2.2.2.2.2.2.2.2.1
theorem dL_1150 : decode code 1150 = .ok (.iconst 1, 1) := dT_25.2.2.2.2.2.2.2.2.2.2.1
theorem dL_1151 : decode code 1151 = .ok (.iadd, 1) := dT_25.2.2.2.2.2.2.2.2.2.2.2.1
theorem dL_1152 : decode code 1152 = .ok (.iaload, 1) := dT_25.2.2.2.2.2.2.2.2.2.2.2.2.1
theorem dL_1153 : decode code 1153 = .ok (.invokevirtual 157, 3) := dT_25.2.2.2.2.2.2.2.2.2.2.2.2.2.1
theorem dL_1156 : decode code 1156 = .ok (.aload_n 2, 1) := dT_25.2.2.2.2.2.2.2.2.2.2.2.2.2.2.1
theorem dL_1157 : decode code 1157 = .ok (.aload_n 0, 1) := dT_25.2.2.2.2.2.2.2.2.2.2.2.2.2.2.2.1
theorem dL_1158 : decode code 1158 = .ok (.iload_n 3, 1) := dT_25.2.2.2.2.2.2.2.2.2.2.2.2.2.2.2.2.1
theorem dL_1159 : decode code 1159 = .ok (.iconst 1, 1) := dT_25.2.2.2.2.2.2.2.2.2.2.2.2.2.2.2.2.2.1
theorem dL_1160 : decode code 1160 = .ok (.iadd, 1) := dT_25.2.2.2.2.2.2.2.2.2.2.2.2.2.2.2.2.2.2.1
theorem dL_1161 : decode code 1161 = .ok (.iaload, 1) := dT_25.2.2.2.2.2.2.2.2.2.2.2.2.2.2.2.2.2.2.2.1
theorem dL_1162 : decode code 1162 = .ok (.invokevirtual 160, 3) := dT_25.2.2.2.2.2.2.2.2.2.2.2.2.2.2.2.2.2.2.2.2.1
theorem dL_1165 : decode code 1165 = .ok (.if_icmp .eq 1117, 3) := dT_25.2.2.2.2.2.2.2.2.2.2.2.2.2.2.2.2.2.2.2.2.2.1
theorem dL_1168 : decode code 1168 = .ok (.iconst 0, 1) := dT_25.2.2.2.2.2.2.2.2.2.2.2.2.2.2.2.2.2.2.2.2.2.2.1
theorem dL_1169 : decode code 1169 = .ok (.ireturn, 1) := dT_25.2.2.2.2.2.2.2.2.2.2.2.2.2.2.2.2.2.2.2.2.2.2.2
theorem dT_26 : (decode code 1170 = .ok (.aload_n 1, 1)) ∧ (decode code 1171 = .ok (.aload_n 0, 1)) ∧ (decode code 1172 = .ok (.iload_n 3, 1)) ∧ (decode code 1173 = .ok (.iconst 1, 1)) ∧ (decode code 1174 = .ok (.iadd, 1)) ∧ (decode code 1175 = .ok (.iaload, 1)) ∧ (decode code 1176 = .ok (.invokevirtual 161, 3)) ∧ (decode code 1179 = .ok (.aload_n 2, 1)) ∧ (decode code 1180 = .ok (.aload_n 0, 1)) ∧ (decode code 1181 = .ok (.iload_n 3, 1)) ∧ (decode code 1182 = .ok (.iconst 1, 1)) ∧ (decode code 1183 = .ok (.iadd, 1)) ∧ (decode code 1184 = .ok (.iaload, 1)) ∧ (decode code 1185 = .ok (.invokevirtual 164, 3)) ∧ (decode code 1188 = .ok (.if_icmp .eq 1094, 3)) ∧ (decode code 1191 = .ok (.iconst 0, 1)) ∧ (decode code 1192 = .ok (.ireturn, 1)) ∧ (decode code 1193 = .ok (.aload_n 1, 1)) ∧ (decode code 1194 = .ok (.aload_n 0, 1)) ∧ (decode code 1195 = .ok (.iload_n 3, 1)) ∧ (decode code 1196 = .ok (.iconst 1, 1)) ∧ (decode code 1197 = .ok (.iadd, 1)) ∧ (decode code 1198 = .ok (.iaload, 1)) ∧ (decode code 1199 = .ok (.invokevirtual 165, 3)) := by decide +kernel
theorem dL_1170 : decode code 1170 = .ok (.aload_n 1, 1) := dT_26.1
theorem dL_1171 : decode code 1171 = .ok (.aload_n 0, 1) := dT_26.2.1
theorem dL_1172 : decode code 1172 = .ok (.iload_n 3, 1) := dT_26.2.2.1
theorem dL_1173 : decode code 1173 = .ok (.iconst 1, 1) := dT_26.2.2.2.1
theorem dL_1174 : decode code 1174 = .ok (.iadd, 1) := dT_26.2.2.2.2.1
theorem dL_1175 : decode code 1175 = .ok (.iaload, 1) := dT_26.2.2.2.2.2.1
theorem dL_1176 : decode code 1176 = .ok (.invokevirtual 161, 3) := dT_26.2.2.2.2.2.2.1
theorem dL_1179 : decode code 1179 = .ok (.aload_n 2, 1) := dT_26.2.2.2.2.2.2.2.1
theorem dL_1180 : decode code 1180 = .ok (.aload_n 0, 1) := dT_26.2.2.2.2.2.2.2.2.1
theorem dL_1181 : decode code 1181 = .ok (.iload_n 3, 1) := dT_26.2.2.2.2.2.2.2.2.2.1
theorem dL_1182 : decode code 1182 = .ok (.iconst 1, 1) := dT_26.2.2.2.2.2.2.2.2.2.2.1
theorem dL_1183 : decode code 1183 = .ok (.iadd, 1) := dT_26.2.2.2.2.2.2.2.2.2.2.2.1
theorem dL_1184 : decode code 1184 = .ok (.iaload, 1) := dT_26.2.2.2.2.2.2.2.2.2.2.2.2.1
theorem dL_1185 : decode code 1185 = .ok (.invokevirtual 164, 3) := dT_26.2.2.2.2.2.2.2.2.2.2.2.2.2.1
theorem dL_1188 : decode code 1188 = .ok (.if_icmp .eq 1094, 3) := dT_26.2.2.2.2.2.2.2.2.2.2.2.2.2.2.1
theorem dL_1191 : decode code 1191 = .ok (.iconst 0, 1) := dT_26.2.2.2.2.2.2.2.2.2.2.2.2.2.2.2.1
theorem dL_1192 : decode code 1192 = .ok (.ireturn, 1) := dT_26.2.2.2.2.2.2.2.2.2.2.2.2.2.2.2.2.1
theorem dL_1193 : decode code 1193 = .ok (.aload_n 1, 1) := dT_26.2.2.2.2.2.2.2.2.2.2.2.2.2.2.2.2.2.1
theorem dL_1194 : decode code 1194 = .ok (.aload_n 0, 1) := dT_26.2.2.2.2.2.2.2.2.2.2.2.2.2.2.2.2.2.2.1
theorem dL_1195 : decode code 1195 = .ok (.iload_n 3, 1) := dT_26.2.2.2.2.2.2.2.2.2.2.2.2.2.2.2.2.2.2.2.1
theorem dL_1196 : decode code 1196 = .ok (.iconst 1, 1) := dT_26.2.2.2.2.2.2.2.2.2.2.2.2.2.2.2.2.2.2.2.2.1
theorem dL_1197 : decode code 1197 = .ok (.iadd, 1) := dT_26.2.2.2.2.2.2.2.2.2.2.2.2.2.2.2.2.2.2.2.2.2.1
theorem dL_1198 : decode code 1198 = .ok (.iaload, 1) := dT_26.2.2.2.2.2.2.2.2.2.2.2.2.2.2.2.2.2.2.2.2.2.2.1
theorem dL_1199 : decode code 1199 = .ok (.invokevirtual 165, 3) := dT_26.2.2.2.2.2.2.2.2.2.2.2.2.2.2.2.2.2.2.2.2.2.2.2
theorem dT_27 : (decode code 1202 = .ok (.aload_n 2, 1)) ∧ (decode code 1203 = .ok (.aload_n 0, 1)) ∧ (decode code 1204 = .ok (.iload_n 3, 1)) ∧ (decode code 1205 = .ok (.iconst 1, 1)) ∧ (decode code 1206 = .ok (.iadd, 1)) ∧ (decode code 1207 = .ok (.iaload, 1)) ∧ (decode code 1208 = .ok (.invokevirtual 168, 3)) ∧ (decode code 1211 = .ok (.if_icmp .eq 1071, 3)) ∧ (decode code 1214 = .ok (.iconst 0, 1)) ∧ (decode code 1215 = .ok (.ireturn, 1)) ∧ (decode code 1216 = .ok (.aload_n 1, 1)) ∧ (decode code 1217 = .ok (.aload_n 0, 1)) ∧ (decode code 1218 = .ok (.iload_n 3, 1)) ∧ (decode code 1219 = .ok (.iconst 1, 1)) ∧ (decode code 1220 = .ok (.iadd, 1)) ∧ (decode code 1221 = .ok (.iaload, 1)) ∧ (decode code 1222 = .ok (.invokevirtual 169, 3)) ∧ (decode code 1225 = .ok (.aload_n 2, 1)) ∧ (decode code 1226 = .ok (.aload_n 0, 1)) ∧ (decode code 1227 = .ok (.iload_n 3, 1)) ∧ (decode code 1228 = .ok (.iconst 1, 1)) ∧ (decode code 1229 = .ok (.iadd, 1)) ∧ (decode code 1230 = .ok (.iaload, 1)) ∧ (decode code 1231 = .ok (.invokevirtual 172, 3)) := by decide +kernel
theorem dL_1202 : decode code 1202 = .ok (.aload_n 2, 1) := dT_27.1
theorem dL_1203 : decode code 1203 = .ok (.aload_n 0, 1) := dT_27.2.1
theorem dL_1204 : decode code 1204 = .ok (.iload_n 3, 1) := dT_27.2.2.1
theorem dL_1205 : decode code 1205 = .ok (.iconst 1, 1) := dT_27.2.2.2.1
theorem dL_1206 : decode code 1206 = .ok (.iadd, 1) := dT_27.2.2.2.2.1
theorem dL_1207 : decode code 1207 = .ok (.iaload, 1) := dT_27.2.2.2.2.2.1
theorem dL_1208 : decode code 1208 = .ok (.invokevirtual 168, 3) := dT_27.2.2.2.2.2.2.1
theorem dL_1211 : decode code 1211 = .ok (.if_icmp .eq 1071, 3) := dT_27.2.2.2.2.2.2.2.1
theorem dL_1214 : decode code 1214 = .ok (.iconst 0, 1) := dT_27.2.2.2.2.2.2.2.2.1
theorem dL_1215 : decode code 1215 = .ok (.ireturn, 1) := dT_27.2.2.2.2.2.2.2.2.2.1
theorem dL_1216 : decode code 1216 = .ok (.aload_n 1, 1) := dT_27.2.2.2.2.2.2.2.2.2.2.1
theorem dL_1217 : decode code 1217 = .ok (.aload_n 0, 1) := dT_27.2.2.2.2.2.2.2.2.2.2.2.1
theorem dL_1218 : decode code 1218 = .ok (.iload_n 3, 1) := dT_27.2.2.2.2.2.2.2.2.2.2.2.2.1
theorem dL_1219 : decode code 1219 = .ok (.iconst 1, 1) := dT_27.2.2.2.2.2.2.2.2.2.2.2.2.2.1
theorem dL_1220 : decode code 1220 = .ok (.iadd, 1) := dT_27.2.2.2.2.2.2.2.2.2.2.2.2.2.2.1
theorem dL_1221 : decode code 1221 = .ok (.iaload, 1) := dT_27.2.2.2.2.2.2.2.2.2.2.2.2.2.2.2.1
theorem dL_1222 : decode code 1222 = .ok (.invokevirtual 169, 3) := dT_27.2.2.2.2.2.2.2.2.2.2.2.2.2.2.2.2.1
theorem dL_1225 : decode code 1225 = .ok (.aload_n 2, 1) := dT_27.2.2.2.2.2.2.2.2.2.2.2.2.2.2.2.2.2.1
theorem dL_1226 : decode code 1226 = .ok (.aload_n 0, 1) := dT_27.2.2.2.2.2.2.2.2.2.2.2.2.2.2.2.2.2.2.1
theorem dL_1227 : decode code 1227 = .ok (.iload_n 3, 1) := dT_27.2.2.2.2.2.2.2.2.2.2.2.2.2.2.2.2.2.2.2.1
theorem dL_1228 : decode code 1228 = .ok (.iconst 1, 1) := dT_27.2.2.2.2.2.2.2.2.2.2.2.2.2.2.2.2.2.2.2.2.1
theorem dL_1229 : decode code 1229 = .ok (.iadd, 1) := dT_27.2.2.2.2.2.2.2.2.2.2.2.2.2.2.2.2.2.2.2.2.2.1
theorem dL_1230 : decode code 1230 = .ok (.iaload, 1) := dT_27.2.2.2.2.2.2.2.2.2.2.2.2.2.2.2.2.2.2.2.2.2.2.1
theorem dL_1231 : decode code 1231 = .ok (.invokevirtual 172, 3) := dT_27.2.2.2.2.2.2.2.2.2.2.2.2.2.2.2.2.2.2.2.2.2.2.2
theorem dT_28 : (decode code 1234 = .ok (.if_icmp .eq 1048, 3)) ∧ (decode code 1237 = .ok (.iconst 0, 1)) ∧ (decode code 1238 = .ok (.ireturn, 1)) ∧ (decode code 1239 = .ok (.aload_n 1, 1)) ∧ (decode code 1240 = .ok (.aload_n 0, 1)) ∧ (decode code 1241 = .ok (.iload_n 3, 1)) ∧ (decode code 1242 = .ok (.iconst 1, 1)) ∧ (decode code 1243 = .ok (.iadd, 1)) ∧ (decode code 1244 = .ok (.iaload, 1)) ∧ (decode code 1245 = .ok (.aload_n 0, 1)) ∧ (decode code 1246 = .ok (.iload_n 3, 1)) ∧ (decode code 1247 = .ok (.iconst 2, 1)) ∧ (decode code 1248 = .ok (.iadd, 1)) ∧ (decode code 1249 = .ok (.iaload, 1)) ∧ (decode code 1250 = .ok (.invokevirtual 173, 3)) ∧ (decode code 1253 = .ok (.aload_n 2, 1)) ∧ (decode code 1254 = .ok (.aload_n 0, 1)) ∧ (decode code 1255 = .ok (.iload_n 3, 1)) ∧ (decode code 1256 = .ok (.iconst 1, 1)) ∧ (decode code 1257 = .ok (.iadd, 1)) ∧ (decode code 1258 = .ok (.iaload, 1)) ∧ (decode code 1259 = .ok (.aload_n 0, 1)) ∧ (decode code 1260 = .ok (.iload_n 3, 1)) ∧ (decode code 1261 = .ok (.iconst 2, 1)) := by decide +kernel
theorem dL_1234 : decode code 1234 = .ok (.if_icmp .eq 1048, 3) := dT_28.1
theorem dL_1237 : decode code 1237 = .ok (.iconst 0, 1) := dT_28.2.1
theorem dL_1238 : decode code 1238 = .ok (.ireturn, 1) := dT_28.2.2.1
theorem dL_1239 : decode code 1239 = .ok (.aload_n 1, 1) := dT_28.2.2.2.1
theorem dL_1240 : decode code 1240 = .ok (.aload_n 0, 1) := dT_28.2.2.2.2.1
theorem dL_1241 : decode code 1241 = .ok (.iload_n 3, 1) := dT_28.2.2.2.2.2.1
theorem dL_1242 : decode code 1242 = .ok (.iconst 1, 1) := dT_28.2.2.2.2.2.2.1
theorem dL_1243 : decode code 1243 = .ok (.iadd, 1) := dT_28.2.2.2.2.2.2.2.1
theorem dL_1244 : decode code 1244 = .ok (.iaload, 1) := dT_28.2.2.2.2.2.2.2.2.1
theorem dL_1245 : decode code 1245 = .ok (.aload_n 0, 1) := dT_28.2.2.2.2.2.2.2.2.2.1
theorem dL_1246 : decode code 1246 = .ok (.iload_n 3, 1) := dT_28.2.2.2.2.2.2.2.2.2.2.1
theorem dL_1247 : decode code 1247 = .ok (.iconst 2, 1) := dT_28.2.2.2.2.2.2.2.2.2.2.2.1
theorem dL_1248 : decode code 1248 = .ok (.iadd, 1) := dT_28.2.2.2.2.2.2.2.2.2.2.2.2.1
theorem dL_1249 : decode code 1249 = .ok (.iaload, 1) := dT_28.2.2.2.2.2.2.2.2.2.2.2.2.2.1
theorem dL_1250 : decode code 1250 = .ok (.invokevirtual 173, 3) := dT_28.2.2.2.2.2.2.2.2.2.2.2.2.2.2.1
theorem dL_1253 : decode code 1253 = .ok (.aload_n 2, 1) := dT_28.2.2.2.2.2.2.2.2.2.2.2.2.2.2.2.1
theorem dL_1254 : decode code 1254 = .ok (.aload_n 0, 1) := dT_28.2.2.2.2.2.2.2.2.2.2.2.2.2.2.2.2.1
theorem dL_1255 : decode code 1255 = .ok (.iload_n 3, 1) := dT_28.2.2.2.2.2.2.2.2.2.2.2.2.2.2.2.2.2.1
theorem dL_1256 : decode code 1256 = .ok (.iconst 1, 1) := dT_28.2.2.2.2.2.2.2.2.2.2.2.2.2.2.2.2.2.2.1
theorem dL_1257 : decode code 1257 = .ok (.iadd, 1) := dT_28.2.2.2.2.2.2.2.2.2.2.2.2.2.2.2.2.2.2.2.1
theorem dL_1258 : decode code 1258 = .ok (.iaload, 1) := dT_28.2.2.2.2.2.2.2.2.2.2.2.2.2.2.2.2.2.2.2.2.1
theorem dL_1259 : decode code 1259 = .ok (.aload_n 0, 1) := dT_28.2.2.2.2.2.2.2.2.2.2.2.2.2.2.2.2.2.2.2.2.2.1
theorem dL_1260 : decode code 1260 = .ok (.iload_n 3, 1) := dT_28.2.2.2.2.2.2.2.2.2.2.2.2.2.2.2.2.2.2.2.2.2.2.1
theorem dL_1261 : decode code 1261 = .ok (.iconst 2, 1) := dT_28.2.2.2.2.2.2.2.2.2.2.2.2.2.2.2.2.2.2.2.2.2.2.2
theorem dT_29 : (decode code 1262 = .ok (.iadd, 1)) ∧ (decode code 1263 = .ok (.iaload, 1)) ∧ (decode code 1264 = .ok (.invokevirtual 176, 3)) ∧ (decode code 1267 = .ok (.if_icmp .eq 1015, 3)) ∧ (decode code 1270 = .ok (.iconst 0, 1)) ∧ (decode code 1271 = .ok (.ireturn, 1)) ∧ (decode code 1272 = .ok (.aload_n 1, 1)) ∧ (decode code 1273 = .ok (.aload_n 0, 1)) ∧ (decode code 1274 = .ok (.iload_n 3, 1)) ∧ (decode code 1275 = .ok (.iconst 1, 1)) ∧ (decode code 1276 = .ok (.iadd, 1)) ∧ (decode code 1277 = .ok (.iaload, 1)) ∧ (decode code 1278 = .ok (.invokevirtual 177, 3)) ∧ (decode code 1281 = .ok (.aload_n 2, 1)) ∧ (decode code 1282 = .ok (.aload_n 0, 1)) ∧ (decode code 1283 = .ok (.iload_n 3, 1)) ∧ (decode code 1284 = .ok (.iconst 1, 1)) ∧ (decode code 1285 = .ok (.iadd, 1)) ∧ (decode code 1286 = .ok (.iaload, 1)) ∧ (decode code 1287 = .ok (.invokevirtual 180, 3)) ∧ (decode code 1290 = .ok (.if_icmp .eq 992, 3)) ∧ (decode code 1293 = .ok (.iconst 0, 1)) ∧ (decode code 1294 = .ok (.ireturn, 1)) ∧ (decode code 1295 = .ok (.aload_n 1, 1)) := by decide +kernel
theorem dL_1262 : decode code 1262 = .ok (.iadd, 1) := dT_29.1
theorem dL_1263 : decode code 1263 = .ok (.iaload, 1) := dT_29.2.1
theorem dL_1264 : decode code 1264 = .ok (.invokevirtual 176, 3) := dT_29.2.2.1
theorem dL_1267 : decode code 1267 = .ok (.if_icmp .eq 1015, 3) := dT_29.2.2.2.1
theorem dL_1270 : decode code 1270 = .ok (.iconst 0, 1) := dT_29.2.2.2.2.1
theorem dL_1271 : decode code 1271 = .ok (.ireturn, 1) := dT_29.2.2.2.2.2.1
theorem dL_1272 : decode code 1272 = .ok (.aload_n 1, 1) := dT_29.2.2.2.2.2.2.1
theorem dL_1273 : decode code 1273 = .ok (.aload_n 0, 1) := dT_29.2.2.2.2.2.2.2.1
theorem dL_1274 : decode code 1274 = .ok (.iload_n 3, 1) := dT_29.2.2.2.2.2.2.2.2.1
theorem dL_1275 : decode code 1275 = .ok (.iconst 1, 1) := dT_29.2.2.2.2.2.2.2.2.2.1
theorem dL_1276 : decode code 1276 = .ok (.iadd, 1) := dT_29.2.2.2.2.2.2.2.2.2.2.1
theorem dL_1277 : decode code 1277 = .ok (.iaload, 1) := dT_29.2.2.2.2.2.2.2.2.2.2.2.1
theorem dL_1278 : decode code 1278 = .ok (.invokevirtual 177, 3) := dT_29.2.2.2.2.2.2.2.2.2.2.2.2.1
theorem dL_1281 : decode code 1281 = .ok (.aload_n 2, 1) := dT_29.2.2.2.2.2.2.2.2.2.2.2.2.2.1
theorem dL_1282 : decode code 1282 = .ok (.aload_n 0, 1) := dT_29.2.2.2.2.2.2.2.2.2.2.2.2.2.2.1
theorem dL_1283 : decode code 1283 = .ok (.iload_n 3, 1) := dT_29.2.2.2.2.2.2.2.2.2.2.2.2.2.2.2.1
theorem dL_1284 : decode code 1284 = .ok (.iconst 1, 1) := dT_29.2.2.2.2.2.2.2.2.2.2.2.2.2.2.2.2.1
theorem dL_1285 : decode code 1285 = .ok (.iadd, 1) := dT_29.2.2.2.2.2.2.2.2.2.2.2.2.2.2.2.2.2.1
theorem dL_1286 : decode code 1286 = .ok (.iaload, 1) := dT_29.2.2.2.2.2.2.2.2.2.2.2.2.2.2.2.2.2.2.1
theorem dL_1287 : decode code 1287 = .ok (.invokevirtual 180, 3) := dT_29.2.2.2.2.2.2.2.2.2.2.2.2.2.2.2.2.2.2.2.1
theorem dL_1290 : decode code 1290 = .ok (.if_icmp .eq 992, 3) := dT_29.2.2.2.2.2.2.2.2.2.2.2.2.2.2.2.2.2.2.2.2.1
theorem dL_1293 : decode code 1293 = .ok (.iconst 0, 1) := dT_29.2.2.2.2.2.2.2.2.2.2.2.2.2.2.2.2.2.2.2.2.2.1
theorem dL_1294 : decode code 1294 = .ok (.ireturn, 1) := dT_29.2.2.2.2.2.2.2.2.2.2.2.2.2.2.2.2.2.2.2.2.2.2.1
theorem dL_1295 : decode code 1295 = .ok (.aload_n 1, 1) := dT_29.2.2.2.2.2.2.2.2.2.2.2.2.2.2.2.2.2.2.2.2.2.2.2
theorem dT_30 : (decode code 1296 = .ok (.aload_n 0, 1)) ∧ (decode code 1297 = .ok (.iload_n 3, 1)) ∧ (decode code 1298 = .ok (.iconst 1, 1)) ∧ (decode code 1299 = .ok (.iadd, 1)) ∧ (decode code 1300 = .ok (.iaload, 1)) ∧ (decode code 1301 = .ok (.invokevirtual 181, 3)) ∧ (decode code 1304 = .ok (.aload_n 2, 1)) ∧ (decode code 1305 = .ok (.aload_n 0, 1)) ∧ (decode code 1306 = .ok (.iload_n 3, 1)) ∧ (decode code 1307 = .ok (.iconst 1, 1)) ∧ (decode code 1308 = .ok (.iadd, 1)) ∧ (decode code 1309 = .ok (.iaload, 1)) ∧ (decode code 1310 = .ok (.invokevirtual 184, 3)) ∧ (decode code 1313 = .ok (.if_icmp .eq 969, 3)) ∧ (decode code 1316 = .ok (.iconst 0, 1)) ∧ (decode code 1317 = .ok (.ireturn, 1)) ∧ (decode code 1318 = .ok (.aload_n 1, 1)) ∧ (decode code 1319 = .ok (.aload_n 0, 1)) ∧ (decode code 1320 = .ok (.iload_n 3, 1)) ∧ (decode code 1321 = .ok (.iconst 1, 1)) ∧ (decode code 1322 = .ok (.iadd, 1)) ∧ (decode code 1323 = .ok (.iaload, 1)) ∧ (decode code 1324 = .ok (.invokevirtual 185, 3)) ∧ (decode code 1327 = .ok (.aload_n 2, 1)) := by decide +kernel
theorem dL_1296 : decode code 1296 = .ok (.aload_n 0, 1) := dT_30.1
theorem dL_1297 : decode code 1297 = .ok (.iload_n 3, 1) := dT_30.2.1
theorem dL_1298 : decode code 1298 = .ok (.iconst 1, 1) := dT_30.2.2.1
theorem dL_1299 : decode code 1299 = .ok (.iadd, 1) := dT_30.2.2.2.1
theorem dL_1300 : decode code 1300 = .ok (.iaload, 1) := dT_30.2.2.2.2.1
theorem dL_1301 : decode code 1301 = .ok (.invokevirtual 181, 3) := dT_30.2.2.2.2.2.1
theorem dL_1304 : decode code 1304 = .ok (.aload_n 2, 1) := dT_30.2.2.2.2.2.2.1
theorem dL_1305 : decode code 1305 = .ok (.aload_n 0, 1) := dT_30.2.2.2.2.2.2.2.1
theorem dL_1306 : decode code 1306 = .ok (.iload_n 3, 1) := dT_30.2.2.2.2.2.2.2.2.1
theorem dL_1307 : decode code 1307 = .ok (.iconst 1, 1) := dT_30.2.2.2.2.2.2.2.2.2.1
theorem dL_1308 : decode code 1308 = .ok (.iadd, 1) := dT_30.2.2.2.2.2.2.2.2.2.2.1
theorem dL_1309 : decode code 1309 = .ok (.iaload, 1) := dT_30.2.2.2.2.2.2.2.2.2.2.2.1
theorem dL_1310 : decode code 1310 = .ok (.invokevirtual 184, 3) := dT_30.2.2.2.2.2.2.2.2.2.2.2.2.1
theorem dL_1313 : decode code 1313 = .ok (.if_icmp .eq 969, 3) := dT_30.2.2.2.2.2.2.2.2.2.2.2.2.2.1
theorem dL_1316 : decode code 1316 = .ok (.iconst 0, 1) := dT_30.2.2.2.2.2.2.2.2.2.2.2.2.2.2.1
theorem dL_1317 : decode code 1317 = .ok (.ireturn, 1) := dT_30.2.2.2.2.2.2.2.2.2.2.2.2.2.2.2.1
theorem dL_1318 : decode code 1318 = .ok (.aload_n 1, 1) := dT_30.2.2.2.2.2.2.2.2.2.2.2.2.2.2.2.2.1
theorem dL_1319 : decode code 1319 = .ok (.aload_n 0, 1) := dT_30.2.2.2.2.2.2.2.2.2.2.2.2.2.2.2.2.2.1
theorem dL_1320 : decode code 1320 = .ok (.iload_n 3, 1) := dT_30.2.2.2.2.2.2.2.2.2.2.2.2.2.2.2.2.2.2.1
theorem dL_1321 : decode code 1321 = .ok (.iconst 1, 1) := dT_30.2.2.2.2.2.2.2.2.2.2.2.2.2.2.2.2.2.2.2.1
theorem dL_1322 : decode code 1322 = .ok (.iadd, 1) := dT_30.2.2.2.2.2.2.2.2.2.2.2.2.2.2.2.2.2.2.2.2.1
theorem dL_1323 : decode code 1323 = .ok (.iaload, 1) := dT_30.2.2.2.2.2.2.2.2.2.2.2.2.2.2.2.2.2.2.2.2.2.1
theorem dL_1324 : decode code 1324 = .ok (.invokevirtual 185, 3) := dT_30.2.2.2.2.2.2.2.2.2.2.2.2.2.2.2.2.2.2.2.2.2.2.1
theorem dL_1327 : decode code 1327 = .ok (.aload_n 2, 1) := dT_30.2.2.2.2.2.2.2.2.2.2.2.2.2.2.2.2.2.2.2.2.2.2.2
theorem dT_31 : (decode code 1328 = .ok (.aload_n 0, 1)) ∧ (decode code 1329 = .ok (.iload_n 3, 1)) ∧ (decode code 1330 = .ok (.iconst 1, 1)) ∧ (decode code 1331 = .ok (.iadd, 1)) ∧ (decode code 1332 = .ok (.iaload, 1)) ∧ (decode code 1333 = .ok (.invokevirtual 188, 3)) ∧ (decode code 1336 = .ok (.if_icmp .eq 946, 3)) ∧ (decode code 1339 = .ok (.iconst 0, 1)) ∧ (decode code 1340 = .ok (.ireturn, 1)) ∧ (decode code 1341 = .ok (.aload_n 1, 1)) ∧ (decode code 1342 = .ok (.aload_n 0, 1)) ∧ (decode code 1343 = .ok (.iload_n 3, 1)) ∧ (decode code 1344 = .ok (.iconst 1, 1)) ∧ (decode code 1345 = .ok (.iadd, 1)) ∧ (decode code 1346 = .ok (.iaload, 1)) ∧ (decode code 1347 = .ok (.invokevirtual 189, 3)) ∧ (decode code 1350 = .ok (.aload_n 2, 1)) ∧ (decode code 1351 = .ok (.aload_n 0, 1)) ∧ (decode code 1352 = .ok (.iload_n 3, 1)) ∧ (decode code 1353 = .ok (.iconst 1, 1)) ∧ (decode code 1354 = .ok (.iadd, 1)) ∧ (decode code 1355 = .ok (.iaload, 1)) ∧ (decode code 1356 = .ok (.invokevirtual 192, 3)) ∧ (decode code 1359 = .ok (.if_icmp .eq 923, 3)) := by decide +kernel
theorem dL_1328 : decode code 1328 = .ok (.aload_n 0, 1) := dT_31.1
theorem dL_1329 : decode code 1329 = .ok (.iload_n 3, 1) := dT_31.2.1
theorem dL_1330 : decode code 1330 = .ok (.iconst 1, 1) := dT_31.2.2.1
theorem dL_1331 : decode code 1331 = .ok (.iadd, 1) := dT_31.2.2.2.1
theorem dL_1332 : decode code 1332 = .ok (.iaload, 1) := dT_31.2.2.2.2.1
theorem dL_1333 : decode code 1333 = .ok (.invokevirtual 188, 3) := dT_31.2.2.2.2.2.1
theorem dL_1336 : decode code 1336 = .ok (.if_icmp .eq 946, 3) := dT_31.2.2.2.2.2.2.1
theorem dL_1339 : decode code 1339 = .ok (.iconst 0, 1) := dT_31.2.2.2.2.2.2.2.1
theorem dL_1340 : decode code 1340 = .ok (.ireturn, 1) := dT_31.2.2.2.2.2.2.2.2.1
theorem dL_1341 : decode code 1341 = .ok (.aload_n 1, 1) := dT_31.2.2.2.2.2.2.2.2.2.1
theorem dL_1342 : decode code 1342 = .ok (.aload_n 0, 1) := dT_31.2.2.2.2.2.2.2.2.2.2.1
theorem dL_1343 : decode code 1343 = .ok (.iload_n 3, 1) := dT_31.2.2.2.2.2.2.2.2.2.2.2.1
theorem dL_1344 : decode code 1344 = .ok (.iconst 1, 1) := dT_31.2.2.2.2.2.2.2.2.2.2.2.2.1
theorem dL_1345 : decode code 1345 = .ok (.iadd, 1) := dT_31.2.2.2.2.2.2.2.2.2.2.2.2.2.1
theorem dL_1346 : decode code 1346 = .ok (.iaload, 1) := dT_31.2.2.2.2.2.2.2.2.2.2.2.2.2.2.1
theorem dL_1347 : decode code 1347 = .ok (.invokevirtual 189, 3) := dT_31.2.2.2.2.2.2.2.2.2.2.2.2.2.2.2.1
theorem dL_1350 : decode code 1350 = .ok (.aload_n 2, 1) := dT_31.2.2.2.2.2.2.2.2.2.2.2.2.2.2.2.2.1
theorem dL_1351 : decode code 1351 = .ok (.aload_n 0, 1) := dT_31.2.2.2.2.2.2.2.2.2.2.2.2.2.2.2.2.2.1
theorem dL_1352 : decode code 1352 = .ok (.iload_n 3, 1) := dT_31.2.2.2.2.2.2.2.2.2.2.2.2.2.2.2.2.2.2.1
theorem dL_1353 : decode code 1353 = .ok (.iconst 1, 1) := dT_31.2.2.2.2.2.2.2.2.2.2.2.2.2.2.2.2.2.2.2.1
theorem dL_1354 : decode code 1354 = .ok (.iadd, 1) := dT_31.2.2.2.2.2.2.2.2.2.2.2.2.2.2.2.2.2.2.2.2.1
theorem dL_1355 : decode code 1355 = .ok (.iaload, 1) := dT_31.2.2.2.2.2.2.2.2.2.2.2.2.2.2.2.2.2.2.2.2.2.1
theorem dL_1356 : decode code 1356 = .ok (.invokevirtual 192, 3) := dT_31.2.2.2.2.2.2.2.2.2.2.2.2.2.2.2.2.2.2.2.2.2.2.1
theorem dL_1359 : decode code 1359 = .ok (.if_icmp .eq 923, 3) := dT_31.2.2.2.2.2.2.2.2.2.2.2.2.2.2.2.2.2.2.2.2.2.2.2
theorem dT_32 : (decode code 1362 = .ok (.iconst 0, 1)) ∧ (decode code 1363 = .ok (.ireturn, 1)) ∧ (decode code 1364 = .ok (.aload_n 1, 1)) ∧ (decode code 1365 = .ok (.aload_n 0, 1)) ∧ (decode code 1366 = .ok (.iload_n 3, 1)) ∧ (decode code 1367 = .ok (.iconst 1, 1)) ∧ (decode code 1368 = .ok (.iadd, 1)) ∧ (decode code 1369 = .ok (.iaload, 1)) ∧ (decode code 1370 = .ok (.invokevirtual 193, 3)) ∧ (decode code 1373 = .ok (.aload_n 2, 1)) ∧ (decode code 1374 = .ok (.aload_n 0, 1)) ∧ (decode code 1375 = .ok (.iload_n 3, 1)) ∧ (decode code 1376 = .ok (.iconst 1, 1)) ∧ (decode code 1377 = .ok (.iadd, 1)) ∧ (decode code 1378 = .ok (.iaload, 1)) ∧ (decode code 1379 = .ok (.invokevirtual 196, 3)) ∧ (decode code 1382 = .ok (.if_icmp .eq 900, 3)) ∧ (decode code 1385 = .ok (.iconst 0, 1)) ∧ (decode code 1386 = .ok (.ireturn, 1)) ∧ (decode code 1387 = .ok (.aload_n 1, 1)) ∧ (decode code 1388 = .ok (.invokevirtual 197, 3)) ∧ (decode code 1391 = .ok (.aload_n 2, 1)) ∧ (decode code 1392 = .ok (.invokevirtual 200, 3)) ∧ (decode code 1395 = .ok (.if_icmp .eq 887, 3)) := by decide +kernel
theorem dL_1362 : decode code 1362 = .ok (.iconst 0, 1) := dT_32.1
theorem dL_1363 : decode code 1363 = .ok (.ireturn, 1) := dT_32.2.1
theorem dL_1364 : decode code 1364 = .ok (.aload_n 1, 1) := dT_32.2.2.1
theorem dL_1365 : decode code 1365 = .ok (.aload_n 0, 1) := dT_32.2.2.2.1
theorem dL_1366 : decode code 1366 = .ok (.iload_n 3, 1) := dT_32.2.2.2.2.1
theorem dL_1367 : decode code 1367 = .ok (.iconst 1, 1) := dT_32.2.2.2.2.2.1
theorem dL_1368 : decode code 1368 = .ok (.iadd, 1) := dT_32.2.2.2.2.2.2.1
theorem dL_1369 : decode code 1369 = .ok (.iaload, 1) := dT_32.2.2.2.2.2.2.2.1
theorem dL_1370 : decode code 1370 = .ok (.invokevirtual 193, 3) := dT_32.2.2.2.2.2.2.2.2.1
theorem dL_1373 : decode code 1373 = .ok (.aload_n 2, 1) := dT_32.2.2.2.2.2.2.2.2.2.1
theorem dL_1374 : decode code 1374 = .ok (.aload_n 0, 1) := dT_32.2.2.2.2.2.2.2.2.2.2.1
theorem dL_1375 : decode code 1375 = .ok (.iload_n 3, 1) := dT_32.2.2.2.2.2.2.2.2.2.2.2.1
theorem dL_1376 : decode code 1376 = .ok (.iconst 1, 1) := dT_32.2.2.2.2.2.2.2.2.2.2.2.2.1
theorem dL_1377 : decode code 1377 = .ok (.iadd, 1) := dT_32.2.2.2.2.2.2.2.2.2.2.2.2.2.1
theorem dL_1378 : decode code 1378 = .ok (.iaload, 1) := dT_32.2.2.2.2.2.2.2.2.2.2.2.2.2.2.1
theorem dL_1379 : decode code 1379 = .ok (.invokevirtual 196, 3) := dT_32.2.2.2.2.2.2.2.2.2.2.2.2.2.2.2.1
theorem dL_1382 : decode code 1382 = .ok (.if_icmp .eq 900, 3) := dT_32.2.2.2.2.2.2.2.2.2.2.2.2.2.2.2.2.1
theorem dL_1385 : decode code 1385 = .ok (.iconst 0, 1) := dT_32.2.2.2.2.2.2.2.2.2.2.2.2.2.2.2.2.2.1
theorem dL_1386 : decode code 1386 = .ok (.ireturn, 1) := dT_32.2.2.2.2.2.2.2.2.2.2.2.2.2.2.2.2.2.2.1
theorem dL_1387 : decode code 1387 = .ok (.aload_n 1, 1) := dT_32.2.2.2.2.2.2.2.2.2.2.2.2.2.2.2.2.2.2.2.1
theorem dL_1388 : decode code 1388 = .ok (.invokevirtual 197, 3) := dT_32.2.2.2.2.2.2.2.2.2.2.2.2.2.2.2.2.2.2.2.2.1
theorem dL_1391 : decode code 1391 = .ok (.aload_n 2, 1) := dT_32.2.2.2.2.2.2.2.2.2.2.2.2.2.2.2.2.2.2.2.2.2.1
theorem dL_1392 : decode code 1392 = .ok (.invokevirtual 200, 3) := dT_32.2.2.2.2.2.2.2.2.2.2.2.2.2.2.2.2.2.2.2.2.2.2.1
theorem dL_1395 : decode code 1395 = .ok (.if_icmp .eq 887, 3) := dT_32.2.2.2.2.2.2.2.2.2.2.2.2.2.2.2.2.2.2.2.2.2.2.2
theorem dT_33 : (decode code 1398 = .ok (.iconst 0, 1)) ∧ (decode code 1399 = .ok (.ireturn, 1)) ∧ (decode code 1400 = .ok (.aload_n 1, 1)) ∧ (decode code 1401 = .ok (.aload_n 0, 1)) ∧ (decode code 1402 = .ok (.iload_n 3, 1)) ∧ (decode code 1403 = .ok (.iconst 1, 1)) ∧ (decode code 1404 = .ok (.iadd, 1)) ∧ (decode code 1405 = .ok (.iaload, 1)) ∧ (decode code 1406 = .ok (.invokevirtual 201, 3)) ∧ (decode code 1409 = .ok (.aload_n 2, 1)) ∧ (decode code 1410 = .ok (.aload_n 0, 1)) ∧ (decode code 1411 = .ok (.iload_n 3, 1)) ∧ (decode code 1412 = .ok (.iconst 1, 1)) ∧ (decode code 1413 = .ok (.iadd, 1)) ∧ (decode code 1414 = .ok (.iaload, 1)) ∧ (decode code 1415 = .ok (.invokevirtual 204, 3)) ∧ (decode code 1418 = .ok (.if_icmp .eq 864, 3)) ∧ (decode code 1421 = .ok (.iconst 0, 1)) ∧ (decode code 1422 = .ok (.ireturn, 1)) ∧ (decode code 1423 = .ok (.aload_n 1, 1)) ∧ (decode code 1424 = .ok (.invokevirtual 205, 3)) ∧ (decode code 1427 = .ok (.aload_n 2, 1)) ∧ (decode code 1428 = .ok (.invokevirtual 208, 3)) ∧ (decode code 1431 = .ok (.if_icmp .eq 851, 3)) := by decide +kernel
theorem dL_1398 : decode code 1398 = .ok (.iconst 0, 1) := dT_33.1
theorem dL_1399 : decode code 1399 = .ok (.ireturn, 1) := dT_33.2.1
theorem dL_1400 : decode code 1400 = .ok (.aload_n 1, 1) := dT_33.2.2.1
theorem dL_1401 : decode code 1401 = .ok (.aload_n 0, 1) := dT_33.2.2.2.1
theorem dL_1402 : decode code 1402 = .ok (.iload_n 3, 1) := dT_33.2.2.2.2.1
theorem dL_1403 : decode code 1403 = .ok (.iconst 1, 1) := dT_33.2.2.2.2.2.1
theorem dL_1404 : decode code 1404 = .ok (.iadd, 1) := dT_33.2.2.2.2.2.2.1
theorem dL_1405 : decode code 1405 = .ok (.iaload, 1) := dT_33.2.2.2.2.2.2.2.1
theorem dL_1406 : decode code 1406 = .ok (.invokevirtual 201, 3) := dT_33.2.2.2.2.2.2.2.2.1
theorem dL_1409 : decode code 1409 = .ok (.aload_n 2, 1) := dT_33.2.2.2.2.2.2.2.2.2.1
theorem dL_1410 : decode code 1410 = .ok (.aload_n 0, 1) := dT_33.2.2.2.2.2.2.2.2.2.2.1
theorem dL_1411 : decode code 1411 = .ok (.iload_n 3, 1) := dT_33.2.2.2.2.2.2.2.2.2.2.2.1
theorem dL_1412 : decode code 1412 = .ok (.iconst 1, 1) := dT_33.2.2.2.2.2.2.2.2.2.2.2.2.1
theorem dL_1413 : decode code 1413 = .ok (.iadd, 1) := dT_33.2.2.2.2.2.2.2.2.2.2.2.2.2.1
theorem dL_1414 : decode code 1414 = .ok (.iaload, 1) := dT_33.2.2.2.2.2.2.2.2.2.2.2.2.2.2.1
theorem dL_1415 : decode code 1415 = .ok (.invokevirtual 204, 3) := dT_33.2.2.2.2.2.2.2.2.2.2.2.2.2.2.2.1
theorem dL_1418 : decode code 1418 = .ok (.if_icmp .eq 864, 3) := dT_33.2.2.2.2.2.2.2.2.2.2.2.2.2.2.2.2.1
theorem dL_1421 : decode code 1421 = .ok (.iconst 0, 1) := dT_33.2.2.2.2.2.2.2.2.2.2.2.2.2.2.2.2.2.1
theorem dL_1422 : decode code 1422 = .ok (.ireturn, 1) := dT_33.2.2.2.2.2.2.2.2.2.2.2.2.2.2.2.2.2.2.1
theorem dL_1423 : decode code 1423 = .ok (.aload_n 1, 1) := dT_33.2.2.2.2.2.2.2.2.2.2.2.2.2.2.2.2.2.2.2.1
theorem dL_1424 : decode code 1424 = .ok (.invokevirtual 205, 3) := dT_33.2.2.2.2.2.2.2.2.2.2.2.2.2.2.2.2.2.2.2.2.1
theorem dL_1427 : decode code 1427 = .ok (.aload_n 2, 1) := dT_33.2.2.2.2.2.2.2.2.2.2.2.2.2.2.2.2.2.2.2.2.2.1
theorem dL_1428 : decode code 1428 = .ok (.invokevirtual 208, 3) := dT_33.2.2.2.2.2.2.2.2.2.2.2.2.2.2.2.2.2.2.2.2.2.2.1
theorem dL_1431 : decode code 1431 = .ok (.if_icmp .eq 851, 3) := dT_33.2.2.2.2.2.2.2.2.2.2.2.2.2.2.2.2.2.2.2.2.2.2.2
theorem dT_34 : (decode code 1434 = .ok (.iconst 0, 1)) ∧ (decode code 1435 = .ok (.ireturn, 1)) ∧ (decode code 1436 = .ok (.aload_n 1, 1)) ∧ (decode code 1437 = .ok (.aload_n 0, 1)) ∧ (decode code 1438 = .ok (.iload_n 3, 1)) ∧ (decode code 1439 = .ok (.iconst 1, 1)) ∧ (decode code 1440 = .ok (.iadd, 1)) ∧ (decode code 1441 = .ok (.iaload, 1)) ∧ (decode code 1442 = .ok (.invokevirtual 209, 3)) ∧ (decode code 1445 = .ok (.aload_n 2, 1)) ∧ (decode code 1446 = .ok (.aload_n 0, 1)) ∧ (decode code 1447 = .ok (.iload_n 3, 1)) ∧ (decode code 1448 = .ok (.iconst 1, 1)) ∧ (decode code 1449 = .ok (.iadd, 1)) ∧ (decode code 1450 = .ok (.iaload, 1)) ∧ (decode code 1451 = .ok (.invokevirtual 212, 3)) ∧ (decode code 1454 = .ok (.if_icmp .eq 828, 3)) ∧ (decode code 1457 = .ok (.iconst 0, 1)) ∧ (decode code 1458 = .ok (.ireturn, 1)) ∧ (decode code 1459 = .ok (.aload_n 1, 1)) ∧ (decode code 1460 = .ok (.aload_n 0, 1)) ∧ (decode code 1461 = .ok (.iload_n 3, 1)) ∧ (decode code 1462 = .ok (.iconst 1, 1)) ∧ (decode code 1463 = .ok (.iadd, 1)) := by decide +kernel
theorem dL_1434 : decode code 1434 = .ok (.iconst 0, 1) := dT_34.1
theorem dL_1435 : decode code 1435 = .ok (.ireturn, 1) := dT_34.2.1
theorem dL_1436 : decode code 1436 = .ok (.aload_n 1, 1) := dT_34.2.2.1
theorem dL_1437 : decode code 1437 = .ok (.aload_n 0, 1) := dT_34.2.2.2.1
theorem dL_1438 : decode code 1438 = .ok (.iload_n 3, 1) := dT_34.2.2.2.2.1
theorem dL_1439 : decode code 1439 = .ok (.iconst 1, 1) := dT_34.2.2.2.2.2.1
theorem dL_1440 : decode code 1440 = .ok (.iadd, 1) := dT_34.2.2.2.2.2.2.1
theorem dL_1441 : decode code 1441 = .ok (.iaload, 1) := dT_34.2.2.2.2.2.2.2.1
theorem dL_1442 : decode code 1442 = .ok (.invokevirtual 209, 3) := dT_34.2.2.2.2.2.2.2.2.1
theorem dL_1445 : decode code 1445 = .ok (.aload_n 2, 1) := dT_34.2.2.2.2.2.2.2.2.2.1
theorem dL_1446 : decode code 1446 = .ok (.aload_n 0, 1) := dT_34.2.2.2.2.2.2.2.2.2.2.1
theorem dL_1447 : decode code 1447 = .ok (.iload_n 3, 1) := dT_34.2.2.2.2.2.2.2.2.2.2.2.1
theorem dL_1448 : decode code 1448 = .ok (.iconst 1, 1) := dT_34.2.2.2.2.2.2.2.2.2.2.2.2.1
theorem dL_1449 : decode code 1449 = .ok (.iadd, 1) := dT_34.2.2.2.2.2.2.2.2.2.2.2.2.2.1
theorem dL_1450 : decode code 1450 = .ok (.iaload, 1) := dT_34.2.2.2.2.2.2.2.2.2.2.2.2.2.2.1
theorem dL_1451 : decode code 1451 = .ok (.invokevirtual 212, 3) := dT_34.2.2.2.2.2.2.2.2.2.2.2.2.2.2.2.1
theorem dL_1454 : decode code 1454 = .ok (.if_icmp .eq 828, 3) := dT_34.2.2.2.2.2.2.2.2.2.2.2.2.2.2.2.2.1
theorem dL_1457 : decode code 1457 = .ok (.iconst 0, 1) := dT_34.2.2.2.2.2.2.2.2.2.2.2.2.2.2.2.2.2.1
theorem dL_1458 : decode code 1458 = .ok (.ireturn, 1) := dT_34.2.2.2.2.2.2.2.2.2.2.2.2.2.2.2.2.2.2.1
theorem dL_1459 : decode code 1459 = .ok (.aload_n 1, 1) := dT_34.2.2.2.2.2.2.2.2.2.2.2.2.2.2.2.2.2.2.2.1
theorem dL_1460 : decode code 1460 = .ok (.aload_n 0, 1) := dT_34.2.2.2.2.2.2.2.2.2.2.2.2.2.2.2.2.2.2.2.2.1
theorem dL_1461 : decode code 1461 = .ok (.iload_n 3, 1) := dT_34.2.2.2.2.2.2.2.2.2.2.2.2.2.2.2.2.2.2.2.2.2.1
theorem dL_1462 : decode code 1462 = .ok (.iconst 1, 1) := dT_34.2.2.2.2.2.2.2.2.2.2.2.2.2.2.2.2.2.2.2.2.2.2.1
theorem dL_1463 : decode code 1463 = .ok (.iadd, 1) := dT_34.2.2.2.2.2.2.2.2.2.2.2.2.2.2.2.2.2.2.2.2.2.2.2
theorem dT_35 : (decode code 1464 = .ok (.iaload, 1)) ∧ (decode code 1465 = .ok (.invokevirtual 213, 3)) ∧ (decode code 1468 = .ok (.aload_n 2, 1)) ∧ (decode code 1469 = .ok (.aload_n 0, 1)) ∧ (decode code 1470 = .ok (.iload_n 3, 1)) ∧ (decode code 1471 = .ok (.iconst 1, 1)) ∧ (decode code 1472 = .ok (.iadd, 1)) ∧ (decode code 1473 = .ok (.iaload, 1)) ∧ (decode code 1474 = .ok (.invokevirtual 216, 3)) ∧ (decode code 1477 = .ok (.if_icmp .eq 805, 3)) ∧ (decode code 1480 = .ok (.iconst 0, 1)) ∧ (decode code 1481 = .ok (.ireturn, 1)) ∧ (decode code 1482 = .ok (.aload_n 1, 1)) ∧ (decode code 1483 = .ok (.aload_n 0, 1)) ∧ (decode code 1484 = .ok (.iload_n 3, 1)) ∧ (decode code 1485 = .ok (.iconst 1, 1)) ∧ (decode code 1486 = .ok (.iadd, 1)) ∧ (decode code 1487 = .ok (.iaload, 1)) ∧ (decode code 1488 = .ok (.invokevirtual 217, 3)) ∧ (decode code 1491 = .ok (.aload_n 2, 1)) ∧ (decode code 1492 = .ok (.aload_n 0, 1)) ∧ (decode code 1493 = .ok (.iload_n 3, 1)) ∧ (decode code 1494 = .ok (.iconst 1, 1)) ∧ (decode code 1495 = .ok (.iadd, 1)) := by decide +kernel
theorem dL_1464 : decode code 1464 = .ok (.iaload, 1) := dT_35.1
theorem dL_1465 : decode code 1465 = .ok (.invokevirtual 213, 3) := dT_35.2.1
theorem dL_1468 : decode code 1468 = .ok (.aload_n 2, 1) := dT_35.2.2.1
theorem dL_1469 : decode code 1469 = .ok (.aload_n 0, 1) := dT_35.2.2.2.1
theorem dL_1470 : decode code 1470 = .ok (.iload_n 3, 1) := dT_35.2.2.2.2.1
theorem dL_1471 : decode code 1471 = .ok (.iconst 1, 1) := dT_35.2.2.2.2.2.1
theorem dL_1472 : decode code 1472 = .ok (.iadd, 1) := dT_35.2.2.2.2.2.2.1
theorem dL_1473 : decode code 1473 = .ok (.iaload, 1) := dT_35.2.2.2.2.2.2.2.1
theorem dL_1474 : decode code 1474 = .ok (.invokevirtual 216, 3) := dT_35.2.2.2.2.2.2.2.2.1
theorem dL_1477 : decode code 1477 = .ok (.if_icmp .eq 805, 3) := dT_35.2.2.2.2.2.2.2.2.2.1
theorem dL_1480 : decode code 1480 = .ok (.iconst 0, 1) := dT_35.2.2.2.2.2.2.2.2.2.2.1
theorem dL_1481 : decode code 1481 = .ok (.ireturn, 1) := dT_35.2.2.2.2.2.2.2.2.2.2.2.1
theorem dL_1482 : decode code 1482 = .ok (.aload_n 1, 1) := dT_35.2.2.2.2.2.2.2.2.2.2.2.2.1
theorem dL_1483 : decode code 1483 = .ok (.aload_n 0, 1) := dT_35.2.2.2.2.2.2.2.2.2.2.2.2.2.1
theorem dL_1484 : decode code 1484 = .ok (.iload_n 3, 1) := dT_35.2.2.2.2.2.2.2.2.2.2.2.2.2.2.1
theorem dL_1485 : decode code 1485 = .ok (.iconst 1, 1) := dT_35.2.2.2.2.2.2.2.2.2.2.2.2.2.2.2.1
theorem dL_1486 : decode code 1486 = .ok (.iadd, 1) := dT_35.2.2.2.2.2.2.2.2.2.2.2.2.2.2.2.2.1
theorem dL_1487 : decode code 1487 = .ok (.iaload, 1) := dT_35.2.2.2.2.2.2.2.2.2.2.2.2.2.2.2.2.2.1
theorem dL_1488 : decode code 1488 = .ok (.invokevirtual 217, 3) := dT_35.2.2.2.2.2.2.2.2.2.2.2.2.2.2.2.2.2.2.1
theorem dL_1491 : decode code 1491 = .ok (.aload_n 2, 1) := dT_35.2.2.2.2.2.2.2.2.2.2.2.2.2.2.2.2.2.2.2.1
theorem dL_1492 : decode code 1492 = .ok (.aload_n 0, 1) := dT_35.2.2.2.2.2.2.2.2.2.2.2.2.2.2.2.2.2.2.2.2.1
theorem dL_1493 : decode code 1493 = .ok (.iload_n 3, 1) := dT_35.2.2.2.2.2.2.2.2.2.2.2.2.2.2.2.2.2.2.2.2.2.1
theorem dL_1494 : decode code 1494 = .ok (.iconst 1, 1) := dT_35.2.2.2.2.2.2.2.2.2.2.2.2.2.2.2.2.2.2.2.2.2.2.1
theorem dL_1495 : decode code 1495 = .ok (.iadd, 1) := dT_35.2.2.2.2.2.2.2.2.2.2.2.2.2.2.2.2.2.2.2.2.2.2.2
theorem dT_36 : (decode code 1496 = .ok (.iaload, 1)) ∧ (decode code 1497 = .ok (.invokevirtual 220, 3)) ∧ (decode code 1500 = .ok (.if_icmp .eq 782, 3)) ∧ (decode code 1503 = .ok (.iconst 0, 1)) ∧ (decode code 1504 = .ok (.ireturn, 1)) ∧ (decode code 1505 = .ok (.aload_n 1, 1)) ∧ (decode code 1506 = .ok (.aload_n 0, 1)) ∧ (decode code 1507 = .ok (.iload_n 3, 1)) ∧ (decode code 1508 = .ok (.iconst 1, 1)) ∧ (decode code 1509 = .ok (.iadd, 1)) ∧ (decode code 1510 = .ok (.iaload, 1)) ∧ (decode code 1511 = .ok (.invokevirtual 221, 3)) ∧ (decode code 1514 = .ok (.aload_n 2, 1)) ∧ (decode code 1515 = .ok (.aload_n 0, 1)) ∧ (decode code 1516 = .ok (.iload_n 3, 1)) ∧ (decode code 1517 = .ok (.iconst 1, 1)) ∧ (decode code 1518 = .ok (.iadd, 1)) ∧ (decode code 1519 = .ok (.iaload, 1)) ∧ (decode code 1520 = .ok (.invokevirtual 224, 3)) ∧ (decode code 1523 = .ok (.if_icmp .eq 759, 3)) ∧ (decode code 1526 = .ok (.iconst 0, 1)) ∧ (decode code 1527 = .ok (.ireturn, 1)) ∧ (decode code 1528 = .ok (.aload_n 1, 1)) ∧ (decode code 1529 = .ok (.aload_n 0, 1)) := by decide +kernel
theorem dL_1496 : decode code 1496 = .ok (.iaload, 1) := dT_36.1
theorem dL_1497 : decode code 1497 = .ok (.invokevirtual 220, 3) := dT_36.2.1
theorem dL_1500 : decode code 1500 = .ok (.if_icmp .eq 782, 3) := dT_36.2.2.1
theorem dL_1503 : decode code 1503 = .ok (.iconst 0, 1) := dT_36.2.2.2.1
theorem dL_1504 : decode code 1504 = .ok (.ireturn, 1) := dT_36.2.2.2.2.1
theorem dL_1505 : decode code 1505 = .ok (.aload_n 1, 1) := dT_36.2.2.2.2.2.1
theorem dL_1506 : decode code 1506 = .ok (.aload_n 0, 1) := dT_36.2.2.2.2.2.2.1
theorem dL_1507 : decode code 1507 = .ok (.iload_n 3, 1) := dT_36.2.2.2.2.2.2.2.1
theorem dL_1508 : decode code 1508 = .ok (.iconst 1, 1) := dT_36.2.2.2.2.2.2.2.2.1
theorem dL_1509 : decode code 1509 = .ok (.iadd, 1) := dT_36.2.2.2.2.2.2.2.2.2.1
theorem dL_1510 : decode code 1510 = .ok (.iaload, 1) := dT_36.2.2.2.2.2.2.2.2.2.2.1
theorem dL_1511 : decode code 1511 = .ok (.invokevirtual 221, 3) := dT_36.2.2.2.2.2.2.2.2.2.2.2.1
theorem dL_1514 : decode code 1514 = .ok (.aload_n 2, 1) := dT_36.2.2.2.2.2.2.2.2.2.2.2.2.1
theorem dL_1515 : decode code 1515 = .ok (.aload_n 0, 1) := dT_36.2.2.2.2.2.2.2.2.2.2.2.2.2.1
theorem dL_1516 : decode code 1516 = .ok (.iload_n 3, 1) := dT_36.2.2.2.2.2.2.2.2.2.2.2.2.2.2.1
theorem dL_1517 : decode code 1517 = .ok (.iconst 1, 1) := dT_36.2.2.2.2.2.2.2.2.2.2.2.2.2.2.2.1
theorem dL_1518 : decode code 1518 = .ok (.iadd, 1) := dT_36.2.2.2.2.2.2.2.2.2.2.2.2.2.2.2.2.1
theorem dL_1519 : decode code 1519 = .ok (.iaload, 1) := dT_36.2.2.2.2.2.2.2.2.2.2.2.2.2.2.2.2.2.1
theorem dL_1520 : decode code 1520 = .ok (.invokevirtual 224, 3) := dT_36.2.2.2.2.2.2.2.2.2.2.2.2.2.2.2.2.2.2.1
theorem dL_1523 : decode code 1523 = .ok (.if_icmp .eq 759, 3) := dT_36.2.2.2.2.2.2.2.2.2.2.2.2.2.2.2.2.2.2.2.1
theorem dL_1526 : decode code 1526 = .ok (.iconst 0, 1) := dT_36.2.2.2.2.2.2.2.2.2.2.2.2.2.2.2.2.2.2.2.2.1
theorem dL_1527 : decode code 1527 = .ok (.ireturn, 1) := dT_36.2.2.2.2.2.2.2.2.2.2.2.2.2.2.2.2.2.2.2.2.2.1
theorem dL_1528 : decode code 1528 = .ok (.aload_n 1, 1) := dT_36.2.2.2.2.2.2.2.2.2.2.2.2.2.2.2.2.2.2.2.2.2.2.1
theorem dL_1529 : decode code 1529 = .ok (.aload_n 0, 1) := dT_36.2.2.2.2.2.2.2.2.2.2.2.2.2.2.2.2.2.2.2.2.2.2.2
theorem dT_37 : (decode code 1530 = .ok (.iload_n 3, 1)) ∧ (decode code 1531 = .ok (.iconst 1, 1)) ∧ (decode code 1532 = .ok (.iadd, 1)) ∧ (decode code 1533 = .ok (.iaload, 1)) ∧ (decode code 1534 = .ok (.invokevirtual 225, 3)) ∧ (decode code 1537 = .ok (.aload_n 2, 1)) ∧ (decode code 1538 = .ok (.aload_n 0, 1)) ∧ (decode code 1539 = .ok (.iload_n 3, 1)) ∧ (decode code 1540 = .ok (.iconst 1, 1)) ∧ (decode code 1541 = .ok (.iadd, 1)) ∧ (decode code 1542 = .ok (.iaload, 1)) ∧ (decode code 1543 = .ok (.invokevirtual 228, 3)) ∧ (decode code 1546 = .ok (.if_icmp .eq 736, 3)) ∧ (decode code 1549 = .ok (.iconst 0, 1)) ∧ (decode code 1550 = .ok (.ireturn, 1)) ∧ (decode code 1551 = .ok (.aload_n 1, 1)) ∧ (decode code 1552 = .ok (.aload_n 0, 1)) ∧ (decode code 1553 = .ok (.iload_n 3, 1)) ∧ (decode code 1554 = .ok (.iconst 1, 1)) ∧ (decode code 1555 = .ok (.iadd, 1)) ∧ (decode code 1556 = .ok (.iaload, 1)) ∧ (decode code 1557 = .ok (.invokevirtual 229, 3)) ∧ (decode code 1560 = .ok (.aload_n 2, 1)) ∧ (decode code 1561 = .ok (.aload_n 0, 1)) := by decide +kernel
theorem dL_1530 : decode code 1530 = .ok (.iload_n 3, 1) := dT_37.1
theorem dL_1531 : decode code 1531 = .ok (.iconst 1, 1) := dT_37.2.1
theorem dL_1532 : decode code 1532 = .ok (.iadd, 1) := dT_37.2.2.1
theorem dL_1533 : decode code 1533 = .ok (.iaload, 1) := dT_37.2.2.2.1
theorem dL_1534 : decode code 1534 = .ok (.invokevirtual 225, 3) := dT_37.2.2.2.2.1
theorem dL_1537 : decode code 1537 = .ok (.aload_n 2, 1) := dT_37.2.2.2.2.2.1
theorem dL_1538 : decode code 1538 = .ok (.aload_n 0, 1) := dT_37.2.2.2.2.2.2.1
theorem dL_1539 : decode code 1539 = .ok (.iload_n 3, 1) := dT_37.2.2.2.2.2.2.2.1
theorem dL_1540 : decode code 1540 = .ok (.iconst 1, 1) := dT_37.2.2.2.2.2.2.2.2.1
theorem dL_1541 : decode code 1541 = .ok (.iadd, 1) := dT_37.2.2.2.2.2.2.2.2.2.1
theorem dL_1542 : decode code 1542 = .ok (.iaload, 1) := dT_37.2.2.2.2.2.2.2.2.2.2.1
theorem dL_1543 : decode code 1543 = .ok (.invokevirtual 228, 3) := dT_37.2.2.2.2.2.2.2.2.2.2.2.1
theorem dL_1546 : decode code 1546 = .ok (.if_icmp .eq 736, 3) := dT_37.2.2.2.2.2.2.2.2.2.2.2.2.1
theorem dL_1549 : decode code 1549 = .ok (.iconst 0, 1) := dT_37.2.2.2.2.2.2.2.2.2.2.2.2.2.1
theorem dL_1550 : decode code 1550 = .ok (.ireturn, 1) := dT_37.2.2.2.2.2.2.2.2.2.2.2.2.2.2.1
theorem dL_1551 : decode code 1551 = .ok (.aload_n 1, 1) := dT_37.2.2.2.2.2.2.2.2.2.2.2.2.2.2.2.1
theorem dL_1552 : decode code 1552 = .ok (.aload_n 0, 1) := dT_37.2.2.2.2.2.2.2.2.2.2.2.2.2.2.2.2.1
theorem dL_1553 : decode code 1553 = .ok (.iload_n 3, 1) := dT_37.2.2.2.2.2.2.2.2.2.2.2.2.2.2.2.2.2.1
theorem dL_1554 : decode code 1554 = .ok (.iconst 1, 1) := dT_37.2.2.2.2.2.2.2.2.2.2.2.2.2.2.2.2.2.2.1
theorem dL_1555 : decode code 1555 = .ok (.iadd, 1) := dT_37.2.2.2.2.2.2.2.2.2.2.2.2.2.2.2.2.2.2.2.1
theorem dL_1556 : decode code 1556 = .ok (.iaload, 1) := dT_37.2.2.2.2.2.2.2.2.2.2.2.2.2.2.2.2.2.2.2.2.1
theorem dL_1557 : decode code 1557 = .ok (.invokevirtual 229, 3) := dT_37.2.2.2.2.2.2.2.2.2.2.2.2.2.2.2.2.2.2.2.2.2.1
theorem dL_1560 : decode code 1560 = .ok (.aload_n 2, 1) := dT_37.2.2.2.2.2.2.2.2.2.2.2.2.2.2.2.2.2.2.2.2.2.2.1
theorem dL_1561 : decode code 1561 = .ok (.aload_n 0, 1) := dT_37.2.2.2.2.2.2.2.2.2.2.2.2.2.2.2.2.2.2.2.2.2.2.2
theorem dT_38 : (decode code 1562 = .ok (.iload_n 3, 1)) ∧ (decode code 1563 = .ok (.iconst 1, 1)) ∧ (decode code 1564 = .ok (.iadd, 1)) ∧ (decode code 1565 = .ok (.iaload, 1)) ∧ (decode code 1566 = .ok (.invokevirtual 232, 3)) ∧ (decode code 1569 = .ok (.if_icmp .eq 713, 3)) ∧ (decode code 1572 = .ok (.iconst 0, 1)) ∧ (decode code 1573 = .ok (.ireturn, 1)) ∧ (decode code 1574 = .ok (.aload_n 1, 1)) ∧ (decode code 1575 = .ok (.aload_n 0, 1)) ∧ (decode code 1576 = .ok (.iload_n 3, 1)) ∧ (decode code 1577 = .ok (.iconst 1, 1)) ∧ (decode code 1578 = .ok (.iadd, 1)) ∧ (decode code 1579 = .ok (.iaload, 1)) ∧ (decode code 1580 = .ok (.invokevirtual 233, 3)) ∧ (decode code 1583 = .ok (.aload_n 2, 1)) ∧ (decode code 1584 = .ok (.aload_n 0, 1)) ∧ (decode code 1585 = .ok (.iload_n 3, 1)) ∧ (decode code 1586 = .ok (.iconst 1, 1)) ∧ (decode code 1587 = .ok (.iadd, 1)) ∧ (decode code 1588 = .ok (.iaload, 1)) ∧ (decode code 1589 = .ok (.invokevirtual 236, 3)) ∧ (decode code 1592 = .ok (.if_icmp .eq 690, 3)) ∧ (decode code 1595 = .ok (.iconst 0, 1)) := by decide +kernel
theorem dL_1562 : decode code 1562 = .ok (.iload_n 3, 1) := dT_38.1
theorem dL_1563 : decode code 1563 = .ok (.iconst 1, 1) := dT_38.2.1
theorem dL_1564 : decode code 1564 = .ok (.iadd, 1) := dT_38.2.2.1
theorem dL_1565 : decode code 1565 = .ok (.iaload, 1) := dT_38.2.2.2.1
theorem dL_1566 : decode code 1566 = .ok (.invokevirtual 232, 3) := dT_38.2.2.2.2.1
theorem dL_1569 : decode code 1569 = .ok (.if_icmp .eq 713, 3) := dT_38.2.2.2.2.2.1
theorem dL_1572 : decode code 1572 = .ok (.iconst 0, 1) := dT_38.2.2.2.2.2.2.1
theorem dL_1573 : decode code 1573 = .ok (.ireturn, 1) := dT_38.2.2.2.2.2.2.2.1
theorem dL_1574 : decode code 1574 = .ok (.aload_n 1, 1) := dT_38.2.2.2.2.2.2.2.2.1
theorem dL_1575 : decode code 1575 = .ok (.aload_n 0, 1) := dT_38.2.2.2.2.2.2.2.2.2.1
theorem dL_1576 : decode code 1576 = .ok (.iload_n 3, 1) := dT_38.2.2.2.2.2.2.2.2.2.2.1
theorem dL_1577 : decode code 1577 = .ok (.iconst 1, 1) := dT_38.2.2.2.2.2.2.2.2.2.2.2.1
theorem dL_1578 : decode code 1578 = .ok (.iadd, 1) := dT_38.2.2.2.2.2.2.2.2.2.2.2.2.1
theorem dL_1579 : decode code 1579 = .ok (.iaload, 1) := dT_38.2.2.2.2.2.2.2.2.2.2.2.2.2.1
theorem dL_1580 : decode code 1580 = .ok (.invokevirtual 233, 3) := dT_38.2.2.2.2.2.2.2.2.2.2.2.2.2.2.1
theorem dL_1583 : decode code 1583 = .ok (.aload_n 2, 1) := dT_38.2.2.2.2.2.2.2.2.2.2.2.2.2.2.2.1
theorem dL_1584 : decode code 1584 = .ok (.aload_n 0, 1) := dT_38.2.2.2.2.2.2.2.2.2.2.2.2.2.2.2.2.1
theorem dL_1585 : decode code 1585 = .ok (.iload_n 3, 1) := dT_38.2.2.2.2.2.2.2.2.2.2.2.2.2.2.2.2.2.1
theorem dL_1586 : decode code 1586 = .ok (.iconst 1, 1) := dT_38.2.2.2.2.2.2.2.2.2.2.2.2.2.2.2.2.2.2.1
theorem dL_1587 : decode code 1587 = .ok (.iadd, 1) := dT_38.2.2.2.2.2.2.2.2.2.2.2.2.2.2.2.2.2.2.2.1
theorem dL_1588 : decode code 1588 = .ok (.iaload, 1) := dT_38.2.2.2.2.2.2.2.2.2.2.2.2.2.2.2.2.2.2.2.2.1
theorem dL_1589 : decode code 1589 = .ok (.invokevirtual 236, 3) := dT_38.2.2.2.2.2.2.2.2.2.2.2.2.2.2.2.2.2.2.2.2.2.1
theorem dL_1592 : decode code 1592 = .ok (.if_icmp .eq 690, 3) := dT_38.2.2.2.2.2.2.2.2.2.2.2.2.2.2.2.2.2.2.2.2.2.2.1
theorem dL_1595 : decode code 1595 = .ok (.iconst 0, 1) := dT_38.2.2.2.2.2.2.2.2.2.2.2.2.2.2.2.2.2.2.2.2.2.2.2
theorem dT_39 : (decode code 1596 = .ok (.ireturn, 1)) ∧ (decode code 1597 = .ok (.aload_n 1, 1)) ∧ (decode code 1598 = .ok (.aload_n 0, 1)) ∧ (decode code 1599 = .ok (.iload_n 3, 1)) ∧ (decode code 1600 = .ok (.iconst 1, 1)) ∧ (decode code 1601 = .ok (.iadd, 1)) ∧ (decode code 1602 = .ok (.iaload, 1)) ∧ (decode code 1603 = .ok (.invokevirtual 237, 3)) ∧ (decode code 1606 = .ok (.aload_n 2, 1)) ∧ (decode code 1607 = .ok (.aload_n 0, 1)) ∧ (decode code 1608 = .ok (.iload_n 3, 1)) ∧ (decode code 1609 = .ok (.iconst 1, 1)) ∧ (decode code 1610 = .ok (.iadd, 1)) ∧ (decode code 1611 = .ok (.iaload, 1)) ∧ (decode code 1612 = .ok (.invokevirtual 240, 3)) ∧ (decode code 1615 = .ok (.if_icmp .eq 667, 3)) ∧ (decode code 1618 = .ok (.iconst 0, 1)) ∧ (decode code 1619 = .ok (.ireturn, 1)) ∧ (decode code 1620 = .ok (.aload_n 1, 1)) ∧ (decode code 1621 = .ok (.aload_n 0, 1)) ∧ (decode code 1622 = .ok (.iload_n 3, 1)) ∧ (decode code 1623 = .ok (.iconst 1, 1)) ∧ (decode code 1624 = .ok (.iadd, 1)) ∧ (decode code 1625 = .ok (.iaload, 1)) := by decide +kernel
theorem dL_1596 : decode code 1596 = .ok (.ireturn, 1) := dT_39.1
theorem dL_1597 : decode code 1597 = .ok (.aload_n 1, 1) := dT_39.2.1
theorem dL_1598 : decode code 1598 = .ok (.aload_n 0, 1) := dT_39.2.2.1
theorem dL_1599 : decode code 1599 = .ok (.iload_n 3, 1) := dT_39.2.2.2.1
theorem dL_1600 : decode code 1600 = .ok (.iconst 1, 1) := dT_39.2.2.2.2.1
theorem dL_1601 : decode code 1601 = .ok (.iadd, 1) := dT_39.2.2.2.2.2.1
theorem dL_1602 : decode code 1602 = .ok (.iaload, 1) := dT_39.2.2.2.2.2.2.1
theorem dL_1603 : decode code 1603 = .ok (.invokevirtual 237, 3) := dT_39.2.2.2.2.2.2.2.1
theorem dL_1606 : decode code 1606 = .ok (.aload_n 2, 1) := dT_39.2.2.2.2.2.2.2.2.1
theorem dL_1607 : decode code 1607 = .ok (.aload_n 0, 1) := dT_39.2.2.2.2.2.2.2.2.2.1
theorem dL_1608 : decode code 1608 = .ok (.iload_n 3, 1) := dT_39.2.2.2.2.2.2.2.2.2.2.1
theorem dL_1609 : decode code 1609 = .ok (.iconst 1, 1) := dT_39.2.2.2.2.2.2.2.2.2.2.2.1
theorem dL_1610 : decode code 1610 = .ok (.iadd, 1) := dT_39.2.2.2.2.2.2.2.2.2.2.2.2.1
theorem dL_1611 : decode code 1611 = .ok (.iaload, 1) := dT_39.2.2.2.2.2.2.2.2.2.2.2.2.2.1
theorem dL_1612 : decode code 1612 = .ok (.invokevirtual 240, 3) := dT_39.2.2.2.2.2.2.2.2.2.2.2.2.2.2.1
theorem dL_1615 : decode code 1615 = .ok (.if_icmp .eq 667, 3) := dT_39.2.2.2.2.2.2.2.2.2.2.2.2.2.2.2.1
theorem dL_1618 : decode code 1618 = .ok (.iconst 0, 1) := dT_39.2.2.2.2.2.2.2.2.2.2.2.2.2.2.2.2.1
theorem dL_1619 : decode code 1619 = .ok (.ireturn, 1) := dT_39.2.2.2.2.2.2.2.2.2.2.2.2.2.2.2.2.2.1
theorem dL_1620 : decode code 1620 = .ok (.aload_n 1, 1) := dT_39.2.2.2.2.2.2.2.2.2.2.2.2.2.2.2.2.2.2.1
theorem dL_1621 : decode code 1621 = .ok (.aload_n 0, 1) := dT_39.2.2.2.2.2.2.2.2.2.2.2.2.2.2.2.2.2.2.2.1
theorem dL_1622 : decode code 1622 = .ok (.iload_n 3, 1) := dT_39.2.2.2.2.2.2.2.2.2.2.2.2.2.2.2.2.2.2.2.2.1
theorem dL_1623 : decode code 1623 = .ok (.iconst 1, 1) := dT_39.2.2.2.2.2.2.2.2.2.2.2.2.2.2.2.2.2.2.2.2.2.1
theorem dL_1624 : decode code 1624 = .ok (.iadd, 1) := dT_39.2.2.2.2.2.2.2.2.2.2.2.2.2.2.2.2.2.2.2.2.2.2.1
theorem dL_1625 : decode code 1625 = .ok (.iaload, 1) := dT_39.2.2.2.2.2.2.2.2.2.2.2.2.2.2.2.2.2.2.2.2.2.2.2
theorem dT_40 : (decode code 1626 = .ok (.aload_n 0, 1)) ∧ (decode code 1627 = .ok (.iload_n 3, 1)) ∧ (decode code 1628 = .ok (.iconst 2, 1)) ∧ (decode code 1629 = .ok (.iadd, 1)) ∧ (decode code 1630 = .ok (.iaload, 1)) ∧ (decode code 1631 = .ok (.aload_n 0, 1)) ∧ (decode code 1632 = .ok (.iload_n 3, 1)) ∧ (decode code 1633 = .ok (.iconst 3, 1)) ∧ (decode code 1634 = .ok (.iadd, 1)) ∧ (decode code 1635 = .ok (.iaload, 1)) ∧ (decode code 1636 = .ok (.invokevirtual 241, 3)) ∧ (decode code 1639 = .ok (.aload_n 2, 1)) ∧ (decode code 1640 = .ok (.aload_n 0, 1)) ∧ (decode code 1641 = .ok (.iload_n 3, 1)) ∧ (decode code 1642 = .ok (.iconst 1, 1)) ∧ (decode code 1643 = .ok (.iadd, 1)) ∧ (decode code 1644 = .ok (.iaload, 1)) ∧ (decode code 1645 = .ok (.aload_n 0, 1)) ∧ (decode code 1646 = .ok (.iload_n 3, 1)) ∧ (decode code 1647 = .ok (.iconst 2, 1)) ∧ (decode code 1648 = .ok (.iadd, 1)) ∧ (decode code 1649 = .ok (.iaload, 1)) ∧ (decode code 1650 = .ok (.aload_n 0, 1)) ∧ (decode code 1651 = .ok (.iload_n 3, 1)) := by decide +kernel
theorem dL_1626 : decode code 1626 = .ok (.aload_n 0, 1) := dT_40.1
theorem dL_1627 : decode code 1627 = .ok (.iload_n 3, 1) := dT_40.2.1
theorem dL_1628 : decode code 1628 = .ok (.iconst 2, 1) := dT_40.2.2.1
theorem dL_1629 : decode code 1629 = .ok (.iadd, 1) := dT_40.2.2.2.1
theorem dL_1630 : decode code 1630 = .ok (.iaload, 1) := dT_40.2.2.2.2.1
theorem dL_1631 : decode code 1631 = .ok (.aload_n 0, 1) := dT_40.2.2.2.2.2.1
theorem dL_1632 : decode code 1632 = .ok (.iload_n 3, 1) := dT_40.2.2.2.2.2.2.1
theorem dL_1633 : decode code 1633 = .ok (.iconst 3, 1) := dT_40.2.2.2.2.2.2.2.1
theorem dL_1634 : decode code 1634 = .ok (.iadd, 1) := dT_40.2.2.2.2.2.2.2.2.1
theorem dL_1635 : decode code 1635 = .ok (.iaload, 1) := dT_40.2.2.2.2.2.2.2.2.2.1
theorem dL_1636 : decode code 1636 = .ok (.invokevirtual 241, 3) := dT_40.2.2.2.2.2.2.2.2.2.2.1
theorem dL_1639 : decode code 1639 = .ok (.aload_n 2, 1) := dT_40.2.2.2.2.2.2.2.2.2.2.2.1
theorem dL_1640 : decode code 1640 = .ok (.aload_n 0, 1) := dT_40.2.2.2.2.2.2.2.2.2.2.2.2.1
theorem dL_1641 : decode code 1641 = .ok (.iload_n 3, 1) := dT_40.2.2.2.2.2.2.2.2.2.2.2.2.2.1
theorem dL_1642 : decode code 1642 = .ok (.iconst 1, 1) := dT_40.2.2.2.2.2.2.2.2.2.2.2.2.2.2.1
theorem dL_1643 : decode code 1643 = .ok (.iadd, 1) := dT_40.2.2.2.2.2.2.2.2.2.2.2.2.2.2.2.1
theorem dL_1644 : decode code 1644 = .ok (.iaload, 1) := dT_40.2.2.2.2.2.2.2.2.2.2.2.2.2.2.2.2.1
theorem dL_1645 : decode code 1645 = .ok (.aload_n 0, 1) := dT_40.2.2.2.2.2.2.2.2.2.2.2.2.2.2.2.2.2.1
theorem dL_1646 : decode code 1646 = .ok (.iload_n 3, 1) := dT_40.2.2.2.2.2.2.2.2.2.2.2.2.2.2.2.2.2.2.1
theorem dL_1647 : decode code 1647 = .ok (.iconst 2, 1) := dT_40.2.2.2.2.2.2.2.2.2.2.2.2.2.2.2.2.2.2.2.1
theorem dL_1648 : decode code 1648 = .ok (.iadd, 1) := dT_40.2.2.2.2.2.2.2.2.2.2.2.2.2.2.2.2.2.2.2.2.1
theorem dL_1649 : decode code 1649 = .ok (.iaload, 1) := dT_40.2.2.2.2.2.2.2.2.2.2.2.2.2.2.2.2.2.2.2.2.2.1
theorem dL_1650 : decode code 1650 = .ok (.aload_n 0, 1) := dT_40.2.2.2.2.2.2.2.2.2.2.2.2.2.2.2.2.2.2.2.2.2.2.1
theorem dL_1651 : decode code 1651 = .ok (.iload_n 3, 1) := dT_40.2.2.2.2.2.2.2.2.2.2.2.2.2.2.2.2.2.2.2.2.2.2.2
theorem dT_41 : (decode code 1652 = .ok (.iconst 3, 1)) ∧ (decode code 1653 = .ok (.iadd, 1)) ∧ (decode code 1654 = .ok (.iaload, 1)) ∧ (decode code 1655 = .ok (.invokevirtual 245, 3)) ∧ (decode code 1658 = .ok (.if_icmp .eq 624, 3)) ∧ (decode code 1661 = .ok (.iconst 0, 1)) ∧ (decode code 1662 = .ok (.ireturn, 1)) ∧ (decode code 1663 = .ok (.aload_n 1, 1)) ∧ (decode code 1664 = .ok (.aload_n 0, 1)) ∧ (decode code 1665 = .ok (.iload_n 3, 1)) ∧ (decode code 1666 = .ok (.iconst 1, 1)) ∧ (decode code 1667 = .ok (.iadd, 1)) ∧ (decode code 1668 = .ok (.iaload, 1)) ∧ (decode code 1669 = .ok (.aload_n 0, 1)) ∧ (decode code 1670 = .ok (.iload_n 3, 1)) ∧ (decode code 1671 = .ok (.iconst 2, 1)) ∧ (decode code 1672 = .ok (.iadd, 1)) ∧ (decode code 1673 = .ok (.iaload, 1)) ∧ (decode code 1674 = .ok (.invokevirtual 246, 3)) ∧ (decode code 1677 = .ok (.aload_n 2, 1)) ∧ (decode code 1678 = .ok (.aload_n 0, 1)) ∧ (decode code 1679 = .ok (.iload_n 3, 1)) ∧ (decode code 1680 = .ok (.iconst 1, 1)) ∧ (decode code 1681 = .ok (.iadd, 1)) := by decide +kernel
theorem dL_1652 : decode code 1652 = .ok (.iconst 3, 1) := dT_41.1
theorem dL_1653 : decode code 1653 = .ok (.iadd, 1) := dT_41.2.1
theorem dL_1654 : decode code 1654 = .ok (.iaload, 1) := dT_41.2.2.1
theorem dL_1655 : decode code 1655 = .ok (.invokevirtual 245, 3) := dT_41.2.2.2.1
theorem dL_1658 : decode code 1658 = .ok (.if_icmp .eq 624, 3) := dT_41.2.2.2.2.1
theorem dL_1661 : decode code 1661 = .ok (.iconst 0, 1) := dT_41.2.2.2.2.2.1
theorem dL_1662 : decode code 1662 = .ok (.ireturn, 1) := dT_41.2.2.2.2.2.2.1
theorem dL_1663 : decode code 1663 = .ok (.aload_n 1, 1) := dT_41.2.2.2.2.2.2.2.1
theorem dL_1664 : decode code 1664 = .ok (.aload_n 0, 1) := dT_41.2.2.2.2.2.2.2.2.1
theorem dL_1665 : decode code 1665 = .ok (.iload_n 3, 1) := dT_41.2.2.2.2.2.2.2.2.2.1
theorem dL_1666 : decode code 1666 = .ok (.iconst 1, 1) := dT_41.2.2.2.2.2.2.2.2.2.2.1
theorem dL_1667 : decode code 1667 = .ok (.iadd, 1) := dT_41.2.2.2.2.2.2.2.2.2.2.2.1
theorem dL_1668 : decode code 1668 = .ok (.iaload, 1) := dT_41.2.2.2.2.2.2.2.2.2.2.2.2.1
theorem dL_1669 : decode code 1669 = .ok (.aload_n 0, 1) := dT_41.2.2.2.2.2.2.2.2.2.2.2.2.2.1
theorem dL_1670 : decode code 1670 = .ok (.iload_n 3, 1) := dT_41.2.2.2.2.2.2.2.2.2.2.2.2.2.2.1
theorem dL_1671 : decode code 1671 = .ok (.iconst 2, 1) := dT_41.2.2.2.2.2.2.2.2.2.2.2.2.2.2.2.1
theorem dL_1672 : decode code 1672 = .ok (.iadd, 1) := dT_41.2.2.2.2.2.2.2.2.2.2.2.2.2.2.2.2.1
theorem dL_1673 : decode code 1673 = .ok (.iaload, 1) := dT_41.2.2.2.2.2.2.2.2.2.2.2.2.2.2.2.2.2.1
theorem dL_1674 : decode code 1674 = .ok (.invokevirtual 246, 3) := dT_41.2.2.2.2.2.2.2.2.2.2.2.2.2.2.2.2.2.2.1
theorem dL_1677 : decode code 1677 = .ok (.aload_n 2, 1) := dT_41.2.2.2.2.2.2.2.2.2.2.2.2.2.2.2.2.2.2.2.1
theorem dL_1678 : decode code 1678 = .ok (.aload_n 0, 1) := dT_41.2.2.2.2.2.2.2.2.2.2.2.2.2.2.2.2.2.2.2.2.1
theorem dL_1679 : decode code 1679 = .ok (.iload_n 3, 1) := dT_41.2.2.2.2.2.2.2.2.2.2.2.2.2.2.2.2.2.2.2.2.2.1
theorem dL_1680 : decode code 1680 = .ok (.iconst 1, 1) := dT_41.2.2.2.2.2.2.2.2.2.2.2.2.2.2.2.2.2.2.2.2.2.2.1
theorem dL_1681 : decode code 1681 = .ok (.iadd, 1) := dT_41.2.2.2.2.2.2.2.2.2.2.2.2.2.2.2.2.2.2.2.2.2.2.2
theorem dT_42 : (decode code 1682 = .ok (.iaload, 1)) ∧ (decode code 1683 = .ok (.aload_n 0, 1)) ∧ (decode code 1684 = .ok (.iload_n 3, 1)) ∧ (decode code 1685 = .ok (.iconst 2, 1)) ∧ (decode code 1686 = .ok (.iadd, 1)) ∧ (decode code 1687 = .ok (.iaload, 1)) ∧ (decode code 1688 = .ok (.invokevirtual 250, 3)) ∧ (decode code 1691 = .ok (.lcmp, 1)) ∧ (decode code 1692 = .ok (.ifCond .eq 590, 3)) ∧ (decode code 1695 = .ok (.iconst 0, 1)) ∧ (decode code 1696 = .ok (.ireturn, 1)) ∧ (decode code 1697 = .ok (.aload_n 1, 1)) ∧ (decode code 1698 = .ok (.aload_n 0, 1)) ∧ (decode code 1699 = .ok (.iload_n 3, 1)) ∧ (decode code 1700 = .ok (.iconst 1, 1)) ∧ (decode code 1701 = .ok (.iadd, 1)) ∧ (decode code 1702 = .ok (.iaload, 1)) ∧ (decode code 1703 = .ok (.aload_n 0, 1)) ∧ (decode code 1704 = .ok (.iload_n 3, 1)) ∧ (decode code 1705 = .ok (.iconst 2, 1)) ∧ (decode code 1706 = .ok (.iadd, 1)) ∧ (decode code 1707 = .ok (.iaload, 1)) ∧ (decode code 1708 = .ok (.aload_n 0, 1)) ∧ (decode code 1709 = .ok (.iload_n 3, 1)) := by decide +kernel
theorem dL_1682 : decode code 1682 = .ok (.iaload, 1) := dT_42.1
theorem dL_1683 : decode code 1683 = .ok (.aload_n 0, 1) := dT_42.2.1
theorem dL_1684 : decode code 1684 = .ok (.iload_n 3, 1) := dT_42.2.2.1
theorem dL_1685 : decode code 1685 = .ok (.iconst 2, 1) := dT_42.2.2.2.1
theorem dL_1686 : decode code 1686 = .ok (.iadd, 1) := dT_42.2.2.2.2.1
theorem dL_1687 : decode code 1687 = .ok (.iaload, 1) := dT_42.2.2.2.2.2.1
theorem dL_1688 : decode code 1688 = .ok (.invokevirtual 250, 3) := dT_42.2.2.2.2.2.2.1
theorem dL_1691 : decode code 1691 = .ok (.lcmp, 1) := dT_42.2.2.2.2.2.2.2.1
theorem dL_1692 : decode code 1692 = .ok (.ifCond .eq 590, 3) := dT_42.2.2.2.2.2.2.2.2.1
theorem dL_1695 : decode code 1695 = .ok (.iconst 0, 1) := dT_42.2.2.2.2.2.2.2.2.2.1
theorem dL_1696 : decode code 1696 = .ok (.ireturn, 1) := dT_42.2.2.2.2.2.2.2.2.2.2.1
theorem dL_1697 : decode code 1697 = .ok (.aload_n 1, 1) := dT_42.2.2.2.2.2.2.2.2.2.2.2.1
theorem dL_1698 : decode code 1698 = .ok (.aload_n 0, 1) := dT_42.2.2.2.2.2.2.2.2.2.2.2.2.1
theorem dL_1699 : decode code 1699 = .ok (.iload_n 3, 1) := dT_42.2.2.2.2.2.2.2.2.2.2.2.2.2.1
theorem dL_1700 : decode code 1700 = .ok (.iconst 1, 1) := dT_42.2.2.2.2.2.2.2.2.2.2.2.2.2.2.1
theorem dL_1701 : decode code 1701 = .ok (.iadd, 1) := dT_42.2.2.2.2.2.2.2.2.2.2.2.2.2.2.2.1
theorem dL_1702 : decode code 1702 = .ok (.iaload, 1) := dT_42.2.2.2.2.2.2.2.2.2.2.2.2.2.2.2.2.1
theorem dL_1703 : decode code 1703 = .ok (.aload_n 0, 1) := dT_42.2.2.2.2.2.2.2.2.2.2.2.2.2.2.2.2.2.1
theorem dL_1704 : decode code 1704 = .ok (.iload_n 3, 1) := dT_42.2.2.2.2.2.2.2.2.2.2.2.2.2.2.2.2.2.2.1
theorem dL_1705 : decode code 1705 = .ok (.iconst 2, 1) := dT_42.2.2.2.2.2.2.2.2.2.2.2.2.2.2.2.2.2.2.2.1
theorem dL_1706 : decode code 1706 = .ok (.iadd, 1) := dT_42.2.2.2.2.2.2.2.2.2.2.2.2.2.2.2.2.2.2.2.2.1
theorem dL_1707 : decode code 1707 = .ok (.iaload, 1) := dT_42.2.2.2.2.2.2.2.2.2.2.2.2.2.2.2.2.2.2.2.2.2.1
theorem dL_1708 : decode code 1708 = .ok (.aload_n 0, 1) := dT_42.2.2.2.2.2.2.2.2.2.2.2.2.2.2.2.2.2.2.2.2.2.2.1
theorem dL_1709 : decode code 1709 = .ok (.iload_n 3, 1) := dT_42.2.2.2.2.2.2.2.2.2.2.2.2.2.2.2.2.2.2.2.2.2.2.2
theorem dT_43 : (decode code 1710 = .ok (.iconst 3, 1)) ∧ (decode code 1711 = .ok (.iadd, 1)) ∧ (decode code 1712 = .ok (.iaload, 1)) ∧ (decode code 1713 = .ok (.invokevirtual 251, 3)) ∧ (decode code 1716 = .ok (.aload_n 2, 1)) ∧ (decode code 1717 = .ok (.aload_n 0, 1)) ∧ (decode code 1718 = .ok (.iload_n 3, 1)) ∧ (decode code 1719 = .ok (.iconst 1, 1)) ∧ (decode code 1720 = .ok (.iadd, 1)) ∧ (decode code 1721 = .ok (.iaload, 1)) ∧ (decode code 1722 = .ok (.aload_n 0, 1)) ∧ (decode code 1723 = .ok (.iload_n 3, 1)) ∧ (decode code 1724 = .ok (.iconst 2, 1)) ∧ (decode code 1725 = .ok (.iadd, 1)) ∧ (decode code 1726 = .ok (.iaload, 1)) ∧ (decode code 1727 = .ok (.aload_n 0, 1)) ∧ (decode code 1728 = .ok (.iload_n 3, 1)) ∧ (decode code 1729 = .ok (.iconst 3, 1)) ∧ (decode code 1730 = .ok (.iadd, 1)) ∧ (decode code 1731 = .ok (.iaload, 1)) ∧ (decode code 1732 = .ok (.invokevirtual 254, 3)) ∧ (decode code 1735 = .ok (.if_icmp .eq 547, 3)) ∧ (decode code 1738 = .ok (.iconst 0, 1)) ∧ (decode code 1739 = .ok (.ireturn, 1)) := by decide +kernel
theorem dL_1710 : decode code 1710 = .ok (.iconst 3, 1) := dT_43.1
theorem dL_1711 : decode code 1711 = .ok (.iadd, 1) := dT_43.2.1
theorem dL_1712 : decode code 1712 = .ok (.iaload, 1) := dT_43.2.2.1
theorem dL_1713 : decode code 1713 = .ok (.invokevirtual 251, 3) := dT_43.2.2.2.1
theorem dL_1716 : decode code 1716 = .ok (.aload_n 2, 1) := dT_43.2.2.2.2.1
theorem dL_1717 : decode code 1717 = .ok (.aload_n 0, 1) := dT_43.2.2.2.2.2.1
theorem dL_1718 : decode code 1718 = .ok (.iload_n 3, 1) := dT_43.2.2.2.2.2.2.1
theorem dL_1719 : decode code 1719 = .ok (.iconst 1, 1) := dT_43.2.2.2.2.2.2.2.1
theorem dL_1720 : decode code 1720 = .ok (.iadd, 1) := dT_43.2.2.2.2.2.2.2.2.1
theorem dL_1721 : decode code 1721 = .ok (.iaload, 1) := dT_43.2.2.2.2.2.2.2.2.2.1
theorem dL_1722 : decode code 1722 = .ok (.aload_n 0, 1) := dT_43.2.2.2.2.2.2.2.2.2.2.1
theorem dL_1723 : decode code 1723 = .ok (.iload_n 3, 1) := dT_43.2.2.2.2.2.2.2.2.2.2.2.1
theorem dL_1724 : decode code 1724 = .ok (.iconst 2, 1) := dT_43.2.2.2.2.2.2.2.2.2.2.2.2.1
theorem dL_1725 : decode code 1725 = .ok (.iadd, 1) := dT_43.2.2.2.2.2.2.2.2.2.2.2.2.2.1
theorem dL_1726 : decode code 1726 = .ok (.iaload, 1) := dT_43.2.2.2.2.2.2.2.2.2.2.2.2.2.2.1
theorem dL_1727 : decode code 1727 = .ok (.aload_n 0, 1) := dT_43.2.2.2.2.2.2.2.2.2.2.2.2.2.2.2.1
theorem dL_1728 : decode code 1728 = .ok (.iload_n 3, 1) := dT_43.2.2.2.2.2.2.2.2.2.2.2.2.2.2.2.2.1
theorem dL_1729 : decode code 1729 = .ok (.iconst 3, 1) := dT_43.2.2.2.2.2.2.2.2.2.2.2.2.2.2.2.2.2.1
theorem dL_1730 : decode code 1730 = .ok (.iadd, 1) := dT_43.2.2.2.2.2.2.2.2.2.2.2.2.2.2.2.2.2.2.1
theorem dL_1731 : decode code 1731 = .ok (.iaload, 1) := dT_43.2.2.2.2.2.2.2.2.2.2.2.2.2.2.2.2.2.2.2.1
theorem dL_1732 : decode code 1732 = .ok (.invokevirtual 254, 3) := dT_43.2.2.2.2.2.2.2.2.2.2.2.2.2.2.2.2.2.2.2.2.1
theorem dL_1735 : decode code 1735 = .ok (.if_icmp .eq 547, 3) := dT_43.2.2.2.2.2.2.2.2.2.2.2.2.2.2.2.2.2.2.2.2.2.1
theorem dL_1738 : decode code 1738 = .ok (.iconst 0, 1) := dT_43.2.2.2.2.2.2.2.2.2.2.2.2.2.2.2.2.2.2.2.2.2.2.1
theorem dL_1739 : decode code 1739 = .ok (.ireturn, 1) := dT_43.2.2.2.2.2.2.2.2.2.2.2.2.2.2.2.2.2.2.2.2.2.2.2
theorem dT_44 : (decode code 1740 = .ok (.aload_n 1, 1)) ∧ (decode code 1741 = .ok (.aload_n 0, 1)) ∧ (decode code 1742 = .ok (.iload_n 3, 1)) ∧ (decode code 1743 = .ok (.iconst 1, 1)) ∧ (decode code 1744 = .ok (.iadd, 1)) ∧ (decode code 1745 = .ok (.iaload, 1)) ∧ (decode code 1746 = .ok (.invokevirtual 255, 3)) ∧ (decode code 1749 = .ok (.aload_n 2, 1)) ∧ (decode code 1750 = .ok (.aload_n 0, 1)) ∧ (decode code 1751 = .ok (.iload_n 3, 1)) ∧ (decode code 1752 = .ok (.iconst 1, 1)) ∧ (decode code 1753 = .ok (.iadd, 1)) ∧ (decode code 1754 = .ok (.iaload, 1)) ∧ (decode code 1755 = .ok (.invokevirtual 258, 3)) ∧ (decode code 1758 = .ok (.if_icmp .eq 524, 3)) ∧ (decode code 1761 = .ok (.iconst 0, 1)) ∧ (decode code 1762 = .ok (.ireturn, 1)) ∧ (decode code 1763 = .ok (.aload_n 1, 1)) ∧ (decode code 1764 = .ok (.aload_n 0, 1)) ∧ (decode code 1765 = .ok (.iload_n 3, 1)) ∧ (decode code 1766 = .ok (.iconst 1, 1)) ∧ (decode code 1767 = .ok (.iadd, 1)) ∧ (decode code 1768 = .ok (.iaload, 1)) ∧ (decode code 1769 = .ok (.aload_n 0, 1)) := by decide +kernel
theorem dL_1740 : decode code 1740 = .ok (.aload_n 1, 1) := dT_44.1
theorem dL_1741 : decode code 1741 = .ok (.aload_n 0, 1) := dT_44.2.1
theorem dL_1742 : decode code 1742 = .ok (.iload_n 3, 1) := dT_44.2.2.1
theorem dL_1743 : decode code 1743 = .ok (.iconst 1, 1) := dT_44.2.2.2.1
theorem dL_1744 : decode code 1744 = .ok (.iadd, 1) := dT_44.2.2.2.2.1
theorem dL_1745 : decode code 1745 = .ok (.iaload, 1) := dT_44.2.2.2.2.2.1
theorem dL_1746 : decode code 1746 = .ok (.invokevirtual 255, 3) := dT_44.2.2.2.2.2.2.1
theorem dL_1749 : decode code 1749 = .ok (.aload_n 2, 1) := dT_44.2.2.2.2.2.2.2.1
theorem dL_1750 : decode code 1750 = .ok (.aload_n 0, 1) := dT_44.2.2.2.2.2.2.2.2.1
theorem dL_1751 : decode code 1751 = .ok (.iload_n 3, 1) := dT_44.2.2.2.2.2.2.2.2.2.1
theorem dL_1752 : decode code 1752 = .ok (.iconst 1, 1) := dT_44.2.2.2.2.2.2.2.2.2.2.1
theorem dL_1753 : decode code 1753 = .ok (.iadd, 1) := dT_44.2.2.2.2.2.2.2.2.2.2.2.1
theorem dL_1754 : decode code 1754 = .ok (.iaload, 1) := dT_44.2.2.2.2.2.2.2.2.2.2.2.2.1
theorem dL_1755 : decode code 1755 = .ok (.invokevirtual 258, 3) := dT_44.2.2.2.2.2.2.2.2.2.2.2.2.2.1
theorem dL_1758 : decode code 1758 = .ok (.if_icmp .eq 524, 3) := dT_44.2.2.2.2.2.2.2.2.2.2.2.2.2.2.1
theorem dL_1761 : decode code 1761 = .ok (.iconst 0, 1) := dT_44.2.2.2.2.2.2.2.2.2.2.2.2.2.2.2.1
theorem dL_1762 : decode code 1762 = .ok (.ireturn, 1) := dT_44.2.2.2.2.2.2.2.2.2.2.2.2.2.2.2.2.1
theorem dL_1763 : decode code 1763 = .ok (.aload_n 1, 1) := dT_44.2.2.2.2.2.2.2.2.2.2.2.2.2.2.2.2.2.1
theorem dL_1764 : decode code 1764 = .ok (.aload_n 0, 1) := dT_44.2.2.2.2.2.2.2.2.2.2.2.2.2.2.2.2.2.2.1
theorem dL_1765 : decode code 1765 = .ok (.iload_n 3, 1) := dT_44.2.2.2.2.2.2.2.2.2.2.2.2.2.2.2.2.2.2.2.1
theorem dL_1766 : decode code 1766 = .ok (.iconst 1, 1) := dT_44.2.2.2.2.2.2.2.2.2.2.2.2.2.2.2.2.2.2.2.2.1
theorem dL_1767 : decode code 1767 = .ok (.iadd, 1) := dT_44.2.2.2.2.2.2.2.2.2.2.2.2.2.2.2.2.2.2.2.2.2.1
theorem dL_1768 : decode code 1768 = .ok (.iaload, 1) := dT_44.2.2.2.2.2.2.2.2.2.2.2.2.2.2.2.2.2.2.2.2.2.2.1
theorem dL_1769 : decode code 1769 = .ok (.aload_n 0, 1) := dT_44.2.2.2.2.2.2.2.2.2.2.2.2.2.2.2.2.2.2.2.2.2.2.2
theorem dT_45 : (decode code 1770 = .ok (.iload_n 3, 1)) ∧ (decode code 1771 = .ok (.iconst 2, 1)) ∧ (decode code 1772 = .ok (.iadd, 1)) ∧ (decode code 1773 = .ok (.iaload, 1)) ∧ (decode code 1774 = .ok (.invokevirtual 259, 3)) ∧ (decode code 1777 = .ok (.aload_n 2, 1)) ∧ (decode code 1778 = .ok (.aload_n 0, 1)) ∧ (decode code 1779 = .ok (.iload_n 3, 1)) ∧ (decode code 1780 = .ok (.iconst 1, 1)) ∧ (decode code 1781 = .ok (.iadd, 1)) ∧ (decode code 1782 = .ok (.iaload, 1)) ∧ (decode code 1783 = .ok (.aload_n 0, 1)) ∧ (decode code 1784 = .ok (.iload_n 3, 1)) ∧ (decode code 1785 = .ok (.iconst 2, 1)) ∧ (decode code 1786 = .ok (.iadd, 1)) ∧ (decode code 1787 = .ok (.iaload, 1)) ∧ (decode code 1788 = .ok (.invokevirtual 262, 3)) ∧ (decode code 1791 = .ok (.if_icmp .eq 491, 3)) ∧ (decode code 1794 = .ok (.iconst 0, 1)) ∧ (decode code 1795 = .ok (.ireturn, 1)) ∧ (decode code 1796 = .ok (.aload_n 1, 1)) ∧ (decode code 1797 = .ok (.aload_n 0, 1)) ∧ (decode code 1798 = .ok (.iload_n 3, 1)) ∧ (decode code 1799 = .ok (.iconst 1, 1)) := by decide +kernel
theorem dL_1770 : decode code 1770 = .ok (.iload_n 3, 1) := dT_45.1
theorem dL_1771 : decode code 1771 = .ok (.iconst 2, 1) := dT_45.2.1
theorem dL_1772 : decode code 1772 = .ok (.iadd, 1) := dT_45.2.2.1
theorem dL_1773 : decode code 1773 = .ok (.iaload, 1) := dT_45.2.2.2.1
theorem dL_1774 : decode code 1774 = .ok (.invokevirtual 259, 3) := dT_45.2.2.2.2.1
theorem dL_1777 : decode code 1777 = .ok (.aload_n 2, 1) := dT_45.2.2.2.2.2.1
theorem dL_1778 : decode code 1778 = .ok (.aload_n 0, 1) := dT_45.2.2.2.2.2.2.1
theorem dL_1779 : decode code 1779 = .ok (.iload_n 3, 1) := dT_45.2.2.2.2.2.2.2.1
theorem dL_1780 : decode code 1780 = .ok (.iconst 1, 1) := dT_45.2.2.2.2.2.2.2.2.1
theorem dL_1781 : decode code 1781 = .ok (.iadd, 1) := dT_45.2.2.2.2.2.2.2.2.2.1
theorem dL_1782 : decode code 1782 = .ok (.iaload, 1) := dT_45.2.2.2.2.2.2.2.2.2.2.1
theorem dL_1783 : decode code 1783 = .ok (.aload_n 0, 1) := dT_45.2.2.2.2.2.2.2.2.2.2.2.1
theorem dL_1784 : decode code 1784 = .ok (.iload_n 3, 1) := dT_45.2.2.2.2.2.2.2.2.2.2.2.2.1
theorem dL_1785 : decode code 1785 = .ok (.iconst 2, 1) := dT_45.2.2.2.2.2.2.2.2.2.2.2.2.2.1
theorem dL_1786 : decode code 1786 = .ok (.iadd, 1) := dT_45.2.2.2.2.2.2.2.2.2.2.2.2.2.2.1
theorem dL_1787 : decode code 1787 = .ok (.iaload, 1) := dT_45.2.2.2.2.2.2.2.2.2.2.2.2.2.2.2.1
theorem dL_1788 : decode code 1788 = .ok (.invokevirtual 262, 3) := dT_45.2.2.2.2.2.2.2.2.2.2.2.2.2.2.2.2.1
theorem dL_1791 : decode code 1791 = .ok (.if_icmp .eq 491, 3) := dT_45.2.2.2.2.2.2.2.2.2.2.2.2.2.2.2.2.2.1
theorem dL_1794 : decode code 1794 = .ok (.iconst 0, 1) := dT_45.2.2.2.2.2.2.2.2.2.2.2.2.2.2.2.2.2.2.1
theorem dL_1795 : decode code 1795 = .ok (.ireturn, 1) := dT_45.2.2.2.2.2.2.2.2.2.2.2.2.2.2.2.2.2.2.2.1
theorem dL_1796 : decode code 1796 = .ok (.aload_n 1, 1) := dT_45.2.2.2.2.2.2.2.2.2.2.2.2.2.2.2.2.2.2.2.2.1
theorem dL_1797 : decode code 1797 = .ok (.aload_n 0, 1) := dT_45.2.2.2.2.2.2.2.2.2.2.2.2.2.2.2.2.2.2.2.2.2.1
theorem dL_1798 : decode code 1798 = .ok (.iload_n 3, 1) := dT_45.2.2.2.2.2.2.2.2.2.2.2.2.2.2.2.2.2.2.2.2.2.2.1
theorem dL_1799 : decode code 1799 = .ok (.iconst 1, 1) := dT_45.2.2.2.2.2.2.2.2.2.2.2.2.2.2.2.2.2.2.2.2.2.2.2
theorem dT_46 : (decode code 1800 = .ok (.iadd, 1)) ∧ (decode code 1801 = .ok (.iaload, 1)) ∧ (decode code 1802 = .ok (.invokevirtual 263, 3)) ∧ (decode code 1805 = .ok (.aload_n 2, 1)) ∧ (decode code 1806 = .ok (.aload_n 0, 1)) ∧ (decode code 1807 = .ok (.iload_n 3, 1)) ∧ (decode code 1808 = .ok (.iconst 1, 1)) ∧ (decode code 1809 = .ok (.iadd, 1)) ∧ (decode code 1810 = .ok (.iaload, 1)) ∧ (decode code 1811 = .ok (.invokevirtual 266, 3)) ∧ (decode code 1814 = .ok (.if_icmp .eq 468, 3)) ∧ (decode code 1817 = .ok (.iconst 0, 1)) ∧ (decode code 1818 = .ok (.ireturn, 1)) ∧ (decode code 1819 = .ok (.aload_n 1, 1)) ∧ (decode code 1820 = .ok (.aload_n 0, 1)) ∧ (decode code 1821 = .ok (.iload_n 3, 1)) ∧ (decode code 1822 = .ok (.iconst 1, 1)) ∧ (decode code 1823 = .ok (.iadd, 1)) ∧ (decode code 1824 = .ok (.iaload, 1)) ∧ (decode code 1825 = .ok (.invokevirtual 267, 3)) ∧ (decode code 1828 = .ok (.aload_n 2, 1)) ∧ (decode code 1829 = .ok (.aload_n 0, 1)) ∧ (decode code 1830 = .ok (.iload_n 3, 1)) ∧ (decode code 1831 = .ok (.iconst 1, 1)) := by decide +kernel
theorem dL_1800 : decode code 1800 = .ok (.iadd, 1) := dT_46.1
theorem dL_1801 : decode code 1801 = .ok (.iaload, 1) := dT_46.2.1
theorem dL_1802 : decode code 1802 = .ok (.invokevirtual 263, 3) := dT_46.2.2.1
theorem dL_1805 : decode code 1805 = .ok (.aload_n 2, 1) := dT_46.2.2.2.1
theorem dL_1806 : decode code 1806 = .ok (.aload_n 0, 1) := dT_46.2.2.2.2.1
theorem dL_1807 : decode code 1807 = .ok (.iload_n 3, 1) := dT_46.2.2.2.2.2.1
theorem dL_1808 : decode code 1808 = .ok (.iconst 1, 1) := dT_46.2.2.2.2.2.2.1
theorem dL_1809 : decode code 1809 = .ok (.iadd, 1) := dT_46.2.2.2.2.2.2.2.1
theorem dL_1810 : decode code 1810 = .ok (.iaload, 1) := dT_46.2.2.2.2.2.2.2.2.1
theorem dL_1811 : decode code 1811 = .ok (.invokevirtual 266, 3) := dT_46.2.2.2.2.2.2.2.2.2.1
theorem dL_1814 : decode code 1814 = .ok (.if_icmp .eq 468, 3) := dT_46.2.2.2.2.2.2.2.2.2.2.1
theorem dL_1817 : decode code 1817 = .ok (.iconst 0, 1) := dT_46.2.2.2.2.2.2.2.2.2.2.2.1
theorem dL_1818 : decode code 1818 = .ok (.ireturn, 1) := dT_46.2.2.2.2.2.2.2.2.2.2.2.2.1
theorem dL_1819 : decode code 1819 = .ok (.aload_n 1, 1) := dT_46.2.2.2.2.2.2.2.2.2.2.2.2.2.1
theorem dL_1820 : decode code 1820 = .ok (.aload_n 0, 1) := dT_46.2.2.2.2.2.2.2.2.2.2.2.2.2.2.1
theorem dL_1821 : decode code 1821 = .ok (.iload_n 3, 1) := dT_46.2.2.2.2.2.2.2.2.2.2.2.2.2.2.2.1
theorem dL_1822 : decode code 1822 = .ok (.iconst 1, 1) := dT_46.2.2.2.2.2.2.2.2.2.2.2.2.2.2.2.2.1
theorem dL_1823 : decode code 1823 = .ok (.iadd, 1) := dT_46.2.2.2.2.2.2.2.2.2.2.2.2.2.2.2.2.2.1
theorem dL_1824 : decode code 1824 = .ok (.iaload, 1) := dT_46.2.2.2.2.2.2.2.2.2.2.2.2.2.2.2.2.2.2.1
theorem dL_1825 : decode code 1825 = .ok (.invokevirtual 267, 3) := dT_46.2.2.2.2.2.2.2.2.2.2.2.2.2.2.2.2.2.2.2.1
theorem dL_1828 : decode code 1828 = .ok (.aload_n 2, 1) := dT_46.2.2.2.2.2.2.2.2.2.2.2.2.2.2.2.2.2.2.2.2.1
theorem dL_1829 : decode code 1829 = .ok (.aload_n 0, 1) := dT_46.2.2.2.2.2.2.2.2.2.2.2.2.2.2.2.2.2.2.2.2.2.1
theorem dL_1830 : decode code 1830 = .ok (.iload_n 3, 1) := dT_46.2.2.2.2.2.2.2.2.2.2.2.2.2.2.2.2.2.2.2.2.2.2.1
theorem dL_1831 : decode code 1831 = .ok (.iconst 1, 1) := dT_46.2.2.2.2.2.2.2.2.2.2.2.2.2.2.2.2.2.2.2.2.2.2.2
theorem dT_47 : (decode code 1832 = .ok (.iadd, 1)) ∧ (decode code 1833 = .ok (.iaload, 1)) ∧ (decode code 1834 = .ok (.invokevirtual 271, 3)) ∧ (decode code 1837 = .ok (.lcmp, 1)) ∧ (decode code 1838 = .ok (.ifCond .eq 444, 3)) ∧ (decode code 1841 = .ok (.iconst 0, 1)) ∧ (decode code 1842 = .ok (.ireturn, 1)) ∧ (decode code 1843 = .ok (.aload_n 1, 1)) ∧ (decode code 1844 = .ok (.aload_n 0, 1)) ∧ (decode code 1845 = .ok (.iload_n 3, 1)) ∧ (decode code 1846 = .ok (.iconst 1, 1)) ∧ (decode code 1847 = .ok (.iadd, 1)) ∧ (decode code 1848 = .ok (.iaload, 1)) ∧ (decode code 1849 = .ok (.aload_n 0, 1)) ∧ (decode code 1850 = .ok (.iload_n 3, 1)) ∧ (decode code 1851 = .ok (.iconst 2, 1)) ∧ (decode code 1852 = .ok (.iadd, 1)) ∧ (decode code 1853 = .ok (.iaload, 1)) ∧ (decode code 1854 = .ok (.invokevirtual 272, 3)) ∧ (decode code 1857 = .ok (.aload_n 2, 1)) ∧ (decode code 1858 = .ok (.aload_n 0, 1)) ∧ (decode code 1859 = .ok (.iload_n 3, 1)) ∧ (decode code 1860 = .ok (.iconst 1, 1)) ∧ (decode code 1861 = .ok (.iadd, 1)) := by decide +kernel
theorem dL_1832 : decode code 1832 = .ok (.iadd, 1) := dT_47.1
theorem dL_1833 : decode code 1833 = .ok (.iaload, 1) := dT_47.2.1
theorem dL_1834 : decode code 1834 = .ok (.invokevirtual 271, 3) := dT_47.2.2.1
theorem dL_1837 : decode code 1837 = .ok (.lcmp, 1) := dT_47.2.2.2.1
theorem dL_1838 : decode code 1838 = .ok (.ifCond .eq 444, 3) := dT_47.2.2.2.2.1
theorem dL_1841 : decode code 1841 = .ok (.iconst 0, 1) := dT_47.2.2.2.2.2.1
theorem dL_1842 : decode code 1842 = .ok (.ireturn, 1) := dT_47.2.2.2.2.2.2.1
theorem dL_1843 : decode code 1843 = .ok (.aload_n 1, 1) := dT_47.2.2.2.2.2.2.2.1
theorem dL_1844 : decode code 1844 = .ok (.aload_n 0, 1) := dT_47.2.2.2.2.2.2.2.2.1
theorem dL_1845 : decode code 1845 = .ok (.iload_n 3, 1) := dT_47.2.2.2.2.2.2.2.2.2.1
theorem dL_1846 : decode code 1846 = .ok (.iconst 1, 1) := dT_47.2.2.2.2.2.2.2.2.2.2.1
theorem dL_1847 : decode code 1847 = .ok (.iadd, 1) := dT_47.2.2.2.2.2.2.2.2.2.2.2.1
theorem dL_1848 : decode code 1848 = .ok (.iaload, 1) := dT_47.2.2.2.2.2.2.2.2.2.2.2.2.1
theorem dL_1849 : decode code 1849 = .ok (.aload_n 0, 1) := dT_47.2.2.2.2.2.2.2.2.2.2.2.2.2.1
theorem dL_1850 : decode code 1850 = .ok (.iload_n 3, 1) := dT_47.2.2.2.2.2.2.2.2.2.2.2.2.2.2.1
theorem dL_1851 : decode code 1851 = .ok (.iconst 2, 1) := dT_47.2.2.2.2.2.2.2.2.2.2.2.2.2.2.2.1
theorem dL_1852 : decode code 1852 = .ok (.iadd, 1) := dT_47.2.2.2.2.2.2.2.2.2.2.2.2.2.2.2.2.1
theorem dL_1853 : decode code 1853 = .ok (.iaload, 1) := dT_47.2.2.2.2.2.2.2.2.2.2.2.2.2.2.2.2.2.1
theorem dL_1854 : decode code 1854 = .ok (.invokevirtual 272, 3) := dT_47.2.2.2.2.2.2.2.2.2.2.2.2.2.2.2.2.2.2.1
theorem dL_1857 : decode code 1857 = .ok (.aload_n 2, 1) := dT_47.2.2.2.2.2.2.2.2.2.2.2.2.2.2.2.2.2.2.2.1
theorem dL_1858 : decode code 1858 = .ok (.aload_n 0, 1) := dT_47.2.2.2.2.2.2.2.2.2.2.2.2.2.2.2.2.2.2.2.2.1
theorem dL_1859 : decode code 1859 = .ok (.iload_n 3, 1) := dT_47.2.2.2.2.2.2.2.2.2.2.2.2.2.2.2.2.2.2.2.2.2.1
theorem dL_1860 : decode code 1860 = .ok (.iconst 1, 1) := dT_47.2.2.2.2.2.2.2.2.2.2.2.2.2.2.2.2.2.2.2.2.2.2.1
theorem dL_1861 : decode code 1861 = .ok (.iadd, 1) := dT_47.2.2.2.2.2.2.2.2.2.2.2.2.2.2.2.2.2.2.2.2.2.2.2
theorem dT_48 : (decode code 1862 = .ok (.iaload, 1)) ∧ (decode code 1863 = .ok (.aload_n 0, 1)) ∧ (decode code 1864 = .ok (.iload_n 3, 1)) ∧ (decode code 1865 = .ok (.iconst 2, 1)) ∧ (decode code 1866 = .ok (.iadd, 1)) ∧ (decode code 1867 = .ok (.iaload, 1)) ∧ (decode code 1868 = .ok (.invokevirtual 275, 3)) ∧ (decode code 1871 = .ok (.if_icmp .eq 411, 3)) ∧ (decode code 1874 = .ok (.iconst 0, 1)) ∧ (decode code 1875 = .ok (.ireturn, 1)) ∧ (decode code 1876 = .ok (.aload_n 1, 1)) ∧ (decode code 1877 = .ok (.aload_n 0, 1)) ∧ (decode code 1878 = .ok (.iload_n 3, 1)) ∧ (decode code 1879 = .ok (.iconst 1, 1)) ∧ (decode code 1880 = .ok (.iadd, 1)) ∧ (decode code 1881 = .ok (.iaload, 1)) ∧ (decode code 1882 = .ok (.invokevirtual 276, 3)) ∧ (decode code 1885 = .ok (.aload_n 2, 1)) ∧ (decode code 1886 = .ok (.aload_n 0, 1)) ∧ (decode code 1887 = .ok (.iload_n 3, 1)) ∧ (decode code 1888 = .ok (.iconst 1, 1)) ∧ (decode code 1889 = .ok (.iadd, 1)) ∧ (decode code 1890 = .ok (.iaload, 1)) ∧ (decode code 1891 = .ok (.invokevirtual 279, 3)) := by decide +kernel
theorem dL_1862 : decode code 1862 = .ok (.iaload, 1) := dT_48.1
theorem dL_1863 : decode code 1863 = .ok (.aload_n 0, 1) := dT_48.2.1
theorem dL_1864 : decode code 1864 = .ok (.iload_n 3, 1) := dT_48.2.2.1
theorem dL_1865 : decode code 1865 = .ok (.iconst 2, 1) := dT_48.2.2.2.1
theorem dL_1866 : decode code 1866 = .ok (.iadd, 1) := dT_48.2.2.2.2.1
theorem dL_1867 : decode code 1867 = .ok (.iaload, 1) := dT_48.2.2.2.2.2.1
theorem dL_1868 : decode code 1868 = .ok (.invokevirtual 275, 3) := dT_48.2.2.2.2.2.2.1
theorem dL_1871 : decode code 1871 = .ok (.if_icmp .eq 411, 3) := dT_48.2.2.2.2.2.2.2.1
theorem dL_1874 : decode code 1874 = .ok (.iconst 0, 1) := dT_48.2.2.2.2.2.2.2.2.1
theorem dL_1875 : decode code 1875 = .ok (.ireturn, 1) := dT_48.2.2.2.2.2.2.2.2.2.1
theorem dL_1876 : decode code 1876 = .ok (.aload_n 1, 1) := dT_48.2.2.2.2.2.2.2.2.2.2.1
theorem dL_1877 : decode code 1877 = .ok (.aload_n 0, 1) := dT_48.2.2.2.2.2.2.2.2.2.2.2.1
theorem dL_1878 : decode code 1878 = .ok (.iload_n 3, 1) := dT_48.2.2.2.2.2.2.2.2.2.2.2.2.1
theorem dL_1879 : decode code 1879 = .ok (.iconst 1, 1) := dT_48.2.2.2.2.2.2.2.2.2.2.2.2.2.1
theorem dL_1880 : decode code 1880 = .ok (.iadd, 1) := dT_48.2.2.2.2.2.2.2.2.2.2.2.2.2.2.1
theorem dL_1881 : decode code 1881 = .ok (.iaload, 1) := dT_48.2.2.2.2.2.2.2.2.2.2.2.2.2.2.2.1
theorem dL_1882 : decode code 1882 = .ok (.invokevirtual 276, 3) := dT_48.2.2.2.2.2.2.2.2.2.2.2.2.2.2.2.2.1
theorem dL_1885 : decode code 1885 = .ok (.aload_n 2, 1) := dT_48.2.2.2.2.2.2.2.2.2.2.2.2.2.2.2.2.2.1
theorem dL_1886 : decode code 1886 = .ok (.aload_n 0, 1) := dT_48.2.2.2.2.2.2.2.2.2.2.2.2.2.2.2.2.2.2.1
theorem dL_1887 : decode code 1887 = .ok (.iload_n 3, 1) := dT_48.2.2.2.2.2.2.2.2.2.2.2.2.2.2.2.2.2.2.2.1
theorem dL_1888 : decode code 1888 = .ok (.iconst 1, 1) := dT_48.2.2.2.2.2.2.2.2.2.2.2.2.2.2.2.2.2.2.2.2.1
theorem dL_1889 : decode code 1889 = .ok (.iadd, 1) := dT_48.2.2.2.2.2.2.2.2.2.2.2.2.2.2.2.2.2.2.2.2.2.1
theorem dL_1890 : decode code 1890 = .ok (.iaload, 1) := dT_48.2.2.2.2.2.2.2.2.2.2.2.2.2.2.2.2.2.2.2.2.2.2.1
theorem dL_1891 : decode code 1891 = .ok (.invokevirtual 279, 3) := dT_48.2.2.2.2.2.2.2.2.2.2.2.2.2.2.2.2.2.2.2.2.2.2.2
theorem dT_49 : (decode code 1894 = .ok (.if_icmp .eq 388, 3)) ∧ (decode code 1897 = .ok (.iconst 0, 1)) ∧ (decode code 1898 = .ok (.ireturn, 1)) ∧ (decode code 1899 = .ok (.aload_n 1, 1)) ∧ (decode code 1900 = .ok (.invokevirtual 280, 3)) ∧ (decode code 1903 = .ok (.aload_n 2, 1)) ∧ (decode code 1904 = .ok (.invokevirtual 283, 3)) ∧ (decode code 1907 = .ok (.if_icmp .eq 375, 3)) ∧ (decode code 1910 = .ok (.iconst 0, 1)) ∧ (decode code 1911 = .ok (.ireturn, 1)) ∧ (decode code 1912 = .ok (.aload_n 1, 1)) ∧ (decode code 1913 = .ok (.invokevirtual 284, 3)) ∧ (decode code 1916 = .ok (.aload_n 2, 1)) ∧ (decode code 1917 = .ok (.invokevirtual 287, 3)) ∧ (decode code 1920 = .ok (.if_icmp .eq 362, 3)) ∧ (decode code 1923 = .ok (.iconst 0, 1)) ∧ (decode code 1924 = .ok (.ireturn, 1)) ∧ (decode code 1925 = .ok (.aload_n 1, 1)) ∧ (decode code 1926 = .ok (.aload_n 0, 1)) ∧ (decode code 1927 = .ok (.iload_n 3, 1)) ∧ (decode code 1928 = .ok (.iconst 1, 1)) ∧ (decode code 1929 = .ok (.iadd, 1)) ∧ (decode code 1930 = .ok (.iaload, 1)) ∧ (decode code 1931 = .ok (.aload_n 0, 1)) := by decide +kernel
theorem dL_1894 : decode code 1894 = .ok (.if_icmp .eq 388, 3) := dT_49.1
theorem dL_1897 : decode code 1897 = .ok (.iconst 0, 1) := dT_49.2.1
theorem dL_1898 : decode code 1898 = .ok (.ireturn, 1) := dT_49.2.2.1
theorem dL_1899 : decode code 1899 = .ok (.aload_n 1, 1) := dT_49.2.2.2.1
theorem dL_1900 : decode code 1900 = .ok (.invokevirtual 280, 3) := dT_49.2.2.2.2.1
theorem dL_1903 : decode code 1903 = .ok (.aload_n 2, 1) := dT_49.2.2.2.2.2.1
theorem dL_1904 : decode code 1904 = .ok (.invokevirtual 283, 3) := dT_49.2.2.2.2.2.2.1
theorem dL_1907 : decode code 1907 = .ok (.if_icmp .eq 375, 3) := dT_49.2.2.2.2.2.2.2.1
theorem dL_1910 : decode code 1910 = .ok (.iconst 0, 1) := dT_49.2.2.2.2.2.2.2.2.1
theorem dL_1911 : decode code 1911 = .ok (.ireturn, 1) := dT_49.2.2.2.2.2.2.2.2.2.1
theorem dL_1912 : decode code 1912 = .ok (.aload_n 1, 1) := dT_49.2.2.2.2.2.2.2.2.2.2.1
theorem dL_1913 : decode code 1913 = .ok (.invokevirtual 284, 3) := dT_49.2.2.2.2.2.2.2.2.2.2.2.1
theorem dL_1916 : decode code 1916 = .ok (.aload_n 2, 1) := dT_49.2.2.2.2.2.2.2.2.2.2.2.2.1
theorem dL_1917 : decode code 1917 = .ok (.invokevirtual 287, 3) := dT_49.2.2.2.2.2.2.2.2.2.2.2.2.2.1
theorem dL_1920 : decode code 1920 = .ok (.if_icmp .eq 362, 3) := dT_49.2.2.2.2.2.2.2.2.2.2.2.2.2.2.1
theorem dL_1923 : decode code 1923 = .ok (.iconst 0, 1) := dT_49.2.2.2.2.2.2.2.2.2.2.2.2.2.2.2.1
theorem dL_1924 : decode code 1924 = .ok (.ireturn, 1) := dT_49.2.2.2.2.2.2.2.2.2.2.2.2.2.2.2.2.1
theorem dL_1925 : decode code 1925 = .ok (.aload_n 1, 1) := dT_49.2.2.2.2.2.2.2.2.2.2.2.2.2.2.2.2.2.1
theorem dL_1926 : decode code 1926 = .ok (.aload_n 0, 1) := dT_49.2.2.2.2.2.2.2.2.2.2.2.2.2.2.2.2.2.2.1
theorem dL_1927 : decode code 1927 = .ok (.iload_n 3, 1) := dT_49.2.2.2.2.2.2.2.2.2.2.2.2.2.2.2.2.2.2.2.1
theorem dL_1928 : decode code 1928 = .ok (.iconst 1, 1) := dT_49.2.2.2.2.2.2.2.2.2.2.2.2.2.2.2.2.2.2.2.2.1
theorem dL_1929 : decode code 1929 = .ok (.iadd, 1) := dT_49.2.2.2.2.2.2.2.2.2.2.2.2.2.2.2.2.2.2.2.2.2.1
theorem dL_1930 : decode code 1930 = .ok (.iaload, 1) := dT_49.2.2.2.2.2.2.2.2.2.2.2.2.2.2.2.2.2.2.2.2.2.2.1
theorem dL_1931 : decode code 1931 = .ok (.aload_n 0, 1) := dT_49.2.2.2.2.2.2.2.2.2.2.2.2.2.2.2.2.2.2.2.2.2.2.2
theorem dT_50 : (decode code 1932 = .ok (.iload_n 3, 1)) ∧ (decode code 1933 = .ok (.iconst 2, 1)) ∧ (decode code 1934 = .ok (.iadd, 1)) ∧ (decode code 1935 = .ok (.iaload, 1)) ∧ (decode code 1936 = .ok (.invokevirtual 288, 3)) ∧ (decode code 1939 = .ok (.aload_n 2, 1)) ∧ (decode code 1940 = .ok (.aload_n 0, 1)) ∧ (decode code 1941 = .ok (.iload_n 3, 1)) ∧ (decode code 1942 = .ok (.iconst 1, 1)) ∧ (decode code 1943 = .ok (.iadd, 1)) ∧ (decode code 1944 = .ok (.iaload, 1)) ∧ (decode code 1945 = .ok (.aload_n 0, 1)) ∧ (decode code 1946 = .ok (.iload_n 3, 1)) ∧ (decode code 1947 = .ok (.iconst 2, 1)) ∧ (decode code 1948 = .ok (.iadd, 1)) ∧ (decode code 1949 = .ok (.iaload, 1)) ∧ (decode code 1950 = .ok (.invokevirtual 291, 3)) ∧ (decode code 1953 = .ok (.if_icmp .eq 329, 3)) ∧ (decode code 1956 = .ok (.iconst 0, 1)) ∧ (decode code 1957 = .ok (.ireturn, 1)) ∧ (decode code 1958 = .ok (.aload_n 1, 1)) ∧ (decode code 1959 = .ok (.aload_n 0, 1)) ∧ (decode code 1960 = .ok (.iload_n 3, 1)) ∧ (decode code 1961 = .ok (.iconst 1, 1)) := by decide +kernel
theorem dL_1932 : decode code 1932 = .ok (.iload_n 3, 1) := dT_50.1
theorem dL_1933 : decode code 1933 = .ok (.iconst 2, 1) := dT_50.2.1
theorem dL_1934 : decode code 1934 = .ok (.iadd, 1) := dT_50.2.2.1
theorem dL_1935 : decode code 1935 = .ok (.iaload, 1) := dT_50.2.2.2.1
theorem dL_1936 : decode code 1936 = .ok (.invokevirtual 288, 3) := dT_50.2.2.2.2.1
theorem dL_1939 : decode code 1939 = .ok (.aload_n 2, 1) := dT_50.2.2.2.2.2.1
theorem dL_1940 : decode code 1940 = .ok (.aload_n 0, 1) := dT_50.2.2.2.2.2.2.1
theorem dL_1941 : decode code 1941 = .ok (.iload_n 3, 1) := dT_50.2.2.2.2.2.2.2.1
theorem dL_1942 : decode code 1942 = .ok (.iconst 1, 1) := dT_50.2.2.2.2.2.2.2.2.1
theorem dL_1943 : decode code 1943 = .ok (.iadd, 1) := dT_50.2.2.2.2.2.2.2.2.2.1
theorem dL_1944 : decode code 1944 = .ok (.iaload, 1) := dT_50.2.2.2.2.2.2.2.2.2.2.1
theorem dL_1945 : decode code 1945 = .ok (.aload_n 0, 1) := dT_50.2.2.2.2.2.2.2.2.2.2.2.1
theorem dL_1946 : decode code 1946 = .ok (.iload_n 3, 1) := dT_50.2.2.2.2.2.2.2.2.2.2.2.2.1
theorem dL_1947 : decode code 1947 = .ok (.iconst 2, 1) := dT_50.2.2.2.2.2.2.2.2.2.2.2.2.2.1
theorem dL_1948 : decode code 1948 = .ok (.iadd, 1) := dT_50.2.2.2.2.2.2.2.2.2.2.2.2.2.2.1
theorem dL_1949 : decode code 1949 = .ok (.iaload, 1) := dT_50.2.2.2.2.2.2.2.2.2.2.2.2.2.2.2.1
theorem dL_1950 : decode code 1950 = .ok (.invokevirtual 291, 3) := dT_50.2.2.2.2.2.2.2.2.2.2.2.2.2.2.2.2.1
theorem dL_1953 : decode code 1953 = .ok (.if_icmp .eq 329, 3) := dT_50.2.2.2.2.2.2.2.2.2.2.2.2.2.2.2.2.2.1
theorem dL_1956 : decode code 1956 = .ok (.iconst 0, 1) := dT_50.2.2.2.2.2.2.2.2.2.2.2.2.2.2.2.2.2.2.1
theorem dL_1957 : decode code 1957 = .ok (.ireturn, 1) := dT_50.2.2.2.2.2.2.2.2.2.2.2.2.2.2.2.2.2.2.2.1
theorem dL_1958 : decode code 1958 = .ok (.aload_n 1, 1) := dT_50.2.2.2.2.2.2.2.2.2.2.2.2.2.2.2.2.2.2.2.2.1
theorem dL_1959 : decode code 1959 = .ok (.aload_n 0, 1) := dT_50.2.2.2.2.2.2.2.2.2.2.2.2.2.2.2.2.2.2.2.2.2.1
theorem dL_1960 : decode code 1960 = .ok (.iload_n 3, 1) := dT_50.2.2.2.2.2.2.2.2.2.2.2.2.2.2.2.2.2.2.2.2.2.2.1
theorem dL_1961 : decode code 1961 = .ok (.iconst 1, 1) := dT_50.2.2.2.2.2.2.2.2.2.2.2.2.2.2.2.2.2.2.2.2.2.2.2
theorem dT_51 : (decode code 1962 = .ok (.iadd, 1)) ∧ (decode code 1963 = .ok (.iaload, 1)) ∧ (decode code 1964 = .ok (.aload_n 0, 1)) ∧ (decode code 1965 = .ok (.iload_n 3, 1)) ∧ (decode code 1966 = .ok (.iconst 2, 1)) ∧ (decode code 1967 = .ok (.iadd, 1)) ∧ (decode code 1968 = .ok (.iaload, 1)) ∧ (decode code 1969 = .ok (.aload_n 0, 1)) ∧ (decode code 1970 = .ok (.iload_n 3, 1)) ∧ (decode code 1971 = .ok (.iconst 3, 1)) ∧ (decode code 1972 = .ok (.iadd, 1)) ∧ (decode code 1973 = .ok (.iaload, 1)) ∧ (decode code 1974 = .ok (.invokevirtual 292, 3)) ∧ (decode code 1977 = .ok (.aload_n 2, 1)) ∧ (decode code 1978 = .ok (.aload_n 0, 1)) ∧ (decode code 1979 = .ok (.iload_n 3, 1)) ∧ (decode code 1980 = .ok (.iconst 1, 1)) ∧ (decode code 1981 = .ok (.iadd, 1)) ∧ (decode code 1982 = .ok (.iaload, 1)) ∧ (decode code 1983 = .ok (.aload_n 0, 1)) ∧ (decode code 1984 = .ok (.iload_n 3, 1)) ∧ (decode code 1985 = .ok (.iconst 2, 1)) ∧ (decode code 1986 = .ok (.iadd, 1)) ∧ (decode code 1987 = .ok (.iaload, 1)) := by decide +kernel
theorem dL_1962 : decode code 1962 = .ok (.iadd, 1) := dT_51.1
theorem dL_1963 : decode code 1963 = .ok (.iaload, 1) := dT_51.2.1
theorem dL_1964 : decode code 1964 = .ok (.aload_n 0, 1) := dT_51.2.2.1
theorem dL_1965 : decode code 1965 = .ok (.iload_n 3, 1) := dT_51.2.2.2.1
theorem dL_1966 : decode code 1966 = .ok (.iconst 2, 1) := dT_51.2.2.2.2.1
theorem dL_1967 : decode code 1967 = .ok (.iadd, 1) := dT_51.2.2.2.2.2.1
theorem dL_1968 : decode code 1968 = .ok (.iaload, 1) := dT_51.2.2.2.2.2.2.1
theorem dL_1969 : decode code 1969 = .ok (.aload_n 0, 1) := dT_51.2.2.2.2.2.2.2.1
theorem dL_1970 : decode code 1970 = .ok (.iload_n 3, 1) := dT_51.2.2.2.2.2.2.2.2.1
theorem dL_1971 : decode code 1971 = .ok (.iconst 3, 1) := dT_51.2.2.2.2.2.2.2.2.2.1
theorem dL_1972 : decode code 1972 = .ok (.iadd, 1) := dT_51.2.2.2.2.2.2.2.2.2.2.1
theorem dL_1973 : decode code 1973 = .ok (.iaload, 1) := dT_51.2.2.2.2.2.2.2.2.2.2.2.1
theorem dL_1974 : decode code 1974 = .ok (.invokevirtual 292, 3) := dT_51.2.2.2.2.2.2.2.2.2.2.2.2.1
theorem dL_1977 : decode code 1977 = .ok (.aload_n 2, 1) := dT_51.2.2.2.2.2.2.2.2.2.2.2.2.2.1
theorem dL_1978 : decode code 1978 = .ok (.aload_n 0, 1) := dT_51.2.2.2.2.2.2.2.2.2.2.2.2.2.2.1
theorem dL_1979 : decode code 1979 = .ok (.iload_n 3, 1) := dT_51.2.2.2.2.2.2.2.2.2.2.2.2.2.2.2.1
theorem dL_1980 : decode code 1980 = .ok (.iconst 1, 1) := dT_51.2.2.2.2.2.2.2.2.2.2.2.2.2.2.2.2.1
theorem dL_1981 : decode code 1981 = .ok (.iadd, 1) := dT_51.2.2.2.2.2.2.2.2.2.2.2.2.2.2.2.2.2.1
theorem dL_1982 : decode code 1982 = .ok (.iaload, 1) := dT_51.2.2.2.2.2.2.2.2.2.2.2.2.2.2.2.2.2.2.1
theorem dL_1983 : decode code 1983 = .ok (.aload_n 0, 1) := dT_51.2.2.2.2.2.2.2.2.2.2.2.2.2.2.2.2.2.2.2.1
theorem dL_1984 : decode code 1984 = .ok (.iload_n 3, 1) := dT_51.2.2.2.2.2.2.2.2.2.2.2.2.2.2.2.2.2.2.2.2.1
theorem dL_1985 : decode code 1985 = .ok (.iconst 2, 1) := dT_51.2.2.2.2.2.2.2.2.2.2.2.2.2.2.2.2.2.2.2.2.2.1
theorem dL_1986 : decode code 1986 = .ok (.iadd, 1) := dT_51.2.2.2.2.2.2.2.2.2.2.2.2.2.2.2.2.2.2.2.2.2.2.1
theorem dL_1987 : decode code 1987 = .ok (.iaload, 1) := dT_51.2.2.2.2.2.2.2.2.2.2.2.2.2.2.2.2.2.2.2.2.2.2.2
theorem dT_52 : (decode code 1988 = .ok (.aload_n 0, 1)) ∧ (decode code 1989 = .ok (.iload_n 3, 1)) ∧ (decode code 1990 = .ok (.iconst 3, 1)) ∧ (decode code 1991 = .ok (.iadd, 1)) ∧ (decode code 1992 = .ok (.iaload, 1)) ∧ (decode code 1993 = .ok (.invokevirtual 295, 3)) ∧ (decode code 1996 = .ok (.if_icmp .eq 286, 3)) ∧ (decode code 1999 = .ok (.iconst 0, 1)) ∧ (decode code 2000 = .ok (.ireturn, 1)) ∧ (decode code 2001 = .ok (.aload_n 1, 1)) ∧ (decode code 2002 = .ok (.aload_n 0, 1)) ∧ (decode code 2003 = .ok (.iload_n 3, 1)) ∧ (decode code 2004 = .ok (.iconst 1, 1)) ∧ (decode code 2005 = .ok (.iadd, 1)) ∧ (decode code 2006 = .ok (.iaload, 1)) ∧ (decode code 2007 = .ok (.aload_n 0, 1)) ∧ (decode code 2008 = .ok (.iload_n 3, 1)) ∧ (decode code 2009 = .ok (.iconst 2, 1)) ∧ (decode code 2010 = .ok (.iadd, 1)) ∧ (decode code 2011 = .ok (.iaload, 1)) ∧ (decode code 2012 = .ok (.invokevirtual 296, 3)) ∧ (decode code 2015 = .ok (.aload_n 2, 1)) ∧ (decode code 2016 = .ok (.aload_n 0, 1)) ∧ (decode code 2017 = .ok (.iload_n 3, 1)) := by decide +kernel
theorem dL_1988 : decode code 1988 = .ok (.aload_n 0, 1) := dT_52.1
theorem dL_1989 : decode code 1989 = .ok (.iload_n 3, 1) := dT_52.2.1
theorem dL_1990 : decode code 1990 = .ok (.iconst 3, 1) := dT_52.2.2.1
theorem dL_1991 : decode code 1991 = .ok (.iadd, 1) := dT_52.2.2.2.1
theorem dL_1992 : decode code 1992 = .ok (.iaload, 1) := dT_52.2.2.2.2.1
theorem dL_1993 : decode code 1993 = .ok (.invokevirtual 295, 3) := dT_52.2.2.2.2.2.1
theorem dL_1996 : decode code 1996 = .ok (.if_icmp .eq 286, 3) := dT_52.2.2.2.2.2.2.1
theorem dL_1999 : decode code 1999 = .ok (.iconst 0, 1) := dT_52.2.2.2.2.2.2.2.1
theorem dL_2000 : decode code 2000 = .ok (.ireturn, 1) := dT_52.2.2.2.2.2.2.2.2.1
theorem dL_2001 : decode code 2001 = .ok (.aload_n 1, 1) := dT_52.2.2.2.2.2.2.2.2.2.1
theorem dL_2002 : decode code 2002 = .ok (.aload_n 0, 1) := dT_52.2.2.2.2.2.2.2.2.2.2.1
theorem dL_2003 : decode code 2003 = .ok (.iload_n 3, 1) := dT_52.2.2.2.2.2.2.2.2.2.2.2.1
theorem dL_2004 : decode code 2004 = .ok (.iconst 1, 1) := dT_52.2.2.2.2.2.2.2.2.2.2.2.2.1
theorem dL_2005 : decode code 2005 = .ok (.iadd, 1) := dT_52.2.2.2.2.2.2.2.2.2.2.2.2.2.1
theorem dL_2006 : decode code 2006 = .ok (.iaload, 1) := dT_52.2.2.2.2.2.2.2.2.2.2.2.2.2.2.1
theorem dL_2007 : decode code 2007 = .ok (.aload_n 0, 1) := dT_52.2.2.2.2.2.2.2.2.2.2.2.2.2.2.2.1
theorem dL_2008 : decode code 2008 = .ok (.iload_n 3, 1) := dT_52.2.2.2.2.2.2.2.2.2.2.2.2.2.2.2.2.1
theorem dL_2009 : decode code 2009 = .ok (.iconst 2, 1) := dT_52.2.2.2.2.2.2.2.2.2.2.2.2.2.2.2.2.2.1
theorem dL_2010 : decode code 2010 = .ok (.iadd, 1) := dT_52.2.2.2.2.2.2.2.2.2.2.2.2.2.2.2.2.2.2.1
theorem dL_2011 : decode code 2011 = .ok (.iaload, 1) := dT_52.2.2.2.2.2.2.2.2.2.2.2.2.2.2.2.2.2.2.2.1
theorem dL_2012 : decode code 2012 = .ok (.invokevirtual 296, 3) := dT_52.2.2.2.2.2.2.2.2.2.2.2.2.2.2.2.2.2.2.2.2.1
theorem dL_2015 : decode code 2015 = .ok (.aload_n 2, 1) := dT_52.2.2.2.2.2.2.2.2.2.2.2.2.2.2.2.2.2.2.2.2.2.1
theorem dL_2016 : decode code 2016 = .ok (.aload_n 0, 1) := dT_52.2.2.2.2.2.2.2.2.2.2.2.2.2.2.2.2.2.2.2.2.2.2.1
theorem dL_2017 : decode code 2017 = .ok (.iload_n 3, 1) := dT_52.2.2.2.2.2.2.2.2.2.2.2.2.2.2.2.2.2.2.2.2.2.2.2
theorem dT_53 : (decode code 2018 = .ok (.iconst 1, 1)) ∧ (decode code 2019 = .ok (.iadd, 1)) ∧ (decode code 2020 = .ok (.iaload, 1)) ∧ (decode code 2021 = .ok (.aload_n 0, 1)) ∧ (decode code 2022 = .ok (.iload_n 3, 1)) ∧ (decode code 2023 = .ok (.iconst 2, 1)) ∧ (decode code 2024 = .ok (.iadd, 1)) ∧ (decode code 2025 = .ok (.iaload, 1)) ∧ (decode code 2026 = .ok (.invokevirtual 299, 3)) ∧ (decode code 2029 = .ok (.if_icmp .eq 253, 3)) ∧ (decode code 2032 = .ok (.iconst 0, 1)) ∧ (decode code 2033 = .ok (.ireturn, 1)) ∧ (decode code 2034 = .ok (.aload_n 1, 1)) ∧ (decode code 2035 = .ok (.aload_n 0, 1)) ∧ (decode code 2036 = .ok (.iload_n 3, 1)) ∧ (decode code 2037 = .ok (.iconst 1, 1)) ∧ (decode code 2038 = .ok (.iadd, 1)) ∧ (decode code 2039 = .ok (.iaload, 1)) ∧ (decode code 2040 = .ok (.invokevirtual 300, 3)) ∧ (decode code 2043 = .ok (.aload_n 2, 1)) ∧ (decode code 2044 = .ok (.aload_n 0, 1)) ∧ (decode code 2045 = .ok (.iload_n 3, 1)) ∧ (decode code 2046 = .ok (.iconst 1, 1)) ∧ (decode code 2047 = .ok (.iadd, 1)) := by decide +kernel
theorem dL_2018 : decode code 2018 = .ok (.iconst 1, 1) := dT_53.1
theorem dL_2019 : decode code 2019 = .ok (.iadd, 1) := dT_53.2.1
theorem dL_2020 : decode code 2020 = .ok (.iaload, 1) := dT_53.2.2.1
theorem dL_2021 : decode code 2021 = .ok (.aload_n 0, 1) := dT_53.2.2.2.1
theorem dL_2022 : decode code 2022 = .ok (.iload_n 3, 1) := dT_53.2.2.2.2.1
theorem dL_2023 : decode code 2023 = .ok (.iconst 2, 1) := dT_53.2.2.2.2.2.1
theorem dL_2024 : decode code 2024 = .ok (.iadd, 1) := dT_53.2.2.2.2.2.2.1
theorem dL_2025 : decode code 2025 = .ok (.iaload, 1) := dT_53.2.2.2.2.2.2.2.1
theorem dL_2026 : decode code 2026 = .ok (.invokevirtual 299, 3) := dT_53.2.2.2.2.2.2.2.2.1
theorem dL_2029 : decode code 2029 = .ok (.if_icmp .eq 253, 3) := dT_53.2.2.2.2.2.2.2.2.2.1
theorem dL_2032 : decode code 2032 = .ok (.iconst 0, 1) := dT_53.2.2.2.2.2.2.2.2.2.2.1
theorem dL_2033 : decode code 2033 = .ok (.ireturn, 1) := dT_53.2.2.2.2.2.2.2.2.2.2.2.1
theorem dL_2034 : decode code 2034 = .ok (.aload_n 1, 1) := dT_53.2.2.2.2.2.2.2.2.2.2.2.2.1
theorem dL_2035 : decode code 2035 = .ok (.aload_n 0, 1) := dT_53.2.2.2.2.2.2.2.2.2.2.2.2.2.1
theorem dL_2036 : decode code 2036 = .ok (.iload_n 3, 1) := dT_53.2.2.2.2.2.2.2.2.2.2.2.2.2.2.1
theorem dL_2037 : decode code 2037 = .ok (.iconst 1, 1) := dT_53.2.2.2.2.2.2.2.2.2.2.2.2.2.2.2.1
theorem dL_2038 : decode code 2038 = .ok (.iadd, 1) := dT_53.2.2.2.2.2.2.2.2.2.2.2.2.2.2.2.2.1
theorem dL_2039 : decode code 2039 = .ok (.iaload, 1) := dT_53.2.2.2.2.2.2.2.2.2.2.2.2.2.2.2.2.2.1
theorem dL_2040 : decode code 2040 = .ok (.invokevirtual 300, 3) := dT_53.2.2.2.2.2.2.2.2.2.2.2.2.2.2.2.2.2.2.1
theorem dL_2043 : decode code 2043 = .ok (.aload_n 2, 1) := dT_53.2.2.2.2.2.2.2.2.2.2.2.2.2.2.2.2.2.2.2.1
theorem dL_2044 : decode code 2044 = .ok (.aload_n 0, 1) := dT_53.2.2.2.2.2.2.2.2.2.2.2.2.2.2.2.2.2.2.2.2.1
theorem dL_2045 : decode code 2045 = .ok (.iload_n 3, 1) := dT_53.2.2.2.2.2.2.2.2.2.2.2.2.2.2.2.2.2.2.2.2.2.1
theorem dL_2046 : decode code 2046 = .ok (.iconst 1, 1) := dT_53.2.2.2.2.2.2.2.2.2.2.2.2.2.2.2.2.2.2.2.2.2.2.1
theorem dL_2047 : decode code 2047 = .ok (.iadd, 1) := dT_53.2.2.2.2.2.2.2.2.2.2.2.2.2.2.2.2.2.2.2.2.2.2.2
theorem dT_54 : (decode code 2048 = .ok (.iaload, 1)) ∧ (decode code 2049 = .ok (.invokevirtual 303, 3)) ∧ (decode code 2052 = .ok (.if_icmp .eq 230, 3)) ∧ (decode code 2055 = .ok (.iconst 0, 1)) ∧ (decode code 2056 = .ok (.ireturn, 1)) ∧ (decode code 2057 = .ok (.aload_n 1, 1)) ∧ (decode code 2058 = .ok (.aload_n 0, 1)) ∧ (decode code 2059 = .ok (.iload_n 3, 1)) ∧ (decode code 2060 = .ok (.iconst 1, 1)) ∧ (decode code 2061 = .ok (.iadd, 1)) ∧ (decode code 2062 = .ok (.iaload, 1)) ∧ (decode code 2063 = .ok (.invokevirtual 304, 3)) ∧ (decode code 2066 = .ok (.aload_n 2, 1)) ∧ (decode code 2067 = .ok (.aload_n 0, 1)) ∧ (decode code 2068 = .ok (.iload_n 3, 1)) ∧ (decode code 2069 = .ok (.iconst 1, 1)) ∧ (decode code 2070 = .ok (.iadd, 1)) ∧ (decode code 2071 = .ok (.iaload, 1)) ∧ (decode code 2072 = .ok (.invokevirtual 307, 3)) ∧ (decode code 2075 = .ok (.if_icmp .eq 207, 3)) ∧ (decode code 2078 = .ok (.iconst 0, 1)) ∧ (decode code 2079 = .ok (.ireturn, 1)) ∧ (decode code 2080 = .ok (.aload_n 1, 1)) ∧ (decode code 2081 = .ok (.aload_n 0, 1)) := by decide +kernel
theorem dL_2048 : decode code 2048 = .ok (.iaload, 1) := dT_54.1
theorem dL_2049 : decode code 2049 = .ok (.invokevirtual 303, 3) := dT_54.2.1
theorem dL_2052 : decode code 2052 = .ok (.if_icmp .eq 230, 3) := dT_54.2.2.1
theorem dL_2055 : decode code 2055 = .ok (.iconst 0, 1) := dT_54.2.2.2.1
theorem dL_2056 : decode code 2056 = .ok (.ireturn, 1) := dT_54.2.2.2.2.1
theorem dL_2057 : decode code 2057 = .ok (.aload_n 1, 1) := dT_54.2.2.2.2.2.1
theorem dL_2058 : decode code 2058 = .ok (.aload_n 0, 1) := dT_54.2.2.2.2.2.2.1
theorem dL_2059 : decode code 2059 = .ok (.iload_n 3, 1) := dT_54.2.2.2.2.2.2.2.1
theorem dL_2060 : decode code 2060 = .ok (.iconst 1, 1) := dT_54.2.2.2.2.2.2.2.2.1
theorem dL_2061 : decode code 2061 = .ok (.iadd, 1) := dT_54.2.2.2.2.2.2.2.2.2.1
theorem dL_2062 : decode code 2062 = .ok (.iaload, 1) := dT_54.2.2.2.2.2.2.2.2.2.2.1
theorem dL_2063 : decode code 2063 = .ok (.invokevirtual 304, 3) := dT_54.2.2.2.2.2.2.2.2.2.2.2.1
theorem dL_2066 : decode code 2066 = .ok (.aload_n 2, 1) := dT_54.2.2.2.2.2.2.2.2.2.2.2.2.1
theorem dL_2067 : decode code 2067 = .ok (.aload_n 0, 1) := dT_54.2.2.2.2.2.2.2.2.2.2.2.2.2.1
theorem dL_2068 : decode code 2068 = .ok (.iload_n 3, 1) := dT_54.2.2.2.2.2.2.2.2.2.2.2.2.2.2.1
theorem dL_2069 : decode code 2069 = .ok (.iconst 1, 1) := dT_54.2.2.2.2.2.2.2.2.2.2.2.2.2.2.2.1
theorem dL_2070 : decode code 2070 = .ok (.iadd, 1) := dT_54.2.2.2.2.2.2.2.2.2.2.2.2.2.2.2.2.1
theorem dL_2071 : decode code 2071 = .ok (.iaload, 1) := dT_54.2.2.2.2.2.2.2.2.2.2.2.2.2.2.2.2.2.1
theorem dL_2072 : decode code 2072 = .ok (.invokevirtual 307, 3) := dT_54.2.2.2.2.2.2.2.2.2.2.2.2.2.2.2.2.2.2.1
theorem dL_2075 : decode code 2075 = .ok (.if_icmp .eq 207, 3) := dT_54.2.2.2.2.2.2.2.2.2.2.2.2.2.2.2.2.2.2.2.1
theorem dL_2078 : decode code 2078 = .ok (.iconst 0, 1) := dT_54.2.2.2.2.2.2.2.2.2.2.2.2.2.2.2.2.2.2.2.2.1
theorem dL_2079 : decode code 2079 = .ok (.ireturn, 1) := dT_54.2.2.2.2.2.2.2.2.2.2.2.2.2.2.2.2.2.2.2.2.2.1
theorem dL_2080 : decode code 2080 = .ok (.aload_n 1, 1) := dT_54.2.2.2.2.2.2.2.2.2.2.2.2.2.2.2.2.2.2.2.2.2.2.1
theorem dL_2081 : decode code 2081 = .ok (.aload_n 0, 1) := dT_54.2.2.2.2.2.2.2.2.2.2.2.2.2.2.2.2.2.2.2.2.2.2.2
theorem dT_55 : (decode code 2082 = .ok (.iload_n 3, 1)) ∧ (decode code 2083 = .ok (.iconst 1, 1)) ∧ (decode code 2084 = .ok (.iadd, 1)) ∧ (decode code 2085 = .ok (.iaload, 1)) ∧ (decode code 2086 = .ok (.invokevirtual 308, 3)) ∧ (decode code 2089 = .ok (.aload_n 2, 1)) ∧ (decode code 2090 = .ok (.aload_n 0, 1)) ∧ (decode code 2091 = .ok (.iload_n 3, 1)) ∧ (decode code 2092 = .ok (.iconst 1, 1)) ∧ (decode code 2093 = .ok (.iadd, 1)) ∧ (decode code 2094 = .ok (.iaload, 1)) ∧ (decode code 2095 = .ok (.invokevirtual 311, 3)) ∧ (decode code 2098 = .ok (.if_icmp .eq 184, 3)) ∧ (decode code 2101 = .ok (.iconst 0, 1)) ∧ (decode code 2102 = .ok (.ireturn, 1)) ∧ (decode code 2103 = .ok (.aload_n 1, 1)) ∧ (decode code 2104 = .ok (.aload_n 0, 1)) ∧ (decode code 2105 = .ok (.iload_n 3, 1)) ∧ (decode code 2106 = .ok (.iconst 1, 1)) ∧ (decode code 2107 = .ok (.iadd, 1)) ∧ (decode code 2108 = .ok (.iaload, 1)) ∧ (decode code 2109 = .ok (.aload_n 0, 1)) ∧ (decode code 2110 = .ok (.iload_n 3, 1)) ∧ (decode code 2111 = .ok (.iconst 2, 1)) := by decide +kernel
theorem dL_2082 : decode code 2082 = .ok (.iload_n 3, 1) := dT_55.1
theorem dL_2083 : decode code 2083 = .ok (.iconst 1, 1) := dT_55.2.1
theorem dL_2084 : decode code 2084 = .ok (.iadd, 1) := dT_55.2.2.1
theorem dL_2085 : decode code 2085 = .ok (.iaload, 1) := dT_55.2.2.2.1
theorem dL_2086 : decode code 2086 = .ok (.invokevirtual 308, 3) := dT_55.2.2.2.2.1
theorem dL_2089 : decode code 2089 = .ok (.aload_n 2, 1) := dT_55.2.2.2.2.2.1
theorem dL_2090 : decode code 2090 = .ok (.aload_n 0, 1) := dT_55.2.2.2.2.2.2.1
theorem dL_2091 : decode code 2091 = .ok (.iload_n 3, 1) := dT_55.2.2.2.2.2.2.2.1
theorem dL_2092 : decode code 2092 = .ok (.iconst 1, 1) := dT_55.2.2.2.2.2.2.2.2.1
theorem dL_2093 : decode code 2093 = .ok (.iadd, 1) := dT_55.2.2.2.2.2.2.2.2.2.1
theorem dL_2094 : decode code 2094 = .ok (.iaload, 1) := dT_55.2.2.2.2.2.2.2.2.2.2.1
theorem dL_2095 : decode code 2095 = .ok (.invokevirtual 311, 3) := dT_55.2.2.2.2.2.2.2.2.2.2.2.1
theorem dL_2098 : decode code 2098 = .ok (.if_icmp .eq 184, 3) := dT_55.2.2.2.2.2.2.2.2.2.2.2.2.1
theorem dL_2101 : decode code 2101 = .ok (.iconst 0, 1) := dT_55.2.2.2.2.2.2.2.2.2.2.2.2.2.1
theorem dL_2102 : decode code 2102 = .ok (.ireturn, 1) := dT_55.2.2.2.2.2.2.2.2.2.2.2.2.2.2.1
theorem dL_2103 : decode code 2103 = .ok (.aload_n 1, 1) := dT_55.2.2.2.2.2.2.2.2.2.2.2.2.2.2.2.1
theorem dL_2104 : decode code 2104 = .ok (.aload_n 0, 1) := dT_55.2.2.2.2.2.2.2.2.2.2.2.2.2.2.2.2.1
theorem dL_2105 : decode code 2105 = .ok (.iload_n 3, 1) := dT_55.2.2.2.2.2.2.2.2.2.2.2.2.2.2.2.2.2.1
theorem dL_2106 : decode code 2106 = .ok (.iconst 1, 1) := dT_55.2.2.2.2.2.2.2.2.2.2.2.2.2.2.2.2.2.2.1
theorem dL_2107 : decode code 2107 = .ok (.iadd, 1) := dT_55.2.2.2.2.2.2.2.2.2.2.2.2.2.2.2.2.2.2.2.1
theorem dL_2108 : decode code 2108 = .ok (.iaload, 1) := dT_55.2.2.2.2.2.2.2.2.2.2.2.2.2.2.2.2.2.2.2.2.1
theorem dL_2109 : decode code 2109 = .ok (.aload_n 0, 1) := dT_55.2.2.2.2.2.2.2.2.2.2.2.2.2.2.2.2.2.2.2.2.2.1
theorem dL_2110 : decode code 2110 = .ok (.iload_n 3, 1) := dT_55.2.2.2.2.2.2.2.2.2.2.2.2.2.2.2.2.2.2.2.2.2.2.1
theorem dL_2111 : decode code 2111 = .ok (.iconst 2, 1) := dT_55.2.2.2.2.2.2.2.2.2.2.2.2.2.2.2.2.2.2.2.2.2.2.2
theorem dT_56 : (decode code 2112 = .ok (.iadd, 1)) ∧ (decode code 2113 = .ok (.iaload, 1)) ∧ (decode code 2114 = .ok (.aload_n 0, 1)) ∧ (decode code 2115 = .ok (.iload_n 3, 1)) ∧ (decode code 2116 = .ok (.iconst 3, 1)) ∧ (decode code 2117 = .ok (.iadd, 1)) ∧ (decode code 2118 = .ok (.iaload, 1)) ∧ (decode code 2119 = .ok (.invokevirtual 312, 3)) ∧ (decode code 2122 = .ok (.aload_n 2, 1)) ∧ (decode code 2123 = .ok (.aload_n 0, 1)) ∧ (decode code 2124 = .ok (.iload_n 3, 1)) ∧ (decode code 2125 = .ok (.iconst 1, 1)) ∧ (decode code 2126 = .ok (.iadd, 1)) ∧ (decode code 2127 = .ok (.iaload, 1)) ∧ (decode code 2128 = .ok (.aload_n 0, 1)) ∧ (decode code 2129 = .ok (.iload_n 3, 1)) ∧ (decode code 2130 = .ok (.iconst 2, 1)) ∧ (decode code 2131 = .ok (.iadd, 1)) ∧ (decode code 2132 = .ok (.iaload, 1)) ∧ (decode code 2133 = .ok (.aload_n 0, 1)) ∧ (decode code 2134 = .ok (.iload_n 3, 1)) ∧ (decode code 2135 = .ok (.iconst 3, 1)) ∧ (decode code 2136 = .ok (.iadd, 1)) ∧ (decode code 2137 = .ok (.iaload, 1)) := by decide +kernel
theorem dL_2112 : decode code 2112 = .ok (.iadd, 1) := dT_56.1
theorem dL_2113 : decode code 2113 = .ok (.iaload, 1) := dT_56.2.1
theorem dL_2114 : decode code 2114 = .ok (.aload_n 0, 1) := dT_56.2.2.1
theorem dL_2115 : decode code 2115 = .ok (.iload_n 3, 1) := dT_56.2.2.2.1
theorem dL_2116 : decode code 2116 = .ok (.iconst 3, 1) := dT_56.2.2.2.2.1
theorem dL_2117 : decode code 2117 = .ok (.iadd, 1) := dT_56.2.2.2.2.2.1
theorem dL_2118 : decode code 2118 = .ok (.iaload, 1) := dT_56.2.2.2.2.2.2.1
theorem dL_2119 : decode code 2119 = .ok (.invokevirtual 312, 3) := dT_56.2.2.2.2.2.2.2.1
theorem dL_2122 : decode code 2122 = .ok (.aload_n 2, 1) := dT_56.2.2.2.2.2.2.2.2.1
theorem dL_2123 : decode code 2123 = .ok (.aload_n 0, 1) := dT_56.2.2.2.2.2.2.2.2.2.1
theorem dL_2124 : decode code 2124 = .ok (.iload_n 3, 1) := dT_56.2.2.2.2.2.2.2.2.2.2.1
theorem dL_2125 : decode code 2125 = .ok (.iconst 1, 1) := dT_56.2.2.2.2.2.2.2.2.2.2.2.1
theorem dL_2126 : decode code 2126 = .ok (.iadd, 1) := dT_56.2.2.2.2.2.2.2.2.2.2.2.2.1
theorem dL_2127 : decode code 2127 = .ok (.iaload, 1) := dT_56.2.2.2.2.2.2.2.2.2.2.2.2.2.1
theorem dL_2128 : decode code 2128 = .ok (.aload_n 0, 1) := dT_56.2.2.2.2.2.2.2.2.2.2.2.2.2.2.1
theorem dL_2129 : decode code 2129 = .ok (.iload_n 3, 1) := dT_56.2.2.2.2.2.2.2.2.2.2.2.2.2.2.2.1
theorem dL_2130 : decode code 2130 = .ok (.iconst 2, 1) := dT_56.2.2.2.2.2.2.2.2.2.2.2.2.2.2.2.2.1
theorem dL_2131 : decode code 2131 = .ok (.iadd, 1) := dT_56.2.2.2.2.2.2.2.2.2.2.2.2.2.2.2.2.2.1
theorem dL_2132 : decode code 2132 = .ok (.iaload, 1) := dT_56.2.2.2.2.2.2.2.2.2.2.2.2.2.2.2.2.2.2.1
theorem dL_2133 : decode code 2133 = .ok (.aload_n 0, 1) := dT_56.2.2.2.2.2.2.2.2.2.2.2.2.2.2.2.2.2.2.2.1
theorem dL_2134 : decode code 2134 = .ok (.iload_n 3, 1) := dT_56.2.2.2.2.2.2.2.2.2.2.2.2.2.2.2.2.2.2.2.2.1
theorem dL_2135 : decode code 2135 = .ok (.iconst 3, 1) := dT_56.2.2.2.2.2.2.2.2.2.2.2.2.2.2.2.2.2.2.2.2.2.1
theorem dL_2136 : decode code 2136 = .ok (.iadd, 1) := dT_56.2.2.2.2.2.2.2.2.2.2.2.2.2.2.2.2.2.2.2.2.2.2.1
theorem dL_2137 : decode code 2137 = .ok (.iaload, 1) := dT_56.2.2.2.2.2.2.2.2.2.2.2.2.2.2.2.2.2.2.2.2.2.2.2
theorem dT_57 : (decode code 2138 = .ok (.invokevirtual 315, 3)) ∧ (decode code 2141 = .ok (.if_icmp .eq 141, 3)) ∧ (decode code 2144 = .ok (.iconst 0, 1)) ∧ (decode code 2145 = .ok (.ireturn, 1)) ∧ (decode code 2146 = .ok (.aload_n 1, 1)) ∧ (decode code 2147 = .ok (.aload_n 0, 1)) ∧ (decode code 2148 = .ok (.iload_n 3, 1)) ∧ (decode code 2149 = .ok (.iconst 1, 1)) ∧ (decode code 2150 = .ok (.iadd, 1)) ∧ (decode code 2151 = .ok (.iaload, 1)) ∧ (decode code 2152 = .ok (.aload_n 0, 1)) ∧ (decode code 2153 = .ok (.iload_n 3, 1)) ∧ (decode code 2154 = .ok (.iconst 2, 1)) ∧ (decode code 2155 = .ok (.iadd, 1)) ∧ (decode code 2156 = .ok (.iaload, 1)) ∧ (decode code 2157 = .ok (.aload_n 0, 1)) ∧ (decode code 2158 = .ok (.iload_n 3, 1)) ∧ (decode code 2159 = .ok (.iconst 3, 1)) ∧ (decode code 2160 = .ok (.iadd, 1)) ∧ (decode code 2161 = .ok (.iaload, 1)) ∧ (decode code 2162 = .ok (.i2l, 1)) ∧ (decode code 2163 = .ok (.bipush 32, 2)) ∧ (decode code 2165 = .ok (.lshl, 1)) ∧ (decode code 2166 = .ok (.aload_n 0, 1)) := by decide +kernel
theorem dL_2138 : decode code 2138 = .ok (.invokevirtual 315, 3) := dT_57.1
theorem dL_2141 : decode code 2141 = .ok (.if_icmp .eq 141, 3) := dT_57.2.1
theorem dL_2144 : decode code 2144 = .ok (.iconst 0, 1) := dT_57.2.2.1
theorem dL_2145 : decode code 2145 = .ok (.ireturn, 1) := dT_57.2.2.2.1
theorem dL_2146 : decode code 2146 = .ok (.aload_n 1, 1) := dT_57.2.2.2.2.1
theorem dL_2147 : decode code 2147 = .ok (.aload_n 0, 1) := dT_57.2.2.2.2.2.1
theorem dL_2148 : decode code 2148 = .ok (.iload_n 3, 1) := dT_57.2.2.2.2.2.2.1
theorem dL_2149 : decode code 2149 = .ok (.iconst 1, 1) := dT_57.2.2.2.2.2.2.2.1
theorem dL_2150 : decode code 2150 = .ok (.iadd, 1) := dT_57.2.2.2.2.2.2.2.2.1
theorem dL_2151 : decode code 2151 = .ok (.iaload, 1) := dT_57.2.2.2.2.2.2.2.2.2.1
theorem dL_2152 : decode code 2152 = .ok (.aload_n 0, 1) := dT_57.2.2.2.2.2.2.2.2.2.2.1
theorem dL_2153 : decode code 2153 = .ok (.iload_n 3, 1) := dT_57.2.2.2.2.2.2.2.2.2.2.2.1
theorem dL_2154 : decode code 2154 = .ok (.iconst 2, 1) := dT_57.2.2.2.2.2.2.2.2.2.2.2.2.1
theorem dL_2155 : decode code 2155 = .ok (.iadd, 1) := dT_57.2.2.2.2.2.2.2.2.2.2.2.2.2.1
theorem dL_2156 : decode code 2156 = .ok (.iaload, 1) := dT_57.2.2.2.2.2.2.2.2.2.2.2.2.2.2.1
theorem dL_2157 : decode code 2157 = .ok (.aload_n 0, 1) := dT_57.2.2.2.2.2.2.2.2.2.2.2.2.2.2.2.1
theorem dL_2158 : decode code 2158 = .ok (.iload_n 3, 1) := dT_57.2.2.2.2.2.2.2.2.2.2.2.2.2.2.2.2.1
theorem dL_2159 : decode code 2159 = .ok (.iconst 3, 1) := dT_57.2.2.2.2.2.2.2.2.2.2.2.2.2.2.2.2.2.1
theorem dL_2160 : decode code 2160 = .ok (.iadd, 1) := dT_57.2.2.2.2.2.2.2.2.2.2.2.2.2.2.2.2.2.2.1
theorem dL_2161 : decode code 2161 = .ok (.iaload, 1) := dT_57.2.2.2.2.2.2.2.2.2.2.2.2.2.2.2.2.2.2.2.1
theorem dL_2162 : decode code 2162 = .ok (.i2l, 1) := dT_57.2.2.2.2.2.2.2.2.2.2.2.2.2.2.2.2.2.2.2.2.1
theorem dL_2163 : decode code 2163 = .ok (.bipush 32, 2) := dT_57.2.2.2.2.2.2.2.2.2.2.2.2.2.2.2.2.2.2.2.2.2.1
theorem dL_2165 : decode code 2165 = .ok (.lshl, 1) := dT_57.2.2.2.2.2.2.2.2.2.2.2.2.2.2.2.2.2.2.2.2.2.2.1
theorem dL_2166 : decode code 2166 = .ok (.aload_n 0, 1) := dT_57.2.2.2.2.2.2.2.2.2.2.2.2.2.2.2.2.2.2.2.2.2.2.2
theorem dT_58 : (decode code 2167 = .ok (.iload_n 3, 1)) ∧ (decode code 2168 = .ok (.iconst 4, 1)) ∧ (decode code 2169 = .ok (.iadd, 1)) ∧ (decode code 2170 = .ok (.iaload, 1)) ∧ (decode code 2171 = .ok (.i2l, 1)) ∧ (decode code 2172 = .ok (.ldc2_w 316, 3)) ∧ (decode code 2175 = .ok (.land, 1)) ∧ (decode code 2176 = .ok (.lor, 1)) ∧ (decode code 2177 = .ok (.invokevirtual 318, 3)) ∧ (decode code 2180 = .ok (.aload_n 2, 1)) ∧ (decode code 2181 = .ok (.aload_n 0, 1)) ∧ (decode code 2182 = .ok (.iload_n 3, 1)) ∧ (decode code 2183 = .ok (.iconst 1, 1)) ∧ (decode code 2184 = .ok (.iadd, 1)) ∧ (decode code 2185 = .ok (.iaload, 1)) ∧ (decode code 2186 = .ok (.aload_n 0, 1)) ∧ (decode code 2187 = .ok (.iload_n 3, 1)) ∧ (decode code 2188 = .ok (.iconst 2, 1)) ∧ (decode code 2189 = .ok (.iadd, 1)) ∧ (decode code 2190 = .ok (.iaload, 1)) ∧ (decode code 2191 = .ok (.aload_n 0, 1)) ∧ (decode code 2192 = .ok (.iload_n 3, 1)) ∧ (decode code 2193 = .ok (.iconst 3, 1)) ∧ (decode code 2194 = .ok (.iadd, 1)) := by decide +kernel
theorem dL_2167 : decode code 2167 = .ok (.iload_n 3, 1) := dT_58.1
theorem dL_2168 : decode code 2168 = .ok (.iconst 4, 1) := dT_58.2.1
theorem dL_2169 : decode code 2169 = .ok (.iadd, 1) := dT_58.2.2.1
theorem dL_2170 : decode code 2170 = .ok (.iaload, 1) := dT_58.2.2.2.1
theorem dL_2171 : decode code 2171 = .ok (.i2l, 1) := dT_58.2.2.2.2.1
theorem dL_2172 : decode code 2172 = .ok (.ldc2_w 316, 3) := dT_58.2.2.2.2.2.1
theorem dL_2175 : decode code 2175 = .ok (.land, 1) := dT_58.2.2.2.2.2.2.1
theorem dL_2176 : decode code 2176 = .ok (.lor, 1) := dT_58.2.2.2.2.2.2.2.1
theorem dL_2177 : decode code 2177 = .ok (.invokevirtual 318, 3) := dT_58.2.2.2.2.2.2.2.2.1
theorem dL_2180 : decode code 2180 = .ok (.aload_n 2, 1) := dT_58.2.2.2.2.2.2.2.2.2.1
theorem dL_2181 : decode code 2181 = .ok (.aload_n 0, 1) := dT_58.2.2.2.2.2.2.2.2.2.2.1
theorem dL_2182 : decode code 2182 = .ok (.iload_n 3, 1) := dT_58.2.2.2.2.2.2.2.2.2.2.2.1
theorem dL_2183 : decode code 2183 = .ok (.iconst 1, 1) := dT_58.2.2.2.2.2.2.2.2.2.2.2.2.1
theorem dL_2184 : decode code 2184 = .ok (.iadd, 1) := dT_58.2.2.2.2.2.2.2.2.2.2.2.2.2.1
theorem dL_2185 : decode code 2185 = .ok (.iaload, 1) := dT_58.2.2.2.2.2.2.2.2.2.2.2.2.2.2.1
theorem dL_2186 : decode code 2186 = .ok (.aload_n 0, 1) := dT_58.2.2.2.2.2.2.2.2.2.2.2.2.2.2.2.1
theorem dL_2187 : decode code 2187 = .ok (.iload_n 3, 1) := dT_58.2.2.2.2.2.2.2.2.2.2.2.2.2.2.2.2.1
theorem dL_2188 : decode code 2188 = .ok (.iconst 2, 1) := dT_58.2.2.2.2.2.2.2.2.2.2.2.2.2.2.2.2.2.1
theorem dL_2189 : decode code 2189 = .ok (.iadd, 1) := dT_58.2.2.2.2.2.2.2.2.2.2.2.2.2.2.2.2.2.2.1
theorem dL_2190 : decode code 2190 = .ok (.iaload, 1) := dT_58.2.2.2.2.2.2.2.2.2.2.2.2.2.2.2.2.2.2.2.1
theorem dL_2191 : decode code 2191 = .ok (.aload_n 0, 1) := dT_58.2.2.2.2.2.2.2.2.2.2.2.2.2.2.2.2.2.2.2.2.1
theorem dL_2192 : decode code 2192 = .ok (.iload_n 3, 1) := dT_58.2.2.2.2.2.2.2.2.2.2.2.2.2.2.2.2.2.2.2.2.2.1
theorem dL_2193 : decode code 2193 = .ok (.iconst 3, 1) := dT_58.2.2.2.2.2.2.2.2.2.2.2.2.2.2.2.2.2.2.2.2.2.2.1
theorem dL_2194 : decode code 2194 = .ok (.iadd, 1) := dT_58.2.2.2.2.2.2.2.2.2.2.2.2.2.2.2.2.2.2.2.2.2.2.2
theorem dT_59 : (decode code 2195 = .ok (.iaload, 1)) ∧ (decode code 2196 = .ok (.i2l, 1)) ∧ (decode code 2197 = .ok (.bipush 32, 2)) ∧ (decode code 2199 = .ok (.lshl, 1)) ∧ (decode code 2200 = .ok (.aload_n 0, 1)) ∧ (decode code 2201 = .ok (.iload_n 3, 1)) ∧ (decode code 2202 = .ok (.iconst 4, 1)) ∧ (decode code 2203 = .ok (.iadd, 1)) ∧ (decode code 2204 = .ok (.iaload, 1)) ∧ (decode code 2205 = .ok (.i2l, 1)) ∧ (decode code 2206 = .ok (.ldc2_w 316, 3)) ∧ (decode code 2209 = .ok (.land, 1)) ∧ (decode code 2210 = .ok (.lor, 1)) ∧ (decode code 2211 = .ok (.invokevirtual 322, 3)) ∧ (decode code 2214 = .ok (.if_icmp .eq 68, 3)) ∧ (decode code 2217 = .ok (.iconst 0, 1)) ∧ (decode code 2218 = .ok (.ireturn, 1)) ∧ (decode code 2219 = .ok (.aload_n 1, 1)) ∧ (decode code 2220 = .ok (.aload_n 0, 1)) ∧ (decode code 2221 = .ok (.iload_n 3, 1)) ∧ (decode code 2222 = .ok (.iconst 1, 1)) ∧ (decode code 2223 = .ok (.iadd, 1)) ∧ (decode code 2224 = .ok (.iaload, 1)) ∧ (decode code 2225 = .ok (.aload_n 0, 1)) := by decide +kernel
theorem dL_2195 : decode code 2195 = .ok (.iaload, 1) := dT_59.1
theorem dL_2196 : decode code 2196 = .ok (.i2l, 1) := dT_59.2.1
theorem dL_2197 : decode code 2197 = .ok (.bipush 32, 2) := dT_59.2.2.1
theorem dL_2199 : decode code 2199 = .ok (.lshl, 1) := dT_59.2.2.2.1
theorem dL_2200 : decode code 2200 = .ok (.aload_n 0, 1) := dT_59.2.2.2.2.1
theorem dL_2201 : decode code 2201 = .ok (.iload_n 3, 1) := dT_59.2.2.2.2.2.1
theorem dL_2202 : decode code 2202 = .ok (.iconst 4, 1) := dT_59.2.2.2.2.2.2.1
theorem dL_2203 : decode code 2203 = .ok (.iadd, 1) := dT_59.2.2.2.2.2.2.2.1
theorem dL_2204 : decode code 2204 = .ok (.iaload, 1) := dT_59.2.2.2.2.2.2.2.2.1
theorem dL_2205 : decode code 2205 = .ok (.i2l, 1) := dT_59.2.2.2.2.2.2.2.2.2.1
theorem dL_2206 : decode code 2206 = .ok (.ldc2_w 316, 3) := dT_59.2.2.2.2.2.2.2.2.2.2.1
theorem dL_2209 : decode code 2209 = .ok (.land, 1) := dT_59.2.2.2.2.2.2.2.2.2.2.2.1
theorem dL_2210 : decode code 2210 = .ok (.lor, 1) := dT_59.2.2.2.2.2.2.2.2.2.2.2.2.1
theorem dL_2211 : decode code 2211 = .ok (.invokevirtual 322, 3) := dT_59.2.2.2.2.2.2.2.2.2.2.2.2.2.1
theorem dL_2214 : decode code 2214 = .ok (.if_icmp .eq 68, 3) := dT_59.2.2.2.2.2.2.2.2.2.2.2.2.2.2.1
theorem dL_2217 : decode code 2217 = .ok (.iconst 0, 1) := dT_59.2.2.2.2.2.2.2.2.2.2.2.2.2.2.2.1
theorem dL_2218 : decode code 2218 = .ok (.ireturn, 1) := dT_59.2.2.2.2.2.2.2.2.2.2.2.2.2.2.2.2.1
theorem dL_2219 : decode code 2219 = .ok (.aload_n 1, 1) := dT_59.2.2.2.2.2.2.2.2.2.2.2.2.2.2.2.2.2.1
theorem dL_2220 : decode code 2220 = .ok (.aload_n 0, 1) := dT_59.2.2.2.2.2.2.2.2.2.2.2.2.2.2.2.2.2.2.1
theorem dL_2221 : decode code 2221 = .ok (.iload_n 3, 1) := dT_59.2.2.2.2.2.2.2.2.2.2.2.2.2.2.2.2.2.2.2.1
theorem dL_2222 : decode code 2222 = .ok (.iconst 1, 1) := dT_59.2.2.2.2.2.2.2.2.2.2.2.2.2.2.2.2.2.2.2.2.1
theorem dL_2223 : decode code 2223 = .ok (.iadd, 1) := dT_59.2.2.2.2.2.2.2.2.2.2.2.2.2.2.2.2.2.2.2.2.2.1
theorem dL_2224 : decode code 2224 = .ok (.iaload, 1) := dT_59.2.2.2.2.2.2.2.2.2.2.2.2.2.2.2.2.2.2.2.2.2.2.1
theorem dL_2225 : decode code 2225 = .ok (.aload_n 0, 1) := dT_59.2.2.2.2.2.2.2.2.2.2.2.2.2.2.2.2.2.2.2.2.2.2.2
theorem dT_60 : (decode code 2226 = .ok (.iload_n 3, 1)) ∧ (decode code 2227 = .ok (.iconst 2, 1)) ∧ (decode code 2228 = .ok (.iadd, 1)) ∧ (decode code 2229 = .ok (.iaload, 1)) ∧ (decode code 2230 = .ok (.aload_n 0, 1)) ∧ (decode code 2231 = .ok (.iload_n 3, 1)) ∧ (decode code 2232 = .ok (.iconst 3, 1)) ∧ (decode code 2233 = .ok (.iadd, 1)) ∧ (decode code 2234 = .ok (.iaload, 1)) ∧ (decode code 2235 = .ok (.aload_n 0, 1)) ∧ (decode code 2236 = .ok (.iload_n 3, 1)) ∧ (decode code 2237 = .ok (.iconst 4, 1)) ∧ (decode code 2238 = .ok (.iadd, 1)) ∧ (decode code 2239 = .ok (.iaload, 1)) ∧ (decode code 2240 = .ok (.aload_n 0, 1)) ∧ (decode code 2241 = .ok (.iload_n 3, 1)) ∧ (decode code 2242 = .ok (.iconst 5, 1)) ∧ (decode code 2243 = .ok (.iadd, 1)) ∧ (decode code 2244 = .ok (.iaload, 1)) ∧ (decode code 2245 = .ok (.invokevirtual 323, 3)) ∧ (decode code 2248 = .ok (.aload_n 2, 1)) ∧ (decode code 2249 = .ok (.aload_n 0, 1)) ∧ (decode code 2250 = .ok (.iload_n 3, 1)) ∧ (decode code 2251 = .ok (.iconst 1, 1)) := by decide +kernel
theorem dL_2226 : decode code 2226 = .ok (.iload_n 3, 1) := dT_60.1
theorem dL_2227 : decode code 2227 = .ok (.iconst 2, 1) := dT_60.2.1
theorem dL_2228 : decode code 2228 = .ok (.iadd, 1) := dT_60.2.2.1
theorem dL_2229 : decode code 2229 = .ok (.iaload, 1) := dT_60.2.2.2.1
theorem dL_2230 : decode code 2230 = .ok (.aload_n 0, 1) := dT_60.2.2.2.2.1
theorem dL_2231 : decode code 2231 = .ok (.iload_n 3, 1) := dT_60.2.2.2.2.2.1
theorem dL_2232 : decode code 2232 = .ok (.iconst 3, 1) := dT_60.2.2.2.2.2.2.1
theorem dL_2233 : decode code 2233 = .ok (.iadd, 1) := dT_60.2.2.2.2.2.2.2.1
theorem dL_2234 : decode code 2234 = .ok (.iaload, 1) := dT_60.2.2.2.2.2.2.2.2.1
theorem dL_2235 : decode code 2235 = .ok (.aload_n 0, 1) := dT_60.2.2.2.2.2.2.2.2.2.1
theorem dL_2236 : decode code 2236 = .ok (.iload_n 3, 1) := dT_60.2.2.2.2.2.2.2.2.2.2.1
theorem dL_2237 : decode code 2237 = .ok (.iconst 4, 1) := dT_60.2.2.2.2.2.2.2.2.2.2.2.1
theorem dL_2238 : decode code 2238 = .ok (.iadd, 1) := dT_60.2.2.2.2.2.2.2.2.2.2.2.2.1
theorem dL_2239 : decode code 2239 = .ok (.iaload, 1) := dT_60.2.2.2.2.2.2.2.2.2.2.2.2.2.1
theorem dL_2240 : decode code 2240 = .ok (.aload_n 0, 1) := dT_60.2.2.2.2.2.2.2.2.2.2.2.2.2.2.1
theorem dL_2241 : decode code 2241 = .ok (.iload_n 3, 1) := dT_60.2.2.2.2.2.2.2.2.2.2.2.2.2.2.2.1
theorem dL_2242 : decode code 2242 = .ok (.iconst 5, 1) := dT_60.2.2.2.2.2.2.2.2.2.2.2.2.2.2.2.2.1
theorem dL_2243 : decode code 2243 = .ok (.iadd, 1) := dT_60.2.2.2.2.2.2.2.2.2.2.2.2.2.2.2.2.2.1
theorem dL_2244 : decode code 2244 = .ok (.iaload, 1) := dT_60.2.2.2.2.2.2.2.2.2.2.2.2.2.2.2.2.2.2.1
theorem dL_2245 : decode code 2245 = .ok (.invokevirtual 323, 3) := dT_60.2.2.2.2.2.2.2.2.2.2.2.2.2.2.2.2.2.2.2.1
theorem dL_2248 : decode code 2248 = .ok (.aload_n 2, 1) := dT_60.2.2.2.2.2.2.2.2.2.2.2.2.2.2.2.2.2.2.2.2.1
theorem dL_2249 : decode code 2249 = .ok (.aload_n 0, 1) := dT_60.2.2.2.2.2.2.2.2.2.2.2.2.2.2.2.2.2.2.2.2.2.1
theorem dL_2250 : decode code 2250 = .ok (.iload_n 3, 1) := dT_60.2.2.2.2.2.2.2.2.2.2.2.2.2.2.2.2.2.2.2.2.2.2.1
theorem dL_2251 : decode code 2251 = .ok (.iconst 1, 1) := dT_60.2.2.2.2.2.2.2.2.2.2.2.2.2.2.2.2.2.2.2.2.2.2.2
theorem dT_61 : (decode code 2252 = .ok (.iadd, 1)) ∧ (decode code 2253 = .ok (.iaload, 1)) ∧ (decode code 2254 = .ok (.aload_n 0, 1)) ∧ (decode code 2255 = .ok (.iload_n 3, 1)) ∧ (decode code 2256 = .ok (.iconst 2, 1)) ∧ (decode code 2257 = .ok (.iadd, 1)) ∧ (decode code 2258 = .ok (.iaload, 1)) ∧ (decode code 2259 = .ok (.aload_n 0, 1)) ∧ (decode code 2260 = .ok (.iload_n 3, 1)) ∧ (decode code 2261 = .ok (.iconst 3, 1)) ∧ (decode code 2262 = .ok (.iadd, 1)) ∧ (decode code 2263 = .ok (.iaload, 1)) ∧ (decode code 2264 = .ok (.aload_n 0, 1)) ∧ (decode code 2265 = .ok (.iload_n 3, 1)) ∧ (decode code 2266 = .ok (.iconst 4, 1)) ∧ (decode code 2267 = .ok (.iadd, 1)) ∧ (decode code 2268 = .ok (.iaload, 1)) ∧ (decode code 2269 = .ok (.aload_n 0, 1)) ∧ (decode code 2270 = .ok (.iload_n 3, 1)) ∧ (decode code 2271 = .ok (.iconst 5, 1)) ∧ (decode code 2272 = .ok (.iadd, 1)) ∧ (decode code 2273 = .ok (.iaload, 1)) ∧ (decode code 2274 = .ok (.invokevirtual 326, 3)) ∧ (decode code 2277 = .ok (.if_icmp .eq 5, 3)) := by decide +kernel
theorem dL_2252 : decode code 2252 = .ok (.iadd, 1) := dT_61.1
theorem dL_2253 : decode code 2253 = .ok (.iaload, 1) := dT_61.2.1
theorem dL_2254 : decode code 2254 = .ok (.aload_n 0, 1) := dT_61.2.2.1
theorem dL_2255 : decode code 2255 = .ok (.iload_n 3, 1) := dT_61.2.2.2.1
theorem dL_2256 : decode code 2256 = .ok (.iconst 2, 1) := dT_61.2.2.2.2.1
theorem dL_2257 : decode code 2257 = .ok (.iadd, 1) := dT_61.2.2.2.2.2.1
theorem dL_2258 : decode code 2258 = .ok (.iaload, 1) := dT_61.2.2.2.2.2.2.1
theorem dL_2259 : decode code 2259 = .ok (.aload_n 0, 1) := dT_61.2.2.2.2.2.2.2.1
theorem dL_2260 : decode code 2260 = .ok (.iload_n 3, 1) := dT_61.2.2.2.2.2.2.2.2.1
theorem dL_2261 : decode code 2261 = .ok (.iconst 3, 1) := dT_61.2.2.2.2.2.2.2.2.2.1
theorem dL_2262 : decode code 2262 = .ok (.iadd, 1) := dT_61.2.2.2.2.2.2.2.2.2.2.1
theorem dL_2263 : decode code 2263 = .ok (.iaload, 1) := dT_61.2.2.2.2.2.2.2.2.2.2.2.1
theorem dL_2264 : decode code 2264 = .ok (.aload_n 0, 1) := dT_61.2.2.2.2.2.2.2.2.2.2.2.2.1
theorem dL_2265 : decode code 2265 = .ok (.iload_n 3, 1) := dT_61.2.2.2.2.2.2.2.2.2.2.2.2.2.1
theorem dL_2266 : decode code 2266 = .ok (.iconst 4, 1) := dT_61.2.2.2.2.2.2.2.2.2.2.2.2.2.2.1
theorem dL_2267 : decode code 2267 = .ok (.iadd, 1) := dT_61.2.2.2.2.2.2.2.2.2.2.2.2.2.2.2.1
theorem dL_2268 : decode code 2268 = .ok (.iaload, 1) := dT_61.2.2.2.2.2.2.2.2.2.2.2.2.2.2.2.2.1
theorem dL_2269 : decode code 2269 = .ok (.aload_n 0, 1) := dT_61.2.2.2.2.2.2.2.2.2.2.2.2.2.2.2.2.2.1
theorem dL_2270 : decode code 2270 = .ok (.iload_n 3, 1) := dT_61.2.2.2.2.2.2.2.2.2.2.2.2.2.2.2.2.2.2.1
theorem dL_2271 : decode code 2271 = .ok (.iconst 5, 1) := dT_61.2.2.2.2.2.2.2.2.2.2.2.2.2.2.2.2.2.2.2.1
theorem dL_2272 : decode code 2272 = .ok (.iadd, 1) := dT_61.2.2.2.2.2.2.2.2.2.2.2.2.2.2.2.2.2.2.2.2.1
theorem dL_2273 : decode code 2273 = .ok (.iaload, 1) := dT_61.2.2.2.2.2.2.2.2.2.2.2.2.2.2.2.2.2.2.2.2.2.1
theorem dL_2274 : decode code 2274 = .ok (.invokevirtual 326, 3) := dT_61.2.2.2.2.2.2.2.2.2.2.2.2.2.2.2.2.2.2.2.2.2.2.1
theorem dL_2277 : decode code 2277 = .ok (.if_icmp .eq 5, 3) := dT_61.2.2.2.2.2.2.2.2.2.2.2.2.2.2.2.2.2.2.2.2.2.2.2
theorem dT_62 : (decode code 2280 = .ok (.iconst 0, 1)) ∧ (decode code 2281 = .ok (.ireturn, 1)) ∧ (decode code 2282 = .ok (.iinc 3 6, 3)) ∧ (decode code 2285 = .ok (.goto (-2267), 3)) ∧ (decode code 2288 = .ok (.iconst 1, 1)) ∧ (decode code 2289 = .ok (.ireturn, 1)) := by decide +kernel
theorem dL_2280 : decode code 2280 = .ok (.iconst 0, 1) := dT_62.1
theorem dL_2281 : decode code 2281 = .ok (.ireturn, 1) := dT_62.2.1
theorem dL_2282 : decode code 2282 = .ok (.iinc 3 6, 3) := dT_62.2.2.1
theorem dL_2285 : decode code 2285 = .ok (.goto (-2267), 3) := dT_62.2.2.2.1
theorem dL_2288 : decode code 2288 = .ok (.iconst 1, 1) := dT_62.2.2.2.2.1
theorem dL_2289 : decode code 2289 = .ok (.ireturn, 1) := dT_62.2.2.2.2.2
theorem cfX9_feed : hCF yX9_feed cX9_feed 6 (some .int) 5 := ⟨hWS_in (i := 370) (by decide +kernel) (by decide +kernel), hWS_in (i := 371) (by decide +kernel) (by decide +kernel), hWS_in (i := 1) (by decide +kernel) (by decide +kernel), hWS_in (i := 372) (by decide +kernel) (by decide +kernel), by decide +kernel⟩
theorem cfX10_feed : hCF yX10_feed cX10_feed 7 (some .int) 5 := ⟨hWS_in (i := 1356) (by decide +kernel) (by decide +kernel), hWS_in (i := 1357) (by decide +kernel) (by decide +kernel), hWS_in (i := 11) (by decide +kernel) (by decide +kernel), hWS_in (i := 1358) (by decide +kernel) (by decide +kernel), by decide +kernel⟩
theorem cfX9_end : hCF yX9_end cX9_end 2 (some .int) 1 := ⟨hWS_in (i := 378) (by decide +kernel) (by decide +kernel), hWS_in (i := 379) (by decide +kernel) (by decide +kernel), hWS_in (i := 1) (by decide +kernel) (by decide +kernel), hWS_in (i := 380) (by decide +kernel) (by decide +kernel), by decide +kernel⟩
theorem cfX10_end : hCF yX10_end cX10_end 2 (some .int) 1 := ⟨hWS_in (i := 1360) (by decide +kernel) (by decide +kernel), hWS_in (i := 1361) (by decide +kernel) (by decide +kernel), hWS_in (i := 11) (by decide +kernel) (by decide +kernel), hWS_in (i := 1362) (by decide +kernel) (by decide +kernel), by decide +kernel⟩
theorem cfX9_camp : hCF yX9_camp cX9_camp 3 (some .int) 0 := ⟨hWS_in (i := 382) (by decide +kernel) (by decide +kernel), hWS_in (i := 383) (by decide +kernel) (by decide +kernel), hWS_in (i := 1) (by decide +kernel) (by decide +kernel), hWS_in (i := 384) (by decide +kernel) (by decide +kernel), by decide +kernel⟩
theorem cfX10_camp : hCF yX10_camp cX10_camp 2 (some .int) 0 := ⟨hWS_in (i := 1368) (by decide +kernel) (by decide +kernel), hWS_in (i := 1369) (by decide +kernel) (by decide +kernel), hWS_in (i := 11) (by decide +kernel) (by decide +kernel), hWS_in (i := 1370) (by decide +kernel) (by decide +kernel), by decide +kernel⟩
theorem cfX9_fault : hCF yX9_fault cX9_fault 2 (some .int) 1 := ⟨hWS_in (i := 509) (by decide +kernel) (by decide +kernel), hWS_in (i := 510) (by decide +kernel) (by decide +kernel), hWS_in (i := 1) (by decide +kernel) (by decide +kernel), hWS_in (i := 511) (by decide +kernel) (by decide +kernel), by decide +kernel⟩
theorem cfX10_fault : hCF yX10_fault cX10_fault 2 (some .int) 1 := ⟨hWS_in (i := 1364) (by decide +kernel) (by decide +kernel), hWS_in (i := 1365) (by decide +kernel) (by decide +kernel), hWS_in (i := 11) (by decide +kernel) (by decide +kernel), hWS_in (i := 1366) (by decide +kernel) (by decide +kernel), by decide +kernel⟩
theorem cfX9_augur : hCF yX9_augur cX9_augur 3 (some .int) 2 := ⟨hWS_in (i := 513) (by decide +kernel) (by decide +kernel), hWS_in (i := 514) (by decide +kernel) (by decide +kernel), hWS_in (i := 1) (by decide +kernel) (by decide +kernel), hWS_in (i := 515) (by decide +kernel) (by decide +kernel), by decide +kernel⟩
theorem cfX10_augur : hCF yX10_augur cX10_augur 3 (some .int) 2 := ⟨hWS_in (i := 1449) (by decide +kernel) (by decide +kernel), hWS_in (i := 1450) (by decide +kernel) (by decide +kernel), hWS_in (i := 11) (by decide +kernel) (by decide +kernel), hWS_in (i := 1451) (by decide +kernel) (by decide +kernel), by decide +kernel⟩
theorem cfX9_bill : hCF yX9_bill cX9_bill 3 (some .int) 2 := ⟨hWS_in (i := 521) (by decide +kernel) (by decide +kernel), hWS_in (i := 522) (by decide +kernel) (by decide +kernel), hWS_in (i := 1) (by decide +kernel) (by decide +kernel), hWS_in (i := 523) (by decide +kernel) (by decide +kernel), by decide +kernel⟩
theorem cfX10_bill : hCF yX10_bill cX10_bill 3 (some .int) 2 := ⟨hWS_in (i := 1461) (by decide +kernel) (by decide +kernel), hWS_in (i := 1462) (by decide +kernel) (by decide +kernel), hWS_in (i := 11) (by decide +kernel) (by decide +kernel), hWS_in (i := 1463) (by decide +kernel) (by decide +kernel), by decide +kernel⟩
theorem cfX9_marks : hCF yX9_marks cX9_marks 1 (some .int) 0 := ⟨hWS_in (i := 529) (by decide +kernel) (by decide +kernel), hWS_in (i := 530) (by decide +kernel) (by decide +kernel), hWS_in (i := 1) (by decide +kernel) (by decide +kernel), hWS_in (i := 531) (by decide +kernel) (by decide +kernel), by decide +kernel⟩
theorem cfX10_marks : hCF yX10_marks cX10_marks 1 (some .int) 0 := ⟨hWS_in (i := 1473) (by decide +kernel) (by decide +kernel), hWS_in (i := 1474) (by decide +kernel) (by decide +kernel), hWS_in (i := 11) (by decide +kernel) (by decide +kernel), hWS_in (i := 1475) (by decide +kernel) (by decide +kernel), by decide +kernel⟩
theorem cfX9_sky : hCF yX9_sky cX9_sky 2 (some .int) 1 := ⟨hWS_in (i := 537) (by decide +kernel) (by decide +kernel), hWS_in (i := 538) (by decide +kernel) (by decide +kernel), hWS_in (i := 1) (by decide +kernel) (by decide +kernel), hWS_in (i := 539) (by decide +kernel) (by decide +kernel), by decide +kernel⟩
theorem cfX10_sky : hCF yX10_sky cX10_sky 2 (some .int) 1 := ⟨hWS_in (i := 1481) (by decide +kernel) (by decide +kernel), hWS_in (i := 1482) (by decide +kernel) (by decide +kernel), hWS_in (i := 11) (by decide +kernel) (by decide +kernel), hWS_in (i := 1483) (by decide +kernel) (by decide +kernel), by decide +kernel⟩
theorem cfX9_watch : hCF yX9_watch cX9_watch 2 (some .int) 1 := ⟨hWS_in (i := 564) (by decide +kernel) (by decide +kernel), hWS_in (i := 565) (by decide +kernel) (by decide +kernel), hWS_in (i := 1) (by decide +kernel) (by decide +kernel), hWS_in (i := 566) (by decide +kernel) (by decide +kernel), by decide +kernel⟩
theorem cfX10_watch : hCF yX10_watch cX10_watch 4 (some .int) 1 := ⟨hWS_in (i := 1508) (by decide +kernel) (by decide +kernel), hWS_in (i := 1509) (by decide +kernel) (by decide +kernel), hWS_in (i := 11) (by decide +kernel) (by decide +kernel), hWS_in (i := 1510) (by decide +kernel) (by decide +kernel), by decide +kernel⟩
theorem cfX9_hunger : hCF yX9_hunger cX9_hunger 2 (some .int) 1 := ⟨hWS_in (i := 576) (by decide +kernel) (by decide +kernel), hWS_in (i := 577) (by decide +kernel) (by decide +kernel), hWS_in (i := 1) (by decide +kernel) (by decide +kernel), hWS_in (i := 578) (by decide +kernel) (by decide +kernel), by decide +kernel⟩
theorem cfX10_hunger : hCF yX10_hunger cX10_hunger 2 (some .int) 1 := ⟨hWS_in (i := 1516) (by decide +kernel) (by decide +kernel), hWS_in (i := 1517) (by decide +kernel) (by decide +kernel), hWS_in (i := 11) (by decide +kernel) (by decide +kernel), hWS_in (i := 1518) (by decide +kernel) (by decide +kernel), by decide +kernel⟩
theorem cfX9_eat : hCF yX9_eat cX9_eat 3 (some .int) 0 := ⟨hWS_in (i := 624) (by decide +kernel) (by decide +kernel), hWS_in (i := 625) (by decide +kernel) (by decide +kernel), hWS_in (i := 1) (by decide +kernel) (by decide +kernel), hWS_in (i := 626) (by decide +kernel) (by decide +kernel), by decide +kernel⟩
theorem cfX10_eat : hCF yX10_eat cX10_eat 3 (some .int) 0 := ⟨hWS_in (i := 1553) (by decide +kernel) (by decide +kernel), hWS_in (i := 1554) (by decide +kernel) (by decide +kernel), hWS_in (i := 11) (by decide +kernel) (by decide +kernel), hWS_in (i := 1555) (by decide +kernel) (by decide +kernel), by decide +kernel⟩
theorem cfX9_open : hCF yX9_open cX9_open 5 (some .int) 1 := ⟨hWS_in (i := 628) (by decide +kernel) (by decide +kernel), hWS_in (i := 629) (by decide +kernel) (by decide +kernel), hWS_in (i := 1) (by decide +kernel) (by decide +kernel), hWS_in (i := 630) (by decide +kernel) (by decide +kernel), by decide +kernel⟩
theorem cfX10_open : hCF yX10_open cX10_open 6 (some .int) 1 := ⟨hWS_in (i := 1557) (by decide +kernel) (by decide +kernel), hWS_in (i := 1558) (by decide +kernel) (by decide +kernel), hWS_in (i := 11) (by decide +kernel) (by decide +kernel), hWS_in (i := 1559) (by decide +kernel) (by decide +kernel), by decide +kernel⟩
theorem cfX9_best : hCF yX9_best cX9_best 5 (some .int) 1 := ⟨hWS_in (i := 636) (by decide +kernel) (by decide +kernel), hWS_in (i := 637) (by decide +kernel) (by decide +kernel), hWS_in (i := 1) (by decide +kernel) (by decide +kernel), hWS_in (i := 638) (by decide +kernel) (by decide +kernel), by decide +kernel⟩
theorem cfX10_best : hCF yX10_best cX10_best 5 (some .int) 1 := ⟨hWS_in (i := 1561) (by decide +kernel) (by decide +kernel), hWS_in (i := 1562) (by decide +kernel) (by decide +kernel), hWS_in (i := 11) (by decide +kernel) (by decide +kernel), hWS_in (i := 1563) (by decide +kernel) (by decide +kernel), by decide +kernel⟩
theorem cfX9_asked : hCF yX9_asked cX9_asked 1 (some .int) 0 := ⟨hWS_in (i := 640) (by decide +kernel) (by decide +kernel), hWS_in (i := 641) (by decide +kernel) (by decide +kernel), hWS_in (i := 1) (by decide +kernel) (by decide +kernel), hWS_in (i := 642) (by decide +kernel) (by decide +kernel), by decide +kernel⟩
theorem cfX10_asked : hCF yX10_asked cX10_asked 1 (some .int) 0 := ⟨hWS_in (i := 1565) (by decide +kernel) (by decide +kernel), hWS_in (i := 1566) (by decide +kernel) (by decide +kernel), hWS_in (i := 11) (by decide +kernel) (by decide +kernel), hWS_in (i := 1567) (by decide +kernel) (by decide +kernel), by decide +kernel⟩
theorem cfX9_fattened : hCF yX9_fattened cX9_fattened 1 (some .int) 0 := ⟨hWS_in (i := 648) (by decide +kernel) (by decide +kernel), hWS_in (i := 649) (by decide +kernel) (by decide +kernel), hWS_in (i := 1) (by decide +kernel) (by decide +kernel), hWS_in (i := 650) (by decide +kernel) (by decide +kernel), by decide +kernel⟩
theorem cfX10_fattened : hCF yX10_fattened cX10_fattened 1 (some .int) 0 := ⟨hWS_in (i := 1573) (by decide +kernel) (by decide +kernel), hWS_in (i := 1574) (by decide +kernel) (by decide +kernel), hWS_in (i := 11) (by decide +kernel) (by decide +kernel), hWS_in (i := 1575) (by decide +kernel) (by decide +kernel), by decide +kernel⟩
theorem cfX9_fast : hCF yX9_fast cX9_fast 1 (some .int) 0 := ⟨hWS_in (i := 656) (by decide +kernel) (by decide +kernel), hWS_in (i := 657) (by decide +kernel) (by decide +kernel), hWS_in (i := 1) (by decide +kernel) (by decide +kernel), hWS_in (i := 658) (by decide +kernel) (by decide +kernel), by decide +kernel⟩
theorem cfX10_fast : hCF yX10_fast cX10_fast 1 (some .int) 0 := ⟨hWS_in (i := 1577) (by decide +kernel) (by decide +kernel), hWS_in (i := 1578) (by decide +kernel) (by decide +kernel), hWS_in (i := 11) (by decide +kernel) (by decide +kernel), hWS_in (i := 1579) (by decide +kernel) (by decide +kernel), by decide +kernel⟩
theorem cfX9_first : hCF yX9_first cX9_first 3 (some .int) 1 := ⟨hWS_in (i := 668) (by decide +kernel) (by decide +kernel), hWS_in (i := 669) (by decide +kernel) (by decide +kernel), hWS_in (i := 1) (by decide +kernel) (by decide +kernel), hWS_in (i := 670) (by decide +kernel) (by decide +kernel), by decide +kernel⟩
theorem cfX10_first : hCF yX10_first cX10_first 3 (some .int) 1 := ⟨hWS_in (i := 1590) (by decide +kernel) (by decide +kernel), hWS_in (i := 1591) (by decide +kernel) (by decide +kernel), hWS_in (i := 11) (by decide +kernel) (by decide +kernel), hWS_in (i := 1592) (by decide +kernel) (by decide +kernel), by decide +kernel⟩
theorem cfX9_passed : hCF yX9_passed cX9_passed 2 (some .int) 1 := ⟨hWS_in (i := 676) (by decide +kernel) (by decide +kernel), hWS_in (i := 677) (by decide +kernel) (by decide +kernel), hWS_in (i := 1) (by decide +kernel) (by decide +kernel), hWS_in (i := 678) (by decide +kernel) (by decide +kernel), by decide +kernel⟩
theorem cfX10_passed : hCF yX10_passed cX10_passed 2 (some .int) 1 := ⟨hWS_in (i := 1594) (by decide +kernel) (by decide +kernel), hWS_in (i := 1595) (by decide +kernel) (by decide +kernel), hWS_in (i := 11) (by decide +kernel) (by decide +kernel), hWS_in (i := 1596) (by decide +kernel) (by decide +kernel), by decide +kernel⟩
theorem cfX9_when : hCF yX9_when cX9_when 2 (some .int) 1 := ⟨hWS_in (i := 684) (by decide +kernel) (by decide +kernel), hWS_in (i := 685) (by decide +kernel) (by decide +kernel), hWS_in (i := 1) (by decide +kernel) (by decide +kernel), hWS_in (i := 686) (by decide +kernel) (by decide +kernel), by decide +kernel⟩
theorem cfX10_when : hCF yX10_when cX10_when 2 (some .int) 1 := ⟨hWS_in (i := 1598) (by decide +kernel) (by decide +kernel), hWS_in (i := 1599) (by decide +kernel) (by decide +kernel), hWS_in (i := 11) (by decide +kernel) (by decide +kernel), hWS_in (i := 1600) (by decide +kernel) (by decide +kernel), by decide +kernel⟩
theorem cfX9_why : hCF yX9_why cX9_why 2 (some .int) 1 := ⟨hWS_in (i := 688) (by decide +kernel) (by decide +kernel), hWS_in (i := 689) (by decide +kernel) (by decide +kernel), hWS_in (i := 1) (by decide +kernel) (by decide +kernel), hWS_in (i := 690) (by decide +kernel) (by decide +kernel), by decide +kernel⟩
theorem cfX10_why : hCF yX10_why cX10_why 2 (some .int) 1 := ⟨hWS_in (i := 1606) (by decide +kernel) (by decide +kernel), hWS_in (i := 1607) (by decide +kernel) (by decide +kernel), hWS_in (i := 11) (by decide +kernel) (by decide +kernel), hWS_in (i := 1608) (by decide +kernel) (by decide +kernel), by decide +kernel⟩
theorem cfX9_worth : hCF yX9_worth cX9_worth 2 (some .int) 1 := ⟨hWS_in (i := 692) (by decide +kernel) (by decide +kernel), hWS_in (i := 693) (by decide +kernel) (by decide +kernel), hWS_in (i := 1) (by decide +kernel) (by decide +kernel), hWS_in (i := 694) (by decide +kernel) (by decide +kernel), by decide +kernel⟩
theorem cfX10_worth : hCF yX10_worth cX10_worth 4 (some .int) 1 := ⟨hWS_in (i := 1610) (by decide +kernel) (by decide +kernel), hWS_in (i := 1611) (by decide +kernel) (by decide +kernel), hWS_in (i := 11) (by decide +kernel) (by decide +kernel), hWS_in (i := 1612) (by decide +kernel) (by decide +kernel), by decide +kernel⟩
theorem cfX9_plan : hCF yX9_plan cX9_plan 2 (some .int) 1 := ⟨hWS_in (i := 708) (by decide +kernel) (by decide +kernel), hWS_in (i := 709) (by decide +kernel) (by decide +kernel), hWS_in (i := 1) (by decide +kernel) (by decide +kernel), hWS_in (i := 710) (by decide +kernel) (by decide +kernel), by decide +kernel⟩
theorem cfX10_plan : hCF yX10_plan cX10_plan 2 (some .int) 1 := ⟨hWS_in (i := 1614) (by decide +kernel) (by decide +kernel), hWS_in (i := 1615) (by decide +kernel) (by decide +kernel), hWS_in (i := 11) (by decide +kernel) (by decide +kernel), hWS_in (i := 1616) (by decide +kernel) (by decide +kernel), by decide +kernel⟩
theorem cfX9_planned : hCF yX9_planned cX9_planned 3 (some .int) 2 := ⟨hWS_in (i := 758) (by decide +kernel) (by decide +kernel), hWS_in (i := 759) (by decide +kernel) (by decide +kernel), hWS_in (i := 1) (by decide +kernel) (by decide +kernel), hWS_in (i := 760) (by decide +kernel) (by decide +kernel), by decide +kernel⟩
theorem cfX10_planned : hCF yX10_planned cX10_planned 8 (some .int) 2 := ⟨hWS_in (i := 1657) (by decide +kernel) (by decide +kernel), hWS_in (i := 1658) (by decide +kernel) (by decide +kernel), hWS_in (i := 11) (by decide +kernel) (by decide +kernel), hWS_in (i := 1659) (by decide +kernel) (by decide +kernel), by decide +kernel⟩
theorem cfX9_ways : hCF yX9_ways cX9_ways 2 (some .int) 1 := ⟨hWS_in (i := 770) (by decide +kernel) (by decide +kernel), hWS_in (i := 771) (by decide +kernel) (by decide +kernel), hWS_in (i := 1) (by decide +kernel) (by decide +kernel), hWS_in (i := 772) (by decide +kernel) (by decide +kernel), by decide +kernel⟩
theorem cfX10_ways : hCF yX10_ways cX10_ways 2 (some .int) 1 := ⟨hWS_in (i := 1649) (by decide +kernel) (by decide +kernel), hWS_in (i := 1650) (by decide +kernel) (by decide +kernel), hWS_in (i := 11) (by decide +kernel) (by decide +kernel), hWS_in (i := 1651) (by decide +kernel) (by decide +kernel), by decide +kernel⟩
theorem cfX9_many : hCF yX9_many cX9_many 2 (some .int) 1 := ⟨hWS_in (i := 778) (by decide +kernel) (by decide +kernel), hWS_in (i := 779) (by decide +kernel) (by decide +kernel), hWS_in (i := 1) (by decide +kernel) (by decide +kernel), hWS_in (i := 780) (by decide +kernel) (by decide +kernel), by decide +kernel⟩
theorem cfX10_many : hCF yX10_many cX10_many 2 (some .int) 1 := ⟨hWS_in (i := 1653) (by decide +kernel) (by decide +kernel), hWS_in (i := 1654) (by decide +kernel) (by decide +kernel), hWS_in (i := 11) (by decide +kernel) (by decide +kernel), hWS_in (i := 1655) (by decide +kernel) (by decide +kernel), by decide +kernel⟩
theorem cfX9_soonest : hCF yX9_soonest cX9_soonest 2 (some .int) 1 := ⟨hWS_in (i := 786) (by decide +kernel) (by decide +kernel), hWS_in (i := 787) (by decide +kernel) (by decide +kernel), hWS_in (i := 1) (by decide +kernel) (by decide +kernel), hWS_in (i := 788) (by decide +kernel) (by decide +kernel), by decide +kernel⟩
theorem cfX10_soonest : hCF yX10_soonest cX10_soonest 2 (some .int) 1 := ⟨hWS_in (i := 1704) (by decide +kernel) (by decide +kernel), hWS_in (i := 1705) (by decide +kernel) (by decide +kernel), hWS_in (i := 11) (by decide +kernel) (by decide +kernel), hWS_in (i := 1706) (by decide +kernel) (by decide +kernel), by decide +kernel⟩
theorem cfX9_latest : hCF yX9_latest cX9_latest 2 (some .int) 1 := ⟨hWS_in (i := 811) (by decide +kernel) (by decide +kernel), hWS_in (i := 812) (by decide +kernel) (by decide +kernel), hWS_in (i := 1) (by decide +kernel) (by decide +kernel), hWS_in (i := 813) (by decide +kernel) (by decide +kernel), by decide +kernel⟩
theorem cfX10_latest : hCF yX10_latest cX10_latest 6 (some .int) 1 := ⟨hWS_in (i := 1696) (by decide +kernel) (by decide +kernel), hWS_in (i := 1697) (by decide +kernel) (by decide +kernel), hWS_in (i := 11) (by decide +kernel) (by decide +kernel), hWS_in (i := 1698) (by decide +kernel) (by decide +kernel), by decide +kernel⟩
theorem cfX9_deepest : hCF yX9_deepest cX9_deepest 5 (some .int) 0 := ⟨hWS_in (i := 820) (by decide +kernel) (by decide +kernel), hWS_in (i := 821) (by decide +kernel) (by decide +kernel), hWS_in (i := 1) (by decide +kernel) (by decide +kernel), hWS_in (i := 822) (by decide +kernel) (by decide +kernel), by decide +kernel⟩
theorem cfX10_deepest : hCF yX10_deepest cX10_deepest 5 (some .int) 0 := ⟨hWS_in (i := 1689) (by decide +kernel) (by decide +kernel), hWS_in (i := 1690) (by decide +kernel) (by decide +kernel), hWS_in (i := 11) (by decide +kernel) (by decide +kernel), hWS_in (i := 1691) (by decide +kernel) (by decide +kernel), by decide +kernel⟩
theorem cfX9_without : hCF yX9_without cX9_without 2 (some .int) 1 := ⟨hWS_in (i := 826) (by decide +kernel) (by decide +kernel), hWS_in (i := 827) (by decide +kernel) (by decide +kernel), hWS_in (i := 1) (by decide +kernel) (by decide +kernel), hWS_in (i := 828) (by decide +kernel) (by decide +kernel), by decide +kernel⟩
theorem cfX10_without : hCF yX10_without cX10_without 2 (some .int) 1 := ⟨hWS_in (i := 1665) (by decide +kernel) (by decide +kernel), hWS_in (i := 1666) (by decide +kernel) (by decide +kernel), hWS_in (i := 11) (by decide +kernel) (by decide +kernel), hWS_in (i := 1667) (by decide +kernel) (by decide +kernel), by decide +kernel⟩
theorem cfX9_value : hCF yX9_value cX9_value 2 (some .int) 1 := ⟨hWS_in (i := 834) (by decide +kernel) (by decide +kernel), hWS_in (i := 835) (by decide +kernel) (by decide +kernel), hWS_in (i := 1) (by decide +kernel) (by decide +kernel), hWS_in (i := 836) (by decide +kernel) (by decide +kernel), by decide +kernel⟩
theorem cfX10_value : hCF yX10_value cX10_value 2 (some .int) 1 := ⟨hWS_in (i := 1673) (by decide +kernel) (by decide +kernel), hWS_in (i := 1674) (by decide +kernel) (by decide +kernel), hWS_in (i := 11) (by decide +kernel) (by decide +kernel), hWS_in (i := 1675) (by decide +kernel) (by decide +kernel), by decide +kernel⟩
theorem cfX9_together : hCF yX9_together cX9_together 1 (some .int) 0 := ⟨hWS_in (i := 838) (by decide +kernel) (by decide +kernel), hWS_in (i := 839) (by decide +kernel) (by decide +kernel), hWS_in (i := 1) (by decide +kernel) (by decide +kernel), hWS_in (i := 840) (by decide +kernel) (by decide +kernel), by decide +kernel⟩
theorem cfX10_together : hCF yX10_together cX10_together 1 (some .int) 0 := ⟨hWS_in (i := 1661) (by decide +kernel) (by decide +kernel), hWS_in (i := 1662) (by decide +kernel) (by decide +kernel), hWS_in (i := 11) (by decide +kernel) (by decide +kernel), hWS_in (i := 1663) (by decide +kernel) (by decide +kernel), by decide +kernel⟩
theorem cfX9_stop : hCF yX9_stop cX9_stop 2 (some .int) 1 := ⟨hWS_in (i := 846) (by decide +kernel) (by decide +kernel), hWS_in (i := 847) (by decide +kernel) (by decide +kernel), hWS_in (i := 1) (by decide +kernel) (by decide +kernel), hWS_in (i := 848) (by decide +kernel) (by decide +kernel), by decide +kernel⟩
theorem cfX10_stop : hCF yX10_stop cX10_stop 2 (some .int) 1 := ⟨hWS_in (i := 1708) (by decide +kernel) (by decide +kernel), hWS_in (i := 1709) (by decide +kernel) (by decide +kernel), hWS_in (i := 11) (by decide +kernel) (by decide +kernel), hWS_in (i := 1710) (by decide +kernel) (by decide +kernel), by decide +kernel⟩
theorem cfX9_stops : hCF yX9_stops cX9_stops 2 (some .int) 1 := ⟨hWS_in (i := 860) (by decide +kernel) (by decide +kernel), hWS_in (i := 861) (by decide +kernel) (by decide +kernel), hWS_in (i := 1) (by decide +kernel) (by decide +kernel), hWS_in (i := 862) (by decide +kernel) (by decide +kernel), by decide +kernel⟩
theorem cfX10_stops : hCF yX10_stops cX10_stops 2 (some .int) 1 := ⟨hWS_in (i := 1716) (by decide +kernel) (by decide +kernel), hWS_in (i := 1717) (by decide +kernel) (by decide +kernel), hWS_in (i := 11) (by decide +kernel) (by decide +kernel), hWS_in (i := 1718) (by decide +kernel) (by decide +kernel), by decide +kernel⟩
theorem cfX9_spoil : hCF yX9_spoil cX9_spoil 2 (some .int) 1 := ⟨hWS_in (i := 868) (by decide +kernel) (by decide +kernel), hWS_in (i := 869) (by decide +kernel) (by decide +kernel), hWS_in (i := 1) (by decide +kernel) (by decide +kernel), hWS_in (i := 870) (by decide +kernel) (by decide +kernel), by decide +kernel⟩
theorem cfX10_spoil : hCF yX10_spoil cX10_spoil 2 (some .int) 1 := ⟨hWS_in (i := 1720) (by decide +kernel) (by decide +kernel), hWS_in (i := 1721) (by decide +kernel) (by decide +kernel), hWS_in (i := 11) (by decide +kernel) (by decide +kernel), hWS_in (i := 1722) (by decide +kernel) (by decide +kernel), by decide +kernel⟩
theorem cfX9_spoilt : hCF yX9_spoilt cX9_spoilt 3 (some .int) 1 := ⟨hWS_in (i := 881) (by decide +kernel) (by decide +kernel), hWS_in (i := 882) (by decide +kernel) (by decide +kernel), hWS_in (i := 1) (by decide +kernel) (by decide +kernel), hWS_in (i := 883) (by decide +kernel) (by decide +kernel), by decide +kernel⟩
theorem cfX10_spoilt : hCF yX10_spoilt cX10_spoilt 2 (some .int) 1 := ⟨hWS_in (i := 1728) (by decide +kernel) (by decide +kernel), hWS_in (i := 1729) (by decide +kernel) (by decide +kernel), hWS_in (i := 11) (by decide +kernel) (by decide +kernel), hWS_in (i := 1730) (by decide +kernel) (by decide +kernel), by decide +kernel⟩
theorem cfX9_bribe : hCF yX9_bribe cX9_bribe 6 (some .int) 1 := ⟨hWS_in (i := 885) (by decide +kernel) (by decide +kernel), hWS_in (i := 886) (by decide +kernel) (by decide +kernel), hWS_in (i := 1) (by decide +kernel) (by decide +kernel), hWS_in (i := 887) (by decide +kernel) (by decide +kernel), by decide +kernel⟩
theorem cfX10_bribe : hCF yX10_bribe cX10_bribe 6 (some .int) 1 := ⟨hWS_in (i := 1732) (by decide +kernel) (by decide +kernel), hWS_in (i := 1733) (by decide +kernel) (by decide +kernel), hWS_in (i := 11) (by decide +kernel) (by decide +kernel), hWS_in (i := 1734) (by decide +kernel) (by decide +kernel), by decide +kernel⟩
theorem cfX9_unmark : hCF yX9_unmark cX9_unmark 6 (some .int) 1 := ⟨hWS_in (i := 889) (by decide +kernel) (by decide +kernel), hWS_in (i := 890) (by decide +kernel) (by decide +kernel), hWS_in (i := 1) (by decide +kernel) (by decide +kernel), hWS_in (i := 891) (by decide +kernel) (by decide +kernel), by decide +kernel⟩
theorem cfX10_unmark : hCF yX10_unmark cX10_unmark 6 (some .int) 1 := ⟨hWS_in (i := 1736) (by decide +kernel) (by decide +kernel), hWS_in (i := 1737) (by decide +kernel) (by decide +kernel), hWS_in (i := 11) (by decide +kernel) (by decide +kernel), hWS_in (i := 1738) (by decide +kernel) (by decide +kernel), by decide +kernel⟩
theorem cfX9_college : hCF yX9_college cX9_college 2 (some .int) 1 := ⟨hWS_in (i := 893) (by decide +kernel) (by decide +kernel), hWS_in (i := 894) (by decide +kernel) (by decide +kernel), hWS_in (i := 1) (by decide +kernel) (by decide +kernel), hWS_in (i := 895) (by decide +kernel) (by decide +kernel), by decide +kernel⟩
theorem cfX10_college : hCF yX10_college cX10_college 2 (some .int) 1 := ⟨hWS_in (i := 1740) (by decide +kernel) (by decide +kernel), hWS_in (i := 1741) (by decide +kernel) (by decide +kernel), hWS_in (i := 11) (by decide +kernel) (by decide +kernel), hWS_in (i := 1742) (by decide +kernel) (by decide +kernel), by decide +kernel⟩
theorem cfX9_chosen : hCF yX9_chosen cX9_chosen 2 (some .int) 1 := ⟨hWS_in (i := 901) (by decide +kernel) (by decide +kernel), hWS_in (i := 902) (by decide +kernel) (by decide +kernel), hWS_in (i := 1) (by decide +kernel) (by decide +kernel), hWS_in (i := 903) (by decide +kernel) (by decide +kernel), by decide +kernel⟩
theorem cfX10_chosen : hCF yX10_chosen cX10_chosen 2 (some .int) 1 := ⟨hWS_in (i := 1752) (by decide +kernel) (by decide +kernel), hWS_in (i := 1753) (by decide +kernel) (by decide +kernel), hWS_in (i := 11) (by decide +kernel) (by decide +kernel), hWS_in (i := 1754) (by decide +kernel) (by decide +kernel), by decide +kernel⟩
theorem cfX9_hold : hCF yX9_hold cX9_hold 6 (some .int) 2 := ⟨hWS_in (i := 905) (by decide +kernel) (by decide +kernel), hWS_in (i := 906) (by decide +kernel) (by decide +kernel), hWS_in (i := 1) (by decide +kernel) (by decide +kernel), hWS_in (i := 907) (by decide +kernel) (by decide +kernel), by decide +kernel⟩
theorem cfX10_hold : hCF yX10_hold cX10_hold 6 (some .int) 2 := ⟨hWS_in (i := 1756) (by decide +kernel) (by decide +kernel), hWS_in (i := 1757) (by decide +kernel) (by decide +kernel), hWS_in (i := 11) (by decide +kernel) (by decide +kernel), hWS_in (i := 1758) (by decide +kernel) (by decide +kernel), by decide +kernel⟩
theorem cfX9_idle : hCF yX9_idle cX9_idle 2 (some .int) 1 := ⟨hWS_in (i := 909) (by decide +kernel) (by decide +kernel), hWS_in (i := 910) (by decide +kernel) (by decide +kernel), hWS_in (i := 1) (by decide +kernel) (by decide +kernel), hWS_in (i := 911) (by decide +kernel) (by decide +kernel), by decide +kernel⟩
theorem cfX10_idle : hCF yX10_idle cX10_idle 4 (some .int) 1 := ⟨hWS_in (i := 1761) (by decide +kernel) (by decide +kernel), hWS_in (i := 1762) (by decide +kernel) (by decide +kernel), hWS_in (i := 11) (by decide +kernel) (by decide +kernel), hWS_in (i := 1763) (by decide +kernel) (by decide +kernel), by decide +kernel⟩
theorem cfX9_lone : hCF yX9_lone cX9_lone 2 (some .int) 1 := ⟨hWS_in (i := 917) (by decide +kernel) (by decide +kernel), hWS_in (i := 918) (by decide +kernel) (by decide +kernel), hWS_in (i := 1) (by decide +kernel) (by decide +kernel), hWS_in (i := 919) (by decide +kernel) (by decide +kernel), by decide +kernel⟩
theorem cfX10_lone : hCF yX10_lone cX10_lone 4 (some .int) 1 := ⟨hWS_in (i := 1765) (by decide +kernel) (by decide +kernel), hWS_in (i := 1766) (by decide +kernel) (by decide +kernel), hWS_in (i := 11) (by decide +kernel) (by decide +kernel), hWS_in (i := 1767) (by decide +kernel) (by decide +kernel), by decide +kernel⟩
theorem cfX9_tenure : hCF yX9_tenure cX9_tenure 6 (some .int) 1 := ⟨hWS_in (i := 921) (by decide +kernel) (by decide +kernel), hWS_in (i := 922) (by decide +kernel) (by decide +kernel), hWS_in (i := 1) (by decide +kernel) (by decide +kernel), hWS_in (i := 923) (by decide +kernel) (by decide +kernel), by decide +kernel⟩
theorem cfX10_tenure : hCF yX10_tenure cX10_tenure 4 (some .int) 1 := ⟨hWS_in (i := 1769) (by decide +kernel) (by decide +kernel), hWS_in (i := 1770) (by decide +kernel) (by decide +kernel), hWS_in (i := 11) (by decide +kernel) (by decide +kernel), hWS_in (i := 1771) (by decide +kernel) (by decide +kernel), by decide +kernel⟩
theorem cfX9_clear : hCF yX9_clear cX9_clear 2 (some .int) 1 := ⟨hWS_in (i := 926) (by decide +kernel) (by decide +kernel), hWS_in (i := 927) (by decide +kernel) (by decide +kernel), hWS_in (i := 1) (by decide +kernel) (by decide +kernel), hWS_in (i := 928) (by decide +kernel) (by decide +kernel), by decide +kernel⟩
theorem cfX10_clear : hCF yX10_clear cX10_clear 2 (some .int) 1 := ⟨hWS_in (i := 1773) (by decide +kernel) (by decide +kernel), hWS_in (i := 1774) (by decide +kernel) (by decide +kernel), hWS_in (i := 11) (by decide +kernel) (by decide +kernel), hWS_in (i := 1775) (by decide +kernel) (by decide +kernel), by decide +kernel⟩
theorem cfX9_run : hCF yX9_run cX9_run 2 (some .int) 1 := ⟨hWS_in (i := 931) (by decide +kernel) (by decide +kernel), hWS_in (i := 932) (by decide +kernel) (by decide +kernel), hWS_in (i := 1) (by decide +kernel) (by decide +kernel), hWS_in (i := 933) (by decide +kernel) (by decide +kernel), by decide +kernel⟩
theorem cfX10_run : hCF yX10_run cX10_run 2 (some .int) 1 := ⟨hWS_in (i := 1777) (by decide +kernel) (by decide +kernel), hWS_in (i := 1778) (by decide +kernel) (by decide +kernel), hWS_in (i := 11) (by decide +kernel) (by decide +kernel), hWS_in (i := 1779) (by decide +kernel) (by decide +kernel), by decide +kernel⟩
theorem cfX9_both : hCF yX9_both cX9_both 1 (some .int) 0 := ⟨hWS_in (i := 935) (by decide +kernel) (by decide +kernel), hWS_in (i := 936) (by decide +kernel) (by decide +kernel), hWS_in (i := 1) (by decide +kernel) (by decide +kernel), hWS_in (i := 937) (by decide +kernel) (by decide +kernel), by decide +kernel⟩
theorem cfX10_both : hCF yX10_both cX10_both 1 (some .int) 0 := ⟨hWS_in (i := 1781) (by decide +kernel) (by decide +kernel), hWS_in (i := 1782) (by decide +kernel) (by decide +kernel), hWS_in (i := 11) (by decide +kernel) (by decide +kernel), hWS_in (i := 1783) (by decide +kernel) (by decide +kernel), by decide +kernel⟩
theorem cfX9_falls : hCF yX9_falls cX9_falls 2 (some .int) 1 := ⟨hWS_in (i := 939) (by decide +kernel) (by decide +kernel), hWS_in (i := 940) (by decide +kernel) (by decide +kernel), hWS_in (i := 1) (by decide +kernel) (by decide +kernel), hWS_in (i := 941) (by decide +kernel) (by decide +kernel), by decide +kernel⟩
theorem cfX10_falls : hCF yX10_falls cX10_falls 2 (some .int) 1 := ⟨hWS_in (i := 1785) (by decide +kernel) (by decide +kernel), hWS_in (i := 1786) (by decide +kernel) (by decide +kernel), hWS_in (i := 11) (by decide +kernel) (by decide +kernel), hWS_in (i := 1787) (by decide +kernel) (by decide +kernel), by decide +kernel⟩
theorem cfX9_worst : hCF yX9_worst cX9_worst 5 (some .int) 0 := ⟨hWS_in (i := 952) (by decide +kernel) (by decide +kernel), hWS_in (i := 953) (by decide +kernel) (by decide +kernel), hWS_in (i := 1) (by decide +kernel) (by decide +kernel), hWS_in (i := 954) (by decide +kernel) (by decide +kernel), by decide +kernel⟩
theorem cfX10_worst : hCF yX10_worst cX10_worst 5 (some .int) 0 := ⟨hWS_in (i := 1793) (by decide +kernel) (by decide +kernel), hWS_in (i := 1794) (by decide +kernel) (by decide +kernel), hWS_in (i := 11) (by decide +kernel) (by decide +kernel), hWS_in (i := 1795) (by decide +kernel) (by decide +kernel), by decide +kernel⟩
theorem cfX9_needs : hCF yX9_needs cX9_needs 2 (some .int) 1 := ⟨hWS_in (i := 956) (by decide +kernel) (by decide +kernel), hWS_in (i := 957) (by decide +kernel) (by decide +kernel), hWS_in (i := 1) (by decide +kernel) (by decide +kernel), hWS_in (i := 958) (by decide +kernel) (by decide +kernel), by decide +kernel⟩
theorem cfX10_needs_ : hCF yX10_needs_ cX10_needs_ 2 (some .int) 1 := ⟨hWS_in (i := 1677) (by decide +kernel) (by decide +kernel), hWS_in (i := 1678) (by decide +kernel) (by decide +kernel), hWS_in (i := 11) (by decide +kernel) (by decide +kernel), hWS_in (i := 1679) (by decide +kernel) (by decide +kernel), by decide +kernel⟩
theorem cfX9_heirs : hCF yX9_heirs cX9_heirs 2 (some .int) 1 := ⟨hWS_in (i := 960) (by decide +kernel) (by decide +kernel), hWS_in (i := 961) (by decide +kernel) (by decide +kernel), hWS_in (i := 1) (by decide +kernel) (by decide +kernel), hWS_in (i := 962) (by decide +kernel) (by decide +kernel), by decide +kernel⟩
theorem cfX10_heirs : hCF yX10_heirs cX10_heirs 4 (some .int) 1 := ⟨hWS_in (i := 1685) (by decide +kernel) (by decide +kernel), hWS_in (i := 1686) (by decide +kernel) (by decide +kernel), hWS_in (i := 11) (by decide +kernel) (by decide +kernel), hWS_in (i := 1687) (by decide +kernel) (by decide +kernel), by decide +kernel⟩
theorem cfX9_fits : hCF yX9_fits cX9_fits 3 (some .int) 1 := ⟨hWS_in (i := 964) (by decide +kernel) (by decide +kernel), hWS_in (i := 965) (by decide +kernel) (by decide +kernel), hWS_in (i := 1) (by decide +kernel) (by decide +kernel), hWS_in (i := 966) (by decide +kernel) (by decide +kernel), by decide +kernel⟩
theorem cfX10_fits : hCF yX10_fits cX10_fits 3 (some .int) 1 := ⟨hWS_in (i := 1801) (by decide +kernel) (by decide +kernel), hWS_in (i := 1802) (by decide +kernel) (by decide +kernel), hWS_in (i := 11) (by decide +kernel) (by decide +kernel), hWS_in (i := 1803) (by decide +kernel) (by decide +kernel), by decide +kernel⟩
theorem cfX9_fed : hCF yX9_fed cX9_fed 3 (some .int) 1 := ⟨hWS_in (i := 994) (by decide +kernel) (by decide +kernel), hWS_in (i := 995) (by decide +kernel) (by decide +kernel), hWS_in (i := 1) (by decide +kernel) (by decide +kernel), hWS_in (i := 996) (by decide +kernel) (by decide +kernel), by decide +kernel⟩
theorem cfX10_fed : hCF yX10_fed cX10_fed 3 (some .int) 1 := ⟨hWS_in (i := 1821) (by decide +kernel) (by decide +kernel), hWS_in (i := 1822) (by decide +kernel) (by decide +kernel), hWS_in (i := 11) (by decide +kernel) (by decide +kernel), hWS_in (i := 1823) (by decide +kernel) (by decide +kernel), by decide +kernel⟩
theorem cfX9_starved : hCF yX9_starved cX9_starved 3 (some .int) 1 := ⟨hWS_in (i := 998) (by decide +kernel) (by decide +kernel), hWS_in (i := 999) (by decide +kernel) (by decide +kernel), hWS_in (i := 1) (by decide +kernel) (by decide +kernel), hWS_in (i := 1000) (by decide +kernel) (by decide +kernel), by decide +kernel⟩
theorem cfX10_starved : hCF yX10_starved cX10_starved 3 (some .int) 1 := ⟨hWS_in (i := 1829) (by decide +kernel) (by decide +kernel), hWS_in (i := 1830) (by decide +kernel) (by decide +kernel), hWS_in (i := 11) (by decide +kernel) (by decide +kernel), hWS_in (i := 1831) (by decide +kernel) (by decide +kernel), by decide +kernel⟩
theorem cfX9_least : hCF yX9_least cX9_least 3 (some .int) 1 := ⟨hWS_in (i := 1002) (by decide +kernel) (by decide +kernel), hWS_in (i := 1003) (by decide +kernel) (by decide +kernel), hWS_in (i := 1) (by decide +kernel) (by decide +kernel), hWS_in (i := 1004) (by decide +kernel) (by decide +kernel), by decide +kernel⟩
theorem cfX10_least : hCF yX10_least cX10_least 3 (some .int) 1 := ⟨hWS_in (i := 1833) (by decide +kernel) (by decide +kernel), hWS_in (i := 1834) (by decide +kernel) (by decide +kernel), hWS_in (i := 11) (by decide +kernel) (by decide +kernel), hWS_in (i := 1835) (by decide +kernel) (by decide +kernel), by decide +kernel⟩
theorem cfX9_ask : hCF yX9_ask cX9_ask 3 (some .int) 1 := ⟨hWS_in (i := 1006) (by decide +kernel) (by decide +kernel), hWS_in (i := 1007) (by decide +kernel) (by decide +kernel), hWS_in (i := 1) (by decide +kernel) (by decide +kernel), hWS_in (i := 1008) (by decide +kernel) (by decide +kernel), by decide +kernel⟩
theorem cfX10_ask : hCF yX10_ask cX10_ask 3 (some .int) 1 := ⟨hWS_in (i := 1837) (by decide +kernel) (by decide +kernel), hWS_in (i := 1838) (by decide +kernel) (by decide +kernel), hWS_in (i := 11) (by decide +kernel) (by decide +kernel), hWS_in (i := 1839) (by decide +kernel) (by decide +kernel), by decide +kernel⟩
theorem cfX9_leaves : hCF yX9_leaves cX9_leaves 4 (some .int) 1 := ⟨hWS_in (i := 1019) (by decide +kernel) (by decide +kernel), hWS_in (i := 1020) (by decide +kernel) (by decide +kernel), hWS_in (i := 1) (by decide +kernel) (by decide +kernel), hWS_in (i := 1021) (by decide +kernel) (by decide +kernel), by decide +kernel⟩
theorem cfX10_leaves : hCF yX10_leaves cX10_leaves 3 (some .int) 1 := ⟨hWS_in (i := 1845) (by decide +kernel) (by decide +kernel), hWS_in (i := 1846) (by decide +kernel) (by decide +kernel), hWS_in (i := 11) (by decide +kernel) (by decide +kernel), hWS_in (i := 1847) (by decide +kernel) (by decide +kernel), by decide +kernel⟩
theorem cfX9_tally : hCF yX9_tally cX9_tally 5 (some .int) 3 := ⟨hWS_in (i := 1024) (by decide +kernel) (by decide +kernel), hWS_in (i := 1025) (by decide +kernel) (by decide +kernel), hWS_in (i := 1) (by decide +kernel) (by decide +kernel), hWS_in (i := 1026) (by decide +kernel) (by decide +kernel), by decide +kernel⟩
theorem cfX10_tally : hCF yX10_tally cX10_tally 5 (some .int) 3 := ⟨hWS_in (i := 1849) (by decide +kernel) (by decide +kernel), hWS_in (i := 1850) (by decide +kernel) (by decide +kernel), hWS_in (i := 11) (by decide +kernel) (by decide +kernel), hWS_in (i := 1851) (by decide +kernel) (by decide +kernel), by decide +kernel⟩
theorem cfX9_doubt : hCF yX9_doubt cX9_doubt 8 (some .long) 2 := ⟨hWS_in (i := 1042) (by decide +kernel) (by decide +kernel), hWS_in (i := 1043) (by decide +kernel) (by decide +kernel), hWS_in (i := 1) (by decide +kernel) (by decide +kernel), hWS_in (i := 1044) (by decide +kernel) (by decide +kernel), by decide +kernel⟩
theorem cfX10_doubt : hCF yX10_doubt cX10_doubt 10 (some .long) 2 := ⟨hWS_in (i := 1857) (by decide +kernel) (by decide +kernel), hWS_in (i := 1858) (by decide +kernel) (by decide +kernel), hWS_in (i := 11) (by decide +kernel) (by decide +kernel), hWS_in (i := 1859) (by decide +kernel) (by decide +kernel), by decide +kernel⟩
theorem cfX9_share : hCF yX9_share cX9_share 6 (some .int) 3 := ⟨hWS_in (i := 1073) (by decide +kernel) (by decide +kernel), hWS_in (i := 1074) (by decide +kernel) (by decide +kernel), hWS_in (i := 1) (by decide +kernel) (by decide +kernel), hWS_in (i := 1075) (by decide +kernel) (by decide +kernel), by decide +kernel⟩
theorem cfX10_share : hCF yX10_share cX10_share 6 (some .int) 3 := ⟨hWS_in (i := 1870) (by decide +kernel) (by decide +kernel), hWS_in (i := 1871) (by decide +kernel) (by decide +kernel), hWS_in (i := 11) (by decide +kernel) (by decide +kernel), hWS_in (i := 1872) (by decide +kernel) (by decide +kernel), by decide +kernel⟩
theorem cfX9_leans : hCF yX9_leans cX9_leans 5 (some .int) 1 := ⟨hWS_in (i := 1078) (by decide +kernel) (by decide +kernel), hWS_in (i := 1079) (by decide +kernel) (by decide +kernel), hWS_in (i := 1) (by decide +kernel) (by decide +kernel), hWS_in (i := 1080) (by decide +kernel) (by decide +kernel), by decide +kernel⟩
theorem cfX10_leans : hCF yX10_leans cX10_leans 5 (some .int) 1 := ⟨hWS_in (i := 1874) (by decide +kernel) (by decide +kernel), hWS_in (i := 1875) (by decide +kernel) (by decide +kernel), hWS_in (i := 11) (by decide +kernel) (by decide +kernel), hWS_in (i := 1876) (by decide +kernel) (by decide +kernel), by decide +kernel⟩
theorem cfX9_rests : hCF yX9_rests cX9_rests 5 (some .int) 2 := ⟨hWS_in (i := 1085) (by decide +kernel) (by decide +kernel), hWS_in (i := 1086) (by decide +kernel) (by decide +kernel), hWS_in (i := 1) (by decide +kernel) (by decide +kernel), hWS_in (i := 1087) (by decide +kernel) (by decide +kernel), by decide +kernel⟩
theorem cfX10_rests : hCF yX10_rests cX10_rests 5 (some .int) 2 := ⟨hWS_in (i := 1879) (by decide +kernel) (by decide +kernel), hWS_in (i := 1880) (by decide +kernel) (by decide +kernel), hWS_in (i := 11) (by decide +kernel) (by decide +kernel), hWS_in (i := 1881) (by decide +kernel) (by decide +kernel), by decide +kernel⟩
theorem cfX9_believes : hCF yX9_believes cX9_believes 3 (some .int) 1 := ⟨hWS_in (i := 1101) (by decide +kernel) (by decide +kernel), hWS_in (i := 1102) (by decide +kernel) (by decide +kernel), hWS_in (i := 1) (by decide +kernel) (by decide +kernel), hWS_in (i := 1103) (by decide +kernel) (by decide +kernel), by decide +kernel⟩
theorem cfX10_believes : hCF yX10_believes cX10_believes 3 (some .int) 1 := ⟨hWS_in (i := 1893) (by decide +kernel) (by decide +kernel), hWS_in (i := 1894) (by decide +kernel) (by decide +kernel), hWS_in (i := 11) (by decide +kernel) (by decide +kernel), hWS_in (i := 1895) (by decide +kernel) (by decide +kernel), by decide +kernel⟩
theorem cfX9_chance : hCF yX9_chance cX9_chance 8 (some .long) 1 := ⟨hWS_in (i := 1105) (by decide +kernel) (by decide +kernel), hWS_in (i := 1106) (by decide +kernel) (by decide +kernel), hWS_in (i := 1) (by decide +kernel) (by decide +kernel), hWS_in (i := 1107) (by decide +kernel) (by decide +kernel), by decide +kernel⟩
theorem cfX10_chance : hCF yX10_chance cX10_chance 7 (some .long) 1 := ⟨hWS_in (i := 1897) (by decide +kernel) (by decide +kernel), hWS_in (i := 1898) (by decide +kernel) (by decide +kernel), hWS_in (i := 11) (by decide +kernel) (by decide +kernel), hWS_in (i := 1899) (by decide +kernel) (by decide +kernel), by decide +kernel⟩
theorem cfX9_asks : hCF yX9_asks cX9_asks 3 (some .int) 2 := ⟨hWS_in (i := 1110) (by decide +kernel) (by decide +kernel), hWS_in (i := 1111) (by decide +kernel) (by decide +kernel), hWS_in (i := 1) (by decide +kernel) (by decide +kernel), hWS_in (i := 1112) (by decide +kernel) (by decide +kernel), by decide +kernel⟩
theorem cfX10_asks : hCF yX10_asks cX10_asks 3 (some .int) 2 := ⟨hWS_in (i := 1902) (by decide +kernel) (by decide +kernel), hWS_in (i := 1903) (by decide +kernel) (by decide +kernel), hWS_in (i := 11) (by decide +kernel) (by decide +kernel), hWS_in (i := 1904) (by decide +kernel) (by decide +kernel), by decide +kernel⟩
theorem cfX9_feeds : hCF yX9_feeds cX9_feeds 2 (some .int) 1 := ⟨hWS_in (i := 1128) (by decide +kernel) (by decide +kernel), hWS_in (i := 1129) (by decide +kernel) (by decide +kernel), hWS_in (i := 1) (by decide +kernel) (by decide +kernel), hWS_in (i := 1130) (by decide +kernel) (by decide +kernel), by decide +kernel⟩
theorem cfX10_feeds : hCF yX10_feeds cX10_feeds 2 (some .int) 1 := ⟨hWS_in (i := 1910) (by decide +kernel) (by decide +kernel), hWS_in (i := 1911) (by decide +kernel) (by decide +kernel), hWS_in (i := 11) (by decide +kernel) (by decide +kernel), hWS_in (i := 1912) (by decide +kernel) (by decide +kernel), by decide +kernel⟩
theorem cfX9_undo : hCF yX9_undo cX9_undo 1 (some .int) 0 := ⟨hWS_in (i := 1132) (by decide +kernel) (by decide +kernel), hWS_in (i := 1133) (by decide +kernel) (by decide +kernel), hWS_in (i := 1) (by decide +kernel) (by decide +kernel), hWS_in (i := 1134) (by decide +kernel) (by decide +kernel), by decide +kernel⟩
theorem cfX10_undo : hCF yX10_undo cX10_undo 1 (some .int) 0 := ⟨hWS_in (i := 1914) (by decide +kernel) (by decide +kernel), hWS_in (i := 1915) (by decide +kernel) (by decide +kernel), hWS_in (i := 11) (by decide +kernel) (by decide +kernel), hWS_in (i := 1916) (by decide +kernel) (by decide +kernel), by decide +kernel⟩
theorem cfX9_anew : hCF yX9_anew cX9_anew 2 (some .int) 0 := ⟨hWS_in (i := 1136) (by decide +kernel) (by decide +kernel), hWS_in (i := 1137) (by decide +kernel) (by decide +kernel), hWS_in (i := 1) (by decide +kernel) (by decide +kernel), hWS_in (i := 1138) (by decide +kernel) (by decide +kernel), by decide +kernel⟩
theorem cfX10_anew : hCF yX10_anew cX10_anew 2 (some .int) 0 := ⟨hWS_in (i := 1918) (by decide +kernel) (by decide +kernel), hWS_in (i := 1919) (by decide +kernel) (by decide +kernel), hWS_in (i := 11) (by decide +kernel) (by decide +kernel), hWS_in (i := 1920) (by decide +kernel) (by decide +kernel), by decide +kernel⟩
theorem cfX9_drawn : hCF yX9_drawn cX9_drawn 3 (some .int) 2 := ⟨hWS_in (i := 1140) (by decide +kernel) (by decide +kernel), hWS_in (i := 1141) (by decide +kernel) (by decide +kernel), hWS_in (i := 1) (by decide +kernel) (by decide +kernel), hWS_in (i := 1142) (by decide +kernel) (by decide +kernel), by decide +kernel⟩
theorem cfX10_drawn : hCF yX10_drawn cX10_drawn 4 (some .int) 2 := ⟨hWS_in (i := 1922) (by decide +kernel) (by decide +kernel), hWS_in (i := 1923) (by decide +kernel) (by decide +kernel), hWS_in (i := 11) (by decide +kernel) (by decide +kernel), hWS_in (i := 1924) (by decide +kernel) (by decide +kernel), by decide +kernel⟩
theorem cfX9_luck : hCF yX9_luck cX9_luck 6 (some .int) 3 := ⟨hWS_in (i := 1152) (by decide +kernel) (by decide +kernel), hWS_in (i := 1153) (by decide +kernel) (by decide +kernel), hWS_in (i := 1) (by decide +kernel) (by decide +kernel), hWS_in (i := 1154) (by decide +kernel) (by decide +kernel), by decide +kernel⟩
theorem cfX10_luck : hCF yX10_luck cX10_luck 6 (some .int) 3 := ⟨hWS_in (i := 1934) (by decide +kernel) (by decide +kernel), hWS_in (i := 1935) (by decide +kernel) (by decide +kernel), hWS_in (i := 11) (by decide +kernel) (by decide +kernel), hWS_in (i := 1936) (by decide +kernel) (by decide +kernel), by decide +kernel⟩
theorem cfX9_rate : hCF yX9_rate cX9_rate 4 (some .int) 2 := ⟨hWS_in (i := 1156) (by decide +kernel) (by decide +kernel), hWS_in (i := 1157) (by decide +kernel) (by decide +kernel), hWS_in (i := 1) (by decide +kernel) (by decide +kernel), hWS_in (i := 1158) (by decide +kernel) (by decide +kernel), by decide +kernel⟩
theorem cfX10_rate : hCF yX10_rate cX10_rate 4 (some .int) 2 := ⟨hWS_in (i := 1939) (by decide +kernel) (by decide +kernel), hWS_in (i := 1940) (by decide +kernel) (by decide +kernel), hWS_in (i := 11) (by decide +kernel) (by decide +kernel), hWS_in (i := 1941) (by decide +kernel) (by decide +kernel), by decide +kernel⟩
theorem cfX9_count : hCF yX9_count cX9_count 2 (some .int) 1 := ⟨hWS_in (i := 1160) (by decide +kernel) (by decide +kernel), hWS_in (i := 1161) (by decide +kernel) (by decide +kernel), hWS_in (i := 1) (by decide +kernel) (by decide +kernel), hWS_in (i := 1162) (by decide +kernel) (by decide +kernel), by decide +kernel⟩
theorem cfX10_count : hCF yX10_count cX10_count 4 (some .int) 1 := ⟨hWS_in (i := 1943) (by decide +kernel) (by decide +kernel), hWS_in (i := 1944) (by decide +kernel) (by decide +kernel), hWS_in (i := 11) (by decide +kernel) (by decide +kernel), hWS_in (i := 1945) (by decide +kernel) (by decide +kernel), by decide +kernel⟩
theorem cfX9_image : hCF yX9_image cX9_image 2 (some .int) 1 := ⟨hWS_in (i := 1168) (by decide +kernel) (by decide +kernel), hWS_in (i := 1169) (by decide +kernel) (by decide +kernel), hWS_in (i := 1) (by decide +kernel) (by decide +kernel), hWS_in (i := 1170) (by decide +kernel) (by decide +kernel), by decide +kernel⟩
theorem cfX10_image : hCF yX10_image cX10_image 3 (some .int) 1 := ⟨hWS_in (i := 1344) (by decide +kernel) (by decide +kernel), hWS_in (i := 1345) (by decide +kernel) (by decide +kernel), hWS_in (i := 11) (by decide +kernel) (by decide +kernel), hWS_in (i := 1346) (by decide +kernel) (by decide +kernel), by decide +kernel⟩
theorem cfX9_back : hCF yX9_back cX9_back 2 (some .int) 1 := ⟨hWS_in (i := 1182) (by decide +kernel) (by decide +kernel), hWS_in (i := 1183) (by decide +kernel) (by decide +kernel), hWS_in (i := 1) (by decide +kernel) (by decide +kernel), hWS_in (i := 1184) (by decide +kernel) (by decide +kernel), by decide +kernel⟩
theorem cfX10_back : hCF yX10_back cX10_back 3 (some .int) 1 := ⟨hWS_in (i := 1352) (by decide +kernel) (by decide +kernel), hWS_in (i := 1353) (by decide +kernel) (by decide +kernel), hWS_in (i := 11) (by decide +kernel) (by decide +kernel), hWS_in (i := 1354) (by decide +kernel) (by decide +kernel), by decide +kernel⟩
theorem cfX9_row : hCF yX9_row cX9_row 4 (some .int) 3 := ⟨hWS_in (i := 1186) (by decide +kernel) (by decide +kernel), hWS_in (i := 1187) (by decide +kernel) (by decide +kernel), hWS_in (i := 1) (by decide +kernel) (by decide +kernel), hWS_in (i := 1188) (by decide +kernel) (by decide +kernel), by decide +kernel⟩
theorem cfX10_row : hCF yX10_row cX10_row 5 (some .int) 3 := ⟨hWS_in (i := 1948) (by decide +kernel) (by decide +kernel), hWS_in (i := 1949) (by decide +kernel) (by decide +kernel), hWS_in (i := 11) (by decide +kernel) (by decide +kernel), hWS_in (i := 1950) (by decide +kernel) (by decide +kernel), by decide +kernel⟩
theorem cfX9_write : hCF yX9_write cX9_write 6 (some .int) 3 := ⟨hWS_in (i := 1194) (by decide +kernel) (by decide +kernel), hWS_in (i := 1195) (by decide +kernel) (by decide +kernel), hWS_in (i := 1) (by decide +kernel) (by decide +kernel), hWS_in (i := 1196) (by decide +kernel) (by decide +kernel), by decide +kernel⟩
theorem cfX10_write : hCF yX10_write cX10_write 5 (some .int) 3 := ⟨hWS_in (i := 1952) (by decide +kernel) (by decide +kernel), hWS_in (i := 1953) (by decide +kernel) (by decide +kernel), hWS_in (i := 11) (by decide +kernel) (by decide +kernel), hWS_in (i := 1954) (by decide +kernel) (by decide +kernel), by decide +kernel⟩
theorem cfX9_paste : hCF yX9_paste cX9_paste 8 (some .int) 5 := ⟨hWS_in (i := 1202) (by decide +kernel) (by decide +kernel), hWS_in (i := 1203) (by decide +kernel) (by decide +kernel), hWS_in (i := 1) (by decide +kernel) (by decide +kernel), hWS_in (i := 1204) (by decide +kernel) (by decide +kernel), by decide +kernel⟩
theorem cfX10_paste : hCF yX10_paste cX10_paste 7 (some .int) 5 := ⟨hWS_in (i := 1959) (by decide +kernel) (by decide +kernel), hWS_in (i := 1960) (by decide +kernel) (by decide +kernel), hWS_in (i := 11) (by decide +kernel) (by decide +kernel), hWS_in (i := 1961) (by decide +kernel) (by decide +kernel), by decide +kernel⟩
theorem wl0 : Cond.methodLink "SacredHensLaw" 13 ⟨"SacredHens", "feed", "(IIIII)I"⟩ ∈ hWS := hWS_in (i := 369) (by decide +kernel) (by decide +kernel)
theorem wl1 : Cond.methodLink "SacredHensLaw" 17 ⟨"SacredHensModel", "feed", "(IIIII)I"⟩ ∈ hWS := hWS_in (i := 1355) (by decide +kernel) (by decide +kernel)
theorem wl2 : Cond.methodLink "SacredHensLaw" 18 ⟨"SacredHens", "end", "(I)I"⟩ ∈ hWS := hWS_in (i := 377) (by decide +kernel) (by decide +kernel)
theorem wl3 : Cond.methodLink "SacredHensLaw" 22 ⟨"SacredHensModel", "end", "(I)I"⟩ ∈ hWS := hWS_in (i := 1359) (by decide +kernel) (by decide +kernel)
theorem wl4 : Cond.methodLink "SacredHensLaw" 23 ⟨"SacredHens", "camp", "()I"⟩ ∈ hWS := hWS_in (i := 381) (by decide +kernel) (by decide +kernel)
theorem wl5 : Cond.methodLink "SacredHensLaw" 27 ⟨"SacredHensModel", "camp", "()I"⟩ ∈ hWS := hWS_in (i := 1367) (by decide +kernel) (by decide +kernel)
theorem wl6 : Cond.methodLink "SacredHensLaw" 28 ⟨"SacredHens", "fault", "(I)I"⟩ ∈ hWS := hWS_in (i := 508) (by decide +kernel) (by decide +kernel)
theorem wl7 : Cond.methodLink "SacredHensLaw" 31 ⟨"SacredHensModel", "fault", "(I)I"⟩ ∈ hWS := hWS_in (i := 1363) (by decide +kernel) (by decide +kernel)
theorem wl8 : Cond.methodLink "SacredHensLaw" 32 ⟨"SacredHens", "augur", "(II)I"⟩ ∈ hWS := hWS_in (i := 512) (by decide +kernel) (by decide +kernel)
theorem wl9 : Cond.methodLink "SacredHensLaw" 36 ⟨"SacredHensModel", "augur", "(II)I"⟩ ∈ hWS := hWS_in (i := 1448) (by decide +kernel) (by decide +kernel)
theorem wl10 : Cond.methodLink "SacredHensLaw" 37 ⟨"SacredHens", "bill", "(II)I"⟩ ∈ hWS := hWS_in (i := 520) (by decide +kernel) (by decide +kernel)
theorem wl11 : Cond.methodLink "SacredHensLaw" 40 ⟨"SacredHensModel", "bill", "(II)I"⟩ ∈ hWS := hWS_in (i := 1460) (by decide +kernel) (by decide +kernel)
theorem wl12 : Cond.methodLink "SacredHensLaw" 41 ⟨"SacredHens", "marks", "()I"⟩ ∈ hWS := hWS_in (i := 528) (by decide +kernel) (by decide +kernel)
theorem wl13 : Cond.methodLink "SacredHensLaw" 44 ⟨"SacredHensModel", "marks", "()I"⟩ ∈ hWS := hWS_in (i := 1472) (by decide +kernel) (by decide +kernel)
theorem wl14 : Cond.methodLink "SacredHensLaw" 45 ⟨"SacredHens", "sky", "(I)I"⟩ ∈ hWS := hWS_in (i := 536) (by decide +kernel) (by decide +kernel)
theorem wl15 : Cond.methodLink "SacredHensLaw" 48 ⟨"SacredHensModel", "sky", "(I)I"⟩ ∈ hWS := hWS_in (i := 1480) (by decide +kernel) (by decide +kernel)
theorem wl16 : Cond.methodLink "SacredHensLaw" 49 ⟨"SacredHens", "watch", "(I)I"⟩ ∈ hWS := hWS_in (i := 563) (by decide +kernel) (by decide +kernel)
theorem wl17 : Cond.methodLink "SacredHensLaw" 52 ⟨"SacredHensModel", "watch", "(I)I"⟩ ∈ hWS := hWS_in (i := 1507) (by decide +kernel) (by decide +kernel)
theorem wl18 : Cond.methodLink "SacredHensLaw" 53 ⟨"SacredHens", "hunger", "(I)I"⟩ ∈ hWS := hWS_in (i := 575) (by decide +kernel) (by decide +kernel)
theorem wl19 : Cond.methodLink "SacredHensLaw" 56 ⟨"SacredHensModel", "hunger", "(I)I"⟩ ∈ hWS := hWS_in (i := 1515) (by decide +kernel) (by decide +kernel)
theorem wl20 : Cond.methodLink "SacredHensLaw" 57 ⟨"SacredHens", "eat", "()I"⟩ ∈ hWS := hWS_in (i := 623) (by decide +kernel) (by decide +kernel)
theorem wl21 : Cond.methodLink "SacredHensLaw" 60 ⟨"SacredHensModel", "eat", "()I"⟩ ∈ hWS := hWS_in (i := 1552) (by decide +kernel) (by decide +kernel)
theorem wl22 : Cond.methodLink "SacredHensLaw" 61 ⟨"SacredHens", "open", "(I)I"⟩ ∈ hWS := hWS_in (i := 627) (by decide +kernel) (by decide +kernel)
theorem wl23 : Cond.methodLink "SacredHensLaw" 64 ⟨"SacredHensModel", "open", "(I)I"⟩ ∈ hWS := hWS_in (i := 1556) (by decide +kernel) (by decide +kernel)
theorem wl24 : Cond.methodLink "SacredHensLaw" 65 ⟨"SacredHens", "best", "(I)I"⟩ ∈ hWS := hWS_in (i := 635) (by decide +kernel) (by decide +kernel)
theorem wl25 : Cond.methodLink "SacredHensLaw" 68 ⟨"SacredHensModel", "best", "(I)I"⟩ ∈ hWS := hWS_in (i := 1560) (by decide +kernel) (by decide +kernel)
theorem wl26 : Cond.methodLink "SacredHensLaw" 69 ⟨"SacredHens", "asked", "()I"⟩ ∈ hWS := hWS_in (i := 639) (by decide +kernel) (by decide +kernel)
theorem wl27 : Cond.methodLink "SacredHensLaw" 72 ⟨"SacredHensModel", "asked", "()I"⟩ ∈ hWS := hWS_in (i := 1564) (by decide +kernel) (by decide +kernel)
theorem wl28 : Cond.methodLink "SacredHensLaw" 73 ⟨"SacredHens", "fattened", "()I"⟩ ∈ hWS := hWS_in (i := 647) (by decide +kernel) (by decide +kernel)
theorem wl29 : Cond.methodLink "SacredHensLaw" 76 ⟨"SacredHensModel", "fattened", "()I"⟩ ∈ hWS := hWS_in (i := 1572) (by decide +kernel) (by decide +kernel)
theorem wl30 : Cond.methodLink "SacredHensLaw" 77 ⟨"SacredHens", "fast", "()I"⟩ ∈ hWS := hWS_in (i := 655) (by decide +kernel) (by decide +kernel)
theorem wl31 : Cond.methodLink "SacredHensLaw" 80 ⟨"SacredHensModel", "fast", "()I"⟩ ∈ hWS := hWS_in (i := 1576) (by decide +kernel) (by decide +kernel)
theorem wl32 : Cond.methodLink "SacredHensLaw" 81 ⟨"SacredHens", "first", "(I)I"⟩ ∈ hWS := hWS_in (i := 667) (by decide +kernel) (by decide +kernel)
theorem wl33 : Cond.methodLink "SacredHensLaw" 84 ⟨"SacredHensModel", "first", "(I)I"⟩ ∈ hWS := hWS_in (i := 1589) (by decide +kernel) (by decide +kernel)
theorem wl34 : Cond.methodLink "SacredHensLaw" 85 ⟨"SacredHens", "passed", "(I)I"⟩ ∈ hWS := hWS_in (i := 675) (by decide +kernel) (by decide +kernel)
theorem wl35 : Cond.methodLink "SacredHensLaw" 88 ⟨"SacredHensModel", "passed", "(I)I"⟩ ∈ hWS := hWS_in (i := 1593) (by decide +kernel) (by decide +kernel)
theorem wl36 : Cond.methodLink "SacredHensLaw" 89 ⟨"SacredHens", "when", "(I)I"⟩ ∈ hWS := hWS_in (i := 683) (by decide +kernel) (by decide +kernel)
theorem wl37 : Cond.methodLink "SacredHensLaw" 92 ⟨"SacredHensModel", "when", "(I)I"⟩ ∈ hWS := hWS_in (i := 1597) (by decide +kernel) (by decide +kernel)
theorem wl38 : Cond.methodLink "SacredHensLaw" 93 ⟨"SacredHens", "why", "(I)I"⟩ ∈ hWS := hWS_in (i := 687) (by decide +kernel) (by decide +kernel)
theorem wl39 : Cond.methodLink "SacredHensLaw" 96 ⟨"SacredHensModel", "why", "(I)I"⟩ ∈ hWS := hWS_in (i := 1605) (by decide +kernel) (by decide +kernel)
theorem wl40 : Cond.methodLink "SacredHensLaw" 97 ⟨"SacredHens", "worth", "(I)I"⟩ ∈ hWS := hWS_in (i := 691) (by decide +kernel) (by decide +kernel)
theorem wl41 : Cond.methodLink "SacredHensLaw" 100 ⟨"SacredHensModel", "worth", "(I)I"⟩ ∈ hWS := hWS_in (i := 1609) (by decide +kernel) (by decide +kernel)
theorem wl42 : Cond.methodLink "SacredHensLaw" 101 ⟨"SacredHens", "plan", "(I)I"⟩ ∈ hWS := hWS_in (i := 707) (by decide +kernel) (by decide +kernel)
theorem wl43 : Cond.methodLink "SacredHensLaw" 104 ⟨"SacredHensModel", "plan", "(I)I"⟩ ∈ hWS := hWS_in (i := 1613) (by decide +kernel) (by decide +kernel)
theorem wl44 : Cond.methodLink "SacredHensLaw" 105 ⟨"SacredHens", "planned", "(II)I"⟩ ∈ hWS := hWS_in (i := 757) (by decide +kernel) (by decide +kernel)
theorem wl45 : Cond.methodLink "SacredHensLaw" 108 ⟨"SacredHensModel", "planned", "(II)I"⟩ ∈ hWS := hWS_in (i := 1656) (by decide +kernel) (by decide +kernel)
theorem wl46 : Cond.methodLink "SacredHensLaw" 109 ⟨"SacredHens", "ways", "(I)I"⟩ ∈ hWS := hWS_in (i := 769) (by decide +kernel) (by decide +kernel)
theorem wl47 : Cond.methodLink "SacredHensLaw" 112 ⟨"SacredHensModel", "ways", "(I)I"⟩ ∈ hWS := hWS_in (i := 1648) (by decide +kernel) (by decide +kernel)
theorem wl48 : Cond.methodLink "SacredHensLaw" 113 ⟨"SacredHens", "many", "(I)I"⟩ ∈ hWS := hWS_in (i := 777) (by decide +kernel) (by decide +kernel)
theorem wl49 : Cond.methodLink "SacredHensLaw" 116 ⟨"SacredHensModel", "many", "(I)I"⟩ ∈ hWS := hWS_in (i := 1652) (by decide +kernel) (by decide +kernel)
theorem wl50 : Cond.methodLink "SacredHensLaw" 117 ⟨"SacredHens", "soonest", "(I)I"⟩ ∈ hWS := hWS_in (i := 785) (by decide +kernel) (by decide +kernel)
theorem wl51 : Cond.methodLink "SacredHensLaw" 120 ⟨"SacredHensModel", "soonest", "(I)I"⟩ ∈ hWS := hWS_in (i := 1703) (by decide +kernel) (by decide +kernel)
theorem wl52 : Cond.methodLink "SacredHensLaw" 121 ⟨"SacredHens", "latest", "(I)I"⟩ ∈ hWS := hWS_in (i := 810) (by decide +kernel) (by decide +kernel)
theorem wl53 : Cond.methodLink "SacredHensLaw" 124 ⟨"SacredHensModel", "latest", "(I)I"⟩ ∈ hWS := hWS_in (i := 1695) (by decide +kernel) (by decide +kernel)
theorem wl54 : Cond.methodLink "SacredHensLaw" 125 ⟨"SacredHens", "deepest", "()I"⟩ ∈ hWS := hWS_in (i := 819) (by decide +kernel) (by decide +kernel)
theorem wl55 : Cond.methodLink "SacredHensLaw" 128 ⟨"SacredHensModel", "deepest", "()I"⟩ ∈ hWS := hWS_in (i := 1688) (by decide +kernel) (by decide +kernel)
theorem wl56 : Cond.methodLink "SacredHensLaw" 129 ⟨"SacredHens", "without", "(I)I"⟩ ∈ hWS := hWS_in (i := 825) (by decide +kernel) (by decide +kernel)
theorem wl57 : Cond.methodLink "SacredHensLaw" 132 ⟨"SacredHensModel", "without", "(I)I"⟩ ∈ hWS := hWS_in (i := 1664) (by decide +kernel) (by decide +kernel)
theorem wl58 : Cond.methodLink "SacredHensLaw" 133 ⟨"SacredHens", "value", "(I)I"⟩ ∈ hWS := hWS_in (i := 833) (by decide +kernel) (by decide +kernel)
theorem wl59 : Cond.methodLink "SacredHensLaw" 136 ⟨"SacredHensModel", "value", "(I)I"⟩ ∈ hWS := hWS_in (i := 1672) (by decide +kernel) (by decide +kernel)
theorem wl60 : Cond.methodLink "SacredHensLaw" 137 ⟨"SacredHens", "together", "()I"⟩ ∈ hWS := hWS_in (i := 837) (by decide +kernel) (by decide +kernel)
theorem wl61 : Cond.methodLink "SacredHensLaw" 140 ⟨"SacredHensModel", "together", "()I"⟩ ∈ hWS := hWS_in (i := 1660) (by decide +kernel) (by decide +kernel)
theorem wl62 : Cond.methodLink "SacredHensLaw" 141 ⟨"SacredHens", "stop", "(I)I"⟩ ∈ hWS := hWS_in (i := 845) (by decide +kernel) (by decide +kernel)
theorem wl63 : Cond.methodLink "SacredHensLaw" 144 ⟨"SacredHensModel", "stop", "(I)I"⟩ ∈ hWS := hWS_in (i := 1707) (by decide +kernel) (by decide +kernel)
theorem wl64 : Cond.methodLink "SacredHensLaw" 145 ⟨"SacredHens", "stops", "(I)I"⟩ ∈ hWS := hWS_in (i := 859) (by decide +kernel) (by decide +kernel)
theorem wl65 : Cond.methodLink "SacredHensLaw" 148 ⟨"SacredHensModel", "stops", "(I)I"⟩ ∈ hWS := hWS_in (i := 1715) (by decide +kernel) (by decide +kernel)
theorem wl66 : Cond.methodLink "SacredHensLaw" 149 ⟨"SacredHens", "spoil", "(I)I"⟩ ∈ hWS := hWS_in (i := 867) (by decide +kernel) (by decide +kernel)
theorem wl67 : Cond.methodLink "SacredHensLaw" 152 ⟨"SacredHensModel", "spoil", "(I)I"⟩ ∈ hWS := hWS_in (i := 1719) (by decide +kernel) (by decide +kernel)
theorem wl68 : Cond.methodLink "SacredHensLaw" 153 ⟨"SacredHens", "spoilt", "(I)I"⟩ ∈ hWS := hWS_in (i := 880) (by decide +kernel) (by decide +kernel)
theorem wl69 : Cond.methodLink "SacredHensLaw" 156 ⟨"SacredHensModel", "spoilt", "(I)I"⟩ ∈ hWS := hWS_in (i := 1727) (by decide +kernel) (by decide +kernel)
theorem wl70 : Cond.methodLink "SacredHensLaw" 157 ⟨"SacredHens", "bribe", "(I)I"⟩ ∈ hWS := hWS_in (i := 884) (by decide +kernel) (by decide +kernel)
theorem wl71 : Cond.methodLink "SacredHensLaw" 160 ⟨"SacredHensModel", "bribe", "(I)I"⟩ ∈ hWS := hWS_in (i := 1731) (by decide +kernel) (by decide +kernel)
theorem wl72 : Cond.methodLink "SacredHensLaw" 161 ⟨"SacredHens", "unmark", "(I)I"⟩ ∈ hWS := hWS_in (i := 888) (by decide +kernel) (by decide +kernel)
theorem wl73 : Cond.methodLink "SacredHensLaw" 164 ⟨"SacredHensModel", "unmark", "(I)I"⟩ ∈ hWS := hWS_in (i := 1735) (by decide +kernel) (by decide +kernel)
theorem wl74 : Cond.methodLink "SacredHensLaw" 165 ⟨"SacredHens", "college", "(I)I"⟩ ∈ hWS := hWS_in (i := 892) (by decide +kernel) (by decide +kernel)
theorem wl75 : Cond.methodLink "SacredHensLaw" 168 ⟨"SacredHensModel", "college", "(I)I"⟩ ∈ hWS := hWS_in (i := 1739) (by decide +kernel) (by decide +kernel)
theorem wl76 : Cond.methodLink "SacredHensLaw" 169 ⟨"SacredHens", "chosen", "(I)I"⟩ ∈ hWS := hWS_in (i := 900) (by decide +kernel) (by decide +kernel)
theorem wl77 : Cond.methodLink "SacredHensLaw" 172 ⟨"SacredHensModel", "chosen", "(I)I"⟩ ∈ hWS := hWS_in (i := 1751) (by decide +kernel) (by decide +kernel)
theorem wl78 : Cond.methodLink "SacredHensLaw" 173 ⟨"SacredHens", "hold", "(II)I"⟩ ∈ hWS := hWS_in (i := 904) (by decide +kernel) (by decide +kernel)
theorem wl79 : Cond.methodLink "SacredHensLaw" 176 ⟨"SacredHensModel", "hold", "(II)I"⟩ ∈ hWS := hWS_in (i := 1755) (by decide +kernel) (by decide +kernel)
theorem wl80 : Cond.methodLink "SacredHensLaw" 177 ⟨"SacredHens", "idle", "(I)I"⟩ ∈ hWS := hWS_in (i := 908) (by decide +kernel) (by decide +kernel)
theorem wl81 : Cond.methodLink "SacredHensLaw" 180 ⟨"SacredHensModel", "idle", "(I)I"⟩ ∈ hWS := hWS_in (i := 1760) (by decide +kernel) (by decide +kernel)
theorem wl82 : Cond.methodLink "SacredHensLaw" 181 ⟨"SacredHens", "lone", "(I)I"⟩ ∈ hWS := hWS_in (i := 916) (by decide +kernel) (by decide +kernel)
theorem wl83 : Cond.methodLink "SacredHensLaw" 184 ⟨"SacredHensModel", "lone", "(I)I"⟩ ∈ hWS := hWS_in (i := 1764) (by decide +kernel) (by decide +kernel)
theorem wl84 : Cond.methodLink "SacredHensLaw" 185 ⟨"SacredHens", "tenure", "(I)I"⟩ ∈ hWS := hWS_in (i := 920) (by decide +kernel) (by decide +kernel)
theorem wl85 : Cond.methodLink "SacredHensLaw" 188 ⟨"SacredHensModel", "tenure", "(I)I"⟩ ∈ hWS := hWS_in (i := 1768) (by decide +kernel) (by decide +kernel)
theorem wl86 : Cond.methodLink "SacredHensLaw" 189 ⟨"SacredHens", "clear", "(I)I"⟩ ∈ hWS := hWS_in (i := 925) (by decide +kernel) (by decide +kernel)
theorem wl87 : Cond.methodLink "SacredHensLaw" 192 ⟨"SacredHensModel", "clear", "(I)I"⟩ ∈ hWS := hWS_in (i := 1772) (by decide +kernel) (by decide +kernel)
theorem wl88 : Cond.methodLink "SacredHensLaw" 193 ⟨"SacredHens", "run", "(I)I"⟩ ∈ hWS := hWS_in (i := 930) (by decide +kernel) (by decide +kernel)
theorem wl89 : Cond.methodLink "SacredHensLaw" 196 ⟨"SacredHensModel", "run", "(I)I"⟩ ∈ hWS := hWS_in (i := 1776) (by decide +kernel) (by decide +kernel)
theorem wl90 : Cond.methodLink "SacredHensLaw" 197 ⟨"SacredHens", "both", "()I"⟩ ∈ hWS := hWS_in (i := 934) (by decide +kernel) (by decide +kernel)
theorem wl91 : Cond.methodLink "SacredHensLaw" 200 ⟨"SacredHensModel", "both", "()I"⟩ ∈ hWS := hWS_in (i := 1780) (by decide +kernel) (by decide +kernel)
theorem wl92 : Cond.methodLink "SacredHensLaw" 201 ⟨"SacredHens", "falls", "(I)I"⟩ ∈ hWS := hWS_in (i := 938) (by decide +kernel) (by decide +kernel)
theorem wl93 : Cond.methodLink "SacredHensLaw" 204 ⟨"SacredHensModel", "falls", "(I)I"⟩ ∈ hWS := hWS_in (i := 1784) (by decide +kernel) (by decide +kernel)
theorem wl94 : Cond.methodLink "SacredHensLaw" 205 ⟨"SacredHens", "worst", "()I"⟩ ∈ hWS := hWS_in (i := 951) (by decide +kernel) (by decide +kernel)
theorem wl95 : Cond.methodLink "SacredHensLaw" 208 ⟨"SacredHensModel", "worst", "()I"⟩ ∈ hWS := hWS_in (i := 1792) (by decide +kernel) (by decide +kernel)
theorem wl96 : Cond.methodLink "SacredHensLaw" 209 ⟨"SacredHens", "needs", "(I)I"⟩ ∈ hWS := hWS_in (i := 955) (by decide +kernel) (by decide +kernel)
theorem wl97 : Cond.methodLink "SacredHensLaw" 212 ⟨"SacredHensModel", "needs", "(I)I"⟩ ∈ hWS := hWS_in (i := 1676) (by decide +kernel) (by decide +kernel)
theorem wl98 : Cond.methodLink "SacredHensLaw" 213 ⟨"SacredHens", "heirs", "(I)I"⟩ ∈ hWS := hWS_in (i := 959) (by decide +kernel) (by decide +kernel)
theorem wl99 : Cond.methodLink "SacredHensLaw" 216 ⟨"SacredHensModel", "heirs", "(I)I"⟩ ∈ hWS := hWS_in (i := 1684) (by decide +kernel) (by decide +kernel)
theorem wl100 : Cond.methodLink "SacredHensLaw" 217 ⟨"SacredHens", "fits", "(I)I"⟩ ∈ hWS := hWS_in (i := 963) (by decide +kernel) (by decide +kernel)
theorem wl101 : Cond.methodLink "SacredHensLaw" 220 ⟨"SacredHensModel", "fits", "(I)I"⟩ ∈ hWS := hWS_in (i := 1800) (by decide +kernel) (by decide +kernel)
theorem wl102 : Cond.methodLink "SacredHensLaw" 221 ⟨"SacredHens", "fed", "(I)I"⟩ ∈ hWS := hWS_in (i := 993) (by decide +kernel) (by decide +kernel)
theorem wl103 : Cond.methodLink "SacredHensLaw" 224 ⟨"SacredHensModel", "fed", "(I)I"⟩ ∈ hWS := hWS_in (i := 1820) (by decide +kernel) (by decide +kernel)
theorem wl104 : Cond.methodLink "SacredHensLaw" 225 ⟨"SacredHens", "starved", "(I)I"⟩ ∈ hWS := hWS_in (i := 997) (by decide +kernel) (by decide +kernel)
theorem wl105 : Cond.methodLink "SacredHensLaw" 228 ⟨"SacredHensModel", "starved", "(I)I"⟩ ∈ hWS := hWS_in (i := 1828) (by decide +kernel) (by decide +kernel)
theorem wl106 : Cond.methodLink "SacredHensLaw" 229 ⟨"SacredHens", "least", "(I)I"⟩ ∈ hWS := hWS_in (i := 1001) (by decide +kernel) (by decide +kernel)
theorem wl107 : Cond.methodLink "SacredHensLaw" 232 ⟨"SacredHensModel", "least", "(I)I"⟩ ∈ hWS := hWS_in (i := 1832) (by decide +kernel) (by decide +kernel)
theorem wl108 : Cond.methodLink "SacredHensLaw" 233 ⟨"SacredHens", "ask", "(I)I"⟩ ∈ hWS := hWS_in (i := 1005) (by decide +kernel) (by decide +kernel)
theorem wl109 : Cond.methodLink "SacredHensLaw" 236 ⟨"SacredHensModel", "ask", "(I)I"⟩ ∈ hWS := hWS_in (i := 1836) (by decide +kernel) (by decide +kernel)
theorem wl110 : Cond.methodLink "SacredHensLaw" 237 ⟨"SacredHens", "leaves", "(I)I"⟩ ∈ hWS := hWS_in (i := 1018) (by decide +kernel) (by decide +kernel)
theorem wl111 : Cond.methodLink "SacredHensLaw" 240 ⟨"SacredHensModel", "leaves", "(I)I"⟩ ∈ hWS := hWS_in (i := 1844) (by decide +kernel) (by decide +kernel)
theorem wl112 : Cond.methodLink "SacredHensLaw" 241 ⟨"SacredHens", "tally", "(III)I"⟩ ∈ hWS := hWS_in (i := 1023) (by decide +kernel) (by decide +kernel)
theorem wl113 : Cond.methodLink "SacredHensLaw" 245 ⟨"SacredHensModel", "tally", "(III)I"⟩ ∈ hWS := hWS_in (i := 1848) (by decide +kernel) (by decide +kernel)
theorem wl114 : Cond.methodLink "SacredHensLaw" 246 ⟨"SacredHens", "doubt", "(II)J"⟩ ∈ hWS := hWS_in (i := 1041) (by decide +kernel) (by decide +kernel)
theorem wl115 : Cond.methodLink "SacredHensLaw" 250 ⟨"SacredHensModel", "doubt", "(II)J"⟩ ∈ hWS := hWS_in (i := 1856) (by decide +kernel) (by decide +kernel)
theorem wl116 : Cond.methodLink "SacredHensLaw" 251 ⟨"SacredHens", "share", "(III)I"⟩ ∈ hWS := hWS_in (i := 1072) (by decide +kernel) (by decide +kernel)
theorem wl117 : Cond.methodLink "SacredHensLaw" 254 ⟨"SacredHensModel", "share", "(III)I"⟩ ∈ hWS := hWS_in (i := 1869) (by decide +kernel) (by decide +kernel)
theorem wl118 : Cond.methodLink "SacredHensLaw" 255 ⟨"SacredHens", "leans", "(I)I"⟩ ∈ hWS := hWS_in (i := 1077) (by decide +kernel) (by decide +kernel)
theorem wl119 : Cond.methodLink "SacredHensLaw" 258 ⟨"SacredHensModel", "leans", "(I)I"⟩ ∈ hWS := hWS_in (i := 1873) (by decide +kernel) (by decide +kernel)
theorem wl120 : Cond.methodLink "SacredHensLaw" 259 ⟨"SacredHens", "rests", "(II)I"⟩ ∈ hWS := hWS_in (i := 1084) (by decide +kernel) (by decide +kernel)
theorem wl121 : Cond.methodLink "SacredHensLaw" 262 ⟨"SacredHensModel", "rests", "(II)I"⟩ ∈ hWS := hWS_in (i := 1878) (by decide +kernel) (by decide +kernel)
theorem wl122 : Cond.methodLink "SacredHensLaw" 263 ⟨"SacredHens", "believes", "(I)I"⟩ ∈ hWS := hWS_in (i := 1100) (by decide +kernel) (by decide +kernel)
theorem wl123 : Cond.methodLink "SacredHensLaw" 266 ⟨"SacredHensModel", "believes", "(I)I"⟩ ∈ hWS := hWS_in (i := 1892) (by decide +kernel) (by decide +kernel)
theorem wl124 : Cond.methodLink "SacredHensLaw" 267 ⟨"SacredHens", "chance", "(I)J"⟩ ∈ hWS := hWS_in (i := 1104) (by decide +kernel) (by decide +kernel)
theorem wl125 : Cond.methodLink "SacredHensLaw" 271 ⟨"SacredHensModel", "chance", "(I)J"⟩ ∈ hWS := hWS_in (i := 1896) (by decide +kernel) (by decide +kernel)
theorem wl126 : Cond.methodLink "SacredHensLaw" 272 ⟨"SacredHens", "asks", "(II)I"⟩ ∈ hWS := hWS_in (i := 1109) (by decide +kernel) (by decide +kernel)
theorem wl127 : Cond.methodLink "SacredHensLaw" 275 ⟨"SacredHensModel", "asks", "(II)I"⟩ ∈ hWS := hWS_in (i := 1901) (by decide +kernel) (by decide +kernel)
theorem wl128 : Cond.methodLink "SacredHensLaw" 276 ⟨"SacredHens", "feeds", "(I)I"⟩ ∈ hWS := hWS_in (i := 1127) (by decide +kernel) (by decide +kernel)
theorem wl129 : Cond.methodLink "SacredHensLaw" 279 ⟨"SacredHensModel", "feeds", "(I)I"⟩ ∈ hWS := hWS_in (i := 1909) (by decide +kernel) (by decide +kernel)
theorem wl130 : Cond.methodLink "SacredHensLaw" 280 ⟨"SacredHens", "undo", "()I"⟩ ∈ hWS := hWS_in (i := 1131) (by decide +kernel) (by decide +kernel)
theorem wl131 : Cond.methodLink "SacredHensLaw" 283 ⟨"SacredHensModel", "undo", "()I"⟩ ∈ hWS := hWS_in (i := 1913) (by decide +kernel) (by decide +kernel)
theorem wl132 : Cond.methodLink "SacredHensLaw" 284 ⟨"SacredHens", "anew", "()I"⟩ ∈ hWS := hWS_in (i := 1135) (by decide +kernel) (by decide +kernel)
theorem wl133 : Cond.methodLink "SacredHensLaw" 287 ⟨"SacredHensModel", "anew", "()I"⟩ ∈ hWS := hWS_in (i := 1917) (by decide +kernel) (by decide +kernel)
theorem wl134 : Cond.methodLink "SacredHensLaw" 288 ⟨"SacredHens", "drawn", "(II)I"⟩ ∈ hWS := hWS_in (i := 1139) (by decide +kernel) (by decide +kernel)
theorem wl135 : Cond.methodLink "SacredHensLaw" 291 ⟨"SacredHensModel", "drawn", "(II)I"⟩ ∈ hWS := hWS_in (i := 1921) (by decide +kernel) (by decide +kernel)
theorem wl136 : Cond.methodLink "SacredHensLaw" 292 ⟨"SacredHens", "luck", "(III)I"⟩ ∈ hWS := hWS_in (i := 1151) (by decide +kernel) (by decide +kernel)
theorem wl137 : Cond.methodLink "SacredHensLaw" 295 ⟨"SacredHensModel", "luck", "(III)I"⟩ ∈ hWS := hWS_in (i := 1933) (by decide +kernel) (by decide +kernel)
theorem wl138 : Cond.methodLink "SacredHensLaw" 296 ⟨"SacredHens", "rate", "(II)I"⟩ ∈ hWS := hWS_in (i := 1155) (by decide +kernel) (by decide +kernel)
theorem wl139 : Cond.methodLink "SacredHensLaw" 299 ⟨"SacredHensModel", "rate", "(II)I"⟩ ∈ hWS := hWS_in (i := 1938) (by decide +kernel) (by decide +kernel)
theorem wl140 : Cond.methodLink "SacredHensLaw" 300 ⟨"SacredHens", "count", "(I)I"⟩ ∈ hWS := hWS_in (i := 1159) (by decide +kernel) (by decide +kernel)
theorem wl141 : Cond.methodLink "SacredHensLaw" 303 ⟨"SacredHensModel", "count", "(I)I"⟩ ∈ hWS := hWS_in (i := 1942) (by decide +kernel) (by decide +kernel)
theorem wl142 : Cond.methodLink "SacredHensLaw" 304 ⟨"SacredHens", "image", "(I)I"⟩ ∈ hWS := hWS_in (i := 1167) (by decide +kernel) (by decide +kernel)
theorem wl143 : Cond.methodLink "SacredHensLaw" 307 ⟨"SacredHensModel", "image", "(I)I"⟩ ∈ hWS := hWS_in (i := 1343) (by decide +kernel) (by decide +kernel)
theorem wl144 : Cond.methodLink "SacredHensLaw" 308 ⟨"SacredHens", "back", "(I)I"⟩ ∈ hWS := hWS_in (i := 1181) (by decide +kernel) (by decide +kernel)
theorem wl145 : Cond.methodLink "SacredHensLaw" 311 ⟨"SacredHensModel", "back", "(I)I"⟩ ∈ hWS := hWS_in (i := 1351) (by decide +kernel) (by decide +kernel)
theorem wl146 : Cond.methodLink "SacredHensLaw" 312 ⟨"SacredHens", "row", "(III)I"⟩ ∈ hWS := hWS_in (i := 1185) (by decide +kernel) (by decide +kernel)
theorem wl147 : Cond.methodLink "SacredHensLaw" 315 ⟨"SacredHensModel", "row", "(III)I"⟩ ∈ hWS := hWS_in (i := 1947) (by decide +kernel) (by decide +kernel)
theorem wl148 : Cond.constantLong "SacredHensLaw" 316 4294967295 ∈ hWS := hWS_in (i := 1962) (by decide +kernel) (by decide +kernel)
theorem wl149 : Cond.methodLink "SacredHensLaw" 318 ⟨"SacredHens", "write", "(IIJ)I"⟩ ∈ hWS := hWS_in (i := 1193) (by decide +kernel) (by decide +kernel)
theorem wl150 : Cond.methodLink "SacredHensLaw" 322 ⟨"SacredHensModel", "write", "(IIJ)I"⟩ ∈ hWS := hWS_in (i := 1951) (by decide +kernel) (by decide +kernel)
theorem wl151 : Cond.methodLink "SacredHensLaw" 323 ⟨"SacredHens", "paste", "(IIIII)I"⟩ ∈ hWS := hWS_in (i := 1201) (by decide +kernel) (by decide +kernel)
theorem wl152 : Cond.methodLink "SacredHensLaw" 326 ⟨"SacredHensModel", "paste", "(IIIII)I"⟩ ∈ hWS := hWS_in (i := 1958) (by decide +kernel) (by decide +kernel)
