/-! THE LAW: its bytes, its words -/
def dk_ok (l : List (Nat × Except DecodeError (Instr × Nat))) : Bool := l.all (fun q => decide (decode code q.1 = q.2))
theorem dk_get {l : List (Nat × Except DecodeError (Instr × Nat))} (h : dk_ok l = true) (k : Nat) {n : Nat} {r : Except DecodeError (Instr × Nat)} (hq : l[k]? = some (n, r)) : decode code n = r := of_decide_eq_true (List.all_eq_true.mp h (n, r) (List.mem_of_getElem? hq))
theorem dT_0 : dk_ok [(0, .ok (.new 7, 3)), (3, .ok (.dup, 1)), (4, .ok (.invokespecial 9, 3)), (7, .ok (.astore_n 1, 1)), (8, .ok (.new 10, 3)), (11, .ok (.dup, 1)), (12, .ok (.invokespecial 12, 3)), (15, .ok (.astore_n 2, 1)), (16, .ok (.iconst 0, 1)), (17, .ok (.istore_n 3, 1)), (18, .ok (.iload_n 3, 1)), (19, .ok (.aload_n 0, 1)), (20, .ok (.arraylength, 1)), (21, .ok (.bipush 6, 2)), (23, .ok (.isub, 1)), (24, .ok (.if_icmp .gt 2264, 3)), (27, .ok (.aload_n 0, 1)), (28, .ok (.iload_n 3, 1)), (29, .ok (.iaload, 1)), (30, .ok (.bipush 127, 2)), (32, .ok (.iand, 1)), (33, .ok (.tableswitch 2249 0 75 #[319, 382, 405, 418, 441, 474, 507, 520, 543, 566, 589, 602, 625, 648, 661, 674, 687, 710, 733, 756, 779, 802, 825, 858, 881, 904, 927, 950, 963, 986, 1009, 1022, 1045, 1068, 1091, 1114, 1137, 1160, 1183, 1206, 1239, 1262, 1285, 1308, 1331, 1354, 1367, 1390, 1403, 1426, 1449, 1472, 1495, 1518, 1541, 1564, 1587, 1630, 1664, 1707, 1730, 1763, 1786, 1810, 1843, 1866, 1879, 1892, 1925, 1968, 2001, 2024, 2047, 2070, 2113, 2186], 319)), (352, .ok (.aload_n 1, 1)), (353, .ok (.aload_n 0, 1)), (354, .ok (.iload_n 3, 1)), (355, .ok (.iconst 1, 1)), (356, .ok (.iadd, 1)), (357, .ok (.iaload, 1)), (358, .ok (.aload_n 0, 1)), (359, .ok (.iload_n 3, 1)), (360, .ok (.iconst 2, 1)), (361, .ok (.iadd, 1))] = true := by decide +kernel
theorem dL_0 : decode code 0 = .ok (.new 7, 3) := dk_get dT_0 0 rfl
theorem dL_3 : decode code 3 = .ok (.dup, 1) := dk_get dT_0 1 rfl
theorem dL_4 : decode code 4 = .ok (.invokespecial 9, 3) := dk_get dT_0 2 rfl
theorem dL_7 : decode code 7 = .ok (.astore_n 1, 1) := dk_get dT_0 3 rfl
theorem dL_8 : decode code 8 = .ok (.new 10, 3) := dk_get dT_0 4 rfl
theorem dL_11 : decode code 11 = .ok (.dup, 1) := dk_get dT_0 5 rfl
theorem dL_12 : decode code 12 = .ok (.invokespecial 12, 3) := dk_get dT_0 6 rfl
theorem dL_15 : decode code 15 = .ok (.astore_n 2, 1) := dk_get dT_0 7 rfl
theorem dL_16 : decode code 16 = .ok (.iconst 0, 1) := dk_get dT_0 8 rfl
theorem dL_17 : decode code 17 = .ok (.istore_n 3, 1) := dk_get dT_0 9 rfl
theorem dL_18 : decode code 18 = .ok (.iload_n 3, 1) := dk_get dT_0 10 rfl
theorem dL_19 : decode code 19 = .ok (.aload_n 0, 1) := dk_get dT_0 11 rfl
theorem dL_20 : decode code 20 = .ok (.arraylength, 1) := dk_get dT_0 12 rfl
theorem dL_21 : decode code 21 = .ok (.bipush 6, 2) := dk_get dT_0 13 rfl
theorem dL_23 : decode code 23 = .ok (.isub, 1) := dk_get dT_0 14 rfl
theorem dL_24 : decode code 24 = .ok (.if_icmp .gt 2264, 3) := dk_get dT_0 15 rfl
theorem dL_27 : decode code 27 = .ok (.aload_n 0, 1) := dk_get dT_0 16 rfl
theorem dL_28 : decode code 28 = .ok (.iload_n 3, 1) := dk_get dT_0 17 rfl
theorem dL_29 : decode code 29 = .ok (.iaload, 1) := dk_get dT_0 18 rfl
theorem dL_30 : decode code 30 = .ok (.bipush 127, 2) := dk_get dT_0 19 rfl
theorem dL_32 : decode code 32 = .ok (.iand, 1) := dk_get dT_0 20 rfl
theorem dL_33 : decode code 33 = .ok (.tableswitch 2249 0 75 #[319, 382, 405, 418, 441, 474, 507, 520, 543, 566, 589, 602, 625, 648, 661, 674, 687, 710, 733, 756, 779, 802, 825, 858, 881, 904, 927, 950, 963, 986, 1009, 1022, 1045, 1068, 1091, 1114, 1137, 1160, 1183, 1206, 1239, 1262, 1285, 1308, 1331, 1354, 1367, 1390, 1403, 1426, 1449, 1472, 1495, 1518, 1541, 1564, 1587, 1630, 1664, 1707, 1730, 1763, 1786, 1810, 1843, 1866, 1879, 1892, 1925, 1968, 2001, 2024, 2047, 2070, 2113, 2186], 319) := dk_get dT_0 21 rfl
theorem dL_352 : decode code 352 = .ok (.aload_n 1, 1) := dk_get dT_0 22 rfl
theorem dL_353 : decode code 353 = .ok (.aload_n 0, 1) := dk_get dT_0 23 rfl
theorem dL_354 : decode code 354 = .ok (.iload_n 3, 1) := dk_get dT_0 24 rfl
theorem dL_355 : decode code 355 = .ok (.iconst 1, 1) := dk_get dT_0 25 rfl
theorem dL_356 : decode code 356 = .ok (.iadd, 1) := dk_get dT_0 26 rfl
theorem dL_357 : decode code 357 = .ok (.iaload, 1) := dk_get dT_0 27 rfl
theorem dL_358 : decode code 358 = .ok (.aload_n 0, 1) := dk_get dT_0 28 rfl
theorem dL_359 : decode code 359 = .ok (.iload_n 3, 1) := dk_get dT_0 29 rfl
theorem dL_360 : decode code 360 = .ok (.iconst 2, 1) := dk_get dT_0 30 rfl
theorem dL_361 : decode code 361 = .ok (.iadd, 1) := dk_get dT_0 31 rfl
theorem dT_1 : dk_ok [(362, .ok (.iaload, 1)), (363, .ok (.aload_n 0, 1)), (364, .ok (.iload_n 3, 1)), (365, .ok (.iconst 3, 1)), (366, .ok (.iadd, 1)), (367, .ok (.iaload, 1)), (368, .ok (.aload_n 0, 1)), (369, .ok (.iload_n 3, 1)), (370, .ok (.iconst 4, 1)), (371, .ok (.iadd, 1)), (372, .ok (.iaload, 1)), (373, .ok (.aload_n 0, 1)), (374, .ok (.iload_n 3, 1)), (375, .ok (.iconst 5, 1)), (376, .ok (.iadd, 1)), (377, .ok (.iaload, 1)), (378, .ok (.invokevirtual 13, 3)), (381, .ok (.aload_n 2, 1)), (382, .ok (.aload_n 0, 1)), (383, .ok (.iload_n 3, 1)), (384, .ok (.iconst 1, 1)), (385, .ok (.iadd, 1)), (386, .ok (.iaload, 1)), (387, .ok (.aload_n 0, 1)), (388, .ok (.iload_n 3, 1)), (389, .ok (.iconst 2, 1)), (390, .ok (.iadd, 1)), (391, .ok (.iaload, 1)), (392, .ok (.aload_n 0, 1)), (393, .ok (.iload_n 3, 1)), (394, .ok (.iconst 3, 1)), (395, .ok (.iadd, 1))] = true := by decide +kernel
theorem dL_362 : decode code 362 = .ok (.iaload, 1) := dk_get dT_1 0 rfl
theorem dL_363 : decode code 363 = .ok (.aload_n 0, 1) := dk_get dT_1 1 rfl
theorem dL_364 : decode code 364 = .ok (.iload_n 3, 1) := dk_get dT_1 2 rfl
theorem dL_365 : decode code 365 = .ok (.iconst 3, 1) := dk_get dT_1 3 rfl
theorem dL_366 : decode code 366 = .ok (.iadd, 1) := dk_get dT_1 4 rfl
theorem dL_367 : decode code 367 = .ok (.iaload, 1) := dk_get dT_1 5 rfl
theorem dL_368 : decode code 368 = .ok (.aload_n 0, 1) := dk_get dT_1 6 rfl
theorem dL_369 : decode code 369 = .ok (.iload_n 3, 1) := dk_get dT_1 7 rfl
theorem dL_370 : decode code 370 = .ok (.iconst 4, 1) := dk_get dT_1 8 rfl
theorem dL_371 : decode code 371 = .ok (.iadd, 1) := dk_get dT_1 9 rfl
theorem dL_372 : decode code 372 = .ok (.iaload, 1) := dk_get dT_1 10 rfl
theorem dL_373 : decode code 373 = .ok (.aload_n 0, 1) := dk_get dT_1 11 rfl
theorem dL_374 : decode code 374 = .ok (.iload_n 3, 1) := dk_get dT_1 12 rfl
theorem dL_375 : decode code 375 = .ok (.iconst 5, 1) := dk_get dT_1 13 rfl
theorem dL_376 : decode code 376 = .ok (.iadd, 1) := dk_get dT_1 14 rfl
theorem dL_377 : decode code 377 = .ok (.iaload, 1) := dk_get dT_1 15 rfl
theorem dL_378 : decode code 378 = .ok (.invokevirtual 13, 3) := dk_get dT_1 16 rfl
theorem dL_381 : decode code 381 = .ok (.aload_n 2, 1) := dk_get dT_1 17 rfl
theorem dL_382 : decode code 382 = .ok (.aload_n 0, 1) := dk_get dT_1 18 rfl
theorem dL_383 : decode code 383 = .ok (.iload_n 3, 1) := dk_get dT_1 19 rfl
theorem dL_384 : decode code 384 = .ok (.iconst 1, 1) := dk_get dT_1 20 rfl
theorem dL_385 : decode code 385 = .ok (.iadd, 1) := dk_get dT_1 21 rfl
theorem dL_386 : decode code 386 = .ok (.iaload, 1) := dk_get dT_1 22 rfl
theorem dL_387 : decode code 387 = .ok (.aload_n 0, 1) := dk_get dT_1 23 rfl
theorem dL_388 : decode code 388 = .ok (.iload_n 3, 1) := dk_get dT_1 24 rfl
theorem dL_389 : decode code 389 = .ok (.iconst 2, 1) := dk_get dT_1 25 rfl
theorem dL_390 : decode code 390 = .ok (.iadd, 1) := dk_get dT_1 26 rfl
theorem dL_391 : decode code 391 = .ok (.iaload, 1) := dk_get dT_1 27 rfl
theorem dL_392 : decode code 392 = .ok (.aload_n 0, 1) := dk_get dT_1 28 rfl
theorem dL_393 : decode code 393 = .ok (.iload_n 3, 1) := dk_get dT_1 29 rfl
theorem dL_394 : decode code 394 = .ok (.iconst 3, 1) := dk_get dT_1 30 rfl
theorem dL_395 : decode code 395 = .ok (.iadd, 1) := dk_get dT_1 31 rfl
theorem dT_2 : dk_ok [(396, .ok (.iaload, 1)), (397, .ok (.aload_n 0, 1)), (398, .ok (.iload_n 3, 1)), (399, .ok (.iconst 4, 1)), (400, .ok (.iadd, 1)), (401, .ok (.iaload, 1)), (402, .ok (.aload_n 0, 1)), (403, .ok (.iload_n 3, 1)), (404, .ok (.iconst 5, 1)), (405, .ok (.iadd, 1)), (406, .ok (.iaload, 1)), (407, .ok (.invokevirtual 17, 3)), (410, .ok (.if_icmp .eq 1872, 3)), (413, .ok (.iconst 0, 1)), (414, .ok (.ireturn, 1)), (415, .ok (.aload_n 1, 1)), (416, .ok (.aload_n 0, 1)), (417, .ok (.iload_n 3, 1)), (418, .ok (.iconst 1, 1)), (419, .ok (.iadd, 1)), (420, .ok (.iaload, 1)), (421, .ok (.invokevirtual 18, 3)), (424, .ok (.aload_n 2, 1)), (425, .ok (.aload_n 0, 1)), (426, .ok (.iload_n 3, 1)), (427, .ok (.iconst 1, 1)), (428, .ok (.iadd, 1)), (429, .ok (.iaload, 1)), (430, .ok (.invokevirtual 22, 3)), (433, .ok (.if_icmp .eq 1849, 3)), (436, .ok (.iconst 0, 1)), (437, .ok (.ireturn, 1))] = true := by decide +kernel
theorem dL_396 : decode code 396 = .ok (.iaload, 1) := dk_get dT_2 0 rfl
theorem dL_397 : decode code 397 = .ok (.aload_n 0, 1) := dk_get dT_2 1 rfl
theorem dL_398 : decode code 398 = .ok (.iload_n 3, 1) := dk_get dT_2 2 rfl
theorem dL_399 : decode code 399 = .ok (.iconst 4, 1) := dk_get dT_2 3 rfl
theorem dL_400 : decode code 400 = .ok (.iadd, 1) := dk_get dT_2 4 rfl
theorem dL_401 : decode code 401 = .ok (.iaload, 1) := dk_get dT_2 5 rfl
theorem dL_402 : decode code 402 = .ok (.aload_n 0, 1) := dk_get dT_2 6 rfl
theorem dL_403 : decode code 403 = .ok (.iload_n 3, 1) := dk_get dT_2 7 rfl
theorem dL_404 : decode code 404 = .ok (.iconst 5, 1) := dk_get dT_2 8 rfl
theorem dL_405 : decode code 405 = .ok (.iadd, 1) := dk_get dT_2 9 rfl
theorem dL_406 : decode code 406 = .ok (.iaload, 1) := dk_get dT_2 10 rfl
theorem dL_407 : decode code 407 = .ok (.invokevirtual 17, 3) := dk_get dT_2 11 rfl
theorem dL_410 : decode code 410 = .ok (.if_icmp .eq 1872, 3) := dk_get dT_2 12 rfl
theorem dL_413 : decode code 413 = .ok (.iconst 0, 1) := dk_get dT_2 13 rfl
theorem dL_414 : decode code 414 = .ok (.ireturn, 1) := dk_get dT_2 14 rfl
theorem dL_415 : decode code 415 = .ok (.aload_n 1, 1) := dk_get dT_2 15 rfl
theorem dL_416 : decode code 416 = .ok (.aload_n 0, 1) := dk_get dT_2 16 rfl
theorem dL_417 : decode code 417 = .ok (.iload_n 3, 1) := dk_get dT_2 17 rfl
theorem dL_418 : decode code 418 = .ok (.iconst 1, 1) := dk_get dT_2 18 rfl
theorem dL_419 : decode code 419 = .ok (.iadd, 1) := dk_get dT_2 19 rfl
theorem dL_420 : decode code 420 = .ok (.iaload, 1) := dk_get dT_2 20 rfl
theorem dL_421 : decode code 421 = .ok (.invokevirtual 18, 3) := dk_get dT_2 21 rfl
theorem dL_424 : decode code 424 = .ok (.aload_n 2, 1) := dk_get dT_2 22 rfl
theorem dL_425 : decode code 425 = .ok (.aload_n 0, 1) := dk_get dT_2 23 rfl
theorem dL_426 : decode code 426 = .ok (.iload_n 3, 1) := dk_get dT_2 24 rfl
theorem dL_427 : decode code 427 = .ok (.iconst 1, 1) := dk_get dT_2 25 rfl
theorem dL_428 : decode code 428 = .ok (.iadd, 1) := dk_get dT_2 26 rfl
theorem dL_429 : decode code 429 = .ok (.iaload, 1) := dk_get dT_2 27 rfl
theorem dL_430 : decode code 430 = .ok (.invokevirtual 22, 3) := dk_get dT_2 28 rfl
theorem dL_433 : decode code 433 = .ok (.if_icmp .eq 1849, 3) := dk_get dT_2 29 rfl
theorem dL_436 : decode code 436 = .ok (.iconst 0, 1) := dk_get dT_2 30 rfl
theorem dL_437 : decode code 437 = .ok (.ireturn, 1) := dk_get dT_2 31 rfl
theorem dT_3 : dk_ok [(438, .ok (.aload_n 1, 1)), (439, .ok (.invokevirtual 23, 3)), (442, .ok (.aload_n 2, 1)), (443, .ok (.invokevirtual 27, 3)), (446, .ok (.if_icmp .eq 1836, 3)), (449, .ok (.iconst 0, 1)), (450, .ok (.ireturn, 1)), (451, .ok (.aload_n 1, 1)), (452, .ok (.aload_n 0, 1)), (453, .ok (.iload_n 3, 1)), (454, .ok (.iconst 1, 1)), (455, .ok (.iadd, 1)), (456, .ok (.iaload, 1)), (457, .ok (.invokevirtual 28, 3)), (460, .ok (.aload_n 2, 1)), (461, .ok (.aload_n 0, 1)), (462, .ok (.iload_n 3, 1)), (463, .ok (.iconst 1, 1)), (464, .ok (.iadd, 1)), (465, .ok (.iaload, 1)), (466, .ok (.invokevirtual 31, 3)), (469, .ok (.if_icmp .eq 1813, 3)), (472, .ok (.iconst 0, 1)), (473, .ok (.ireturn, 1)), (474, .ok (.aload_n 1, 1)), (475, .ok (.aload_n 0, 1)), (476, .ok (.iload_n 3, 1)), (477, .ok (.iconst 1, 1)), (478, .ok (.iadd, 1)), (479, .ok (.iaload, 1)), (480, .ok (.aload_n 0, 1)), (481, .ok (.iload_n 3, 1))] = true := by decide +kernel
theorem dL_438 : decode code 438 = .ok (.aload_n 1, 1) := dk_get dT_3 0 rfl
theorem dL_439 : decode code 439 = .ok (.invokevirtual 23, 3) := dk_get dT_3 1 rfl
theorem dL_442 : decode code 442 = .ok (.aload_n 2, 1) := dk_get dT_3 2 rfl
theorem dL_443 : decode code 443 = .ok (.invokevirtual 27, 3) := dk_get dT_3 3 rfl
theorem dL_446 : decode code 446 = .ok (.if_icmp .eq 1836, 3) := dk_get dT_3 4 rfl
theorem dL_449 : decode code 449 = .ok (.iconst 0, 1) := dk_get dT_3 5 rfl
theorem dL_450 : decode code 450 = .ok (.ireturn, 1) := dk_get dT_3 6 rfl
theorem dL_451 : decode code 451 = .ok (.aload_n 1, 1) := dk_get dT_3 7 rfl
theorem dL_452 : decode code 452 = .ok (.aload_n 0, 1) := dk_get dT_3 8 rfl
theorem dL_453 : decode code 453 = .ok (.iload_n 3, 1) := dk_get dT_3 9 rfl
theorem dL_454 : decode code 454 = .ok (.iconst 1, 1) := dk_get dT_3 10 rfl
theorem dL_455 : decode code 455 = .ok (.iadd, 1) := dk_get dT_3 11 rfl
theorem dL_456 : decode code 456 = .ok (.iaload, 1) := dk_get dT_3 12 rfl
theorem dL_457 : decode code 457 = .ok (.invokevirtual 28, 3) := dk_get dT_3 13 rfl
theorem dL_460 : decode code 460 = .ok (.aload_n 2, 1) := dk_get dT_3 14 rfl
theorem dL_461 : decode code 461 = .ok (.aload_n 0, 1) := dk_get dT_3 15 rfl
theorem dL_462 : decode code 462 = .ok (.iload_n 3, 1) := dk_get dT_3 16 rfl
theorem dL_463 : decode code 463 = .ok (.iconst 1, 1) := dk_get dT_3 17 rfl
theorem dL_464 : decode code 464 = .ok (.iadd, 1) := dk_get dT_3 18 rfl
theorem dL_465 : decode code 465 = .ok (.iaload, 1) := dk_get dT_3 19 rfl
theorem dL_466 : decode code 466 = .ok (.invokevirtual 31, 3) := dk_get dT_3 20 rfl
theorem dL_469 : decode code 469 = .ok (.if_icmp .eq 1813, 3) := dk_get dT_3 21 rfl
theorem dL_472 : decode code 472 = .ok (.iconst 0, 1) := dk_get dT_3 22 rfl
theorem dL_473 : decode code 473 = .ok (.ireturn, 1) := dk_get dT_3 23 rfl
theorem dL_474 : decode code 474 = .ok (.aload_n 1, 1) := dk_get dT_3 24 rfl
theorem dL_475 : decode code 475 = .ok (.aload_n 0, 1) := dk_get dT_3 25 rfl
theorem dL_476 : decode code 476 = .ok (.iload_n 3, 1) := dk_get dT_3 26 rfl
theorem dL_477 : decode code 477 = .ok (.iconst 1, 1) := dk_get dT_3 27 rfl
theorem dL_478 : decode code 478 = .ok (.iadd, 1) := dk_get dT_3 28 rfl
theorem dL_479 : decode code 479 = .ok (.iaload, 1) := dk_get dT_3 29 rfl
theorem dL_480 : decode code 480 = .ok (.aload_n 0, 1) := dk_get dT_3 30 rfl
theorem dL_481 : decode code 481 = .ok (.iload_n 3, 1) := dk_get dT_3 31 rfl
theorem dT_4 : dk_ok [(482, .ok (.iconst 2, 1)), (483, .ok (.iadd, 1)), (484, .ok (.iaload, 1)), (485, .ok (.invokevirtual 32, 3)), (488, .ok (.aload_n 2, 1)), (489, .ok (.aload_n 0, 1)), (490, .ok (.iload_n 3, 1)), (491, .ok (.iconst 1, 1)), (492, .ok (.iadd, 1)), (493, .ok (.iaload, 1)), (494, .ok (.aload_n 0, 1)), (495, .ok (.iload_n 3, 1)), (496, .ok (.iconst 2, 1)), (497, .ok (.iadd, 1)), (498, .ok (.iaload, 1)), (499, .ok (.invokevirtual 36, 3)), (502, .ok (.if_icmp .eq 1780, 3)), (505, .ok (.iconst 0, 1)), (506, .ok (.ireturn, 1)), (507, .ok (.aload_n 1, 1)), (508, .ok (.aload_n 0, 1)), (509, .ok (.iload_n 3, 1)), (510, .ok (.iconst 1, 1)), (511, .ok (.iadd, 1)), (512, .ok (.iaload, 1)), (513, .ok (.aload_n 0, 1)), (514, .ok (.iload_n 3, 1)), (515, .ok (.iconst 2, 1)), (516, .ok (.iadd, 1)), (517, .ok (.iaload, 1)), (518, .ok (.invokevirtual 37, 3)), (521, .ok (.aload_n 2, 1))] = true := by decide +kernel
theorem dL_482 : decode code 482 = .ok (.iconst 2, 1) := dk_get dT_4 0 rfl
theorem dL_483 : decode code 483 = .ok (.iadd, 1) := dk_get dT_4 1 rfl
theorem dL_484 : decode code 484 = .ok (.iaload, 1) := dk_get dT_4 2 rfl
theorem dL_485 : decode code 485 = .ok (.invokevirtual 32, 3) := dk_get dT_4 3 rfl
theorem dL_488 : decode code 488 = .ok (.aload_n 2, 1) := dk_get dT_4 4 rfl
theorem dL_489 : decode code 489 = .ok (.aload_n 0, 1) := dk_get dT_4 5 rfl
theorem dL_490 : decode code 490 = .ok (.iload_n 3, 1) := dk_get dT_4 6 rfl
theorem dL_491 : decode code 491 = .ok (.iconst 1, 1) := dk_get dT_4 7 rfl
theorem dL_492 : decode code 492 = .ok (.iadd, 1) := dk_get dT_4 8 rfl
theorem dL_493 : decode code 493 = .ok (.iaload, 1) := dk_get dT_4 9 rfl
theorem dL_494 : decode code 494 = .ok (.aload_n 0, 1) := dk_get dT_4 10 rfl
theorem dL_495 : decode code 495 = .ok (.iload_n 3, 1) := dk_get dT_4 11 rfl
theorem dL_496 : decode code 496 = .ok (.iconst 2, 1) := dk_get dT_4 12 rfl
theorem dL_497 : decode code 497 = .ok (.iadd, 1) := dk_get dT_4 13 rfl
theorem dL_498 : decode code 498 = .ok (.iaload, 1) := dk_get dT_4 14 rfl
theorem dL_499 : decode code 499 = .ok (.invokevirtual 36, 3) := dk_get dT_4 15 rfl
theorem dL_502 : decode code 502 = .ok (.if_icmp .eq 1780, 3) := dk_get dT_4 16 rfl
theorem dL_505 : decode code 505 = .ok (.iconst 0, 1) := dk_get dT_4 17 rfl
theorem dL_506 : decode code 506 = .ok (.ireturn, 1) := dk_get dT_4 18 rfl
theorem dL_507 : decode code 507 = .ok (.aload_n 1, 1) := dk_get dT_4 19 rfl
theorem dL_508 : decode code 508 = .ok (.aload_n 0, 1) := dk_get dT_4 20 rfl
theorem dL_509 : decode code 509 = .ok (.iload_n 3, 1) := dk_get dT_4 21 rfl
theorem dL_510 : decode code 510 = .ok (.iconst 1, 1) := dk_get dT_4 22 rfl
theorem dL_511 : decode code 511 = .ok (.iadd, 1) := dk_get dT_4 23 rfl
theorem dL_512 : decode code 512 = .ok (.iaload, 1) := dk_get dT_4 24 rfl
theorem dL_513 : decode code 513 = .ok (.aload_n 0, 1) := dk_get dT_4 25 rfl
theorem dL_514 : decode code 514 = .ok (.iload_n 3, 1) := dk_get dT_4 26 rfl
theorem dL_515 : decode code 515 = .ok (.iconst 2, 1) := dk_get dT_4 27 rfl
theorem dL_516 : decode code 516 = .ok (.iadd, 1) := dk_get dT_4 28 rfl
theorem dL_517 : decode code 517 = .ok (.iaload, 1) := dk_get dT_4 29 rfl
theorem dL_518 : decode code 518 = .ok (.invokevirtual 37, 3) := dk_get dT_4 30 rfl
theorem dL_521 : decode code 521 = .ok (.aload_n 2, 1) := dk_get dT_4 31 rfl
theorem dT_5 : dk_ok [(522, .ok (.aload_n 0, 1)), (523, .ok (.iload_n 3, 1)), (524, .ok (.iconst 1, 1)), (525, .ok (.iadd, 1)), (526, .ok (.iaload, 1)), (527, .ok (.aload_n 0, 1)), (528, .ok (.iload_n 3, 1)), (529, .ok (.iconst 2, 1)), (530, .ok (.iadd, 1)), (531, .ok (.iaload, 1)), (532, .ok (.invokevirtual 40, 3)), (535, .ok (.if_icmp .eq 1747, 3)), (538, .ok (.iconst 0, 1)), (539, .ok (.ireturn, 1)), (540, .ok (.aload_n 1, 1)), (541, .ok (.invokevirtual 41, 3)), (544, .ok (.aload_n 2, 1)), (545, .ok (.invokevirtual 44, 3)), (548, .ok (.if_icmp .eq 1734, 3)), (551, .ok (.iconst 0, 1)), (552, .ok (.ireturn, 1)), (553, .ok (.aload_n 1, 1)), (554, .ok (.aload_n 0, 1)), (555, .ok (.iload_n 3, 1)), (556, .ok (.iconst 1, 1)), (557, .ok (.iadd, 1)), (558, .ok (.iaload, 1)), (559, .ok (.invokevirtual 45, 3)), (562, .ok (.aload_n 2, 1)), (563, .ok (.aload_n 0, 1)), (564, .ok (.iload_n 3, 1)), (565, .ok (.iconst 1, 1))] = true := by decide +kernel
theorem dL_522 : decode code 522 = .ok (.aload_n 0, 1) := dk_get dT_5 0 rfl
theorem dL_523 : decode code 523 = .ok (.iload_n 3, 1) := dk_get dT_5 1 rfl
theorem dL_524 : decode code 524 = .ok (.iconst 1, 1) := dk_get dT_5 2 rfl
theorem dL_525 : decode code 525 = .ok (.iadd, 1) := dk_get dT_5 3 rfl
theorem dL_526 : decode code 526 = .ok (.iaload, 1) := dk_get dT_5 4 rfl
theorem dL_527 : decode code 527 = .ok (.aload_n 0, 1) := dk_get dT_5 5 rfl
theorem dL_528 : decode code 528 = .ok (.iload_n 3, 1) := dk_get dT_5 6 rfl
theorem dL_529 : decode code 529 = .ok (.iconst 2, 1) := dk_get dT_5 7 rfl
theorem dL_530 : decode code 530 = .ok (.iadd, 1) := dk_get dT_5 8 rfl
theorem dL_531 : decode code 531 = .ok (.iaload, 1) := dk_get dT_5 9 rfl
theorem dL_532 : decode code 532 = .ok (.invokevirtual 40, 3) := dk_get dT_5 10 rfl
theorem dL_535 : decode code 535 = .ok (.if_icmp .eq 1747, 3) := dk_get dT_5 11 rfl
theorem dL_538 : decode code 538 = .ok (.iconst 0, 1) := dk_get dT_5 12 rfl
theorem dL_539 : decode code 539 = .ok (.ireturn, 1) := dk_get dT_5 13 rfl
theorem dL_540 : decode code 540 = .ok (.aload_n 1, 1) := dk_get dT_5 14 rfl
theorem dL_541 : decode code 541 = .ok (.invokevirtual 41, 3) := dk_get dT_5 15 rfl
theorem dL_544 : decode code 544 = .ok (.aload_n 2, 1) := dk_get dT_5 16 rfl
theorem dL_545 : decode code 545 = .ok (.invokevirtual 44, 3) := dk_get dT_5 17 rfl
theorem dL_548 : decode code 548 = .ok (.if_icmp .eq 1734, 3) := dk_get dT_5 18 rfl
theorem dL_551 : decode code 551 = .ok (.iconst 0, 1) := dk_get dT_5 19 rfl
theorem dL_552 : decode code 552 = .ok (.ireturn, 1) := dk_get dT_5 20 rfl
theorem dL_553 : decode code 553 = .ok (.aload_n 1, 1) := dk_get dT_5 21 rfl
theorem dL_554 : decode code 554 = .ok (.aload_n 0, 1) := dk_get dT_5 22 rfl
theorem dL_555 : decode code 555 = .ok (.iload_n 3, 1) := dk_get dT_5 23 rfl
theorem dL_556 : decode code 556 = .ok (.iconst 1, 1) := dk_get dT_5 24 rfl
theorem dL_557 : decode code 557 = .ok (.iadd, 1) := dk_get dT_5 25 rfl
theorem dL_558 : decode code 558 = .ok (.iaload, 1) := dk_get dT_5 26 rfl
theorem dL_559 : decode code 559 = .ok (.invokevirtual 45, 3) := dk_get dT_5 27 rfl
theorem dL_562 : decode code 562 = .ok (.aload_n 2, 1) := dk_get dT_5 28 rfl
theorem dL_563 : decode code 563 = .ok (.aload_n 0, 1) := dk_get dT_5 29 rfl
theorem dL_564 : decode code 564 = .ok (.iload_n 3, 1) := dk_get dT_5 30 rfl
theorem dL_565 : decode code 565 = .ok (.iconst 1, 1) := dk_get dT_5 31 rfl
theorem dT_6 : dk_ok [(566, .ok (.iadd, 1)), (567, .ok (.iaload, 1)), (568, .ok (.invokevirtual 48, 3)), (571, .ok (.if_icmp .eq 1711, 3)), (574, .ok (.iconst 0, 1)), (575, .ok (.ireturn, 1)), (576, .ok (.aload_n 1, 1)), (577, .ok (.aload_n 0, 1)), (578, .ok (.iload_n 3, 1)), (579, .ok (.iconst 1, 1)), (580, .ok (.iadd, 1)), (581, .ok (.iaload, 1)), (582, .ok (.invokevirtual 49, 3)), (585, .ok (.aload_n 2, 1)), (586, .ok (.aload_n 0, 1)), (587, .ok (.iload_n 3, 1)), (588, .ok (.iconst 1, 1)), (589, .ok (.iadd, 1)), (590, .ok (.iaload, 1)), (591, .ok (.invokevirtual 52, 3)), (594, .ok (.if_icmp .eq 1688, 3)), (597, .ok (.iconst 0, 1)), (598, .ok (.ireturn, 1)), (599, .ok (.aload_n 1, 1)), (600, .ok (.aload_n 0, 1)), (601, .ok (.iload_n 3, 1)), (602, .ok (.iconst 1, 1)), (603, .ok (.iadd, 1)), (604, .ok (.iaload, 1)), (605, .ok (.invokevirtual 53, 3)), (608, .ok (.aload_n 2, 1)), (609, .ok (.aload_n 0, 1))] = true := by decide +kernel
theorem dL_566 : decode code 566 = .ok (.iadd, 1) := dk_get dT_6 0 rfl
theorem dL_567 : decode code 567 = .ok (.iaload, 1) := dk_get dT_6 1 rfl
theorem dL_568 : decode code 568 = .ok (.invokevirtual 48, 3) := dk_get dT_6 2 rfl
theorem dL_571 : decode code 571 = .ok (.if_icmp .eq 1711, 3) := dk_get dT_6 3 rfl
theorem dL_574 : decode code 574 = .ok (.iconst 0, 1) := dk_get dT_6 4 rfl
theorem dL_575 : decode code 575 = .ok (.ireturn, 1) := dk_get dT_6 5 rfl
theorem dL_576 : decode code 576 = .ok (.aload_n 1, 1) := dk_get dT_6 6 rfl
theorem dL_577 : decode code 577 = .ok (.aload_n 0, 1) := dk_get dT_6 7 rfl
theorem dL_578 : decode code 578 = .ok (.iload_n 3, 1) := dk_get dT_6 8 rfl
theorem dL_579 : decode code 579 = .ok (.iconst 1, 1) := dk_get dT_6 9 rfl
theorem dL_580 : decode code 580 = .ok (.iadd, 1) := dk_get dT_6 10 rfl
theorem dL_581 : decode code 581 = .ok (.iaload, 1) := dk_get dT_6 11 rfl
theorem dL_582 : decode code 582 = .ok (.invokevirtual 49, 3) := dk_get dT_6 12 rfl
theorem dL_585 : decode code 585 = .ok (.aload_n 2, 1) := dk_get dT_6 13 rfl
theorem dL_586 : decode code 586 = .ok (.aload_n 0, 1) := dk_get dT_6 14 rfl
theorem dL_587 : decode code 587 = .ok (.iload_n 3, 1) := dk_get dT_6 15 rfl
theorem dL_588 : decode code 588 = .ok (.iconst 1, 1) := dk_get dT_6 16 rfl
theorem dL_589 : decode code 589 = .ok (.iadd, 1) := dk_get dT_6 17 rfl
theorem dL_590 : decode code 590 = .ok (.iaload, 1) := dk_get dT_6 18 rfl
theorem dL_591 : decode code 591 = .ok (.invokevirtual 52, 3) := dk_get dT_6 19 rfl
theorem dL_594 : decode code 594 = .ok (.if_icmp .eq 1688, 3) := dk_get dT_6 20 rfl
theorem dL_597 : decode code 597 = .ok (.iconst 0, 1) := dk_get dT_6 21 rfl
theorem dL_598 : decode code 598 = .ok (.ireturn, 1) := dk_get dT_6 22 rfl
theorem dL_599 : decode code 599 = .ok (.aload_n 1, 1) := dk_get dT_6 23 rfl
theorem dL_600 : decode code 600 = .ok (.aload_n 0, 1) := dk_get dT_6 24 rfl
theorem dL_601 : decode code 601 = .ok (.iload_n 3, 1) := dk_get dT_6 25 rfl
theorem dL_602 : decode code 602 = .ok (.iconst 1, 1) := dk_get dT_6 26 rfl
theorem dL_603 : decode code 603 = .ok (.iadd, 1) := dk_get dT_6 27 rfl
theorem dL_604 : decode code 604 = .ok (.iaload, 1) := dk_get dT_6 28 rfl
theorem dL_605 : decode code 605 = .ok (.invokevirtual 53, 3) := dk_get dT_6 29 rfl
theorem dL_608 : decode code 608 = .ok (.aload_n 2, 1) := dk_get dT_6 30 rfl
theorem dL_609 : decode code 609 = .ok (.aload_n 0, 1) := dk_get dT_6 31 rfl
theorem dT_7 : dk_ok [(610, .ok (.iload_n 3, 1)), (611, .ok (.iconst 1, 1)), (612, .ok (.iadd, 1)), (613, .ok (.iaload, 1)), (614, .ok (.invokevirtual 56, 3)), (617, .ok (.if_icmp .eq 1665, 3)), (620, .ok (.iconst 0, 1)), (621, .ok (.ireturn, 1)), (622, .ok (.aload_n 1, 1)), (623, .ok (.invokevirtual 57, 3)), (626, .ok (.aload_n 2, 1)), (627, .ok (.invokevirtual 60, 3)), (630, .ok (.if_icmp .eq 1652, 3)), (633, .ok (.iconst 0, 1)), (634, .ok (.ireturn, 1)), (635, .ok (.aload_n 1, 1)), (636, .ok (.aload_n 0, 1)), (637, .ok (.iload_n 3, 1)), (638, .ok (.iconst 1, 1)), (639, .ok (.iadd, 1)), (640, .ok (.iaload, 1)), (641, .ok (.invokevirtual 61, 3)), (644, .ok (.aload_n 2, 1)), (645, .ok (.aload_n 0, 1)), (646, .ok (.iload_n 3, 1)), (647, .ok (.iconst 1, 1)), (648, .ok (.iadd, 1)), (649, .ok (.iaload, 1)), (650, .ok (.invokevirtual 64, 3)), (653, .ok (.if_icmp .eq 1629, 3)), (656, .ok (.iconst 0, 1)), (657, .ok (.ireturn, 1))] = true := by decide +kernel
theorem dL_610 : decode code 610 = .ok (.iload_n 3, 1) := dk_get dT_7 0 rfl
theorem dL_611 : decode code 611 = .ok (.iconst 1, 1) := dk_get dT_7 1 rfl
theorem dL_612 : decode code 612 = .ok (.iadd, 1) := dk_get dT_7 2 rfl
theorem dL_613 : decode code 613 = .ok (.iaload, 1) := dk_get dT_7 3 rfl
theorem dL_614 : decode code 614 = .ok (.invokevirtual 56, 3) := dk_get dT_7 4 rfl
theorem dL_617 : decode code 617 = .ok (.if_icmp .eq 1665, 3) := dk_get dT_7 5 rfl
theorem dL_620 : decode code 620 = .ok (.iconst 0, 1) := dk_get dT_7 6 rfl
theorem dL_621 : decode code 621 = .ok (.ireturn, 1) := dk_get dT_7 7 rfl
theorem dL_622 : decode code 622 = .ok (.aload_n 1, 1) := dk_get dT_7 8 rfl
theorem dL_623 : decode code 623 = .ok (.invokevirtual 57, 3) := dk_get dT_7 9 rfl
theorem dL_626 : decode code 626 = .ok (.aload_n 2, 1) := dk_get dT_7 10 rfl
theorem dL_627 : decode code 627 = .ok (.invokevirtual 60, 3) := dk_get dT_7 11 rfl
theorem dL_630 : decode code 630 = .ok (.if_icmp .eq 1652, 3) := dk_get dT_7 12 rfl
theorem dL_633 : decode code 633 = .ok (.iconst 0, 1) := dk_get dT_7 13 rfl
theorem dL_634 : decode code 634 = .ok (.ireturn, 1) := dk_get dT_7 14 rfl
theorem dL_635 : decode code 635 = .ok (.aload_n 1, 1) := dk_get dT_7 15 rfl
theorem dL_636 : decode code 636 = .ok (.aload_n 0, 1) := dk_get dT_7 16 rfl
theorem dL_637 : decode code 637 = .ok (.iload_n 3, 1) := dk_get dT_7 17 rfl
theorem dL_638 : decode code 638 = .ok (.iconst 1, 1) := dk_get dT_7 18 rfl
theorem dL_639 : decode code 639 = .ok (.iadd, 1) := dk_get dT_7 19 rfl
theorem dL_640 : decode code 640 = .ok (.iaload, 1) := dk_get dT_7 20 rfl
theorem dL_641 : decode code 641 = .ok (.invokevirtual 61, 3) := dk_get dT_7 21 rfl
theorem dL_644 : decode code 644 = .ok (.aload_n 2, 1) := dk_get dT_7 22 rfl
theorem dL_645 : decode code 645 = .ok (.aload_n 0, 1) := dk_get dT_7 23 rfl
theorem dL_646 : decode code 646 = .ok (.iload_n 3, 1) := dk_get dT_7 24 rfl
theorem dL_647 : decode code 647 = .ok (.iconst 1, 1) := dk_get dT_7 25 rfl
theorem dL_648 : decode code 648 = .ok (.iadd, 1) := dk_get dT_7 26 rfl
theorem dL_649 : decode code 649 = .ok (.iaload, 1) := dk_get dT_7 27 rfl
theorem dL_650 : decode code 650 = .ok (.invokevirtual 64, 3) := dk_get dT_7 28 rfl
theorem dL_653 : decode code 653 = .ok (.if_icmp .eq 1629, 3) := dk_get dT_7 29 rfl
theorem dL_656 : decode code 656 = .ok (.iconst 0, 1) := dk_get dT_7 30 rfl
theorem dL_657 : decode code 657 = .ok (.ireturn, 1) := dk_get dT_7 31 rfl
theorem dT_8 : dk_ok [(658, .ok (.aload_n 1, 1)), (659, .ok (.aload_n 0, 1)), (660, .ok (.iload_n 3, 1)), (661, .ok (.iconst 1, 1)), (662, .ok (.iadd, 1)), (663, .ok (.iaload, 1)), (664, .ok (.invokevirtual 65, 3)), (667, .ok (.aload_n 2, 1)), (668, .ok (.aload_n 0, 1)), (669, .ok (.iload_n 3, 1)), (670, .ok (.iconst 1, 1)), (671, .ok (.iadd, 1)), (672, .ok (.iaload, 1)), (673, .ok (.invokevirtual 68, 3)), (676, .ok (.if_icmp .eq 1606, 3)), (679, .ok (.iconst 0, 1)), (680, .ok (.ireturn, 1)), (681, .ok (.aload_n 1, 1)), (682, .ok (.invokevirtual 69, 3)), (685, .ok (.aload_n 2, 1)), (686, .ok (.invokevirtual 72, 3)), (689, .ok (.if_icmp .eq 1593, 3)), (692, .ok (.iconst 0, 1)), (693, .ok (.ireturn, 1)), (694, .ok (.aload_n 1, 1)), (695, .ok (.invokevirtual 73, 3)), (698, .ok (.aload_n 2, 1)), (699, .ok (.invokevirtual 76, 3)), (702, .ok (.if_icmp .eq 1580, 3)), (705, .ok (.iconst 0, 1)), (706, .ok (.ireturn, 1)), (707, .ok (.aload_n 1, 1))] = true := by decide +kernel
theorem dL_658 : decode code 658 = .ok (.aload_n 1, 1) := dk_get dT_8 0 rfl
theorem dL_659 : decode code 659 = .ok (.aload_n 0, 1) := dk_get dT_8 1 rfl
theorem dL_660 : decode code 660 = .ok (.iload_n 3, 1) := dk_get dT_8 2 rfl
theorem dL_661 : decode code 661 = .ok (.iconst 1, 1) := dk_get dT_8 3 rfl
theorem dL_662 : decode code 662 = .ok (.iadd, 1) := dk_get dT_8 4 rfl
theorem dL_663 : decode code 663 = .ok (.iaload, 1) := dk_get dT_8 5 rfl
theorem dL_664 : decode code 664 = .ok (.invokevirtual 65, 3) := dk_get dT_8 6 rfl
theorem dL_667 : decode code 667 = .ok (.aload_n 2, 1) := dk_get dT_8 7 rfl
theorem dL_668 : decode code 668 = .ok (.aload_n 0, 1) := dk_get dT_8 8 rfl
theorem dL_669 : decode code 669 = .ok (.iload_n 3, 1) := dk_get dT_8 9 rfl
theorem dL_670 : decode code 670 = .ok (.iconst 1, 1) := dk_get dT_8 10 rfl
theorem dL_671 : decode code 671 = .ok (.iadd, 1) := dk_get dT_8 11 rfl
theorem dL_672 : decode code 672 = .ok (.iaload, 1) := dk_get dT_8 12 rfl
theorem dL_673 : decode code 673 = .ok (.invokevirtual 68, 3) := dk_get dT_8 13 rfl
theorem dL_676 : decode code 676 = .ok (.if_icmp .eq 1606, 3) := dk_get dT_8 14 rfl
theorem dL_679 : decode code 679 = .ok (.iconst 0, 1) := dk_get dT_8 15 rfl
theorem dL_680 : decode code 680 = .ok (.ireturn, 1) := dk_get dT_8 16 rfl
theorem dL_681 : decode code 681 = .ok (.aload_n 1, 1) := dk_get dT_8 17 rfl
theorem dL_682 : decode code 682 = .ok (.invokevirtual 69, 3) := dk_get dT_8 18 rfl
theorem dL_685 : decode code 685 = .ok (.aload_n 2, 1) := dk_get dT_8 19 rfl
theorem dL_686 : decode code 686 = .ok (.invokevirtual 72, 3) := dk_get dT_8 20 rfl
theorem dL_689 : decode code 689 = .ok (.if_icmp .eq 1593, 3) := dk_get dT_8 21 rfl
theorem dL_692 : decode code 692 = .ok (.iconst 0, 1) := dk_get dT_8 22 rfl
theorem dL_693 : decode code 693 = .ok (.ireturn, 1) := dk_get dT_8 23 rfl
theorem dL_694 : decode code 694 = .ok (.aload_n 1, 1) := dk_get dT_8 24 rfl
theorem dL_695 : decode code 695 = .ok (.invokevirtual 73, 3) := dk_get dT_8 25 rfl
theorem dL_698 : decode code 698 = .ok (.aload_n 2, 1) := dk_get dT_8 26 rfl
theorem dL_699 : decode code 699 = .ok (.invokevirtual 76, 3) := dk_get dT_8 27 rfl
theorem dL_702 : decode code 702 = .ok (.if_icmp .eq 1580, 3) := dk_get dT_8 28 rfl
theorem dL_705 : decode code 705 = .ok (.iconst 0, 1) := dk_get dT_8 29 rfl
theorem dL_706 : decode code 706 = .ok (.ireturn, 1) := dk_get dT_8 30 rfl
theorem dL_707 : decode code 707 = .ok (.aload_n 1, 1) := dk_get dT_8 31 rfl
theorem dT_9 : dk_ok [(708, .ok (.invokevirtual 77, 3)), (711, .ok (.aload_n 2, 1)), (712, .ok (.invokevirtual 80, 3)), (715, .ok (.if_icmp .eq 1567, 3)), (718, .ok (.iconst 0, 1)), (719, .ok (.ireturn, 1)), (720, .ok (.aload_n 1, 1)), (721, .ok (.aload_n 0, 1)), (722, .ok (.iload_n 3, 1)), (723, .ok (.iconst 1, 1)), (724, .ok (.iadd, 1)), (725, .ok (.iaload, 1)), (726, .ok (.invokevirtual 81, 3)), (729, .ok (.aload_n 2, 1)), (730, .ok (.aload_n 0, 1)), (731, .ok (.iload_n 3, 1)), (732, .ok (.iconst 1, 1)), (733, .ok (.iadd, 1)), (734, .ok (.iaload, 1)), (735, .ok (.invokevirtual 84, 3)), (738, .ok (.if_icmp .eq 1544, 3)), (741, .ok (.iconst 0, 1)), (742, .ok (.ireturn, 1)), (743, .ok (.aload_n 1, 1)), (744, .ok (.aload_n 0, 1)), (745, .ok (.iload_n 3, 1)), (746, .ok (.iconst 1, 1)), (747, .ok (.iadd, 1)), (748, .ok (.iaload, 1)), (749, .ok (.invokevirtual 85, 3)), (752, .ok (.aload_n 2, 1)), (753, .ok (.aload_n 0, 1))] = true := by decide +kernel
theorem dL_708 : decode code 708 = .ok (.invokevirtual 77, 3) := dk_get dT_9 0 rfl
theorem dL_711 : decode code 711 = .ok (.aload_n 2, 1) := dk_get dT_9 1 rfl
theorem dL_712 : decode code 712 = .ok (.invokevirtual 80, 3) := dk_get dT_9 2 rfl
theorem dL_715 : decode code 715 = .ok (.if_icmp .eq 1567, 3) := dk_get dT_9 3 rfl
theorem dL_718 : decode code 718 = .ok (.iconst 0, 1) := dk_get dT_9 4 rfl
theorem dL_719 : decode code 719 = .ok (.ireturn, 1) := dk_get dT_9 5 rfl
theorem dL_720 : decode code 720 = .ok (.aload_n 1, 1) := dk_get dT_9 6 rfl
theorem dL_721 : decode code 721 = .ok (.aload_n 0, 1) := dk_get dT_9 7 rfl
theorem dL_722 : decode code 722 = .ok (.iload_n 3, 1) := dk_get dT_9 8 rfl
theorem dL_723 : decode code 723 = .ok (.iconst 1, 1) := dk_get dT_9 9 rfl
theorem dL_724 : decode code 724 = .ok (.iadd, 1) := dk_get dT_9 10 rfl
theorem dL_725 : decode code 725 = .ok (.iaload, 1) := dk_get dT_9 11 rfl
theorem dL_726 : decode code 726 = .ok (.invokevirtual 81, 3) := dk_get dT_9 12 rfl
theorem dL_729 : decode code 729 = .ok (.aload_n 2, 1) := dk_get dT_9 13 rfl
theorem dL_730 : decode code 730 = .ok (.aload_n 0, 1) := dk_get dT_9 14 rfl
theorem dL_731 : decode code 731 = .ok (.iload_n 3, 1) := dk_get dT_9 15 rfl
theorem dL_732 : decode code 732 = .ok (.iconst 1, 1) := dk_get dT_9 16 rfl
theorem dL_733 : decode code 733 = .ok (.iadd, 1) := dk_get dT_9 17 rfl
theorem dL_734 : decode code 734 = .ok (.iaload, 1) := dk_get dT_9 18 rfl
theorem dL_735 : decode code 735 = .ok (.invokevirtual 84, 3) := dk_get dT_9 19 rfl
theorem dL_738 : decode code 738 = .ok (.if_icmp .eq 1544, 3) := dk_get dT_9 20 rfl
theorem dL_741 : decode code 741 = .ok (.iconst 0, 1) := dk_get dT_9 21 rfl
theorem dL_742 : decode code 742 = .ok (.ireturn, 1) := dk_get dT_9 22 rfl
theorem dL_743 : decode code 743 = .ok (.aload_n 1, 1) := dk_get dT_9 23 rfl
theorem dL_744 : decode code 744 = .ok (.aload_n 0, 1) := dk_get dT_9 24 rfl
theorem dL_745 : decode code 745 = .ok (.iload_n 3, 1) := dk_get dT_9 25 rfl
theorem dL_746 : decode code 746 = .ok (.iconst 1, 1) := dk_get dT_9 26 rfl
theorem dL_747 : decode code 747 = .ok (.iadd, 1) := dk_get dT_9 27 rfl
theorem dL_748 : decode code 748 = .ok (.iaload, 1) := dk_get dT_9 28 rfl
theorem dL_749 : decode code 749 = .ok (.invokevirtual 85, 3) := dk_get dT_9 29 rfl
theorem dL_752 : decode code 752 = .ok (.aload_n 2, 1) := dk_get dT_9 30 rfl
theorem dL_753 : decode code 753 = .ok (.aload_n 0, 1) := dk_get dT_9 31 rfl
theorem dT_10 : dk_ok [(754, .ok (.iload_n 3, 1)), (755, .ok (.iconst 1, 1)), (756, .ok (.iadd, 1)), (757, .ok (.iaload, 1)), (758, .ok (.invokevirtual 88, 3)), (761, .ok (.if_icmp .eq 1521, 3)), (764, .ok (.iconst 0, 1)), (765, .ok (.ireturn, 1)), (766, .ok (.aload_n 1, 1)), (767, .ok (.aload_n 0, 1)), (768, .ok (.iload_n 3, 1)), (769, .ok (.iconst 1, 1)), (770, .ok (.iadd, 1)), (771, .ok (.iaload, 1)), (772, .ok (.invokevirtual 89, 3)), (775, .ok (.aload_n 2, 1)), (776, .ok (.aload_n 0, 1)), (777, .ok (.iload_n 3, 1)), (778, .ok (.iconst 1, 1)), (779, .ok (.iadd, 1)), (780, .ok (.iaload, 1)), (781, .ok (.invokevirtual 92, 3)), (784, .ok (.if_icmp .eq 1498, 3)), (787, .ok (.iconst 0, 1)), (788, .ok (.ireturn, 1)), (789, .ok (.aload_n 1, 1)), (790, .ok (.aload_n 0, 1)), (791, .ok (.iload_n 3, 1)), (792, .ok (.iconst 1, 1)), (793, .ok (.iadd, 1)), (794, .ok (.iaload, 1)), (795, .ok (.invokevirtual 93, 3))] = true := by decide +kernel
theorem dL_754 : decode code 754 = .ok (.iload_n 3, 1) := dk_get dT_10 0 rfl
theorem dL_755 : decode code 755 = .ok (.iconst 1, 1) := dk_get dT_10 1 rfl
theorem dL_756 : decode code 756 = .ok (.iadd, 1) := dk_get dT_10 2 rfl
theorem dL_757 : decode code 757 = .ok (.iaload, 1) := dk_get dT_10 3 rfl
theorem dL_758 : decode code 758 = .ok (.invokevirtual 88, 3) := dk_get dT_10 4 rfl
theorem dL_761 : decode code 761 = .ok (.if_icmp .eq 1521, 3) := dk_get dT_10 5 rfl
theorem dL_764 : decode code 764 = .ok (.iconst 0, 1) := dk_get dT_10 6 rfl
theorem dL_765 : decode code 765 = .ok (.ireturn, 1) := dk_get dT_10 7 rfl
theorem dL_766 : decode code 766 = .ok (.aload_n 1, 1) := dk_get dT_10 8 rfl
theorem dL_767 : decode code 767 = .ok (.aload_n 0, 1) := dk_get dT_10 9 rfl
theorem dL_768 : decode code 768 = .ok (.iload_n 3, 1) := dk_get dT_10 10 rfl
theorem dL_769 : decode code 769 = .ok (.iconst 1, 1) := dk_get dT_10 11 rfl
theorem dL_770 : decode code 770 = .ok (.iadd, 1) := dk_get dT_10 12 rfl
theorem dL_771 : decode code 771 = .ok (.iaload, 1) := dk_get dT_10 13 rfl
theorem dL_772 : decode code 772 = .ok (.invokevirtual 89, 3) := dk_get dT_10 14 rfl
theorem dL_775 : decode code 775 = .ok (.aload_n 2, 1) := dk_get dT_10 15 rfl
theorem dL_776 : decode code 776 = .ok (.aload_n 0, 1) := dk_get dT_10 16 rfl
theorem dL_777 : decode code 777 = .ok (.iload_n 3, 1) := dk_get dT_10 17 rfl
theorem dL_778 : decode code 778 = .ok (.iconst 1, 1) := dk_get dT_10 18 rfl
theorem dL_779 : decode code 779 = .ok (.iadd, 1) := dk_get dT_10 19 rfl
theorem dL_780 : decode code 780 = .ok (.iaload, 1) := dk_get dT_10 20 rfl
theorem dL_781 : decode code 781 = .ok (.invokevirtual 92, 3) := dk_get dT_10 21 rfl
theorem dL_784 : decode code 784 = .ok (.if_icmp .eq 1498, 3) := dk_get dT_10 22 rfl
theorem dL_787 : decode code 787 = .ok (.iconst 0, 1) := dk_get dT_10 23 rfl
theorem dL_788 : decode code 788 = .ok (.ireturn, 1) := dk_get dT_10 24 rfl
theorem dL_789 : decode code 789 = .ok (.aload_n 1, 1) := dk_get dT_10 25 rfl
theorem dL_790 : decode code 790 = .ok (.aload_n 0, 1) := dk_get dT_10 26 rfl
theorem dL_791 : decode code 791 = .ok (.iload_n 3, 1) := dk_get dT_10 27 rfl
theorem dL_792 : decode code 792 = .ok (.iconst 1, 1) := dk_get dT_10 28 rfl
theorem dL_793 : decode code 793 = .ok (.iadd, 1) := dk_get dT_10 29 rfl
theorem dL_794 : decode code 794 = .ok (.iaload, 1) := dk_get dT_10 30 rfl
theorem dL_795 : decode code 795 = .ok (.invokevirtual 93, 3) := dk_get dT_10 31 rfl
theorem dT_11 : dk_ok [(798, .ok (.aload_n 2, 1)), (799, .ok (.aload_n 0, 1)), (800, .ok (.iload_n 3, 1)), (801, .ok (.iconst 1, 1)), (802, .ok (.iadd, 1)), (803, .ok (.iaload, 1)), (804, .ok (.invokevirtual 96, 3)), (807, .ok (.if_icmp .eq 1475, 3)), (810, .ok (.iconst 0, 1)), (811, .ok (.ireturn, 1)), (812, .ok (.aload_n 1, 1)), (813, .ok (.aload_n 0, 1)), (814, .ok (.iload_n 3, 1)), (815, .ok (.iconst 1, 1)), (816, .ok (.iadd, 1)), (817, .ok (.iaload, 1)), (818, .ok (.invokevirtual 97, 3)), (821, .ok (.aload_n 2, 1)), (822, .ok (.aload_n 0, 1)), (823, .ok (.iload_n 3, 1)), (824, .ok (.iconst 1, 1)), (825, .ok (.iadd, 1)), (826, .ok (.iaload, 1)), (827, .ok (.invokevirtual 100, 3)), (830, .ok (.if_icmp .eq 1452, 3)), (833, .ok (.iconst 0, 1)), (834, .ok (.ireturn, 1)), (835, .ok (.aload_n 1, 1)), (836, .ok (.aload_n 0, 1)), (837, .ok (.iload_n 3, 1)), (838, .ok (.iconst 1, 1)), (839, .ok (.iadd, 1))] = true := by decide +kernel
theorem dL_798 : decode code 798 = .ok (.aload_n 2, 1) := dk_get dT_11 0 rfl
theorem dL_799 : decode code 799 = .ok (.aload_n 0, 1) := dk_get dT_11 1 rfl
theorem dL_800 : decode code 800 = .ok (.iload_n 3, 1) := dk_get dT_11 2 rfl
theorem dL_801 : decode code 801 = .ok (.iconst 1, 1) := dk_get dT_11 3 rfl
theorem dL_802 : decode code 802 = .ok (.iadd, 1) := dk_get dT_11 4 rfl
theorem dL_803 : decode code 803 = .ok (.iaload, 1) := dk_get dT_11 5 rfl
theorem dL_804 : decode code 804 = .ok (.invokevirtual 96, 3) := dk_get dT_11 6 rfl
theorem dL_807 : decode code 807 = .ok (.if_icmp .eq 1475, 3) := dk_get dT_11 7 rfl
theorem dL_810 : decode code 810 = .ok (.iconst 0, 1) := dk_get dT_11 8 rfl
theorem dL_811 : decode code 811 = .ok (.ireturn, 1) := dk_get dT_11 9 rfl
theorem dL_812 : decode code 812 = .ok (.aload_n 1, 1) := dk_get dT_11 10 rfl
theorem dL_813 : decode code 813 = .ok (.aload_n 0, 1) := dk_get dT_11 11 rfl
theorem dL_814 : decode code 814 = .ok (.iload_n 3, 1) := dk_get dT_11 12 rfl
theorem dL_815 : decode code 815 = .ok (.iconst 1, 1) := dk_get dT_11 13 rfl
theorem dL_816 : decode code 816 = .ok (.iadd, 1) := dk_get dT_11 14 rfl
theorem dL_817 : decode code 817 = .ok (.iaload, 1) := dk_get dT_11 15 rfl
theorem dL_818 : decode code 818 = .ok (.invokevirtual 97, 3) := dk_get dT_11 16 rfl
theorem dL_821 : decode code 821 = .ok (.aload_n 2, 1) := dk_get dT_11 17 rfl
theorem dL_822 : decode code 822 = .ok (.aload_n 0, 1) := dk_get dT_11 18 rfl
theorem dL_823 : decode code 823 = .ok (.iload_n 3, 1) := dk_get dT_11 19 rfl
theorem dL_824 : decode code 824 = .ok (.iconst 1, 1) := dk_get dT_11 20 rfl
theorem dL_825 : decode code 825 = .ok (.iadd, 1) := dk_get dT_11 21 rfl
theorem dL_826 : decode code 826 = .ok (.iaload, 1) := dk_get dT_11 22 rfl
theorem dL_827 : decode code 827 = .ok (.invokevirtual 100, 3) := dk_get dT_11 23 rfl
theorem dL_830 : decode code 830 = .ok (.if_icmp .eq 1452, 3) := dk_get dT_11 24 rfl
theorem dL_833 : decode code 833 = .ok (.iconst 0, 1) := dk_get dT_11 25 rfl
theorem dL_834 : decode code 834 = .ok (.ireturn, 1) := dk_get dT_11 26 rfl
theorem dL_835 : decode code 835 = .ok (.aload_n 1, 1) := dk_get dT_11 27 rfl
theorem dL_836 : decode code 836 = .ok (.aload_n 0, 1) := dk_get dT_11 28 rfl
theorem dL_837 : decode code 837 = .ok (.iload_n 3, 1) := dk_get dT_11 29 rfl
theorem dL_838 : decode code 838 = .ok (.iconst 1, 1) := dk_get dT_11 30 rfl
theorem dL_839 : decode code 839 = .ok (.iadd, 1) := dk_get dT_11 31 rfl
theorem dT_12 : dk_ok [(840, .ok (.iaload, 1)), (841, .ok (.invokevirtual 101, 3)), (844, .ok (.aload_n 2, 1)), (845, .ok (.aload_n 0, 1)), (846, .ok (.iload_n 3, 1)), (847, .ok (.iconst 1, 1)), (848, .ok (.iadd, 1)), (849, .ok (.iaload, 1)), (850, .ok (.invokevirtual 104, 3)), (853, .ok (.if_icmp .eq 1429, 3)), (856, .ok (.iconst 0, 1)), (857, .ok (.ireturn, 1)), (858, .ok (.aload_n 1, 1)), (859, .ok (.aload_n 0, 1)), (860, .ok (.iload_n 3, 1)), (861, .ok (.iconst 1, 1)), (862, .ok (.iadd, 1)), (863, .ok (.iaload, 1)), (864, .ok (.aload_n 0, 1)), (865, .ok (.iload_n 3, 1)), (866, .ok (.iconst 2, 1)), (867, .ok (.iadd, 1)), (868, .ok (.iaload, 1)), (869, .ok (.invokevirtual 105, 3)), (872, .ok (.aload_n 2, 1)), (873, .ok (.aload_n 0, 1)), (874, .ok (.iload_n 3, 1)), (875, .ok (.iconst 1, 1)), (876, .ok (.iadd, 1)), (877, .ok (.iaload, 1)), (878, .ok (.aload_n 0, 1)), (879, .ok (.iload_n 3, 1))] = true := by decide +kernel
theorem dL_840 : decode code 840 = .ok (.iaload, 1) := dk_get dT_12 0 rfl
theorem dL_841 : decode code 841 = .ok (.invokevirtual 101, 3) := dk_get dT_12 1 rfl
theorem dL_844 : decode code 844 = .ok (.aload_n 2, 1) := dk_get dT_12 2 rfl
theorem dL_845 : decode code 845 = .ok (.aload_n 0, 1) := dk_get dT_12 3 rfl
theorem dL_846 : decode code 846 = .ok (.iload_n 3, 1) := dk_get dT_12 4 rfl
theorem dL_847 : decode code 847 = .ok (.iconst 1, 1) := dk_get dT_12 5 rfl
theorem dL_848 : decode code 848 = .ok (.iadd, 1) := dk_get dT_12 6 rfl
theorem dL_849 : decode code 849 = .ok (.iaload, 1) := dk_get dT_12 7 rfl
theorem dL_850 : decode code 850 = .ok (.invokevirtual 104, 3) := dk_get dT_12 8 rfl
theorem dL_853 : decode code 853 = .ok (.if_icmp .eq 1429, 3) := dk_get dT_12 9 rfl
theorem dL_856 : decode code 856 = .ok (.iconst 0, 1) := dk_get dT_12 10 rfl
theorem dL_857 : decode code 857 = .ok (.ireturn, 1) := dk_get dT_12 11 rfl
theorem dL_858 : decode code 858 = .ok (.aload_n 1, 1) := dk_get dT_12 12 rfl
theorem dL_859 : decode code 859 = .ok (.aload_n 0, 1) := dk_get dT_12 13 rfl
theorem dL_860 : decode code 860 = .ok (.iload_n 3, 1) := dk_get dT_12 14 rfl
theorem dL_861 : decode code 861 = .ok (.iconst 1, 1) := dk_get dT_12 15 rfl
theorem dL_862 : decode code 862 = .ok (.iadd, 1) := dk_get dT_12 16 rfl
theorem dL_863 : decode code 863 = .ok (.iaload, 1) := dk_get dT_12 17 rfl
theorem dL_864 : decode code 864 = .ok (.aload_n 0, 1) := dk_get dT_12 18 rfl
theorem dL_865 : decode code 865 = .ok (.iload_n 3, 1) := dk_get dT_12 19 rfl
theorem dL_866 : decode code 866 = .ok (.iconst 2, 1) := dk_get dT_12 20 rfl
theorem dL_867 : decode code 867 = .ok (.iadd, 1) := dk_get dT_12 21 rfl
theorem dL_868 : decode code 868 = .ok (.iaload, 1) := dk_get dT_12 22 rfl
theorem dL_869 : decode code 869 = .ok (.invokevirtual 105, 3) := dk_get dT_12 23 rfl
theorem dL_872 : decode code 872 = .ok (.aload_n 2, 1) := dk_get dT_12 24 rfl
theorem dL_873 : decode code 873 = .ok (.aload_n 0, 1) := dk_get dT_12 25 rfl
theorem dL_874 : decode code 874 = .ok (.iload_n 3, 1) := dk_get dT_12 26 rfl
theorem dL_875 : decode code 875 = .ok (.iconst 1, 1) := dk_get dT_12 27 rfl
theorem dL_876 : decode code 876 = .ok (.iadd, 1) := dk_get dT_12 28 rfl
theorem dL_877 : decode code 877 = .ok (.iaload, 1) := dk_get dT_12 29 rfl
theorem dL_878 : decode code 878 = .ok (.aload_n 0, 1) := dk_get dT_12 30 rfl
theorem dL_879 : decode code 879 = .ok (.iload_n 3, 1) := dk_get dT_12 31 rfl
theorem dT_13 : dk_ok [(880, .ok (.iconst 2, 1)), (881, .ok (.iadd, 1)), (882, .ok (.iaload, 1)), (883, .ok (.invokevirtual 108, 3)), (886, .ok (.if_icmp .eq 1396, 3)), (889, .ok (.iconst 0, 1)), (890, .ok (.ireturn, 1)), (891, .ok (.aload_n 1, 1)), (892, .ok (.aload_n 0, 1)), (893, .ok (.iload_n 3, 1)), (894, .ok (.iconst 1, 1)), (895, .ok (.iadd, 1)), (896, .ok (.iaload, 1)), (897, .ok (.invokevirtual 109, 3)), (900, .ok (.aload_n 2, 1)), (901, .ok (.aload_n 0, 1)), (902, .ok (.iload_n 3, 1)), (903, .ok (.iconst 1, 1)), (904, .ok (.iadd, 1)), (905, .ok (.iaload, 1)), (906, .ok (.invokevirtual 112, 3)), (909, .ok (.if_icmp .eq 1373, 3)), (912, .ok (.iconst 0, 1)), (913, .ok (.ireturn, 1)), (914, .ok (.aload_n 1, 1)), (915, .ok (.aload_n 0, 1)), (916, .ok (.iload_n 3, 1)), (917, .ok (.iconst 1, 1)), (918, .ok (.iadd, 1)), (919, .ok (.iaload, 1)), (920, .ok (.invokevirtual 113, 3)), (923, .ok (.aload_n 2, 1))] = true := by decide +kernel
theorem dL_880 : decode code 880 = .ok (.iconst 2, 1) := dk_get dT_13 0 rfl
theorem dL_881 : decode code 881 = .ok (.iadd, 1) := dk_get dT_13 1 rfl
theorem dL_882 : decode code 882 = .ok (.iaload, 1) := dk_get dT_13 2 rfl
theorem dL_883 : decode code 883 = .ok (.invokevirtual 108, 3) := dk_get dT_13 3 rfl
theorem dL_886 : decode code 886 = .ok (.if_icmp .eq 1396, 3) := dk_get dT_13 4 rfl
theorem dL_889 : decode code 889 = .ok (.iconst 0, 1) := dk_get dT_13 5 rfl
theorem dL_890 : decode code 890 = .ok (.ireturn, 1) := dk_get dT_13 6 rfl
theorem dL_891 : decode code 891 = .ok (.aload_n 1, 1) := dk_get dT_13 7 rfl
theorem dL_892 : decode code 892 = .ok (.aload_n 0, 1) := dk_get dT_13 8 rfl
theorem dL_893 : decode code 893 = .ok (.iload_n 3, 1) := dk_get dT_13 9 rfl
theorem dL_894 : decode code 894 = .ok (.iconst 1, 1) := dk_get dT_13 10 rfl
theorem dL_895 : decode code 895 = .ok (.iadd, 1) := dk_get dT_13 11 rfl
theorem dL_896 : decode code 896 = .ok (.iaload, 1) := dk_get dT_13 12 rfl
theorem dL_897 : decode code 897 = .ok (.invokevirtual 109, 3) := dk_get dT_13 13 rfl
theorem dL_900 : decode code 900 = .ok (.aload_n 2, 1) := dk_get dT_13 14 rfl
theorem dL_901 : decode code 901 = .ok (.aload_n 0, 1) := dk_get dT_13 15 rfl
theorem dL_902 : decode code 902 = .ok (.iload_n 3, 1) := dk_get dT_13 16 rfl
theorem dL_903 : decode code 903 = .ok (.iconst 1, 1) := dk_get dT_13 17 rfl
theorem dL_904 : decode code 904 = .ok (.iadd, 1) := dk_get dT_13 18 rfl
theorem dL_905 : decode code 905 = .ok (.iaload, 1) := dk_get dT_13 19 rfl
theorem dL_906 : decode code 906 = .ok (.invokevirtual 112, 3) := dk_get dT_13 20 rfl
theorem dL_909 : decode code 909 = .ok (.if_icmp .eq 1373, 3) := dk_get dT_13 21 rfl
theorem dL_912 : decode code 912 = .ok (.iconst 0, 1) := dk_get dT_13 22 rfl
theorem dL_913 : decode code 913 = .ok (.ireturn, 1) := dk_get dT_13 23 rfl
theorem dL_914 : decode code 914 = .ok (.aload_n 1, 1) := dk_get dT_13 24 rfl
theorem dL_915 : decode code 915 = .ok (.aload_n 0, 1) := dk_get dT_13 25 rfl
theorem dL_916 : decode code 916 = .ok (.iload_n 3, 1) := dk_get dT_13 26 rfl
theorem dL_917 : decode code 917 = .ok (.iconst 1, 1) := dk_get dT_13 27 rfl
theorem dL_918 : decode code 918 = .ok (.iadd, 1) := dk_get dT_13 28 rfl
theorem dL_919 : decode code 919 = .ok (.iaload, 1) := dk_get dT_13 29 rfl
theorem dL_920 : decode code 920 = .ok (.invokevirtual 113, 3) := dk_get dT_13 30 rfl
theorem dL_923 : decode code 923 = .ok (.aload_n 2, 1) := dk_get dT_13 31 rfl
theorem dT_14 : dk_ok [(924, .ok (.aload_n 0, 1)), (925, .ok (.iload_n 3, 1)), (926, .ok (.iconst 1, 1)), (927, .ok (.iadd, 1)), (928, .ok (.iaload, 1)), (929, .ok (.invokevirtual 116, 3)), (932, .ok (.if_icmp .eq 1350, 3)), (935, .ok (.iconst 0, 1)), (936, .ok (.ireturn, 1)), (937, .ok (.aload_n 1, 1)), (938, .ok (.aload_n 0, 1)), (939, .ok (.iload_n 3, 1)), (940, .ok (.iconst 1, 1)), (941, .ok (.iadd, 1)), (942, .ok (.iaload, 1)), (943, .ok (.invokevirtual 117, 3)), (946, .ok (.aload_n 2, 1)), (947, .ok (.aload_n 0, 1)), (948, .ok (.iload_n 3, 1)), (949, .ok (.iconst 1, 1)), (950, .ok (.iadd, 1)), (951, .ok (.iaload, 1)), (952, .ok (.invokevirtual 120, 3)), (955, .ok (.if_icmp .eq 1327, 3)), (958, .ok (.iconst 0, 1)), (959, .ok (.ireturn, 1)), (960, .ok (.aload_n 1, 1)), (961, .ok (.aload_n 0, 1)), (962, .ok (.iload_n 3, 1)), (963, .ok (.iconst 1, 1)), (964, .ok (.iadd, 1)), (965, .ok (.iaload, 1))] = true := by decide +kernel
theorem dL_924 : decode code 924 = .ok (.aload_n 0, 1) := dk_get dT_14 0 rfl
theorem dL_925 : decode code 925 = .ok (.iload_n 3, 1) := dk_get dT_14 1 rfl
theorem dL_926 : decode code 926 = .ok (.iconst 1, 1) := dk_get dT_14 2 rfl
theorem dL_927 : decode code 927 = .ok (.iadd, 1) := dk_get dT_14 3 rfl
theorem dL_928 : decode code 928 = .ok (.iaload, 1) := dk_get dT_14 4 rfl
theorem dL_929 : decode code 929 = .ok (.invokevirtual 116, 3) := dk_get dT_14 5 rfl
theorem dL_932 : decode code 932 = .ok (.if_icmp .eq 1350, 3) := dk_get dT_14 6 rfl
theorem dL_935 : decode code 935 = .ok (.iconst 0, 1) := dk_get dT_14 7 rfl
theorem dL_936 : decode code 936 = .ok (.ireturn, 1) := dk_get dT_14 8 rfl
theorem dL_937 : decode code 937 = .ok (.aload_n 1, 1) := dk_get dT_14 9 rfl
theorem dL_938 : decode code 938 = .ok (.aload_n 0, 1) := dk_get dT_14 10 rfl
theorem dL_939 : decode code 939 = .ok (.iload_n 3, 1) := dk_get dT_14 11 rfl
theorem dL_940 : decode code 940 = .ok (.iconst 1, 1) := dk_get dT_14 12 rfl
theorem dL_941 : decode code 941 = .ok (.iadd, 1) := dk_get dT_14 13 rfl
theorem dL_942 : decode code 942 = .ok (.iaload, 1) := dk_get dT_14 14 rfl
theorem dL_943 : decode code 943 = .ok (.invokevirtual 117, 3) := dk_get dT_14 15 rfl
theorem dL_946 : decode code 946 = .ok (.aload_n 2, 1) := dk_get dT_14 16 rfl
theorem dL_947 : decode code 947 = .ok (.aload_n 0, 1) := dk_get dT_14 17 rfl
theorem dL_948 : decode code 948 = .ok (.iload_n 3, 1) := dk_get dT_14 18 rfl
theorem dL_949 : decode code 949 = .ok (.iconst 1, 1) := dk_get dT_14 19 rfl
theorem dL_950 : decode code 950 = .ok (.iadd, 1) := dk_get dT_14 20 rfl
theorem dL_951 : decode code 951 = .ok (.iaload, 1) := dk_get dT_14 21 rfl
theorem dL_952 : decode code 952 = .ok (.invokevirtual 120, 3) := dk_get dT_14 22 rfl
theorem dL_955 : decode code 955 = .ok (.if_icmp .eq 1327, 3) := dk_get dT_14 23 rfl
theorem dL_958 : decode code 958 = .ok (.iconst 0, 1) := dk_get dT_14 24 rfl
theorem dL_959 : decode code 959 = .ok (.ireturn, 1) := dk_get dT_14 25 rfl
theorem dL_960 : decode code 960 = .ok (.aload_n 1, 1) := dk_get dT_14 26 rfl
theorem dL_961 : decode code 961 = .ok (.aload_n 0, 1) := dk_get dT_14 27 rfl
theorem dL_962 : decode code 962 = .ok (.iload_n 3, 1) := dk_get dT_14 28 rfl
theorem dL_963 : decode code 963 = .ok (.iconst 1, 1) := dk_get dT_14 29 rfl
theorem dL_964 : decode code 964 = .ok (.iadd, 1) := dk_get dT_14 30 rfl
theorem dL_965 : decode code 965 = .ok (.iaload, 1) := dk_get dT_14 31 rfl
theorem dT_15 : dk_ok [(966, .ok (.invokevirtual 121, 3)), (969, .ok (.aload_n 2, 1)), (970, .ok (.aload_n 0, 1)), (971, .ok (.iload_n 3, 1)), (972, .ok (.iconst 1, 1)), (973, .ok (.iadd, 1)), (974, .ok (.iaload, 1)), (975, .ok (.invokevirtual 124, 3)), (978, .ok (.if_icmp .eq 1304, 3)), (981, .ok (.iconst 0, 1)), (982, .ok (.ireturn, 1)), (983, .ok (.aload_n 1, 1)), (984, .ok (.invokevirtual 125, 3)), (987, .ok (.aload_n 2, 1)), (988, .ok (.invokevirtual 128, 3)), (991, .ok (.if_icmp .eq 1291, 3)), (994, .ok (.iconst 0, 1)), (995, .ok (.ireturn, 1)), (996, .ok (.aload_n 1, 1)), (997, .ok (.aload_n 0, 1)), (998, .ok (.iload_n 3, 1)), (999, .ok (.iconst 1, 1)), (1000, .ok (.iadd, 1)), (1001, .ok (.iaload, 1)), (1002, .ok (.invokevirtual 129, 3)), (1005, .ok (.aload_n 2, 1)), (1006, .ok (.aload_n 0, 1)), (1007, .ok (.iload_n 3, 1)), (1008, .ok (.iconst 1, 1)), (1009, .ok (.iadd, 1)), (1010, .ok (.iaload, 1)), (1011, .ok (.invokevirtual 132, 3))] = true := by decide +kernel
theorem dL_966 : decode code 966 = .ok (.invokevirtual 121, 3) := dk_get dT_15 0 rfl
theorem dL_969 : decode code 969 = .ok (.aload_n 2, 1) := dk_get dT_15 1 rfl
theorem dL_970 : decode code 970 = .ok (.aload_n 0, 1) := dk_get dT_15 2 rfl
theorem dL_971 : decode code 971 = .ok (.iload_n 3, 1) := dk_get dT_15 3 rfl
theorem dL_972 : decode code 972 = .ok (.iconst 1, 1) := dk_get dT_15 4 rfl
theorem dL_973 : decode code 973 = .ok (.iadd, 1) := dk_get dT_15 5 rfl
theorem dL_974 : decode code 974 = .ok (.iaload, 1) := dk_get dT_15 6 rfl
theorem dL_975 : decode code 975 = .ok (.invokevirtual 124, 3) := dk_get dT_15 7 rfl
theorem dL_978 : decode code 978 = .ok (.if_icmp .eq 1304, 3) := dk_get dT_15 8 rfl
theorem dL_981 : decode code 981 = .ok (.iconst 0, 1) := dk_get dT_15 9 rfl
theorem dL_982 : decode code 982 = .ok (.ireturn, 1) := dk_get dT_15 10 rfl
theorem dL_983 : decode code 983 = .ok (.aload_n 1, 1) := dk_get dT_15 11 rfl
theorem dL_984 : decode code 984 = .ok (.invokevirtual 125, 3) := dk_get dT_15 12 rfl
theorem dL_987 : decode code 987 = .ok (.aload_n 2, 1) := dk_get dT_15 13 rfl
theorem dL_988 : decode code 988 = .ok (.invokevirtual 128, 3) := dk_get dT_15 14 rfl
theorem dL_991 : decode code 991 = .ok (.if_icmp .eq 1291, 3) := dk_get dT_15 15 rfl
theorem dL_994 : decode code 994 = .ok (.iconst 0, 1) := dk_get dT_15 16 rfl
theorem dL_995 : decode code 995 = .ok (.ireturn, 1) := dk_get dT_15 17 rfl
theorem dL_996 : decode code 996 = .ok (.aload_n 1, 1) := dk_get dT_15 18 rfl
theorem dL_997 : decode code 997 = .ok (.aload_n 0, 1) := dk_get dT_15 19 rfl
theorem dL_998 : decode code 998 = .ok (.iload_n 3, 1) := dk_get dT_15 20 rfl
theorem dL_999 : decode code 999 = .ok (.iconst 1, 1) := dk_get dT_15 21 rfl
theorem dL_1000 : decode code 1000 = .ok (.iadd, 1) := dk_get dT_15 22 rfl
theorem dL_1001 : decode code 1001 = .ok (.iaload, 1) := dk_get dT_15 23 rfl
theorem dL_1002 : decode code 1002 = .ok (.invokevirtual 129, 3) := dk_get dT_15 24 rfl
theorem dL_1005 : decode code 1005 = .ok (.aload_n 2, 1) := dk_get dT_15 25 rfl
theorem dL_1006 : decode code 1006 = .ok (.aload_n 0, 1) := dk_get dT_15 26 rfl
theorem dL_1007 : decode code 1007 = .ok (.iload_n 3, 1) := dk_get dT_15 27 rfl
theorem dL_1008 : decode code 1008 = .ok (.iconst 1, 1) := dk_get dT_15 28 rfl
theorem dL_1009 : decode code 1009 = .ok (.iadd, 1) := dk_get dT_15 29 rfl
theorem dL_1010 : decode code 1010 = .ok (.iaload, 1) := dk_get dT_15 30 rfl
theorem dL_1011 : decode code 1011 = .ok (.invokevirtual 132, 3) := dk_get dT_15 31 rfl
theorem dT_16 : dk_ok [(1014, .ok (.if_icmp .eq 1268, 3)), (1017, .ok (.iconst 0, 1)), (1018, .ok (.ireturn, 1)), (1019, .ok (.aload_n 1, 1)), (1020, .ok (.aload_n 0, 1)), (1021, .ok (.iload_n 3, 1)), (1022, .ok (.iconst 1, 1)), (1023, .ok (.iadd, 1)), (1024, .ok (.iaload, 1)), (1025, .ok (.invokevirtual 133, 3)), (1028, .ok (.aload_n 2, 1)), (1029, .ok (.aload_n 0, 1)), (1030, .ok (.iload_n 3, 1)), (1031, .ok (.iconst 1, 1)), (1032, .ok (.iadd, 1)), (1033, .ok (.iaload, 1)), (1034, .ok (.invokevirtual 136, 3)), (1037, .ok (.if_icmp .eq 1245, 3)), (1040, .ok (.iconst 0, 1)), (1041, .ok (.ireturn, 1)), (1042, .ok (.aload_n 1, 1)), (1043, .ok (.invokevirtual 137, 3)), (1046, .ok (.aload_n 2, 1)), (1047, .ok (.invokevirtual 140, 3)), (1050, .ok (.if_icmp .eq 1232, 3)), (1053, .ok (.iconst 0, 1)), (1054, .ok (.ireturn, 1)), (1055, .ok (.aload_n 1, 1)), (1056, .ok (.aload_n 0, 1)), (1057, .ok (.iload_n 3, 1)), (1058, .ok (.iconst 1, 1)), (1059, .ok (.iadd, 1))] = true := by decide +kernel
theorem dL_1014 : decode code 1014 = .ok (.if_icmp .eq 1268, 3) := dk_get dT_16 0 rfl
theorem dL_1017 : decode code 1017 = .ok (.iconst 0, 1) := dk_get dT_16 1 rfl
theorem dL_1018 : decode code 1018 = .ok (.ireturn, 1) := dk_get dT_16 2 rfl
theorem dL_1019 : decode code 1019 = .ok (.aload_n 1, 1) := dk_get dT_16 3 rfl
theorem dL_1020 : decode code 1020 = .ok (.aload_n 0, 1) := dk_get dT_16 4 rfl
theorem dL_1021 : decode code 1021 = .ok (.iload_n 3, 1) := dk_get dT_16 5 rfl
theorem dL_1022 : decode code 1022 = .ok (.iconst 1, 1) := dk_get dT_16 6 rfl
theorem dL_1023 : decode code 1023 = .ok (.iadd, 1) := dk_get dT_16 7 rfl
theorem dL_1024 : decode code 1024 = .ok (.iaload, 1) := dk_get dT_16 8 rfl
theorem dL_1025 : decode code 1025 = .ok (.invokevirtual 133, 3) := dk_get dT_16 9 rfl
theorem dL_1028 : decode code 1028 = .ok (.aload_n 2, 1) := dk_get dT_16 10 rfl
theorem dL_1029 : decode code 1029 = .ok (.aload_n 0, 1) := dk_get dT_16 11 rfl
theorem dL_1030 : decode code 1030 = .ok (.iload_n 3, 1) := dk_get dT_16 12 rfl
theorem dL_1031 : decode code 1031 = .ok (.iconst 1, 1) := dk_get dT_16 13 rfl
theorem dL_1032 : decode code 1032 = .ok (.iadd, 1) := dk_get dT_16 14 rfl
theorem dL_1033 : decode code 1033 = .ok (.iaload, 1) := dk_get dT_16 15 rfl
theorem dL_1034 : decode code 1034 = .ok (.invokevirtual 136, 3) := dk_get dT_16 16 rfl
theorem dL_1037 : decode code 1037 = .ok (.if_icmp .eq 1245, 3) := dk_get dT_16 17 rfl
theorem dL_1040 : decode code 1040 = .ok (.iconst 0, 1) := dk_get dT_16 18 rfl
theorem dL_1041 : decode code 1041 = .ok (.ireturn, 1) := dk_get dT_16 19 rfl
theorem dL_1042 : decode code 1042 = .ok (.aload_n 1, 1) := dk_get dT_16 20 rfl
theorem dL_1043 : decode code 1043 = .ok (.invokevirtual 137, 3) := dk_get dT_16 21 rfl
theorem dL_1046 : decode code 1046 = .ok (.aload_n 2, 1) := dk_get dT_16 22 rfl
theorem dL_1047 : decode code 1047 = .ok (.invokevirtual 140, 3) := dk_get dT_16 23 rfl
theorem dL_1050 : decode code 1050 = .ok (.if_icmp .eq 1232, 3) := dk_get dT_16 24 rfl
theorem dL_1053 : decode code 1053 = .ok (.iconst 0, 1) := dk_get dT_16 25 rfl
theorem dL_1054 : decode code 1054 = .ok (.ireturn, 1) := dk_get dT_16 26 rfl
theorem dL_1055 : decode code 1055 = .ok (.aload_n 1, 1) := dk_get dT_16 27 rfl
theorem dL_1056 : decode code 1056 = .ok (.aload_n 0, 1) := dk_get dT_16 28 rfl
theorem dL_1057 : decode code 1057 = .ok (.iload_n 3, 1) := dk_get dT_16 29 rfl
theorem dL_1058 : decode code 1058 = .ok (.iconst 1, 1) := dk_get dT_16 30 rfl
theorem dL_1059 : decode code 1059 = .ok (.iadd, 1) := dk_get dT_16 31 rfl
theorem dT_17 : dk_ok [(1060, .ok (.iaload, 1)), (1061, .ok (.invokevirtual 141, 3)), (1064, .ok (.aload_n 2, 1)), (1065, .ok (.aload_n 0, 1)), (1066, .ok (.iload_n 3, 1)), (1067, .ok (.iconst 1, 1)), (1068, .ok (.iadd, 1)), (1069, .ok (.iaload, 1)), (1070, .ok (.invokevirtual 144, 3)), (1073, .ok (.if_icmp .eq 1209, 3)), (1076, .ok (.iconst 0, 1)), (1077, .ok (.ireturn, 1)), (1078, .ok (.aload_n 1, 1)), (1079, .ok (.aload_n 0, 1)), (1080, .ok (.iload_n 3, 1)), (1081, .ok (.iconst 1, 1)), (1082, .ok (.iadd, 1)), (1083, .ok (.iaload, 1)), (1084, .ok (.invokevirtual 145, 3)), (1087, .ok (.aload_n 2, 1)), (1088, .ok (.aload_n 0, 1)), (1089, .ok (.iload_n 3, 1)), (1090, .ok (.iconst 1, 1)), (1091, .ok (.iadd, 1)), (1092, .ok (.iaload, 1)), (1093, .ok (.invokevirtual 148, 3)), (1096, .ok (.if_icmp .eq 1186, 3)), (1099, .ok (.iconst 0, 1)), (1100, .ok (.ireturn, 1)), (1101, .ok (.aload_n 1, 1)), (1102, .ok (.aload_n 0, 1)), (1103, .ok (.iload_n 3, 1))] = true := by decide +kernel
theorem dL_1060 : decode code 1060 = .ok (.iaload, 1) := dk_get dT_17 0 rfl
theorem dL_1061 : decode code 1061 = .ok (.invokevirtual 141, 3) := dk_get dT_17 1 rfl
theorem dL_1064 : decode code 1064 = .ok (.aload_n 2, 1) := dk_get dT_17 2 rfl
theorem dL_1065 : decode code 1065 = .ok (.aload_n 0, 1) := dk_get dT_17 3 rfl
theorem dL_1066 : decode code 1066 = .ok (.iload_n 3, 1) := dk_get dT_17 4 rfl
theorem dL_1067 : decode code 1067 = .ok (.iconst 1, 1) := dk_get dT_17 5 rfl
theorem dL_1068 : decode code 1068 = .ok (.iadd, 1) := dk_get dT_17 6 rfl
theorem dL_1069 : decode code 1069 = .ok (.iaload, 1) := dk_get dT_17 7 rfl
theorem dL_1070 : decode code 1070 = .ok (.invokevirtual 144, 3) := dk_get dT_17 8 rfl
theorem dL_1073 : decode code 1073 = .ok (.if_icmp .eq 1209, 3) := dk_get dT_17 9 rfl
theorem dL_1076 : decode code 1076 = .ok (.iconst 0, 1) := dk_get dT_17 10 rfl
theorem dL_1077 : decode code 1077 = .ok (.ireturn, 1) := dk_get dT_17 11 rfl
theorem dL_1078 : decode code 1078 = .ok (.aload_n 1, 1) := dk_get dT_17 12 rfl
theorem dL_1079 : decode code 1079 = .ok (.aload_n 0, 1) := dk_get dT_17 13 rfl
theorem dL_1080 : decode code 1080 = .ok (.iload_n 3, 1) := dk_get dT_17 14 rfl
theorem dL_1081 : decode code 1081 = .ok (.iconst 1, 1) := dk_get dT_17 15 rfl
theorem dL_1082 : decode code 1082 = .ok (.iadd, 1) := dk_get dT_17 16 rfl
theorem dL_1083 : decode code 1083 = .ok (.iaload, 1) := dk_get dT_17 17 rfl
theorem dL_1084 : decode code 1084 = .ok (.invokevirtual 145, 3) := dk_get dT_17 18 rfl
theorem dL_1087 : decode code 1087 = .ok (.aload_n 2, 1) := dk_get dT_17 19 rfl
theorem dL_1088 : decode code 1088 = .ok (.aload_n 0, 1) := dk_get dT_17 20 rfl
theorem dL_1089 : decode code 1089 = .ok (.iload_n 3, 1) := dk_get dT_17 21 rfl
theorem dL_1090 : decode code 1090 = .ok (.iconst 1, 1) := dk_get dT_17 22 rfl
theorem dL_1091 : decode code 1091 = .ok (.iadd, 1) := dk_get dT_17 23 rfl
theorem dL_1092 : decode code 1092 = .ok (.iaload, 1) := dk_get dT_17 24 rfl
theorem dL_1093 : decode code 1093 = .ok (.invokevirtual 148, 3) := dk_get dT_17 25 rfl
theorem dL_1096 : decode code 1096 = .ok (.if_icmp .eq 1186, 3) := dk_get dT_17 26 rfl
theorem dL_1099 : decode code 1099 = .ok (.iconst 0, 1) := dk_get dT_17 27 rfl
theorem dL_1100 : decode code 1100 = .ok (.ireturn, 1) := dk_get dT_17 28 rfl
theorem dL_1101 : decode code 1101 = .ok (.aload_n 1, 1) := dk_get dT_17 29 rfl
theorem dL_1102 : decode code 1102 = .ok (.aload_n 0, 1) := dk_get dT_17 30 rfl
theorem dL_1103 : decode code 1103 = .ok (.iload_n 3, 1) := dk_get dT_17 31 rfl
theorem dT_18 : dk_ok [(1104, .ok (.iconst 1, 1)), (1105, .ok (.iadd, 1)), (1106, .ok (.iaload, 1)), (1107, .ok (.invokevirtual 149, 3)), (1110, .ok (.aload_n 2, 1)), (1111, .ok (.aload_n 0, 1)), (1112, .ok (.iload_n 3, 1)), (1113, .ok (.iconst 1, 1)), (1114, .ok (.iadd, 1)), (1115, .ok (.iaload, 1)), (1116, .ok (.invokevirtual 152, 3)), (1119, .ok (.if_icmp .eq 1163, 3)), (1122, .ok (.iconst 0, 1)), (1123, .ok (.ireturn, 1)), (1124, .ok (.aload_n 1, 1)), (1125, .ok (.aload_n 0, 1)), (1126, .ok (.iload_n 3, 1)), (1127, .ok (.iconst 1, 1)), (1128, .ok (.iadd, 1)), (1129, .ok (.iaload, 1)), (1130, .ok (.invokevirtual 153, 3)), (1133, .ok (.aload_n 2, 1)), (1134, .ok (.aload_n 0, 1)), (1135, .ok (.iload_n 3, 1)), (1136, .ok (.iconst 1, 1)), (1137, .ok (.iadd, 1)), (1138, .ok (.iaload, 1)), (1139, .ok (.invokevirtual 156, 3)), (1142, .ok (.if_icmp .eq 1140, 3)), (1145, .ok (.iconst 0, 1)), (1146, .ok (.ireturn, 1)), (1147, .ok (.aload_n 1, 1))] = true := by decide +kernel
theorem dL_1104 : decode code 1104 = .ok (.iconst 1, 1) := dk_get dT_18 0 rfl
theorem dL_1105 : decode code 1105 = .ok (.iadd, 1) := dk_get dT_18 1 rfl
theorem dL_1106 : decode code 1106 = .ok (.iaload, 1) := dk_get dT_18 2 rfl
theorem dL_1107 : decode code 1107 = .ok (.invokevirtual 149, 3) := dk_get dT_18 3 rfl
theorem dL_1110 : decode code 1110 = .ok (.aload_n 2, 1) := dk_get dT_18 4 rfl
theorem dL_1111 : decode code 1111 = .ok (.aload_n 0, 1) := dk_get dT_18 5 rfl
theorem dL_1112 : decode code 1112 = .ok (.iload_n 3, 1) := dk_get dT_18 6 rfl
theorem dL_1113 : decode code 1113 = .ok (.iconst 1, 1) := dk_get dT_18 7 rfl
theorem dL_1114 : decode code 1114 = .ok (.iadd, 1) := dk_get dT_18 8 rfl
theorem dL_1115 : decode code 1115 = .ok (.iaload, 1) := dk_get dT_18 9 rfl
theorem dL_1116 : decode code 1116 = .ok (.invokevirtual 152, 3) := dk_get dT_18 10 rfl
theorem dL_1119 : decode code 1119 = .ok (.if_icmp .eq 1163, 3) := dk_get dT_18 11 rfl
theorem dL_1122 : decode code 1122 = .ok (.iconst 0, 1) := dk_get dT_18 12 rfl
theorem dL_1123 : decode code 1123 = .ok (.ireturn, 1) := dk_get dT_18 13 rfl
theorem dL_1124 : decode code 1124 = .ok (.aload_n 1, 1) := dk_get dT_18 14 rfl
theorem dL_1125 : decode code 1125 = .ok (.aload_n 0, 1) := dk_get dT_18 15 rfl
theorem dL_1126 : decode code 1126 = .ok (.iload_n 3, 1) := dk_get dT_18 16 rfl
theorem dL_1127 : decode code 1127 = .ok (.iconst 1, 1) := dk_get dT_18 17 rfl
theorem dL_1128 : decode code 1128 = .ok (.iadd, 1) := dk_get dT_18 18 rfl
theorem dL_1129 : decode code 1129 = .ok (.iaload, 1) := dk_get dT_18 19 rfl
theorem dL_1130 : decode code 1130 = .ok (.invokevirtual 153, 3) := dk_get dT_18 20 rfl
theorem dL_1133 : decode code 1133 = .ok (.aload_n 2, 1) := dk_get dT_18 21 rfl
theorem dL_1134 : decode code 1134 = .ok (.aload_n 0, 1) := dk_get dT_18 22 rfl
theorem dL_1135 : decode code 1135 = .ok (.iload_n 3, 1) := dk_get dT_18 23 rfl
theorem dL_1136 : decode code 1136 = .ok (.iconst 1, 1) := dk_get dT_18 24 rfl
theorem dL_1137 : decode code 1137 = .ok (.iadd, 1) := dk_get dT_18 25 rfl
theorem dL_1138 : decode code 1138 = .ok (.iaload, 1) := dk_get dT_18 26 rfl
theorem dL_1139 : decode code 1139 = .ok (.invokevirtual 156, 3) := dk_get dT_18 27 rfl
theorem dL_1142 : decode code 1142 = .ok (.if_icmp .eq 1140, 3) := dk_get dT_18 28 rfl
theorem dL_1145 : decode code 1145 = .ok (.iconst 0, 1) := dk_get dT_18 29 rfl
theorem dL_1146 : decode code 1146 = .ok (.ireturn, 1) := dk_get dT_18 30 rfl
theorem dL_1147 : decode code 1147 = .ok (.aload_n 1, 1) := dk_get dT_18 31 rfl
theorem dT_19 : dk_ok [(1148, .ok (.aload_n 0, 1)), (1149, .ok (.iload_n 3, 1)), (1150, .ok (.iconst 1, 1)), (1151, .ok (.iadd, 1)), (1152, .ok (.iaload, 1)), (1153, .ok (.invokevirtual 157, 3)), (1156, .ok (.aload_n 2, 1)), (1157, .ok (.aload_n 0, 1)), (1158, .ok (.iload_n 3, 1)), (1159, .ok (.iconst 1, 1)), (1160, .ok (.iadd, 1)), (1161, .ok (.iaload, 1)), (1162, .ok (.invokevirtual 160, 3)), (1165, .ok (.if_icmp .eq 1117, 3)), (1168, .ok (.iconst 0, 1)), (1169, .ok (.ireturn, 1)), (1170, .ok (.aload_n 1, 1)), (1171, .ok (.aload_n 0, 1)), (1172, .ok (.iload_n 3, 1)), (1173, .ok (.iconst 1, 1)), (1174, .ok (.iadd, 1)), (1175, .ok (.iaload, 1)), (1176, .ok (.invokevirtual 161, 3)), (1179, .ok (.aload_n 2, 1)), (1180, .ok (.aload_n 0, 1)), (1181, .ok (.iload_n 3, 1)), (1182, .ok (.iconst 1, 1)), (1183, .ok (.iadd, 1)), (1184, .ok (.iaload, 1)), (1185, .ok (.invokevirtual 164, 3)), (1188, .ok (.if_icmp .eq 1094, 3)), (1191, .ok (.iconst 0, 1))] = true := by decide +kernel
theorem dL_1148 : decode code 1148 = .ok (.aload_n 0, 1) := dk_get dT_19 0 rfl
theorem dL_1149 : decode code 1149 = .ok (.iload_n 3, 1) := dk_get dT_19 1 rfl
theorem dL_1150 : decode code 1150 = .ok (.iconst 1, 1) := dk_get dT_19 2 rfl
theorem dL_1151 : decode code 1151 = .ok (.iadd, 1) := dk_get dT_19 3 rfl
theorem dL_1152 : decode code 1152 = .ok (.iaload, 1) := dk_get dT_19 4 rfl
theorem dL_1153 : decode code 1153 = .ok (.invokevirtual 157, 3) := dk_get dT_19 5 rfl
theorem dL_1156 : decode code 1156 = .ok (.aload_n 2, 1) := dk_get dT_19 6 rfl
theorem dL_1157 : decode code 1157 = .ok (.aload_n 0, 1) := dk_get dT_19 7 rfl
theorem dL_1158 : decode code 1158 = .ok (.iload_n 3, 1) := dk_get dT_19 8 rfl
theorem dL_1159 : decode code 1159 = .ok (.iconst 1, 1) := dk_get dT_19 9 rfl
theorem dL_1160 : decode code 1160 = .ok (.iadd, 1) := dk_get dT_19 10 rfl
theorem dL_1161 : decode code 1161 = .ok (.iaload, 1) := dk_get dT_19 11 rfl
theorem dL_1162 : decode code 1162 = .ok (.invokevirtual 160, 3) := dk_get dT_19 12 rfl
theorem dL_1165 : decode code 1165 = .ok (.if_icmp .eq 1117, 3) := dk_get dT_19 13 rfl
theorem dL_1168 : decode code 1168 = .ok (.iconst 0, 1) := dk_get dT_19 14 rfl
theorem dL_1169 : decode code 1169 = .ok (.ireturn, 1) := dk_get dT_19 15 rfl
theorem dL_1170 : decode code 1170 = .ok (.aload_n 1, 1) := dk_get dT_19 16 rfl
theorem dL_1171 : decode code 1171 = .ok (.aload_n 0, 1) := dk_get dT_19 17 rfl
theorem dL_1172 : decode code 1172 = .ok (.iload_n 3, 1) := dk_get dT_19 18 rfl
theorem dL_1173 : decode code 1173 = .ok (.iconst 1, 1) := dk_get dT_19 19 rfl
theorem dL_1174 : decode code 1174 = .ok (.iadd, 1) := dk_get dT_19 20 rfl
theorem dL_1175 : decode code 1175 = .ok (.iaload, 1) := dk_get dT_19 21 rfl
theorem dL_1176 : decode code 1176 = .ok (.invokevirtual 161, 3) := dk_get dT_19 22 rfl
theorem dL_1179 : decode code 1179 = .ok (.aload_n 2, 1) := dk_get dT_19 23 rfl
theorem dL_1180 : decode code 1180 = .ok (.aload_n 0, 1) := dk_get dT_19 24 rfl
theorem dL_1181 : decode code 1181 = .ok (.iload_n 3, 1) := dk_get dT_19 25 rfl
theorem dL_1182 : decode code 1182 = .ok (.iconst 1, 1) := dk_get dT_19 26 rfl
theorem dL_1183 : decode code 1183 = .ok (.iadd, 1) := dk_get dT_19 27 rfl
theorem dL_1184 : decode code 1184 = .ok (.iaload, 1) := dk_get dT_19 28 rfl
theorem dL_1185 : decode code 1185 = .ok (.invokevirtual 164, 3) := dk_get dT_19 29 rfl
theorem dL_1188 : decode code 1188 = .ok (.if_icmp .eq 1094, 3) := dk_get dT_19 30 rfl
theorem dL_1191 : decode code 1191 = .ok (.iconst 0, 1) := dk_get dT_19 31 rfl
theorem dT_20 : dk_ok [(1192, .ok (.ireturn, 1)), (1193, .ok (.aload_n 1, 1)), (1194, .ok (.aload_n 0, 1)), (1195, .ok (.iload_n 3, 1)), (1196, .ok (.iconst 1, 1)), (1197, .ok (.iadd, 1)), (1198, .ok (.iaload, 1)), (1199, .ok (.invokevirtual 165, 3)), (1202, .ok (.aload_n 2, 1)), (1203, .ok (.aload_n 0, 1)), (1204, .ok (.iload_n 3, 1)), (1205, .ok (.iconst 1, 1)), (1206, .ok (.iadd, 1)), (1207, .ok (.iaload, 1)), (1208, .ok (.invokevirtual 168, 3)), (1211, .ok (.if_icmp .eq 1071, 3)), (1214, .ok (.iconst 0, 1)), (1215, .ok (.ireturn, 1)), (1216, .ok (.aload_n 1, 1)), (1217, .ok (.aload_n 0, 1)), (1218, .ok (.iload_n 3, 1)), (1219, .ok (.iconst 1, 1)), (1220, .ok (.iadd, 1)), (1221, .ok (.iaload, 1)), (1222, .ok (.invokevirtual 169, 3)), (1225, .ok (.aload_n 2, 1)), (1226, .ok (.aload_n 0, 1)), (1227, .ok (.iload_n 3, 1)), (1228, .ok (.iconst 1, 1)), (1229, .ok (.iadd, 1)), (1230, .ok (.iaload, 1)), (1231, .ok (.invokevirtual 172, 3))] = true := by decide +kernel
theorem dL_1192 : decode code 1192 = .ok (.ireturn, 1) := dk_get dT_20 0 rfl
theorem dL_1193 : decode code 1193 = .ok (.aload_n 1, 1) := dk_get dT_20 1 rfl
theorem dL_1194 : decode code 1194 = .ok (.aload_n 0, 1) := dk_get dT_20 2 rfl
theorem dL_1195 : decode code 1195 = .ok (.iload_n 3, 1) := dk_get dT_20 3 rfl
theorem dL_1196 : decode code 1196 = .ok (.iconst 1, 1) := dk_get dT_20 4 rfl
theorem dL_1197 : decode code 1197 = .ok (.iadd, 1) := dk_get dT_20 5 rfl
theorem dL_1198 : decode code 1198 = .ok (.iaload, 1) := dk_get dT_20 6 rfl
theorem dL_1199 : decode code 1199 = .ok (.invokevirtual 165, 3) := dk_get dT_20 7 rfl
theorem dL_1202 : decode code 1202 = .ok (.aload_n 2, 1) := dk_get dT_20 8 rfl
theorem dL_1203 : decode code 1203 = .ok (.aload_n 0, 1) := dk_get dT_20 9 rfl
theorem dL_1204 : decode code 1204 = .ok (.iload_n 3, 1) := dk_get dT_20 10 rfl
theorem dL_1205 : decode code 1205 = .ok (.iconst 1, 1) := dk_get dT_20 11 rfl
theorem dL_1206 : decode code 1206 = .ok (.iadd, 1) := dk_get dT_20 12 rfl
theorem dL_1207 : decode code 1207 = .ok (.iaload, 1) := dk_get dT_20 13 rfl
theorem dL_1208 : decode code 1208 = .ok (.invokevirtual 168, 3) := dk_get dT_20 14 rfl
theorem dL_1211 : decode code 1211 = .ok (.if_icmp .eq 1071, 3) := dk_get dT_20 15 rfl
theorem dL_1214 : decode code 1214 = .ok (.iconst 0, 1) := dk_get dT_20 16 rfl
theorem dL_1215 : decode code 1215 = .ok (.ireturn, 1) := dk_get dT_20 17 rfl
theorem dL_1216 : decode code 1216 = .ok (.aload_n 1, 1) := dk_get dT_20 18 rfl
theorem dL_1217 : decode code 1217 = .ok (.aload_n 0, 1) := dk_get dT_20 19 rfl
theorem dL_1218 : decode code 1218 = .ok (.iload_n 3, 1) := dk_get dT_20 20 rfl
theorem dL_1219 : decode code 1219 = .ok (.iconst 1, 1) := dk_get dT_20 21 rfl
theorem dL_1220 : decode code 1220 = .ok (.iadd, 1) := dk_get dT_20 22 rfl
theorem dL_1221 : decode code 1221 = .ok (.iaload, 1) := dk_get dT_20 23 rfl
theorem dL_1222 : decode code 1222 = .ok (.invokevirtual 169, 3) := dk_get dT_20 24 rfl
theorem dL_1225 : decode code 1225 = .ok (.aload_n 2, 1) := dk_get dT_20 25 rfl
theorem dL_1226 : decode code 1226 = .ok (.aload_n 0, 1) := dk_get dT_20 26 rfl
theorem dL_1227 : decode code 1227 = .ok (.iload_n 3, 1) := dk_get dT_20 27 rfl
theorem dL_1228 : decode code 1228 = .ok (.iconst 1, 1) := dk_get dT_20 28 rfl
theorem dL_1229 : decode code 1229 = .ok (.iadd, 1) := dk_get dT_20 29 rfl
theorem dL_1230 : decode code 1230 = .ok (.iaload, 1) := dk_get dT_20 30 rfl
theorem dL_1231 : decode code 1231 = .ok (.invokevirtual 172, 3) := dk_get dT_20 31 rfl
theorem dT_21 : dk_ok [(1234, .ok (.if_icmp .eq 1048, 3)), (1237, .ok (.iconst 0, 1)), (1238, .ok (.ireturn, 1)), (1239, .ok (.aload_n 1, 1)), (1240, .ok (.aload_n 0, 1)), (1241, .ok (.iload_n 3, 1)), (1242, .ok (.iconst 1, 1)), (1243, .ok (.iadd, 1)), (1244, .ok (.iaload, 1)), (1245, .ok (.aload_n 0, 1)), (1246, .ok (.iload_n 3, 1)), (1247, .ok (.iconst 2, 1)), (1248, .ok (.iadd, 1)), (1249, .ok (.iaload, 1)), (1250, .ok (.invokevirtual 173, 3)), (1253, .ok (.aload_n 2, 1)), (1254, .ok (.aload_n 0, 1)), (1255, .ok (.iload_n 3, 1)), (1256, .ok (.iconst 1, 1)), (1257, .ok (.iadd, 1)), (1258, .ok (.iaload, 1)), (1259, .ok (.aload_n 0, 1)), (1260, .ok (.iload_n 3, 1)), (1261, .ok (.iconst 2, 1)), (1262, .ok (.iadd, 1)), (1263, .ok (.iaload, 1)), (1264, .ok (.invokevirtual 176, 3)), (1267, .ok (.if_icmp .eq 1015, 3)), (1270, .ok (.iconst 0, 1)), (1271, .ok (.ireturn, 1)), (1272, .ok (.aload_n 1, 1)), (1273, .ok (.aload_n 0, 1))] = true := by decide +kernel
theorem dL_1234 : decode code 1234 = .ok (.if_icmp .eq 1048, 3) := dk_get dT_21 0 rfl
theorem dL_1237 : decode code 1237 = .ok (.iconst 0, 1) := dk_get dT_21 1 rfl
theorem dL_1238 : decode code 1238 = .ok (.ireturn, 1) := dk_get dT_21 2 rfl
theorem dL_1239 : decode code 1239 = .ok (.aload_n 1, 1) := dk_get dT_21 3 rfl
theorem dL_1240 : decode code 1240 = .ok (.aload_n 0, 1) := dk_get dT_21 4 rfl
theorem dL_1241 : decode code 1241 = .ok (.iload_n 3, 1) := dk_get dT_21 5 rfl
theorem dL_1242 : decode code 1242 = .ok (.iconst 1, 1) := dk_get dT_21 6 rfl
theorem dL_1243 : decode code 1243 = .ok (.iadd, 1) := dk_get dT_21 7 rfl
theorem dL_1244 : decode code 1244 = .ok (.iaload, 1) := dk_get dT_21 8 rfl
theorem dL_1245 : decode code 1245 = .ok (.aload_n 0, 1) := dk_get dT_21 9 rfl
theorem dL_1246 : decode code 1246 = .ok (.iload_n 3, 1) := dk_get dT_21 10 rfl
theorem dL_1247 : decode code 1247 = .ok (.iconst 2, 1) := dk_get dT_21 11 rfl
theorem dL_1248 : decode code 1248 = .ok (.iadd, 1) := dk_get dT_21 12 rfl
theorem dL_1249 : decode code 1249 = .ok (.iaload, 1) := dk_get dT_21 13 rfl
theorem dL_1250 : decode code 1250 = .ok (.invokevirtual 173, 3) := dk_get dT_21 14 rfl
theorem dL_1253 : decode code 1253 = .ok (.aload_n 2, 1) := dk_get dT_21 15 rfl
theorem dL_1254 : decode code 1254 = .ok (.aload_n 0, 1) := dk_get dT_21 16 rfl
theorem dL_1255 : decode code 1255 = .ok (.iload_n 3, 1) := dk_get dT_21 17 rfl
theorem dL_1256 : decode code 1256 = .ok (.iconst 1, 1) := dk_get dT_21 18 rfl
theorem dL_1257 : decode code 1257 = .ok (.iadd, 1) := dk_get dT_21 19 rfl
theorem dL_1258 : decode code 1258 = .ok (.iaload, 1) := dk_get dT_21 20 rfl
theorem dL_1259 : decode code 1259 = .ok (.aload_n 0, 1) := dk_get dT_21 21 rfl
theorem dL_1260 : decode code 1260 = .ok (.iload_n 3, 1) := dk_get dT_21 22 rfl
theorem dL_1261 : decode code 1261 = .ok (.iconst 2, 1) := dk_get dT_21 23 rfl
theorem dL_1262 : decode code 1262 = .ok (.iadd, 1) := dk_get dT_21 24 rfl
theorem dL_1263 : decode code 1263 = .ok (.iaload, 1) := dk_get dT_21 25 rfl
theorem dL_1264 : decode code 1264 = .ok (.invokevirtual 176, 3) := dk_get dT_21 26 rfl
theorem dL_1267 : decode code 1267 = .ok (.if_icmp .eq 1015, 3) := dk_get dT_21 27 rfl
theorem dL_1270 : decode code 1270 = .ok (.iconst 0, 1) := dk_get dT_21 28 rfl
theorem dL_1271 : decode code 1271 = .ok (.ireturn, 1) := dk_get dT_21 29 rfl
theorem dL_1272 : decode code 1272 = .ok (.aload_n 1, 1) := dk_get dT_21 30 rfl
theorem dL_1273 : decode code 1273 = .ok (.aload_n 0, 1) := dk_get dT_21 31 rfl
theorem dT_22 : dk_ok [(1274, .ok (.iload_n 3, 1)), (1275, .ok (.iconst 1, 1)), (1276, .ok (.iadd, 1)), (1277, .ok (.iaload, 1)), (1278, .ok (.invokevirtual 177, 3)), (1281, .ok (.aload_n 2, 1)), (1282, .ok (.aload_n 0, 1)), (1283, .ok (.iload_n 3, 1)), (1284, .ok (.iconst 1, 1)), (1285, .ok (.iadd, 1)), (1286, .ok (.iaload, 1)), (1287, .ok (.invokevirtual 180, 3)), (1290, .ok (.if_icmp .eq 992, 3)), (1293, .ok (.iconst 0, 1)), (1294, .ok (.ireturn, 1)), (1295, .ok (.aload_n 1, 1)), (1296, .ok (.aload_n 0, 1)), (1297, .ok (.iload_n 3, 1)), (1298, .ok (.iconst 1, 1)), (1299, .ok (.iadd, 1)), (1300, .ok (.iaload, 1)), (1301, .ok (.invokevirtual 181, 3)), (1304, .ok (.aload_n 2, 1)), (1305, .ok (.aload_n 0, 1)), (1306, .ok (.iload_n 3, 1)), (1307, .ok (.iconst 1, 1)), (1308, .ok (.iadd, 1)), (1309, .ok (.iaload, 1)), (1310, .ok (.invokevirtual 184, 3)), (1313, .ok (.if_icmp .eq 969, 3)), (1316, .ok (.iconst 0, 1)), (1317, .ok (.ireturn, 1))] = true := by decide +kernel
theorem dL_1274 : decode code 1274 = .ok (.iload_n 3, 1) := dk_get dT_22 0 rfl
theorem dL_1275 : decode code 1275 = .ok (.iconst 1, 1) := dk_get dT_22 1 rfl
theorem dL_1276 : decode code 1276 = .ok (.iadd, 1) := dk_get dT_22 2 rfl
theorem dL_1277 : decode code 1277 = .ok (.iaload, 1) := dk_get dT_22 3 rfl
theorem dL_1278 : decode code 1278 = .ok (.invokevirtual 177, 3) := dk_get dT_22 4 rfl
theorem dL_1281 : decode code 1281 = .ok (.aload_n 2, 1) := dk_get dT_22 5 rfl
theorem dL_1282 : decode code 1282 = .ok (.aload_n 0, 1) := dk_get dT_22 6 rfl
theorem dL_1283 : decode code 1283 = .ok (.iload_n 3, 1) := dk_get dT_22 7 rfl
theorem dL_1284 : decode code 1284 = .ok (.iconst 1, 1) := dk_get dT_22 8 rfl
theorem dL_1285 : decode code 1285 = .ok (.iadd, 1) := dk_get dT_22 9 rfl
theorem dL_1286 : decode code 1286 = .ok (.iaload, 1) := dk_get dT_22 10 rfl
theorem dL_1287 : decode code 1287 = .ok (.invokevirtual 180, 3) := dk_get dT_22 11 rfl
theorem dL_1290 : decode code 1290 = .ok (.if_icmp .eq 992, 3) := dk_get dT_22 12 rfl
theorem dL_1293 : decode code 1293 = .ok (.iconst 0, 1) := dk_get dT_22 13 rfl
theorem dL_1294 : decode code 1294 = .ok (.ireturn, 1) := dk_get dT_22 14 rfl
theorem dL_1295 : decode code 1295 = .ok (.aload_n 1, 1) := dk_get dT_22 15 rfl
theorem dL_1296 : decode code 1296 = .ok (.aload_n 0, 1) := dk_get dT_22 16 rfl
theorem dL_1297 : decode code 1297 = .ok (.iload_n 3, 1) := dk_get dT_22 17 rfl
theorem dL_1298 : decode code 1298 = .ok (.iconst 1, 1) := dk_get dT_22 18 rfl
theorem dL_1299 : decode code 1299 = .ok (.iadd, 1) := dk_get dT_22 19 rfl
theorem dL_1300 : decode code 1300 = .ok (.iaload, 1) := dk_get dT_22 20 rfl
theorem dL_1301 : decode code 1301 = .ok (.invokevirtual 181, 3) := dk_get dT_22 21 rfl
theorem dL_1304 : decode code 1304 = .ok (.aload_n 2, 1) := dk_get dT_22 22 rfl
theorem dL_1305 : decode code 1305 = .ok (.aload_n 0, 1) := dk_get dT_22 23 rfl
theorem dL_1306 : decode code 1306 = .ok (.iload_n 3, 1) := dk_get dT_22 24 rfl
theorem dL_1307 : decode code 1307 = .ok (.iconst 1, 1) := dk_get dT_22 25 rfl
theorem dL_1308 : decode code 1308 = .ok (.iadd, 1) := dk_get dT_22 26 rfl
theorem dL_1309 : decode code 1309 = .ok (.iaload, 1) := dk_get dT_22 27 rfl
theorem dL_1310 : decode code 1310 = .ok (.invokevirtual 184, 3) := dk_get dT_22 28 rfl
theorem dL_1313 : decode code 1313 = .ok (.if_icmp .eq 969, 3) := dk_get dT_22 29 rfl
theorem dL_1316 : decode code 1316 = .ok (.iconst 0, 1) := dk_get dT_22 30 rfl
theorem dL_1317 : decode code 1317 = .ok (.ireturn, 1) := dk_get dT_22 31 rfl
theorem dT_23 : dk_ok [(1318, .ok (.aload_n 1, 1)), (1319, .ok (.aload_n 0, 1)), (1320, .ok (.iload_n 3, 1)), (1321, .ok (.iconst 1, 1)), (1322, .ok (.iadd, 1)), (1323, .ok (.iaload, 1)), (1324, .ok (.invokevirtual 185, 3)), (1327, .ok (.aload_n 2, 1)), (1328, .ok (.aload_n 0, 1)), (1329, .ok (.iload_n 3, 1)), (1330, .ok (.iconst 1, 1)), (1331, .ok (.iadd, 1)), (1332, .ok (.iaload, 1)), (1333, .ok (.invokevirtual 188, 3)), (1336, .ok (.if_icmp .eq 946, 3)), (1339, .ok (.iconst 0, 1)), (1340, .ok (.ireturn, 1)), (1341, .ok (.aload_n 1, 1)), (1342, .ok (.aload_n 0, 1)), (1343, .ok (.iload_n 3, 1)), (1344, .ok (.iconst 1, 1)), (1345, .ok (.iadd, 1)), (1346, .ok (.iaload, 1)), (1347, .ok (.invokevirtual 189, 3)), (1350, .ok (.aload_n 2, 1)), (1351, .ok (.aload_n 0, 1)), (1352, .ok (.iload_n 3, 1)), (1353, .ok (.iconst 1, 1)), (1354, .ok (.iadd, 1)), (1355, .ok (.iaload, 1)), (1356, .ok (.invokevirtual 192, 3)), (1359, .ok (.if_icmp .eq 923, 3))] = true := by decide +kernel
theorem dL_1318 : decode code 1318 = .ok (.aload_n 1, 1) := dk_get dT_23 0 rfl
theorem dL_1319 : decode code 1319 = .ok (.aload_n 0, 1) := dk_get dT_23 1 rfl
theorem dL_1320 : decode code 1320 = .ok (.iload_n 3, 1) := dk_get dT_23 2 rfl
theorem dL_1321 : decode code 1321 = .ok (.iconst 1, 1) := dk_get dT_23 3 rfl
theorem dL_1322 : decode code 1322 = .ok (.iadd, 1) := dk_get dT_23 4 rfl
theorem dL_1323 : decode code 1323 = .ok (.iaload, 1) := dk_get dT_23 5 rfl
theorem dL_1324 : decode code 1324 = .ok (.invokevirtual 185, 3) := dk_get dT_23 6 rfl
theorem dL_1327 : decode code 1327 = .ok (.aload_n 2, 1) := dk_get dT_23 7 rfl
theorem dL_1328 : decode code 1328 = .ok (.aload_n 0, 1) := dk_get dT_23 8 rfl
theorem dL_1329 : decode code 1329 = .ok (.iload_n 3, 1) := dk_get dT_23 9 rfl
theorem dL_1330 : decode code 1330 = .ok (.iconst 1, 1) := dk_get dT_23 10 rfl
theorem dL_1331 : decode code 1331 = .ok (.iadd, 1) := dk_get dT_23 11 rfl
theorem dL_1332 : decode code 1332 = .ok (.iaload, 1) := dk_get dT_23 12 rfl
theorem dL_1333 : decode code 1333 = .ok (.invokevirtual 188, 3) := dk_get dT_23 13 rfl
theorem dL_1336 : decode code 1336 = .ok (.if_icmp .eq 946, 3) := dk_get dT_23 14 rfl
theorem dL_1339 : decode code 1339 = .ok (.iconst 0, 1) := dk_get dT_23 15 rfl
theorem dL_1340 : decode code 1340 = .ok (.ireturn, 1) := dk_get dT_23 16 rfl
theorem dL_1341 : decode code 1341 = .ok (.aload_n 1, 1) := dk_get dT_23 17 rfl
theorem dL_1342 : decode code 1342 = .ok (.aload_n 0, 1) := dk_get dT_23 18 rfl
theorem dL_1343 : decode code 1343 = .ok (.iload_n 3, 1) := dk_get dT_23 19 rfl
theorem dL_1344 : decode code 1344 = .ok (.iconst 1, 1) := dk_get dT_23 20 rfl
theorem dL_1345 : decode code 1345 = .ok (.iadd, 1) := dk_get dT_23 21 rfl
theorem dL_1346 : decode code 1346 = .ok (.iaload, 1) := dk_get dT_23 22 rfl
theorem dL_1347 : decode code 1347 = .ok (.invokevirtual 189, 3) := dk_get dT_23 23 rfl
theorem dL_1350 : decode code 1350 = .ok (.aload_n 2, 1) := dk_get dT_23 24 rfl
theorem dL_1351 : decode code 1351 = .ok (.aload_n 0, 1) := dk_get dT_23 25 rfl
theorem dL_1352 : decode code 1352 = .ok (.iload_n 3, 1) := dk_get dT_23 26 rfl
theorem dL_1353 : decode code 1353 = .ok (.iconst 1, 1) := dk_get dT_23 27 rfl
theorem dL_1354 : decode code 1354 = .ok (.iadd, 1) := dk_get dT_23 28 rfl
theorem dL_1355 : decode code 1355 = .ok (.iaload, 1) := dk_get dT_23 29 rfl
theorem dL_1356 : decode code 1356 = .ok (.invokevirtual 192, 3) := dk_get dT_23 30 rfl
theorem dL_1359 : decode code 1359 = .ok (.if_icmp .eq 923, 3) := dk_get dT_23 31 rfl
theorem dT_24 : dk_ok [(1362, .ok (.iconst 0, 1)), (1363, .ok (.ireturn, 1)), (1364, .ok (.aload_n 1, 1)), (1365, .ok (.aload_n 0, 1)), (1366, .ok (.iload_n 3, 1)), (1367, .ok (.iconst 1, 1)), (1368, .ok (.iadd, 1)), (1369, .ok (.iaload, 1)), (1370, .ok (.invokevirtual 193, 3)), (1373, .ok (.aload_n 2, 1)), (1374, .ok (.aload_n 0, 1)), (1375, .ok (.iload_n 3, 1)), (1376, .ok (.iconst 1, 1)), (1377, .ok (.iadd, 1)), (1378, .ok (.iaload, 1)), (1379, .ok (.invokevirtual 196, 3)), (1382, .ok (.if_icmp .eq 900, 3)), (1385, .ok (.iconst 0, 1)), (1386, .ok (.ireturn, 1)), (1387, .ok (.aload_n 1, 1)), (1388, .ok (.invokevirtual 197, 3)), (1391, .ok (.aload_n 2, 1)), (1392, .ok (.invokevirtual 200, 3)), (1395, .ok (.if_icmp .eq 887, 3)), (1398, .ok (.iconst 0, 1)), (1399, .ok (.ireturn, 1)), (1400, .ok (.aload_n 1, 1)), (1401, .ok (.aload_n 0, 1)), (1402, .ok (.iload_n 3, 1)), (1403, .ok (.iconst 1, 1)), (1404, .ok (.iadd, 1)), (1405, .ok (.iaload, 1))] = true := by decide +kernel
theorem dL_1362 : decode code 1362 = .ok (.iconst 0, 1) := dk_get dT_24 0 rfl
theorem dL_1363 : decode code 1363 = .ok (.ireturn, 1) := dk_get dT_24 1 rfl
theorem dL_1364 : decode code 1364 = .ok (.aload_n 1, 1) := dk_get dT_24 2 rfl
theorem dL_1365 : decode code 1365 = .ok (.aload_n 0, 1) := dk_get dT_24 3 rfl
theorem dL_1366 : decode code 1366 = .ok (.iload_n 3, 1) := dk_get dT_24 4 rfl
theorem dL_1367 : decode code 1367 = .ok (.iconst 1, 1) := dk_get dT_24 5 rfl
theorem dL_1368 : decode code 1368 = .ok (.iadd, 1) := dk_get dT_24 6 rfl
theorem dL_1369 : decode code 1369 = .ok (.iaload, 1) := dk_get dT_24 7 rfl
theorem dL_1370 : decode code 1370 = .ok (.invokevirtual 193, 3) := dk_get dT_24 8 rfl
theorem dL_1373 : decode code 1373 = .ok (.aload_n 2, 1) := dk_get dT_24 9 rfl
theorem dL_1374 : decode code 1374 = .ok (.aload_n 0, 1) := dk_get dT_24 10 rfl
theorem dL_1375 : decode code 1375 = .ok (.iload_n 3, 1) := dk_get dT_24 11 rfl
theorem dL_1376 : decode code 1376 = .ok (.iconst 1, 1) := dk_get dT_24 12 rfl
theorem dL_1377 : decode code 1377 = .ok (.iadd, 1) := dk_get dT_24 13 rfl
theorem dL_1378 : decode code 1378 = .ok (.iaload, 1) := dk_get dT_24 14 rfl
theorem dL_1379 : decode code 1379 = .ok (.invokevirtual 196, 3) := dk_get dT_24 15 rfl
theorem dL_1382 : decode code 1382 = .ok (.if_icmp .eq 900, 3) := dk_get dT_24 16 rfl
theorem dL_1385 : decode code 1385 = .ok (.iconst 0, 1) := dk_get dT_24 17 rfl
theorem dL_1386 : decode code 1386 = .ok (.ireturn, 1) := dk_get dT_24 18 rfl
theorem dL_1387 : decode code 1387 = .ok (.aload_n 1, 1) := dk_get dT_24 19 rfl
theorem dL_1388 : decode code 1388 = .ok (.invokevirtual 197, 3) := dk_get dT_24 20 rfl
theorem dL_1391 : decode code 1391 = .ok (.aload_n 2, 1) := dk_get dT_24 21 rfl
theorem dL_1392 : decode code 1392 = .ok (.invokevirtual 200, 3) := dk_get dT_24 22 rfl
theorem dL_1395 : decode code 1395 = .ok (.if_icmp .eq 887, 3) := dk_get dT_24 23 rfl
theorem dL_1398 : decode code 1398 = .ok (.iconst 0, 1) := dk_get dT_24 24 rfl
theorem dL_1399 : decode code 1399 = .ok (.ireturn, 1) := dk_get dT_24 25 rfl
theorem dL_1400 : decode code 1400 = .ok (.aload_n 1, 1) := dk_get dT_24 26 rfl
theorem dL_1401 : decode code 1401 = .ok (.aload_n 0, 1) := dk_get dT_24 27 rfl
theorem dL_1402 : decode code 1402 = .ok (.iload_n 3, 1) := dk_get dT_24 28 rfl
theorem dL_1403 : decode code 1403 = .ok (.iconst 1, 1) := dk_get dT_24 29 rfl
theorem dL_1404 : decode code 1404 = .ok (.iadd, 1) := dk_get dT_24 30 rfl
theorem dL_1405 : decode code 1405 = .ok (.iaload, 1) := dk_get dT_24 31 rfl
theorem dT_25 : dk_ok [(1406, .ok (.invokevirtual 201, 3)), (1409, .ok (.aload_n 2, 1)), (1410, .ok (.aload_n 0, 1)), (1411, .ok (.iload_n 3, 1)), (1412, .ok (.iconst 1, 1)), (1413, .ok (.iadd, 1)), (1414, .ok (.iaload, 1)), (1415, .ok (.invokevirtual 204, 3)), (1418, .ok (.if_icmp .eq 864, 3)), (1421, .ok (.iconst 0, 1)), (1422, .ok (.ireturn, 1)), (1423, .ok (.aload_n 1, 1)), (1424, .ok (.invokevirtual 205, 3)), (1427, .ok (.aload_n 2, 1)), (1428, .ok (.invokevirtual 208, 3)), (1431, .ok (.if_icmp .eq 851, 3)), (1434, .ok (.iconst 0, 1)), (1435, .ok (.ireturn, 1)), (1436, .ok (.aload_n 1, 1)), (1437, .ok (.aload_n 0, 1)), (1438, .ok (.iload_n 3, 1)), (1439, .ok (.iconst 1, 1)), (1440, .ok (.iadd, 1)), (1441, .ok (.iaload, 1)), (1442, .ok (.invokevirtual 209, 3)), (1445, .ok (.aload_n 2, 1)), (1446, .ok (.aload_n 0, 1)), (1447, .ok (.iload_n 3, 1)), (1448, .ok (.iconst 1, 1)), (1449, .ok (.iadd, 1)), (1450, .ok (.iaload, 1)), (1451, .ok (.invokevirtual 212, 3))] = true := by decide +kernel
theorem dL_1406 : decode code 1406 = .ok (.invokevirtual 201, 3) := dk_get dT_25 0 rfl
theorem dL_1409 : decode code 1409 = .ok (.aload_n 2, 1) := dk_get dT_25 1 rfl
theorem dL_1410 : decode code 1410 = .ok (.aload_n 0, 1) := dk_get dT_25 2 rfl
theorem dL_1411 : decode code 1411 = .ok (.iload_n 3, 1) := dk_get dT_25 3 rfl
theorem dL_1412 : decode code 1412 = .ok (.iconst 1, 1) := dk_get dT_25 4 rfl
theorem dL_1413 : decode code 1413 = .ok (.iadd, 1) := dk_get dT_25 5 rfl
theorem dL_1414 : decode code 1414 = .ok (.iaload, 1) := dk_get dT_25 6 rfl
theorem dL_1415 : decode code 1415 = .ok (.invokevirtual 204, 3) := dk_get dT_25 7 rfl
theorem dL_1418 : decode code 1418 = .ok (.if_icmp .eq 864, 3) := dk_get dT_25 8 rfl
theorem dL_1421 : decode code 1421 = .ok (.iconst 0, 1) := dk_get dT_25 9 rfl
theorem dL_1422 : decode code 1422 = .ok (.ireturn, 1) := dk_get dT_25 10 rfl
theorem dL_1423 : decode code 1423 = .ok (.aload_n 1, 1) := dk_get dT_25 11 rfl
theorem dL_1424 : decode code 1424 = .ok (.invokevirtual 205, 3) := dk_get dT_25 12 rfl
theorem dL_1427 : decode code 1427 = .ok (.aload_n 2, 1) := dk_get dT_25 13 rfl
theorem dL_1428 : decode code 1428 = .ok (.invokevirtual 208, 3) := dk_get dT_25 14 rfl
theorem dL_1431 : decode code 1431 = .ok (.if_icmp .eq 851, 3) := dk_get dT_25 15 rfl
theorem dL_1434 : decode code 1434 = .ok (.iconst 0, 1) := dk_get dT_25 16 rfl
theorem dL_1435 : decode code 1435 = .ok (.ireturn, 1) := dk_get dT_25 17 rfl
theorem dL_1436 : decode code 1436 = .ok (.aload_n 1, 1) := dk_get dT_25 18 rfl
theorem dL_1437 : decode code 1437 = .ok (.aload_n 0, 1) := dk_get dT_25 19 rfl
theorem dL_1438 : decode code 1438 = .ok (.iload_n 3, 1) := dk_get dT_25 20 rfl
theorem dL_1439 : decode code 1439 = .ok (.iconst 1, 1) := dk_get dT_25 21 rfl
theorem dL_1440 : decode code 1440 = .ok (.iadd, 1) := dk_get dT_25 22 rfl
theorem dL_1441 : decode code 1441 = .ok (.iaload, 1) := dk_get dT_25 23 rfl
theorem dL_1442 : decode code 1442 = .ok (.invokevirtual 209, 3) := dk_get dT_25 24 rfl
theorem dL_1445 : decode code 1445 = .ok (.aload_n 2, 1) := dk_get dT_25 25 rfl
theorem dL_1446 : decode code 1446 = .ok (.aload_n 0, 1) := dk_get dT_25 26 rfl
theorem dL_1447 : decode code 1447 = .ok (.iload_n 3, 1) := dk_get dT_25 27 rfl
theorem dL_1448 : decode code 1448 = .ok (.iconst 1, 1) := dk_get dT_25 28 rfl
theorem dL_1449 : decode code 1449 = .ok (.iadd, 1) := dk_get dT_25 29 rfl
theorem dL_1450 : decode code 1450 = .ok (.iaload, 1) := dk_get dT_25 30 rfl
theorem dL_1451 : decode code 1451 = .ok (.invokevirtual 212, 3) := dk_get dT_25 31 rfl
theorem dT_26 : dk_ok [(1454, .ok (.if_icmp .eq 828, 3)), (1457, .ok (.iconst 0, 1)), (1458, .ok (.ireturn, 1)), (1459, .ok (.aload_n 1, 1)), (1460, .ok (.aload_n 0, 1)), (1461, .ok (.iload_n 3, 1)), (1462, .ok (.iconst 1, 1)), (1463, .ok (.iadd, 1)), (1464, .ok (.iaload, 1)), (1465, .ok (.invokevirtual 213, 3)), (1468, .ok (.aload_n 2, 1)), (1469, .ok (.aload_n 0, 1)), (1470, .ok (.iload_n 3, 1)), (1471, .ok (.iconst 1, 1)), (1472, .ok (.iadd, 1)), (1473, .ok (.iaload, 1)), (1474, .ok (.invokevirtual 216, 3)), (1477, .ok (.if_icmp .eq 805, 3)), (1480, .ok (.iconst 0, 1)), (1481, .ok (.ireturn, 1)), (1482, .ok (.aload_n 1, 1)), (1483, .ok (.aload_n 0, 1)), (1484, .ok (.iload_n 3, 1)), (1485, .ok (.iconst 1, 1)), (1486, .ok (.iadd, 1)), (1487, .ok (.iaload, 1)), (1488, .ok (.invokevirtual 217, 3)), (1491, .ok (.aload_n 2, 1)), (1492, .ok (.aload_n 0, 1)), (1493, .ok (.iload_n 3, 1)), (1494, .ok (.iconst 1, 1)), (1495, .ok (.iadd, 1))] = true := by decide +kernel
theorem dL_1454 : decode code 1454 = .ok (.if_icmp .eq 828, 3) := dk_get dT_26 0 rfl
theorem dL_1457 : decode code 1457 = .ok (.iconst 0, 1) := dk_get dT_26 1 rfl
theorem dL_1458 : decode code 1458 = .ok (.ireturn, 1) := dk_get dT_26 2 rfl
theorem dL_1459 : decode code 1459 = .ok (.aload_n 1, 1) := dk_get dT_26 3 rfl
theorem dL_1460 : decode code 1460 = .ok (.aload_n 0, 1) := dk_get dT_26 4 rfl
theorem dL_1461 : decode code 1461 = .ok (.iload_n 3, 1) := dk_get dT_26 5 rfl
theorem dL_1462 : decode code 1462 = .ok (.iconst 1, 1) := dk_get dT_26 6 rfl
theorem dL_1463 : decode code 1463 = .ok (.iadd, 1) := dk_get dT_26 7 rfl
theorem dL_1464 : decode code 1464 = .ok (.iaload, 1) := dk_get dT_26 8 rfl
theorem dL_1465 : decode code 1465 = .ok (.invokevirtual 213, 3) := dk_get dT_26 9 rfl
theorem dL_1468 : decode code 1468 = .ok (.aload_n 2, 1) := dk_get dT_26 10 rfl
theorem dL_1469 : decode code 1469 = .ok (.aload_n 0, 1) := dk_get dT_26 11 rfl
theorem dL_1470 : decode code 1470 = .ok (.iload_n 3, 1) := dk_get dT_26 12 rfl
theorem dL_1471 : decode code 1471 = .ok (.iconst 1, 1) := dk_get dT_26 13 rfl
theorem dL_1472 : decode code 1472 = .ok (.iadd, 1) := dk_get dT_26 14 rfl
theorem dL_1473 : decode code 1473 = .ok (.iaload, 1) := dk_get dT_26 15 rfl
theorem dL_1474 : decode code 1474 = .ok (.invokevirtual 216, 3) := dk_get dT_26 16 rfl
theorem dL_1477 : decode code 1477 = .ok (.if_icmp .eq 805, 3) := dk_get dT_26 17 rfl
theorem dL_1480 : decode code 1480 = .ok (.iconst 0, 1) := dk_get dT_26 18 rfl
theorem dL_1481 : decode code 1481 = .ok (.ireturn, 1) := dk_get dT_26 19 rfl
theorem dL_1482 : decode code 1482 = .ok (.aload_n 1, 1) := dk_get dT_26 20 rfl
theorem dL_1483 : decode code 1483 = .ok (.aload_n 0, 1) := dk_get dT_26 21 rfl
theorem dL_1484 : decode code 1484 = .ok (.iload_n 3, 1) := dk_get dT_26 22 rfl
theorem dL_1485 : decode code 1485 = .ok (.iconst 1, 1) := dk_get dT_26 23 rfl
theorem dL_1486 : decode code 1486 = .ok (.iadd, 1) := dk_get dT_26 24 rfl
theorem dL_1487 : decode code 1487 = .ok (.iaload, 1) := dk_get dT_26 25 rfl
theorem dL_1488 : decode code 1488 = .ok (.invokevirtual 217, 3) := dk_get dT_26 26 rfl
theorem dL_1491 : decode code 1491 = .ok (.aload_n 2, 1) := dk_get dT_26 27 rfl
theorem dL_1492 : decode code 1492 = .ok (.aload_n 0, 1) := dk_get dT_26 28 rfl
theorem dL_1493 : decode code 1493 = .ok (.iload_n 3, 1) := dk_get dT_26 29 rfl
theorem dL_1494 : decode code 1494 = .ok (.iconst 1, 1) := dk_get dT_26 30 rfl
theorem dL_1495 : decode code 1495 = .ok (.iadd, 1) := dk_get dT_26 31 rfl
theorem dT_27 : dk_ok [(1496, .ok (.iaload, 1)), (1497, .ok (.invokevirtual 220, 3)), (1500, .ok (.if_icmp .eq 782, 3)), (1503, .ok (.iconst 0, 1)), (1504, .ok (.ireturn, 1)), (1505, .ok (.aload_n 1, 1)), (1506, .ok (.aload_n 0, 1)), (1507, .ok (.iload_n 3, 1)), (1508, .ok (.iconst 1, 1)), (1509, .ok (.iadd, 1)), (1510, .ok (.iaload, 1)), (1511, .ok (.invokevirtual 221, 3)), (1514, .ok (.aload_n 2, 1)), (1515, .ok (.aload_n 0, 1)), (1516, .ok (.iload_n 3, 1)), (1517, .ok (.iconst 1, 1)), (1518, .ok (.iadd, 1)), (1519, .ok (.iaload, 1)), (1520, .ok (.invokevirtual 224, 3)), (1523, .ok (.if_icmp .eq 759, 3)), (1526, .ok (.iconst 0, 1)), (1527, .ok (.ireturn, 1)), (1528, .ok (.aload_n 1, 1)), (1529, .ok (.aload_n 0, 1)), (1530, .ok (.iload_n 3, 1)), (1531, .ok (.iconst 1, 1)), (1532, .ok (.iadd, 1)), (1533, .ok (.iaload, 1)), (1534, .ok (.invokevirtual 225, 3)), (1537, .ok (.aload_n 2, 1)), (1538, .ok (.aload_n 0, 1)), (1539, .ok (.iload_n 3, 1))] = true := by decide +kernel
theorem dL_1496 : decode code 1496 = .ok (.iaload, 1) := dk_get dT_27 0 rfl
theorem dL_1497 : decode code 1497 = .ok (.invokevirtual 220, 3) := dk_get dT_27 1 rfl
theorem dL_1500 : decode code 1500 = .ok (.if_icmp .eq 782, 3) := dk_get dT_27 2 rfl
theorem dL_1503 : decode code 1503 = .ok (.iconst 0, 1) := dk_get dT_27 3 rfl
theorem dL_1504 : decode code 1504 = .ok (.ireturn, 1) := dk_get dT_27 4 rfl
theorem dL_1505 : decode code 1505 = .ok (.aload_n 1, 1) := dk_get dT_27 5 rfl
theorem dL_1506 : decode code 1506 = .ok (.aload_n 0, 1) := dk_get dT_27 6 rfl
theorem dL_1507 : decode code 1507 = .ok (.iload_n 3, 1) := dk_get dT_27 7 rfl
theorem dL_1508 : decode code 1508 = .ok (.iconst 1, 1) := dk_get dT_27 8 rfl
theorem dL_1509 : decode code 1509 = .ok (.iadd, 1) := dk_get dT_27 9 rfl
theorem dL_1510 : decode code 1510 = .ok (.iaload, 1) := dk_get dT_27 10 rfl
theorem dL_1511 : decode code 1511 = .ok (.invokevirtual 221, 3) := dk_get dT_27 11 rfl
theorem dL_1514 : decode code 1514 = .ok (.aload_n 2, 1) := dk_get dT_27 12 rfl
theorem dL_1515 : decode code 1515 = .ok (.aload_n 0, 1) := dk_get dT_27 13 rfl
theorem dL_1516 : decode code 1516 = .ok (.iload_n 3, 1) := dk_get dT_27 14 rfl
theorem dL_1517 : decode code 1517 = .ok (.iconst 1, 1) := dk_get dT_27 15 rfl
theorem dL_1518 : decode code 1518 = .ok (.iadd, 1) := dk_get dT_27 16 rfl
theorem dL_1519 : decode code 1519 = .ok (.iaload, 1) := dk_get dT_27 17 rfl
theorem dL_1520 : decode code 1520 = .ok (.invokevirtual 224, 3) := dk_get dT_27 18 rfl
theorem dL_1523 : decode code 1523 = .ok (.if_icmp .eq 759, 3) := dk_get dT_27 19 rfl
theorem dL_1526 : decode code 1526 = .ok (.iconst 0, 1) := dk_get dT_27 20 rfl
theorem dL_1527 : decode code 1527 = .ok (.ireturn, 1) := dk_get dT_27 21 rfl
theorem dL_1528 : decode code 1528 = .ok (.aload_n 1, 1) := dk_get dT_27 22 rfl
theorem dL_1529 : decode code 1529 = .ok (.aload_n 0, 1) := dk_get dT_27 23 rfl
theorem dL_1530 : decode code 1530 = .ok (.iload_n 3, 1) := dk_get dT_27 24 rfl
theorem dL_1531 : decode code 1531 = .ok (.iconst 1, 1) := dk_get dT_27 25 rfl
theorem dL_1532 : decode code 1532 = .ok (.iadd, 1) := dk_get dT_27 26 rfl
theorem dL_1533 : decode code 1533 = .ok (.iaload, 1) := dk_get dT_27 27 rfl
theorem dL_1534 : decode code 1534 = .ok (.invokevirtual 225, 3) := dk_get dT_27 28 rfl
theorem dL_1537 : decode code 1537 = .ok (.aload_n 2, 1) := dk_get dT_27 29 rfl
theorem dL_1538 : decode code 1538 = .ok (.aload_n 0, 1) := dk_get dT_27 30 rfl
theorem dL_1539 : decode code 1539 = .ok (.iload_n 3, 1) := dk_get dT_27 31 rfl
theorem dT_28 : dk_ok [(1540, .ok (.iconst 1, 1)), (1541, .ok (.iadd, 1)), (1542, .ok (.iaload, 1)), (1543, .ok (.invokevirtual 228, 3)), (1546, .ok (.if_icmp .eq 736, 3)), (1549, .ok (.iconst 0, 1)), (1550, .ok (.ireturn, 1)), (1551, .ok (.aload_n 1, 1)), (1552, .ok (.aload_n 0, 1)), (1553, .ok (.iload_n 3, 1)), (1554, .ok (.iconst 1, 1)), (1555, .ok (.iadd, 1)), (1556, .ok (.iaload, 1)), (1557, .ok (.invokevirtual 229, 3)), (1560, .ok (.aload_n 2, 1)), (1561, .ok (.aload_n 0, 1)), (1562, .ok (.iload_n 3, 1)), (1563, .ok (.iconst 1, 1)), (1564, .ok (.iadd, 1)), (1565, .ok (.iaload, 1)), (1566, .ok (.invokevirtual 232, 3)), (1569, .ok (.if_icmp .eq 713, 3)), (1572, .ok (.iconst 0, 1)), (1573, .ok (.ireturn, 1)), (1574, .ok (.aload_n 1, 1)), (1575, .ok (.aload_n 0, 1)), (1576, .ok (.iload_n 3, 1)), (1577, .ok (.iconst 1, 1)), (1578, .ok (.iadd, 1)), (1579, .ok (.iaload, 1)), (1580, .ok (.invokevirtual 233, 3)), (1583, .ok (.aload_n 2, 1))] = true := by decide +kernel
theorem dL_1540 : decode code 1540 = .ok (.iconst 1, 1) := dk_get dT_28 0 rfl
theorem dL_1541 : decode code 1541 = .ok (.iadd, 1) := dk_get dT_28 1 rfl
theorem dL_1542 : decode code 1542 = .ok (.iaload, 1) := dk_get dT_28 2 rfl
theorem dL_1543 : decode code 1543 = .ok (.invokevirtual 228, 3) := dk_get dT_28 3 rfl
theorem dL_1546 : decode code 1546 = .ok (.if_icmp .eq 736, 3) := dk_get dT_28 4 rfl
theorem dL_1549 : decode code 1549 = .ok (.iconst 0, 1) := dk_get dT_28 5 rfl
theorem dL_1550 : decode code 1550 = .ok (.ireturn, 1) := dk_get dT_28 6 rfl
theorem dL_1551 : decode code 1551 = .ok (.aload_n 1, 1) := dk_get dT_28 7 rfl
theorem dL_1552 : decode code 1552 = .ok (.aload_n 0, 1) := dk_get dT_28 8 rfl
theorem dL_1553 : decode code 1553 = .ok (.iload_n 3, 1) := dk_get dT_28 9 rfl
theorem dL_1554 : decode code 1554 = .ok (.iconst 1, 1) := dk_get dT_28 10 rfl
theorem dL_1555 : decode code 1555 = .ok (.iadd, 1) := dk_get dT_28 11 rfl
theorem dL_1556 : decode code 1556 = .ok (.iaload, 1) := dk_get dT_28 12 rfl
theorem dL_1557 : decode code 1557 = .ok (.invokevirtual 229, 3) := dk_get dT_28 13 rfl
theorem dL_1560 : decode code 1560 = .ok (.aload_n 2, 1) := dk_get dT_28 14 rfl
theorem dL_1561 : decode code 1561 = .ok (.aload_n 0, 1) := dk_get dT_28 15 rfl
theorem dL_1562 : decode code 1562 = .ok (.iload_n 3, 1) := dk_get dT_28 16 rfl
theorem dL_1563 : decode code 1563 = .ok (.iconst 1, 1) := dk_get dT_28 17 rfl
theorem dL_1564 : decode code 1564 = .ok (.iadd, 1) := dk_get dT_28 18 rfl
theorem dL_1565 : decode code 1565 = .ok (.iaload, 1) := dk_get dT_28 19 rfl
theorem dL_1566 : decode code 1566 = .ok (.invokevirtual 232, 3) := dk_get dT_28 20 rfl
theorem dL_1569 : decode code 1569 = .ok (.if_icmp .eq 713, 3) := dk_get dT_28 21 rfl
theorem dL_1572 : decode code 1572 = .ok (.iconst 0, 1) := dk_get dT_28 22 rfl
theorem dL_1573 : decode code 1573 = .ok (.ireturn, 1) := dk_get dT_28 23 rfl
theorem dL_1574 : decode code 1574 = .ok (.aload_n 1, 1) := dk_get dT_28 24 rfl
theorem dL_1575 : decode code 1575 = .ok (.aload_n 0, 1) := dk_get dT_28 25 rfl
theorem dL_1576 : decode code 1576 = .ok (.iload_n 3, 1) := dk_get dT_28 26 rfl
theorem dL_1577 : decode code 1577 = .ok (.iconst 1, 1) := dk_get dT_28 27 rfl
theorem dL_1578 : decode code 1578 = .ok (.iadd, 1) := dk_get dT_28 28 rfl
theorem dL_1579 : decode code 1579 = .ok (.iaload, 1) := dk_get dT_28 29 rfl
theorem dL_1580 : decode code 1580 = .ok (.invokevirtual 233, 3) := dk_get dT_28 30 rfl
theorem dL_1583 : decode code 1583 = .ok (.aload_n 2, 1) := dk_get dT_28 31 rfl
theorem dT_29 : dk_ok [(1584, .ok (.aload_n 0, 1)), (1585, .ok (.iload_n 3, 1)), (1586, .ok (.iconst 1, 1)), (1587, .ok (.iadd, 1)), (1588, .ok (.iaload, 1)), (1589, .ok (.invokevirtual 236, 3)), (1592, .ok (.if_icmp .eq 690, 3)), (1595, .ok (.iconst 0, 1)), (1596, .ok (.ireturn, 1)), (1597, .ok (.aload_n 1, 1)), (1598, .ok (.aload_n 0, 1)), (1599, .ok (.iload_n 3, 1)), (1600, .ok (.iconst 1, 1)), (1601, .ok (.iadd, 1)), (1602, .ok (.iaload, 1)), (1603, .ok (.invokevirtual 237, 3)), (1606, .ok (.aload_n 2, 1)), (1607, .ok (.aload_n 0, 1)), (1608, .ok (.iload_n 3, 1)), (1609, .ok (.iconst 1, 1)), (1610, .ok (.iadd, 1)), (1611, .ok (.iaload, 1)), (1612, .ok (.invokevirtual 240, 3)), (1615, .ok (.if_icmp .eq 667, 3)), (1618, .ok (.iconst 0, 1)), (1619, .ok (.ireturn, 1)), (1620, .ok (.aload_n 1, 1)), (1621, .ok (.aload_n 0, 1)), (1622, .ok (.iload_n 3, 1)), (1623, .ok (.iconst 1, 1)), (1624, .ok (.iadd, 1)), (1625, .ok (.iaload, 1))] = true := by decide +kernel
theorem dL_1584 : decode code 1584 = .ok (.aload_n 0, 1) := dk_get dT_29 0 rfl
theorem dL_1585 : decode code 1585 = .ok (.iload_n 3, 1) := dk_get dT_29 1 rfl
theorem dL_1586 : decode code 1586 = .ok (.iconst 1, 1) := dk_get dT_29 2 rfl
theorem dL_1587 : decode code 1587 = .ok (.iadd, 1) := dk_get dT_29 3 rfl
theorem dL_1588 : decode code 1588 = .ok (.iaload, 1) := dk_get dT_29 4 rfl
theorem dL_1589 : decode code 1589 = .ok (.invokevirtual 236, 3) := dk_get dT_29 5 rfl
theorem dL_1592 : decode code 1592 = .ok (.if_icmp .eq 690, 3) := dk_get dT_29 6 rfl
theorem dL_1595 : decode code 1595 = .ok (.iconst 0, 1) := dk_get dT_29 7 rfl
theorem dL_1596 : decode code 1596 = .ok (.ireturn, 1) := dk_get dT_29 8 rfl
theorem dL_1597 : decode code 1597 = .ok (.aload_n 1, 1) := dk_get dT_29 9 rfl
theorem dL_1598 : decode code 1598 = .ok (.aload_n 0, 1) := dk_get dT_29 10 rfl
theorem dL_1599 : decode code 1599 = .ok (.iload_n 3, 1) := dk_get dT_29 11 rfl
theorem dL_1600 : decode code 1600 = .ok (.iconst 1, 1) := dk_get dT_29 12 rfl
theorem dL_1601 : decode code 1601 = .ok (.iadd, 1) := dk_get dT_29 13 rfl
theorem dL_1602 : decode code 1602 = .ok (.iaload, 1) := dk_get dT_29 14 rfl
theorem dL_1603 : decode code 1603 = .ok (.invokevirtual 237, 3) := dk_get dT_29 15 rfl
theorem dL_1606 : decode code 1606 = .ok (.aload_n 2, 1) := dk_get dT_29 16 rfl
theorem dL_1607 : decode code 1607 = .ok (.aload_n 0, 1) := dk_get dT_29 17 rfl
theorem dL_1608 : decode code 1608 = .ok (.iload_n 3, 1) := dk_get dT_29 18 rfl
theorem dL_1609 : decode code 1609 = .ok (.iconst 1, 1) := dk_get dT_29 19 rfl
theorem dL_1610 : decode code 1610 = .ok (.iadd, 1) := dk_get dT_29 20 rfl
theorem dL_1611 : decode code 1611 = .ok (.iaload, 1) := dk_get dT_29 21 rfl
theorem dL_1612 : decode code 1612 = .ok (.invokevirtual 240, 3) := dk_get dT_29 22 rfl
theorem dL_1615 : decode code 1615 = .ok (.if_icmp .eq 667, 3) := dk_get dT_29 23 rfl
theorem dL_1618 : decode code 1618 = .ok (.iconst 0, 1) := dk_get dT_29 24 rfl
theorem dL_1619 : decode code 1619 = .ok (.ireturn, 1) := dk_get dT_29 25 rfl
theorem dL_1620 : decode code 1620 = .ok (.aload_n 1, 1) := dk_get dT_29 26 rfl
theorem dL_1621 : decode code 1621 = .ok (.aload_n 0, 1) := dk_get dT_29 27 rfl
theorem dL_1622 : decode code 1622 = .ok (.iload_n 3, 1) := dk_get dT_29 28 rfl
theorem dL_1623 : decode code 1623 = .ok (.iconst 1, 1) := dk_get dT_29 29 rfl
theorem dL_1624 : decode code 1624 = .ok (.iadd, 1) := dk_get dT_29 30 rfl
theorem dL_1625 : decode code 1625 = .ok (.iaload, 1) := dk_get dT_29 31 rfl
theorem dT_30 : dk_ok [(1626, .ok (.aload_n 0, 1)), (1627, .ok (.iload_n 3, 1)), (1628, .ok (.iconst 2, 1)), (1629, .ok (.iadd, 1)), (1630, .ok (.iaload, 1)), (1631, .ok (.aload_n 0, 1)), (1632, .ok (.iload_n 3, 1)), (1633, .ok (.iconst 3, 1)), (1634, .ok (.iadd, 1)), (1635, .ok (.iaload, 1)), (1636, .ok (.invokevirtual 241, 3)), (1639, .ok (.aload_n 2, 1)), (1640, .ok (.aload_n 0, 1)), (1641, .ok (.iload_n 3, 1)), (1642, .ok (.iconst 1, 1)), (1643, .ok (.iadd, 1)), (1644, .ok (.iaload, 1)), (1645, .ok (.aload_n 0, 1)), (1646, .ok (.iload_n 3, 1)), (1647, .ok (.iconst 2, 1)), (1648, .ok (.iadd, 1)), (1649, .ok (.iaload, 1)), (1650, .ok (.aload_n 0, 1)), (1651, .ok (.iload_n 3, 1)), (1652, .ok (.iconst 3, 1)), (1653, .ok (.iadd, 1)), (1654, .ok (.iaload, 1)), (1655, .ok (.invokevirtual 245, 3)), (1658, .ok (.if_icmp .eq 624, 3)), (1661, .ok (.iconst 0, 1)), (1662, .ok (.ireturn, 1)), (1663, .ok (.aload_n 1, 1))] = true := by decide +kernel
theorem dL_1626 : decode code 1626 = .ok (.aload_n 0, 1) := dk_get dT_30 0 rfl
theorem dL_1627 : decode code 1627 = .ok (.iload_n 3, 1) := dk_get dT_30 1 rfl
theorem dL_1628 : decode code 1628 = .ok (.iconst 2, 1) := dk_get dT_30 2 rfl
theorem dL_1629 : decode code 1629 = .ok (.iadd, 1) := dk_get dT_30 3 rfl
theorem dL_1630 : decode code 1630 = .ok (.iaload, 1) := dk_get dT_30 4 rfl
theorem dL_1631 : decode code 1631 = .ok (.aload_n 0, 1) := dk_get dT_30 5 rfl
theorem dL_1632 : decode code 1632 = .ok (.iload_n 3, 1) := dk_get dT_30 6 rfl
theorem dL_1633 : decode code 1633 = .ok (.iconst 3, 1) := dk_get dT_30 7 rfl
theorem dL_1634 : decode code 1634 = .ok (.iadd, 1) := dk_get dT_30 8 rfl
theorem dL_1635 : decode code 1635 = .ok (.iaload, 1) := dk_get dT_30 9 rfl
theorem dL_1636 : decode code 1636 = .ok (.invokevirtual 241, 3) := dk_get dT_30 10 rfl
theorem dL_1639 : decode code 1639 = .ok (.aload_n 2, 1) := dk_get dT_30 11 rfl
theorem dL_1640 : decode code 1640 = .ok (.aload_n 0, 1) := dk_get dT_30 12 rfl
theorem dL_1641 : decode code 1641 = .ok (.iload_n 3, 1) := dk_get dT_30 13 rfl
theorem dL_1642 : decode code 1642 = .ok (.iconst 1, 1) := dk_get dT_30 14 rfl
theorem dL_1643 : decode code 1643 = .ok (.iadd, 1) := dk_get dT_30 15 rfl
theorem dL_1644 : decode code 1644 = .ok (.iaload, 1) := dk_get dT_30 16 rfl
theorem dL_1645 : decode code 1645 = .ok (.aload_n 0, 1) := dk_get dT_30 17 rfl
theorem dL_1646 : decode code 1646 = .ok (.iload_n 3, 1) := dk_get dT_30 18 rfl
theorem dL_1647 : decode code 1647 = .ok (.iconst 2, 1) := dk_get dT_30 19 rfl
theorem dL_1648 : decode code 1648 = .ok (.iadd, 1) := dk_get dT_30 20 rfl
theorem dL_1649 : decode code 1649 = .ok (.iaload, 1) := dk_get dT_30 21 rfl
theorem dL_1650 : decode code 1650 = .ok (.aload_n 0, 1) := dk_get dT_30 22 rfl
theorem dL_1651 : decode code 1651 = .ok (.iload_n 3, 1) := dk_get dT_30 23 rfl
theorem dL_1652 : decode code 1652 = .ok (.iconst 3, 1) := dk_get dT_30 24 rfl
theorem dL_1653 : decode code 1653 = .ok (.iadd, 1) := dk_get dT_30 25 rfl
theorem dL_1654 : decode code 1654 = .ok (.iaload, 1) := dk_get dT_30 26 rfl
theorem dL_1655 : decode code 1655 = .ok (.invokevirtual 245, 3) := dk_get dT_30 27 rfl
theorem dL_1658 : decode code 1658 = .ok (.if_icmp .eq 624, 3) := dk_get dT_30 28 rfl
theorem dL_1661 : decode code 1661 = .ok (.iconst 0, 1) := dk_get dT_30 29 rfl
theorem dL_1662 : decode code 1662 = .ok (.ireturn, 1) := dk_get dT_30 30 rfl
theorem dL_1663 : decode code 1663 = .ok (.aload_n 1, 1) := dk_get dT_30 31 rfl
theorem dT_31 : dk_ok [(1664, .ok (.aload_n 0, 1)), (1665, .ok (.iload_n 3, 1)), (1666, .ok (.iconst 1, 1)), (1667, .ok (.iadd, 1)), (1668, .ok (.iaload, 1)), (1669, .ok (.aload_n 0, 1)), (1670, .ok (.iload_n 3, 1)), (1671, .ok (.iconst 2, 1)), (1672, .ok (.iadd, 1)), (1673, .ok (.iaload, 1)), (1674, .ok (.invokevirtual 246, 3)), (1677, .ok (.aload_n 2, 1)), (1678, .ok (.aload_n 0, 1)), (1679, .ok (.iload_n 3, 1)), (1680, .ok (.iconst 1, 1)), (1681, .ok (.iadd, 1)), (1682, .ok (.iaload, 1)), (1683, .ok (.aload_n 0, 1)), (1684, .ok (.iload_n 3, 1)), (1685, .ok (.iconst 2, 1)), (1686, .ok (.iadd, 1)), (1687, .ok (.iaload, 1)), (1688, .ok (.invokevirtual 250, 3)), (1691, .ok (.lcmp, 1)), (1692, .ok (.ifCond .eq 590, 3)), (1695, .ok (.iconst 0, 1)), (1696, .ok (.ireturn, 1)), (1697, .ok (.aload_n 1, 1)), (1698, .ok (.aload_n 0, 1)), (1699, .ok (.iload_n 3, 1)), (1700, .ok (.iconst 1, 1)), (1701, .ok (.iadd, 1))] = true := by decide +kernel
theorem dL_1664 : decode code 1664 = .ok (.aload_n 0, 1) := dk_get dT_31 0 rfl
theorem dL_1665 : decode code 1665 = .ok (.iload_n 3, 1) := dk_get dT_31 1 rfl
theorem dL_1666 : decode code 1666 = .ok (.iconst 1, 1) := dk_get dT_31 2 rfl
theorem dL_1667 : decode code 1667 = .ok (.iadd, 1) := dk_get dT_31 3 rfl
theorem dL_1668 : decode code 1668 = .ok (.iaload, 1) := dk_get dT_31 4 rfl
theorem dL_1669 : decode code 1669 = .ok (.aload_n 0, 1) := dk_get dT_31 5 rfl
theorem dL_1670 : decode code 1670 = .ok (.iload_n 3, 1) := dk_get dT_31 6 rfl
theorem dL_1671 : decode code 1671 = .ok (.iconst 2, 1) := dk_get dT_31 7 rfl
theorem dL_1672 : decode code 1672 = .ok (.iadd, 1) := dk_get dT_31 8 rfl
theorem dL_1673 : decode code 1673 = .ok (.iaload, 1) := dk_get dT_31 9 rfl
theorem dL_1674 : decode code 1674 = .ok (.invokevirtual 246, 3) := dk_get dT_31 10 rfl
theorem dL_1677 : decode code 1677 = .ok (.aload_n 2, 1) := dk_get dT_31 11 rfl
theorem dL_1678 : decode code 1678 = .ok (.aload_n 0, 1) := dk_get dT_31 12 rfl
theorem dL_1679 : decode code 1679 = .ok (.iload_n 3, 1) := dk_get dT_31 13 rfl
theorem dL_1680 : decode code 1680 = .ok (.iconst 1, 1) := dk_get dT_31 14 rfl
theorem dL_1681 : decode code 1681 = .ok (.iadd, 1) := dk_get dT_31 15 rfl
theorem dL_1682 : decode code 1682 = .ok (.iaload, 1) := dk_get dT_31 16 rfl
theorem dL_1683 : decode code 1683 = .ok (.aload_n 0, 1) := dk_get dT_31 17 rfl
theorem dL_1684 : decode code 1684 = .ok (.iload_n 3, 1) := dk_get dT_31 18 rfl
theorem dL_1685 : decode code 1685 = .ok (.iconst 2, 1) := dk_get dT_31 19 rfl
theorem dL_1686 : decode code 1686 = .ok (.iadd, 1) := dk_get dT_31 20 rfl
theorem dL_1687 : decode code 1687 = .ok (.iaload, 1) := dk_get dT_31 21 rfl
theorem dL_1688 : decode code 1688 = .ok (.invokevirtual 250, 3) := dk_get dT_31 22 rfl
theorem dL_1691 : decode code 1691 = .ok (.lcmp, 1) := dk_get dT_31 23 rfl
theorem dL_1692 : decode code 1692 = .ok (.ifCond .eq 590, 3) := dk_get dT_31 24 rfl
theorem dL_1695 : decode code 1695 = .ok (.iconst 0, 1) := dk_get dT_31 25 rfl
theorem dL_1696 : decode code 1696 = .ok (.ireturn, 1) := dk_get dT_31 26 rfl
theorem dL_1697 : decode code 1697 = .ok (.aload_n 1, 1) := dk_get dT_31 27 rfl
theorem dL_1698 : decode code 1698 = .ok (.aload_n 0, 1) := dk_get dT_31 28 rfl
theorem dL_1699 : decode code 1699 = .ok (.iload_n 3, 1) := dk_get dT_31 29 rfl
theorem dL_1700 : decode code 1700 = .ok (.iconst 1, 1) := dk_get dT_31 30 rfl
theorem dL_1701 : decode code 1701 = .ok (.iadd, 1) := dk_get dT_31 31 rfl
theorem dT_32 : dk_ok [(1702, .ok (.iaload, 1)), (1703, .ok (.aload_n 0, 1)), (1704, .ok (.iload_n 3, 1)), (1705, .ok (.iconst 2, 1)), (1706, .ok (.iadd, 1)), (1707, .ok (.iaload, 1)), (1708, .ok (.aload_n 0, 1)), (1709, .ok (.iload_n 3, 1)), (1710, .ok (.iconst 3, 1)), (1711, .ok (.iadd, 1)), (1712, .ok (.iaload, 1)), (1713, .ok (.invokevirtual 251, 3)), (1716, .ok (.aload_n 2, 1)), (1717, .ok (.aload_n 0, 1)), (1718, .ok (.iload_n 3, 1)), (1719, .ok (.iconst 1, 1)), (1720, .ok (.iadd, 1)), (1721, .ok (.iaload, 1)), (1722, .ok (.aload_n 0, 1)), (1723, .ok (.iload_n 3, 1)), (1724, .ok (.iconst 2, 1)), (1725, .ok (.iadd, 1)), (1726, .ok (.iaload, 1)), (1727, .ok (.aload_n 0, 1)), (1728, .ok (.iload_n 3, 1)), (1729, .ok (.iconst 3, 1)), (1730, .ok (.iadd, 1)), (1731, .ok (.iaload, 1)), (1732, .ok (.invokevirtual 254, 3)), (1735, .ok (.if_icmp .eq 547, 3)), (1738, .ok (.iconst 0, 1)), (1739, .ok (.ireturn, 1))] = true := by decide +kernel
theorem dL_1702 : decode code 1702 = .ok (.iaload, 1) := dk_get dT_32 0 rfl
theorem dL_1703 : decode code 1703 = .ok (.aload_n 0, 1) := dk_get dT_32 1 rfl
theorem dL_1704 : decode code 1704 = .ok (.iload_n 3, 1) := dk_get dT_32 2 rfl
theorem dL_1705 : decode code 1705 = .ok (.iconst 2, 1) := dk_get dT_32 3 rfl
theorem dL_1706 : decode code 1706 = .ok (.iadd, 1) := dk_get dT_32 4 rfl
theorem dL_1707 : decode code 1707 = .ok (.iaload, 1) := dk_get dT_32 5 rfl
theorem dL_1708 : decode code 1708 = .ok (.aload_n 0, 1) := dk_get dT_32 6 rfl
theorem dL_1709 : decode code 1709 = .ok (.iload_n 3, 1) := dk_get dT_32 7 rfl
theorem dL_1710 : decode code 1710 = .ok (.iconst 3, 1) := dk_get dT_32 8 rfl
theorem dL_1711 : decode code 1711 = .ok (.iadd, 1) := dk_get dT_32 9 rfl
theorem dL_1712 : decode code 1712 = .ok (.iaload, 1) := dk_get dT_32 10 rfl
theorem dL_1713 : decode code 1713 = .ok (.invokevirtual 251, 3) := dk_get dT_32 11 rfl
theorem dL_1716 : decode code 1716 = .ok (.aload_n 2, 1) := dk_get dT_32 12 rfl
theorem dL_1717 : decode code 1717 = .ok (.aload_n 0, 1) := dk_get dT_32 13 rfl
theorem dL_1718 : decode code 1718 = .ok (.iload_n 3, 1) := dk_get dT_32 14 rfl
theorem dL_1719 : decode code 1719 = .ok (.iconst 1, 1) := dk_get dT_32 15 rfl
theorem dL_1720 : decode code 1720 = .ok (.iadd, 1) := dk_get dT_32 16 rfl
theorem dL_1721 : decode code 1721 = .ok (.iaload, 1) := dk_get dT_32 17 rfl
theorem dL_1722 : decode code 1722 = .ok (.aload_n 0, 1) := dk_get dT_32 18 rfl
theorem dL_1723 : decode code 1723 = .ok (.iload_n 3, 1) := dk_get dT_32 19 rfl
theorem dL_1724 : decode code 1724 = .ok (.iconst 2, 1) := dk_get dT_32 20 rfl
theorem dL_1725 : decode code 1725 = .ok (.iadd, 1) := dk_get dT_32 21 rfl
theorem dL_1726 : decode code 1726 = .ok (.iaload, 1) := dk_get dT_32 22 rfl
theorem dL_1727 : decode code 1727 = .ok (.aload_n 0, 1) := dk_get dT_32 23 rfl
theorem dL_1728 : decode code 1728 = .ok (.iload_n 3, 1) := dk_get dT_32 24 rfl
theorem dL_1729 : decode code 1729 = .ok (.iconst 3, 1) := dk_get dT_32 25 rfl
theorem dL_1730 : decode code 1730 = .ok (.iadd, 1) := dk_get dT_32 26 rfl
theorem dL_1731 : decode code 1731 = .ok (.iaload, 1) := dk_get dT_32 27 rfl
theorem dL_1732 : decode code 1732 = .ok (.invokevirtual 254, 3) := dk_get dT_32 28 rfl
theorem dL_1735 : decode code 1735 = .ok (.if_icmp .eq 547, 3) := dk_get dT_32 29 rfl
theorem dL_1738 : decode code 1738 = .ok (.iconst 0, 1) := dk_get dT_32 30 rfl
theorem dL_1739 : decode code 1739 = .ok (.ireturn, 1) := dk_get dT_32 31 rfl
theorem dT_33 : dk_ok [(1740, .ok (.aload_n 1, 1)), (1741, .ok (.aload_n 0, 1)), (1742, .ok (.iload_n 3, 1)), (1743, .ok (.iconst 1, 1)), (1744, .ok (.iadd, 1)), (1745, .ok (.iaload, 1)), (1746, .ok (.invokevirtual 255, 3)), (1749, .ok (.aload_n 2, 1)), (1750, .ok (.aload_n 0, 1)), (1751, .ok (.iload_n 3, 1)), (1752, .ok (.iconst 1, 1)), (1753, .ok (.iadd, 1)), (1754, .ok (.iaload, 1)), (1755, .ok (.invokevirtual 258, 3)), (1758, .ok (.if_icmp .eq 524, 3)), (1761, .ok (.iconst 0, 1)), (1762, .ok (.ireturn, 1)), (1763, .ok (.aload_n 1, 1)), (1764, .ok (.aload_n 0, 1)), (1765, .ok (.iload_n 3, 1)), (1766, .ok (.iconst 1, 1)), (1767, .ok (.iadd, 1)), (1768, .ok (.iaload, 1)), (1769, .ok (.aload_n 0, 1)), (1770, .ok (.iload_n 3, 1)), (1771, .ok (.iconst 2, 1)), (1772, .ok (.iadd, 1)), (1773, .ok (.iaload, 1)), (1774, .ok (.invokevirtual 259, 3)), (1777, .ok (.aload_n 2, 1)), (1778, .ok (.aload_n 0, 1)), (1779, .ok (.iload_n 3, 1))] = true := by decide +kernel
theorem dL_1740 : decode code 1740 = .ok (.aload_n 1, 1) := dk_get dT_33 0 rfl
theorem dL_1741 : decode code 1741 = .ok (.aload_n 0, 1) := dk_get dT_33 1 rfl
theorem dL_1742 : decode code 1742 = .ok (.iload_n 3, 1) := dk_get dT_33 2 rfl
theorem dL_1743 : decode code 1743 = .ok (.iconst 1, 1) := dk_get dT_33 3 rfl
theorem dL_1744 : decode code 1744 = .ok (.iadd, 1) := dk_get dT_33 4 rfl
theorem dL_1745 : decode code 1745 = .ok (.iaload, 1) := dk_get dT_33 5 rfl
theorem dL_1746 : decode code 1746 = .ok (.invokevirtual 255, 3) := dk_get dT_33 6 rfl
theorem dL_1749 : decode code 1749 = .ok (.aload_n 2, 1) := dk_get dT_33 7 rfl
theorem dL_1750 : decode code 1750 = .ok (.aload_n 0, 1) := dk_get dT_33 8 rfl
theorem dL_1751 : decode code 1751 = .ok (.iload_n 3, 1) := dk_get dT_33 9 rfl
theorem dL_1752 : decode code 1752 = .ok (.iconst 1, 1) := dk_get dT_33 10 rfl
theorem dL_1753 : decode code 1753 = .ok (.iadd, 1) := dk_get dT_33 11 rfl
theorem dL_1754 : decode code 1754 = .ok (.iaload, 1) := dk_get dT_33 12 rfl
theorem dL_1755 : decode code 1755 = .ok (.invokevirtual 258, 3) := dk_get dT_33 13 rfl
theorem dL_1758 : decode code 1758 = .ok (.if_icmp .eq 524, 3) := dk_get dT_33 14 rfl
theorem dL_1761 : decode code 1761 = .ok (.iconst 0, 1) := dk_get dT_33 15 rfl
theorem dL_1762 : decode code 1762 = .ok (.ireturn, 1) := dk_get dT_33 16 rfl
theorem dL_1763 : decode code 1763 = .ok (.aload_n 1, 1) := dk_get dT_33 17 rfl
theorem dL_1764 : decode code 1764 = .ok (.aload_n 0, 1) := dk_get dT_33 18 rfl
theorem dL_1765 : decode code 1765 = .ok (.iload_n 3, 1) := dk_get dT_33 19 rfl
theorem dL_1766 : decode code 1766 = .ok (.iconst 1, 1) := dk_get dT_33 20 rfl
theorem dL_1767 : decode code 1767 = .ok (.iadd, 1) := dk_get dT_33 21 rfl
theorem dL_1768 : decode code 1768 = .ok (.iaload, 1) := dk_get dT_33 22 rfl
theorem dL_1769 : decode code 1769 = .ok (.aload_n 0, 1) := dk_get dT_33 23 rfl
theorem dL_1770 : decode code 1770 = .ok (.iload_n 3, 1) := dk_get dT_33 24 rfl
theorem dL_1771 : decode code 1771 = .ok (.iconst 2, 1) := dk_get dT_33 25 rfl
theorem dL_1772 : decode code 1772 = .ok (.iadd, 1) := dk_get dT_33 26 rfl
theorem dL_1773 : decode code 1773 = .ok (.iaload, 1) := dk_get dT_33 27 rfl
theorem dL_1774 : decode code 1774 = .ok (.invokevirtual 259, 3) := dk_get dT_33 28 rfl
theorem dL_1777 : decode code 1777 = .ok (.aload_n 2, 1) := dk_get dT_33 29 rfl
theorem dL_1778 : decode code 1778 = .ok (.aload_n 0, 1) := dk_get dT_33 30 rfl
theorem dL_1779 : decode code 1779 = .ok (.iload_n 3, 1) := dk_get dT_33 31 rfl
theorem dT_34 : dk_ok [(1780, .ok (.iconst 1, 1)), (1781, .ok (.iadd, 1)), (1782, .ok (.iaload, 1)), (1783, .ok (.aload_n 0, 1)), (1784, .ok (.iload_n 3, 1)), (1785, .ok (.iconst 2, 1)), (1786, .ok (.iadd, 1)), (1787, .ok (.iaload, 1)), (1788, .ok (.invokevirtual 262, 3)), (1791, .ok (.if_icmp .eq 491, 3)), (1794, .ok (.iconst 0, 1)), (1795, .ok (.ireturn, 1)), (1796, .ok (.aload_n 1, 1)), (1797, .ok (.aload_n 0, 1)), (1798, .ok (.iload_n 3, 1)), (1799, .ok (.iconst 1, 1)), (1800, .ok (.iadd, 1)), (1801, .ok (.iaload, 1)), (1802, .ok (.invokevirtual 263, 3)), (1805, .ok (.aload_n 2, 1)), (1806, .ok (.aload_n 0, 1)), (1807, .ok (.iload_n 3, 1)), (1808, .ok (.iconst 1, 1)), (1809, .ok (.iadd, 1)), (1810, .ok (.iaload, 1)), (1811, .ok (.invokevirtual 266, 3)), (1814, .ok (.if_icmp .eq 468, 3)), (1817, .ok (.iconst 0, 1)), (1818, .ok (.ireturn, 1)), (1819, .ok (.aload_n 1, 1)), (1820, .ok (.aload_n 0, 1)), (1821, .ok (.iload_n 3, 1))] = true := by decide +kernel
theorem dL_1780 : decode code 1780 = .ok (.iconst 1, 1) := dk_get dT_34 0 rfl
theorem dL_1781 : decode code 1781 = .ok (.iadd, 1) := dk_get dT_34 1 rfl
theorem dL_1782 : decode code 1782 = .ok (.iaload, 1) := dk_get dT_34 2 rfl
theorem dL_1783 : decode code 1783 = .ok (.aload_n 0, 1) := dk_get dT_34 3 rfl
theorem dL_1784 : decode code 1784 = .ok (.iload_n 3, 1) := dk_get dT_34 4 rfl
theorem dL_1785 : decode code 1785 = .ok (.iconst 2, 1) := dk_get dT_34 5 rfl
theorem dL_1786 : decode code 1786 = .ok (.iadd, 1) := dk_get dT_34 6 rfl
theorem dL_1787 : decode code 1787 = .ok (.iaload, 1) := dk_get dT_34 7 rfl
theorem dL_1788 : decode code 1788 = .ok (.invokevirtual 262, 3) := dk_get dT_34 8 rfl
theorem dL_1791 : decode code 1791 = .ok (.if_icmp .eq 491, 3) := dk_get dT_34 9 rfl
theorem dL_1794 : decode code 1794 = .ok (.iconst 0, 1) := dk_get dT_34 10 rfl
theorem dL_1795 : decode code 1795 = .ok (.ireturn, 1) := dk_get dT_34 11 rfl
theorem dL_1796 : decode code 1796 = .ok (.aload_n 1, 1) := dk_get dT_34 12 rfl
theorem dL_1797 : decode code 1797 = .ok (.aload_n 0, 1) := dk_get dT_34 13 rfl
theorem dL_1798 : decode code 1798 = .ok (.iload_n 3, 1) := dk_get dT_34 14 rfl
theorem dL_1799 : decode code 1799 = .ok (.iconst 1, 1) := dk_get dT_34 15 rfl
theorem dL_1800 : decode code 1800 = .ok (.iadd, 1) := dk_get dT_34 16 rfl
theorem dL_1801 : decode code 1801 = .ok (.iaload, 1) := dk_get dT_34 17 rfl
theorem dL_1802 : decode code 1802 = .ok (.invokevirtual 263, 3) := dk_get dT_34 18 rfl
theorem dL_1805 : decode code 1805 = .ok (.aload_n 2, 1) := dk_get dT_34 19 rfl
theorem dL_1806 : decode code 1806 = .ok (.aload_n 0, 1) := dk_get dT_34 20 rfl
theorem dL_1807 : decode code 1807 = .ok (.iload_n 3, 1) := dk_get dT_34 21 rfl
theorem dL_1808 : decode code 1808 = .ok (.iconst 1, 1) := dk_get dT_34 22 rfl
theorem dL_1809 : decode code 1809 = .ok (.iadd, 1) := dk_get dT_34 23 rfl
theorem dL_1810 : decode code 1810 = .ok (.iaload, 1) := dk_get dT_34 24 rfl
theorem dL_1811 : decode code 1811 = .ok (.invokevirtual 266, 3) := dk_get dT_34 25 rfl
theorem dL_1814 : decode code 1814 = .ok (.if_icmp .eq 468, 3) := dk_get dT_34 26 rfl
theorem dL_1817 : decode code 1817 = .ok (.iconst 0, 1) := dk_get dT_34 27 rfl
theorem dL_1818 : decode code 1818 = .ok (.ireturn, 1) := dk_get dT_34 28 rfl
theorem dL_1819 : decode code 1819 = .ok (.aload_n 1, 1) := dk_get dT_34 29 rfl
theorem dL_1820 : decode code 1820 = .ok (.aload_n 0, 1) := dk_get dT_34 30 rfl
theorem dL_1821 : decode code 1821 = .ok (.iload_n 3, 1) := dk_get dT_34 31 rfl
theorem dT_35 : dk_ok [(1822, .ok (.iconst 1, 1)), (1823, .ok (.iadd, 1)), (1824, .ok (.iaload, 1)), (1825, .ok (.invokevirtual 267, 3)), (1828, .ok (.aload_n 2, 1)), (1829, .ok (.aload_n 0, 1)), (1830, .ok (.iload_n 3, 1)), (1831, .ok (.iconst 1, 1)), (1832, .ok (.iadd, 1)), (1833, .ok (.iaload, 1)), (1834, .ok (.invokevirtual 271, 3)), (1837, .ok (.lcmp, 1)), (1838, .ok (.ifCond .eq 444, 3)), (1841, .ok (.iconst 0, 1)), (1842, .ok (.ireturn, 1)), (1843, .ok (.aload_n 1, 1)), (1844, .ok (.aload_n 0, 1)), (1845, .ok (.iload_n 3, 1)), (1846, .ok (.iconst 1, 1)), (1847, .ok (.iadd, 1)), (1848, .ok (.iaload, 1)), (1849, .ok (.aload_n 0, 1)), (1850, .ok (.iload_n 3, 1)), (1851, .ok (.iconst 2, 1)), (1852, .ok (.iadd, 1)), (1853, .ok (.iaload, 1)), (1854, .ok (.invokevirtual 272, 3)), (1857, .ok (.aload_n 2, 1)), (1858, .ok (.aload_n 0, 1)), (1859, .ok (.iload_n 3, 1)), (1860, .ok (.iconst 1, 1)), (1861, .ok (.iadd, 1))] = true := by decide +kernel
theorem dL_1822 : decode code 1822 = .ok (.iconst 1, 1) := dk_get dT_35 0 rfl
theorem dL_1823 : decode code 1823 = .ok (.iadd, 1) := dk_get dT_35 1 rfl
theorem dL_1824 : decode code 1824 = .ok (.iaload, 1) := dk_get dT_35 2 rfl
theorem dL_1825 : decode code 1825 = .ok (.invokevirtual 267, 3) := dk_get dT_35 3 rfl
theorem dL_1828 : decode code 1828 = .ok (.aload_n 2, 1) := dk_get dT_35 4 rfl
theorem dL_1829 : decode code 1829 = .ok (.aload_n 0, 1) := dk_get dT_35 5 rfl
theorem dL_1830 : decode code 1830 = .ok (.iload_n 3, 1) := dk_get dT_35 6 rfl
theorem dL_1831 : decode code 1831 = .ok (.iconst 1, 1) := dk_get dT_35 7 rfl
theorem dL_1832 : decode code 1832 = .ok (.iadd, 1) := dk_get dT_35 8 rfl
theorem dL_1833 : decode code 1833 = .ok (.iaload, 1) := dk_get dT_35 9 rfl
theorem dL_1834 : decode code 1834 = .ok (.invokevirtual 271, 3) := dk_get dT_35 10 rfl
theorem dL_1837 : decode code 1837 = .ok (.lcmp, 1) := dk_get dT_35 11 rfl
theorem dL_1838 : decode code 1838 = .ok (.ifCond .eq 444, 3) := dk_get dT_35 12 rfl
theorem dL_1841 : decode code 1841 = .ok (.iconst 0, 1) := dk_get dT_35 13 rfl
theorem dL_1842 : decode code 1842 = .ok (.ireturn, 1) := dk_get dT_35 14 rfl
theorem dL_1843 : decode code 1843 = .ok (.aload_n 1, 1) := dk_get dT_35 15 rfl
theorem dL_1844 : decode code 1844 = .ok (.aload_n 0, 1) := dk_get dT_35 16 rfl
theorem dL_1845 : decode code 1845 = .ok (.iload_n 3, 1) := dk_get dT_35 17 rfl
theorem dL_1846 : decode code 1846 = .ok (.iconst 1, 1) := dk_get dT_35 18 rfl
theorem dL_1847 : decode code 1847 = .ok (.iadd, 1) := dk_get dT_35 19 rfl
theorem dL_1848 : decode code 1848 = .ok (.iaload, 1) := dk_get dT_35 20 rfl
theorem dL_1849 : decode code 1849 = .ok (.aload_n 0, 1) := dk_get dT_35 21 rfl
theorem dL_1850 : decode code 1850 = .ok (.iload_n 3, 1) := dk_get dT_35 22 rfl
theorem dL_1851 : decode code 1851 = .ok (.iconst 2, 1) := dk_get dT_35 23 rfl
theorem dL_1852 : decode code 1852 = .ok (.iadd, 1) := dk_get dT_35 24 rfl
theorem dL_1853 : decode code 1853 = .ok (.iaload, 1) := dk_get dT_35 25 rfl
theorem dL_1854 : decode code 1854 = .ok (.invokevirtual 272, 3) := dk_get dT_35 26 rfl
theorem dL_1857 : decode code 1857 = .ok (.aload_n 2, 1) := dk_get dT_35 27 rfl
theorem dL_1858 : decode code 1858 = .ok (.aload_n 0, 1) := dk_get dT_35 28 rfl
theorem dL_1859 : decode code 1859 = .ok (.iload_n 3, 1) := dk_get dT_35 29 rfl
theorem dL_1860 : decode code 1860 = .ok (.iconst 1, 1) := dk_get dT_35 30 rfl
theorem dL_1861 : decode code 1861 = .ok (.iadd, 1) := dk_get dT_35 31 rfl
theorem dT_36 : dk_ok [(1862, .ok (.iaload, 1)), (1863, .ok (.aload_n 0, 1)), (1864, .ok (.iload_n 3, 1)), (1865, .ok (.iconst 2, 1)), (1866, .ok (.iadd, 1)), (1867, .ok (.iaload, 1)), (1868, .ok (.invokevirtual 275, 3)), (1871, .ok (.if_icmp .eq 411, 3)), (1874, .ok (.iconst 0, 1)), (1875, .ok (.ireturn, 1)), (1876, .ok (.aload_n 1, 1)), (1877, .ok (.aload_n 0, 1)), (1878, .ok (.iload_n 3, 1)), (1879, .ok (.iconst 1, 1)), (1880, .ok (.iadd, 1)), (1881, .ok (.iaload, 1)), (1882, .ok (.invokevirtual 276, 3)), (1885, .ok (.aload_n 2, 1)), (1886, .ok (.aload_n 0, 1)), (1887, .ok (.iload_n 3, 1)), (1888, .ok (.iconst 1, 1)), (1889, .ok (.iadd, 1)), (1890, .ok (.iaload, 1)), (1891, .ok (.invokevirtual 279, 3)), (1894, .ok (.if_icmp .eq 388, 3)), (1897, .ok (.iconst 0, 1)), (1898, .ok (.ireturn, 1)), (1899, .ok (.aload_n 1, 1)), (1900, .ok (.invokevirtual 280, 3)), (1903, .ok (.aload_n 2, 1)), (1904, .ok (.invokevirtual 283, 3)), (1907, .ok (.if_icmp .eq 375, 3))] = true := by decide +kernel
theorem dL_1862 : decode code 1862 = .ok (.iaload, 1) := dk_get dT_36 0 rfl
theorem dL_1863 : decode code 1863 = .ok (.aload_n 0, 1) := dk_get dT_36 1 rfl
theorem dL_1864 : decode code 1864 = .ok (.iload_n 3, 1) := dk_get dT_36 2 rfl
theorem dL_1865 : decode code 1865 = .ok (.iconst 2, 1) := dk_get dT_36 3 rfl
theorem dL_1866 : decode code 1866 = .ok (.iadd, 1) := dk_get dT_36 4 rfl
theorem dL_1867 : decode code 1867 = .ok (.iaload, 1) := dk_get dT_36 5 rfl
theorem dL_1868 : decode code 1868 = .ok (.invokevirtual 275, 3) := dk_get dT_36 6 rfl
theorem dL_1871 : decode code 1871 = .ok (.if_icmp .eq 411, 3) := dk_get dT_36 7 rfl
theorem dL_1874 : decode code 1874 = .ok (.iconst 0, 1) := dk_get dT_36 8 rfl
theorem dL_1875 : decode code 1875 = .ok (.ireturn, 1) := dk_get dT_36 9 rfl
theorem dL_1876 : decode code 1876 = .ok (.aload_n 1, 1) := dk_get dT_36 10 rfl
theorem dL_1877 : decode code 1877 = .ok (.aload_n 0, 1) := dk_get dT_36 11 rfl
theorem dL_1878 : decode code 1878 = .ok (.iload_n 3, 1) := dk_get dT_36 12 rfl
theorem dL_1879 : decode code 1879 = .ok (.iconst 1, 1) := dk_get dT_36 13 rfl
theorem dL_1880 : decode code 1880 = .ok (.iadd, 1) := dk_get dT_36 14 rfl
theorem dL_1881 : decode code 1881 = .ok (.iaload, 1) := dk_get dT_36 15 rfl
theorem dL_1882 : decode code 1882 = .ok (.invokevirtual 276, 3) := dk_get dT_36 16 rfl
theorem dL_1885 : decode code 1885 = .ok (.aload_n 2, 1) := dk_get dT_36 17 rfl
theorem dL_1886 : decode code 1886 = .ok (.aload_n 0, 1) := dk_get dT_36 18 rfl
theorem dL_1887 : decode code 1887 = .ok (.iload_n 3, 1) := dk_get dT_36 19 rfl
theorem dL_1888 : decode code 1888 = .ok (.iconst 1, 1) := dk_get dT_36 20 rfl
theorem dL_1889 : decode code 1889 = .ok (.iadd, 1) := dk_get dT_36 21 rfl
theorem dL_1890 : decode code 1890 = .ok (.iaload, 1) := dk_get dT_36 22 rfl
theorem dL_1891 : decode code 1891 = .ok (.invokevirtual 279, 3) := dk_get dT_36 23 rfl
theorem dL_1894 : decode code 1894 = .ok (.if_icmp .eq 388, 3) := dk_get dT_36 24 rfl
theorem dL_1897 : decode code 1897 = .ok (.iconst 0, 1) := dk_get dT_36 25 rfl
theorem dL_1898 : decode code 1898 = .ok (.ireturn, 1) := dk_get dT_36 26 rfl
theorem dL_1899 : decode code 1899 = .ok (.aload_n 1, 1) := dk_get dT_36 27 rfl
theorem dL_1900 : decode code 1900 = .ok (.invokevirtual 280, 3) := dk_get dT_36 28 rfl
theorem dL_1903 : decode code 1903 = .ok (.aload_n 2, 1) := dk_get dT_36 29 rfl
theorem dL_1904 : decode code 1904 = .ok (.invokevirtual 283, 3) := dk_get dT_36 30 rfl
theorem dL_1907 : decode code 1907 = .ok (.if_icmp .eq 375, 3) := dk_get dT_36 31 rfl
theorem dT_37 : dk_ok [(1910, .ok (.iconst 0, 1)), (1911, .ok (.ireturn, 1)), (1912, .ok (.aload_n 1, 1)), (1913, .ok (.invokevirtual 284, 3)), (1916, .ok (.aload_n 2, 1)), (1917, .ok (.invokevirtual 287, 3)), (1920, .ok (.if_icmp .eq 362, 3)), (1923, .ok (.iconst 0, 1)), (1924, .ok (.ireturn, 1)), (1925, .ok (.aload_n 1, 1)), (1926, .ok (.aload_n 0, 1)), (1927, .ok (.iload_n 3, 1)), (1928, .ok (.iconst 1, 1)), (1929, .ok (.iadd, 1)), (1930, .ok (.iaload, 1)), (1931, .ok (.aload_n 0, 1)), (1932, .ok (.iload_n 3, 1)), (1933, .ok (.iconst 2, 1)), (1934, .ok (.iadd, 1)), (1935, .ok (.iaload, 1)), (1936, .ok (.invokevirtual 288, 3)), (1939, .ok (.aload_n 2, 1)), (1940, .ok (.aload_n 0, 1)), (1941, .ok (.iload_n 3, 1)), (1942, .ok (.iconst 1, 1)), (1943, .ok (.iadd, 1)), (1944, .ok (.iaload, 1)), (1945, .ok (.aload_n 0, 1)), (1946, .ok (.iload_n 3, 1)), (1947, .ok (.iconst 2, 1)), (1948, .ok (.iadd, 1)), (1949, .ok (.iaload, 1))] = true := by decide +kernel
theorem dL_1910 : decode code 1910 = .ok (.iconst 0, 1) := dk_get dT_37 0 rfl
theorem dL_1911 : decode code 1911 = .ok (.ireturn, 1) := dk_get dT_37 1 rfl
theorem dL_1912 : decode code 1912 = .ok (.aload_n 1, 1) := dk_get dT_37 2 rfl
theorem dL_1913 : decode code 1913 = .ok (.invokevirtual 284, 3) := dk_get dT_37 3 rfl
theorem dL_1916 : decode code 1916 = .ok (.aload_n 2, 1) := dk_get dT_37 4 rfl
theorem dL_1917 : decode code 1917 = .ok (.invokevirtual 287, 3) := dk_get dT_37 5 rfl
theorem dL_1920 : decode code 1920 = .ok (.if_icmp .eq 362, 3) := dk_get dT_37 6 rfl
theorem dL_1923 : decode code 1923 = .ok (.iconst 0, 1) := dk_get dT_37 7 rfl
theorem dL_1924 : decode code 1924 = .ok (.ireturn, 1) := dk_get dT_37 8 rfl
theorem dL_1925 : decode code 1925 = .ok (.aload_n 1, 1) := dk_get dT_37 9 rfl
theorem dL_1926 : decode code 1926 = .ok (.aload_n 0, 1) := dk_get dT_37 10 rfl
theorem dL_1927 : decode code 1927 = .ok (.iload_n 3, 1) := dk_get dT_37 11 rfl
theorem dL_1928 : decode code 1928 = .ok (.iconst 1, 1) := dk_get dT_37 12 rfl
theorem dL_1929 : decode code 1929 = .ok (.iadd, 1) := dk_get dT_37 13 rfl
theorem dL_1930 : decode code 1930 = .ok (.iaload, 1) := dk_get dT_37 14 rfl
theorem dL_1931 : decode code 1931 = .ok (.aload_n 0, 1) := dk_get dT_37 15 rfl
theorem dL_1932 : decode code 1932 = .ok (.iload_n 3, 1) := dk_get dT_37 16 rfl
theorem dL_1933 : decode code 1933 = .ok (.iconst 2, 1) := dk_get dT_37 17 rfl
theorem dL_1934 : decode code 1934 = .ok (.iadd, 1) := dk_get dT_37 18 rfl
theorem dL_1935 : decode code 1935 = .ok (.iaload, 1) := dk_get dT_37 19 rfl
theorem dL_1936 : decode code 1936 = .ok (.invokevirtual 288, 3) := dk_get dT_37 20 rfl
theorem dL_1939 : decode code 1939 = .ok (.aload_n 2, 1) := dk_get dT_37 21 rfl
theorem dL_1940 : decode code 1940 = .ok (.aload_n 0, 1) := dk_get dT_37 22 rfl
theorem dL_1941 : decode code 1941 = .ok (.iload_n 3, 1) := dk_get dT_37 23 rfl
theorem dL_1942 : decode code 1942 = .ok (.iconst 1, 1) := dk_get dT_37 24 rfl
theorem dL_1943 : decode code 1943 = .ok (.iadd, 1) := dk_get dT_37 25 rfl
theorem dL_1944 : decode code 1944 = .ok (.iaload, 1) := dk_get dT_37 26 rfl
theorem dL_1945 : decode code 1945 = .ok (.aload_n 0, 1) := dk_get dT_37 27 rfl
theorem dL_1946 : decode code 1946 = .ok (.iload_n 3, 1) := dk_get dT_37 28 rfl
theorem dL_1947 : decode code 1947 = .ok (.iconst 2, 1) := dk_get dT_37 29 rfl
theorem dL_1948 : decode code 1948 = .ok (.iadd, 1) := dk_get dT_37 30 rfl
theorem dL_1949 : decode code 1949 = .ok (.iaload, 1) := dk_get dT_37 31 rfl
theorem dT_38 : dk_ok [(1950, .ok (.invokevirtual 291, 3)), (1953, .ok (.if_icmp .eq 329, 3)), (1956, .ok (.iconst 0, 1)), (1957, .ok (.ireturn, 1)), (1958, .ok (.aload_n 1, 1)), (1959, .ok (.aload_n 0, 1)), (1960, .ok (.iload_n 3, 1)), (1961, .ok (.iconst 1, 1)), (1962, .ok (.iadd, 1)), (1963, .ok (.iaload, 1)), (1964, .ok (.aload_n 0, 1)), (1965, .ok (.iload_n 3, 1)), (1966, .ok (.iconst 2, 1)), (1967, .ok (.iadd, 1)), (1968, .ok (.iaload, 1)), (1969, .ok (.aload_n 0, 1)), (1970, .ok (.iload_n 3, 1)), (1971, .ok (.iconst 3, 1)), (1972, .ok (.iadd, 1)), (1973, .ok (.iaload, 1)), (1974, .ok (.invokevirtual 292, 3)), (1977, .ok (.aload_n 2, 1)), (1978, .ok (.aload_n 0, 1)), (1979, .ok (.iload_n 3, 1)), (1980, .ok (.iconst 1, 1)), (1981, .ok (.iadd, 1)), (1982, .ok (.iaload, 1)), (1983, .ok (.aload_n 0, 1)), (1984, .ok (.iload_n 3, 1)), (1985, .ok (.iconst 2, 1)), (1986, .ok (.iadd, 1)), (1987, .ok (.iaload, 1))] = true := by decide +kernel
theorem dL_1950 : decode code 1950 = .ok (.invokevirtual 291, 3) := dk_get dT_38 0 rfl
theorem dL_1953 : decode code 1953 = .ok (.if_icmp .eq 329, 3) := dk_get dT_38 1 rfl
theorem dL_1956 : decode code 1956 = .ok (.iconst 0, 1) := dk_get dT_38 2 rfl
theorem dL_1957 : decode code 1957 = .ok (.ireturn, 1) := dk_get dT_38 3 rfl
theorem dL_1958 : decode code 1958 = .ok (.aload_n 1, 1) := dk_get dT_38 4 rfl
theorem dL_1959 : decode code 1959 = .ok (.aload_n 0, 1) := dk_get dT_38 5 rfl
theorem dL_1960 : decode code 1960 = .ok (.iload_n 3, 1) := dk_get dT_38 6 rfl
theorem dL_1961 : decode code 1961 = .ok (.iconst 1, 1) := dk_get dT_38 7 rfl
theorem dL_1962 : decode code 1962 = .ok (.iadd, 1) := dk_get dT_38 8 rfl
theorem dL_1963 : decode code 1963 = .ok (.iaload, 1) := dk_get dT_38 9 rfl
theorem dL_1964 : decode code 1964 = .ok (.aload_n 0, 1) := dk_get dT_38 10 rfl
theorem dL_1965 : decode code 1965 = .ok (.iload_n 3, 1) := dk_get dT_38 11 rfl
theorem dL_1966 : decode code 1966 = .ok (.iconst 2, 1) := dk_get dT_38 12 rfl
theorem dL_1967 : decode code 1967 = .ok (.iadd, 1) := dk_get dT_38 13 rfl
theorem dL_1968 : decode code 1968 = .ok (.iaload, 1) := dk_get dT_38 14 rfl
theorem dL_1969 : decode code 1969 = .ok (.aload_n 0, 1) := dk_get dT_38 15 rfl
theorem dL_1970 : decode code 1970 = .ok (.iload_n 3, 1) := dk_get dT_38 16 rfl
theorem dL_1971 : decode code 1971 = .ok (.iconst 3, 1) := dk_get dT_38 17 rfl
theorem dL_1972 : decode code 1972 = .ok (.iadd, 1) := dk_get dT_38 18 rfl
theorem dL_1973 : decode code 1973 = .ok (.iaload, 1) := dk_get dT_38 19 rfl
theorem dL_1974 : decode code 1974 = .ok (.invokevirtual 292, 3) := dk_get dT_38 20 rfl
theorem dL_1977 : decode code 1977 = .ok (.aload_n 2, 1) := dk_get dT_38 21 rfl
theorem dL_1978 : decode code 1978 = .ok (.aload_n 0, 1) := dk_get dT_38 22 rfl
theorem dL_1979 : decode code 1979 = .ok (.iload_n 3, 1) := dk_get dT_38 23 rfl
theorem dL_1980 : decode code 1980 = .ok (.iconst 1, 1) := dk_get dT_38 24 rfl
theorem dL_1981 : decode code 1981 = .ok (.iadd, 1) := dk_get dT_38 25 rfl
theorem dL_1982 : decode code 1982 = .ok (.iaload, 1) := dk_get dT_38 26 rfl
theorem dL_1983 : decode code 1983 = .ok (.aload_n 0, 1) := dk_get dT_38 27 rfl
theorem dL_1984 : decode code 1984 = .ok (.iload_n 3, 1) := dk_get dT_38 28 rfl
theorem dL_1985 : decode code 1985 = .ok (.iconst 2, 1) := dk_get dT_38 29 rfl
theorem dL_1986 : decode code 1986 = .ok (.iadd, 1) := dk_get dT_38 30 rfl
theorem dL_1987 : decode code 1987 = .ok (.iaload, 1) := dk_get dT_38 31 rfl
theorem dT_39 : dk_ok [(1988, .ok (.aload_n 0, 1)), (1989, .ok (.iload_n 3, 1)), (1990, .ok (.iconst 3, 1)), (1991, .ok (.iadd, 1)), (1992, .ok (.iaload, 1)), (1993, .ok (.invokevirtual 295, 3)), (1996, .ok (.if_icmp .eq 286, 3)), (1999, .ok (.iconst 0, 1)), (2000, .ok (.ireturn, 1)), (2001, .ok (.aload_n 1, 1)), (2002, .ok (.aload_n 0, 1)), (2003, .ok (.iload_n 3, 1)), (2004, .ok (.iconst 1, 1)), (2005, .ok (.iadd, 1)), (2006, .ok (.iaload, 1)), (2007, .ok (.aload_n 0, 1)), (2008, .ok (.iload_n 3, 1)), (2009, .ok (.iconst 2, 1)), (2010, .ok (.iadd, 1)), (2011, .ok (.iaload, 1)), (2012, .ok (.invokevirtual 296, 3)), (2015, .ok (.aload_n 2, 1)), (2016, .ok (.aload_n 0, 1)), (2017, .ok (.iload_n 3, 1)), (2018, .ok (.iconst 1, 1)), (2019, .ok (.iadd, 1)), (2020, .ok (.iaload, 1)), (2021, .ok (.aload_n 0, 1)), (2022, .ok (.iload_n 3, 1)), (2023, .ok (.iconst 2, 1)), (2024, .ok (.iadd, 1)), (2025, .ok (.iaload, 1))] = true := by decide +kernel
theorem dL_1988 : decode code 1988 = .ok (.aload_n 0, 1) := dk_get dT_39 0 rfl
theorem dL_1989 : decode code 1989 = .ok (.iload_n 3, 1) := dk_get dT_39 1 rfl
theorem dL_1990 : decode code 1990 = .ok (.iconst 3, 1) := dk_get dT_39 2 rfl
theorem dL_1991 : decode code 1991 = .ok (.iadd, 1) := dk_get dT_39 3 rfl
theorem dL_1992 : decode code 1992 = .ok (.iaload, 1) := dk_get dT_39 4 rfl
theorem dL_1993 : decode code 1993 = .ok (.invokevirtual 295, 3) := dk_get dT_39 5 rfl
theorem dL_1996 : decode code 1996 = .ok (.if_icmp .eq 286, 3) := dk_get dT_39 6 rfl
theorem dL_1999 : decode code 1999 = .ok (.iconst 0, 1) := dk_get dT_39 7 rfl
theorem dL_2000 : decode code 2000 = .ok (.ireturn, 1) := dk_get dT_39 8 rfl
theorem dL_2001 : decode code 2001 = .ok (.aload_n 1, 1) := dk_get dT_39 9 rfl
theorem dL_2002 : decode code 2002 = .ok (.aload_n 0, 1) := dk_get dT_39 10 rfl
theorem dL_2003 : decode code 2003 = .ok (.iload_n 3, 1) := dk_get dT_39 11 rfl
theorem dL_2004 : decode code 2004 = .ok (.iconst 1, 1) := dk_get dT_39 12 rfl
theorem dL_2005 : decode code 2005 = .ok (.iadd, 1) := dk_get dT_39 13 rfl
theorem dL_2006 : decode code 2006 = .ok (.iaload, 1) := dk_get dT_39 14 rfl
theorem dL_2007 : decode code 2007 = .ok (.aload_n 0, 1) := dk_get dT_39 15 rfl
theorem dL_2008 : decode code 2008 = .ok (.iload_n 3, 1) := dk_get dT_39 16 rfl
theorem dL_2009 : decode code 2009 = .ok (.iconst 2, 1) := dk_get dT_39 17 rfl
theorem dL_2010 : decode code 2010 = .ok (.iadd, 1) := dk_get dT_39 18 rfl
theorem dL_2011 : decode code 2011 = .ok (.iaload, 1) := dk_get dT_39 19 rfl
theorem dL_2012 : decode code 2012 = .ok (.invokevirtual 296, 3) := dk_get dT_39 20 rfl
theorem dL_2015 : decode code 2015 = .ok (.aload_n 2, 1) := dk_get dT_39 21 rfl
theorem dL_2016 : decode code 2016 = .ok (.aload_n 0, 1) := dk_get dT_39 22 rfl
theorem dL_2017 : decode code 2017 = .ok (.iload_n 3, 1) := dk_get dT_39 23 rfl
theorem dL_2018 : decode code 2018 = .ok (.iconst 1, 1) := dk_get dT_39 24 rfl
theorem dL_2019 : decode code 2019 = .ok (.iadd, 1) := dk_get dT_39 25 rfl
theorem dL_2020 : decode code 2020 = .ok (.iaload, 1) := dk_get dT_39 26 rfl
theorem dL_2021 : decode code 2021 = .ok (.aload_n 0, 1) := dk_get dT_39 27 rfl
theorem dL_2022 : decode code 2022 = .ok (.iload_n 3, 1) := dk_get dT_39 28 rfl
theorem dL_2023 : decode code 2023 = .ok (.iconst 2, 1) := dk_get dT_39 29 rfl
theorem dL_2024 : decode code 2024 = .ok (.iadd, 1) := dk_get dT_39 30 rfl
theorem dL_2025 : decode code 2025 = .ok (.iaload, 1) := dk_get dT_39 31 rfl
theorem dT_40 : dk_ok [(2026, .ok (.invokevirtual 299, 3)), (2029, .ok (.if_icmp .eq 253, 3)), (2032, .ok (.iconst 0, 1)), (2033, .ok (.ireturn, 1)), (2034, .ok (.aload_n 1, 1)), (2035, .ok (.aload_n 0, 1)), (2036, .ok (.iload_n 3, 1)), (2037, .ok (.iconst 1, 1)), (2038, .ok (.iadd, 1)), (2039, .ok (.iaload, 1)), (2040, .ok (.invokevirtual 300, 3)), (2043, .ok (.aload_n 2, 1)), (2044, .ok (.aload_n 0, 1)), (2045, .ok (.iload_n 3, 1)), (2046, .ok (.iconst 1, 1)), (2047, .ok (.iadd, 1)), (2048, .ok (.iaload, 1)), (2049, .ok (.invokevirtual 303, 3)), (2052, .ok (.if_icmp .eq 230, 3)), (2055, .ok (.iconst 0, 1)), (2056, .ok (.ireturn, 1)), (2057, .ok (.aload_n 1, 1)), (2058, .ok (.aload_n 0, 1)), (2059, .ok (.iload_n 3, 1)), (2060, .ok (.iconst 1, 1)), (2061, .ok (.iadd, 1)), (2062, .ok (.iaload, 1)), (2063, .ok (.invokevirtual 304, 3)), (2066, .ok (.aload_n 2, 1)), (2067, .ok (.aload_n 0, 1)), (2068, .ok (.iload_n 3, 1)), (2069, .ok (.iconst 1, 1))] = true := by decide +kernel
theorem dL_2026 : decode code 2026 = .ok (.invokevirtual 299, 3) := dk_get dT_40 0 rfl
theorem dL_2029 : decode code 2029 = .ok (.if_icmp .eq 253, 3) := dk_get dT_40 1 rfl
theorem dL_2032 : decode code 2032 = .ok (.iconst 0, 1) := dk_get dT_40 2 rfl
theorem dL_2033 : decode code 2033 = .ok (.ireturn, 1) := dk_get dT_40 3 rfl
theorem dL_2034 : decode code 2034 = .ok (.aload_n 1, 1) := dk_get dT_40 4 rfl
theorem dL_2035 : decode code 2035 = .ok (.aload_n 0, 1) := dk_get dT_40 5 rfl
theorem dL_2036 : decode code 2036 = .ok (.iload_n 3, 1) := dk_get dT_40 6 rfl
theorem dL_2037 : decode code 2037 = .ok (.iconst 1, 1) := dk_get dT_40 7 rfl
theorem dL_2038 : decode code 2038 = .ok (.iadd, 1) := dk_get dT_40 8 rfl
theorem dL_2039 : decode code 2039 = .ok (.iaload, 1) := dk_get dT_40 9 rfl
theorem dL_2040 : decode code 2040 = .ok (.invokevirtual 300, 3) := dk_get dT_40 10 rfl
theorem dL_2043 : decode code 2043 = .ok (.aload_n 2, 1) := dk_get dT_40 11 rfl
theorem dL_2044 : decode code 2044 = .ok (.aload_n 0, 1) := dk_get dT_40 12 rfl
theorem dL_2045 : decode code 2045 = .ok (.iload_n 3, 1) := dk_get dT_40 13 rfl
theorem dL_2046 : decode code 2046 = .ok (.iconst 1, 1) := dk_get dT_40 14 rfl
theorem dL_2047 : decode code 2047 = .ok (.iadd, 1) := dk_get dT_40 15 rfl
theorem dL_2048 : decode code 2048 = .ok (.iaload, 1) := dk_get dT_40 16 rfl
theorem dL_2049 : decode code 2049 = .ok (.invokevirtual 303, 3) := dk_get dT_40 17 rfl
theorem dL_2052 : decode code 2052 = .ok (.if_icmp .eq 230, 3) := dk_get dT_40 18 rfl
theorem dL_2055 : decode code 2055 = .ok (.iconst 0, 1) := dk_get dT_40 19 rfl
theorem dL_2056 : decode code 2056 = .ok (.ireturn, 1) := dk_get dT_40 20 rfl
theorem dL_2057 : decode code 2057 = .ok (.aload_n 1, 1) := dk_get dT_40 21 rfl
theorem dL_2058 : decode code 2058 = .ok (.aload_n 0, 1) := dk_get dT_40 22 rfl
theorem dL_2059 : decode code 2059 = .ok (.iload_n 3, 1) := dk_get dT_40 23 rfl
theorem dL_2060 : decode code 2060 = .ok (.iconst 1, 1) := dk_get dT_40 24 rfl
theorem dL_2061 : decode code 2061 = .ok (.iadd, 1) := dk_get dT_40 25 rfl
theorem dL_2062 : decode code 2062 = .ok (.iaload, 1) := dk_get dT_40 26 rfl
theorem dL_2063 : decode code 2063 = .ok (.invokevirtual 304, 3) := dk_get dT_40 27 rfl
theorem dL_2066 : decode code 2066 = .ok (.aload_n 2, 1) := dk_get dT_40 28 rfl
theorem dL_2067 : decode code 2067 = .ok (.aload_n 0, 1) := dk_get dT_40 29 rfl
theorem dL_2068 : decode code 2068 = .ok (.iload_n 3, 1) := dk_get dT_40 30 rfl
theorem dL_2069 : decode code 2069 = .ok (.iconst 1, 1) := dk_get dT_40 31 rfl
theorem dT_41 : dk_ok [(2070, .ok (.iadd, 1)), (2071, .ok (.iaload, 1)), (2072, .ok (.invokevirtual 307, 3)), (2075, .ok (.if_icmp .eq 207, 3)), (2078, .ok (.iconst 0, 1)), (2079, .ok (.ireturn, 1)), (2080, .ok (.aload_n 1, 1)), (2081, .ok (.aload_n 0, 1)), (2082, .ok (.iload_n 3, 1)), (2083, .ok (.iconst 1, 1)), (2084, .ok (.iadd, 1)), (2085, .ok (.iaload, 1)), (2086, .ok (.invokevirtual 308, 3)), (2089, .ok (.aload_n 2, 1)), (2090, .ok (.aload_n 0, 1)), (2091, .ok (.iload_n 3, 1)), (2092, .ok (.iconst 1, 1)), (2093, .ok (.iadd, 1)), (2094, .ok (.iaload, 1)), (2095, .ok (.invokevirtual 311, 3)), (2098, .ok (.if_icmp .eq 184, 3)), (2101, .ok (.iconst 0, 1)), (2102, .ok (.ireturn, 1)), (2103, .ok (.aload_n 1, 1)), (2104, .ok (.aload_n 0, 1)), (2105, .ok (.iload_n 3, 1)), (2106, .ok (.iconst 1, 1)), (2107, .ok (.iadd, 1)), (2108, .ok (.iaload, 1)), (2109, .ok (.aload_n 0, 1)), (2110, .ok (.iload_n 3, 1)), (2111, .ok (.iconst 2, 1))] = true := by decide +kernel
theorem dL_2070 : decode code 2070 = .ok (.iadd, 1) := dk_get dT_41 0 rfl
theorem dL_2071 : decode code 2071 = .ok (.iaload, 1) := dk_get dT_41 1 rfl
theorem dL_2072 : decode code 2072 = .ok (.invokevirtual 307, 3) := dk_get dT_41 2 rfl
theorem dL_2075 : decode code 2075 = .ok (.if_icmp .eq 207, 3) := dk_get dT_41 3 rfl
theorem dL_2078 : decode code 2078 = .ok (.iconst 0, 1) := dk_get dT_41 4 rfl
theorem dL_2079 : decode code 2079 = .ok (.ireturn, 1) := dk_get dT_41 5 rfl
theorem dL_2080 : decode code 2080 = .ok (.aload_n 1, 1) := dk_get dT_41 6 rfl
theorem dL_2081 : decode code 2081 = .ok (.aload_n 0, 1) := dk_get dT_41 7 rfl
theorem dL_2082 : decode code 2082 = .ok (.iload_n 3, 1) := dk_get dT_41 8 rfl
theorem dL_2083 : decode code 2083 = .ok (.iconst 1, 1) := dk_get dT_41 9 rfl
theorem dL_2084 : decode code 2084 = .ok (.iadd, 1) := dk_get dT_41 10 rfl
theorem dL_2085 : decode code 2085 = .ok (.iaload, 1) := dk_get dT_41 11 rfl
theorem dL_2086 : decode code 2086 = .ok (.invokevirtual 308, 3) := dk_get dT_41 12 rfl
theorem dL_2089 : decode code 2089 = .ok (.aload_n 2, 1) := dk_get dT_41 13 rfl
theorem dL_2090 : decode code 2090 = .ok (.aload_n 0, 1) := dk_get dT_41 14 rfl
theorem dL_2091 : decode code 2091 = .ok (.iload_n 3, 1) := dk_get dT_41 15 rfl
theorem dL_2092 : decode code 2092 = .ok (.iconst 1, 1) := dk_get dT_41 16 rfl
theorem dL_2093 : decode code 2093 = .ok (.iadd, 1) := dk_get dT_41 17 rfl
theorem dL_2094 : decode code 2094 = .ok (.iaload, 1) := dk_get dT_41 18 rfl
theorem dL_2095 : decode code 2095 = .ok (.invokevirtual 311, 3) := dk_get dT_41 19 rfl
theorem dL_2098 : decode code 2098 = .ok (.if_icmp .eq 184, 3) := dk_get dT_41 20 rfl
theorem dL_2101 : decode code 2101 = .ok (.iconst 0, 1) := dk_get dT_41 21 rfl
theorem dL_2102 : decode code 2102 = .ok (.ireturn, 1) := dk_get dT_41 22 rfl
theorem dL_2103 : decode code 2103 = .ok (.aload_n 1, 1) := dk_get dT_41 23 rfl
theorem dL_2104 : decode code 2104 = .ok (.aload_n 0, 1) := dk_get dT_41 24 rfl
theorem dL_2105 : decode code 2105 = .ok (.iload_n 3, 1) := dk_get dT_41 25 rfl
theorem dL_2106 : decode code 2106 = .ok (.iconst 1, 1) := dk_get dT_41 26 rfl
theorem dL_2107 : decode code 2107 = .ok (.iadd, 1) := dk_get dT_41 27 rfl
theorem dL_2108 : decode code 2108 = .ok (.iaload, 1) := dk_get dT_41 28 rfl
theorem dL_2109 : decode code 2109 = .ok (.aload_n 0, 1) := dk_get dT_41 29 rfl
theorem dL_2110 : decode code 2110 = .ok (.iload_n 3, 1) := dk_get dT_41 30 rfl
theorem dL_2111 : decode code 2111 = .ok (.iconst 2, 1) := dk_get dT_41 31 rfl
theorem dT_42 : dk_ok [(2112, .ok (.iadd, 1)), (2113, .ok (.iaload, 1)), (2114, .ok (.aload_n 0, 1)), (2115, .ok (.iload_n 3, 1)), (2116, .ok (.iconst 3, 1)), (2117, .ok (.iadd, 1)), (2118, .ok (.iaload, 1)), (2119, .ok (.invokevirtual 312, 3)), (2122, .ok (.aload_n 2, 1)), (2123, .ok (.aload_n 0, 1)), (2124, .ok (.iload_n 3, 1)), (2125, .ok (.iconst 1, 1)), (2126, .ok (.iadd, 1)), (2127, .ok (.iaload, 1)), (2128, .ok (.aload_n 0, 1)), (2129, .ok (.iload_n 3, 1)), (2130, .ok (.iconst 2, 1)), (2131, .ok (.iadd, 1)), (2132, .ok (.iaload, 1)), (2133, .ok (.aload_n 0, 1)), (2134, .ok (.iload_n 3, 1)), (2135, .ok (.iconst 3, 1)), (2136, .ok (.iadd, 1)), (2137, .ok (.iaload, 1)), (2138, .ok (.invokevirtual 315, 3)), (2141, .ok (.if_icmp .eq 141, 3)), (2144, .ok (.iconst 0, 1)), (2145, .ok (.ireturn, 1)), (2146, .ok (.aload_n 1, 1)), (2147, .ok (.aload_n 0, 1)), (2148, .ok (.iload_n 3, 1)), (2149, .ok (.iconst 1, 1))] = true := by decide +kernel
theorem dL_2112 : decode code 2112 = .ok (.iadd, 1) := dk_get dT_42 0 rfl
theorem dL_2113 : decode code 2113 = .ok (.iaload, 1) := dk_get dT_42 1 rfl
theorem dL_2114 : decode code 2114 = .ok (.aload_n 0, 1) := dk_get dT_42 2 rfl
theorem dL_2115 : decode code 2115 = .ok (.iload_n 3, 1) := dk_get dT_42 3 rfl
theorem dL_2116 : decode code 2116 = .ok (.iconst 3, 1) := dk_get dT_42 4 rfl
theorem dL_2117 : decode code 2117 = .ok (.iadd, 1) := dk_get dT_42 5 rfl
theorem dL_2118 : decode code 2118 = .ok (.iaload, 1) := dk_get dT_42 6 rfl
theorem dL_2119 : decode code 2119 = .ok (.invokevirtual 312, 3) := dk_get dT_42 7 rfl
theorem dL_2122 : decode code 2122 = .ok (.aload_n 2, 1) := dk_get dT_42 8 rfl
theorem dL_2123 : decode code 2123 = .ok (.aload_n 0, 1) := dk_get dT_42 9 rfl
theorem dL_2124 : decode code 2124 = .ok (.iload_n 3, 1) := dk_get dT_42 10 rfl
theorem dL_2125 : decode code 2125 = .ok (.iconst 1, 1) := dk_get dT_42 11 rfl
theorem dL_2126 : decode code 2126 = .ok (.iadd, 1) := dk_get dT_42 12 rfl
theorem dL_2127 : decode code 2127 = .ok (.iaload, 1) := dk_get dT_42 13 rfl
theorem dL_2128 : decode code 2128 = .ok (.aload_n 0, 1) := dk_get dT_42 14 rfl
theorem dL_2129 : decode code 2129 = .ok (.iload_n 3, 1) := dk_get dT_42 15 rfl
theorem dL_2130 : decode code 2130 = .ok (.iconst 2, 1) := dk_get dT_42 16 rfl
theorem dL_2131 : decode code 2131 = .ok (.iadd, 1) := dk_get dT_42 17 rfl
theorem dL_2132 : decode code 2132 = .ok (.iaload, 1) := dk_get dT_42 18 rfl
theorem dL_2133 : decode code 2133 = .ok (.aload_n 0, 1) := dk_get dT_42 19 rfl
theorem dL_2134 : decode code 2134 = .ok (.iload_n 3, 1) := dk_get dT_42 20 rfl
theorem dL_2135 : decode code 2135 = .ok (.iconst 3, 1) := dk_get dT_42 21 rfl
theorem dL_2136 : decode code 2136 = .ok (.iadd, 1) := dk_get dT_42 22 rfl
theorem dL_2137 : decode code 2137 = .ok (.iaload, 1) := dk_get dT_42 23 rfl
theorem dL_2138 : decode code 2138 = .ok (.invokevirtual 315, 3) := dk_get dT_42 24 rfl
theorem dL_2141 : decode code 2141 = .ok (.if_icmp .eq 141, 3) := dk_get dT_42 25 rfl
theorem dL_2144 : decode code 2144 = .ok (.iconst 0, 1) := dk_get dT_42 26 rfl
theorem dL_2145 : decode code 2145 = .ok (.ireturn, 1) := dk_get dT_42 27 rfl
theorem dL_2146 : decode code 2146 = .ok (.aload_n 1, 1) := dk_get dT_42 28 rfl
theorem dL_2147 : decode code 2147 = .ok (.aload_n 0, 1) := dk_get dT_42 29 rfl
theorem dL_2148 : decode code 2148 = .ok (.iload_n 3, 1) := dk_get dT_42 30 rfl
theorem dL_2149 : decode code 2149 = .ok (.iconst 1, 1) := dk_get dT_42 31 rfl
theorem dT_43 : dk_ok [(2150, .ok (.iadd, 1)), (2151, .ok (.iaload, 1)), (2152, .ok (.aload_n 0, 1)), (2153, .ok (.iload_n 3, 1)), (2154, .ok (.iconst 2, 1)), (2155, .ok (.iadd, 1)), (2156, .ok (.iaload, 1)), (2157, .ok (.aload_n 0, 1)), (2158, .ok (.iload_n 3, 1)), (2159, .ok (.iconst 3, 1)), (2160, .ok (.iadd, 1)), (2161, .ok (.iaload, 1)), (2162, .ok (.i2l, 1)), (2163, .ok (.bipush 32, 2)), (2165, .ok (.lshl, 1)), (2166, .ok (.aload_n 0, 1)), (2167, .ok (.iload_n 3, 1)), (2168, .ok (.iconst 4, 1)), (2169, .ok (.iadd, 1)), (2170, .ok (.iaload, 1)), (2171, .ok (.i2l, 1)), (2172, .ok (.ldc2_w 316, 3)), (2175, .ok (.land, 1)), (2176, .ok (.lor, 1)), (2177, .ok (.invokevirtual 318, 3)), (2180, .ok (.aload_n 2, 1)), (2181, .ok (.aload_n 0, 1)), (2182, .ok (.iload_n 3, 1)), (2183, .ok (.iconst 1, 1)), (2184, .ok (.iadd, 1)), (2185, .ok (.iaload, 1)), (2186, .ok (.aload_n 0, 1))] = true := by decide +kernel
theorem dL_2150 : decode code 2150 = .ok (.iadd, 1) := dk_get dT_43 0 rfl
theorem dL_2151 : decode code 2151 = .ok (.iaload, 1) := dk_get dT_43 1 rfl
theorem dL_2152 : decode code 2152 = .ok (.aload_n 0, 1) := dk_get dT_43 2 rfl
theorem dL_2153 : decode code 2153 = .ok (.iload_n 3, 1) := dk_get dT_43 3 rfl
theorem dL_2154 : decode code 2154 = .ok (.iconst 2, 1) := dk_get dT_43 4 rfl
theorem dL_2155 : decode code 2155 = .ok (.iadd, 1) := dk_get dT_43 5 rfl
theorem dL_2156 : decode code 2156 = .ok (.iaload, 1) := dk_get dT_43 6 rfl
theorem dL_2157 : decode code 2157 = .ok (.aload_n 0, 1) := dk_get dT_43 7 rfl
theorem dL_2158 : decode code 2158 = .ok (.iload_n 3, 1) := dk_get dT_43 8 rfl
theorem dL_2159 : decode code 2159 = .ok (.iconst 3, 1) := dk_get dT_43 9 rfl
theorem dL_2160 : decode code 2160 = .ok (.iadd, 1) := dk_get dT_43 10 rfl
theorem dL_2161 : decode code 2161 = .ok (.iaload, 1) := dk_get dT_43 11 rfl
theorem dL_2162 : decode code 2162 = .ok (.i2l, 1) := dk_get dT_43 12 rfl
theorem dL_2163 : decode code 2163 = .ok (.bipush 32, 2) := dk_get dT_43 13 rfl
theorem dL_2165 : decode code 2165 = .ok (.lshl, 1) := dk_get dT_43 14 rfl
theorem dL_2166 : decode code 2166 = .ok (.aload_n 0, 1) := dk_get dT_43 15 rfl
theorem dL_2167 : decode code 2167 = .ok (.iload_n 3, 1) := dk_get dT_43 16 rfl
theorem dL_2168 : decode code 2168 = .ok (.iconst 4, 1) := dk_get dT_43 17 rfl
theorem dL_2169 : decode code 2169 = .ok (.iadd, 1) := dk_get dT_43 18 rfl
theorem dL_2170 : decode code 2170 = .ok (.iaload, 1) := dk_get dT_43 19 rfl
theorem dL_2171 : decode code 2171 = .ok (.i2l, 1) := dk_get dT_43 20 rfl
theorem dL_2172 : decode code 2172 = .ok (.ldc2_w 316, 3) := dk_get dT_43 21 rfl
theorem dL_2175 : decode code 2175 = .ok (.land, 1) := dk_get dT_43 22 rfl
theorem dL_2176 : decode code 2176 = .ok (.lor, 1) := dk_get dT_43 23 rfl
theorem dL_2177 : decode code 2177 = .ok (.invokevirtual 318, 3) := dk_get dT_43 24 rfl
theorem dL_2180 : decode code 2180 = .ok (.aload_n 2, 1) := dk_get dT_43 25 rfl
theorem dL_2181 : decode code 2181 = .ok (.aload_n 0, 1) := dk_get dT_43 26 rfl
theorem dL_2182 : decode code 2182 = .ok (.iload_n 3, 1) := dk_get dT_43 27 rfl
theorem dL_2183 : decode code 2183 = .ok (.iconst 1, 1) := dk_get dT_43 28 rfl
theorem dL_2184 : decode code 2184 = .ok (.iadd, 1) := dk_get dT_43 29 rfl
theorem dL_2185 : decode code 2185 = .ok (.iaload, 1) := dk_get dT_43 30 rfl
theorem dL_2186 : decode code 2186 = .ok (.aload_n 0, 1) := dk_get dT_43 31 rfl
theorem dT_44 : dk_ok [(2187, .ok (.iload_n 3, 1)), (2188, .ok (.iconst 2, 1)), (2189, .ok (.iadd, 1)), (2190, .ok (.iaload, 1)), (2191, .ok (.aload_n 0, 1)), (2192, .ok (.iload_n 3, 1)), (2193, .ok (.iconst 3, 1)), (2194, .ok (.iadd, 1)), (2195, .ok (.iaload, 1)), (2196, .ok (.i2l, 1)), (2197, .ok (.bipush 32, 2)), (2199, .ok (.lshl, 1)), (2200, .ok (.aload_n 0, 1)), (2201, .ok (.iload_n 3, 1)), (2202, .ok (.iconst 4, 1)), (2203, .ok (.iadd, 1)), (2204, .ok (.iaload, 1)), (2205, .ok (.i2l, 1)), (2206, .ok (.ldc2_w 316, 3)), (2209, .ok (.land, 1)), (2210, .ok (.lor, 1)), (2211, .ok (.invokevirtual 322, 3)), (2214, .ok (.if_icmp .eq 68, 3)), (2217, .ok (.iconst 0, 1)), (2218, .ok (.ireturn, 1)), (2219, .ok (.aload_n 1, 1)), (2220, .ok (.aload_n 0, 1)), (2221, .ok (.iload_n 3, 1)), (2222, .ok (.iconst 1, 1)), (2223, .ok (.iadd, 1)), (2224, .ok (.iaload, 1)), (2225, .ok (.aload_n 0, 1))] = true := by decide +kernel
theorem dL_2187 : decode code 2187 = .ok (.iload_n 3, 1) := dk_get dT_44 0 rfl
theorem dL_2188 : decode code 2188 = .ok (.iconst 2, 1) := dk_get dT_44 1 rfl
theorem dL_2189 : decode code 2189 = .ok (.iadd, 1) := dk_get dT_44 2 rfl
theorem dL_2190 : decode code 2190 = .ok (.iaload, 1) := dk_get dT_44 3 rfl
theorem dL_2191 : decode code 2191 = .ok (.aload_n 0, 1) := dk_get dT_44 4 rfl
theorem dL_2192 : decode code 2192 = .ok (.iload_n 3, 1) := dk_get dT_44 5 rfl
theorem dL_2193 : decode code 2193 = .ok (.iconst 3, 1) := dk_get dT_44 6 rfl
theorem dL_2194 : decode code 2194 = .ok (.iadd, 1) := dk_get dT_44 7 rfl
theorem dL_2195 : decode code 2195 = .ok (.iaload, 1) := dk_get dT_44 8 rfl
theorem dL_2196 : decode code 2196 = .ok (.i2l, 1) := dk_get dT_44 9 rfl
theorem dL_2197 : decode code 2197 = .ok (.bipush 32, 2) := dk_get dT_44 10 rfl
theorem dL_2199 : decode code 2199 = .ok (.lshl, 1) := dk_get dT_44 11 rfl
theorem dL_2200 : decode code 2200 = .ok (.aload_n 0, 1) := dk_get dT_44 12 rfl
theorem dL_2201 : decode code 2201 = .ok (.iload_n 3, 1) := dk_get dT_44 13 rfl
theorem dL_2202 : decode code 2202 = .ok (.iconst 4, 1) := dk_get dT_44 14 rfl
theorem dL_2203 : decode code 2203 = .ok (.iadd, 1) := dk_get dT_44 15 rfl
theorem dL_2204 : decode code 2204 = .ok (.iaload, 1) := dk_get dT_44 16 rfl
theorem dL_2205 : decode code 2205 = .ok (.i2l, 1) := dk_get dT_44 17 rfl
theorem dL_2206 : decode code 2206 = .ok (.ldc2_w 316, 3) := dk_get dT_44 18 rfl
theorem dL_2209 : decode code 2209 = .ok (.land, 1) := dk_get dT_44 19 rfl
theorem dL_2210 : decode code 2210 = .ok (.lor, 1) := dk_get dT_44 20 rfl
theorem dL_2211 : decode code 2211 = .ok (.invokevirtual 322, 3) := dk_get dT_44 21 rfl
theorem dL_2214 : decode code 2214 = .ok (.if_icmp .eq 68, 3) := dk_get dT_44 22 rfl
theorem dL_2217 : decode code 2217 = .ok (.iconst 0, 1) := dk_get dT_44 23 rfl
theorem dL_2218 : decode code 2218 = .ok (.ireturn, 1) := dk_get dT_44 24 rfl
theorem dL_2219 : decode code 2219 = .ok (.aload_n 1, 1) := dk_get dT_44 25 rfl
theorem dL_2220 : decode code 2220 = .ok (.aload_n 0, 1) := dk_get dT_44 26 rfl
theorem dL_2221 : decode code 2221 = .ok (.iload_n 3, 1) := dk_get dT_44 27 rfl
theorem dL_2222 : decode code 2222 = .ok (.iconst 1, 1) := dk_get dT_44 28 rfl
theorem dL_2223 : decode code 2223 = .ok (.iadd, 1) := dk_get dT_44 29 rfl
theorem dL_2224 : decode code 2224 = .ok (.iaload, 1) := dk_get dT_44 30 rfl
theorem dL_2225 : decode code 2225 = .ok (.aload_n 0, 1) := dk_get dT_44 31 rfl
theorem dT_45 : dk_ok [(2226, .ok (.iload_n 3, 1)), (2227, .ok (.iconst 2, 1)), (2228, .ok (.iadd, 1)), (2229, .ok (.iaload, 1)), (2230, .ok (.aload_n 0, 1)), (2231, .ok (.iload_n 3, 1)), (2232, .ok (.iconst 3, 1)), (2233, .ok (.iadd, 1)), (2234, .ok (.iaload, 1)), (2235, .ok (.aload_n 0, 1)), (2236, .ok (.iload_n 3, 1)), (2237, .ok (.iconst 4, 1)), (2238, .ok (.iadd, 1)), (2239, .ok (.iaload, 1)), (2240, .ok (.aload_n 0, 1)), (2241, .ok (.iload_n 3, 1)), (2242, .ok (.iconst 5, 1)), (2243, .ok (.iadd, 1)), (2244, .ok (.iaload, 1)), (2245, .ok (.invokevirtual 323, 3)), (2248, .ok (.aload_n 2, 1)), (2249, .ok (.aload_n 0, 1)), (2250, .ok (.iload_n 3, 1)), (2251, .ok (.iconst 1, 1)), (2252, .ok (.iadd, 1)), (2253, .ok (.iaload, 1)), (2254, .ok (.aload_n 0, 1)), (2255, .ok (.iload_n 3, 1)), (2256, .ok (.iconst 2, 1)), (2257, .ok (.iadd, 1)), (2258, .ok (.iaload, 1)), (2259, .ok (.aload_n 0, 1))] = true := by decide +kernel
theorem dL_2226 : decode code 2226 = .ok (.iload_n 3, 1) := dk_get dT_45 0 rfl
theorem dL_2227 : decode code 2227 = .ok (.iconst 2, 1) := dk_get dT_45 1 rfl
theorem dL_2228 : decode code 2228 = .ok (.iadd, 1) := dk_get dT_45 2 rfl
theorem dL_2229 : decode code 2229 = .ok (.iaload, 1) := dk_get dT_45 3 rfl
theorem dL_2230 : decode code 2230 = .ok (.aload_n 0, 1) := dk_get dT_45 4 rfl
theorem dL_2231 : decode code 2231 = .ok (.iload_n 3, 1) := dk_get dT_45 5 rfl
theorem dL_2232 : decode code 2232 = .ok (.iconst 3, 1) := dk_get dT_45 6 rfl
theorem dL_2233 : decode code 2233 = .ok (.iadd, 1) := dk_get dT_45 7 rfl
theorem dL_2234 : decode code 2234 = .ok (.iaload, 1) := dk_get dT_45 8 rfl
theorem dL_2235 : decode code 2235 = .ok (.aload_n 0, 1) := dk_get dT_45 9 rfl
theorem dL_2236 : decode code 2236 = .ok (.iload_n 3, 1) := dk_get dT_45 10 rfl
theorem dL_2237 : decode code 2237 = .ok (.iconst 4, 1) := dk_get dT_45 11 rfl
theorem dL_2238 : decode code 2238 = .ok (.iadd, 1) := dk_get dT_45 12 rfl
theorem dL_2239 : decode code 2239 = .ok (.iaload, 1) := dk_get dT_45 13 rfl
theorem dL_2240 : decode code 2240 = .ok (.aload_n 0, 1) := dk_get dT_45 14 rfl
theorem dL_2241 : decode code 2241 = .ok (.iload_n 3, 1) := dk_get dT_45 15 rfl
theorem dL_2242 : decode code 2242 = .ok (.iconst 5, 1) := dk_get dT_45 16 rfl
theorem dL_2243 : decode code 2243 = .ok (.iadd, 1) := dk_get dT_45 17 rfl
theorem dL_2244 : decode code 2244 = .ok (.iaload, 1) := dk_get dT_45 18 rfl
theorem dL_2245 : decode code 2245 = .ok (.invokevirtual 323, 3) := dk_get dT_45 19 rfl
theorem dL_2248 : decode code 2248 = .ok (.aload_n 2, 1) := dk_get dT_45 20 rfl
theorem dL_2249 : decode code 2249 = .ok (.aload_n 0, 1) := dk_get dT_45 21 rfl
theorem dL_2250 : decode code 2250 = .ok (.iload_n 3, 1) := dk_get dT_45 22 rfl
theorem dL_2251 : decode code 2251 = .ok (.iconst 1, 1) := dk_get dT_45 23 rfl
theorem dL_2252 : decode code 2252 = .ok (.iadd, 1) := dk_get dT_45 24 rfl
theorem dL_2253 : decode code 2253 = .ok (.iaload, 1) := dk_get dT_45 25 rfl
theorem dL_2254 : decode code 2254 = .ok (.aload_n 0, 1) := dk_get dT_45 26 rfl
theorem dL_2255 : decode code 2255 = .ok (.iload_n 3, 1) := dk_get dT_45 27 rfl
theorem dL_2256 : decode code 2256 = .ok (.iconst 2, 1) := dk_get dT_45 28 rfl
theorem dL_2257 : decode code 2257 = .ok (.iadd, 1) := dk_get dT_45 29 rfl
theorem dL_2258 : decode code 2258 = .ok (.iaload, 1) := dk_get dT_45 30 rfl
theorem dL_2259 : decode code 2259 = .ok (.aload_n 0, 1) := dk_get dT_45 31 rfl
theorem dT_46 : dk_ok [(2260, .ok (.iload_n 3, 1)), (2261, .ok (.iconst 3, 1)), (2262, .ok (.iadd, 1)), (2263, .ok (.iaload, 1)), (2264, .ok (.aload_n 0, 1)), (2265, .ok (.iload_n 3, 1)), (2266, .ok (.iconst 4, 1)), (2267, .ok (.iadd, 1)), (2268, .ok (.iaload, 1)), (2269, .ok (.aload_n 0, 1)), (2270, .ok (.iload_n 3, 1)), (2271, .ok (.iconst 5, 1)), (2272, .ok (.iadd, 1)), (2273, .ok (.iaload, 1)), (2274, .ok (.invokevirtual 326, 3)), (2277, .ok (.if_icmp .eq 5, 3)), (2280, .ok (.iconst 0, 1)), (2281, .ok (.ireturn, 1)), (2282, .ok (.iinc 3 6, 3)), (2285, .ok (.goto (-2267), 3)), (2288, .ok (.iconst 1, 1)), (2289, .ok (.ireturn, 1))] = true := by decide +kernel
theorem dL_2260 : decode code 2260 = .ok (.iload_n 3, 1) := dk_get dT_46 0 rfl
theorem dL_2261 : decode code 2261 = .ok (.iconst 3, 1) := dk_get dT_46 1 rfl
theorem dL_2262 : decode code 2262 = .ok (.iadd, 1) := dk_get dT_46 2 rfl
theorem dL_2263 : decode code 2263 = .ok (.iaload, 1) := dk_get dT_46 3 rfl
theorem dL_2264 : decode code 2264 = .ok (.aload_n 0, 1) := dk_get dT_46 4 rfl
theorem dL_2265 : decode code 2265 = .ok (.iload_n 3, 1) := dk_get dT_46 5 rfl
theorem dL_2266 : decode code 2266 = .ok (.iconst 4, 1) := dk_get dT_46 6 rfl
theorem dL_2267 : decode code 2267 = .ok (.iadd, 1) := dk_get dT_46 7 rfl
theorem dL_2268 : decode code 2268 = .ok (.iaload, 1) := dk_get dT_46 8 rfl
theorem dL_2269 : decode code 2269 = .ok (.aload_n 0, 1) := dk_get dT_46 9 rfl
theorem dL_2270 : decode code 2270 = .ok (.iload_n 3, 1) := dk_get dT_46 10 rfl
theorem dL_2271 : decode code 2271 = .ok (.iconst 5, 1) := dk_get dT_46 11 rfl
theorem dL_2272 : decode code 2272 = .ok (.iadd, 1) := dk_get dT_46 12 rfl
theorem dL_2273 : decode code 2273 = .ok (.iaload, 1) := dk_get dT_46 13 rfl
theorem dL_2274 : decode code 2274 = .ok (.invokevirtual 326, 3) := dk_get dT_46 14 rfl
theorem dL_2277 : decode code 2277 = .ok (.if_icmp .eq 5, 3) := dk_get dT_46 15 rfl
theorem dL_2280 : decode code 2280 = .ok (.iconst 0, 1) := dk_get dT_46 16 rfl
theorem dL_2281 : decode code 2281 = .ok (.ireturn, 1) := dk_get dT_46 17 rfl
theorem dL_2282 : decode code 2282 = .ok (.iinc 3 6, 3) := dk_get dT_46 18 rfl
theorem dL_2285 : decode code 2285 = .ok (.goto (-2267), 3) := dk_get dT_46 19 rfl
theorem dL_2288 : decode code 2288 = .ok (.iconst 1, 1) := dk_get dT_46 20 rfl
theorem dL_2289 : decode code 2289 = .ok (.ireturn, 1) := dk_get dT_46 21 rfl
theorem cfX9_feed : hCF yX9_feed cX9_feed 6 (some .int) 5 := ⟨hWS_in (i := 370) (by decide +kernel) (by decide +kernel), hWS_in (i := 371) (by decide +kernel) (by decide +kernel), hWS_in (i := 1) (by decide +kernel) (by decide +kernel), hWS_in (i := 372) (by decide +kernel) (by decide +kernel), by decide +kernel⟩
theorem cfX10_feed : hCF yX10_feed cX10_feed 7 (some .int) 5 := ⟨hWS_in (i := 1356) (by decide +kernel) (by decide +kernel), hWS_in (i := 1357) (by decide +kernel) (by decide +kernel), hWS_in (i := 11) (by decide +kernel) (by decide +kernel), hWS_in (i := 1358) (by decide +kernel) (by decide +kernel), by decide +kernel⟩
theorem cfX9_end : hCF yX9_end cX9_end 2 (some .int) 1 := ⟨hWS_in (i := 378) (by decide +kernel) (by decide +kernel), hWS_in (i := 379) (by decide +kernel) (by decide +kernel), hWS_in (i := 1) (by decide +kernel) (by decide +kernel), hWS_in (i := 380) (by decide +kernel) (by decide +kernel), by decide +kernel⟩
theorem cfX10_end : hCF yX10_end cX10_end 2 (some .int) 1 := ⟨hWS_in (i := 1360) (by decide +kernel) (by decide +kernel), hWS_in (i := 1361) (by decide +kernel) (by decide +kernel), hWS_in (i := 11) (by decide +kernel) (by decide +kernel), hWS_in (i := 1362) (by decide +kernel) (by decide +kernel), by decide +kernel⟩
theorem cfX9_camp : hCF yX9_camp cX9_camp 3 (some .int) 0 := ⟨hWS_in (i := 382) (by decide +kernel) (by decide +kernel), hWS_in (i := 383) (by decide +kernel) (by decide +kernel), hWS_in (i := 1) (by decide +kernel) (by decide +kernel), hWS_in (i := 384) (by decide +kernel) (by decide +kernel), by decide +kernel⟩
theorem cfX10_camp : hCF yX10_camp cX10_camp 2 (some .int) 0 := ⟨hWS_in (i := 1368) (by decide +kernel) (by decide +kernel), hWS_in (i := 1369) (by decide +kernel) (by decide +kernel), hWS_in (i := 11) (by decide +kernel) (by decide +kernel), hWS_in (i := 1370) (by decide +kernel) (by decide +kernel), by decide +kernel⟩
theorem cfX9_fault : hCF yX9_fault cX9_fault 2 (some .int) 1 := ⟨hWS_in (i := 509) (by decide +kernel) (by decide +kernel), hWS_in (i := 510) (by decide +kernel) (by decide +kernel), hWS_in (i := 1) (by decide +kernel) (by decide +kernel), hWS_in (i := 511) (by decide +kernel) (by decide +kernel), by decide +kernel⟩
theorem cfX10_fault : hCF yX10_fault cX10_fault 2 (some .int) 1 := ⟨hWS_in (i := 1364) (by decide +kernel) (by decide +kernel), hWS_in (i := 1365) (by decide +kernel) (by decide +kernel), hWS_in (i := 11) (by decide +kernel) (by decide +kernel), hWS_in (i := 1366) (by decide +kernel) (by decide +kernel), by decide +kernel⟩
theorem cfX9_augur : hCF yX9_augur cX9_augur 3 (some .int) 2 := ⟨hWS_in (i := 513) (by decide +kernel) (by decide +kernel), hWS_in (i := 514) (by decide +kernel) (by decide +kernel), hWS_in (i := 1) (by decide +kernel) (by decide +kernel), hWS_in (i := 515) (by decide +kernel) (by decide +kernel), by decide +kernel⟩
theorem cfX10_augur : hCF yX10_augur cX10_augur 3 (some .int) 2 := ⟨hWS_in (i := 1449) (by decide +kernel) (by decide +kernel), hWS_in (i := 1450) (by decide +kernel) (by decide +kernel), hWS_in (i := 11) (by decide +kernel) (by decide +kernel), hWS_in (i := 1451) (by decide +kernel) (by decide +kernel), by decide +kernel⟩
theorem cfX9_bill : hCF yX9_bill cX9_bill 3 (some .int) 2 := ⟨hWS_in (i := 521) (by decide +kernel) (by decide +kernel), hWS_in (i := 522) (by decide +kernel) (by decide +kernel), hWS_in (i := 1) (by decide +kernel) (by decide +kernel), hWS_in (i := 523) (by decide +kernel) (by decide +kernel), by decide +kernel⟩
theorem cfX10_bill : hCF yX10_bill cX10_bill 3 (some .int) 2 := ⟨hWS_in (i := 1461) (by decide +kernel) (by decide +kernel), hWS_in (i := 1462) (by decide +kernel) (by decide +kernel), hWS_in (i := 11) (by decide +kernel) (by decide +kernel), hWS_in (i := 1463) (by decide +kernel) (by decide +kernel), by decide +kernel⟩
theorem cfX9_marks : hCF yX9_marks cX9_marks 1 (some .int) 0 := ⟨hWS_in (i := 529) (by decide +kernel) (by decide +kernel), hWS_in (i := 530) (by decide +kernel) (by decide +kernel), hWS_in (i := 1) (by decide +kernel) (by decide +kernel), hWS_in (i := 531) (by decide +kernel) (by decide +kernel), by decide +kernel⟩
theorem cfX10_marks : hCF yX10_marks cX10_marks 1 (some .int) 0 := ⟨hWS_in (i := 1473) (by decide +kernel) (by decide +kernel), hWS_in (i := 1474) (by decide +kernel) (by decide +kernel), hWS_in (i := 11) (by decide +kernel) (by decide +kernel), hWS_in (i := 1475) (by decide +kernel) (by decide +kernel), by decide +kernel⟩
theorem cfX9_sky : hCF yX9_sky cX9_sky 2 (some .int) 1 := ⟨hWS_in (i := 537) (by decide +kernel) (by decide +kernel), hWS_in (i := 538) (by decide +kernel) (by decide +kernel), hWS_in (i := 1) (by decide +kernel) (by decide +kernel), hWS_in (i := 539) (by decide +kernel) (by decide +kernel), by decide +kernel⟩
theorem cfX10_sky : hCF yX10_sky cX10_sky 2 (some .int) 1 := ⟨hWS_in (i := 1481) (by decide +kernel) (by decide +kernel), hWS_in (i := 1482) (by decide +kernel) (by decide +kernel), hWS_in (i := 11) (by decide +kernel) (by decide +kernel), hWS_in (i := 1483) (by decide +kernel) (by decide +kernel), by decide +kernel⟩
theorem cfX9_watch : hCF yX9_watch cX9_watch 2 (some .int) 1 := ⟨hWS_in (i := 564) (by decide +kernel) (by decide +kernel), hWS_in (i := 565) (by decide +kernel) (by decide +kernel), hWS_in (i := 1) (by decide +kernel) (by decide +kernel), hWS_in (i := 566) (by decide +kernel) (by decide +kernel), by decide +kernel⟩
theorem cfX10_watch : hCF yX10_watch cX10_watch 4 (some .int) 1 := ⟨hWS_in (i := 1508) (by decide +kernel) (by decide +kernel), hWS_in (i := 1509) (by decide +kernel) (by decide +kernel), hWS_in (i := 11) (by decide +kernel) (by decide +kernel), hWS_in (i := 1510) (by decide +kernel) (by decide +kernel), by decide +kernel⟩
theorem cfX9_hunger : hCF yX9_hunger cX9_hunger 2 (some .int) 1 := ⟨hWS_in (i := 576) (by decide +kernel) (by decide +kernel), hWS_in (i := 577) (by decide +kernel) (by decide +kernel), hWS_in (i := 1) (by decide +kernel) (by decide +kernel), hWS_in (i := 578) (by decide +kernel) (by decide +kernel), by decide +kernel⟩
theorem cfX10_hunger : hCF yX10_hunger cX10_hunger 2 (some .int) 1 := ⟨hWS_in (i := 1516) (by decide +kernel) (by decide +kernel), hWS_in (i := 1517) (by decide +kernel) (by decide +kernel), hWS_in (i := 11) (by decide +kernel) (by decide +kernel), hWS_in (i := 1518) (by decide +kernel) (by decide +kernel), by decide +kernel⟩
theorem cfX9_eat : hCF yX9_eat cX9_eat 3 (some .int) 0 := ⟨hWS_in (i := 624) (by decide +kernel) (by decide +kernel), hWS_in (i := 625) (by decide +kernel) (by decide +kernel), hWS_in (i := 1) (by decide +kernel) (by decide +kernel), hWS_in (i := 626) (by decide +kernel) (by decide +kernel), by decide +kernel⟩
theorem cfX10_eat : hCF yX10_eat cX10_eat 3 (some .int) 0 := ⟨hWS_in (i := 1553) (by decide +kernel) (by decide +kernel), hWS_in (i := 1554) (by decide +kernel) (by decide +kernel), hWS_in (i := 11) (by decide +kernel) (by decide +kernel), hWS_in (i := 1555) (by decide +kernel) (by decide +kernel), by decide +kernel⟩
theorem cfX9_open : hCF yX9_open cX9_open 5 (some .int) 1 := ⟨hWS_in (i := 628) (by decide +kernel) (by decide +kernel), hWS_in (i := 629) (by decide +kernel) (by decide +kernel), hWS_in (i := 1) (by decide +kernel) (by decide +kernel), hWS_in (i := 630) (by decide +kernel) (by decide +kernel), by decide +kernel⟩
theorem cfX10_open : hCF yX10_open cX10_open 6 (some .int) 1 := ⟨hWS_in (i := 1557) (by decide +kernel) (by decide +kernel), hWS_in (i := 1558) (by decide +kernel) (by decide +kernel), hWS_in (i := 11) (by decide +kernel) (by decide +kernel), hWS_in (i := 1559) (by decide +kernel) (by decide +kernel), by decide +kernel⟩
theorem cfX9_best : hCF yX9_best cX9_best 5 (some .int) 1 := ⟨hWS_in (i := 636) (by decide +kernel) (by decide +kernel), hWS_in (i := 637) (by decide +kernel) (by decide +kernel), hWS_in (i := 1) (by decide +kernel) (by decide +kernel), hWS_in (i := 638) (by decide +kernel) (by decide +kernel), by decide +kernel⟩
theorem cfX10_best : hCF yX10_best cX10_best 5 (some .int) 1 := ⟨hWS_in (i := 1561) (by decide +kernel) (by decide +kernel), hWS_in (i := 1562) (by decide +kernel) (by decide +kernel), hWS_in (i := 11) (by decide +kernel) (by decide +kernel), hWS_in (i := 1563) (by decide +kernel) (by decide +kernel), by decide +kernel⟩
theorem cfX9_asked : hCF yX9_asked cX9_asked 1 (some .int) 0 := ⟨hWS_in (i := 640) (by decide +kernel) (by decide +kernel), hWS_in (i := 641) (by decide +kernel) (by decide +kernel), hWS_in (i := 1) (by decide +kernel) (by decide +kernel), hWS_in (i := 642) (by decide +kernel) (by decide +kernel), by decide +kernel⟩
theorem cfX10_asked : hCF yX10_asked cX10_asked 1 (some .int) 0 := ⟨hWS_in (i := 1565) (by decide +kernel) (by decide +kernel), hWS_in (i := 1566) (by decide +kernel) (by decide +kernel), hWS_in (i := 11) (by decide +kernel) (by decide +kernel), hWS_in (i := 1567) (by decide +kernel) (by decide +kernel), by decide +kernel⟩
theorem cfX9_fattened : hCF yX9_fattened cX9_fattened 1 (some .int) 0 := ⟨hWS_in (i := 648) (by decide +kernel) (by decide +kernel), hWS_in (i := 649) (by decide +kernel) (by decide +kernel), hWS_in (i := 1) (by decide +kernel) (by decide +kernel), hWS_in (i := 650) (by decide +kernel) (by decide +kernel), by decide +kernel⟩
theorem cfX10_fattened : hCF yX10_fattened cX10_fattened 1 (some .int) 0 := ⟨hWS_in (i := 1573) (by decide +kernel) (by decide +kernel), hWS_in (i := 1574) (by decide +kernel) (by decide +kernel), hWS_in (i := 11) (by decide +kernel) (by decide +kernel), hWS_in (i := 1575) (by decide +kernel) (by decide +kernel), by decide +kernel⟩
theorem cfX9_fast : hCF yX9_fast cX9_fast 1 (some .int) 0 := ⟨hWS_in (i := 656) (by decide +kernel) (by decide +kernel), hWS_in (i := 657) (by decide +kernel) (by decide +kernel), hWS_in (i := 1) (by decide +kernel) (by decide +kernel), hWS_in (i := 658) (by decide +kernel) (by decide +kernel), by decide +kernel⟩
theorem cfX10_fast : hCF yX10_fast cX10_fast 1 (some .int) 0 := ⟨hWS_in (i := 1577) (by decide +kernel) (by decide +kernel), hWS_in (i := 1578) (by decide +kernel) (by decide +kernel), hWS_in (i := 11) (by decide +kernel) (by decide +kernel), hWS_in (i := 1579) (by decide +kernel) (by decide +kernel), by decide +kernel⟩
theorem cfX9_first : hCF yX9_first cX9_first 3 (some .int) 1 := ⟨hWS_in (i := 668) (by decide +kernel) (by decide +kernel), hWS_in (i := 669) (by decide +kernel) (by decide +kernel), hWS_in (i := 1) (by decide +kernel) (by decide +kernel), hWS_in (i := 670) (by decide +kernel) (by decide +kernel), by decide +kernel⟩
theorem cfX10_first : hCF yX10_first cX10_first 3 (some .int) 1 := ⟨hWS_in (i := 1590) (by decide +kernel) (by decide +kernel), hWS_in (i := 1591) (by decide +kernel) (by decide +kernel), hWS_in (i := 11) (by decide +kernel) (by decide +kernel), hWS_in (i := 1592) (by decide +kernel) (by decide +kernel), by decide +kernel⟩
theorem cfX9_passed : hCF yX9_passed cX9_passed 2 (some .int) 1 := ⟨hWS_in (i := 676) (by decide +kernel) (by decide +kernel), hWS_in (i := 677) (by decide +kernel) (by decide +kernel), hWS_in (i := 1) (by decide +kernel) (by decide +kernel), hWS_in (i := 678) (by decide +kernel) (by decide +kernel), by decide +kernel⟩
theorem cfX10_passed : hCF yX10_passed cX10_passed 2 (some .int) 1 := ⟨hWS_in (i := 1594) (by decide +kernel) (by decide +kernel), hWS_in (i := 1595) (by decide +kernel) (by decide +kernel), hWS_in (i := 11) (by decide +kernel) (by decide +kernel), hWS_in (i := 1596) (by decide +kernel) (by decide +kernel), by decide +kernel⟩
theorem cfX9_when : hCF yX9_when cX9_when 2 (some .int) 1 := ⟨hWS_in (i := 684) (by decide +kernel) (by decide +kernel), hWS_in (i := 685) (by decide +kernel) (by decide +kernel), hWS_in (i := 1) (by decide +kernel) (by decide +kernel), hWS_in (i := 686) (by decide +kernel) (by decide +kernel), by decide +kernel⟩
theorem cfX10_when : hCF yX10_when cX10_when 2 (some .int) 1 := ⟨hWS_in (i := 1598) (by decide +kernel) (by decide +kernel), hWS_in (i := 1599) (by decide +kernel) (by decide +kernel), hWS_in (i := 11) (by decide +kernel) (by decide +kernel), hWS_in (i := 1600) (by decide +kernel) (by decide +kernel), by decide +kernel⟩
theorem cfX9_why : hCF yX9_why cX9_why 2 (some .int) 1 := ⟨hWS_in (i := 688) (by decide +kernel) (by decide +kernel), hWS_in (i := 689) (by decide +kernel) (by decide +kernel), hWS_in (i := 1) (by decide +kernel) (by decide +kernel), hWS_in (i := 690) (by decide +kernel) (by decide +kernel), by decide +kernel⟩
theorem cfX10_why : hCF yX10_why cX10_why 2 (some .int) 1 := ⟨hWS_in (i := 1606) (by decide +kernel) (by decide +kernel), hWS_in (i := 1607) (by decide +kernel) (by decide +kernel), hWS_in (i := 11) (by decide +kernel) (by decide +kernel), hWS_in (i := 1608) (by decide +kernel) (by decide +kernel), by decide +kernel⟩
theorem cfX9_worth : hCF yX9_worth cX9_worth 2 (some .int) 1 := ⟨hWS_in (i := 692) (by decide +kernel) (by decide +kernel), hWS_in (i := 693) (by decide +kernel) (by decide +kernel), hWS_in (i := 1) (by decide +kernel) (by decide +kernel), hWS_in (i := 694) (by decide +kernel) (by decide +kernel), by decide +kernel⟩
theorem cfX10_worth : hCF yX10_worth cX10_worth 4 (some .int) 1 := ⟨hWS_in (i := 1610) (by decide +kernel) (by decide +kernel), hWS_in (i := 1611) (by decide +kernel) (by decide +kernel), hWS_in (i := 11) (by decide +kernel) (by decide +kernel), hWS_in (i := 1612) (by decide +kernel) (by decide +kernel), by decide +kernel⟩
theorem cfX9_plan : hCF yX9_plan cX9_plan 2 (some .int) 1 := ⟨hWS_in (i := 708) (by decide +kernel) (by decide +kernel), hWS_in (i := 709) (by decide +kernel) (by decide +kernel), hWS_in (i := 1) (by decide +kernel) (by decide +kernel), hWS_in (i := 710) (by decide +kernel) (by decide +kernel), by decide +kernel⟩
theorem cfX10_plan : hCF yX10_plan cX10_plan 2 (some .int) 1 := ⟨hWS_in (i := 1614) (by decide +kernel) (by decide +kernel), hWS_in (i := 1615) (by decide +kernel) (by decide +kernel), hWS_in (i := 11) (by decide +kernel) (by decide +kernel), hWS_in (i := 1616) (by decide +kernel) (by decide +kernel), by decide +kernel⟩
theorem cfX9_planned : hCF yX9_planned cX9_planned 3 (some .int) 2 := ⟨hWS_in (i := 758) (by decide +kernel) (by decide +kernel), hWS_in (i := 759) (by decide +kernel) (by decide +kernel), hWS_in (i := 1) (by decide +kernel) (by decide +kernel), hWS_in (i := 760) (by decide +kernel) (by decide +kernel), by decide +kernel⟩
theorem cfX10_planned : hCF yX10_planned cX10_planned 8 (some .int) 2 := ⟨hWS_in (i := 1657) (by decide +kernel) (by decide +kernel), hWS_in (i := 1658) (by decide +kernel) (by decide +kernel), hWS_in (i := 11) (by decide +kernel) (by decide +kernel), hWS_in (i := 1659) (by decide +kernel) (by decide +kernel), by decide +kernel⟩
theorem cfX9_ways : hCF yX9_ways cX9_ways 2 (some .int) 1 := ⟨hWS_in (i := 770) (by decide +kernel) (by decide +kernel), hWS_in (i := 771) (by decide +kernel) (by decide +kernel), hWS_in (i := 1) (by decide +kernel) (by decide +kernel), hWS_in (i := 772) (by decide +kernel) (by decide +kernel), by decide +kernel⟩
theorem cfX10_ways : hCF yX10_ways cX10_ways 2 (some .int) 1 := ⟨hWS_in (i := 1649) (by decide +kernel) (by decide +kernel), hWS_in (i := 1650) (by decide +kernel) (by decide +kernel), hWS_in (i := 11) (by decide +kernel) (by decide +kernel), hWS_in (i := 1651) (by decide +kernel) (by decide +kernel), by decide +kernel⟩
theorem cfX9_many : hCF yX9_many cX9_many 2 (some .int) 1 := ⟨hWS_in (i := 778) (by decide +kernel) (by decide +kernel), hWS_in (i := 779) (by decide +kernel) (by decide +kernel), hWS_in (i := 1) (by decide +kernel) (by decide +kernel), hWS_in (i := 780) (by decide +kernel) (by decide +kernel), by decide +kernel⟩
theorem cfX10_many : hCF yX10_many cX10_many 2 (some .int) 1 := ⟨hWS_in (i := 1653) (by decide +kernel) (by decide +kernel), hWS_in (i := 1654) (by decide +kernel) (by decide +kernel), hWS_in (i := 11) (by decide +kernel) (by decide +kernel), hWS_in (i := 1655) (by decide +kernel) (by decide +kernel), by decide +kernel⟩
theorem cfX9_soonest : hCF yX9_soonest cX9_soonest 2 (some .int) 1 := ⟨hWS_in (i := 786) (by decide +kernel) (by decide +kernel), hWS_in (i := 787) (by decide +kernel) (by decide +kernel), hWS_in (i := 1) (by decide +kernel) (by decide +kernel), hWS_in (i := 788) (by decide +kernel) (by decide +kernel), by decide +kernel⟩
theorem cfX10_soonest : hCF yX10_soonest cX10_soonest 2 (some .int) 1 := ⟨hWS_in (i := 1704) (by decide +kernel) (by decide +kernel), hWS_in (i := 1705) (by decide +kernel) (by decide +kernel), hWS_in (i := 11) (by decide +kernel) (by decide +kernel), hWS_in (i := 1706) (by decide +kernel) (by decide +kernel), by decide +kernel⟩
theorem cfX9_latest : hCF yX9_latest cX9_latest 2 (some .int) 1 := ⟨hWS_in (i := 811) (by decide +kernel) (by decide +kernel), hWS_in (i := 812) (by decide +kernel) (by decide +kernel), hWS_in (i := 1) (by decide +kernel) (by decide +kernel), hWS_in (i := 813) (by decide +kernel) (by decide +kernel), by decide +kernel⟩
theorem cfX10_latest : hCF yX10_latest cX10_latest 6 (some .int) 1 := ⟨hWS_in (i := 1696) (by decide +kernel) (by decide +kernel), hWS_in (i := 1697) (by decide +kernel) (by decide +kernel), hWS_in (i := 11) (by decide +kernel) (by decide +kernel), hWS_in (i := 1698) (by decide +kernel) (by decide +kernel), by decide +kernel⟩
theorem cfX9_deepest : hCF yX9_deepest cX9_deepest 5 (some .int) 0 := ⟨hWS_in (i := 820) (by decide +kernel) (by decide +kernel), hWS_in (i := 821) (by decide +kernel) (by decide +kernel), hWS_in (i := 1) (by decide +kernel) (by decide +kernel), hWS_in (i := 822) (by decide +kernel) (by decide +kernel), by decide +kernel⟩
theorem cfX10_deepest : hCF yX10_deepest cX10_deepest 5 (some .int) 0 := ⟨hWS_in (i := 1689) (by decide +kernel) (by decide +kernel), hWS_in (i := 1690) (by decide +kernel) (by decide +kernel), hWS_in (i := 11) (by decide +kernel) (by decide +kernel), hWS_in (i := 1691) (by decide +kernel) (by decide +kernel), by decide +kernel⟩
theorem cfX9_without : hCF yX9_without cX9_without 2 (some .int) 1 := ⟨hWS_in (i := 826) (by decide +kernel) (by decide +kernel), hWS_in (i := 827) (by decide +kernel) (by decide +kernel), hWS_in (i := 1) (by decide +kernel) (by decide +kernel), hWS_in (i := 828) (by decide +kernel) (by decide +kernel), by decide +kernel⟩
theorem cfX10_without : hCF yX10_without cX10_without 2 (some .int) 1 := ⟨hWS_in (i := 1665) (by decide +kernel) (by decide +kernel), hWS_in (i := 1666) (by decide +kernel) (by decide +kernel), hWS_in (i := 11) (by decide +kernel) (by decide +kernel), hWS_in (i := 1667) (by decide +kernel) (by decide +kernel), by decide +kernel⟩
theorem cfX9_value : hCF yX9_value cX9_value 2 (some .int) 1 := ⟨hWS_in (i := 834) (by decide +kernel) (by decide +kernel), hWS_in (i := 835) (by decide +kernel) (by decide +kernel), hWS_in (i := 1) (by decide +kernel) (by decide +kernel), hWS_in (i := 836) (by decide +kernel) (by decide +kernel), by decide +kernel⟩
theorem cfX10_value : hCF yX10_value cX10_value 2 (some .int) 1 := ⟨hWS_in (i := 1673) (by decide +kernel) (by decide +kernel), hWS_in (i := 1674) (by decide +kernel) (by decide +kernel), hWS_in (i := 11) (by decide +kernel) (by decide +kernel), hWS_in (i := 1675) (by decide +kernel) (by decide +kernel), by decide +kernel⟩
theorem cfX9_together : hCF yX9_together cX9_together 1 (some .int) 0 := ⟨hWS_in (i := 838) (by decide +kernel) (by decide +kernel), hWS_in (i := 839) (by decide +kernel) (by decide +kernel), hWS_in (i := 1) (by decide +kernel) (by decide +kernel), hWS_in (i := 840) (by decide +kernel) (by decide +kernel), by decide +kernel⟩
theorem cfX10_together : hCF yX10_together cX10_together 1 (some .int) 0 := ⟨hWS_in (i := 1661) (by decide +kernel) (by decide +kernel), hWS_in (i := 1662) (by decide +kernel) (by decide +kernel), hWS_in (i := 11) (by decide +kernel) (by decide +kernel), hWS_in (i := 1663) (by decide +kernel) (by decide +kernel), by decide +kernel⟩
theorem cfX9_stop : hCF yX9_stop cX9_stop 2 (some .int) 1 := ⟨hWS_in (i := 846) (by decide +kernel) (by decide +kernel), hWS_in (i := 847) (by decide +kernel) (by decide +kernel), hWS_in (i := 1) (by decide +kernel) (by decide +kernel), hWS_in (i := 848) (by decide +kernel) (by decide +kernel), by decide +kernel⟩
theorem cfX10_stop : hCF yX10_stop cX10_stop 2 (some .int) 1 := ⟨hWS_in (i := 1708) (by decide +kernel) (by decide +kernel), hWS_in (i := 1709) (by decide +kernel) (by decide +kernel), hWS_in (i := 11) (by decide +kernel) (by decide +kernel), hWS_in (i := 1710) (by decide +kernel) (by decide +kernel), by decide +kernel⟩
theorem cfX9_stops : hCF yX9_stops cX9_stops 2 (some .int) 1 := ⟨hWS_in (i := 860) (by decide +kernel) (by decide +kernel), hWS_in (i := 861) (by decide +kernel) (by decide +kernel), hWS_in (i := 1) (by decide +kernel) (by decide +kernel), hWS_in (i := 862) (by decide +kernel) (by decide +kernel), by decide +kernel⟩
theorem cfX10_stops : hCF yX10_stops cX10_stops 2 (some .int) 1 := ⟨hWS_in (i := 1716) (by decide +kernel) (by decide +kernel), hWS_in (i := 1717) (by decide +kernel) (by decide +kernel), hWS_in (i := 11) (by decide +kernel) (by decide +kernel), hWS_in (i := 1718) (by decide +kernel) (by decide +kernel), by decide +kernel⟩
theorem cfX9_spoil : hCF yX9_spoil cX9_spoil 2 (some .int) 1 := ⟨hWS_in (i := 868) (by decide +kernel) (by decide +kernel), hWS_in (i := 869) (by decide +kernel) (by decide +kernel), hWS_in (i := 1) (by decide +kernel) (by decide +kernel), hWS_in (i := 870) (by decide +kernel) (by decide +kernel), by decide +kernel⟩
theorem cfX10_spoil : hCF yX10_spoil cX10_spoil 2 (some .int) 1 := ⟨hWS_in (i := 1720) (by decide +kernel) (by decide +kernel), hWS_in (i := 1721) (by decide +kernel) (by decide +kernel), hWS_in (i := 11) (by decide +kernel) (by decide +kernel), hWS_in (i := 1722) (by decide +kernel) (by decide +kernel), by decide +kernel⟩
theorem cfX9_spoilt : hCF yX9_spoilt cX9_spoilt 3 (some .int) 1 := ⟨hWS_in (i := 881) (by decide +kernel) (by decide +kernel), hWS_in (i := 882) (by decide +kernel) (by decide +kernel), hWS_in (i := 1) (by decide +kernel) (by decide +kernel), hWS_in (i := 883) (by decide +kernel) (by decide +kernel), by decide +kernel⟩
theorem cfX10_spoilt : hCF yX10_spoilt cX10_spoilt 2 (some .int) 1 := ⟨hWS_in (i := 1728) (by decide +kernel) (by decide +kernel), hWS_in (i := 1729) (by decide +kernel) (by decide +kernel), hWS_in (i := 11) (by decide +kernel) (by decide +kernel), hWS_in (i := 1730) (by decide +kernel) (by decide +kernel), by decide +kernel⟩
theorem cfX9_bribe : hCF yX9_bribe cX9_bribe 6 (some .int) 1 := ⟨hWS_in (i := 885) (by decide +kernel) (by decide +kernel), hWS_in (i := 886) (by decide +kernel) (by decide +kernel), hWS_in (i := 1) (by decide +kernel) (by decide +kernel), hWS_in (i := 887) (by decide +kernel) (by decide +kernel), by decide +kernel⟩
theorem cfX10_bribe : hCF yX10_bribe cX10_bribe 6 (some .int) 1 := ⟨hWS_in (i := 1732) (by decide +kernel) (by decide +kernel), hWS_in (i := 1733) (by decide +kernel) (by decide +kernel), hWS_in (i := 11) (by decide +kernel) (by decide +kernel), hWS_in (i := 1734) (by decide +kernel) (by decide +kernel), by decide +kernel⟩
theorem cfX9_unmark : hCF yX9_unmark cX9_unmark 6 (some .int) 1 := ⟨hWS_in (i := 889) (by decide +kernel) (by decide +kernel), hWS_in (i := 890) (by decide +kernel) (by decide +kernel), hWS_in (i := 1) (by decide +kernel) (by decide +kernel), hWS_in (i := 891) (by decide +kernel) (by decide +kernel), by decide +kernel⟩
theorem cfX10_unmark : hCF yX10_unmark cX10_unmark 6 (some .int) 1 := ⟨hWS_in (i := 1736) (by decide +kernel) (by decide +kernel), hWS_in (i := 1737) (by decide +kernel) (by decide +kernel), hWS_in (i := 11) (by decide +kernel) (by decide +kernel), hWS_in (i := 1738) (by decide +kernel) (by decide +kernel), by decide +kernel⟩
theorem cfX9_college : hCF yX9_college cX9_college 2 (some .int) 1 := ⟨hWS_in (i := 893) (by decide +kernel) (by decide +kernel), hWS_in (i := 894) (by decide +kernel) (by decide +kernel), hWS_in (i := 1) (by decide +kernel) (by decide +kernel), hWS_in (i := 895) (by decide +kernel) (by decide +kernel), by decide +kernel⟩
theorem cfX10_college : hCF yX10_college cX10_college 2 (some .int) 1 := ⟨hWS_in (i := 1740) (by decide +kernel) (by decide +kernel), hWS_in (i := 1741) (by decide +kernel) (by decide +kernel), hWS_in (i := 11) (by decide +kernel) (by decide +kernel), hWS_in (i := 1742) (by decide +kernel) (by decide +kernel), by decide +kernel⟩
theorem cfX9_chosen : hCF yX9_chosen cX9_chosen 2 (some .int) 1 := ⟨hWS_in (i := 901) (by decide +kernel) (by decide +kernel), hWS_in (i := 902) (by decide +kernel) (by decide +kernel), hWS_in (i := 1) (by decide +kernel) (by decide +kernel), hWS_in (i := 903) (by decide +kernel) (by decide +kernel), by decide +kernel⟩
theorem cfX10_chosen : hCF yX10_chosen cX10_chosen 2 (some .int) 1 := ⟨hWS_in (i := 1752) (by decide +kernel) (by decide +kernel), hWS_in (i := 1753) (by decide +kernel) (by decide +kernel), hWS_in (i := 11) (by decide +kernel) (by decide +kernel), hWS_in (i := 1754) (by decide +kernel) (by decide +kernel), by decide +kernel⟩
theorem cfX9_hold : hCF yX9_hold cX9_hold 6 (some .int) 2 := ⟨hWS_in (i := 905) (by decide +kernel) (by decide +kernel), hWS_in (i := 906) (by decide +kernel) (by decide +kernel), hWS_in (i := 1) (by decide +kernel) (by decide +kernel), hWS_in (i := 907) (by decide +kernel) (by decide +kernel), by decide +kernel⟩
theorem cfX10_hold : hCF yX10_hold cX10_hold 6 (some .int) 2 := ⟨hWS_in (i := 1756) (by decide +kernel) (by decide +kernel), hWS_in (i := 1757) (by decide +kernel) (by decide +kernel), hWS_in (i := 11) (by decide +kernel) (by decide +kernel), hWS_in (i := 1758) (by decide +kernel) (by decide +kernel), by decide +kernel⟩
theorem cfX9_idle : hCF yX9_idle cX9_idle 2 (some .int) 1 := ⟨hWS_in (i := 909) (by decide +kernel) (by decide +kernel), hWS_in (i := 910) (by decide +kernel) (by decide +kernel), hWS_in (i := 1) (by decide +kernel) (by decide +kernel), hWS_in (i := 911) (by decide +kernel) (by decide +kernel), by decide +kernel⟩
theorem cfX10_idle : hCF yX10_idle cX10_idle 4 (some .int) 1 := ⟨hWS_in (i := 1761) (by decide +kernel) (by decide +kernel), hWS_in (i := 1762) (by decide +kernel) (by decide +kernel), hWS_in (i := 11) (by decide +kernel) (by decide +kernel), hWS_in (i := 1763) (by decide +kernel) (by decide +kernel), by decide +kernel⟩
theorem cfX9_lone : hCF yX9_lone cX9_lone 2 (some .int) 1 := ⟨hWS_in (i := 917) (by decide +kernel) (by decide +kernel), hWS_in (i := 918) (by decide +kernel) (by decide +kernel), hWS_in (i := 1) (by decide +kernel) (by decide +kernel), hWS_in (i := 919) (by decide +kernel) (by decide +kernel), by decide +kernel⟩
theorem cfX10_lone : hCF yX10_lone cX10_lone 4 (some .int) 1 := ⟨hWS_in (i := 1765) (by decide +kernel) (by decide +kernel), hWS_in (i := 1766) (by decide +kernel) (by decide +kernel), hWS_in (i := 11) (by decide +kernel) (by decide +kernel), hWS_in (i := 1767) (by decide +kernel) (by decide +kernel), by decide +kernel⟩
theorem cfX9_tenure : hCF yX9_tenure cX9_tenure 6 (some .int) 1 := ⟨hWS_in (i := 921) (by decide +kernel) (by decide +kernel), hWS_in (i := 922) (by decide +kernel) (by decide +kernel), hWS_in (i := 1) (by decide +kernel) (by decide +kernel), hWS_in (i := 923) (by decide +kernel) (by decide +kernel), by decide +kernel⟩
theorem cfX10_tenure : hCF yX10_tenure cX10_tenure 4 (some .int) 1 := ⟨hWS_in (i := 1769) (by decide +kernel) (by decide +kernel), hWS_in (i := 1770) (by decide +kernel) (by decide +kernel), hWS_in (i := 11) (by decide +kernel) (by decide +kernel), hWS_in (i := 1771) (by decide +kernel) (by decide +kernel), by decide +kernel⟩
theorem cfX9_clear : hCF yX9_clear cX9_clear 2 (some .int) 1 := ⟨hWS_in (i := 926) (by decide +kernel) (by decide +kernel), hWS_in (i := 927) (by decide +kernel) (by decide +kernel), hWS_in (i := 1) (by decide +kernel) (by decide +kernel), hWS_in (i := 928) (by decide +kernel) (by decide +kernel), by decide +kernel⟩
theorem cfX10_clear : hCF yX10_clear cX10_clear 2 (some .int) 1 := ⟨hWS_in (i := 1773) (by decide +kernel) (by decide +kernel), hWS_in (i := 1774) (by decide +kernel) (by decide +kernel), hWS_in (i := 11) (by decide +kernel) (by decide +kernel), hWS_in (i := 1775) (by decide +kernel) (by decide +kernel), by decide +kernel⟩
theorem cfX9_run : hCF yX9_run cX9_run 2 (some .int) 1 := ⟨hWS_in (i := 931) (by decide +kernel) (by decide +kernel), hWS_in (i := 932) (by decide +kernel) (by decide +kernel), hWS_in (i := 1) (by decide +kernel) (by decide +kernel), hWS_in (i := 933) (by decide +kernel) (by decide +kernel), by decide +kernel⟩
theorem cfX10_run : hCF yX10_run cX10_run 2 (some .int) 1 := ⟨hWS_in (i := 1777) (by decide +kernel) (by decide +kernel), hWS_in (i := 1778) (by decide +kernel) (by decide +kernel), hWS_in (i := 11) (by decide +kernel) (by decide +kernel), hWS_in (i := 1779) (by decide +kernel) (by decide +kernel), by decide +kernel⟩
theorem cfX9_both : hCF yX9_both cX9_both 1 (some .int) 0 := ⟨hWS_in (i := 935) (by decide +kernel) (by decide +kernel), hWS_in (i := 936) (by decide +kernel) (by decide +kernel), hWS_in (i := 1) (by decide +kernel) (by decide +kernel), hWS_in (i := 937) (by decide +kernel) (by decide +kernel), by decide +kernel⟩
theorem cfX10_both : hCF yX10_both cX10_both 1 (some .int) 0 := ⟨hWS_in (i := 1781) (by decide +kernel) (by decide +kernel), hWS_in (i := 1782) (by decide +kernel) (by decide +kernel), hWS_in (i := 11) (by decide +kernel) (by decide +kernel), hWS_in (i := 1783) (by decide +kernel) (by decide +kernel), by decide +kernel⟩
theorem cfX9_falls : hCF yX9_falls cX9_falls 2 (some .int) 1 := ⟨hWS_in (i := 939) (by decide +kernel) (by decide +kernel), hWS_in (i := 940) (by decide +kernel) (by decide +kernel), hWS_in (i := 1) (by decide +kernel) (by decide +kernel), hWS_in (i := 941) (by decide +kernel) (by decide +kernel), by decide +kernel⟩
theorem cfX10_falls : hCF yX10_falls cX10_falls 2 (some .int) 1 := ⟨hWS_in (i := 1785) (by decide +kernel) (by decide +kernel), hWS_in (i := 1786) (by decide +kernel) (by decide +kernel), hWS_in (i := 11) (by decide +kernel) (by decide +kernel), hWS_in (i := 1787) (by decide +kernel) (by decide +kernel), by decide +kernel⟩
theorem cfX9_worst : hCF yX9_worst cX9_worst 5 (some .int) 0 := ⟨hWS_in (i := 952) (by decide +kernel) (by decide +kernel), hWS_in (i := 953) (by decide +kernel) (by decide +kernel), hWS_in (i := 1) (by decide +kernel) (by decide +kernel), hWS_in (i := 954) (by decide +kernel) (by decide +kernel), by decide +kernel⟩
theorem cfX10_worst : hCF yX10_worst cX10_worst 5 (some .int) 0 := ⟨hWS_in (i := 1793) (by decide +kernel) (by decide +kernel), hWS_in (i := 1794) (by decide +kernel) (by decide +kernel), hWS_in (i := 11) (by decide +kernel) (by decide +kernel), hWS_in (i := 1795) (by decide +kernel) (by decide +kernel), by decide +kernel⟩
theorem cfX9_needs : hCF yX9_needs cX9_needs 2 (some .int) 1 := ⟨hWS_in (i := 956) (by decide +kernel) (by decide +kernel), hWS_in (i := 957) (by decide +kernel) (by decide +kernel), hWS_in (i := 1) (by decide +kernel) (by decide +kernel), hWS_in (i := 958) (by decide +kernel) (by decide +kernel), by decide +kernel⟩
theorem cfX10_needs_ : hCF yX10_needs_ cX10_needs_ 2 (some .int) 1 := ⟨hWS_in (i := 1677) (by decide +kernel) (by decide +kernel), hWS_in (i := 1678) (by decide +kernel) (by decide +kernel), hWS_in (i := 11) (by decide +kernel) (by decide +kernel), hWS_in (i := 1679) (by decide +kernel) (by decide +kernel), by decide +kernel⟩
theorem cfX9_heirs : hCF yX9_heirs cX9_heirs 2 (some .int) 1 := ⟨hWS_in (i := 960) (by decide +kernel) (by decide +kernel), hWS_in (i := 961) (by decide +kernel) (by decide +kernel), hWS_in (i := 1) (by decide +kernel) (by decide +kernel), hWS_in (i := 962) (by decide +kernel) (by decide +kernel), by decide +kernel⟩
theorem cfX10_heirs : hCF yX10_heirs cX10_heirs 4 (some .int) 1 := ⟨hWS_in (i := 1685) (by decide +kernel) (by decide +kernel), hWS_in (i := 1686) (by decide +kernel) (by decide +kernel), hWS_in (i := 11) (by decide +kernel) (by decide +kernel), hWS_in (i := 1687) (by decide +kernel) (by decide +kernel), by decide +kernel⟩
theorem cfX9_fits : hCF yX9_fits cX9_fits 3 (some .int) 1 := ⟨hWS_in (i := 964) (by decide +kernel) (by decide +kernel), hWS_in (i := 965) (by decide +kernel) (by decide +kernel), hWS_in (i := 1) (by decide +kernel) (by decide +kernel), hWS_in (i := 966) (by decide +kernel) (by decide +kernel), by decide +kernel⟩
theorem cfX10_fits : hCF yX10_fits cX10_fits 3 (some .int) 1 := ⟨hWS_in (i := 1801) (by decide +kernel) (by decide +kernel), hWS_in (i := 1802) (by decide +kernel) (by decide +kernel), hWS_in (i := 11) (by decide +kernel) (by decide +kernel), hWS_in (i := 1803) (by decide +kernel) (by decide +kernel), by decide +kernel⟩
theorem cfX9_fed : hCF yX9_fed cX9_fed 3 (some .int) 1 := ⟨hWS_in (i := 994) (by decide +kernel) (by decide +kernel), hWS_in (i := 995) (by decide +kernel) (by decide +kernel), hWS_in (i := 1) (by decide +kernel) (by decide +kernel), hWS_in (i := 996) (by decide +kernel) (by decide +kernel), by decide +kernel⟩
theorem cfX10_fed : hCF yX10_fed cX10_fed 3 (some .int) 1 := ⟨hWS_in (i := 1821) (by decide +kernel) (by decide +kernel), hWS_in (i := 1822) (by decide +kernel) (by decide +kernel), hWS_in (i := 11) (by decide +kernel) (by decide +kernel), hWS_in (i := 1823) (by decide +kernel) (by decide +kernel), by decide +kernel⟩
theorem cfX9_starved : hCF yX9_starved cX9_starved 3 (some .int) 1 := ⟨hWS_in (i := 998) (by decide +kernel) (by decide +kernel), hWS_in (i := 999) (by decide +kernel) (by decide +kernel), hWS_in (i := 1) (by decide +kernel) (by decide +kernel), hWS_in (i := 1000) (by decide +kernel) (by decide +kernel), by decide +kernel⟩
theorem cfX10_starved : hCF yX10_starved cX10_starved 3 (some .int) 1 := ⟨hWS_in (i := 1829) (by decide +kernel) (by decide +kernel), hWS_in (i := 1830) (by decide +kernel) (by decide +kernel), hWS_in (i := 11) (by decide +kernel) (by decide +kernel), hWS_in (i := 1831) (by decide +kernel) (by decide +kernel), by decide +kernel⟩
theorem cfX9_least : hCF yX9_least cX9_least 3 (some .int) 1 := ⟨hWS_in (i := 1002) (by decide +kernel) (by decide +kernel), hWS_in (i := 1003) (by decide +kernel) (by decide +kernel), hWS_in (i := 1) (by decide +kernel) (by decide +kernel), hWS_in (i := 1004) (by decide +kernel) (by decide +kernel), by decide +kernel⟩
theorem cfX10_least : hCF yX10_least cX10_least 3 (some .int) 1 := ⟨hWS_in (i := 1833) (by decide +kernel) (by decide +kernel), hWS_in (i := 1834) (by decide +kernel) (by decide +kernel), hWS_in (i := 11) (by decide +kernel) (by decide +kernel), hWS_in (i := 1835) (by decide +kernel) (by decide +kernel), by decide +kernel⟩
theorem cfX9_ask : hCF yX9_ask cX9_ask 3 (some .int) 1 := ⟨hWS_in (i := 1006) (by decide +kernel) (by decide +kernel), hWS_in (i := 1007) (by decide +kernel) (by decide +kernel), hWS_in (i := 1) (by decide +kernel) (by decide +kernel), hWS_in (i := 1008) (by decide +kernel) (by decide +kernel), by decide +kernel⟩
theorem cfX10_ask : hCF yX10_ask cX10_ask 3 (some .int) 1 := ⟨hWS_in (i := 1837) (by decide +kernel) (by decide +kernel), hWS_in (i := 1838) (by decide +kernel) (by decide +kernel), hWS_in (i := 11) (by decide +kernel) (by decide +kernel), hWS_in (i := 1839) (by decide +kernel) (by decide +kernel), by decide +kernel⟩
theorem cfX9_leaves : hCF yX9_leaves cX9_leaves 4 (some .int) 1 := ⟨hWS_in (i := 1019) (by decide +kernel) (by decide +kernel), hWS_in (i := 1020) (by decide +kernel) (by decide +kernel), hWS_in (i := 1) (by decide +kernel) (by decide +kernel), hWS_in (i := 1021) (by decide +kernel) (by decide +kernel), by decide +kernel⟩
theorem cfX10_leaves : hCF yX10_leaves cX10_leaves 3 (some .int) 1 := ⟨hWS_in (i := 1845) (by decide +kernel) (by decide +kernel), hWS_in (i := 1846) (by decide +kernel) (by decide +kernel), hWS_in (i := 11) (by decide +kernel) (by decide +kernel), hWS_in (i := 1847) (by decide +kernel) (by decide +kernel), by decide +kernel⟩
theorem cfX9_tally : hCF yX9_tally cX9_tally 5 (some .int) 3 := ⟨hWS_in (i := 1024) (by decide +kernel) (by decide +kernel), hWS_in (i := 1025) (by decide +kernel) (by decide +kernel), hWS_in (i := 1) (by decide +kernel) (by decide +kernel), hWS_in (i := 1026) (by decide +kernel) (by decide +kernel), by decide +kernel⟩
theorem cfX10_tally : hCF yX10_tally cX10_tally 5 (some .int) 3 := ⟨hWS_in (i := 1849) (by decide +kernel) (by decide +kernel), hWS_in (i := 1850) (by decide +kernel) (by decide +kernel), hWS_in (i := 11) (by decide +kernel) (by decide +kernel), hWS_in (i := 1851) (by decide +kernel) (by decide +kernel), by decide +kernel⟩
theorem cfX9_doubt : hCF yX9_doubt cX9_doubt 8 (some .long) 2 := ⟨hWS_in (i := 1042) (by decide +kernel) (by decide +kernel), hWS_in (i := 1043) (by decide +kernel) (by decide +kernel), hWS_in (i := 1) (by decide +kernel) (by decide +kernel), hWS_in (i := 1044) (by decide +kernel) (by decide +kernel), by decide +kernel⟩
theorem cfX10_doubt : hCF yX10_doubt cX10_doubt 10 (some .long) 2 := ⟨hWS_in (i := 1857) (by decide +kernel) (by decide +kernel), hWS_in (i := 1858) (by decide +kernel) (by decide +kernel), hWS_in (i := 11) (by decide +kernel) (by decide +kernel), hWS_in (i := 1859) (by decide +kernel) (by decide +kernel), by decide +kernel⟩
theorem cfX9_share : hCF yX9_share cX9_share 6 (some .int) 3 := ⟨hWS_in (i := 1073) (by decide +kernel) (by decide +kernel), hWS_in (i := 1074) (by decide +kernel) (by decide +kernel), hWS_in (i := 1) (by decide +kernel) (by decide +kernel), hWS_in (i := 1075) (by decide +kernel) (by decide +kernel), by decide +kernel⟩
theorem cfX10_share : hCF yX10_share cX10_share 6 (some .int) 3 := ⟨hWS_in (i := 1870) (by decide +kernel) (by decide +kernel), hWS_in (i := 1871) (by decide +kernel) (by decide +kernel), hWS_in (i := 11) (by decide +kernel) (by decide +kernel), hWS_in (i := 1872) (by decide +kernel) (by decide +kernel), by decide +kernel⟩
theorem cfX9_leans : hCF yX9_leans cX9_leans 5 (some .int) 1 := ⟨hWS_in (i := 1078) (by decide +kernel) (by decide +kernel), hWS_in (i := 1079) (by decide +kernel) (by decide +kernel), hWS_in (i := 1) (by decide +kernel) (by decide +kernel), hWS_in (i := 1080) (by decide +kernel) (by decide +kernel), by decide +kernel⟩
theorem cfX10_leans : hCF yX10_leans cX10_leans 5 (some .int) 1 := ⟨hWS_in (i := 1874) (by decide +kernel) (by decide +kernel), hWS_in (i := 1875) (by decide +kernel) (by decide +kernel), hWS_in (i := 11) (by decide +kernel) (by decide +kernel), hWS_in (i := 1876) (by decide +kernel) (by decide +kernel), by decide +kernel⟩
theorem cfX9_rests : hCF yX9_rests cX9_rests 5 (some .int) 2 := ⟨hWS_in (i := 1085) (by decide +kernel) (by decide +kernel), hWS_in (i := 1086) (by decide +kernel) (by decide +kernel), hWS_in (i := 1) (by decide +kernel) (by decide +kernel), hWS_in (i := 1087) (by decide +kernel) (by decide +kernel), by decide +kernel⟩
theorem cfX10_rests : hCF yX10_rests cX10_rests 5 (some .int) 2 := ⟨hWS_in (i := 1879) (by decide +kernel) (by decide +kernel), hWS_in (i := 1880) (by decide +kernel) (by decide +kernel), hWS_in (i := 11) (by decide +kernel) (by decide +kernel), hWS_in (i := 1881) (by decide +kernel) (by decide +kernel), by decide +kernel⟩
theorem cfX9_believes : hCF yX9_believes cX9_believes 3 (some .int) 1 := ⟨hWS_in (i := 1101) (by decide +kernel) (by decide +kernel), hWS_in (i := 1102) (by decide +kernel) (by decide +kernel), hWS_in (i := 1) (by decide +kernel) (by decide +kernel), hWS_in (i := 1103) (by decide +kernel) (by decide +kernel), by decide +kernel⟩
theorem cfX10_believes : hCF yX10_believes cX10_believes 3 (some .int) 1 := ⟨hWS_in (i := 1893) (by decide +kernel) (by decide +kernel), hWS_in (i := 1894) (by decide +kernel) (by decide +kernel), hWS_in (i := 11) (by decide +kernel) (by decide +kernel), hWS_in (i := 1895) (by decide +kernel) (by decide +kernel), by decide +kernel⟩
theorem cfX9_chance : hCF yX9_chance cX9_chance 8 (some .long) 1 := ⟨hWS_in (i := 1105) (by decide +kernel) (by decide +kernel), hWS_in (i := 1106) (by decide +kernel) (by decide +kernel), hWS_in (i := 1) (by decide +kernel) (by decide +kernel), hWS_in (i := 1107) (by decide +kernel) (by decide +kernel), by decide +kernel⟩
theorem cfX10_chance : hCF yX10_chance cX10_chance 7 (some .long) 1 := ⟨hWS_in (i := 1897) (by decide +kernel) (by decide +kernel), hWS_in (i := 1898) (by decide +kernel) (by decide +kernel), hWS_in (i := 11) (by decide +kernel) (by decide +kernel), hWS_in (i := 1899) (by decide +kernel) (by decide +kernel), by decide +kernel⟩
theorem cfX9_asks : hCF yX9_asks cX9_asks 3 (some .int) 2 := ⟨hWS_in (i := 1110) (by decide +kernel) (by decide +kernel), hWS_in (i := 1111) (by decide +kernel) (by decide +kernel), hWS_in (i := 1) (by decide +kernel) (by decide +kernel), hWS_in (i := 1112) (by decide +kernel) (by decide +kernel), by decide +kernel⟩
theorem cfX10_asks : hCF yX10_asks cX10_asks 3 (some .int) 2 := ⟨hWS_in (i := 1902) (by decide +kernel) (by decide +kernel), hWS_in (i := 1903) (by decide +kernel) (by decide +kernel), hWS_in (i := 11) (by decide +kernel) (by decide +kernel), hWS_in (i := 1904) (by decide +kernel) (by decide +kernel), by decide +kernel⟩
theorem cfX9_feeds : hCF yX9_feeds cX9_feeds 2 (some .int) 1 := ⟨hWS_in (i := 1128) (by decide +kernel) (by decide +kernel), hWS_in (i := 1129) (by decide +kernel) (by decide +kernel), hWS_in (i := 1) (by decide +kernel) (by decide +kernel), hWS_in (i := 1130) (by decide +kernel) (by decide +kernel), by decide +kernel⟩
theorem cfX10_feeds : hCF yX10_feeds cX10_feeds 2 (some .int) 1 := ⟨hWS_in (i := 1910) (by decide +kernel) (by decide +kernel), hWS_in (i := 1911) (by decide +kernel) (by decide +kernel), hWS_in (i := 11) (by decide +kernel) (by decide +kernel), hWS_in (i := 1912) (by decide +kernel) (by decide +kernel), by decide +kernel⟩
theorem cfX9_undo : hCF yX9_undo cX9_undo 1 (some .int) 0 := ⟨hWS_in (i := 1132) (by decide +kernel) (by decide +kernel), hWS_in (i := 1133) (by decide +kernel) (by decide +kernel), hWS_in (i := 1) (by decide +kernel) (by decide +kernel), hWS_in (i := 1134) (by decide +kernel) (by decide +kernel), by decide +kernel⟩
theorem cfX10_undo : hCF yX10_undo cX10_undo 1 (some .int) 0 := ⟨hWS_in (i := 1914) (by decide +kernel) (by decide +kernel), hWS_in (i := 1915) (by decide +kernel) (by decide +kernel), hWS_in (i := 11) (by decide +kernel) (by decide +kernel), hWS_in (i := 1916) (by decide +kernel) (by decide +kernel), by decide +kernel⟩
theorem cfX9_anew : hCF yX9_anew cX9_anew 2 (some .int) 0 := ⟨hWS_in (i := 1136) (by decide +kernel) (by decide +kernel), hWS_in (i := 1137) (by decide +kernel) (by decide +kernel), hWS_in (i := 1) (by decide +kernel) (by decide +kernel), hWS_in (i := 1138) (by decide +kernel) (by decide +kernel), by decide +kernel⟩
theorem cfX10_anew : hCF yX10_anew cX10_anew 2 (some .int) 0 := ⟨hWS_in (i := 1918) (by decide +kernel) (by decide +kernel), hWS_in (i := 1919) (by decide +kernel) (by decide +kernel), hWS_in (i := 11) (by decide +kernel) (by decide +kernel), hWS_in (i := 1920) (by decide +kernel) (by decide +kernel), by decide +kernel⟩
theorem cfX9_drawn : hCF yX9_drawn cX9_drawn 3 (some .int) 2 := ⟨hWS_in (i := 1140) (by decide +kernel) (by decide +kernel), hWS_in (i := 1141) (by decide +kernel) (by decide +kernel), hWS_in (i := 1) (by decide +kernel) (by decide +kernel), hWS_in (i := 1142) (by decide +kernel) (by decide +kernel), by decide +kernel⟩
theorem cfX10_drawn : hCF yX10_drawn cX10_drawn 4 (some .int) 2 := ⟨hWS_in (i := 1922) (by decide +kernel) (by decide +kernel), hWS_in (i := 1923) (by decide +kernel) (by decide +kernel), hWS_in (i := 11) (by decide +kernel) (by decide +kernel), hWS_in (i := 1924) (by decide +kernel) (by decide +kernel), by decide +kernel⟩
theorem cfX9_luck : hCF yX9_luck cX9_luck 6 (some .int) 3 := ⟨hWS_in (i := 1152) (by decide +kernel) (by decide +kernel), hWS_in (i := 1153) (by decide +kernel) (by decide +kernel), hWS_in (i := 1) (by decide +kernel) (by decide +kernel), hWS_in (i := 1154) (by decide +kernel) (by decide +kernel), by decide +kernel⟩
theorem cfX10_luck : hCF yX10_luck cX10_luck 6 (some .int) 3 := ⟨hWS_in (i := 1934) (by decide +kernel) (by decide +kernel), hWS_in (i := 1935) (by decide +kernel) (by decide +kernel), hWS_in (i := 11) (by decide +kernel) (by decide +kernel), hWS_in (i := 1936) (by decide +kernel) (by decide +kernel), by decide +kernel⟩
theorem cfX9_rate : hCF yX9_rate cX9_rate 4 (some .int) 2 := ⟨hWS_in (i := 1156) (by decide +kernel) (by decide +kernel), hWS_in (i := 1157) (by decide +kernel) (by decide +kernel), hWS_in (i := 1) (by decide +kernel) (by decide +kernel), hWS_in (i := 1158) (by decide +kernel) (by decide +kernel), by decide +kernel⟩
theorem cfX10_rate : hCF yX10_rate cX10_rate 4 (some .int) 2 := ⟨hWS_in (i := 1939) (by decide +kernel) (by decide +kernel), hWS_in (i := 1940) (by decide +kernel) (by decide +kernel), hWS_in (i := 11) (by decide +kernel) (by decide +kernel), hWS_in (i := 1941) (by decide +kernel) (by decide +kernel), by decide +kernel⟩
theorem cfX9_count : hCF yX9_count cX9_count 2 (some .int) 1 := ⟨hWS_in (i := 1160) (by decide +kernel) (by decide +kernel), hWS_in (i := 1161) (by decide +kernel) (by decide +kernel), hWS_in (i := 1) (by decide +kernel) (by decide +kernel), hWS_in (i := 1162) (by decide +kernel) (by decide +kernel), by decide +kernel⟩
theorem cfX10_count : hCF yX10_count cX10_count 4 (some .int) 1 := ⟨hWS_in (i := 1943) (by decide +kernel) (by decide +kernel), hWS_in (i := 1944) (by decide +kernel) (by decide +kernel), hWS_in (i := 11) (by decide +kernel) (by decide +kernel), hWS_in (i := 1945) (by decide +kernel) (by decide +kernel), by decide +kernel⟩
theorem cfX9_image : hCF yX9_image cX9_image 2 (some .int) 1 := ⟨hWS_in (i := 1168) (by decide +kernel) (by decide +kernel), hWS_in (i := 1169) (by decide +kernel) (by decide +kernel), hWS_in (i := 1) (by decide +kernel) (by decide +kernel), hWS_in (i := 1170) (by decide +kernel) (by decide +kernel), by decide +kernel⟩
theorem cfX10_image : hCF yX10_image cX10_image 3 (some .int) 1 := ⟨hWS_in (i := 1344) (by decide +kernel) (by decide +kernel), hWS_in (i := 1345) (by decide +kernel) (by decide +kernel), hWS_in (i := 11) (by decide +kernel) (by decide +kernel), hWS_in (i := 1346) (by decide +kernel) (by decide +kernel), by decide +kernel⟩
theorem cfX9_back : hCF yX9_back cX9_back 2 (some .int) 1 := ⟨hWS_in (i := 1182) (by decide +kernel) (by decide +kernel), hWS_in (i := 1183) (by decide +kernel) (by decide +kernel), hWS_in (i := 1) (by decide +kernel) (by decide +kernel), hWS_in (i := 1184) (by decide +kernel) (by decide +kernel), by decide +kernel⟩
theorem cfX10_back : hCF yX10_back cX10_back 3 (some .int) 1 := ⟨hWS_in (i := 1352) (by decide +kernel) (by decide +kernel), hWS_in (i := 1353) (by decide +kernel) (by decide +kernel), hWS_in (i := 11) (by decide +kernel) (by decide +kernel), hWS_in (i := 1354) (by decide +kernel) (by decide +kernel), by decide +kernel⟩
theorem cfX9_row : hCF yX9_row cX9_row 4 (some .int) 3 := ⟨hWS_in (i := 1186) (by decide +kernel) (by decide +kernel), hWS_in (i := 1187) (by decide +kernel) (by decide +kernel), hWS_in (i := 1) (by decide +kernel) (by decide +kernel), hWS_in (i := 1188) (by decide +kernel) (by decide +kernel), by decide +kernel⟩
theorem cfX10_row : hCF yX10_row cX10_row 5 (some .int) 3 := ⟨hWS_in (i := 1948) (by decide +kernel) (by decide +kernel), hWS_in (i := 1949) (by decide +kernel) (by decide +kernel), hWS_in (i := 11) (by decide +kernel) (by decide +kernel), hWS_in (i := 1950) (by decide +kernel) (by decide +kernel), by decide +kernel⟩
theorem cfX9_write : hCF yX9_write cX9_write 6 (some .int) 3 := ⟨hWS_in (i := 1194) (by decide +kernel) (by decide +kernel), hWS_in (i := 1195) (by decide +kernel) (by decide +kernel), hWS_in (i := 1) (by decide +kernel) (by decide +kernel), hWS_in (i := 1196) (by decide +kernel) (by decide +kernel), by decide +kernel⟩
theorem cfX10_write : hCF yX10_write cX10_write 5 (some .int) 3 := ⟨hWS_in (i := 1952) (by decide +kernel) (by decide +kernel), hWS_in (i := 1953) (by decide +kernel) (by decide +kernel), hWS_in (i := 11) (by decide +kernel) (by decide +kernel), hWS_in (i := 1954) (by decide +kernel) (by decide +kernel), by decide +kernel⟩
theorem cfX9_paste : hCF yX9_paste cX9_paste 8 (some .int) 5 := ⟨hWS_in (i := 1202) (by decide +kernel) (by decide +kernel), hWS_in (i := 1203) (by decide +kernel) (by decide +kernel), hWS_in (i := 1) (by decide +kernel) (by decide +kernel), hWS_in (i := 1204) (by decide +kernel) (by decide +kernel), by decide +kernel⟩
theorem cfX10_paste : hCF yX10_paste cX10_paste 7 (some .int) 5 := ⟨hWS_in (i := 1959) (by decide +kernel) (by decide +kernel), hWS_in (i := 1960) (by decide +kernel) (by decide +kernel), hWS_in (i := 11) (by decide +kernel) (by decide +kernel), hWS_in (i := 1961) (by decide +kernel) (by decide +kernel), by decide +kernel⟩
theorem wl0 : Cond.methodLink "SacredHensLaw" 13 ⟨"SacredHens", "feed", "(IIIII)I"⟩ ∈ hWS := hWS_in (i := 369) (by decide +kernel) (by decide +kernel)
theorem wl1 : Cond.methodLink "SacredHensLaw" 17 ⟨"SacredHensModel", "feed", "(IIIII)I"⟩ ∈ hWS := hWS_in (i := 1355) (by decide +kernel) (by decide +kernel)
theorem wl2 : Cond.methodLink "SacredHensLaw" 18 ⟨"SacredHens", "end", "(I)I"⟩ ∈ hWS := hWS_in (i := 377) (by decide +kernel) (by decide +kernel)
theorem wl3 : Cond.methodLink "SacredHensLaw" 22 ⟨"SacredHensModel", "end", "(I)I"⟩ ∈ hWS := hWS_in (i := 1359) (by decide +kernel) (by decide +kernel)
theorem wl4 : Cond.methodLink "SacredHensLaw" 23 ⟨"SacredHens", "camp", "()I"⟩ ∈ hWS := hWS_in (i := 381) (by decide +kernel) (by decide +kernel)
theorem wl5 : Cond.methodLink "SacredHensLaw" 27 ⟨"SacredHensModel", "camp", "()I"⟩ ∈ hWS := hWS_in (i := 1367) (by decide +kernel) (by decide +kernel)
theorem wl6 : Cond.methodLink "SacredHensLaw" 28 ⟨"SacredHens", "fault", "(I)I"⟩ ∈ hWS := hWS_in (i := 508) (by decide +kernel) (by decide +kernel)
theorem wl7 : Cond.methodLink "SacredHensLaw" 31 ⟨"SacredHensModel", "fault", "(I)I"⟩ ∈ hWS := hWS_in (i := 1363) (by decide +kernel) (by decide +kernel)
theorem wl8 : Cond.methodLink "SacredHensLaw" 32 ⟨"SacredHens", "augur", "(II)I"⟩ ∈ hWS := hWS_in (i := 512) (by decide +kernel) (by decide +kernel)
theorem wl9 : Cond.methodLink "SacredHensLaw" 36 ⟨"SacredHensModel", "augur", "(II)I"⟩ ∈ hWS := hWS_in (i := 1448) (by decide +kernel) (by decide +kernel)
theorem wl10 : Cond.methodLink "SacredHensLaw" 37 ⟨"SacredHens", "bill", "(II)I"⟩ ∈ hWS := hWS_in (i := 520) (by decide +kernel) (by decide +kernel)
theorem wl11 : Cond.methodLink "SacredHensLaw" 40 ⟨"SacredHensModel", "bill", "(II)I"⟩ ∈ hWS := hWS_in (i := 1460) (by decide +kernel) (by decide +kernel)
theorem wl12 : Cond.methodLink "SacredHensLaw" 41 ⟨"SacredHens", "marks", "()I"⟩ ∈ hWS := hWS_in (i := 528) (by decide +kernel) (by decide +kernel)
theorem wl13 : Cond.methodLink "SacredHensLaw" 44 ⟨"SacredHensModel", "marks", "()I"⟩ ∈ hWS := hWS_in (i := 1472) (by decide +kernel) (by decide +kernel)
theorem wl14 : Cond.methodLink "SacredHensLaw" 45 ⟨"SacredHens", "sky", "(I)I"⟩ ∈ hWS := hWS_in (i := 536) (by decide +kernel) (by decide +kernel)
theorem wl15 : Cond.methodLink "SacredHensLaw" 48 ⟨"SacredHensModel", "sky", "(I)I"⟩ ∈ hWS := hWS_in (i := 1480) (by decide +kernel) (by decide +kernel)
theorem wl16 : Cond.methodLink "SacredHensLaw" 49 ⟨"SacredHens", "watch", "(I)I"⟩ ∈ hWS := hWS_in (i := 563) (by decide +kernel) (by decide +kernel)
theorem wl17 : Cond.methodLink "SacredHensLaw" 52 ⟨"SacredHensModel", "watch", "(I)I"⟩ ∈ hWS := hWS_in (i := 1507) (by decide +kernel) (by decide +kernel)
theorem wl18 : Cond.methodLink "SacredHensLaw" 53 ⟨"SacredHens", "hunger", "(I)I"⟩ ∈ hWS := hWS_in (i := 575) (by decide +kernel) (by decide +kernel)
theorem wl19 : Cond.methodLink "SacredHensLaw" 56 ⟨"SacredHensModel", "hunger", "(I)I"⟩ ∈ hWS := hWS_in (i := 1515) (by decide +kernel) (by decide +kernel)
theorem wl20 : Cond.methodLink "SacredHensLaw" 57 ⟨"SacredHens", "eat", "()I"⟩ ∈ hWS := hWS_in (i := 623) (by decide +kernel) (by decide +kernel)
theorem wl21 : Cond.methodLink "SacredHensLaw" 60 ⟨"SacredHensModel", "eat", "()I"⟩ ∈ hWS := hWS_in (i := 1552) (by decide +kernel) (by decide +kernel)
theorem wl22 : Cond.methodLink "SacredHensLaw" 61 ⟨"SacredHens", "open", "(I)I"⟩ ∈ hWS := hWS_in (i := 627) (by decide +kernel) (by decide +kernel)
theorem wl23 : Cond.methodLink "SacredHensLaw" 64 ⟨"SacredHensModel", "open", "(I)I"⟩ ∈ hWS := hWS_in (i := 1556) (by decide +kernel) (by decide +kernel)
theorem wl24 : Cond.methodLink "SacredHensLaw" 65 ⟨"SacredHens", "best", "(I)I"⟩ ∈ hWS := hWS_in (i := 635) (by decide +kernel) (by decide +kernel)
theorem wl25 : Cond.methodLink "SacredHensLaw" 68 ⟨"SacredHensModel", "best", "(I)I"⟩ ∈ hWS := hWS_in (i := 1560) (by decide +kernel) (by decide +kernel)
theorem wl26 : Cond.methodLink "SacredHensLaw" 69 ⟨"SacredHens", "asked", "()I"⟩ ∈ hWS := hWS_in (i := 639) (by decide +kernel) (by decide +kernel)
theorem wl27 : Cond.methodLink "SacredHensLaw" 72 ⟨"SacredHensModel", "asked", "()I"⟩ ∈ hWS := hWS_in (i := 1564) (by decide +kernel) (by decide +kernel)
theorem wl28 : Cond.methodLink "SacredHensLaw" 73 ⟨"SacredHens", "fattened", "()I"⟩ ∈ hWS := hWS_in (i := 647) (by decide +kernel) (by decide +kernel)
theorem wl29 : Cond.methodLink "SacredHensLaw" 76 ⟨"SacredHensModel", "fattened", "()I"⟩ ∈ hWS := hWS_in (i := 1572) (by decide +kernel) (by decide +kernel)
theorem wl30 : Cond.methodLink "SacredHensLaw" 77 ⟨"SacredHens", "fast", "()I"⟩ ∈ hWS := hWS_in (i := 655) (by decide +kernel) (by decide +kernel)
theorem wl31 : Cond.methodLink "SacredHensLaw" 80 ⟨"SacredHensModel", "fast", "()I"⟩ ∈ hWS := hWS_in (i := 1576) (by decide +kernel) (by decide +kernel)
theorem wl32 : Cond.methodLink "SacredHensLaw" 81 ⟨"SacredHens", "first", "(I)I"⟩ ∈ hWS := hWS_in (i := 667) (by decide +kernel) (by decide +kernel)
theorem wl33 : Cond.methodLink "SacredHensLaw" 84 ⟨"SacredHensModel", "first", "(I)I"⟩ ∈ hWS := hWS_in (i := 1589) (by decide +kernel) (by decide +kernel)
theorem wl34 : Cond.methodLink "SacredHensLaw" 85 ⟨"SacredHens", "passed", "(I)I"⟩ ∈ hWS := hWS_in (i := 675) (by decide +kernel) (by decide +kernel)
theorem wl35 : Cond.methodLink "SacredHensLaw" 88 ⟨"SacredHensModel", "passed", "(I)I"⟩ ∈ hWS := hWS_in (i := 1593) (by decide +kernel) (by decide +kernel)
theorem wl36 : Cond.methodLink "SacredHensLaw" 89 ⟨"SacredHens", "when", "(I)I"⟩ ∈ hWS := hWS_in (i := 683) (by decide +kernel) (by decide +kernel)
theorem wl37 : Cond.methodLink "SacredHensLaw" 92 ⟨"SacredHensModel", "when", "(I)I"⟩ ∈ hWS := hWS_in (i := 1597) (by decide +kernel) (by decide +kernel)
theorem wl38 : Cond.methodLink "SacredHensLaw" 93 ⟨"SacredHens", "why", "(I)I"⟩ ∈ hWS := hWS_in (i := 687) (by decide +kernel) (by decide +kernel)
theorem wl39 : Cond.methodLink "SacredHensLaw" 96 ⟨"SacredHensModel", "why", "(I)I"⟩ ∈ hWS := hWS_in (i := 1605) (by decide +kernel) (by decide +kernel)
theorem wl40 : Cond.methodLink "SacredHensLaw" 97 ⟨"SacredHens", "worth", "(I)I"⟩ ∈ hWS := hWS_in (i := 691) (by decide +kernel) (by decide +kernel)
theorem wl41 : Cond.methodLink "SacredHensLaw" 100 ⟨"SacredHensModel", "worth", "(I)I"⟩ ∈ hWS := hWS_in (i := 1609) (by decide +kernel) (by decide +kernel)
theorem wl42 : Cond.methodLink "SacredHensLaw" 101 ⟨"SacredHens", "plan", "(I)I"⟩ ∈ hWS := hWS_in (i := 707) (by decide +kernel) (by decide +kernel)
theorem wl43 : Cond.methodLink "SacredHensLaw" 104 ⟨"SacredHensModel", "plan", "(I)I"⟩ ∈ hWS := hWS_in (i := 1613) (by decide +kernel) (by decide +kernel)
theorem wl44 : Cond.methodLink "SacredHensLaw" 105 ⟨"SacredHens", "planned", "(II)I"⟩ ∈ hWS := hWS_in (i := 757) (by decide +kernel) (by decide +kernel)
theorem wl45 : Cond.methodLink "SacredHensLaw" 108 ⟨"SacredHensModel", "planned", "(II)I"⟩ ∈ hWS := hWS_in (i := 1656) (by decide +kernel) (by decide +kernel)
theorem wl46 : Cond.methodLink "SacredHensLaw" 109 ⟨"SacredHens", "ways", "(I)I"⟩ ∈ hWS := hWS_in (i := 769) (by decide +kernel) (by decide +kernel)
theorem wl47 : Cond.methodLink "SacredHensLaw" 112 ⟨"SacredHensModel", "ways", "(I)I"⟩ ∈ hWS := hWS_in (i := 1648) (by decide +kernel) (by decide +kernel)
theorem wl48 : Cond.methodLink "SacredHensLaw" 113 ⟨"SacredHens", "many", "(I)I"⟩ ∈ hWS := hWS_in (i := 777) (by decide +kernel) (by decide +kernel)
theorem wl49 : Cond.methodLink "SacredHensLaw" 116 ⟨"SacredHensModel", "many", "(I)I"⟩ ∈ hWS := hWS_in (i := 1652) (by decide +kernel) (by decide +kernel)
theorem wl50 : Cond.methodLink "SacredHensLaw" 117 ⟨"SacredHens", "soonest", "(I)I"⟩ ∈ hWS := hWS_in (i := 785) (by decide +kernel) (by decide +kernel)
theorem wl51 : Cond.methodLink "SacredHensLaw" 120 ⟨"SacredHensModel", "soonest", "(I)I"⟩ ∈ hWS := hWS_in (i := 1703) (by decide +kernel) (by decide +kernel)
theorem wl52 : Cond.methodLink "SacredHensLaw" 121 ⟨"SacredHens", "latest", "(I)I"⟩ ∈ hWS := hWS_in (i := 810) (by decide +kernel) (by decide +kernel)
theorem wl53 : Cond.methodLink "SacredHensLaw" 124 ⟨"SacredHensModel", "latest", "(I)I"⟩ ∈ hWS := hWS_in (i := 1695) (by decide +kernel) (by decide +kernel)
theorem wl54 : Cond.methodLink "SacredHensLaw" 125 ⟨"SacredHens", "deepest", "()I"⟩ ∈ hWS := hWS_in (i := 819) (by decide +kernel) (by decide +kernel)
theorem wl55 : Cond.methodLink "SacredHensLaw" 128 ⟨"SacredHensModel", "deepest", "()I"⟩ ∈ hWS := hWS_in (i := 1688) (by decide +kernel) (by decide +kernel)
theorem wl56 : Cond.methodLink "SacredHensLaw" 129 ⟨"SacredHens", "without", "(I)I"⟩ ∈ hWS := hWS_in (i := 825) (by decide +kernel) (by decide +kernel)
theorem wl57 : Cond.methodLink "SacredHensLaw" 132 ⟨"SacredHensModel", "without", "(I)I"⟩ ∈ hWS := hWS_in (i := 1664) (by decide +kernel) (by decide +kernel)
theorem wl58 : Cond.methodLink "SacredHensLaw" 133 ⟨"SacredHens", "value", "(I)I"⟩ ∈ hWS := hWS_in (i := 833) (by decide +kernel) (by decide +kernel)
theorem wl59 : Cond.methodLink "SacredHensLaw" 136 ⟨"SacredHensModel", "value", "(I)I"⟩ ∈ hWS := hWS_in (i := 1672) (by decide +kernel) (by decide +kernel)
theorem wl60 : Cond.methodLink "SacredHensLaw" 137 ⟨"SacredHens", "together", "()I"⟩ ∈ hWS := hWS_in (i := 837) (by decide +kernel) (by decide +kernel)
theorem wl61 : Cond.methodLink "SacredHensLaw" 140 ⟨"SacredHensModel", "together", "()I"⟩ ∈ hWS := hWS_in (i := 1660) (by decide +kernel) (by decide +kernel)
theorem wl62 : Cond.methodLink "SacredHensLaw" 141 ⟨"SacredHens", "stop", "(I)I"⟩ ∈ hWS := hWS_in (i := 845) (by decide +kernel) (by decide +kernel)
theorem wl63 : Cond.methodLink "SacredHensLaw" 144 ⟨"SacredHensModel", "stop", "(I)I"⟩ ∈ hWS := hWS_in (i := 1707) (by decide +kernel) (by decide +kernel)
theorem wl64 : Cond.methodLink "SacredHensLaw" 145 ⟨"SacredHens", "stops", "(I)I"⟩ ∈ hWS := hWS_in (i := 859) (by decide +kernel) (by decide +kernel)
theorem wl65 : Cond.methodLink "SacredHensLaw" 148 ⟨"SacredHensModel", "stops", "(I)I"⟩ ∈ hWS := hWS_in (i := 1715) (by decide +kernel) (by decide +kernel)
theorem wl66 : Cond.methodLink "SacredHensLaw" 149 ⟨"SacredHens", "spoil", "(I)I"⟩ ∈ hWS := hWS_in (i := 867) (by decide +kernel) (by decide +kernel)
theorem wl67 : Cond.methodLink "SacredHensLaw" 152 ⟨"SacredHensModel", "spoil", "(I)I"⟩ ∈ hWS := hWS_in (i := 1719) (by decide +kernel) (by decide +kernel)
theorem wl68 : Cond.methodLink "SacredHensLaw" 153 ⟨"SacredHens", "spoilt", "(I)I"⟩ ∈ hWS := hWS_in (i := 880) (by decide +kernel) (by decide +kernel)
theorem wl69 : Cond.methodLink "SacredHensLaw" 156 ⟨"SacredHensModel", "spoilt", "(I)I"⟩ ∈ hWS := hWS_in (i := 1727) (by decide +kernel) (by decide +kernel)
theorem wl70 : Cond.methodLink "SacredHensLaw" 157 ⟨"SacredHens", "bribe", "(I)I"⟩ ∈ hWS := hWS_in (i := 884) (by decide +kernel) (by decide +kernel)
theorem wl71 : Cond.methodLink "SacredHensLaw" 160 ⟨"SacredHensModel", "bribe", "(I)I"⟩ ∈ hWS := hWS_in (i := 1731) (by decide +kernel) (by decide +kernel)
theorem wl72 : Cond.methodLink "SacredHensLaw" 161 ⟨"SacredHens", "unmark", "(I)I"⟩ ∈ hWS := hWS_in (i := 888) (by decide +kernel) (by decide +kernel)
theorem wl73 : Cond.methodLink "SacredHensLaw" 164 ⟨"SacredHensModel", "unmark", "(I)I"⟩ ∈ hWS := hWS_in (i := 1735) (by decide +kernel) (by decide +kernel)
theorem wl74 : Cond.methodLink "SacredHensLaw" 165 ⟨"SacredHens", "college", "(I)I"⟩ ∈ hWS := hWS_in (i := 892) (by decide +kernel) (by decide +kernel)
theorem wl75 : Cond.methodLink "SacredHensLaw" 168 ⟨"SacredHensModel", "college", "(I)I"⟩ ∈ hWS := hWS_in (i := 1739) (by decide +kernel) (by decide +kernel)
theorem wl76 : Cond.methodLink "SacredHensLaw" 169 ⟨"SacredHens", "chosen", "(I)I"⟩ ∈ hWS := hWS_in (i := 900) (by decide +kernel) (by decide +kernel)
theorem wl77 : Cond.methodLink "SacredHensLaw" 172 ⟨"SacredHensModel", "chosen", "(I)I"⟩ ∈ hWS := hWS_in (i := 1751) (by decide +kernel) (by decide +kernel)
theorem wl78 : Cond.methodLink "SacredHensLaw" 173 ⟨"SacredHens", "hold", "(II)I"⟩ ∈ hWS := hWS_in (i := 904) (by decide +kernel) (by decide +kernel)
theorem wl79 : Cond.methodLink "SacredHensLaw" 176 ⟨"SacredHensModel", "hold", "(II)I"⟩ ∈ hWS := hWS_in (i := 1755) (by decide +kernel) (by decide +kernel)
theorem wl80 : Cond.methodLink "SacredHensLaw" 177 ⟨"SacredHens", "idle", "(I)I"⟩ ∈ hWS := hWS_in (i := 908) (by decide +kernel) (by decide +kernel)
theorem wl81 : Cond.methodLink "SacredHensLaw" 180 ⟨"SacredHensModel", "idle", "(I)I"⟩ ∈ hWS := hWS_in (i := 1760) (by decide +kernel) (by decide +kernel)
theorem wl82 : Cond.methodLink "SacredHensLaw" 181 ⟨"SacredHens", "lone", "(I)I"⟩ ∈ hWS := hWS_in (i := 916) (by decide +kernel) (by decide +kernel)
theorem wl83 : Cond.methodLink "SacredHensLaw" 184 ⟨"SacredHensModel", "lone", "(I)I"⟩ ∈ hWS := hWS_in (i := 1764) (by decide +kernel) (by decide +kernel)
theorem wl84 : Cond.methodLink "SacredHensLaw" 185 ⟨"SacredHens", "tenure", "(I)I"⟩ ∈ hWS := hWS_in (i := 920) (by decide +kernel) (by decide +kernel)
theorem wl85 : Cond.methodLink "SacredHensLaw" 188 ⟨"SacredHensModel", "tenure", "(I)I"⟩ ∈ hWS := hWS_in (i := 1768) (by decide +kernel) (by decide +kernel)
theorem wl86 : Cond.methodLink "SacredHensLaw" 189 ⟨"SacredHens", "clear", "(I)I"⟩ ∈ hWS := hWS_in (i := 925) (by decide +kernel) (by decide +kernel)
theorem wl87 : Cond.methodLink "SacredHensLaw" 192 ⟨"SacredHensModel", "clear", "(I)I"⟩ ∈ hWS := hWS_in (i := 1772) (by decide +kernel) (by decide +kernel)
theorem wl88 : Cond.methodLink "SacredHensLaw" 193 ⟨"SacredHens", "run", "(I)I"⟩ ∈ hWS := hWS_in (i := 930) (by decide +kernel) (by decide +kernel)
theorem wl89 : Cond.methodLink "SacredHensLaw" 196 ⟨"SacredHensModel", "run", "(I)I"⟩ ∈ hWS := hWS_in (i := 1776) (by decide +kernel) (by decide +kernel)
theorem wl90 : Cond.methodLink "SacredHensLaw" 197 ⟨"SacredHens", "both", "()I"⟩ ∈ hWS := hWS_in (i := 934) (by decide +kernel) (by decide +kernel)
theorem wl91 : Cond.methodLink "SacredHensLaw" 200 ⟨"SacredHensModel", "both", "()I"⟩ ∈ hWS := hWS_in (i := 1780) (by decide +kernel) (by decide +kernel)
theorem wl92 : Cond.methodLink "SacredHensLaw" 201 ⟨"SacredHens", "falls", "(I)I"⟩ ∈ hWS := hWS_in (i := 938) (by decide +kernel) (by decide +kernel)
theorem wl93 : Cond.methodLink "SacredHensLaw" 204 ⟨"SacredHensModel", "falls", "(I)I"⟩ ∈ hWS := hWS_in (i := 1784) (by decide +kernel) (by decide +kernel)
theorem wl94 : Cond.methodLink "SacredHensLaw" 205 ⟨"SacredHens", "worst", "()I"⟩ ∈ hWS := hWS_in (i := 951) (by decide +kernel) (by decide +kernel)
theorem wl95 : Cond.methodLink "SacredHensLaw" 208 ⟨"SacredHensModel", "worst", "()I"⟩ ∈ hWS := hWS_in (i := 1792) (by decide +kernel) (by decide +kernel)
theorem wl96 : Cond.methodLink "SacredHensLaw" 209 ⟨"SacredHens", "needs", "(I)I"⟩ ∈ hWS := hWS_in (i := 955) (by decide +kernel) (by decide +kernel)
theorem wl97 : Cond.methodLink "SacredHensLaw" 212 ⟨"SacredHensModel", "needs", "(I)I"⟩ ∈ hWS := hWS_in (i := 1676) (by decide +kernel) (by decide +kernel)
theorem wl98 : Cond.methodLink "SacredHensLaw" 213 ⟨"SacredHens", "heirs", "(I)I"⟩ ∈ hWS := hWS_in (i := 959) (by decide +kernel) (by decide +kernel)
theorem wl99 : Cond.methodLink "SacredHensLaw" 216 ⟨"SacredHensModel", "heirs", "(I)I"⟩ ∈ hWS := hWS_in (i := 1684) (by decide +kernel) (by decide +kernel)
theorem wl100 : Cond.methodLink "SacredHensLaw" 217 ⟨"SacredHens", "fits", "(I)I"⟩ ∈ hWS := hWS_in (i := 963) (by decide +kernel) (by decide +kernel)
theorem wl101 : Cond.methodLink "SacredHensLaw" 220 ⟨"SacredHensModel", "fits", "(I)I"⟩ ∈ hWS := hWS_in (i := 1800) (by decide +kernel) (by decide +kernel)
theorem wl102 : Cond.methodLink "SacredHensLaw" 221 ⟨"SacredHens", "fed", "(I)I"⟩ ∈ hWS := hWS_in (i := 993) (by decide +kernel) (by decide +kernel)
theorem wl103 : Cond.methodLink "SacredHensLaw" 224 ⟨"SacredHensModel", "fed", "(I)I"⟩ ∈ hWS := hWS_in (i := 1820) (by decide +kernel) (by decide +kernel)
theorem wl104 : Cond.methodLink "SacredHensLaw" 225 ⟨"SacredHens", "starved", "(I)I"⟩ ∈ hWS := hWS_in (i := 997) (by decide +kernel) (by decide +kernel)
theorem wl105 : Cond.methodLink "SacredHensLaw" 228 ⟨"SacredHensModel", "starved", "(I)I"⟩ ∈ hWS := hWS_in (i := 1828) (by decide +kernel) (by decide +kernel)
theorem wl106 : Cond.methodLink "SacredHensLaw" 229 ⟨"SacredHens", "least", "(I)I"⟩ ∈ hWS := hWS_in (i := 1001) (by decide +kernel) (by decide +kernel)
theorem wl107 : Cond.methodLink "SacredHensLaw" 232 ⟨"SacredHensModel", "least", "(I)I"⟩ ∈ hWS := hWS_in (i := 1832) (by decide +kernel) (by decide +kernel)
theorem wl108 : Cond.methodLink "SacredHensLaw" 233 ⟨"SacredHens", "ask", "(I)I"⟩ ∈ hWS := hWS_in (i := 1005) (by decide +kernel) (by decide +kernel)
theorem wl109 : Cond.methodLink "SacredHensLaw" 236 ⟨"SacredHensModel", "ask", "(I)I"⟩ ∈ hWS := hWS_in (i := 1836) (by decide +kernel) (by decide +kernel)
theorem wl110 : Cond.methodLink "SacredHensLaw" 237 ⟨"SacredHens", "leaves", "(I)I"⟩ ∈ hWS := hWS_in (i := 1018) (by decide +kernel) (by decide +kernel)
theorem wl111 : Cond.methodLink "SacredHensLaw" 240 ⟨"SacredHensModel", "leaves", "(I)I"⟩ ∈ hWS := hWS_in (i := 1844) (by decide +kernel) (by decide +kernel)
theorem wl112 : Cond.methodLink "SacredHensLaw" 241 ⟨"SacredHens", "tally", "(III)I"⟩ ∈ hWS := hWS_in (i := 1023) (by decide +kernel) (by decide +kernel)
theorem wl113 : Cond.methodLink "SacredHensLaw" 245 ⟨"SacredHensModel", "tally", "(III)I"⟩ ∈ hWS := hWS_in (i := 1848) (by decide +kernel) (by decide +kernel)
theorem wl114 : Cond.methodLink "SacredHensLaw" 246 ⟨"SacredHens", "doubt", "(II)J"⟩ ∈ hWS := hWS_in (i := 1041) (by decide +kernel) (by decide +kernel)
theorem wl115 : Cond.methodLink "SacredHensLaw" 250 ⟨"SacredHensModel", "doubt", "(II)J"⟩ ∈ hWS := hWS_in (i := 1856) (by decide +kernel) (by decide +kernel)
theorem wl116 : Cond.methodLink "SacredHensLaw" 251 ⟨"SacredHens", "share", "(III)I"⟩ ∈ hWS := hWS_in (i := 1072) (by decide +kernel) (by decide +kernel)
theorem wl117 : Cond.methodLink "SacredHensLaw" 254 ⟨"SacredHensModel", "share", "(III)I"⟩ ∈ hWS := hWS_in (i := 1869) (by decide +kernel) (by decide +kernel)
theorem wl118 : Cond.methodLink "SacredHensLaw" 255 ⟨"SacredHens", "leans", "(I)I"⟩ ∈ hWS := hWS_in (i := 1077) (by decide +kernel) (by decide +kernel)
theorem wl119 : Cond.methodLink "SacredHensLaw" 258 ⟨"SacredHensModel", "leans", "(I)I"⟩ ∈ hWS := hWS_in (i := 1873) (by decide +kernel) (by decide +kernel)
theorem wl120 : Cond.methodLink "SacredHensLaw" 259 ⟨"SacredHens", "rests", "(II)I"⟩ ∈ hWS := hWS_in (i := 1084) (by decide +kernel) (by decide +kernel)
theorem wl121 : Cond.methodLink "SacredHensLaw" 262 ⟨"SacredHensModel", "rests", "(II)I"⟩ ∈ hWS := hWS_in (i := 1878) (by decide +kernel) (by decide +kernel)
theorem wl122 : Cond.methodLink "SacredHensLaw" 263 ⟨"SacredHens", "believes", "(I)I"⟩ ∈ hWS := hWS_in (i := 1100) (by decide +kernel) (by decide +kernel)
theorem wl123 : Cond.methodLink "SacredHensLaw" 266 ⟨"SacredHensModel", "believes", "(I)I"⟩ ∈ hWS := hWS_in (i := 1892) (by decide +kernel) (by decide +kernel)
theorem wl124 : Cond.methodLink "SacredHensLaw" 267 ⟨"SacredHens", "chance", "(I)J"⟩ ∈ hWS := hWS_in (i := 1104) (by decide +kernel) (by decide +kernel)
theorem wl125 : Cond.methodLink "SacredHensLaw" 271 ⟨"SacredHensModel", "chance", "(I)J"⟩ ∈ hWS := hWS_in (i := 1896) (by decide +kernel) (by decide +kernel)
theorem wl126 : Cond.methodLink "SacredHensLaw" 272 ⟨"SacredHens", "asks", "(II)I"⟩ ∈ hWS := hWS_in (i := 1109) (by decide +kernel) (by decide +kernel)
theorem wl127 : Cond.methodLink "SacredHensLaw" 275 ⟨"SacredHensModel", "asks", "(II)I"⟩ ∈ hWS := hWS_in (i := 1901) (by decide +kernel) (by decide +kernel)
theorem wl128 : Cond.methodLink "SacredHensLaw" 276 ⟨"SacredHens", "feeds", "(I)I"⟩ ∈ hWS := hWS_in (i := 1127) (by decide +kernel) (by decide +kernel)
theorem wl129 : Cond.methodLink "SacredHensLaw" 279 ⟨"SacredHensModel", "feeds", "(I)I"⟩ ∈ hWS := hWS_in (i := 1909) (by decide +kernel) (by decide +kernel)
theorem wl130 : Cond.methodLink "SacredHensLaw" 280 ⟨"SacredHens", "undo", "()I"⟩ ∈ hWS := hWS_in (i := 1131) (by decide +kernel) (by decide +kernel)
theorem wl131 : Cond.methodLink "SacredHensLaw" 283 ⟨"SacredHensModel", "undo", "()I"⟩ ∈ hWS := hWS_in (i := 1913) (by decide +kernel) (by decide +kernel)
theorem wl132 : Cond.methodLink "SacredHensLaw" 284 ⟨"SacredHens", "anew", "()I"⟩ ∈ hWS := hWS_in (i := 1135) (by decide +kernel) (by decide +kernel)
theorem wl133 : Cond.methodLink "SacredHensLaw" 287 ⟨"SacredHensModel", "anew", "()I"⟩ ∈ hWS := hWS_in (i := 1917) (by decide +kernel) (by decide +kernel)
theorem wl134 : Cond.methodLink "SacredHensLaw" 288 ⟨"SacredHens", "drawn", "(II)I"⟩ ∈ hWS := hWS_in (i := 1139) (by decide +kernel) (by decide +kernel)
theorem wl135 : Cond.methodLink "SacredHensLaw" 291 ⟨"SacredHensModel", "drawn", "(II)I"⟩ ∈ hWS := hWS_in (i := 1921) (by decide +kernel) (by decide +kernel)
theorem wl136 : Cond.methodLink "SacredHensLaw" 292 ⟨"SacredHens", "luck", "(III)I"⟩ ∈ hWS := hWS_in (i := 1151) (by decide +kernel) (by decide +kernel)
theorem wl137 : Cond.methodLink "SacredHensLaw" 295 ⟨"SacredHensModel", "luck", "(III)I"⟩ ∈ hWS := hWS_in (i := 1933) (by decide +kernel) (by decide +kernel)
theorem wl138 : Cond.methodLink "SacredHensLaw" 296 ⟨"SacredHens", "rate", "(II)I"⟩ ∈ hWS := hWS_in (i := 1155) (by decide +kernel) (by decide +kernel)
theorem wl139 : Cond.methodLink "SacredHensLaw" 299 ⟨"SacredHensModel", "rate", "(II)I"⟩ ∈ hWS := hWS_in (i := 1938) (by decide +kernel) (by decide +kernel)
theorem wl140 : Cond.methodLink "SacredHensLaw" 300 ⟨"SacredHens", "count", "(I)I"⟩ ∈ hWS := hWS_in (i := 1159) (by decide +kernel) (by decide +kernel)
theorem wl141 : Cond.methodLink "SacredHensLaw" 303 ⟨"SacredHensModel", "count", "(I)I"⟩ ∈ hWS := hWS_in (i := 1942) (by decide +kernel) (by decide +kernel)
theorem wl142 : Cond.methodLink "SacredHensLaw" 304 ⟨"SacredHens", "image", "(I)I"⟩ ∈ hWS := hWS_in (i := 1167) (by decide +kernel) (by decide +kernel)
theorem wl143 : Cond.methodLink "SacredHensLaw" 307 ⟨"SacredHensModel", "image", "(I)I"⟩ ∈ hWS := hWS_in (i := 1343) (by decide +kernel) (by decide +kernel)
theorem wl144 : Cond.methodLink "SacredHensLaw" 308 ⟨"SacredHens", "back", "(I)I"⟩ ∈ hWS := hWS_in (i := 1181) (by decide +kernel) (by decide +kernel)
theorem wl145 : Cond.methodLink "SacredHensLaw" 311 ⟨"SacredHensModel", "back", "(I)I"⟩ ∈ hWS := hWS_in (i := 1351) (by decide +kernel) (by decide +kernel)
theorem wl146 : Cond.methodLink "SacredHensLaw" 312 ⟨"SacredHens", "row", "(III)I"⟩ ∈ hWS := hWS_in (i := 1185) (by decide +kernel) (by decide +kernel)
theorem wl147 : Cond.methodLink "SacredHensLaw" 315 ⟨"SacredHensModel", "row", "(III)I"⟩ ∈ hWS := hWS_in (i := 1947) (by decide +kernel) (by decide +kernel)
theorem wl148 : Cond.constantLong "SacredHensLaw" 316 4294967295 ∈ hWS := hWS_in (i := 1962) (by decide +kernel) (by decide +kernel)
theorem wl149 : Cond.methodLink "SacredHensLaw" 318 ⟨"SacredHens", "write", "(IIJ)I"⟩ ∈ hWS := hWS_in (i := 1193) (by decide +kernel) (by decide +kernel)
theorem wl150 : Cond.methodLink "SacredHensLaw" 322 ⟨"SacredHensModel", "write", "(IIJ)I"⟩ ∈ hWS := hWS_in (i := 1951) (by decide +kernel) (by decide +kernel)
theorem wl151 : Cond.methodLink "SacredHensLaw" 323 ⟨"SacredHens", "paste", "(IIIII)I"⟩ ∈ hWS := hWS_in (i := 1201) (by decide +kernel) (by decide +kernel)
theorem wl152 : Cond.methodLink "SacredHensLaw" 326 ⟨"SacredHensModel", "paste", "(IIIII)I"⟩ ∈ hWS := hWS_in (i := 1958) (by decide +kernel) (by decide +kernel)
