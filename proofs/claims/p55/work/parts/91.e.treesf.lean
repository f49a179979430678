/-! trees: states and checks. Laid by wip/p55/gen_hand.py. -/
theorem tf_427 : nI (k_of k_e0s).2.2.1.1.1 = 0 := by decide +kernel
theorem tf_428 : k_iv (k_as 32 (k_of k_e0s) 0 0) = (-2013) := by decide +kernel
theorem tf_429 : k_fnd (k_of k_e0s) (k_or Q_4) := k_fndb_sp (by decide +kernel)
theorem tf_430 : k_iv (qq_nx (k_or Q_4) 0) = (-2013) := by decide +kernel
theorem tf_431 : (k_ac 2 (k_of k_e0s) 0 0).1 = .inr 1 := by decide +kernel
theorem tf_432 : (k_ac 3 (k_of k_e0s) 0 0).1 = .inr 1 := by decide +kernel
theorem tf_433 : qa_pg (k_of k_e0s) 9 = .inl 0 := by decide +kernel
theorem tf_434 : k_ds (k_sum (fun i => k_pg (k_of k_e0s) ((k_or Q_4).2.1 i)) (k_or Q_4).1) (k_or Q_4).1 = (0 : UInt64) := by decide +kernel
theorem tf_435 : Op.cmpValue (FP.dcmp (0 : UInt64) FP.dconst0) CmpOp.l = 0 := by decide +kernel
theorem tf_436 : k_shr (k_of k_e0s).2.2.1 = (0 : UInt64) := by decide +kernel
theorem tf_437 : nI (k_mxp (fun i => k_pg (k_of k_e0s) ((k_or Q_4).2.1 i)) (k_or Q_4).1) = 0 := by decide +kernel
theorem tf_438 : qq_lb (k_of k_e0s) (k_or Q_4) 50 = .inl 0 := by decide +kernel
def L_122 : QS := ([[]], ([(10, 1, 0)], [0], 4, 3), 4, 3, 0, 0)
theorem tf_439 : (k_ac 5 (k_of k_e0s) 10 1).1 = .inl 3 := by decide +kernel
theorem tf_440 : k_eqb (k_ac 5 (k_of k_e0s) 10 1).2 (k_of L_122) = true := by decide +kernel
theorem tf_441 : nI (k_of L_122).2.2.1.1.1 = 1 := by decide +kernel
theorem tf_442 : nI (k_of L_122).2.2.1.2.2.1 = 1 := by decide +kernel
theorem tf_443 : nI (k_tlv (k_of L_122).2.2.1) = 0 := by decide +kernel
theorem tf_444 : k_iv (k_as 25 (k_of L_122) 0 0) = 1 := by decide +kernel
theorem tf_445 : k_iv (k_as 27 (k_of L_122) 0 0) = 0 := by decide +kernel
theorem tf_446 : k_iv (k_as 28 (k_of L_122) 0 0) = (0 + 3) / 4 := by decide +kernel
def L_123 : QS := ([[]], ([(10, 1, 0), (20, 2, 0)], [0], 4, 3), 4, 3, 0, 0)
theorem tf_447 : (k_ac 5 (k_of L_122) 20 2).1 = .inl 1 := by decide +kernel
theorem tf_448 : k_eqb (k_ac 5 (k_of L_122) 20 2).2 (k_of L_123) = true := by decide +kernel
def L_124 : QS := ([[]], ([(10, 1, 0), (20, 2, 0), (30, 3, 0)], [0], 4, 3), 4, 3, 0, 0)
theorem tf_449 : (k_ac 5 (k_of L_123) 30 3).1 = .inl 1 := by decide +kernel
theorem tf_450 : k_eqb (k_ac 5 (k_of L_123) 30 3).2 (k_of L_124) = true := by decide +kernel
def L_125 : QS := ([[]], ([(5, 4, 0), (10, 1, 0), (20, 2, 0), (30, 3, 0)], [0], 4, 3), 4, 3, 0, 0)
theorem tf_451 : (k_ac 5 (k_of L_124) 5 4).1 = .inl 1 := by decide +kernel
theorem tf_452 : k_eqb (k_ac 5 (k_of L_124) 5 4).2 (k_of L_125) = true := by decide +kernel
theorem tf_453 : qa_lk (k_of L_125) 0 0 = .inl 5 := by decide +kernel
theorem tf_454 : qa_pg (k_of L_125) 5 = .inl 1 := by decide +kernel
theorem tf_455 : qa_pg (k_of L_125) 6 = .inl 1 := by decide +kernel
def L_126 : QS := ([[]], ([(5, 4, 0), (10, 1, 0), (20, 2, 0), (30, 3, 0), (40, 5, 0)], [0, 40], 4, 3), 4, 3, 0, 0)
theorem tf_456 : (k_ac 5 (k_of L_125) 40 5).1 = .inl 3 := by decide +kernel
theorem tf_457 : k_eqb (k_ac 5 (k_of L_125) 40 5).2 (k_of L_126) = true := by decide +kernel
theorem tf_458 : nI (k_of L_126).2.2.1.1.1 = 5 := by decide +kernel
theorem tf_459 : nI (k_of L_126).2.2.1.2.2.1 = 2 := by decide +kernel
theorem tf_460 : nI (k_tlv (k_of L_126).2.2.1) = 1 := by decide +kernel
theorem tf_461 : k_iv (k_as 25 (k_of L_126) 0 0) = 4 := by decide +kernel
theorem tf_462 : k_iv (k_as 27 (k_of L_126) 0 0) = 0 := by decide +kernel
theorem tf_463 : k_iv (k_as 28 (k_of L_126) 0 0) = (0 + 3) / 4 := by decide +kernel
theorem tf_464 : qa_nd (k_of L_126) 0 = .inl 1 := by decide +kernel
theorem tf_465 : qa_ch (k_of L_126) 0 0 = .inl 2 := by decide +kernel
theorem tf_466 : qa_bd (k_of L_126) 0 0 = .inl 0 := by decide +kernel
theorem tf_467 : qa_lf (k_of L_126) 39 = .inl 0 := by decide +kernel
theorem tf_468 : qa_lf (k_of L_126) 40 = .inl 1 := by decide +kernel
theorem tf_469 : qa_lf (k_of L_126) 0 = .inl 0 := by decide +kernel
def L_127 : QS := ([[]], ([(5, 4, 0), (7, 6, 1), (10, 1, 0), (20, 2, 0), (30, 3, 0), (40, 5, 0)], [0, 40], 4, 3), 4, 3, 0, 0)
theorem tf_470 : (k_ac 5 (k_of L_126) 7 6).1 = .inl 2 := by decide +kernel
theorem tf_471 : k_eqb (k_ac 5 (k_of L_126) 7 6).2 (k_of L_127) = true := by decide +kernel
theorem tf_472 : nI (k_of L_127).2.2.1.1.1 = 6 := by decide +kernel
theorem tf_473 : nI (k_of L_127).2.2.1.2.2.1 = 2 := by decide +kernel
theorem tf_474 : nI (k_tlv (k_of L_127).2.2.1) = 1 := by decide +kernel
theorem tf_475 : k_iv (k_as 25 (k_of L_127) 0 0) = 4 := by decide +kernel
theorem tf_476 : k_iv (k_as 27 (k_of L_127) 0 0) = 1 := by decide +kernel
theorem tf_477 : k_iv (k_as 28 (k_of L_127) 0 0) = (1 + 3) / 4 := by decide +kernel
theorem tf_478 : qa_pg (k_of L_127) 7 = .inl 3 := by decide +kernel
theorem tf_479 : qa_pg (k_of L_127) 10 = .inl 2 := by decide +kernel
theorem tf_480 : qa_pg (k_of L_127) 6 = .inl 3 := by decide +kernel
theorem tf_481 : qa_pg (k_of L_127) 45 = .inl 2 := by decide +kernel
theorem tf_482 : k_shr (k_of L_127).2.2.1 = (4595172819793696085 : UInt64) := by decide +kernel
theorem tf_483 : Op.cmpValue (FP.dcmp (4595172819793696085 : UInt64) (4595172819793696085 : UInt64)) CmpOp.l = 0 := by decide +kernel
def L_128 : QS := ([[]], ([(5, 4, 0), (7, 9, 1), (10, 1, 0), (20, 2, 0), (30, 3, 0), (40, 5, 0)], [0, 40], 4, 3), 4, 3, 0, 0)
theorem tf_484 : (k_ac 5 (k_of L_127) 7 9).1 = .inl 0 := by decide +kernel
theorem tf_485 : k_eqb (k_ac 5 (k_of L_127) 7 9).2 (k_of L_128) = true := by decide +kernel
theorem tf_486 : qa_val (k_of L_128) 7 = .inl 9 := by decide +kernel
def L_129 : QS := ([[]], ([(5, 4, 0), (7, 9, 1), (10, 1, 0), (20, 2, 0), (30, 3, 0), (35, 1, 2), (40, 5, 0)], [0, 40], 4, 3), 4, 3, 0, 0)
theorem tf_487 : (k_ac 5 (k_of L_128) 35 1).1 = .inl 2 := by decide +kernel
theorem tf_488 : k_eqb (k_ac 5 (k_of L_128) 35 1).2 (k_of L_129) = true := by decide +kernel
def L_130 : QS := ([[]], ([(5, 4, 0), (7, 9, 1), (10, 1, 0), (20, 2, 0), (30, 3, 0), (35, 1, 2), (40, 5, 0), (50, 1, 0)], [0, 40], 4, 3), 4, 3, 0, 0)
theorem tf_489 : (k_ac 5 (k_of L_129) 50 1).1 = .inl 1 := by decide +kernel
theorem tf_490 : k_eqb (k_ac 5 (k_of L_129) 50 1).2 (k_of L_130) = true := by decide +kernel
def L_131 : QS := ([[]], ([(5, 4, 0), (7, 9, 1), (10, 1, 0), (30, 3, 0), (35, 1, 2), (40, 5, 0), (50, 1, 0)], [0, 40], 4, 3), 4, 3, 0, 0)
theorem tf_491 : (k_ac 6 (k_of L_130) 20 0).1 = .inl 2 := by decide +kernel
theorem tf_492 : k_eqb (k_ac 6 (k_of L_130) 20 0).2 (k_of L_131) = true := by decide +kernel
theorem tf_493 : nI (k_of L_131).2.2.1.1.1 = 7 := by decide +kernel
theorem tf_494 : nI (k_of L_131).2.2.1.2.2.1 = 2 := by decide +kernel
theorem tf_495 : nI (k_tlv (k_of L_131).2.2.1) = 1 := by decide +kernel
theorem tf_496 : k_iv (k_as 25 (k_of L_131) 0 0) = 3 := by decide +kernel
theorem tf_497 : k_iv (k_as 27 (k_of L_131) 0 0) = 2 := by decide +kernel
theorem tf_498 : k_iv (k_as 28 (k_of L_131) 0 0) = (2 + 3) / 4 := by decide +kernel
theorem tf_499 : (k_ac 6 (k_of L_131) 20 0).1 = .inr 1 := by decide +kernel
def L_132 : QS := ([[]], ([(5, 4, 0), (7, 9, 1), (10, 1, 0), (25, 7, 0), (30, 3, 0), (35, 1, 2), (40, 5, 0), (50, 1, 0)], [0, 40], 4, 3), 4, 3, 0, 0)
theorem tf_500 : (k_ac 5 (k_of L_131) 25 7).1 = .inl 1 := by decide +kernel
theorem tf_501 : k_eqb (k_ac 5 (k_of L_131) 25 7).2 (k_of L_132) = true := by decide +kernel
theorem tf_502 : qa_lk (k_of L_132) 0 2 = .inl 25 := by decide +kernel
def L_133 : QS := ([[]], ([(5, 4, 0), (7, 9, 1), (10, 1, 0), (25, 7, 0), (30, 3, 0), (35, 1, 2), (40, 5, 0), (50, 1, 0), (60, 1, 0)], [0, 40], 4, 3), 4, 3, 0, 0)
theorem tf_503 : (k_ac 5 (k_of L_132) 60 1).1 = .inl 1 := by decide +kernel
theorem tf_504 : k_eqb (k_ac 5 (k_of L_132) 60 1).2 (k_of L_133) = true := by decide +kernel
def L_134 : QS := ([[]], ([(5, 4, 0), (7, 9, 1), (10, 1, 0), (25, 7, 0), (30, 3, 0), (35, 1, 2), (40, 5, 0), (50, 1, 0), (60, 1, 0), (70, 1, 0)], [0, 40], 4, 3), 4, 3, 0, 0)
theorem tf_505 : (k_ac 5 (k_of L_133) 70 1).1 = .inl 1 := by decide +kernel
theorem tf_506 : k_eqb (k_ac 5 (k_of L_133) 70 1).2 (k_of L_134) = true := by decide +kernel
def L_135 : QS := ([[]], ([(5, 4, 0), (7, 9, 1), (10, 1, 0), (25, 7, 0), (30, 3, 0), (35, 1, 2), (40, 5, 0), (50, 1, 0), (60, 1, 0), (65, 2, 1), (70, 1, 0)], [0, 40], 4, 3), 4, 3, 0, 0)
theorem tf_507 : (k_ac 5 (k_of L_134) 65 2).1 = .inl 2 := by decide +kernel
theorem tf_508 : k_eqb (k_ac 5 (k_of L_134) 65 2).2 (k_of L_135) = true := by decide +kernel
def L_136 : QS := ([[]], ([(5, 4, 0), (7, 9, 1), (10, 1, 0), (25, 7, 0), (30, 3, 0), (35, 1, 2), (40, 5, 0), (50, 1, 0), (60, 1, 0), (65, 2, 1), (70, 1, 0), (80, 1, 0)], [0, 40, 80], 4, 3), 4, 3, 0, 0)
theorem tf_509 : (k_ac 5 (k_of L_135) 80 1).1 = .inl 3 := by decide +kernel
theorem tf_510 : k_eqb (k_ac 5 (k_of L_135) 80 1).2 (k_of L_136) = true := by decide +kernel
theorem tf_511 : nI (k_of L_136).2.2.1.1.1 = 12 := by decide +kernel
theorem tf_512 : nI (k_of L_136).2.2.1.2.2.1 = 3 := by decide +kernel
theorem tf_513 : nI (k_tlv (k_of L_136).2.2.1) = 1 := by decide +kernel
theorem tf_514 : k_iv (k_as 25 (k_of L_136) 1 0) = 4 := by decide +kernel
theorem tf_515 : k_iv (k_as 27 (k_of L_136) 1 0) = 1 := by decide +kernel
theorem tf_516 : k_iv (k_as 28 (k_of L_136) 1 0) = (1 + 3) / 4 := by decide +kernel
theorem tf_517 : qa_ch (k_of L_136) 0 0 = .inl 3 := by decide +kernel
def L_137 : QS := ([[]], ([(5, 4, 0), (7, 9, 1), (10, 1, 0), (25, 7, 0), (30, 3, 0), (35, 1, 2), (40, 5, 0), (50, 1, 0), (60, 1, 0), (65, 2, 1), (70, 1, 0), (80, 1, 0), (81, 0, 0)], [0, 40, 80], 4, 3), 4, 3, 0, 0)
theorem tf_518 : (k_ac 5 (k_of L_136) 81 0).1 = .inl 1 := by decide +kernel
theorem tf_519 : k_eqb (k_ac 5 (k_of L_136) 81 0).2 (k_of L_137) = true := by decide +kernel
def L_138 : QS := ([[]], ([(5, 4, 0), (7, 9, 1), (10, 1, 0), (25, 7, 0), (30, 3, 0), (35, 1, 2), (40, 5, 0), (50, 1, 0), (60, 1, 0), (65, 2, 1), (70, 1, 0), (80, 1, 0), (81, 0, 0), (82, 0, 0)], [0, 40, 80], 4, 3), 4, 3, 0, 0)
theorem tf_520 : (k_ac 5 (k_of L_137) 82 0).1 = .inl 1 := by decide +kernel
theorem tf_521 : k_eqb (k_ac 5 (k_of L_137) 82 0).2 (k_of L_138) = true := by decide +kernel
def L_139 : QS := ([[]], ([(5, 4, 0), (7, 9, 1), (10, 1, 0), (25, 7, 0), (30, 3, 0), (35, 1, 2), (40, 5, 0), (50, 1, 0), (60, 1, 0), (65, 2, 1), (70, 1, 0), (80, 1, 0), (81, 0, 0), (82, 0, 0), (83, 0, 0)], [0, 40, 80], 4, 3), 4, 3, 0, 0)
theorem tf_522 : (k_ac 5 (k_of L_138) 83 0).1 = .inl 1 := by decide +kernel
theorem tf_523 : k_eqb (k_ac 5 (k_of L_138) 83 0).2 (k_of L_139) = true := by decide +kernel
def L_140 : QS := ([[]], ([(5, 4, 0), (7, 9, 1), (10, 1, 0), (25, 7, 0), (30, 3, 0), (35, 1, 2), (40, 5, 0), (50, 1, 0), (60, 1, 0), (65, 2, 1), (70, 1, 0), (80, 1, 0), (81, 0, 0), (82, 0, 0), (83, 0, 0), (90, 8, 0)], [0, 40, 80, 90], 4, 3), 4, 3, 0, 0)
theorem tf_524 : (k_ac 5 (k_of L_139) 90 8).1 = .inl 3 := by decide +kernel
theorem tf_525 : k_eqb (k_ac 5 (k_of L_139) 90 8).2 (k_of L_140) = true := by decide +kernel
theorem tf_526 : nI (k_of L_140).2.2.1.1.1 = 16 := by decide +kernel
theorem tf_527 : nI (k_of L_140).2.2.1.2.2.1 = 4 := by decide +kernel
theorem tf_528 : nI (k_tlv (k_of L_140).2.2.1) = 2 := by decide +kernel
theorem tf_529 : k_iv (k_as 25 (k_of L_140) 3 0) = 1 := by decide +kernel
theorem tf_530 : k_iv (k_as 27 (k_of L_140) 3 0) = 0 := by decide +kernel
theorem tf_531 : k_iv (k_as 28 (k_of L_140) 3 0) = (0 + 3) / 4 := by decide +kernel
theorem tf_532 : qa_nd (k_of L_140) 0 = .inl 2 := by decide +kernel
theorem tf_533 : qa_nd (k_of L_140) 1 = .inl 1 := by decide +kernel
theorem tf_534 : qa_ch (k_of L_140) 0 0 = .inl 3 := by decide +kernel
theorem tf_535 : qa_ch (k_of L_140) 0 1 = .inl 1 := by decide +kernel
theorem tf_536 : qa_ch (k_of L_140) 1 0 = .inl 2 := by decide +kernel
theorem tf_537 : qa_bd (k_of L_140) 0 1 = .inl 90 := by decide +kernel
theorem tf_538 : qa_bd (k_of L_140) 1 0 = .inl 0 := by decide +kernel
theorem tf_539 : qa_lf (k_of L_140) 89 = .inl 2 := by decide +kernel
def L_141 : QS := ([[]], ([(1, 1, 3), (5, 4, 0), (7, 9, 1), (10, 1, 0), (25, 7, 0), (30, 3, 0), (35, 1, 2), (40, 5, 0), (50, 1, 0), (60, 1, 0), (65, 2, 1), (70, 1, 0), (80, 1, 0), (81, 0, 0), (82, 0, 0), (83, 0, 0), (90, 8, 0)], [0, 40, 80, 90], 4, 3), 4, 3, 0, 0)
theorem tf_540 : (k_ac 5 (k_of L_140) 1 1).1 = .inl 2 := by decide +kernel
theorem tf_541 : k_eqb (k_ac 5 (k_of L_140) 1 1).2 (k_of L_141) = true := by decide +kernel
def L_142 : QS := ([[]], ([(1, 1, 3), (2, 2, 4), (5, 4, 0), (7, 9, 1), (10, 1, 0), (25, 7, 0), (30, 3, 0), (35, 1, 2), (40, 5, 0), (50, 1, 0), (60, 1, 0), (65, 2, 1), (70, 1, 0), (80, 1, 0), (81, 0, 0), (82, 0, 0), (83, 0, 0), (90, 8, 0)], [0, 40, 80, 90], 4, 3), 4, 3, 0, 0)
theorem tf_542 : (k_ac 5 (k_of L_141) 2 2).1 = .inl 2 := by decide +kernel
theorem tf_543 : k_eqb (k_ac 5 (k_of L_141) 2 2).2 (k_of L_142) = true := by decide +kernel
def L_143 : QS := ([[]], ([(1, 1, 3), (2, 2, 4), (3, 3, 5), (5, 4, 0), (7, 9, 1), (10, 1, 0), (25, 7, 0), (30, 3, 0), (35, 1, 2), (40, 5, 0), (50, 1, 0), (60, 1, 0), (65, 2, 1), (70, 1, 0), (80, 1, 0), (81, 0, 0), (82, 0, 0), (83, 0, 0), (90, 8, 0)], [0, 40, 80, 90], 4, 3), 4, 3, 0, 0)
theorem tf_544 : (k_ac 5 (k_of L_142) 3 3).1 = .inl 2 := by decide +kernel
theorem tf_545 : k_eqb (k_ac 5 (k_of L_142) 3 3).2 (k_of L_143) = true := by decide +kernel
theorem tf_546 : nI (k_of L_143).2.2.1.1.1 = 19 := by decide +kernel
theorem tf_547 : nI (k_of L_143).2.2.1.2.2.1 = 4 := by decide +kernel
theorem tf_548 : nI (k_tlv (k_of L_143).2.2.1) = 2 := by decide +kernel
theorem tf_549 : k_iv (k_as 25 (k_of L_143) 0 0) = 4 := by decide +kernel
theorem tf_550 : k_iv (k_as 27 (k_of L_143) 0 0) = 5 := by decide +kernel
theorem tf_551 : k_iv (k_as 28 (k_of L_143) 0 0) = (5 + 3) / 4 := by decide +kernel
theorem tf_552 : qa_pg (k_of L_143) 3 = .inl 5 := by decide +kernel
theorem tf_553 : qa_pg (k_of L_143) 2 = .inl 4 := by decide +kernel
theorem tf_554 : qa_pg (k_of L_143) 4 = .inl 5 := by decide +kernel
def L_144 : QS := ([[]], ([(1, 1, 2), (2, 2, 3), (3, 3, 4), (5, 4, 0), (10, 1, 0), (25, 7, 0), (30, 3, 0), (35, 1, 1), (40, 5, 0), (50, 1, 0), (60, 1, 0), (65, 2, 1), (70, 1, 0), (80, 1, 0), (81, 0, 0), (82, 0, 0), (83, 0, 0), (90, 8, 0)], [0, 40, 80, 90], 4, 3), 4, 3, 0, 0)
theorem tf_555 : (k_ac 6 (k_of L_143) 7 0).1 = .inl 9 := by decide +kernel
theorem tf_556 : k_eqb (k_ac 6 (k_of L_143) 7 0).2 (k_of L_144) = true := by decide +kernel
theorem tf_557 : nI (k_of L_144).2.2.1.1.1 = 18 := by decide +kernel
theorem tf_558 : nI (k_of L_144).2.2.1.2.2.1 = 4 := by decide +kernel
theorem tf_559 : nI (k_tlv (k_of L_144).2.2.1) = 2 := by decide +kernel
theorem tf_560 : k_iv (k_as 25 (k_of L_144) 0 0) = 4 := by decide +kernel
theorem tf_561 : k_iv (k_as 27 (k_of L_144) 0 0) = 4 := by decide +kernel
theorem tf_562 : k_iv (k_as 28 (k_of L_144) 0 0) = (4 + 3) / 4 := by decide +kernel
theorem tf_563 : qa_pg (k_of L_144) 3 = .inl 4 := by decide +kernel
def Q_13 : QRow := [(1, 2), (2, 3), (3, 4), (5, 5), (10, 2), (25, 8), (30, 4), (35, 2), (40, 6), (50, 2), (60, 2), (65, 3), (70, 2), (80, 2), (81, 1), (82, 1), (83, 1), (90, 9)]
theorem tf_564 : k_fnd (k_of L_144) (k_or Q_13) := k_fndb_sp (by decide +kernel)
theorem tf_565 : nI (k_mxp (fun i => k_pg (k_of L_144) ((k_or Q_13).2.1 i)) (k_or Q_13).1) = 4 := by decide +kernel
theorem tf_566 : qa_cl (k_of L_144) 3 40 = .inl 7 := by decide +kernel
theorem tf_567 : qq_cn (k_or Q_13) 3 40 = .inl 7 := by decide +kernel
theorem tf_568 : qq_nx (k_or Q_13) 3 = .inl 5 := by decide +kernel
theorem tf_569 : qq_nx (k_or Q_13) 40 = .inl 50 := by decide +kernel
theorem tf_570 : qq_kb (k_or Q_13) 5 = .inl 3 := by decide +kernel
theorem tf_571 : k_iv (qq_kb (k_or Q_13) 1) = (-2013) := by decide +kernel
theorem tf_572 : k_iv (qq_nx (k_or Q_13) 90) = (-2013) := by decide +kernel
theorem tf_573 : qq_lb (k_of L_144) (k_or Q_13) 100 = .inl 5 := by decide +kernel
theorem tf_574 : qq_ll (k_of L_144) (k_or Q_13) 100 = .inl 2 := by decide +kernel
theorem tf_575 : qq_lb (k_of L_144) (k_or Q_13) 50 = .inl 9 := by decide +kernel
theorem tf_576 : qq_lb (k_of L_144) (k_or Q_13) 74 = .inl 9 := by decide +kernel
theorem tf_577 : qq_lb (k_of L_144) (k_or Q_13) 75 = .inl 6 := by decide +kernel
def L_145 : QS := ([[]], ([(1, 1, 0), (2, 2, 0), (3, 3, 0), (5, 4, 0), (10, 1, 0), (25, 7, 0), (30, 3, 0), (35, 1, 0), (40, 5, 0), (50, 1, 0), (60, 1, 0), (65, 2, 0), (70, 1, 0), (80, 1, 0), (81, 0, 0), (82, 0, 0), (83, 0, 0), (90, 8, 0)], [0, 5, 30, 50, 70, 82], 4, 3), 4, 3, 1, 18)
theorem tf_578 : (50 ≤ (75 : Int32).toInt ∧ (75 : Int32).toInt ≤ 100) ∧ (k_or Q_13).1 ≤ 160 := by decide +kernel
theorem tf_579 : k_eqb (k_sbl (k_of L_144) (k_or Q_13) (k_u 75)) (k_of L_145) = true := by decide +kernel
theorem tf_580 : nI (k_ru (k_or Q_13).1 (k_each (k_of L_144).2.2.2.1 (k_u 75))) = 6 := by decide +kernel
theorem tf_581 : nI (k_of L_145).2.2.1.1.1 = 18 := by decide +kernel
theorem tf_582 : nI (k_of L_145).2.2.1.2.2.1 = 6 := by decide +kernel
theorem tf_583 : nI (k_tlv (k_of L_145).2.2.1) = 2 := by decide +kernel
theorem tf_584 : k_iv (k_as 25 (k_of L_145) 5 0) = 3 := by decide +kernel
theorem tf_585 : k_iv (k_as 27 (k_of L_145) 5 0) = 0 := by decide +kernel
theorem tf_586 : k_iv (k_as 28 (k_of L_145) 5 0) = (0 + 3) / 4 := by decide +kernel
theorem tf_587 : qa_nd (k_of L_145) 0 = .inl 2 := by decide +kernel
theorem tf_588 : qa_bd (k_of L_145) 0 1 = .inl 50 := by decide +kernel
theorem tf_589 : qa_lk (k_of L_145) 2 0 = .inl 30 := by decide +kernel
theorem tf_590 : (k_of L_145).2.2.2.2.2.2 = 18 := by decide +kernel
theorem tf_591 : (k_of L_145).2.2.2.2.2.1 = 1 := by decide +kernel
theorem tf_592 : k_fnd (k_of L_145) (k_or Q_13) := k_fndb_sp (by decide +kernel)
theorem tf_593 : k_ds (k_sum (fun i => k_pg (k_of L_145) ((k_or Q_13).2.1 i)) (k_or Q_13).1) (k_or Q_13).1 = (4613937818241073152 : UInt64) := by decide +kernel
theorem tf_594 : Op.cmpValue (FP.dcmp (4613937818241073152 : UInt64) (4613937818241073152 : UInt64)) CmpOp.l = 0 := by decide +kernel
def L_146 : QS := ([[]], ([(1, 1, 0), (2, 2, 0), (3, 3, 0), (4, 4, 0), (5, 4, 0), (10, 1, 0), (25, 7, 0), (30, 3, 0), (35, 1, 0), (40, 5, 0), (50, 1, 0), (60, 1, 0), (65, 2, 0), (70, 1, 0), (80, 1, 0), (81, 0, 0), (82, 0, 0), (83, 0, 0), (90, 8, 0)], [0, 5, 30, 50, 70, 82], 4, 3), 4, 3, 1, 18)
theorem tf_595 : (k_ac 5 (k_of L_145) 4 4).1 = .inl 1 := by decide +kernel
theorem tf_596 : k_eqb (k_ac 5 (k_of L_145) 4 4).2 (k_of L_146) = true := by decide +kernel
theorem tf_597 : qa_own (k_of L_146) 0 = .inl 4 := by decide +kernel
def L_147 : QS := ([[]], ([(1, 1, 0), (2, 2, 0), (3, 3, 0), (4, 4, 0), (5, 4, 0), (10, 1, 0), (25, 7, 0), (30, 3, 0), (35, 1, 0), (40, 5, 0), (50, 1, 0), (60, 1, 0), (65, 2, 0), (70, 1, 0), (80, 1, 0), (81, 0, 0), (82, 0, 0), (83, 0, 0), (90, 8, 0)], [0, 5, 30, 50, 70, 82], 4, 3), 8, 3, 1, 18)
theorem tf_598 : (k_ac 7 (k_of L_146) 8 0).1 = .inl 4 := by decide +kernel
theorem tf_599 : k_eqb (k_ac 7 (k_of L_146) 8 0).2 (k_of L_147) = true := by decide +kernel
def L_148 : QS := ([[]], ([(1, 1, 0), (2, 2, 0), (3, 3, 0), (4, 4, 0), (5, 4, 0), (10, 1, 0), (25, 7, 0), (30, 3, 0), (35, 1, 0), (40, 5, 0), (50, 1, 0), (60, 1, 0), (65, 2, 0), (70, 1, 0), (80, 1, 0), (81, 0, 0), (82, 0, 0), (83, 0, 0), (90, 8, 0)], [0, 5, 30, 50, 70, 82], 4, 3), 8, 2, 1, 18)
theorem tf_600 : (k_ac 8 (k_of L_147) 2 0).1 = .inl 3 := by decide +kernel
theorem tf_601 : k_eqb (k_ac 8 (k_of L_147) 2 0).2 (k_of L_148) = true := by decide +kernel
def L_149 : QS := ([[]], ([(1, 1, 0), (2, 2, 0), (3, 3, 0), (4, 4, 0), (5, 4, 0), (6, 6, 0), (10, 1, 0), (25, 7, 0), (30, 3, 0), (35, 1, 0), (40, 5, 0), (50, 1, 0), (60, 1, 0), (65, 2, 0), (70, 1, 0), (80, 1, 0), (81, 0, 0), (82, 0, 0), (83, 0, 0), (90, 8, 0)], [0, 5, 30, 50, 70, 82], 4, 3), 8, 2, 1, 18)
theorem tf_602 : (k_ac 5 (k_of L_148) 6 6).1 = .inl 1 := by decide +kernel
theorem tf_603 : k_eqb (k_ac 5 (k_of L_148) 6 6).2 (k_of L_149) = true := by decide +kernel
def L_150 : QS := ([[]], ([(1, 1, 0), (2, 2, 0), (3, 3, 0), (4, 4, 0), (5, 4, 0), (6, 6, 0), (8, 6, 1), (10, 1, 0), (25, 7, 0), (30, 3, 0), (35, 1, 0), (40, 5, 0), (50, 1, 0), (60, 1, 0), (65, 2, 0), (70, 1, 0), (80, 1, 0), (81, 0, 0), (82, 0, 0), (83, 0, 0), (90, 8, 0)], [0, 5, 30, 50, 70, 82], 4, 3), 8, 2, 1, 18)
theorem tf_604 : (k_ac 5 (k_of L_149) 8 6).1 = .inl 2 := by decide +kernel
theorem tf_605 : k_eqb (k_ac 5 (k_of L_149) 8 6).2 (k_of L_150) = true := by decide +kernel
theorem tf_606 : qa_own (k_of L_150) 1 = .inl 4 := by decide +kernel
theorem tf_607 : (k_of L_144).2.2.2.2.2.1 = 0 := by decide +kernel
theorem tf_608 : (k_of L_150).2.2.2.2.2.1 = 1 := by decide +kernel
