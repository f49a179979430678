/-! runsOf: states and checks. Laid by wip/p55/gen_hand.py. -/
def L_0 : QS := ([[(100, 6)]], ([], [], 0, 0), 4, 3, 0, 0)
theorem tf_0 : (k_ac 0 (k_of k_e0s) 100 5).1 = .inl 1 := by decide +kernel
theorem tf_1 : k_eqb (k_ac 0 (k_of k_e0s) 100 5).2 (k_of L_0) = true := by decide +kernel
def L_1 : QS := ([[(7, 4), (100, 6)]], ([], [], 0, 0), 4, 3, 0, 0)
theorem tf_2 : (k_ac 0 (k_of L_0) 7 3).1 = .inl 2 := by decide +kernel
theorem tf_3 : k_eqb (k_ac 0 (k_of L_0) 7 3).2 (k_of L_1) = true := by decide +kernel
def L_2 : QS := ([[(7, 4), (10, 0), (100, 6)]], ([], [], 0, 0), 4, 3, 0, 0)
theorem tf_4 : (k_ac 1 (k_of L_1) 10 0).1 = .inl 3 := by decide +kernel
theorem tf_5 : k_eqb (k_ac 1 (k_of L_1) 10 0).2 (k_of L_2) = true := by decide +kernel
def L_3 : QS := ([[(7, 5), (10, 0), (100, 6)]], ([], [], 0, 0), 4, 3, 0, 0)
theorem tf_6 : (k_ac 0 (k_of L_2) 7 4).1 = .inl 3 := by decide +kernel
theorem tf_7 : k_eqb (k_ac 0 (k_of L_2) 7 4).2 (k_of L_3) = true := by decide +kernel
theorem tf_8 : qa_ki (k_of L_3) 0 0 = .inl 7 := by decide +kernel
theorem tf_9 : qa_ki (k_of L_3) 0 1 = .inl 10 := by decide +kernel
theorem tf_10 : qa_go (k_of L_3) 0 1 = .inl true := by decide +kernel
theorem tf_11 : qa_go (k_of L_3) 0 2 = .inl false := by decide +kernel
def Q_0 : QRow := [(7, 5), (100, 6)]
theorem tf_12 : k_fnd (k_of L_3) (k_or Q_0) := k_fndb_sp (by decide +kernel)
theorem tf_13 : nI (k_or Q_0).1 = 2 := by decide +kernel
theorem tf_14 : qa_val (k_of L_3) 7 = .inl 4 := by decide +kernel
theorem tf_15 : k_iv (k_as 14 (k_of L_3) 10 0) = (-2013) := by decide +kernel
theorem tf_16 : qa_pg (k_of L_3) 10 = .inl 1 := by decide +kernel
theorem tf_17 : qa_pg (k_of L_3) 11 = .inl 1 := by decide +kernel
theorem tf_18 : (k_ac 5 (k_of L_3) 10 1).1 = .inr 1 := by decide +kernel
theorem tf_19 : (k_ac 6 (k_of L_3) 10 0).1 = .inr 1 := by decide +kernel
def L_4 : QS := ([[(7, 5), (10, 0), (100, 6)]], ([(11, 11, 0)], [0], 4, 3), 4, 3, 0, 0)
theorem tf_20 : (k_ac 5 (k_of L_3) 11 11).1 = .inl 3 := by decide +kernel
theorem tf_21 : k_eqb (k_ac 5 (k_of L_3) 11 11).2 (k_of L_4) = true := by decide +kernel
theorem tf_22 : qa_pg (k_of L_4) 11 = .inl 2 := by decide +kernel
def L_5 : QS := ([[], [(7, 5), (10, 0), (100, 6)]], ([(11, 11, 0)], [0], 4, 3), 4, 3, 0, 0)
theorem tf_23 : (k_ac 2 (k_of L_4) 0 0).1 = .inl 1 := by decide +kernel
theorem tf_24 : k_eqb (k_ac 2 (k_of L_4) 0 0).2 (k_of L_5) = true := by decide +kernel
theorem tf_25 : (k_ac 2 (k_of L_5) 0 0).1 = .inr 1 := by decide +kernel
theorem tf_26 : qa_run (k_of L_5) 7 = .inl 1 := by decide +kernel
theorem tf_27 : k_iv (k_as 21 (k_of L_5) 11 0) = (-2013) := by decide +kernel
def L_6 : QS := ([[(100, 9)], [(7, 5), (10, 0), (100, 6)]], ([(11, 11, 0)], [0], 4, 3), 4, 3, 0, 0)
theorem tf_28 : (k_ac 0 (k_of L_5) 100 8).1 = .inl 1 := by decide +kernel
theorem tf_29 : k_eqb (k_ac 0 (k_of L_5) 100 8).2 (k_of L_6) = true := by decide +kernel
theorem tf_30 : qa_val (k_of L_6) 100 = .inl 8 := by decide +kernel
def L_7 : QS := ([[], [(100, 9)], [(7, 5), (10, 0), (100, 6)]], ([(11, 11, 0)], [0], 4, 3), 4, 3, 0, 0)
theorem tf_31 : (k_ac 2 (k_of L_6) 0 0).1 = .inl 2 := by decide +kernel
theorem tf_32 : k_eqb (k_ac 2 (k_of L_6) 0 0).2 (k_of L_7) = true := by decide +kernel
theorem tf_33 : qa_pg (k_of L_7) 7 = .inl 2 := by decide +kernel
theorem tf_34 : qa_pg (k_of L_7) 100 = .inl 1 := by decide +kernel
theorem tf_35 : qa_run (k_of L_7) 7 = .inl 2 := by decide +kernel
theorem tf_36 : qa_run (k_of L_7) 100 = .inl 1 := by decide +kernel
theorem tf_37 : nI (k_told (k_of L_7)) = 4 := by decide +kernel
def L_8 : QS := ([[(100, 0)], [(100, 9)], [(7, 5), (10, 0), (100, 6)]], ([(11, 11, 0)], [0], 4, 3), 4, 3, 0, 0)
theorem tf_38 : (k_ac 1 (k_of L_7) 100 0).1 = .inl 1 := by decide +kernel
theorem tf_39 : k_eqb (k_ac 1 (k_of L_7) 100 0).2 (k_of L_8) = true := by decide +kernel
theorem tf_40 : qa_ft (k_of L_8) 100 = .inl false := by decide +kernel
theorem tf_41 : qa_pg (k_of L_8) 100 = .inl 1 := by decide +kernel
theorem tf_42 : qa_pg (k_of L_8) 7 = .inl 3 := by decide +kernel
def Q_1 : QRow := [(7, 5), (11, 12)]
theorem tf_43 : k_fnd (k_of L_8) (k_or Q_1) := k_fndb_sp (by decide +kernel)
theorem tf_44 : nI (k_or Q_1).1 = 2 := by decide +kernel
def L_9 : QS := ([[(100, 0)], [(7, 5), (10, 0), (100, 9)]], ([(11, 11, 0)], [0], 4, 3), 4, 3, 0, 0)
def Q_2 : QRow := [(7, 5), (10, 0), (100, 9)]
theorem tf_45 : k_mgdb ((k_of L_8).2.1 (k_of L_8).1) ((k_of L_8).2.1 ((k_of L_8).1 - 1)) (k_or Q_2) = true := by decide +kernel
theorem tf_46 : 2 ≤ (k_of L_8).1 ∧ (k_or Q_2).1 ≤ 60 := by decide +kernel
theorem tf_47 : k_eqb (k_smg (k_of L_8) (k_or Q_2)) (k_of L_9) = true := by decide +kernel
theorem tf_48 : (k_ac 3 (k_of L_8) 0 0).1 = .inl 3 ∧ k_eq2 (k_ac 3 (k_of L_8) 0 0).2 (k_of L_9) := k_ac3_of tf_45 tf_46 tf_47
theorem tf_49 : nI (k_of L_9).1 = 1 := by decide +kernel
theorem tf_50 : qa_sz (k_of L_9) 1 = .inl 3 := by decide +kernel
theorem tf_51 : qa_ki (k_of L_9) 1 2 = .inl 100 := by decide +kernel
theorem tf_52 : qa_go (k_of L_9) 1 1 = .inl true := by decide +kernel
theorem tf_53 : qa_pg (k_of L_9) 7 = .inl 2 := by decide +kernel
theorem tf_54 : (k_ac 3 (k_of L_9) 0 0).1 = .inr 1 := by decide +kernel
theorem tf_55 : nI (k_of L_8).1 = 2 := by decide +kernel
theorem tf_56 : qa_val (k_of L_7) 100 = .inl 8 := by decide +kernel
def L_10 : QS := ([[(11, 0)], [(100, 9)], [(7, 5), (10, 0), (100, 6)]], ([(11, 11, 0)], [0], 4, 3), 4, 3, 0, 0)
theorem tf_57 : (k_ac 1 (k_of L_7) 11 0).1 = .inl 1 := by decide +kernel
theorem tf_58 : k_eqb (k_ac 1 (k_of L_7) 11 0).2 (k_of L_10) = true := by decide +kernel
def Q_3 : QRow := [(7, 5), (100, 9)]
theorem tf_59 : k_fnd (k_of L_10) (k_or Q_3) := k_fndb_sp (by decide +kernel)
theorem tf_60 : nI (k_or Q_3).1 = 2 := by decide +kernel
theorem tf_61 : qq_ka (k_or Q_3) 0 = .inl 7 := by decide +kernel
theorem tf_62 : qq_ka (k_or Q_3) 1 = .inl 100 := by decide +kernel
def L_11 : QS := ([[]], ([(7, 4, 0), (100, 8, 0)], [0], 4, 3), 4, 3, 1, 2)
theorem tf_63 : (50 ≤ (50 : Int32).toInt ∧ (50 : Int32).toInt ≤ 100) ∧ (k_or Q_3).1 ≤ 160 := by decide +kernel
theorem tf_64 : k_eqb (k_sbl (k_of L_10) (k_or Q_3) (k_u 50)) (k_of L_11) = true := by decide +kernel
theorem tf_65 : nI (k_ru (k_or Q_3).1 (k_each (k_of L_10).2.2.2.1 (k_u 50))) = 1 := by decide +kernel
theorem tf_66 : nI (k_of L_11).2.2.1.1.1 = 2 := by decide +kernel
theorem tf_67 : qa_val (k_of L_11) 100 = .inl 8 := by decide +kernel
theorem tf_68 : qa_val (k_of L_11) 7 = .inl 4 := by decide +kernel
theorem tf_69 : (k_of L_11).2.2.2.2.2.2 = 2 := by decide +kernel
theorem tf_70 : nI (k_told (k_of L_11)) = 0 := by decide +kernel
theorem tf_71 : nI (k_of L_11).1 = 0 := by decide +kernel
theorem tf_72 : nI (k_tlv (k_of L_11).2.2.1) = 0 := by decide +kernel
def L_12 : QS := ([[(7, 0)]], ([(7, 4, 0), (100, 8, 0)], [0], 4, 3), 4, 3, 1, 2)
theorem tf_73 : (k_ac 1 (k_of L_11) 7 0).1 = .inl 1 := by decide +kernel
theorem tf_74 : k_eqb (k_ac 1 (k_of L_11) 7 0).2 (k_of L_12) = true := by decide +kernel
def L_13 : QS := ([[(7, 0), (100, 0)]], ([(7, 4, 0), (100, 8, 0)], [0], 4, 3), 4, 3, 1, 2)
theorem tf_75 : (k_ac 1 (k_of L_12) 100 0).1 = .inl 2 := by decide +kernel
theorem tf_76 : k_eqb (k_ac 1 (k_of L_12) 100 0).2 (k_of L_13) = true := by decide +kernel
def L_14 : QS := ([[]], ([], [], 4, 3), 4, 3, 2, 2)
def Q_4 : QRow := []
theorem tf_77 : k_fnd (k_of L_13) (k_or Q_4) := k_fndb_sp (by decide +kernel)
theorem tf_78 : (50 ≤ (100 : Int32).toInt ∧ (100 : Int32).toInt ≤ 100) ∧ (k_or Q_4).1 ≤ 160 := by decide +kernel
theorem tf_79 : k_eqb (k_sbl (k_of L_13) (k_or Q_4) (k_u 100)) (k_of L_14) = true := by decide +kernel
theorem tf_80 : nI (k_ru (k_or Q_4).1 (k_each (k_of L_13).2.2.2.1 (k_u 100))) = 0 := by decide +kernel
theorem tf_81 : nI (k_of L_14).2.2.1.1.1 = 0 := by decide +kernel
theorem tf_82 : nI (k_tlv (k_of L_14).2.2.1) = 0 := by decide +kernel
theorem tf_83 : (k_of L_14).2.2.2.2.2.1 = 2 := by decide +kernel
def L_15 : QS := ([[]], ([], [], 4, 3), 2, 3, 2, 2)
theorem tf_84 : (k_ac 7 (k_of L_14) 2 0).1 = .inl 4 := by decide +kernel
theorem tf_85 : k_eqb (k_ac 7 (k_of L_14) 2 0).2 (k_of L_15) = true := by decide +kernel
def L_16 : QS := ([[]], ([(1, 1, 0)], [0], 4, 3), 2, 3, 2, 2)
theorem tf_86 : (k_ac 5 (k_of L_15) 1 1).1 = .inl 3 := by decide +kernel
theorem tf_87 : k_eqb (k_ac 5 (k_of L_15) 1 1).2 (k_of L_16) = true := by decide +kernel
def L_17 : QS := ([[]], ([(1, 1, 0), (2, 2, 0)], [0], 4, 3), 2, 3, 2, 2)
theorem tf_88 : (k_ac 5 (k_of L_16) 2 2).1 = .inl 1 := by decide +kernel
theorem tf_89 : k_eqb (k_ac 5 (k_of L_16) 2 2).2 (k_of L_17) = true := by decide +kernel
def L_18 : QS := ([[]], ([(1, 1, 0), (2, 2, 0), (3, 3, 0)], [0], 4, 3), 2, 3, 2, 2)
theorem tf_90 : (k_ac 5 (k_of L_17) 3 3).1 = .inl 1 := by decide +kernel
theorem tf_91 : k_eqb (k_ac 5 (k_of L_17) 3 3).2 (k_of L_18) = true := by decide +kernel
def L_19 : QS := ([[]], ([(1, 1, 0), (2, 2, 0), (3, 3, 0), (4, 4, 0)], [0], 4, 3), 2, 3, 2, 2)
theorem tf_92 : (k_ac 5 (k_of L_18) 4 4).1 = .inl 1 := by decide +kernel
theorem tf_93 : k_eqb (k_ac 5 (k_of L_18) 4 4).2 (k_of L_19) = true := by decide +kernel
def L_20 : QS := ([[]], ([(1, 1, 0), (2, 2, 0), (3, 3, 0), (4, 4, 0), (5, 5, 0)], [0, 5], 4, 3), 2, 3, 2, 2)
theorem tf_94 : (k_ac 5 (k_of L_19) 5 5).1 = .inl 3 := by decide +kernel
theorem tf_95 : k_eqb (k_ac 5 (k_of L_19) 5 5).2 (k_of L_20) = true := by decide +kernel
theorem tf_96 : nI (k_of L_20).2.2.1.2.2.1 = 2 := by decide +kernel
