/-! law, up to its loop: states and checks. Laid by wip/p55/gen_lawbody.py. -/
def LW_0 : QS := ([[(5, 2)]], ([], [], 0, 0), 4, 3, 0, 0)
theorem wf_0 : (k_ac 0 (k_of k_e0s) 5 1).1 = .inl 1 := by decide +kernel
theorem wf_1 : k_eqb (k_ac 0 (k_of k_e0s) 5 1).2 (k_of LW_0) = true := by decide +kernel
def LW_1 : QS := ([[(5, 2), (9, 3)]], ([], [], 0, 0), 4, 3, 0, 0)
theorem wf_2 : (k_ac 0 (k_of LW_0) 9 2).1 = .inl 2 := by decide +kernel
theorem wf_3 : k_eqb (k_ac 0 (k_of LW_0) 9 2).2 (k_of LW_1) = true := by decide +kernel
def LW_2 : QS := ([[]], ([(5, 1, 0), (9, 2, 0)], [0], 4, 3), 4, 3, 1, 2)
def QW_0 : QRow := [(5, 2), (9, 3)]
theorem wf_4 : k_fnd (k_of LW_1) (k_or QW_0) := k_fndb_sp (by decide +kernel)
theorem wf_5 : (50 ≤ (100 : Int32).toInt ∧ (100 : Int32).toInt ≤ 100) ∧ (k_or QW_0).1 ≤ 160 := by decide +kernel
theorem wf_6 : k_eqb (k_sbl (k_of LW_1) (k_or QW_0) (k_u 100)) (k_of LW_2) = true := by decide +kernel
theorem wf_7 : nI (k_ru (k_or QW_0).1 (k_each (k_of LW_1).2.2.2.1 (k_u 100))) = 1 := by decide +kernel
def LW_3 : QS := ([[(6, 7)]], ([(5, 1, 0), (9, 2, 0)], [0], 4, 3), 4, 3, 1, 2)
theorem wf_8 : (k_ac 0 (k_of LW_2) 6 6).1 = .inl 1 := by decide +kernel
theorem wf_9 : k_eqb (k_ac 0 (k_of LW_2) 6 6).2 (k_of LW_3) = true := by decide +kernel
