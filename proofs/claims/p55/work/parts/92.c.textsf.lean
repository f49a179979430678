/-! texts: states and checks. Laid by wip/p55/gen_texts.py. -/
theorem tf_609 : k_prb (k_lts (112 : Int64) 8) = true := by decide +kernel
theorem tf_610 : k_prb (k_lts (0 : Int64) 8) = true := by decide +kernel
theorem tf_611 : (k_lts (112 : Int64) 8).length + (k_lts (0 : Int64) 8).length ≤ 60 := by decide +kernel
theorem tf_612 : k_erb (k_lts (112 : Int64) 8 ++ k_lts (0 : Int64) 8) 1 = true := by decide +kernel
def T_0 : List Int32 := k_lts (112 : Int64) 8 ++ k_lts (0 : Int64) 8
theorem tf_613 : k_prb (k_lts (31579289236353072 : Int64) 8) = true := by decide +kernel
theorem tf_614 : (k_lts (31579289236353072 : Int64) 8).length + (k_lts (0 : Int64) 8).length ≤ 60 := by decide +kernel
theorem tf_615 : k_erb (k_lts (31579289236353072 : Int64) 8 ++ k_lts (0 : Int64) 8) 6 = true := by decide +kernel
def T_1 : List Int32 := k_lts (31579289236353072 : Int64) 8 ++ k_lts (0 : Int64) 8
theorem tf_616 : k_prb (k_lts (7352373 : Int64) 8) = true := by decide +kernel
theorem tf_617 : (k_lts (7352373 : Int64) 8).length + (k_lts (0 : Int64) 8).length ≤ 60 := by decide +kernel
theorem tf_618 : k_erb (k_lts (7352373 : Int64) 8 ++ k_lts (0 : Int64) 8) 2 = true := by decide +kernel
def T_2 : List Int32 := k_lts (7352373 : Int64) 8 ++ k_lts (0 : Int64) 8
theorem tf_619 : k_prb (k_lts (123356564172848 : Int64) 8) = true := by decide +kernel
theorem tf_620 : (k_lts (123356564172848 : Int64) 8).length + (k_lts (0 : Int64) 8).length ≤ 60 := by decide +kernel
theorem tf_621 : k_erb (k_lts (123356564172848 : Int64) 8 ++ k_lts (0 : Int64) 8) 5 = true := by decide +kernel
def T_3 : List Int32 := k_lts (123356564172848 : Int64) 8 ++ k_lts (0 : Int64) 8
theorem tf_622 : k_prb (k_lts (6568251 : Int64) 8) = true := by decide +kernel
theorem tf_623 : (k_lts (6568251 : Int64) 8).length + (k_lts (0 : Int64) 8).length ≤ 60 := by decide +kernel
theorem tf_624 : k_erb (k_lts (6568251 : Int64) 8 ++ k_lts (0 : Int64) 8) 3 = true := by decide +kernel
def T_4 : List Int32 := k_lts (6568251 : Int64) 8 ++ k_lts (0 : Int64) 8
theorem tf_625 : k_prb (k_lts (6435897 : Int64) 8) = true := by decide +kernel
theorem tf_626 : (k_lts (6435897 : Int64) 8).length + (k_lts (0 : Int64) 8).length ≤ 60 := by decide +kernel
theorem tf_627 : k_erb (k_lts (6435897 : Int64) 8 ++ k_lts (0 : Int64) 8) 1 = true := by decide +kernel
def T_5 : List Int32 := k_lts (6435897 : Int64) 8 ++ k_lts (0 : Int64) 8
theorem tf_628 : k_prb (k_lts (25141 : Int64) 8) = true := by decide +kernel
theorem tf_629 : (k_lts (25141 : Int64) 8).length + (k_lts (0 : Int64) 8).length ≤ 60 := by decide +kernel
theorem tf_630 : k_erb (k_lts (25141 : Int64) 8 ++ k_lts (0 : Int64) 8) 2 = true := by decide +kernel
def T_6 : List Int32 := k_lts (25141 : Int64) 8 ++ k_lts (0 : Int64) 8
theorem tf_631 : k_prb (k_lts (1647390769 : Int64) 8) = true := by decide +kernel
theorem tf_632 : (k_lts (1647390769 : Int64) 8).length + (k_lts (0 : Int64) 8).length ≤ 60 := by decide +kernel
theorem tf_633 : k_erb (k_lts (1647390769 : Int64) 8 ++ k_lts (0 : Int64) 8) 3 = true := by decide +kernel
def T_7 : List Int32 := k_lts (1647390769 : Int64) 8 ++ k_lts (0 : Int64) 8
theorem tf_634 : k_prb (k_lts (1647390768 : Int64) 8) = true := by decide +kernel
theorem tf_635 : (k_lts (1647390768 : Int64) 8).length + (k_lts (0 : Int64) 8).length ≤ 60 := by decide +kernel
theorem tf_636 : k_erb (k_lts (1647390768 : Int64) 8 ++ k_lts (0 : Int64) 8) 4 = true := by decide +kernel
def T_8 : List Int32 := k_lts (1647390768 : Int64) 8 ++ k_lts (0 : Int64) 8
theorem tf_637 : k_prb (k_lts (6435120 : Int64) 8) = true := by decide +kernel
theorem tf_638 : (k_lts (6435120 : Int64) 8).length + (k_lts (0 : Int64) 8).length ≤ 60 := by decide +kernel
theorem tf_639 : k_erb (k_lts (6435120 : Int64) 8 ++ k_lts (0 : Int64) 8) 3 = true := by decide +kernel
def T_9 : List Int32 := k_lts (6435120 : Int64) 8 ++ k_lts (0 : Int64) 8
theorem tf_640 : k_prb (k_lts (25443 : Int64) 8) = true := by decide +kernel
theorem tf_641 : (k_lts (25443 : Int64) 8).length + (k_lts (0 : Int64) 8).length ≤ 60 := by decide +kernel
theorem tf_642 : k_erb (k_lts (25443 : Int64) 8 ++ k_lts (0 : Int64) 8) 1 = true := by decide +kernel
def T_10 : List Int32 := k_lts (25443 : Int64) 8 ++ k_lts (0 : Int64) 8
theorem tf_643 : k_prb (k_lts (6894397 : Int64) 8) = true := by decide +kernel
theorem tf_644 : (k_lts (6894397 : Int64) 8).length + (k_lts (0 : Int64) 8).length ≤ 60 := by decide +kernel
theorem tf_645 : k_erb (k_lts (6894397 : Int64) 8 ++ k_lts (0 : Int64) 8) 3 = true := by decide +kernel
def T_11 : List Int32 := k_lts (6894397 : Int64) 8 ++ k_lts (0 : Int64) 8
theorem tf_646 : k_prb (k_lts (101 : Int64) 8) = true := by decide +kernel
theorem tf_647 : (k_lts (101 : Int64) 8).length + (k_lts (0 : Int64) 8).length ≤ 60 := by decide +kernel
theorem tf_648 : k_erb (k_lts (101 : Int64) 8 ++ k_lts (0 : Int64) 8) 1 = true := by decide +kernel
def T_12 : List Int32 := k_lts (101 : Int64) 8 ++ k_lts (0 : Int64) 8
theorem tf_649 : (k_lts (0 : Int64) 8).length + (k_lts (0 : Int64) 8).length ≤ 60 := by decide +kernel
theorem tf_650 : k_erb (k_lts (0 : Int64) 8 ++ k_lts (0 : Int64) 8) 0 = true := by decide +kernel
def T_13 : List Int32 := k_lts (0 : Int64) 8 ++ k_lts (0 : Int64) 8
theorem tf_651 : k_prb (k_lts (426198121315 : Int64) 8) = true := by decide +kernel
theorem tf_652 : (k_lts (426198121315 : Int64) 8).length + (k_lts (0 : Int64) 8).length ≤ 60 := by decide +kernel
theorem tf_653 : k_erb (k_lts (426198121315 : Int64) 8 ++ k_lts (0 : Int64) 8) 5 = true := by decide +kernel
def T_14 : List Int32 := k_lts (426198121315 : Int64) 8 ++ k_lts (0 : Int64) 8
theorem tf_654 : k_prb (k_lts (8086557523856668985 : Int64) 8) = true := by decide +kernel
theorem tf_655 : (k_lts (8086557523856668985 : Int64) 8).length + (k_lts (0 : Int64) 8).length ≤ 60 := by decide +kernel
theorem tf_656 : k_erb (k_lts (8086557523856668985 : Int64) 8 ++ k_lts (0 : Int64) 8) 8 = true := by decide +kernel
def T_15 : List Int32 := k_lts (8086557523856668985 : Int64) 8 ++ k_lts (0 : Int64) 8
theorem tf_657 : k_prb (k_lts (451780882485 : Int64) 8) = true := by decide +kernel
theorem tf_658 : (k_lts (451780882485 : Int64) 8).length + (k_lts (0 : Int64) 8).length ≤ 60 := by decide +kernel
theorem tf_659 : k_erb (k_lts (451780882485 : Int64) 8 ++ k_lts (0 : Int64) 8) 4 = true := by decide +kernel
def T_16 : List Int32 := k_lts (451780882485 : Int64) 8 ++ k_lts (0 : Int64) 8
theorem tf_660 : k_prb (k_lts (120 : Int64) 8) = true := by decide +kernel
theorem tf_661 : (k_lts (120 : Int64) 8).length + (k_lts (0 : Int64) 8).length ≤ 60 := by decide +kernel
theorem tf_662 : k_erb (k_lts (120 : Int64) 8 ++ k_lts (0 : Int64) 8) 0 = true := by decide +kernel
def T_17 : List Int32 := k_lts (120 : Int64) 8 ++ k_lts (0 : Int64) 8
theorem tf_663 : k_prb (k_lts (27643028988834168 : Int64) 8) = true := by decide +kernel
theorem tf_664 : (k_lts (27643028988834168 : Int64) 8).length + (k_lts (0 : Int64) 8).length ≤ 60 := by decide +kernel
theorem tf_665 : k_erb (k_lts (27643028988834168 : Int64) 8 ++ k_lts (0 : Int64) 8) 6 = true := by decide +kernel
def T_18 : List Int32 := k_lts (27643028988834168 : Int64) 8 ++ k_lts (0 : Int64) 8
theorem tf_666 : k_prb (k_lts (1345404209 : Int64) 8) = true := by decide +kernel
theorem tf_667 : (k_lts (1345404209 : Int64) 8).length + (k_lts (0 : Int64) 8).length ≤ 60 := by decide +kernel
theorem tf_668 : k_erb (k_lts (1345404209 : Int64) 8 ++ k_lts (0 : Int64) 8) 0 = true := by decide +kernel
def T_19 : List Int32 := k_lts (1345404209 : Int64) 8 ++ k_lts (0 : Int64) 8
theorem tf_669 : nI (T_19 : List Int32).length = 4 := by decide +kernel
theorem tf_670 : k_prb (k_lts (8085435987673495101 : Int64) 8) = true := by decide +kernel
theorem tf_671 : ([] : List Int32).length + (k_lts (8085435987673495101 : Int64) 8).length ≤ 60 := by decide +kernel
def T_20 : List Int32 := ([] : List Int32) ++ k_lts (8085435987673495101 : Int64) 8
theorem tf_672 : k_prb (k_lts (3619596905314728809 : Int64) 8) = true := by decide +kernel
theorem tf_673 : (T_20 : List Int32).length + (k_lts (3619596905314728809 : Int64) 8).length ≤ 60 := by decide +kernel
def T_21 : List Int32 := (T_20 : List Int32) ++ k_lts (3619596905314728809 : Int64) 8
theorem tf_674 : k_prb (k_lts (3980398373973146929 : Int64) 8) = true := by decide +kernel
theorem tf_675 : (T_21 : List Int32).length + (k_lts (3980398373973146929 : Int64) 8).length ≤ 60 := by decide +kernel
def T_22 : List Int32 := (T_21 : List Int32) ++ k_lts (3980398373973146929 : Int64) 8
theorem tf_676 : k_txb T_22 = true := by decide +kernel
theorem tf_677 : (k_fo (k_tx T_22) (T_22 : List Int32).length (fun _ => none) (T_22 : List Int32).length (k_of k_e0s)).isNone = true := by decide +kernel
def Q_14 : QRow := []
theorem tf_678 : k_fnd (k_of k_e0s) (k_or Q_14) := k_fndb_sp (by decide +kernel)
theorem tf_679 : nI (k_or Q_14).1 = 0 := by decide +kernel
theorem tf_680 : nI (T_22 : List Int32).length = 24 := by decide +kernel
theorem tf_681 : k_prb (k_lts (3980398373906103138 : Int64) 8) = true := by decide +kernel
theorem tf_682 : (T_21 : List Int32).length + (k_lts (3980398373906103138 : Int64) 8).length ≤ 60 := by decide +kernel
def T_23 : List Int32 := (T_21 : List Int32) ++ k_lts (3980398373906103138 : Int64) 8
theorem tf_683 : k_prb (k_lts (3544385938467142969 : Int64) 8) = true := by decide +kernel
theorem tf_684 : (T_23 : List Int32).length + (k_lts (3544385938467142969 : Int64) 8).length ≤ 60 := by decide +kernel
def T_24 : List Int32 := (T_23 : List Int32) ++ k_lts (3544385938467142969 : Int64) 8
def L_151 : QS := ([[(5, 2)]], ([], [], 0, 0), 4, 3, 0, 0)
def L_152 : QS := ([[(5, 2), (6, 3)]], ([], [], 0, 0), 4, 3, 0, 0)
def L_153 : QS := ([[(5, 0), (6, 3)]], ([], [], 0, 0), 4, 3, 0, 0)
def L_154 : QS := ([[], [(5, 0), (6, 3)]], ([], [], 0, 0), 4, 3, 0, 0)
def L_155 : QS := ([[], [(5, 0), (6, 3)]], ([(7, 7, 0)], [0], 4, 3), 4, 3, 0, 0)
def L_156 : QS := ([[], [(5, 0), (6, 3)]], ([], [0], 4, 3), 4, 3, 0, 0)
def L_157 : QS := ([[]], ([(6, 2, 0)], [0], 4, 3), 4, 3, 1, 1)
def L_158 : QS := ([[]], ([(6, 2, 0), (9, 9, 0)], [0], 4, 3), 4, 3, 1, 1)
noncomputable def g_685 : Nat → Option KS := fun d : Nat => if d = 27 then some (k_of L_151) else if d = 22 then some (k_of L_152) else if d = 19 then some (k_of L_153) else if d = 17 then some (k_of L_154) else if d = 12 then some (k_of L_155) else if d = 9 then some (k_of L_156) else if d = 4 then some (k_of L_157) else if d = 33 then some (k_of L_158) else none
theorem tf_685 : (T_24 : List Int32).length = 32 := by decide +kernel
theorem tf_686 : k_room (k_of k_e0s) 5 = true := by decide +kernel
theorem tf_687 : k_eqb (k_s0 (k_of k_e0s) (k_wr ((k_of k_e0s).2.1 0) 5 1)) (k_of L_151) = true := by decide +kernel
theorem tf_688 : k_room (k_of L_151) 6 = true := by decide +kernel
theorem tf_689 : k_eqb (k_s0 (k_of L_151) (k_wr ((k_of L_151).2.1 0) 6 2)) (k_of L_152) = true := by decide +kernel
theorem tf_690 : k_room (k_of L_152) 5 = true := by decide +kernel
theorem tf_691 : k_eqb (k_s0 (k_of L_152) (k_wr ((k_of L_152).2.1 0) 5 (-1))) (k_of L_153) = true := by decide +kernel
theorem tf_692 : ¬ (((k_of L_153).2.1 0).1 = 0 ∨ (k_of L_153).1 = 6) := by decide +kernel
theorem tf_693 : k_eqb (k_scl (k_of L_153)) (k_of L_154) = true := by decide +kernel
theorem tf_694 : k_cin (k_of L_154) 7 = true := by decide +kernel
theorem tf_695 : k_eqb (k_stt (k_of L_154) (k_twr (k_tfx (k_of L_154)) 7 7).2) (k_of L_155) = true := by decide +kernel
theorem tf_696 : ¬ (k_run (k_of L_155) 7 ≤ (k_of L_155).1 ∨ ¬ k_pl (k_of L_155).2.2.1.1.1 (k_of L_155).2.2.1.1.2.1 7 < (k_of L_155).2.2.1.1.1) := by decide +kernel
theorem tf_697 : k_eqb (k_stt (k_of L_155) (k_tdel (k_of L_155).2.2.1 7)) (k_of L_156) = true := by decide +kernel
def Q_15 : QRow := [(6, 3)]
theorem tf_698 : k_fnd (k_of L_156) (k_or Q_15) := k_fndb_sp (by decide +kernel)
theorem tf_699 : (k_or Q_15).1 ≤ 160 := by decide +kernel
theorem tf_700 : k_eqb (k_sbl (k_of L_156) (k_or Q_15) (k_u 100)) (k_of L_157) = true := by decide +kernel
theorem tf_701 : k_cin (k_of L_157) 9 = true := by decide +kernel
theorem tf_702 : k_eqb (k_stt (k_of L_157) (k_twr (k_tfx (k_of L_157)) 9 9).2) (k_of L_158) = true := by decide +kernel
theorem tfo_685 : k_fo (k_tx T_24) (T_24 : List Int32).length g_685 (T_24 : List Int32).length (k_of k_e0s) = some (k_of L_158) := by
  rw [tf_685]
  rw [show 32 = 31 + 1 from rfl, k_fo_sk (by decide +kernel)]
  rw [show 31 = 30 + 1 from rfl, k_fo_sk (by decide +kernel)]
  rw [show 30 = 29 + 1 from rfl, k_fo_sk (by decide +kernel)]
  rw [show 29 = 28 + 1 from rfl, k_fo_sk (by decide +kernel)]
  rw [show 28 = 27 + 1 from rfl, k_fo_sc (w := (112, 5, 1)) (L := (k_of L_151)) (by decide +kernel) (by decide +kernel) (k_co_p (a := 5) (b := 1) tf_686) rfl (k_eqb_sp tf_687)]
  rw [show 27 = 26 + 1 from rfl, k_fo_sk (by decide +kernel)]
  rw [show 26 = 25 + 1 from rfl, k_fo_sk (by decide +kernel)]
  rw [show 25 = 24 + 1 from rfl, k_fo_sk (by decide +kernel)]
  rw [show 24 = 23 + 1 from rfl, k_fo_sk (by decide +kernel)]
  rw [show 23 = 22 + 1 from rfl, k_fo_sc (w := (112, 6, 2)) (L := (k_of L_152)) (by decide +kernel) (by decide +kernel) (k_co_p (a := 6) (b := 2) tf_688) rfl (k_eqb_sp tf_689)]
  rw [show 22 = 21 + 1 from rfl, k_fo_sk (by decide +kernel)]
  rw [show 21 = 20 + 1 from rfl, k_fo_sk (by decide +kernel)]
  rw [show 20 = 19 + 1 from rfl, k_fo_sc (w := (100, 5, 0)) (L := (k_of L_153)) (by decide +kernel) (by decide +kernel) (k_co_d (a := 5) (b := 0) tf_690) rfl (k_eqb_sp tf_691)]
  rw [show 19 = 18 + 1 from rfl, k_fo_sk (by decide +kernel)]
  rw [show 18 = 17 + 1 from rfl, k_fo_sc (w := (99, 0, 0)) (L := (k_of L_154)) (by decide +kernel) (by decide +kernel) (k_co_c (a := 0) (b := 0) tf_692) rfl (k_eqb_sp tf_693)]
  rw [show 17 = 16 + 1 from rfl, k_fo_sk (by decide +kernel)]
  rw [show 16 = 15 + 1 from rfl, k_fo_sk (by decide +kernel)]
  rw [show 15 = 14 + 1 from rfl, k_fo_sk (by decide +kernel)]
  rw [show 14 = 13 + 1 from rfl, k_fo_sk (by decide +kernel)]
  rw [show 13 = 12 + 1 from rfl, k_fo_sc (w := (105, 7, 7)) (L := (k_of L_155)) (by decide +kernel) (by decide +kernel) (k_co_i (a := 7) (b := 7) tf_694) rfl (k_eqb_sp tf_695)]
  rw [show 12 = 11 + 1 from rfl, k_fo_sk (by decide +kernel)]
  rw [show 11 = 10 + 1 from rfl, k_fo_sk (by decide +kernel)]
  rw [show 10 = 9 + 1 from rfl, k_fo_sc (w := (101, 7, 0)) (L := (k_of L_156)) (by decide +kernel) (by decide +kernel) (k_co_e (a := 7) (b := 0) tf_696) rfl (k_eqb_sp tf_697)]
  rw [show 9 = 8 + 1 from rfl, k_fo_sk (by decide +kernel)]
  rw [show 8 = 7 + 1 from rfl, k_fo_sk (by decide +kernel)]
  rw [show 7 = 6 + 1 from rfl, k_fo_sk (by decide +kernel)]
  rw [show 6 = 5 + 1 from rfl, k_fo_sk (by decide +kernel)]
  rw [show 5 = 4 + 1 from rfl, k_fo_sc (w := (98, 100, 0)) (L := (k_of L_157)) (by decide +kernel) (by decide +kernel) (k_co_b (a := 100) (b := 0) (by rw [qq_fd_of tf_698]; exact tf_699)) rfl ((k_sbl_q tf_698).tr (k_eqb_sp tf_700))]
  rw [show 4 = 3 + 1 from rfl, k_fo_sk (by decide +kernel)]
  rw [show 3 = 2 + 1 from rfl, k_fo_sk (by decide +kernel)]
  rw [show 2 = 1 + 1 from rfl, k_fo_sk (by decide +kernel)]
  rw [show 1 = 0 + 1 from rfl, k_fo_sk (by decide +kernel)]
  exact k_fo_en (w := (105, 9, 9)) (L := (k_of L_158)) (by decide +kernel) (k_co_i (a := 9) (b := 9) tf_701) rfl (k_eqb_sp tf_702)
theorem tf_703 : k_txb T_24 = true := by decide +kernel
def Q_16 : QRow := [(6, 3), (9, 10)]
theorem tf_704 : k_fnd (k_of L_158) (k_or Q_16) := k_fndb_sp (by decide +kernel)
theorem tf_705 : nI (k_or Q_16).1 = 2 := by decide +kernel
theorem tf_706 : nI ([] : List Int32).length = 0 := by decide +kernel
theorem tf_707 : qq_ka (k_or Q_16) 0 = .inl 6 := by decide +kernel
theorem tf_708 : qa_val (k_of L_158) 9 = .inl 9 := by decide +kernel
theorem tf_709 : qa_own (k_of L_158) 0 = .inl 2 := by decide +kernel
theorem tf_710 : (k_of L_158).2.2.2.2.2.1 = 1 := by decide +kernel
theorem tf_711 : nI (k_of k_e0s).2.2.1.2.2.1 = 0 := by decide +kernel
theorem tf_712 : k_ap ([] : List Int32) 99 = .inl 1 := by decide +kernel
theorem tf_713 : k_erb [99] 1 = true := by decide +kernel
theorem tf_714 : k_ap ([99] : List Int32) 59 = .inl 2 := by decide +kernel
theorem tf_715 : k_erb [99, 59] 2 = true := by decide +kernel
theorem tf_716 : k_ap ([99, 59] : List Int32) 99 = .inl 3 := by decide +kernel
theorem tf_717 : k_erb [99, 59, 99] 3 = true := by decide +kernel
theorem tf_718 : k_ap ([99, 59, 99] : List Int32) 59 = .inl 4 := by decide +kernel
theorem tf_719 : k_erb [99, 59, 99, 59] 4 = true := by decide +kernel
theorem tf_720 : k_ap ([99, 59, 99, 59] : List Int32) 99 = .inl 5 := by decide +kernel
theorem tf_721 : k_erb [99, 59, 99, 59, 99] 5 = true := by decide +kernel
theorem tf_722 : k_ap ([99, 59, 99, 59, 99] : List Int32) 59 = .inl 6 := by decide +kernel
theorem tf_723 : k_erb [99, 59, 99, 59, 99, 59] 6 = true := by decide +kernel
theorem tf_724 : k_ap ([99, 59, 99, 59, 99, 59] : List Int32) 99 = .inl 7 := by decide +kernel
theorem tf_725 : k_erb [99, 59, 99, 59, 99, 59, 99] 7 = true := by decide +kernel
theorem tf_726 : k_ap ([99, 59, 99, 59, 99, 59, 99] : List Int32) 59 = .inl 8 := by decide +kernel
theorem tf_727 : k_erb [99, 59, 99, 59, 99, 59, 99, 59] 8 = true := by decide +kernel
theorem tf_728 : k_ap ([99, 59, 99, 59, 99, 59, 99, 59] : List Int32) 99 = .inl 9 := by decide +kernel
theorem tf_729 : k_erb [99, 59, 99, 59, 99, 59, 99, 59, 99] 9 = true := by decide +kernel
theorem tf_730 : k_ap ([99, 59, 99, 59, 99, 59, 99, 59, 99] : List Int32) 59 = .inl 10 := by decide +kernel
theorem tf_731 : k_erb [99, 59, 99, 59, 99, 59, 99, 59, 99, 59] 10 = true := by decide +kernel
theorem tf_732 : k_ap ([99, 59, 99, 59, 99, 59, 99, 59, 99, 59] : List Int32) 99 = .inl 11 := by decide +kernel
theorem tf_733 : k_erb [99, 59, 99, 59, 99, 59, 99, 59, 99, 59, 99] 11 = true := by decide +kernel
theorem tf_734 : k_ap ([99, 59, 99, 59, 99, 59, 99, 59, 99, 59, 99] : List Int32) 59 = .inl 12 := by decide +kernel
theorem tf_735 : k_erb [99, 59, 99, 59, 99, 59, 99, 59, 99, 59, 99, 59] 12 = true := by decide +kernel
theorem tf_736 : k_ap ([99, 59, 99, 59, 99, 59, 99, 59, 99, 59, 99, 59] : List Int32) 99 = .inl 13 := by decide +kernel
theorem tf_737 : k_erb [99, 59, 99, 59, 99, 59, 99, 59, 99, 59, 99, 59, 99] 13 = true := by decide +kernel
theorem tf_738 : k_ap ([99, 59, 99, 59, 99, 59, 99, 59, 99, 59, 99, 59, 99] : List Int32) 59 = .inl 14 := by decide +kernel
theorem tf_739 : k_erb [99, 59, 99, 59, 99, 59, 99, 59, 99, 59, 99, 59, 99, 59] 14 = true := by decide +kernel
theorem tf_740 : k_ap ([99, 59, 99, 59, 99, 59, 99, 59, 99, 59, 99, 59, 99, 59] : List Int32) 99 = .inl 15 := by decide +kernel
theorem tf_741 : k_erb [99, 59, 99, 59, 99, 59, 99, 59, 99, 59, 99, 59, 99, 59, 99] 15 = true := by decide +kernel
theorem tf_742 : k_ap ([99, 59, 99, 59, 99, 59, 99, 59, 99, 59, 99, 59, 99, 59, 99] : List Int32) 59 = .inl 16 := by decide +kernel
theorem tf_743 : k_erb [99, 59, 99, 59, 99, 59, 99, 59, 99, 59, 99, 59, 99, 59, 99, 59] 16 = true := by decide +kernel
theorem tf_744 : k_ap ([99, 59, 99, 59, 99, 59, 99, 59, 99, 59, 99, 59, 99, 59, 99, 59] : List Int32) 99 = .inl 17 := by decide +kernel
theorem tf_745 : k_erb [99, 59, 99, 59, 99, 59, 99, 59, 99, 59, 99, 59, 99, 59, 99, 59, 99] 17 = true := by decide +kernel
theorem tf_746 : k_ap ([99, 59, 99, 59, 99, 59, 99, 59, 99, 59, 99, 59, 99, 59, 99, 59, 99] : List Int32) 59 = .inl 18 := by decide +kernel
theorem tf_747 : k_erb [99, 59, 99, 59, 99, 59, 99, 59, 99, 59, 99, 59, 99, 59, 99, 59, 99, 59] 18 = true := by decide +kernel
theorem tf_748 : k_ap ([99, 59, 99, 59, 99, 59, 99, 59, 99, 59, 99, 59, 99, 59, 99, 59, 99, 59] : List Int32) 99 = .inl 19 := by decide +kernel
theorem tf_749 : k_erb [99, 59, 99, 59, 99, 59, 99, 59, 99, 59, 99, 59, 99, 59, 99, 59, 99, 59, 99] 19 = true := by decide +kernel
theorem tf_750 : k_ap ([99, 59, 99, 59, 99, 59, 99, 59, 99, 59, 99, 59, 99, 59, 99, 59, 99, 59, 99] : List Int32) 59 = .inl 20 := by decide +kernel
theorem tf_751 : k_erb [99, 59, 99, 59, 99, 59, 99, 59, 99, 59, 99, 59, 99, 59, 99, 59, 99, 59, 99, 59] 20 = true := by decide +kernel
theorem tf_752 : k_ap ([99, 59, 99, 59, 99, 59, 99, 59, 99, 59, 99, 59, 99, 59, 99, 59, 99, 59, 99, 59] : List Int32) 99 = .inl 21 := by decide +kernel
theorem tf_753 : k_erb [99, 59, 99, 59, 99, 59, 99, 59, 99, 59, 99, 59, 99, 59, 99, 59, 99, 59, 99, 59, 99] 21 = true := by decide +kernel
theorem tf_754 : k_ap ([99, 59, 99, 59, 99, 59, 99, 59, 99, 59, 99, 59, 99, 59, 99, 59, 99, 59, 99, 59, 99] : List Int32) 59 = .inl 22 := by decide +kernel
theorem tf_755 : k_erb [99, 59, 99, 59, 99, 59, 99, 59, 99, 59, 99, 59, 99, 59, 99, 59, 99, 59, 99, 59, 99, 59] 22 = true := by decide +kernel
theorem tf_756 : k_ap ([99, 59, 99, 59, 99, 59, 99, 59, 99, 59, 99, 59, 99, 59, 99, 59, 99, 59, 99, 59, 99, 59] : List Int32) 99 = .inl 23 := by decide +kernel
theorem tf_757 : k_erb [99, 59, 99, 59, 99, 59, 99, 59, 99, 59, 99, 59, 99, 59, 99, 59, 99, 59, 99, 59, 99, 59, 99] 23 = true := by decide +kernel
theorem tf_758 : k_ap ([99, 59, 99, 59, 99, 59, 99, 59, 99, 59, 99, 59, 99, 59, 99, 59, 99, 59, 99, 59, 99, 59, 99] : List Int32) 59 = .inl 24 := by decide +kernel
theorem tf_759 : k_erb [99, 59, 99, 59, 99, 59, 99, 59, 99, 59, 99, 59, 99, 59, 99, 59, 99, 59, 99, 59, 99, 59, 99, 59] 24 = true := by decide +kernel
theorem tf_760 : k_ap ([99, 59, 99, 59, 99, 59, 99, 59, 99, 59, 99, 59, 99, 59, 99, 59, 99, 59, 99, 59, 99, 59, 99, 59] : List Int32) 99 = .inl 25 := by decide +kernel
theorem tf_761 : k_erb [99, 59, 99, 59, 99, 59, 99, 59, 99, 59, 99, 59, 99, 59, 99, 59, 99, 59, 99, 59, 99, 59, 99, 59, 99] 25 = true := by decide +kernel
theorem tf_762 : k_ap ([99, 59, 99, 59, 99, 59, 99, 59, 99, 59, 99, 59, 99, 59, 99, 59, 99, 59, 99, 59, 99, 59, 99, 59, 99] : List Int32) 59 = .inl 26 := by decide +kernel
theorem tf_763 : k_erb [99, 59, 99, 59, 99, 59, 99, 59, 99, 59, 99, 59, 99, 59, 99, 59, 99, 59, 99, 59, 99, 59, 99, 59, 99, 59] 26 = true := by decide +kernel
theorem tf_764 : k_ap ([99, 59, 99, 59, 99, 59, 99, 59, 99, 59, 99, 59, 99, 59, 99, 59, 99, 59, 99, 59, 99, 59, 99, 59, 99, 59] : List Int32) 99 = .inl 27 := by decide +kernel
theorem tf_765 : k_erb [99, 59, 99, 59, 99, 59, 99, 59, 99, 59, 99, 59, 99, 59, 99, 59, 99, 59, 99, 59, 99, 59, 99, 59, 99, 59, 99] 27 = true := by decide +kernel
theorem tf_766 : k_ap ([99, 59, 99, 59, 99, 59, 99, 59, 99, 59, 99, 59, 99, 59, 99, 59, 99, 59, 99, 59, 99, 59, 99, 59, 99, 59, 99] : List Int32) 59 = .inl 28 := by decide +kernel
theorem tf_767 : k_erb [99, 59, 99, 59, 99, 59, 99, 59, 99, 59, 99, 59, 99, 59, 99, 59, 99, 59, 99, 59, 99, 59, 99, 59, 99, 59, 99, 59] 28 = true := by decide +kernel
theorem tf_768 : k_ap ([99, 59, 99, 59, 99, 59, 99, 59, 99, 59, 99, 59, 99, 59, 99, 59, 99, 59, 99, 59, 99, 59, 99, 59, 99, 59, 99, 59] : List Int32) 99 = .inl 29 := by decide +kernel
theorem tf_769 : k_erb [99, 59, 99, 59, 99, 59, 99, 59, 99, 59, 99, 59, 99, 59, 99, 59, 99, 59, 99, 59, 99, 59, 99, 59, 99, 59, 99, 59, 99] 29 = true := by decide +kernel
theorem tf_770 : k_ap ([99, 59, 99, 59, 99, 59, 99, 59, 99, 59, 99, 59, 99, 59, 99, 59, 99, 59, 99, 59, 99, 59, 99, 59, 99, 59, 99, 59, 99] : List Int32) 59 = .inl 30 := by decide +kernel
theorem tf_771 : k_erb [99, 59, 99, 59, 99, 59, 99, 59, 99, 59, 99, 59, 99, 59, 99, 59, 99, 59, 99, 59, 99, 59, 99, 59, 99, 59, 99, 59, 99, 59] 30 = true := by decide +kernel
theorem tf_772 : k_ap ([99, 59, 99, 59, 99, 59, 99, 59, 99, 59, 99, 59, 99, 59, 99, 59, 99, 59, 99, 59, 99, 59, 99, 59, 99, 59, 99, 59, 99, 59] : List Int32) 99 = .inl 31 := by decide +kernel
theorem tf_773 : k_erb [99, 59, 99, 59, 99, 59, 99, 59, 99, 59, 99, 59, 99, 59, 99, 59, 99, 59, 99, 59, 99, 59, 99, 59, 99, 59, 99, 59, 99, 59, 99] 31 = true := by decide +kernel
theorem tf_774 : k_ap ([99, 59, 99, 59, 99, 59, 99, 59, 99, 59, 99, 59, 99, 59, 99, 59, 99, 59, 99, 59, 99, 59, 99, 59, 99, 59, 99, 59, 99, 59, 99] : List Int32) 59 = .inl 32 := by decide +kernel
theorem tf_775 : k_erb [99, 59, 99, 59, 99, 59, 99, 59, 99, 59, 99, 59, 99, 59, 99, 59, 99, 59, 99, 59, 99, 59, 99, 59, 99, 59, 99, 59, 99, 59, 99, 59] 32 = true := by decide +kernel
theorem tf_776 : k_ap ([99, 59, 99, 59, 99, 59, 99, 59, 99, 59, 99, 59, 99, 59, 99, 59, 99, 59, 99, 59, 99, 59, 99, 59, 99, 59, 99, 59, 99, 59, 99, 59] : List Int32) 99 = .inl 33 := by decide +kernel
theorem tf_777 : k_erb [99, 59, 99, 59, 99, 59, 99, 59, 99, 59, 99, 59, 99, 59, 99, 59, 99, 59, 99, 59, 99, 59, 99, 59, 99, 59, 99, 59, 99, 59, 99, 59, 99] 33 = true := by decide +kernel
theorem tf_778 : k_ap ([99, 59, 99, 59, 99, 59, 99, 59, 99, 59, 99, 59, 99, 59, 99, 59, 99, 59, 99, 59, 99, 59, 99, 59, 99, 59, 99, 59, 99, 59, 99, 59, 99] : List Int32) 59 = .inl 34 := by decide +kernel
theorem tf_779 : k_erb [99, 59, 99, 59, 99, 59, 99, 59, 99, 59, 99, 59, 99, 59, 99, 59, 99, 59, 99, 59, 99, 59, 99, 59, 99, 59, 99, 59, 99, 59, 99, 59, 99, 59] 34 = true := by decide +kernel
theorem tf_780 : k_ap ([99, 59, 99, 59, 99, 59, 99, 59, 99, 59, 99, 59, 99, 59, 99, 59, 99, 59, 99, 59, 99, 59, 99, 59, 99, 59, 99, 59, 99, 59, 99, 59, 99, 59] : List Int32) 99 = .inl 35 := by decide +kernel
theorem tf_781 : k_erb [99, 59, 99, 59, 99, 59, 99, 59, 99, 59, 99, 59, 99, 59, 99, 59, 99, 59, 99, 59, 99, 59, 99, 59, 99, 59, 99, 59, 99, 59, 99, 59, 99, 59, 99] 35 = true := by decide +kernel
theorem tf_782 : k_ap ([99, 59, 99, 59, 99, 59, 99, 59, 99, 59, 99, 59, 99, 59, 99, 59, 99, 59, 99, 59, 99, 59, 99, 59, 99, 59, 99, 59, 99, 59, 99, 59, 99, 59, 99] : List Int32) 59 = .inl 36 := by decide +kernel
theorem tf_783 : k_erb [99, 59, 99, 59, 99, 59, 99, 59, 99, 59, 99, 59, 99, 59, 99, 59, 99, 59, 99, 59, 99, 59, 99, 59, 99, 59, 99, 59, 99, 59, 99, 59, 99, 59, 99, 59] 36 = true := by decide +kernel
theorem tf_784 : k_ap ([99, 59, 99, 59, 99, 59, 99, 59, 99, 59, 99, 59, 99, 59, 99, 59, 99, 59, 99, 59, 99, 59, 99, 59, 99, 59, 99, 59, 99, 59, 99, 59, 99, 59, 99, 59] : List Int32) 99 = .inl 37 := by decide +kernel
theorem tf_785 : k_erb [99, 59, 99, 59, 99, 59, 99, 59, 99, 59, 99, 59, 99, 59, 99, 59, 99, 59, 99, 59, 99, 59, 99, 59, 99, 59, 99, 59, 99, 59, 99, 59, 99, 59, 99, 59, 99] 37 = true := by decide +kernel
theorem tf_786 : k_ap ([99, 59, 99, 59, 99, 59, 99, 59, 99, 59, 99, 59, 99, 59, 99, 59, 99, 59, 99, 59, 99, 59, 99, 59, 99, 59, 99, 59, 99, 59, 99, 59, 99, 59, 99, 59, 99] : List Int32) 59 = .inl 38 := by decide +kernel
theorem tf_787 : k_erb [99, 59, 99, 59, 99, 59, 99, 59, 99, 59, 99, 59, 99, 59, 99, 59, 99, 59, 99, 59, 99, 59, 99, 59, 99, 59, 99, 59, 99, 59, 99, 59, 99, 59, 99, 59, 99, 59] 38 = true := by decide +kernel
theorem tf_788 : k_ap ([99, 59, 99, 59, 99, 59, 99, 59, 99, 59, 99, 59, 99, 59, 99, 59, 99, 59, 99, 59, 99, 59, 99, 59, 99, 59, 99, 59, 99, 59, 99, 59, 99, 59, 99, 59, 99, 59] : List Int32) 99 = .inl 39 := by decide +kernel
theorem tf_789 : k_erb [99, 59, 99, 59, 99, 59, 99, 59, 99, 59, 99, 59, 99, 59, 99, 59, 99, 59, 99, 59, 99, 59, 99, 59, 99, 59, 99, 59, 99, 59, 99, 59, 99, 59, 99, 59, 99, 59, 99] 39 = true := by decide +kernel
theorem tf_790 : k_ap ([99, 59, 99, 59, 99, 59, 99, 59, 99, 59, 99, 59, 99, 59, 99, 59, 99, 59, 99, 59, 99, 59, 99, 59, 99, 59, 99, 59, 99, 59, 99, 59, 99, 59, 99, 59, 99, 59, 99] : List Int32) 59 = .inl 40 := by decide +kernel
theorem tf_791 : k_erb [99, 59, 99, 59, 99, 59, 99, 59, 99, 59, 99, 59, 99, 59, 99, 59, 99, 59, 99, 59, 99, 59, 99, 59, 99, 59, 99, 59, 99, 59, 99, 59, 99, 59, 99, 59, 99, 59, 99, 59] 40 = true := by decide +kernel
theorem tf_792 : k_ap ([99, 59, 99, 59, 99, 59, 99, 59, 99, 59, 99, 59, 99, 59, 99, 59, 99, 59, 99, 59, 99, 59, 99, 59, 99, 59, 99, 59, 99, 59, 99, 59, 99, 59, 99, 59, 99, 59, 99, 59] : List Int32) 99 = .inl 41 := by decide +kernel
theorem tf_793 : k_erb [99, 59, 99, 59, 99, 59, 99, 59, 99, 59, 99, 59, 99, 59, 99, 59, 99, 59, 99, 59, 99, 59, 99, 59, 99, 59, 99, 59, 99, 59, 99, 59, 99, 59, 99, 59, 99, 59, 99, 59, 99] 41 = true := by decide +kernel
theorem tf_794 : k_ap ([99, 59, 99, 59, 99, 59, 99, 59, 99, 59, 99, 59, 99, 59, 99, 59, 99, 59, 99, 59, 99, 59, 99, 59, 99, 59, 99, 59, 99, 59, 99, 59, 99, 59, 99, 59, 99, 59, 99, 59, 99] : List Int32) 59 = .inl 42 := by decide +kernel
theorem tf_795 : k_erb [99, 59, 99, 59, 99, 59, 99, 59, 99, 59, 99, 59, 99, 59, 99, 59, 99, 59, 99, 59, 99, 59, 99, 59, 99, 59, 99, 59, 99, 59, 99, 59, 99, 59, 99, 59, 99, 59, 99, 59, 99, 59] 42 = true := by decide +kernel
theorem tf_796 : k_ap ([99, 59, 99, 59, 99, 59, 99, 59, 99, 59, 99, 59, 99, 59, 99, 59, 99, 59, 99, 59, 99, 59, 99, 59, 99, 59, 99, 59, 99, 59, 99, 59, 99, 59, 99, 59, 99, 59, 99, 59, 99, 59] : List Int32) 99 = .inl 43 := by decide +kernel
theorem tf_797 : k_erb [99, 59, 99, 59, 99, 59, 99, 59, 99, 59, 99, 59, 99, 59, 99, 59, 99, 59, 99, 59, 99, 59, 99, 59, 99, 59, 99, 59, 99, 59, 99, 59, 99, 59, 99, 59, 99, 59, 99, 59, 99, 59, 99] 43 = true := by decide +kernel
theorem tf_798 : k_ap ([99, 59, 99, 59, 99, 59, 99, 59, 99, 59, 99, 59, 99, 59, 99, 59, 99, 59, 99, 59, 99, 59, 99, 59, 99, 59, 99, 59, 99, 59, 99, 59, 99, 59, 99, 59, 99, 59, 99, 59, 99, 59, 99] : List Int32) 59 = .inl 44 := by decide +kernel
theorem tf_799 : k_erb [99, 59, 99, 59, 99, 59, 99, 59, 99, 59, 99, 59, 99, 59, 99, 59, 99, 59, 99, 59, 99, 59, 99, 59, 99, 59, 99, 59, 99, 59, 99, 59, 99, 59, 99, 59, 99, 59, 99, 59, 99, 59, 99, 59] 44 = true := by decide +kernel
theorem tf_800 : k_ap ([99, 59, 99, 59, 99, 59, 99, 59, 99, 59, 99, 59, 99, 59, 99, 59, 99, 59, 99, 59, 99, 59, 99, 59, 99, 59, 99, 59, 99, 59, 99, 59, 99, 59, 99, 59, 99, 59, 99, 59, 99, 59, 99, 59] : List Int32) 99 = .inl 45 := by decide +kernel
theorem tf_801 : k_erb [99, 59, 99, 59, 99, 59, 99, 59, 99, 59, 99, 59, 99, 59, 99, 59, 99, 59, 99, 59, 99, 59, 99, 59, 99, 59, 99, 59, 99, 59, 99, 59, 99, 59, 99, 59, 99, 59, 99, 59, 99, 59, 99, 59, 99] 45 = true := by decide +kernel
theorem tf_802 : k_ap ([99, 59, 99, 59, 99, 59, 99, 59, 99, 59, 99, 59, 99, 59, 99, 59, 99, 59, 99, 59, 99, 59, 99, 59, 99, 59, 99, 59, 99, 59, 99, 59, 99, 59, 99, 59, 99, 59, 99, 59, 99, 59, 99, 59, 99] : List Int32) 59 = .inl 46 := by decide +kernel
theorem tf_803 : k_erb [99, 59, 99, 59, 99, 59, 99, 59, 99, 59, 99, 59, 99, 59, 99, 59, 99, 59, 99, 59, 99, 59, 99, 59, 99, 59, 99, 59, 99, 59, 99, 59, 99, 59, 99, 59, 99, 59, 99, 59, 99, 59, 99, 59, 99, 59] 46 = true := by decide +kernel
theorem tf_804 : k_ap ([99, 59, 99, 59, 99, 59, 99, 59, 99, 59, 99, 59, 99, 59, 99, 59, 99, 59, 99, 59, 99, 59, 99, 59, 99, 59, 99, 59, 99, 59, 99, 59, 99, 59, 99, 59, 99, 59, 99, 59, 99, 59, 99, 59, 99, 59] : List Int32) 99 = .inl 47 := by decide +kernel
theorem tf_805 : k_erb [99, 59, 99, 59, 99, 59, 99, 59, 99, 59, 99, 59, 99, 59, 99, 59, 99, 59, 99, 59, 99, 59, 99, 59, 99, 59, 99, 59, 99, 59, 99, 59, 99, 59, 99, 59, 99, 59, 99, 59, 99, 59, 99, 59, 99, 59, 99] 47 = true := by decide +kernel
theorem tf_806 : k_ap ([99, 59, 99, 59, 99, 59, 99, 59, 99, 59, 99, 59, 99, 59, 99, 59, 99, 59, 99, 59, 99, 59, 99, 59, 99, 59, 99, 59, 99, 59, 99, 59, 99, 59, 99, 59, 99, 59, 99, 59, 99, 59, 99, 59, 99, 59, 99] : List Int32) 59 = .inl 48 := by decide +kernel
theorem tf_807 : k_erb [99, 59, 99, 59, 99, 59, 99, 59, 99, 59, 99, 59, 99, 59, 99, 59, 99, 59, 99, 59, 99, 59, 99, 59, 99, 59, 99, 59, 99, 59, 99, 59, 99, 59, 99, 59, 99, 59, 99, 59, 99, 59, 99, 59, 99, 59, 99, 59] 48 = true := by decide +kernel
theorem tf_808 : k_ap ([99, 59, 99, 59, 99, 59, 99, 59, 99, 59, 99, 59, 99, 59, 99, 59, 99, 59, 99, 59, 99, 59, 99, 59, 99, 59, 99, 59, 99, 59, 99, 59, 99, 59, 99, 59, 99, 59, 99, 59, 99, 59, 99, 59, 99, 59, 99, 59] : List Int32) 99 = .inl 49 := by decide +kernel
theorem tf_809 : k_erb [99, 59, 99, 59, 99, 59, 99, 59, 99, 59, 99, 59, 99, 59, 99, 59, 99, 59, 99, 59, 99, 59, 99, 59, 99, 59, 99, 59, 99, 59, 99, 59, 99, 59, 99, 59, 99, 59, 99, 59, 99, 59, 99, 59, 99, 59, 99, 59, 99] 49 = true := by decide +kernel
theorem tf_810 : k_ap ([99, 59, 99, 59, 99, 59, 99, 59, 99, 59, 99, 59, 99, 59, 99, 59, 99, 59, 99, 59, 99, 59, 99, 59, 99, 59, 99, 59, 99, 59, 99, 59, 99, 59, 99, 59, 99, 59, 99, 59, 99, 59, 99, 59, 99, 59, 99, 59, 99] : List Int32) 59 = .inl 50 := by decide +kernel
theorem tf_811 : k_erb [99, 59, 99, 59, 99, 59, 99, 59, 99, 59, 99, 59, 99, 59, 99, 59, 99, 59, 99, 59, 99, 59, 99, 59, 99, 59, 99, 59, 99, 59, 99, 59, 99, 59, 99, 59, 99, 59, 99, 59, 99, 59, 99, 59, 99, 59, 99, 59, 99, 59] 50 = true := by decide +kernel
theorem tf_812 : k_ap ([99, 59, 99, 59, 99, 59, 99, 59, 99, 59, 99, 59, 99, 59, 99, 59, 99, 59, 99, 59, 99, 59, 99, 59, 99, 59, 99, 59, 99, 59, 99, 59, 99, 59, 99, 59, 99, 59, 99, 59, 99, 59, 99, 59, 99, 59, 99, 59, 99, 59] : List Int32) 99 = .inl 51 := by decide +kernel
theorem tf_813 : k_erb [99, 59, 99, 59, 99, 59, 99, 59, 99, 59, 99, 59, 99, 59, 99, 59, 99, 59, 99, 59, 99, 59, 99, 59, 99, 59, 99, 59, 99, 59, 99, 59, 99, 59, 99, 59, 99, 59, 99, 59, 99, 59, 99, 59, 99, 59, 99, 59, 99, 59, 99] 51 = true := by decide +kernel
theorem tf_814 : k_ap ([99, 59, 99, 59, 99, 59, 99, 59, 99, 59, 99, 59, 99, 59, 99, 59, 99, 59, 99, 59, 99, 59, 99, 59, 99, 59, 99, 59, 99, 59, 99, 59, 99, 59, 99, 59, 99, 59, 99, 59, 99, 59, 99, 59, 99, 59, 99, 59, 99, 59, 99] : List Int32) 59 = .inl 52 := by decide +kernel
theorem tf_815 : k_erb [99, 59, 99, 59, 99, 59, 99, 59, 99, 59, 99, 59, 99, 59, 99, 59, 99, 59, 99, 59, 99, 59, 99, 59, 99, 59, 99, 59, 99, 59, 99, 59, 99, 59, 99, 59, 99, 59, 99, 59, 99, 59, 99, 59, 99, 59, 99, 59, 99, 59, 99, 59] 52 = true := by decide +kernel
theorem tf_816 : k_ap ([99, 59, 99, 59, 99, 59, 99, 59, 99, 59, 99, 59, 99, 59, 99, 59, 99, 59, 99, 59, 99, 59, 99, 59, 99, 59, 99, 59, 99, 59, 99, 59, 99, 59, 99, 59, 99, 59, 99, 59, 99, 59, 99, 59, 99, 59, 99, 59, 99, 59, 99, 59] : List Int32) 99 = .inl 53 := by decide +kernel
theorem tf_817 : k_erb [99, 59, 99, 59, 99, 59, 99, 59, 99, 59, 99, 59, 99, 59, 99, 59, 99, 59, 99, 59, 99, 59, 99, 59, 99, 59, 99, 59, 99, 59, 99, 59, 99, 59, 99, 59, 99, 59, 99, 59, 99, 59, 99, 59, 99, 59, 99, 59, 99, 59, 99, 59, 99] 53 = true := by decide +kernel
theorem tf_818 : k_ap ([99, 59, 99, 59, 99, 59, 99, 59, 99, 59, 99, 59, 99, 59, 99, 59, 99, 59, 99, 59, 99, 59, 99, 59, 99, 59, 99, 59, 99, 59, 99, 59, 99, 59, 99, 59, 99, 59, 99, 59, 99, 59, 99, 59, 99, 59, 99, 59, 99, 59, 99, 59, 99] : List Int32) 59 = .inl 54 := by decide +kernel
theorem tf_819 : k_erb [99, 59, 99, 59, 99, 59, 99, 59, 99, 59, 99, 59, 99, 59, 99, 59, 99, 59, 99, 59, 99, 59, 99, 59, 99, 59, 99, 59, 99, 59, 99, 59, 99, 59, 99, 59, 99, 59, 99, 59, 99, 59, 99, 59, 99, 59, 99, 59, 99, 59, 99, 59, 99, 59] 54 = true := by decide +kernel
theorem tf_820 : k_ap ([99, 59, 99, 59, 99, 59, 99, 59, 99, 59, 99, 59, 99, 59, 99, 59, 99, 59, 99, 59, 99, 59, 99, 59, 99, 59, 99, 59, 99, 59, 99, 59, 99, 59, 99, 59, 99, 59, 99, 59, 99, 59, 99, 59, 99, 59, 99, 59, 99, 59, 99, 59, 99, 59] : List Int32) 99 = .inl 55 := by decide +kernel
theorem tf_821 : k_erb [99, 59, 99, 59, 99, 59, 99, 59, 99, 59, 99, 59, 99, 59, 99, 59, 99, 59, 99, 59, 99, 59, 99, 59, 99, 59, 99, 59, 99, 59, 99, 59, 99, 59, 99, 59, 99, 59, 99, 59, 99, 59, 99, 59, 99, 59, 99, 59, 99, 59, 99, 59, 99, 59, 99] 55 = true := by decide +kernel
theorem tf_822 : k_ap ([99, 59, 99, 59, 99, 59, 99, 59, 99, 59, 99, 59, 99, 59, 99, 59, 99, 59, 99, 59, 99, 59, 99, 59, 99, 59, 99, 59, 99, 59, 99, 59, 99, 59, 99, 59, 99, 59, 99, 59, 99, 59, 99, 59, 99, 59, 99, 59, 99, 59, 99, 59, 99, 59, 99] : List Int32) 59 = .inl 56 := by decide +kernel
theorem tf_823 : k_erb [99, 59, 99, 59, 99, 59, 99, 59, 99, 59, 99, 59, 99, 59, 99, 59, 99, 59, 99, 59, 99, 59, 99, 59, 99, 59, 99, 59, 99, 59, 99, 59, 99, 59, 99, 59, 99, 59, 99, 59, 99, 59, 99, 59, 99, 59, 99, 59, 99, 59, 99, 59, 99, 59, 99, 59] 56 = true := by decide +kernel
theorem tf_824 : k_ap ([99, 59, 99, 59, 99, 59, 99, 59, 99, 59, 99, 59, 99, 59, 99, 59, 99, 59, 99, 59, 99, 59, 99, 59, 99, 59, 99, 59, 99, 59, 99, 59, 99, 59, 99, 59, 99, 59, 99, 59, 99, 59, 99, 59, 99, 59, 99, 59, 99, 59, 99, 59, 99, 59, 99, 59] : List Int32) 99 = .inl 57 := by decide +kernel
theorem tf_825 : k_erb [99, 59, 99, 59, 99, 59, 99, 59, 99, 59, 99, 59, 99, 59, 99, 59, 99, 59, 99, 59, 99, 59, 99, 59, 99, 59, 99, 59, 99, 59, 99, 59, 99, 59, 99, 59, 99, 59, 99, 59, 99, 59, 99, 59, 99, 59, 99, 59, 99, 59, 99, 59, 99, 59, 99, 59, 99] 57 = true := by decide +kernel
theorem tf_826 : k_ap ([99, 59, 99, 59, 99, 59, 99, 59, 99, 59, 99, 59, 99, 59, 99, 59, 99, 59, 99, 59, 99, 59, 99, 59, 99, 59, 99, 59, 99, 59, 99, 59, 99, 59, 99, 59, 99, 59, 99, 59, 99, 59, 99, 59, 99, 59, 99, 59, 99, 59, 99, 59, 99, 59, 99, 59, 99] : List Int32) 59 = .inl 58 := by decide +kernel
theorem tf_827 : k_erb [99, 59, 99, 59, 99, 59, 99, 59, 99, 59, 99, 59, 99, 59, 99, 59, 99, 59, 99, 59, 99, 59, 99, 59, 99, 59, 99, 59, 99, 59, 99, 59, 99, 59, 99, 59, 99, 59, 99, 59, 99, 59, 99, 59, 99, 59, 99, 59, 99, 59, 99, 59, 99, 59, 99, 59, 99, 59] 58 = true := by decide +kernel
theorem tf_828 : k_ap ([99, 59, 99, 59, 99, 59, 99, 59, 99, 59, 99, 59, 99, 59, 99, 59, 99, 59, 99, 59, 99, 59, 99, 59, 99, 59, 99, 59, 99, 59, 99, 59, 99, 59, 99, 59, 99, 59, 99, 59, 99, 59, 99, 59, 99, 59, 99, 59, 99, 59, 99, 59, 99, 59, 99, 59, 99, 59] : List Int32) 99 = .inl 59 := by decide +kernel
theorem tf_829 : k_erb [99, 59, 99, 59, 99, 59, 99, 59, 99, 59, 99, 59, 99, 59, 99, 59, 99, 59, 99, 59, 99, 59, 99, 59, 99, 59, 99, 59, 99, 59, 99, 59, 99, 59, 99, 59, 99, 59, 99, 59, 99, 59, 99, 59, 99, 59, 99, 59, 99, 59, 99, 59, 99, 59, 99, 59, 99, 59, 99] 59 = true := by decide +kernel
theorem tf_830 : k_ap ([99, 59, 99, 59, 99, 59, 99, 59, 99, 59, 99, 59, 99, 59, 99, 59, 99, 59, 99, 59, 99, 59, 99, 59, 99, 59, 99, 59, 99, 59, 99, 59, 99, 59, 99, 59, 99, 59, 99, 59, 99, 59, 99, 59, 99, 59, 99, 59, 99, 59, 99, 59, 99, 59, 99, 59, 99, 59, 99] : List Int32) 59 = .inl 60 := by decide +kernel
theorem tf_831 : k_erb [99, 59, 99, 59, 99, 59, 99, 59, 99, 59, 99, 59, 99, 59, 99, 59, 99, 59, 99, 59, 99, 59, 99, 59, 99, 59, 99, 59, 99, 59, 99, 59, 99, 59, 99, 59, 99, 59, 99, 59, 99, 59, 99, 59, 99, 59, 99, 59, 99, 59, 99, 59, 99, 59, 99, 59, 99, 59, 99, 59] 60 = true := by decide +kernel
theorem tf_832 : k_ap ([99, 59, 99, 59, 99, 59, 99, 59, 99, 59, 99, 59, 99, 59, 99, 59, 99, 59, 99, 59, 99, 59, 99, 59, 99, 59, 99, 59, 99, 59, 99, 59, 99, 59, 99, 59, 99, 59, 99, 59, 99, 59, 99, 59, 99, 59, 99, 59, 99, 59, 99, 59, 99, 59, 99, 59, 99, 59, 99, 59] : List Int32) 99 = .inr 1 := by decide +kernel
theorem tf_833 : ¬ k_cpl (k_rs (k_tx [99, 59, 99, 59, 99, 59, 99, 59, 99, 59, 99, 59, 99, 59, 99, 59, 99, 59, 99, 59, 99, 59, 99, 59, 99, 59, 99, 59, 99, 59, 99, 59, 99, 59, 99, 59, 99, 59, 99, 59, 99, 59, 99, 59, 99, 59, 99, 59, 99, 59, 99, 59, 99, 59, 99, 59, 99, 59, 99, 59]) ([99, 59, 99, 59, 99, 59, 99, 59, 99, 59, 99, 59, 99, 59, 99, 59, 99, 59, 99, 59, 99, 59, 99, 59, 99, 59, 99, 59, 99, 59, 99, 59, 99, 59, 99, 59, 99, 59, 99, 59, 99, 59, 99, 59, 99, 59, 99, 59, 99, 59, 99, 59, 99, 59, 99, 59, 99, 59, 99, 59] : List Int32).length) = true := by decide +kernel
theorem tf_834 : nI ([99, 59, 99, 59, 99, 59, 99, 59, 99, 59, 99, 59, 99, 59, 99, 59, 99, 59, 99, 59, 99, 59, 99, 59, 99, 59, 99, 59, 99, 59, 99, 59, 99, 59, 99, 59, 99, 59, 99, 59, 99, 59, 99, 59, 99, 59, 99, 59, 99, 59, 99, 59, 99, 59, 99, 59, 99, 59, 99, 59] : List Int32).length = 60 := by decide +kernel
