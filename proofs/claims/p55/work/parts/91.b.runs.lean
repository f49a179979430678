/-! runsOf, by hand. Laid by wip/p55/gen_hand.py. -/
set_option maxRecDepth 20000 in
set_option maxHeartbeats 4000000 in
theorem c_runsOf {N : Nat} (hN : 50000 ≤ N) (h : XH) : x_Cq mL_runsOf 12 294 6876 387312 [] h (fun v _ => v = some (.int 1)) := by
  refine x_cq (by decide) rfl (Nat.le_of_ble_eq_true rfl) ?_
  show X mL_runsOf 12 294 _ _ 6876 387312 0 [] [] (h.1, h.2)
  refine x_new_r (f := fun z => some z) 6875 387303 dL_runsOf_0 cl_L_28 (by omega) (by omega) rfl (fun u1 hu1 => ?_)
  cases hu1
  refine x_dupr dL_runsOf_3 ?_
  obtain ⟨f2, e2, w2, a2⟩ := k_new (N := N) (f := h.1) (x := h.2) (wz := h.2 + 70)
  have z2 : k_Zf h.2 (h.2 + 70) f2 f2 := k_Zf.rf (Or.inl (Nat.le_refl _))
  refine x_calli (As := []) (rest := [.ref h.2]) 6800 381289 dL_runsOf_4 mi_X5_init ml_L_200 rfl rfl (Nat.le_of_ble_eq_true rfl) ⟨by decide, by decide⟩ (by omega) (by omega) (c_X5_init N _ _ _ e2) ?_
  refine x_toX (st' := [.ref h.2]) rfl ?_
  clear e2 a2
  refine x_astore_n (i := 0) (lv' := [(0, .ref h.2)]) dL_runsOf_7 rfl (by decide) rfl ?_
  refine x_aload_n 0 dL_runsOf_8 rfl rfl ?_
  refine x_bipush 100 (by decide) dL_runsOf_9 ?_
  refine x_iconst 5 (by decide) dL_runsOf_11 ?_
  refine x_dom (fun hd3 => ?_)
  obtain ⟨f3, m3, e3, a3, w3⟩ := k_dd0 hN (by omega) w2 hd3 (z2.le w2 hd3) (a := 100) (b := 5) (v := 1) (S' := (k_of L_0)) tf_0 (k_eqb_sp tf_1)
  have z3 := z2.st a3
  replace w3 : k_wd h.2 (h.2 + 70) 1 (k_of L_0) [(k_of k_e0s)] (fun _ => none) [] f3 := w3
  obtain ⟨fs4, hfs4⟩ := w2.ob
  refine x_callv (As := [.int 100, .int 5]) (rest := []) 6766 379374 dL_runsOf_12 mi_X5_put ml_L_27 rfl rfl (Nat.le_of_ble_eq_true rfl) ⟨by decide, by decide⟩ (by omega) (by omega) hfs4 rfl (c_X5_put N _ _ _ _ _ e3) (x_K.some ?_) x_KX.none
  refine x_toX (st' := [.int 1]) rfl ?_
  clear hd3 e3 a3 hfs4 w2 z2
  refine x_iconst 1 (by decide) dL_runsOf_15 ?_
  refine x_icmp_ne_n 451 dL_runsOf_16 (by decide) (by decide) ?_
  refine x_aload_n 0 dL_runsOf_19 rfl rfl ?_
  refine x_bipush 7 (by decide) dL_runsOf_20 ?_
  refine x_iconst 3 (by decide) dL_runsOf_22 ?_
  refine x_dom (fun hd5 => ?_)
  obtain ⟨f5, m5, e5, a5, w5⟩ := k_dd0 hN (by omega) w3 hd5 (z3.le w3 hd5) (a := 7) (b := 3) (v := 2) (S' := (k_of L_1)) tf_2 (k_eqb_sp tf_3)
  have z5 := z3.st a5
  replace w5 : k_wd h.2 (h.2 + 70) 2 (k_of L_1) [(k_of k_e0s), (k_of L_0)] (fun _ => none) [] f5 := w5
  obtain ⟨fs6, hfs6⟩ := w3.ob
  refine x_callv (As := [.int 7, .int 3]) (rest := []) 6732 377459 dL_runsOf_23 mi_X5_put ml_L_27 rfl rfl (Nat.le_of_ble_eq_true rfl) ⟨by decide, by decide⟩ (by omega) (by omega) hfs6 rfl (c_X5_put N _ _ _ _ _ e5) (x_K.some ?_) x_KX.none
  refine x_toX (st' := [.int 2]) rfl ?_
  clear hd5 e5 a5 hfs6 w3 z3
  refine x_iconst 2 (by decide) dL_runsOf_26 ?_
  refine x_icmp_ne_n 451 dL_runsOf_27 (by decide) (by decide) ?_
  refine x_aload_n 0 dL_runsOf_30 rfl rfl ?_
  refine x_bipush 10 (by decide) dL_runsOf_31 ?_
  refine x_dom (fun hd7 => ?_)
  obtain ⟨f7, m7, e7, a7, w7⟩ := k_dd1 hN (by omega) w5 hd7 (z5.le w5 hd7) (a := 10) (b := 0) (v := 3) (S' := (k_of L_2)) tf_4 (k_eqb_sp tf_5)
  have z7 := z5.st a7
  replace w7 : k_wd h.2 (h.2 + 70) 3 (k_of L_2) [(k_of k_e0s), (k_of L_0), (k_of L_1)] (fun _ => none) [] f7 := w7
  obtain ⟨fs8, hfs8⟩ := w5.ob
  refine x_callv (As := [.int 10]) (rest := []) 6699 375550 dL_runsOf_33 mi_X5_drop ml_L_33 rfl rfl (Nat.le_of_ble_eq_true rfl) ⟨by decide, by decide⟩ (by omega) (by omega) hfs8 rfl (c_X5_drop N _ _ _ _ e7) (x_K.some ?_) x_KX.none
  refine x_toX (st' := [.int 3]) rfl ?_
  clear hd7 e7 a7 hfs8 w5 z5
  refine x_iconst 3 (by decide) dL_runsOf_36 ?_
  refine x_icmp_ne_n 451 dL_runsOf_37 (by decide) (by decide) ?_
  refine x_aload_n 0 dL_runsOf_40 rfl rfl ?_
  refine x_bipush 7 (by decide) dL_runsOf_41 ?_
  refine x_iconst 4 (by decide) dL_runsOf_43 ?_
  refine x_dom (fun hd9 => ?_)
  obtain ⟨f9, m9, e9, a9, w9⟩ := k_dd0 hN (by omega) w7 hd9 (z7.le w7 hd9) (a := 7) (b := 4) (v := 3) (S' := (k_of L_3)) tf_6 (k_eqb_sp tf_7)
  have z9 := z7.st a9
  replace w9 : k_wd h.2 (h.2 + 70) 4 (k_of L_3) [(k_of k_e0s), (k_of L_0), (k_of L_1), (k_of L_2)] (fun _ => none) [] f9 := w9
  obtain ⟨fs10, hfs10⟩ := w7.ob
  refine x_callv (As := [.int 7, .int 4]) (rest := []) 6665 373635 dL_runsOf_44 mi_X5_put ml_L_27 rfl rfl (Nat.le_of_ble_eq_true rfl) ⟨by decide, by decide⟩ (by omega) (by omega) hfs10 rfl (c_X5_put N _ _ _ _ _ e9) (x_K.some ?_) x_KX.none
  refine x_toX (st' := [.int 3]) rfl ?_
  clear hd9 e9 a9 hfs10 w7 z7
  refine x_iconst 3 (by decide) dL_runsOf_47 ?_
  refine x_icmp_ne_n 451 dL_runsOf_48 (by decide) (by decide) ?_
  refine x_aload_n 0 dL_runsOf_51 rfl rfl ?_
  refine x_iconst 0 (by decide) dL_runsOf_52 ?_
  refine x_iconst 0 (by decide) dL_runsOf_53 ?_
  obtain ⟨q11, St11, bf11, h11, g11⟩ := w9.ci
  have e11 : F_X5_keyIn N f9 h.2 0 0 = some (.inl 7) := (q_ki h11 0 0).trans (congrArg some tf_8)
  obtain ⟨fs12, hfs12⟩ := w9.ob
  refine x_callv (As := [.int 0, .int 0]) (rest := []) 6664 373629 dL_runsOf_54 mi_X5_keyIn ml_L_102 rfl rfl (Nat.le_of_ble_eq_true rfl) ⟨by decide, by decide⟩ (by omega) (by omega) hfs12 rfl (c_X5_keyIn N _ _ _ _ _ _ e11) (x_K.some ?_) x_KX.none
  refine x_toX (st' := [.int 7]) rfl ?_
  clear h11 g11 e11 hfs12
  refine x_bipush 7 (by decide) dL_runsOf_57 ?_
  refine x_icmp_ne_n 451 dL_runsOf_59 (by decide) (by decide) ?_
  refine x_aload_n 0 dL_runsOf_62 rfl rfl ?_
  refine x_iconst 0 (by decide) dL_runsOf_63 ?_
  refine x_iconst 1 (by decide) dL_runsOf_64 ?_
  obtain ⟨q13, St13, bf13, h13, g13⟩ := w9.ci
  have e13 : F_X5_keyIn N f9 h.2 0 1 = some (.inl 10) := (q_ki h13 0 1).trans (congrArg some tf_9)
  obtain ⟨fs14, hfs14⟩ := w9.ob
  refine x_callv (As := [.int 0, .int 1]) (rest := []) 6663 373623 dL_runsOf_65 mi_X5_keyIn ml_L_102 rfl rfl (Nat.le_of_ble_eq_true rfl) ⟨by decide, by decide⟩ (by omega) (by omega) hfs14 rfl (c_X5_keyIn N _ _ _ _ _ _ e13) (x_K.some ?_) x_KX.none
  refine x_toX (st' := [.int 10]) rfl ?_
  clear h13 g13 e13 hfs14
  refine x_bipush 10 (by decide) dL_runsOf_68 ?_
  refine x_icmp_ne_n 451 dL_runsOf_70 (by decide) (by decide) ?_
  refine x_aload_n 0 dL_runsOf_73 rfl rfl ?_
  refine x_iconst 0 (by decide) dL_runsOf_74 ?_
  refine x_iconst 1 (by decide) dL_runsOf_75 ?_
  obtain ⟨q15, St15, bf15, h15, g15⟩ := w9.ci
  have e15 : F_X5_isGoneIn N f9 h.2 0 1 = some (.inl true) := (q_go h15 0 1).trans (congrArg some tf_10)
  obtain ⟨fs16, hfs16⟩ := w9.ob
  refine x_callv (As := [.int 0, .int 1]) (rest := []) 6662 373617 dL_runsOf_76 mi_X5_isGoneIn ml_L_105 rfl rfl (Nat.le_of_ble_eq_true rfl) ⟨by decide, by decide⟩ (by omega) (by omega) hfs16 rfl (c_X5_isGoneIn N _ _ _ _ _ _ e15) (x_K.some ?_) x_KX.none
  refine x_toX (st' := [.int 1]) rfl ?_
  clear h15 g15 e15 hfs16
  refine x_if_eq_n 451 dL_runsOf_79 (by decide) (by decide) ?_
  refine x_aload_n 0 dL_runsOf_82 rfl rfl ?_
  refine x_iconst 0 (by decide) dL_runsOf_83 ?_
  refine x_iconst 2 (by decide) dL_runsOf_84 ?_
  obtain ⟨q17, St17, bf17, h17, g17⟩ := w9.ci
  have e17 : F_X5_isGoneIn N f9 h.2 0 2 = some (.inl false) := (q_go h17 0 2).trans (congrArg some tf_11)
  obtain ⟨fs18, hfs18⟩ := w9.ob
  refine x_callv (As := [.int 0, .int 2]) (rest := []) 6661 373611 dL_runsOf_85 mi_X5_isGoneIn ml_L_105 rfl rfl (Nat.le_of_ble_eq_true rfl) ⟨by decide, by decide⟩ (by omega) (by omega) hfs18 rfl (c_X5_isGoneIn N _ _ _ _ _ _ e17) (x_K.some ?_) x_KX.none
  refine x_toX (st' := [.int 0]) rfl ?_
  clear h17 g17 e17 hfs18
  refine x_if_ne_n 451 dL_runsOf_88 (by decide) (by decide) ?_
  refine x_aload_n 0 dL_runsOf_91 rfl rfl ?_
  obtain ⟨f19, e19, a19, w19⟩ := w9.q1 (G := fun f1 => (nI (k_all (k_of L_3)).1, f1)) (fun q St bf h => q_found hN h w9.gd.1)
  rw [qq_fd_of tf_12, tf_13] at e19
  have z19 := z9.st a19
  obtain ⟨fs20, hfs20⟩ := w9.ob
  refine x_callv (As := []) (rest := []) 6661 373611 dL_runsOf_92 mi_X5_found ml_L_158 rfl rfl (Nat.le_of_ble_eq_true rfl) ⟨by decide, by decide⟩ (by omega) (by omega) hfs20 rfl (c_X5_found N _ _ _ _ e19) (x_K.some ?_) x_KX.none
  refine x_toX (st' := [.int 2]) rfl ?_
  clear e19 a19 hfs20 w9 z9
  refine x_iconst 2 (by decide) dL_runsOf_95 ?_
  refine x_icmp_ne_n 451 dL_runsOf_96 (by decide) (by decide) ?_
  refine x_aload_n 0 dL_runsOf_99 rfl rfl ?_
  refine x_bipush 7 (by decide) dL_runsOf_100 ?_
  obtain ⟨q21, St21, bf21, h21, g21⟩ := w19.ci
  have e21 : F_X5_valueOf N f19 h.2 7 = some (.inl 4) := (q_val hN h21 g21 7).trans (congrArg some tf_14)
  obtain ⟨fs22, hfs22⟩ := w19.ob
  refine x_callv (As := [.int 7]) (rest := []) 6659 373599 dL_runsOf_102 mi_X5_valueOf ml_L_75 rfl rfl (Nat.le_of_ble_eq_true rfl) ⟨by decide, by decide⟩ (by omega) (by omega) hfs22 rfl (c_X5_valueOf N _ _ _ _ _ e21) (x_K.some ?_) x_KX.none
  refine x_toX (st' := [.int 4]) rfl ?_
  clear h21 g21 e21 hfs22
  refine x_iconst 4 (by decide) dL_runsOf_105 ?_
  refine x_icmp_ne_n 451 dL_runsOf_106 (by decide) (by decide) ?_
  refine x_aload_n 0 dL_runsOf_109 rfl rfl ?_
  refine x_bipush 14 (by decide) dL_runsOf_110 ?_
  refine x_bipush 10 (by decide) dL_runsOf_112 ?_
  refine x_iconst 0 (by decide) dL_runsOf_114 ?_
  refine x_dom (fun hd24 => ?_)
  obtain ⟨f24, e24, a24, w24⟩ := k_cl14 (hs := m9) hN w19 10 0
  rw [show k_iv (k_as 14 (k_of L_3) 10 0) = (-2013) from tf_15] at e24
  have z24 := z19.st a24
  refine x_callsH (As := [.ref h.2, .int 14, .int 10, .int 0]) (rest := []) 6625 371684 dL_runsOf_115 mi_L_call rfl ml_L_182 rfl rfl (Nat.le_of_ble_eq_true rfl) ⟨by decide, by decide⟩ (by omega) (by omega) (c_L_call N _ _ _ _ _ _ e24) (fun n24 => ?_)
  refine x_toX (st' := [.int (-2013)]) rfl ?_
  clear hd24 e24 a24 w19 z19
  refine x_sipush (-2013) (by decide) dL_runsOf_118 ?_
  refine x_icmp_ne_n 451 dL_runsOf_121 (by decide) (by decide) ?_
  refine x_aload_n 0 dL_runsOf_124 rfl rfl ?_
  refine x_bipush 10 (by decide) dL_runsOf_125 ?_
  obtain ⟨q25, St25, bf25, h25, g25⟩ := w24.ci
  have e25 : F_X5_pagesFor N f24 h.2 10 = some (.inl 1) := (q_pg hN h25 g25 10).trans (congrArg some tf_16)
  obtain ⟨fs26, hfs26⟩ := w24.ob
  refine x_callv (As := [.int 10]) (rest := []) 6624 371678 dL_runsOf_127 mi_X5_pagesFor ml_L_78 rfl rfl (Nat.le_of_ble_eq_true rfl) ⟨by decide, by decide⟩ (by omega) (by omega) hfs26 rfl (c_X5_pagesFor N _ _ _ _ _ e25) (x_K.some ?_) x_KX.none
  refine x_toX (st' := [.int 1]) rfl ?_
  clear h25 g25 e25 hfs26
  refine x_iconst 1 (by decide) dL_runsOf_130 ?_
  refine x_icmp_ne_n 451 dL_runsOf_131 (by decide) (by decide) ?_
  refine x_aload_n 0 dL_runsOf_134 rfl rfl ?_
  refine x_bipush 11 (by decide) dL_runsOf_135 ?_
  obtain ⟨q27, St27, bf27, h27, g27⟩ := w24.ci
  have e27 : F_X5_pagesFor N f24 h.2 11 = some (.inl 1) := (q_pg hN h27 g27 11).trans (congrArg some tf_17)
  obtain ⟨fs28, hfs28⟩ := w24.ob
  refine x_callv (As := [.int 11]) (rest := []) 6623 371672 dL_runsOf_137 mi_X5_pagesFor ml_L_78 rfl rfl (Nat.le_of_ble_eq_true rfl) ⟨by decide, by decide⟩ (by omega) (by omega) hfs28 rfl (c_X5_pagesFor N _ _ _ _ _ e27) (x_K.some ?_) x_KX.none
  refine x_toX (st' := [.int 1]) rfl ?_
  clear h27 g27 e27 hfs28
  refine x_iconst 1 (by decide) dL_runsOf_140 ?_
  refine x_icmp_ne_n 451 dL_runsOf_141 (by decide) (by decide) ?_
  refine x_aload_n 0 dL_runsOf_144 rfl rfl ?_
  refine x_iconst 5 (by decide) dL_runsOf_145 ?_
  refine x_bipush 10 (by decide) dL_runsOf_146 ?_
  refine x_iconst 1 (by decide) dL_runsOf_148 ?_
  refine x_dom (fun hd30 => ?_)
  obtain ⟨f30, e30, a30, w30⟩ := k_rf5_1 hN (by omega) w24 hd30 (z24.le w24 hd30) (a := 10) (b := 1) tf_18
  have z30 := z24.st a30
  refine x_callsH (As := [.ref h.2, .int 5, .int 10, .int 1]) (rest := []) 6589 369757 dL_runsOf_149 mi_L_call rfl ml_L_182 rfl rfl (Nat.le_of_ble_eq_true rfl) ⟨by decide, by decide⟩ (by omega) (by omega) (c_L_call N _ _ _ _ _ _ e30) (fun n30 => ?_)
  refine x_toX (st' := [.int (-2013)]) rfl ?_
  clear hd30 e30 a30 w24 z24
  refine x_sipush (-2013) (by decide) dL_runsOf_152 ?_
  refine x_icmp_ne_n 451 dL_runsOf_155 (by decide) (by decide) ?_
  refine x_aload_n 0 dL_runsOf_158 rfl rfl ?_
  refine x_bipush 6 (by decide) dL_runsOf_159 ?_
  refine x_bipush 10 (by decide) dL_runsOf_161 ?_
  refine x_iconst 0 (by decide) dL_runsOf_163 ?_
  refine x_dom (fun hd32 => ?_)
  obtain ⟨f32, e32, a32, w32⟩ := k_rf6_1 hN (by omega) w30 hd32 (z30.le w30 hd32) (a := 10) (b := 0) tf_19
  have z32 := z30.st a32
  refine x_callsH (As := [.ref h.2, .int 6, .int 10, .int 0]) (rest := []) 6555 367842 dL_runsOf_164 mi_L_call rfl ml_L_182 rfl rfl (Nat.le_of_ble_eq_true rfl) ⟨by decide, by decide⟩ (by omega) (by omega) (c_L_call N _ _ _ _ _ _ e32) (fun n32 => ?_)
  refine x_toX (st' := [.int (-2013)]) rfl ?_
  clear hd32 e32 a32 w30 z30
  refine x_sipush (-2013) (by decide) dL_runsOf_167 ?_
  refine x_icmp_ne_n 451 dL_runsOf_170 (by decide) (by decide) ?_
  refine x_aload_n 0 dL_runsOf_173 rfl rfl ?_
  refine x_bipush 11 (by decide) dL_runsOf_174 ?_
  refine x_bipush 11 (by decide) dL_runsOf_176 ?_
  refine x_dom (fun hd33 => ?_)
  obtain ⟨f33, m33, e33, a33, w33⟩ := k_dd5 hN (by omega) w32 hd33 (z32.le w32 hd33) (a := 11) (b := 11) (v := 3) (S' := (k_of L_4)) tf_20 (k_eqb_sp tf_21)
  have z33 := z32.st a33
  replace w33 : k_wd h.2 (h.2 + 70) 5 (k_of L_4) [(k_of k_e0s), (k_of L_0), (k_of L_1), (k_of L_2), (k_of L_3)] (fun _ => none) [] f33 := w33
  obtain ⟨fs34, hfs34⟩ := w32.ob
  refine x_callv (As := [.int 11, .int 11]) (rest := []) 6521 365927 dL_runsOf_178 mi_X5_insert ml_L_47 rfl rfl (Nat.le_of_ble_eq_true rfl) ⟨by decide, by decide⟩ (by omega) (by omega) hfs34 rfl (c_X5_insert N _ _ _ _ _ e33) (x_K.some ?_) x_KX.none
  refine x_toX (st' := [.int 3]) rfl ?_
  clear hd33 e33 a33 hfs34 w32 z32
  refine x_iconst 3 (by decide) dL_runsOf_181 ?_
  refine x_icmp_ne_n 451 dL_runsOf_182 (by decide) (by decide) ?_
  refine x_aload_n 0 dL_runsOf_185 rfl rfl ?_
  refine x_bipush 11 (by decide) dL_runsOf_186 ?_
  obtain ⟨q35, St35, bf35, h35, g35⟩ := w33.ci
  have e35 : F_X5_pagesFor N f33 h.2 11 = some (.inl 2) := (q_pg hN h35 g35 11).trans (congrArg some tf_22)
  obtain ⟨fs36, hfs36⟩ := w33.ob
  refine x_callv (As := [.int 11]) (rest := []) 6520 365921 dL_runsOf_188 mi_X5_pagesFor ml_L_78 rfl rfl (Nat.le_of_ble_eq_true rfl) ⟨by decide, by decide⟩ (by omega) (by omega) hfs36 rfl (c_X5_pagesFor N _ _ _ _ _ e35) (x_K.some ?_) x_KX.none
  refine x_toX (st' := [.int 2]) rfl ?_
  clear h35 g35 e35 hfs36
  refine x_iconst 2 (by decide) dL_runsOf_191 ?_
  refine x_icmp_ne_n 451 dL_runsOf_192 (by decide) (by decide) ?_
  refine x_aload_n 0 dL_runsOf_195 rfl rfl ?_
  refine x_dom (fun hd37 => ?_)
  obtain ⟨f37, m37, e37, a37, w37⟩ := k_dd2 hN (by omega) w33 hd37 (z33.le w33 hd37) (a := 0) (b := 0) (v := 1) (S' := (k_of L_5)) tf_23 (k_eqb_sp tf_24)
  have z37 := z33.st a37
  replace w37 : k_wd h.2 (h.2 + 70) 6 (k_of L_5) [(k_of k_e0s), (k_of L_0), (k_of L_1), (k_of L_2), (k_of L_3), (k_of L_4)] (fun _ => none) [] f37 := w37
  obtain ⟨fs38, hfs38⟩ := w33.ob
  refine x_callv (As := []) (rest := []) 6488 364018 dL_runsOf_196 mi_X5_closeRun ml_L_37 rfl rfl (Nat.le_of_ble_eq_true rfl) ⟨by decide, by decide⟩ (by omega) (by omega) hfs38 rfl (c_X5_closeRun N _ _ _ e37) (x_K.some ?_) x_KX.none
  refine x_toX (st' := [.int 1]) rfl ?_
  clear hd37 e37 a37 hfs38 w33 z33
  refine x_iconst 1 (by decide) dL_runsOf_199 ?_
  refine x_icmp_ne_n 451 dL_runsOf_200 (by decide) (by decide) ?_
  refine x_aload_n 0 dL_runsOf_203 rfl rfl ?_
  refine x_iconst 2 (by decide) dL_runsOf_204 ?_
  refine x_iconst 0 (by decide) dL_runsOf_205 ?_
  refine x_iconst 0 (by decide) dL_runsOf_206 ?_
  refine x_dom (fun hd40 => ?_)
  obtain ⟨f40, e40, a40, w40⟩ := k_rf2_1 hN (by omega) w37 hd40 (z37.le w37 hd40) (a := 0) (b := 0) tf_25
  have z40 := z37.st a40
  refine x_callsH (As := [.ref h.2, .int 2, .int 0, .int 0]) (rest := []) 6454 362103 dL_runsOf_207 mi_L_call rfl ml_L_182 rfl rfl (Nat.le_of_ble_eq_true rfl) ⟨by decide, by decide⟩ (by omega) (by omega) (c_L_call N _ _ _ _ _ _ e40) (fun n40 => ?_)
  refine x_toX (st' := [.int (-2013)]) rfl ?_
  clear hd40 e40 a40 w37 z37
  refine x_sipush (-2013) (by decide) dL_runsOf_210 ?_
  refine x_icmp_ne_n 451 dL_runsOf_213 (by decide) (by decide) ?_
  refine x_aload_n 0 dL_runsOf_216 rfl rfl ?_
  refine x_bipush 7 (by decide) dL_runsOf_217 ?_
  obtain ⟨q41, St41, bf41, h41, g41⟩ := w40.ci
  have e41 : F_X5_runOf N f40 h.2 7 = some (.inl 1) := (q_run hN h41 g41 7).trans (congrArg some tf_26)
  obtain ⟨fs42, hfs42⟩ := w40.ob
  refine x_callv (As := [.int 7]) (rest := []) 6452 362091 dL_runsOf_219 mi_X5_runOf ml_L_96 rfl rfl (Nat.le_of_ble_eq_true rfl) ⟨by decide, by decide⟩ (by omega) (by omega) hfs42 rfl (c_X5_runOf N _ _ _ _ _ e41) (x_K.some ?_) x_KX.none
  refine x_toX (st' := [.int 1]) rfl ?_
  clear h41 g41 e41 hfs42
  refine x_iconst 1 (by decide) dL_runsOf_222 ?_
  refine x_icmp_ne_n 451 dL_runsOf_223 (by decide) (by decide) ?_
  refine x_aload_n 0 dL_runsOf_226 rfl rfl ?_
  refine x_bipush 21 (by decide) dL_runsOf_227 ?_
  refine x_bipush 11 (by decide) dL_runsOf_229 ?_
  refine x_iconst 0 (by decide) dL_runsOf_231 ?_
  refine x_dom (fun hd44 => ?_)
  obtain ⟨f44, e44, a44, w44⟩ := k_cl21 (hs := n40) hN w40 11 0
  rw [show k_iv (k_as 21 (k_of L_5) 11 0) = (-2013) from tf_27] at e44
  have z44 := z40.st a44
  refine x_callsH (As := [.ref h.2, .int 21, .int 11, .int 0]) (rest := []) 6418 360176 dL_runsOf_232 mi_L_call rfl ml_L_182 rfl rfl (Nat.le_of_ble_eq_true rfl) ⟨by decide, by decide⟩ (by omega) (by omega) (c_L_call N _ _ _ _ _ _ e44) (fun n44 => ?_)
  refine x_toX (st' := [.int (-2013)]) rfl ?_
  clear hd44 e44 a44 w40 z40
  refine x_sipush (-2013) (by decide) dL_runsOf_235 ?_
  refine x_icmp_ne_n 451 dL_runsOf_238 (by decide) (by decide) ?_
  refine x_aload_n 0 dL_runsOf_241 rfl rfl ?_
  refine x_bipush 100 (by decide) dL_runsOf_242 ?_
  refine x_bipush 8 (by decide) dL_runsOf_244 ?_
  refine x_dom (fun hd45 => ?_)
  obtain ⟨f45, m45, e45, a45, w45⟩ := k_dd0 hN (by omega) w44 hd45 (z44.le w44 hd45) (a := 100) (b := 8) (v := 1) (S' := (k_of L_6)) tf_28 (k_eqb_sp tf_29)
  have z45 := z44.st a45
  replace w45 : k_wd h.2 (h.2 + 70) 7 (k_of L_6) [(k_of L_0), (k_of L_1), (k_of L_2), (k_of L_3), (k_of L_4), (k_of L_5)] (fun _ => none) [] f45 := w45
  obtain ⟨fs46, hfs46⟩ := w44.ob
  refine x_callv (As := [.int 100, .int 8]) (rest := []) 6384 358261 dL_runsOf_246 mi_X5_put ml_L_27 rfl rfl (Nat.le_of_ble_eq_true rfl) ⟨by decide, by decide⟩ (by omega) (by omega) hfs46 rfl (c_X5_put N _ _ _ _ _ e45) (x_K.some ?_) x_KX.none
  refine x_toX (st' := [.int 1]) rfl ?_
  clear hd45 e45 a45 hfs46 w44 z44
  refine x_iconst 1 (by decide) dL_runsOf_249 ?_
  refine x_icmp_ne_n 451 dL_runsOf_250 (by decide) (by decide) ?_
  refine x_aload_n 0 dL_runsOf_253 rfl rfl ?_
  refine x_bipush 100 (by decide) dL_runsOf_254 ?_
  obtain ⟨q47, St47, bf47, h47, g47⟩ := w45.ci
  have e47 : F_X5_valueOf N f45 h.2 100 = some (.inl 8) := (q_val hN h47 g47 100).trans (congrArg some tf_30)
  obtain ⟨fs48, hfs48⟩ := w45.ob
  refine x_callv (As := [.int 100]) (rest := []) 6382 358249 dL_runsOf_256 mi_X5_valueOf ml_L_75 rfl rfl (Nat.le_of_ble_eq_true rfl) ⟨by decide, by decide⟩ (by omega) (by omega) hfs48 rfl (c_X5_valueOf N _ _ _ _ _ e47) (x_K.some ?_) x_KX.none
  refine x_toX (st' := [.int 8]) rfl ?_
  clear h47 g47 e47 hfs48
  refine x_bipush 8 (by decide) dL_runsOf_259 ?_
  refine x_icmp_ne_n 451 dL_runsOf_261 (by decide) (by decide) ?_
  refine x_aload_n 0 dL_runsOf_264 rfl rfl ?_
  refine x_dom (fun hd49 => ?_)
  obtain ⟨f49, m49, e49, a49, w49⟩ := k_dd2 hN (by omega) w45 hd49 (z45.le w45 hd49) (a := 0) (b := 0) (v := 2) (S' := (k_of L_7)) tf_31 (k_eqb_sp tf_32)
  have z49 := z45.st a49
  replace w49 : k_wd h.2 (h.2 + 70) 8 (k_of L_7) [(k_of L_1), (k_of L_2), (k_of L_3), (k_of L_4), (k_of L_5), (k_of L_6)] (fun _ => none) [] f49 := w49
  obtain ⟨fs50, hfs50⟩ := w45.ob
  refine x_callv (As := []) (rest := []) 6350 356346 dL_runsOf_265 mi_X5_closeRun ml_L_37 rfl rfl (Nat.le_of_ble_eq_true rfl) ⟨by decide, by decide⟩ (by omega) (by omega) hfs50 rfl (c_X5_closeRun N _ _ _ e49) (x_K.some ?_) x_KX.none
  refine x_toX (st' := [.int 2]) rfl ?_
  clear hd49 e49 a49 hfs50 w45 z45
  refine x_iconst 2 (by decide) dL_runsOf_268 ?_
  refine x_icmp_ne_n 451 dL_runsOf_269 (by decide) (by decide) ?_
  refine x_aload_n 0 dL_runsOf_272 rfl rfl ?_
  refine x_bipush 7 (by decide) dL_runsOf_273 ?_
  obtain ⟨q51, St51, bf51, h51, g51⟩ := w49.ci
  have e51 : F_X5_pagesFor N f49 h.2 7 = some (.inl 2) := (q_pg hN h51 g51 7).trans (congrArg some tf_33)
  obtain ⟨fs52, hfs52⟩ := w49.ob
  refine x_callv (As := [.int 7]) (rest := []) 6349 356340 dL_runsOf_275 mi_X5_pagesFor ml_L_78 rfl rfl (Nat.le_of_ble_eq_true rfl) ⟨by decide, by decide⟩ (by omega) (by omega) hfs52 rfl (c_X5_pagesFor N _ _ _ _ _ e51) (x_K.some ?_) x_KX.none
  refine x_toX (st' := [.int 2]) rfl ?_
  clear h51 g51 e51 hfs52
  refine x_iconst 2 (by decide) dL_runsOf_278 ?_
  refine x_icmp_ne_n 451 dL_runsOf_279 (by decide) (by decide) ?_
  refine x_aload_n 0 dL_runsOf_282 rfl rfl ?_
  refine x_bipush 100 (by decide) dL_runsOf_283 ?_
  obtain ⟨q53, St53, bf53, h53, g53⟩ := w49.ci
  have e53 : F_X5_pagesFor N f49 h.2 100 = some (.inl 1) := (q_pg hN h53 g53 100).trans (congrArg some tf_34)
  obtain ⟨fs54, hfs54⟩ := w49.ob
  refine x_callv (As := [.int 100]) (rest := []) 6348 356334 dL_runsOf_285 mi_X5_pagesFor ml_L_78 rfl rfl (Nat.le_of_ble_eq_true rfl) ⟨by decide, by decide⟩ (by omega) (by omega) hfs54 rfl (c_X5_pagesFor N _ _ _ _ _ e53) (x_K.some ?_) x_KX.none
  refine x_toX (st' := [.int 1]) rfl ?_
  clear h53 g53 e53 hfs54
  refine x_iconst 1 (by decide) dL_runsOf_288 ?_
  refine x_icmp_ne_n 451 dL_runsOf_289 (by decide) (by decide) ?_
  refine x_aload_n 0 dL_runsOf_292 rfl rfl ?_
  refine x_bipush 7 (by decide) dL_runsOf_293 ?_
  obtain ⟨q55, St55, bf55, h55, g55⟩ := w49.ci
  have e55 : F_X5_runOf N f49 h.2 7 = some (.inl 2) := (q_run hN h55 g55 7).trans (congrArg some tf_35)
  obtain ⟨fs56, hfs56⟩ := w49.ob
  refine x_callv (As := [.int 7]) (rest := []) 6346 356322 dL_runsOf_295 mi_X5_runOf ml_L_96 rfl rfl (Nat.le_of_ble_eq_true rfl) ⟨by decide, by decide⟩ (by omega) (by omega) hfs56 rfl (c_X5_runOf N _ _ _ _ _ e55) (x_K.some ?_) x_KX.none
  refine x_toX (st' := [.int 2]) rfl ?_
  clear h55 g55 e55 hfs56
  refine x_iconst 2 (by decide) dL_runsOf_298 ?_
  refine x_icmp_ne_n 451 dL_runsOf_299 (by decide) (by decide) ?_
  refine x_aload_n 0 dL_runsOf_302 rfl rfl ?_
  refine x_bipush 100 (by decide) dL_runsOf_303 ?_
  obtain ⟨q57, St57, bf57, h57, g57⟩ := w49.ci
  have e57 : F_X5_runOf N f49 h.2 100 = some (.inl 1) := (q_run hN h57 g57 100).trans (congrArg some tf_36)
  obtain ⟨fs58, hfs58⟩ := w49.ob
  refine x_callv (As := [.int 100]) (rest := []) 6344 356310 dL_runsOf_305 mi_X5_runOf ml_L_96 rfl rfl (Nat.le_of_ble_eq_true rfl) ⟨by decide, by decide⟩ (by omega) (by omega) hfs58 rfl (c_X5_runOf N _ _ _ _ _ e57) (x_K.some ?_) x_KX.none
  refine x_toX (st' := [.int 1]) rfl ?_
  clear h57 g57 e57 hfs58
  refine x_iconst 1 (by decide) dL_runsOf_308 ?_
  refine x_icmp_ne_n 451 dL_runsOf_309 (by decide) (by decide) ?_
  refine x_aload_n 0 dL_runsOf_312 rfl rfl ?_
  obtain ⟨q59, St59, bf59, h59, g59⟩ := w49.ci
  have e59 : F_X5_told N f49 h.2 = some 4 := ((q_told hN h59).trans (congrArg some tf_37))
  obtain ⟨fs60, hfs60⟩ := w49.ob
  refine x_callv (As := []) (rest := []) 6344 356310 dL_runsOf_313 mi_X5_told ml_L_234 rfl rfl (Nat.le_of_ble_eq_true rfl) ⟨by decide, by decide⟩ (by omega) (by omega) hfs60 rfl (c_X5_told N _ _ _ _ e59) (x_K.some ?_) x_KX.none
  clear h59 g59 e59 hfs60
  refine x_iconst 4 (by decide) dL_runsOf_316 ?_
  refine x_icmp_ne_n 451 dL_runsOf_317 (by decide) (by decide) ?_
  refine x_aload_n 0 dL_runsOf_320 rfl rfl ?_
  refine x_bipush 100 (by decide) dL_runsOf_321 ?_
  refine x_dom (fun hd61 => ?_)
  obtain ⟨f61, m61, e61, a61, w61⟩ := k_dd1 hN (by omega) w49 hd61 (z49.le w49 hd61) (a := 100) (b := 0) (v := 1) (S' := (k_of L_8)) tf_38 (k_eqb_sp tf_39)
  have z61 := z49.st a61
  replace w61 : k_wd h.2 (h.2 + 70) 9 (k_of L_8) [(k_of L_2), (k_of L_3), (k_of L_4), (k_of L_5), (k_of L_6), (k_of L_7)] (fun _ => none) [] f61 := w61
  obtain ⟨fs62, hfs62⟩ := w49.ob
  refine x_callv (As := [.int 100]) (rest := []) 6311 354401 dL_runsOf_323 mi_X5_drop ml_L_33 rfl rfl (Nat.le_of_ble_eq_true rfl) ⟨by decide, by decide⟩ (by omega) (by omega) hfs62 rfl (c_X5_drop N _ _ _ _ e61) (x_K.some ?_) x_KX.none
  refine x_toX (st' := [.int 1]) rfl ?_
  clear hd61 e61 a61 hfs62 w49 z49
  refine x_iconst 1 (by decide) dL_runsOf_326 ?_
  refine x_icmp_ne_n 451 dL_runsOf_327 (by decide) (by decide) ?_
  refine x_aload_n 0 dL_runsOf_330 rfl rfl ?_
  refine x_bipush 100 (by decide) dL_runsOf_331 ?_
  obtain ⟨q63, St63, bf63, h63, g63⟩ := w61.ci
  have e63 : F_X5_isFoundByTree N f61 h.2 100 = some (.inl false) := (q_ft hN h63 g63 100).trans (congrArg some tf_40)
  obtain ⟨fs64, hfs64⟩ := w61.ob
  refine x_callv (As := [.int 100]) (rest := []) 6310 354395 dL_runsOf_333 mi_X5_isFoundByTree ml_L_68 rfl rfl (Nat.le_of_ble_eq_true rfl) ⟨by decide, by decide⟩ (by omega) (by omega) hfs64 rfl (c_X5_isFoundByTree N _ _ _ _ _ e63) (x_K.some ?_) x_KX.none
  refine x_toX (st' := [.int 0]) rfl ?_
  clear h63 g63 e63 hfs64
  refine x_if_ne_n 451 dL_runsOf_336 (by decide) (by decide) ?_
  refine x_aload_n 0 dL_runsOf_339 rfl rfl ?_
  refine x_bipush 100 (by decide) dL_runsOf_340 ?_
  obtain ⟨q65, St65, bf65, h65, g65⟩ := w61.ci
  have e65 : F_X5_isFoundByGoing N f61 h.2 100 = some (.inl false) := (q_fg hN h65 g65 100).trans (congrArg some tf_40)
  obtain ⟨fs66, hfs66⟩ := w61.ob
  refine x_callv (As := [.int 100]) (rest := []) 6309 354389 dL_runsOf_342 mi_X5_isFoundByGoing ml_L_72 rfl rfl (Nat.le_of_ble_eq_true rfl) ⟨by decide, by decide⟩ (by omega) (by omega) hfs66 rfl (c_X5_isFoundByGoing N _ _ _ _ _ e65) (x_K.some ?_) x_KX.none
  refine x_toX (st' := [.int 0]) rfl ?_
  clear h65 g65 e65 hfs66
  refine x_if_ne_n 451 dL_runsOf_345 (by decide) (by decide) ?_
  refine x_aload_n 0 dL_runsOf_348 rfl rfl ?_
  refine x_bipush 100 (by decide) dL_runsOf_349 ?_
  obtain ⟨q67, St67, bf67, h67, g67⟩ := w61.ci
  have e67 : F_X5_pagesFor N f61 h.2 100 = some (.inl 1) := (q_pg hN h67 g67 100).trans (congrArg some tf_41)
  obtain ⟨fs68, hfs68⟩ := w61.ob
  refine x_callv (As := [.int 100]) (rest := []) 6308 354383 dL_runsOf_351 mi_X5_pagesFor ml_L_78 rfl rfl (Nat.le_of_ble_eq_true rfl) ⟨by decide, by decide⟩ (by omega) (by omega) hfs68 rfl (c_X5_pagesFor N _ _ _ _ _ e67) (x_K.some ?_) x_KX.none
  refine x_toX (st' := [.int 1]) rfl ?_
  clear h67 g67 e67 hfs68
  refine x_iconst 1 (by decide) dL_runsOf_354 ?_
  refine x_icmp_ne_n 451 dL_runsOf_355 (by decide) (by decide) ?_
  refine x_aload_n 0 dL_runsOf_358 rfl rfl ?_
  refine x_bipush 7 (by decide) dL_runsOf_359 ?_
  obtain ⟨q69, St69, bf69, h69, g69⟩ := w61.ci
  have e69 : F_X5_pagesFor N f61 h.2 7 = some (.inl 3) := (q_pg hN h69 g69 7).trans (congrArg some tf_42)
  obtain ⟨fs70, hfs70⟩ := w61.ob
  refine x_callv (As := [.int 7]) (rest := []) 6307 354377 dL_runsOf_361 mi_X5_pagesFor ml_L_78 rfl rfl (Nat.le_of_ble_eq_true rfl) ⟨by decide, by decide⟩ (by omega) (by omega) hfs70 rfl (c_X5_pagesFor N _ _ _ _ _ e69) (x_K.some ?_) x_KX.none
  refine x_toX (st' := [.int 3]) rfl ?_
  clear h69 g69 e69 hfs70
  refine x_iconst 3 (by decide) dL_runsOf_364 ?_
  refine x_icmp_ne_n 451 dL_runsOf_365 (by decide) (by decide) ?_
  refine x_aload_n 0 dL_runsOf_368 rfl rfl ?_
  obtain ⟨f71, e71, a71, w71⟩ := w61.q1 (G := fun f1 => (nI (k_all (k_of L_8)).1, f1)) (fun q St bf h => q_found hN h w61.gd.1)
  rw [qq_fd_of tf_43, tf_44] at e71
  have z71 := z61.st a71
  obtain ⟨fs72, hfs72⟩ := w61.ob
  refine x_callv (As := []) (rest := []) 6307 354377 dL_runsOf_369 mi_X5_found ml_L_158 rfl rfl (Nat.le_of_ble_eq_true rfl) ⟨by decide, by decide⟩ (by omega) (by omega) hfs72 rfl (c_X5_found N _ _ _ _ e71) (x_K.some ?_) x_KX.none
  refine x_toX (st' := [.int 2]) rfl ?_
  clear e71 a71 hfs72 w61 z61
  refine x_iconst 2 (by decide) dL_runsOf_372 ?_
  refine x_icmp_ne_n 451 dL_runsOf_373 (by decide) (by decide) ?_
  refine x_aload_n 0 dL_runsOf_376 rfl rfl ?_
  refine x_dom (fun hd73 => ?_)
  obtain ⟨f73, m73, e73, a73, w73⟩ := k_dd3 hN (by omega) w71 hd73 (z71.le w71 hd73) (a := 0) (b := 0) (v := 3) (S' := (k_of L_9)) tf_48.1 tf_48.2
  have z73 := z71.st a73
  replace w73 : k_wd h.2 (h.2 + 70) 10 (k_of L_9) [(k_of L_3), (k_of L_4), (k_of L_5), (k_of L_6), (k_of L_7), (k_of L_8)] (fun _ => none) [] f73 := w73
  obtain ⟨fs74, hfs74⟩ := w71.ob
  refine x_callv (As := []) (rest := []) 6275 352474 dL_runsOf_377 mi_X5_mergeRuns ml_L_41 rfl rfl (Nat.le_of_ble_eq_true rfl) ⟨by decide, by decide⟩ (by omega) (by omega) hfs74 rfl (c_X5_mergeRuns N _ _ _ e73) (x_K.some ?_) x_KX.none
  refine x_toX (st' := [.int 3]) rfl ?_
  clear hd73 e73 a73 hfs74 w71 z71
  refine x_iconst 3 (by decide) dL_runsOf_380 ?_
  refine x_icmp_ne_n 451 dL_runsOf_381 (by decide) (by decide) ?_
  refine x_aload_n 0 dL_runsOf_384 rfl rfl ?_
  obtain ⟨q75, St75, bf75, h75, g75⟩ := w73.ci
  have e75 : F_X5_runs N f73 h.2 = some 1 := ((q_runs (N := N) h75).trans (congrArg some tf_49))
  obtain ⟨fs76, hfs76⟩ := w73.ob
  refine x_callv (As := []) (rest := []) 6275 352474 dL_runsOf_385 mi_X5_runs ml_L_155 rfl rfl (Nat.le_of_ble_eq_true rfl) ⟨by decide, by decide⟩ (by omega) (by omega) hfs76 rfl (c_X5_runs N _ _ _ _ e75) (x_K.some ?_) x_KX.none
  clear h75 g75 e75 hfs76
  refine x_iconst 1 (by decide) dL_runsOf_388 ?_
  refine x_icmp_ne_n 451 dL_runsOf_389 (by decide) (by decide) ?_
  refine x_aload_n 0 dL_runsOf_392 rfl rfl ?_
  refine x_iconst 1 (by decide) dL_runsOf_393 ?_
  obtain ⟨q77, St77, bf77, h77, g77⟩ := w73.ci
  have e77 : F_X5_sizeOf N f73 h.2 1 = some (.inl 3) := (q_sz h77 1).trans (congrArg some tf_50)
  obtain ⟨fs78, hfs78⟩ := w73.ob
  refine x_callv (As := [.int 1]) (rest := []) 6274 352468 dL_runsOf_394 mi_X5_sizeOf ml_L_99 rfl rfl (Nat.le_of_ble_eq_true rfl) ⟨by decide, by decide⟩ (by omega) (by omega) hfs78 rfl (c_X5_sizeOf N _ _ _ _ _ e77) (x_K.some ?_) x_KX.none
  refine x_toX (st' := [.int 3]) rfl ?_
  clear h77 g77 e77 hfs78
  refine x_iconst 3 (by decide) dL_runsOf_397 ?_
  refine x_icmp_ne_n 451 dL_runsOf_398 (by decide) (by decide) ?_
  refine x_aload_n 0 dL_runsOf_401 rfl rfl ?_
  refine x_iconst 1 (by decide) dL_runsOf_402 ?_
  refine x_iconst 2 (by decide) dL_runsOf_403 ?_
  obtain ⟨q79, St79, bf79, h79, g79⟩ := w73.ci
  have e79 : F_X5_keyIn N f73 h.2 1 2 = some (.inl 100) := (q_ki h79 1 2).trans (congrArg some tf_51)
  obtain ⟨fs80, hfs80⟩ := w73.ob
  refine x_callv (As := [.int 1, .int 2]) (rest := []) 6273 352462 dL_runsOf_404 mi_X5_keyIn ml_L_102 rfl rfl (Nat.le_of_ble_eq_true rfl) ⟨by decide, by decide⟩ (by omega) (by omega) hfs80 rfl (c_X5_keyIn N _ _ _ _ _ _ e79) (x_K.some ?_) x_KX.none
  refine x_toX (st' := [.int 100]) rfl ?_
  clear h79 g79 e79 hfs80
  refine x_bipush 100 (by decide) dL_runsOf_407 ?_
  refine x_icmp_ne_n 451 dL_runsOf_409 (by decide) (by decide) ?_
  refine x_aload_n 0 dL_runsOf_412 rfl rfl ?_
  refine x_iconst 1 (by decide) dL_runsOf_413 ?_
  refine x_iconst 1 (by decide) dL_runsOf_414 ?_
  obtain ⟨q81, St81, bf81, h81, g81⟩ := w73.ci
  have e81 : F_X5_isGoneIn N f73 h.2 1 1 = some (.inl true) := (q_go h81 1 1).trans (congrArg some tf_52)
  obtain ⟨fs82, hfs82⟩ := w73.ob
  refine x_callv (As := [.int 1, .int 1]) (rest := []) 6272 352456 dL_runsOf_415 mi_X5_isGoneIn ml_L_105 rfl rfl (Nat.le_of_ble_eq_true rfl) ⟨by decide, by decide⟩ (by omega) (by omega) hfs82 rfl (c_X5_isGoneIn N _ _ _ _ _ _ e81) (x_K.some ?_) x_KX.none
  refine x_toX (st' := [.int 1]) rfl ?_
  clear h81 g81 e81 hfs82
  refine x_if_eq_n 451 dL_runsOf_418 (by decide) (by decide) ?_
  refine x_aload_n 0 dL_runsOf_421 rfl rfl ?_
  refine x_bipush 7 (by decide) dL_runsOf_422 ?_
  obtain ⟨q83, St83, bf83, h83, g83⟩ := w73.ci
  have e83 : F_X5_pagesFor N f73 h.2 7 = some (.inl 2) := (q_pg hN h83 g83 7).trans (congrArg some tf_53)
  obtain ⟨fs84, hfs84⟩ := w73.ob
  refine x_callv (As := [.int 7]) (rest := []) 6271 352450 dL_runsOf_424 mi_X5_pagesFor ml_L_78 rfl rfl (Nat.le_of_ble_eq_true rfl) ⟨by decide, by decide⟩ (by omega) (by omega) hfs84 rfl (c_X5_pagesFor N _ _ _ _ _ e83) (x_K.some ?_) x_KX.none
  refine x_toX (st' := [.int 2]) rfl ?_
  clear h83 g83 e83 hfs84
  refine x_iconst 2 (by decide) dL_runsOf_427 ?_
  refine x_icmp_ne_n 451 dL_runsOf_428 (by decide) (by decide) ?_
  refine x_aload_n 0 dL_runsOf_431 rfl rfl ?_
  refine x_iconst 3 (by decide) dL_runsOf_432 ?_
  refine x_iconst 0 (by decide) dL_runsOf_433 ?_
  refine x_iconst 0 (by decide) dL_runsOf_434 ?_
  refine x_dom (fun hd86 => ?_)
  obtain ⟨f86, e86, a86, w86⟩ := k_rf3_1 hN (by omega) w73 hd86 (z73.le w73 hd86) (a := 0) (b := 0) tf_54
  have z86 := z73.st a86
  refine x_callsH (As := [.ref h.2, .int 3, .int 0, .int 0]) (rest := []) 6237 350535 dL_runsOf_435 mi_L_call rfl ml_L_182 rfl rfl (Nat.le_of_ble_eq_true rfl) ⟨by decide, by decide⟩ (by omega) (by omega) (c_L_call N _ _ _ _ _ _ e86) (fun n86 => ?_)
  refine x_toX (st' := [.int (-2013)]) rfl ?_
  clear hd86 e86 a86 w73 z73
  refine x_sipush (-2013) (by decide) dL_runsOf_438 ?_
  refine x_icmp_ne_n 451 dL_runsOf_441 (by decide) (by decide) ?_
  refine x_aload_n 0 dL_runsOf_444 rfl rfl ?_
  refine x_callsQ (As := [.ref h.2]) (rest := []) 377 21083 dL_runsOf_445 mi_L_refused rfl ml_L_215 rfl rfl (Nat.le_of_ble_eq_true rfl) ⟨by decide, by decide⟩ (by omega) (by omega) (c_refused (f0 := _) hN (by omega) (f86, n86) w86 z86) (fun v87 f87 n87 hq87 => ?_)
  obtain ⟨rfl, w87, z87⟩ := hq87
  refine x_toX (st' := [.int 1]) rfl ?_
  clear w86 z86
  refine x_if_ne_y 453 dL_runsOf_448 (by decide) (by decide) ?_
  refine x_aload_n 0 dL_runsOf_453 rfl rfl ?_
  refine x_dom (fun hd89 => ?_)
  obtain ⟨f89, e89, a89, w89⟩ := k_undone_yes (hs := n87) hN (P := [(k_of L_3), (k_of L_4), (k_of L_5), (k_of L_6), (k_of L_7)]) (s := (k_of L_8)) w87
  replace e89 : F_L_undone N (f87, n87) h.2 = some (5, f89) := e89
  have z89 := z87.st a89
  refine x_callsH (As := [.ref h.2]) (rest := []) 376 21077 dL_runsOf_454 mi_L_undone rfl ml_L_201 rfl rfl (Nat.le_of_ble_eq_true rfl) ⟨by decide, by decide⟩ (by omega) (by omega) (c_L_undone N _ _ _ e89) (fun n89 => ?_)
  refine x_toX (st' := [.int 5]) rfl ?_
  clear hd89 e89 a89 w87 z87
  refine x_iconst 5 (by decide) dL_runsOf_457 ?_
  refine x_icmp_ne_n 488 dL_runsOf_458 (by decide) (by decide) ?_
  refine x_aload_n 0 dL_runsOf_461 rfl rfl ?_
  obtain ⟨q90, St90, bf90, h90, g90⟩ := w89.ci
  have e90 : F_X5_runs N f89 h.2 = some 2 := ((q_runs (N := N) h90).trans (congrArg some tf_55))
  obtain ⟨fs91, hfs91⟩ := w89.ob
  refine x_callv (As := []) (rest := []) 376 21077 dL_runsOf_462 mi_X5_runs ml_L_155 rfl rfl (Nat.le_of_ble_eq_true rfl) ⟨by decide, by decide⟩ (by omega) (by omega) hfs91 rfl (c_X5_runs N _ _ _ _ e90) (x_K.some ?_) x_KX.none
  clear h90 g90 e90 hfs91
  refine x_iconst 2 (by decide) dL_runsOf_465 ?_
  refine x_icmp_ne_n 488 dL_runsOf_466 (by decide) (by decide) ?_
  refine x_aload_n 0 dL_runsOf_469 rfl rfl ?_
  refine x_dom (fun hd93 => ?_)
  obtain ⟨f93, e93, a93, w93⟩ := k_undone_yes (hs := n89) hN (P := [(k_of L_3), (k_of L_4), (k_of L_5), (k_of L_6)]) (s := (k_of L_7)) w89
  replace e93 : F_L_undone N (f89, n89) h.2 = some (4, f93) := e93
  have z93 := z89.st a93
  refine x_callsH (As := [.ref h.2]) (rest := []) 375 21071 dL_runsOf_470 mi_L_undone rfl ml_L_201 rfl rfl (Nat.le_of_ble_eq_true rfl) ⟨by decide, by decide⟩ (by omega) (by omega) (c_L_undone N _ _ _ e93) (fun n93 => ?_)
  refine x_toX (st' := [.int 4]) rfl ?_
  clear hd93 e93 a93 w89 z89
  refine x_iconst 4 (by decide) dL_runsOf_473 ?_
  refine x_icmp_ne_n 488 dL_runsOf_474 (by decide) (by decide) ?_
  refine x_aload_n 0 dL_runsOf_477 rfl rfl ?_
  refine x_bipush 100 (by decide) dL_runsOf_478 ?_
  obtain ⟨q94, St94, bf94, h94, g94⟩ := w93.ci
  have e94 : F_X5_valueOf N f93 h.2 100 = some (.inl 8) := (q_val hN h94 g94 100).trans (congrArg some tf_56)
  obtain ⟨fs95, hfs95⟩ := w93.ob
  refine x_callv (As := [.int 100]) (rest := []) 373 21059 dL_runsOf_480 mi_X5_valueOf ml_L_75 rfl rfl (Nat.le_of_ble_eq_true rfl) ⟨by decide, by decide⟩ (by omega) (by omega) hfs95 rfl (c_X5_valueOf N _ _ _ _ _ e94) (x_K.some ?_) x_KX.none
  refine x_toX (st' := [.int 8]) rfl ?_
  clear h94 g94 e94 hfs95
  refine x_bipush 8 (by decide) dL_runsOf_483 ?_
  refine x_icmp_eq_y 490 dL_runsOf_485 (by decide) (by decide) ?_
  refine x_aload_n 0 dL_runsOf_490 rfl rfl ?_
  refine x_bipush 11 (by decide) dL_runsOf_491 ?_
  refine x_dom (fun hd96 => ?_)
  obtain ⟨f96, m96, e96, a96, w96⟩ := k_dd1 hN (by omega) w93 hd96 (z93.le w93 hd96) (a := 11) (b := 0) (v := 1) (S' := (k_of L_10)) tf_57 (k_eqb_sp tf_58)
  have z96 := z93.st a96
  replace w96 : k_wd h.2 (h.2 + 70) 11 (k_of L_10) [(k_of L_3), (k_of L_4), (k_of L_5), (k_of L_6), (k_of L_7)] (fun _ => none) [] f96 := w96
  obtain ⟨fs97, hfs97⟩ := w93.ob
  refine x_callv (As := [.int 11]) (rest := []) 340 19150 dL_runsOf_493 mi_X5_drop ml_L_33 rfl rfl (Nat.le_of_ble_eq_true rfl) ⟨by decide, by decide⟩ (by omega) (by omega) hfs97 rfl (c_X5_drop N _ _ _ _ e96) (x_K.some ?_) x_KX.none
  refine x_toX (st' := [.int 1]) rfl ?_
  clear hd96 e96 a96 hfs97 w93 z93
  refine x_iconst 1 (by decide) dL_runsOf_496 ?_
  refine x_icmp_ne_n 718 dL_runsOf_497 (by decide) (by decide) ?_
  refine x_aload_n 0 dL_runsOf_500 rfl rfl ?_
  obtain ⟨f98, e98, a98, w98⟩ := w96.q1 (G := fun f1 => (nI (k_all (k_of L_10)).1, f1)) (fun q St bf h => q_found hN h w96.gd.1)
  rw [qq_fd_of tf_59, tf_60] at e98
  have z98 := z96.st a98
  obtain ⟨fs99, hfs99⟩ := w96.ob
  refine x_callv (As := []) (rest := []) 340 19150 dL_runsOf_501 mi_X5_found ml_L_158 rfl rfl (Nat.le_of_ble_eq_true rfl) ⟨by decide, by decide⟩ (by omega) (by omega) hfs99 rfl (c_X5_found N _ _ _ _ e98) (x_K.some ?_) x_KX.none
  refine x_toX (st' := [.int 2]) rfl ?_
  clear e98 a98 hfs99 w96 z96
  refine x_iconst 2 (by decide) dL_runsOf_504 ?_
  refine x_icmp_ne_n 718 dL_runsOf_505 (by decide) (by decide) ?_
  refine x_aload_n 0 dL_runsOf_508 rfl rfl ?_
  refine x_iconst 0 (by decide) dL_runsOf_509 ?_
  obtain ⟨f100, e100, a100, w100⟩ := w98.q1 (G := fun f1 => qm (qa_ka (k_of L_10) 0) f1) (fun q St bf h => q_ka hN h w98.gd.1 0)
  rw [qq_ka_of tf_59 0, tf_61] at e100
  replace e100 : F_X5_keyAt N f98 h.2 0 = some (.inl (7, f100)) := e100
  have z100 := z98.st a100
  obtain ⟨fs101, hfs101⟩ := w98.ob
  refine x_callv (As := [.int 0]) (rest := []) 339 19144 dL_runsOf_510 mi_X5_keyAt ml_L_93 rfl rfl (Nat.le_of_ble_eq_true rfl) ⟨by decide, by decide⟩ (by omega) (by omega) hfs101 rfl (c_X5_keyAt N _ _ _ _ _ e100) (x_K.some ?_) x_KX.none
  refine x_toX (st' := [.int 7]) rfl ?_
  clear e100 a100 hfs101 w98 z98
  refine x_bipush 7 (by decide) dL_runsOf_513 ?_
  refine x_icmp_ne_n 718 dL_runsOf_515 (by decide) (by decide) ?_
  refine x_aload_n 0 dL_runsOf_518 rfl rfl ?_
  refine x_iconst 1 (by decide) dL_runsOf_519 ?_
  obtain ⟨f102, e102, a102, w102⟩ := w100.q1 (G := fun f1 => qm (qa_ka (k_of L_10) 1) f1) (fun q St bf h => q_ka hN h w100.gd.1 1)
  rw [qq_ka_of tf_59 1, tf_62] at e102
  replace e102 : F_X5_keyAt N f100 h.2 1 = some (.inl (100, f102)) := e102
  have z102 := z100.st a102
  obtain ⟨fs103, hfs103⟩ := w100.ob
  refine x_callv (As := [.int 1]) (rest := []) 338 19138 dL_runsOf_520 mi_X5_keyAt ml_L_93 rfl rfl (Nat.le_of_ble_eq_true rfl) ⟨by decide, by decide⟩ (by omega) (by omega) hfs103 rfl (c_X5_keyAt N _ _ _ _ _ e102) (x_K.some ?_) x_KX.none
  refine x_toX (st' := [.int 100]) rfl ?_
  clear e102 a102 hfs103 w100 z100
  refine x_bipush 100 (by decide) dL_runsOf_523 ?_
  refine x_icmp_ne_n 718 dL_runsOf_525 (by decide) (by decide) ?_
  refine x_aload_n 0 dL_runsOf_528 rfl rfl ?_
  refine x_bipush 50 (by decide) dL_runsOf_529 ?_
  refine x_dom (fun hd104 => ?_)
  obtain ⟨f104, m104, e104, a104, w104⟩ := k_dd4 hN (by omega) w102 hd104 (z102.le w102 hd104) (a := 50) (b := 0) (v := 1) (S' := (k_of L_11)) ((k_ac4_of (b := 0) tf_59 tf_63 tf_64 w102.gd.1).1.trans (congrArg Sum.inl tf_65)) (k_ac4_of (b := 0) tf_59 tf_63 tf_64 w102.gd.1).2
  have z104 := z102.st a104
  replace w104 : k_wd h.2 (h.2 + 70) 12 (k_of L_11) [(k_of L_3), (k_of L_4), (k_of L_5), (k_of L_6), (k_of L_7), (k_of L_10)] (fun _ => none) [] f104 := w104
  obtain ⟨fs105, hfs105⟩ := w102.ob
  refine x_callv (As := [.int 50]) (rest := []) 305 17229 dL_runsOf_531 mi_X5_build ml_L_44 rfl rfl (Nat.le_of_ble_eq_true rfl) ⟨by decide, by decide⟩ (by omega) (by omega) hfs105 rfl (c_X5_build N _ _ _ _ e104) (x_K.some ?_) x_KX.none
  refine x_toX (st' := [.int 1]) rfl ?_
  clear hd104 e104 a104 hfs105 w102 z102
  refine x_iconst 1 (by decide) dL_runsOf_534 ?_
  refine x_icmp_ne_n 718 dL_runsOf_535 (by decide) (by decide) ?_
  refine x_aload_n 0 dL_runsOf_538 rfl rfl ?_
  obtain ⟨q106, St106, bf106, h106, g106⟩ := w104.ci
  have e106 : F_X5_entries N f104 h.2 = some 2 := ((q_entries (N := N) h106).trans (congrArg some tf_66))
  obtain ⟨fs107, hfs107⟩ := w104.ob
  refine x_callv (As := []) (rest := []) 305 17229 dL_runsOf_539 mi_X5_entries ml_L_143 rfl rfl (Nat.le_of_ble_eq_true rfl) ⟨by decide, by decide⟩ (by omega) (by omega) hfs107 rfl (c_X5_entries N _ _ _ _ e106) (x_K.some ?_) x_KX.none
  clear h106 g106 e106 hfs107
  refine x_iconst 2 (by decide) dL_runsOf_542 ?_
  refine x_icmp_ne_n 718 dL_runsOf_543 (by decide) (by decide) ?_
  refine x_aload_n 0 dL_runsOf_546 rfl rfl ?_
  refine x_bipush 100 (by decide) dL_runsOf_547 ?_
  obtain ⟨q108, St108, bf108, h108, g108⟩ := w104.ci
  have e108 : F_X5_valueOf N f104 h.2 100 = some (.inl 8) := (q_val hN h108 g108 100).trans (congrArg some tf_67)
  obtain ⟨fs109, hfs109⟩ := w104.ob
  refine x_callv (As := [.int 100]) (rest := []) 303 17217 dL_runsOf_549 mi_X5_valueOf ml_L_75 rfl rfl (Nat.le_of_ble_eq_true rfl) ⟨by decide, by decide⟩ (by omega) (by omega) hfs109 rfl (c_X5_valueOf N _ _ _ _ _ e108) (x_K.some ?_) x_KX.none
  refine x_toX (st' := [.int 8]) rfl ?_
  clear h108 g108 e108 hfs109
  refine x_bipush 8 (by decide) dL_runsOf_552 ?_
  refine x_icmp_ne_n 718 dL_runsOf_554 (by decide) (by decide) ?_
  refine x_aload_n 0 dL_runsOf_557 rfl rfl ?_
  refine x_bipush 7 (by decide) dL_runsOf_558 ?_
  obtain ⟨q110, St110, bf110, h110, g110⟩ := w104.ci
  have e110 : F_X5_valueOf N f104 h.2 7 = some (.inl 4) := (q_val hN h110 g110 7).trans (congrArg some tf_68)
  obtain ⟨fs111, hfs111⟩ := w104.ob
  refine x_callv (As := [.int 7]) (rest := []) 301 17205 dL_runsOf_560 mi_X5_valueOf ml_L_75 rfl rfl (Nat.le_of_ble_eq_true rfl) ⟨by decide, by decide⟩ (by omega) (by omega) hfs111 rfl (c_X5_valueOf N _ _ _ _ _ e110) (x_K.some ?_) x_KX.none
  refine x_toX (st' := [.int 4]) rfl ?_
  clear h110 g110 e110 hfs111
  refine x_iconst 4 (by decide) dL_runsOf_563 ?_
  refine x_icmp_ne_n 718 dL_runsOf_564 (by decide) (by decide) ?_
  refine x_aload_n 0 dL_runsOf_567 rfl rfl ?_
  obtain ⟨q112, St112, bf112, h112, g112⟩ := w104.ci
  have e112 : F_X5_written N f104 h.2 = some 2 := ((q_written (N := N) h112).trans (congrArg some tf_69))
  obtain ⟨fs113, hfs113⟩ := w104.ob
  refine x_callv (As := []) (rest := []) 301 17205 dL_runsOf_568 mi_X5_written ml_L_152 rfl rfl (Nat.le_of_ble_eq_true rfl) ⟨by decide, by decide⟩ (by omega) (by omega) hfs113 rfl (c_X5_written N _ _ _ _ e112) (x_K.some ?_) x_KX.none
  clear h112 g112 e112 hfs113
  refine x_iconst 2 (by decide) dL_runsOf_571 ?_
  refine x_icmp_ne_n 718 dL_runsOf_572 (by decide) (by decide) ?_
  refine x_aload_n 0 dL_runsOf_575 rfl rfl ?_
  obtain ⟨q114, St114, bf114, h114, g114⟩ := w104.ci
  have e114 : F_X5_told N f104 h.2 = some 0 := ((q_told hN h114).trans (congrArg some tf_70))
  obtain ⟨fs115, hfs115⟩ := w104.ob
  refine x_callv (As := []) (rest := []) 301 17205 dL_runsOf_576 mi_X5_told ml_L_234 rfl rfl (Nat.le_of_ble_eq_true rfl) ⟨by decide, by decide⟩ (by omega) (by omega) hfs115 rfl (c_X5_told N _ _ _ _ e114) (x_K.some ?_) x_KX.none
  clear h114 g114 e114 hfs115
  refine x_if_ne_n 718 dL_runsOf_579 (by decide) (by decide) ?_
  refine x_aload_n 0 dL_runsOf_582 rfl rfl ?_
  obtain ⟨q116, St116, bf116, h116, g116⟩ := w104.ci
  have e116 : F_X5_runs N f104 h.2 = some 0 := ((q_runs (N := N) h116).trans (congrArg some tf_71))
  obtain ⟨fs117, hfs117⟩ := w104.ob
  refine x_callv (As := []) (rest := []) 301 17205 dL_runsOf_583 mi_X5_runs ml_L_155 rfl rfl (Nat.le_of_ble_eq_true rfl) ⟨by decide, by decide⟩ (by omega) (by omega) hfs117 rfl (c_X5_runs N _ _ _ _ e116) (x_K.some ?_) x_KX.none
  clear h116 g116 e116 hfs117
  refine x_if_ne_n 718 dL_runsOf_586 (by decide) (by decide) ?_
  refine x_aload_n 0 dL_runsOf_589 rfl rfl ?_
  obtain ⟨q118, St118, bf118, h118, g118⟩ := w104.ci
  have e118 : F_X5_levels N f104 h.2 = some 0 := ((q_levels hN h118 g118).trans (congrArg some tf_72))
  obtain ⟨fs119, hfs119⟩ := w104.ob
  refine x_callv (As := []) (rest := []) 301 17205 dL_runsOf_590 mi_X5_levels ml_L_179 rfl rfl (Nat.le_of_ble_eq_true rfl) ⟨by decide, by decide⟩ (by omega) (by omega) hfs119 rfl (c_X5_levels N _ _ _ _ e118) (x_K.some ?_) x_KX.none
  clear h118 g118 e118 hfs119
  refine x_if_ne_n 718 dL_runsOf_593 (by decide) (by decide) ?_
  refine x_aload_n 0 dL_runsOf_596 rfl rfl ?_
  refine x_bipush 7 (by decide) dL_runsOf_597 ?_
  refine x_dom (fun hd120 => ?_)
  obtain ⟨f120, m120, e120, a120, w120⟩ := k_dd1 hN (by omega) w104 hd120 (z104.le w104 hd120) (a := 7) (b := 0) (v := 1) (S' := (k_of L_12)) tf_73 (k_eqb_sp tf_74)
  have z120 := z104.st a120
  replace w120 : k_wd h.2 (h.2 + 70) 13 (k_of L_12) [(k_of L_4), (k_of L_5), (k_of L_6), (k_of L_7), (k_of L_10), (k_of L_11)] (fun _ => none) [] f120 := w120
  obtain ⟨fs121, hfs121⟩ := w104.ob
  refine x_callv (As := [.int 7]) (rest := []) 268 15296 dL_runsOf_599 mi_X5_drop ml_L_33 rfl rfl (Nat.le_of_ble_eq_true rfl) ⟨by decide, by decide⟩ (by omega) (by omega) hfs121 rfl (c_X5_drop N _ _ _ _ e120) (x_K.some ?_) x_KX.none
  refine x_toX (st' := [.int 1]) rfl ?_
  clear hd120 e120 a120 hfs121 w104 z104
  refine x_iconst 1 (by decide) dL_runsOf_602 ?_
  refine x_icmp_ne_n 718 dL_runsOf_603 (by decide) (by decide) ?_
  refine x_aload_n 0 dL_runsOf_606 rfl rfl ?_
  refine x_bipush 100 (by decide) dL_runsOf_607 ?_
  refine x_dom (fun hd122 => ?_)
  obtain ⟨f122, m122, e122, a122, w122⟩ := k_dd1 hN (by omega) w120 hd122 (z120.le w120 hd122) (a := 100) (b := 0) (v := 2) (S' := (k_of L_13)) tf_75 (k_eqb_sp tf_76)
  have z122 := z120.st a122
  replace w122 : k_wd h.2 (h.2 + 70) 14 (k_of L_13) [(k_of L_5), (k_of L_6), (k_of L_7), (k_of L_10), (k_of L_11), (k_of L_12)] (fun _ => none) [] f122 := w122
  obtain ⟨fs123, hfs123⟩ := w120.ob
  refine x_callv (As := [.int 100]) (rest := []) 235 13387 dL_runsOf_609 mi_X5_drop ml_L_33 rfl rfl (Nat.le_of_ble_eq_true rfl) ⟨by decide, by decide⟩ (by omega) (by omega) hfs123 rfl (c_X5_drop N _ _ _ _ e122) (x_K.some ?_) x_KX.none
  refine x_toX (st' := [.int 2]) rfl ?_
  clear hd122 e122 a122 hfs123 w120 z120
  refine x_iconst 2 (by decide) dL_runsOf_612 ?_
  refine x_icmp_ne_n 718 dL_runsOf_613 (by decide) (by decide) ?_
  refine x_aload_n 0 dL_runsOf_616 rfl rfl ?_
  refine x_bipush 100 (by decide) dL_runsOf_617 ?_
  refine x_dom (fun hd124 => ?_)
  obtain ⟨f124, m124, e124, a124, w124⟩ := k_dd4 hN (by omega) w122 hd124 (z122.le w122 hd124) (a := 100) (b := 0) (v := 0) (S' := (k_of L_14)) ((k_ac4_of (b := 0) tf_77 tf_78 tf_79 w122.gd.1).1.trans (congrArg Sum.inl tf_80)) (k_ac4_of (b := 0) tf_77 tf_78 tf_79 w122.gd.1).2
  have z124 := z122.st a124
  replace w124 : k_wd h.2 (h.2 + 70) 15 (k_of L_14) [(k_of L_6), (k_of L_7), (k_of L_10), (k_of L_11), (k_of L_12), (k_of L_13)] (fun _ => none) [] f124 := w124
  obtain ⟨fs125, hfs125⟩ := w122.ob
  refine x_callv (As := [.int 100]) (rest := []) 202 11478 dL_runsOf_619 mi_X5_build ml_L_44 rfl rfl (Nat.le_of_ble_eq_true rfl) ⟨by decide, by decide⟩ (by omega) (by omega) hfs125 rfl (c_X5_build N _ _ _ _ e124) (x_K.some ?_) x_KX.none
  refine x_toX (st' := [.int 0]) rfl ?_
  clear hd124 e124 a124 hfs125 w122 z122
  refine x_if_ne_n 718 dL_runsOf_622 (by decide) (by decide) ?_
  refine x_aload_n 0 dL_runsOf_625 rfl rfl ?_
  obtain ⟨q126, St126, bf126, h126, g126⟩ := w124.ci
  have e126 : F_X5_entries N f124 h.2 = some 0 := ((q_entries (N := N) h126).trans (congrArg some tf_81))
  obtain ⟨fs127, hfs127⟩ := w124.ob
  refine x_callv (As := []) (rest := []) 202 11478 dL_runsOf_626 mi_X5_entries ml_L_143 rfl rfl (Nat.le_of_ble_eq_true rfl) ⟨by decide, by decide⟩ (by omega) (by omega) hfs127 rfl (c_X5_entries N _ _ _ _ e126) (x_K.some ?_) x_KX.none
  clear h126 g126 e126 hfs127
  refine x_if_ne_n 718 dL_runsOf_629 (by decide) (by decide) ?_
  refine x_aload_n 0 dL_runsOf_632 rfl rfl ?_
  obtain ⟨q128, St128, bf128, h128, g128⟩ := w124.ci
  have e128 : F_X5_levels N f124 h.2 = some 0 := ((q_levels hN h128 g128).trans (congrArg some tf_82))
  obtain ⟨fs129, hfs129⟩ := w124.ob
  refine x_callv (As := []) (rest := []) 202 11478 dL_runsOf_633 mi_X5_levels ml_L_179 rfl rfl (Nat.le_of_ble_eq_true rfl) ⟨by decide, by decide⟩ (by omega) (by omega) hfs129 rfl (c_X5_levels N _ _ _ _ e128) (x_K.some ?_) x_KX.none
  clear h128 g128 e128 hfs129
  refine x_if_ne_n 718 dL_runsOf_636 (by decide) (by decide) ?_
  refine x_aload_n 0 dL_runsOf_639 rfl rfl ?_
  obtain ⟨q130, St130, bf130, h130, g130⟩ := w124.ci
  have e130 : F_X5_builds N f124 h.2 = some 2 := ((q_builds (N := N) h130).trans (congrArg some tf_83))
  obtain ⟨fs131, hfs131⟩ := w124.ob
  refine x_callv (As := []) (rest := []) 202 11478 dL_runsOf_640 mi_X5_builds ml_L_149 rfl rfl (Nat.le_of_ble_eq_true rfl) ⟨by decide, by decide⟩ (by omega) (by omega) hfs131 rfl (c_X5_builds N _ _ _ _ e130) (x_K.some ?_) x_KX.none
  clear h130 g130 e130 hfs131
  refine x_iconst 2 (by decide) dL_runsOf_643 ?_
  refine x_icmp_ne_n 718 dL_runsOf_644 (by decide) (by decide) ?_
  refine x_aload_n 0 dL_runsOf_647 rfl rfl ?_
  refine x_iconst 2 (by decide) dL_runsOf_648 ?_
  refine x_dom (fun hd132 => ?_)
  obtain ⟨f132, m132, e132, a132, w132⟩ := k_dd7 hN (by omega) w124 hd132 (z124.le w124 hd132) (a := 2) (b := 0) (v := 4) (S' := (k_of L_15)) tf_84 (k_eqb_sp tf_85)
  have z132 := z124.st a132
  replace w132 : k_wd h.2 (h.2 + 70) 16 (k_of L_15) [(k_of L_7), (k_of L_10), (k_of L_11), (k_of L_12), (k_of L_13), (k_of L_14)] (fun _ => none) [] f132 := w132
  obtain ⟨fs133, hfs133⟩ := w124.ob
  refine x_callv (As := [.int 2]) (rest := []) 170 9575 dL_runsOf_649 mi_X5_changeLeaf ml_L_53 rfl rfl (Nat.le_of_ble_eq_true rfl) ⟨by decide, by decide⟩ (by omega) (by omega) hfs133 rfl (c_X5_changeLeaf N _ _ _ _ e132) (x_K.some ?_) x_KX.none
  refine x_toX (st' := [.int 4]) rfl ?_
  clear hd132 e132 a132 hfs133 w124 z124
  refine x_iconst 4 (by decide) dL_runsOf_652 ?_
  refine x_icmp_ne_n 718 dL_runsOf_653 (by decide) (by decide) ?_
  refine x_aload_n 0 dL_runsOf_656 rfl rfl ?_
  refine x_iconst 1 (by decide) dL_runsOf_657 ?_
  refine x_iconst 1 (by decide) dL_runsOf_658 ?_
  refine x_dom (fun hd134 => ?_)
  obtain ⟨f134, m134, e134, a134, w134⟩ := k_dd5 hN (by omega) w132 hd134 (z132.le w132 hd134) (a := 1) (b := 1) (v := 3) (S' := (k_of L_16)) tf_86 (k_eqb_sp tf_87)
  have z134 := z132.st a134
  replace w134 : k_wd h.2 (h.2 + 70) 17 (k_of L_16) [(k_of L_10), (k_of L_11), (k_of L_12), (k_of L_13), (k_of L_14), (k_of L_15)] (fun _ => none) [] f134 := w134
  obtain ⟨fs135, hfs135⟩ := w132.ob
  refine x_callv (As := [.int 1, .int 1]) (rest := []) 136 7660 dL_runsOf_659 mi_X5_insert ml_L_47 rfl rfl (Nat.le_of_ble_eq_true rfl) ⟨by decide, by decide⟩ (by omega) (by omega) hfs135 rfl (c_X5_insert N _ _ _ _ _ e134) (x_K.some ?_) x_KX.none
  refine x_toX (st' := [.int 3]) rfl ?_
  clear hd134 e134 a134 hfs135 w132 z132
  refine x_iconst 3 (by decide) dL_runsOf_662 ?_
  refine x_icmp_ne_n 718 dL_runsOf_663 (by decide) (by decide) ?_
  refine x_aload_n 0 dL_runsOf_666 rfl rfl ?_
  refine x_iconst 2 (by decide) dL_runsOf_667 ?_
  refine x_iconst 2 (by decide) dL_runsOf_668 ?_
  refine x_dom (fun hd136 => ?_)
  obtain ⟨f136, m136, e136, a136, w136⟩ := k_dd5 hN (by omega) w134 hd136 (z134.le w134 hd136) (a := 2) (b := 2) (v := 1) (S' := (k_of L_17)) tf_88 (k_eqb_sp tf_89)
  have z136 := z134.st a136
  replace w136 : k_wd h.2 (h.2 + 70) 18 (k_of L_17) [(k_of L_11), (k_of L_12), (k_of L_13), (k_of L_14), (k_of L_15), (k_of L_16)] (fun _ => none) [] f136 := w136
  obtain ⟨fs137, hfs137⟩ := w134.ob
  refine x_callv (As := [.int 2, .int 2]) (rest := []) 102 5745 dL_runsOf_669 mi_X5_insert ml_L_47 rfl rfl (Nat.le_of_ble_eq_true rfl) ⟨by decide, by decide⟩ (by omega) (by omega) hfs137 rfl (c_X5_insert N _ _ _ _ _ e136) (x_K.some ?_) x_KX.none
  refine x_toX (st' := [.int 1]) rfl ?_
  clear hd136 e136 a136 hfs137 w134 z134
  refine x_iconst 1 (by decide) dL_runsOf_672 ?_
  refine x_icmp_ne_n 718 dL_runsOf_673 (by decide) (by decide) ?_
  refine x_aload_n 0 dL_runsOf_676 rfl rfl ?_
  refine x_iconst 3 (by decide) dL_runsOf_677 ?_
  refine x_iconst 3 (by decide) dL_runsOf_678 ?_
  refine x_dom (fun hd138 => ?_)
  obtain ⟨f138, m138, e138, a138, w138⟩ := k_dd5 hN (by omega) w136 hd138 (z136.le w136 hd138) (a := 3) (b := 3) (v := 1) (S' := (k_of L_18)) tf_90 (k_eqb_sp tf_91)
  have z138 := z136.st a138
  replace w138 : k_wd h.2 (h.2 + 70) 19 (k_of L_18) [(k_of L_12), (k_of L_13), (k_of L_14), (k_of L_15), (k_of L_16), (k_of L_17)] (fun _ => none) [] f138 := w138
  obtain ⟨fs139, hfs139⟩ := w136.ob
  refine x_callv (As := [.int 3, .int 3]) (rest := []) 68 3830 dL_runsOf_679 mi_X5_insert ml_L_47 rfl rfl (Nat.le_of_ble_eq_true rfl) ⟨by decide, by decide⟩ (by omega) (by omega) hfs139 rfl (c_X5_insert N _ _ _ _ _ e138) (x_K.some ?_) x_KX.none
  refine x_toX (st' := [.int 1]) rfl ?_
  clear hd138 e138 a138 hfs139 w136 z136
  refine x_iconst 1 (by decide) dL_runsOf_682 ?_
  refine x_icmp_ne_n 718 dL_runsOf_683 (by decide) (by decide) ?_
  refine x_aload_n 0 dL_runsOf_686 rfl rfl ?_
  refine x_iconst 4 (by decide) dL_runsOf_687 ?_
  refine x_iconst 4 (by decide) dL_runsOf_688 ?_
  refine x_dom (fun hd140 => ?_)
  obtain ⟨f140, m140, e140, a140, w140⟩ := k_dd5 hN (by omega) w138 hd140 (z138.le w138 hd140) (a := 4) (b := 4) (v := 1) (S' := (k_of L_19)) tf_92 (k_eqb_sp tf_93)
  have z140 := z138.st a140
  replace w140 : k_wd h.2 (h.2 + 70) 20 (k_of L_19) [(k_of L_13), (k_of L_14), (k_of L_15), (k_of L_16), (k_of L_17), (k_of L_18)] (fun _ => none) [] f140 := w140
  obtain ⟨fs141, hfs141⟩ := w138.ob
  refine x_callv (As := [.int 4, .int 4]) (rest := []) 34 1915 dL_runsOf_689 mi_X5_insert ml_L_47 rfl rfl (Nat.le_of_ble_eq_true rfl) ⟨by decide, by decide⟩ (by omega) (by omega) hfs141 rfl (c_X5_insert N _ _ _ _ _ e140) (x_K.some ?_) x_KX.none
  refine x_toX (st' := [.int 1]) rfl ?_
  clear hd140 e140 a140 hfs141 w138 z138
  refine x_iconst 1 (by decide) dL_runsOf_692 ?_
  refine x_icmp_ne_n 718 dL_runsOf_693 (by decide) (by decide) ?_
  refine x_aload_n 0 dL_runsOf_696 rfl rfl ?_
  refine x_iconst 5 (by decide) dL_runsOf_697 ?_
  refine x_iconst 5 (by decide) dL_runsOf_698 ?_
  refine x_dom (fun hd142 => ?_)
  obtain ⟨f142, m142, e142, a142, w142⟩ := k_dd5 hN (by omega) w140 hd142 (z140.le w140 hd142) (a := 5) (b := 5) (v := 3) (S' := (k_of L_20)) tf_94 (k_eqb_sp tf_95)
  have z142 := z140.st a142
  replace w142 : k_wd h.2 (h.2 + 70) 21 (k_of L_20) [(k_of L_14), (k_of L_15), (k_of L_16), (k_of L_17), (k_of L_18), (k_of L_19)] (fun _ => none) [] f142 := w142
  obtain ⟨fs143, hfs143⟩ := w140.ob
  refine x_callv (As := [.int 5, .int 5]) (rest := []) 0 0 dL_runsOf_699 mi_X5_insert ml_L_47 rfl rfl (Nat.le_of_ble_eq_true rfl) ⟨by decide, by decide⟩ (by omega) (by omega) hfs143 rfl (c_X5_insert N _ _ _ _ _ e142) (x_K.some ?_) x_KX.none
  refine x_toX (st' := [.int 3]) rfl ?_
  clear hd142 e142 a142 hfs143 w140 z140
  refine x_iconst 3 (by decide) dL_runsOf_702 ?_
  refine x_icmp_ne_n 718 dL_runsOf_703 (by decide) (by decide) ?_
  refine x_aload_n 0 dL_runsOf_706 rfl rfl ?_
  obtain ⟨q144, St144, bf144, h144, g144⟩ := w142.ci
  have e144 : F_X5_leaves N f142 h.2 = some 2 := ((q_leaves (N := N) h144).trans (congrArg some tf_96))
  obtain ⟨fs145, hfs145⟩ := w142.ob
  refine x_callv (As := []) (rest := []) 0 0 dL_runsOf_707 mi_X5_leaves ml_L_146 rfl rfl (Nat.le_of_ble_eq_true rfl) ⟨by decide, by decide⟩ (by omega) (by omega) hfs145 rfl (c_X5_leaves N _ _ _ _ e144) (x_K.some ?_) x_KX.none
  clear h144 g144 e144 hfs145
  refine x_iconst 2 (by decide) dL_runsOf_710 ?_
  refine x_icmp_ne_n 718 dL_runsOf_711 (by decide) (by decide) ?_
  refine x_iconst 1 (by decide) dL_runsOf_714 ?_
  refine x_goto 719 dL_runsOf_715 (by decide) ?_
  exact x_zretq dL_runsOf_719 rfl (Or.inr rfl) rfl
