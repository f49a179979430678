/-! trees, by hand. Laid by wip/p55/gen_hand.py. -/
set_option maxRecDepth 20000 in
set_option maxHeartbeats 4000000 in
theorem c_trees {N : Nat} (hN : 50000 ≤ N) (h : XH) : x_Cq mL_trees 13 316 39811 2242038 [] h (fun v _ => v = some (.int 1)) := by
  refine x_cq (by decide) rfl (Nat.le_of_ble_eq_true rfl) ?_
  show X mL_trees 13 316 _ _ 39811 2242038 0 [] [] (h.1, h.2)
  refine x_new_r (f := fun z => some z) 39810 2242029 dL_trees_0 cl_L_28 (by omega) (by omega) rfl (fun u1 hu1 => ?_)
  cases hu1
  refine x_dupr dL_trees_3 ?_
  obtain ⟨f2, e2, w2, a2⟩ := k_new (N := N) (f := h.1) (x := h.2) (wz := h.2 + 70)
  have z2 : k_Zf h.2 (h.2 + 70) f2 f2 := k_Zf.rf (Or.inl (Nat.le_refl _))
  refine x_calli (As := []) (rest := [.ref h.2]) 39735 2236015 dL_trees_4 mi_X5_init ml_L_200 rfl rfl (Nat.le_of_ble_eq_true rfl) ⟨by decide, by decide⟩ (by omega) (by omega) (c_X5_init N _ _ _ e2) ?_
  refine x_toX (st' := [.ref h.2]) rfl ?_
  clear e2 a2
  refine x_astore_n (i := 0) (lv' := [(0, .ref h.2)]) dL_trees_7 rfl (by decide) rfl ?_
  refine x_aload_n 0 dL_trees_8 rfl rfl ?_
  refine x_dom (fun hd4 => ?_)
  have e4 : F_L_undone N (f2, (h.2 + 70)) h.2 = some (-2013, f2) := k_undone_no w2
  have a4 : ∀ a, h.2 + 70 ≤ a → a < h.2 + 70 → f2 a = f2 a := fun _ _ _ => rfl
  have w4 := w2
  have z4 := z2.st a4
  refine x_callsH (As := [.ref h.2]) (rest := []) 39734 2236009 dL_trees_9 mi_L_undone rfl ml_L_201 rfl rfl (Nat.le_of_ble_eq_true rfl) ⟨by decide, by decide⟩ (by omega) (by omega) (c_L_undone N _ _ _ e4) (fun n4 => ?_)
  refine x_toX (st' := [.int (-2013)]) rfl ?_
  clear hd4 e4 a4 w2 z2
  refine x_sipush (-2013) (by decide) dL_trees_12 ?_
  refine x_icmp_ne_n 487 dL_trees_15 (by decide) (by decide) ?_
  refine x_aload_n 0 dL_trees_18 rfl rfl ?_
  refine x_iconst 1 (by decide) dL_trees_19 ?_
  refine x_dom (fun hd6 => ?_)
  obtain ⟨f6, e6, a6, w6⟩ := k_rfb hN w4 hd6 (z4.le w4 hd6) (a := 1) (v := 1) (by decide)
  have z6 := z4.st a6
  refine x_callsH (As := [.ref h.2, .int 1]) (rest := []) 39701 2234100 dL_trees_20 mi_L_back rfl ml_L_189 rfl rfl (Nat.le_of_ble_eq_true rfl) ⟨by decide, by decide⟩ (by omega) (by omega) (c_L_back N _ _ _ _ e6) (fun n6 => ?_)
  refine x_toX (st' := [.int (-2013)]) rfl ?_
  clear hd6 e6 a6 w4 z4
  refine x_sipush (-2013) (by decide) dL_trees_23 ?_
  refine x_icmp_ne_n 487 dL_trees_26 (by decide) (by decide) ?_
  refine x_aload_n 0 dL_trees_29 rfl rfl ?_
  obtain ⟨q7, St7, bf7, h7, g7⟩ := w6.ci
  have e7 : F_X5_entries N f6 h.2 = some 0 := ((q_entries (N := N) h7).trans (congrArg some tf_427))
  obtain ⟨fs8, hfs8⟩ := w6.ob
  refine x_callv (As := []) (rest := []) 39701 2234100 dL_trees_30 mi_X5_entries ml_L_143 rfl rfl (Nat.le_of_ble_eq_true rfl) ⟨by decide, by decide⟩ (by omega) (by omega) hfs8 rfl (c_X5_entries N _ _ _ _ e7) (x_K.some ?_) x_KX.none
  clear h7 g7 e7 hfs8
  refine x_if_ne_n 487 dL_trees_33 (by decide) (by decide) ?_
  refine x_aload_n 0 dL_trees_36 rfl rfl ?_
  refine x_bipush 32 (by decide) dL_trees_37 ?_
  refine x_iconst 0 (by decide) dL_trees_39 ?_
  refine x_iconst 0 (by decide) dL_trees_40 ?_
  refine x_dom (fun hd10 => ?_)
  obtain ⟨f10, e10, a10, w10⟩ := k_cl32 (hs := n6) hN w6 0 0
  rw [show k_iv (k_as 32 (k_of k_e0s) 0 0) = (-2013) from tf_428] at e10
  have z10 := z6.st a10
  refine x_callsH (As := [.ref h.2, .int 32, .int 0, .int 0]) (rest := []) 39667 2232185 dL_trees_41 mi_L_call rfl ml_L_182 rfl rfl (Nat.le_of_ble_eq_true rfl) ⟨by decide, by decide⟩ (by omega) (by omega) (c_L_call N _ _ _ _ _ _ e10) (fun n10 => ?_)
  refine x_toX (st' := [.int (-2013)]) rfl ?_
  clear hd10 e10 a10 w6 z6
  refine x_sipush (-2013) (by decide) dL_trees_44 ?_
  refine x_icmp_ne_n 487 dL_trees_47 (by decide) (by decide) ?_
  refine x_aload_n 0 dL_trees_50 rfl rfl ?_
  refine x_bipush 18 (by decide) dL_trees_51 ?_
  refine x_iconst 0 (by decide) dL_trees_53 ?_
  refine x_iconst 0 (by decide) dL_trees_54 ?_
  refine x_dom (fun hd12 => ?_)
  obtain ⟨f12, e12, a12, w12⟩ := k_cl18 (hs := n10) hN w10 0 0
  rw [show k_iv (k_as 18 (k_of k_e0s) 0 0) = (-2013) from ((congrArg k_iv (qq_nx_of tf_429 0)).trans tf_430)] at e12
  have z12 := z10.st a12
  refine x_callsH (As := [.ref h.2, .int 18, .int 0, .int 0]) (rest := []) 39633 2230270 dL_trees_55 mi_L_call rfl ml_L_182 rfl rfl (Nat.le_of_ble_eq_true rfl) ⟨by decide, by decide⟩ (by omega) (by omega) (c_L_call N _ _ _ _ _ _ e12) (fun n12 => ?_)
  refine x_toX (st' := [.int (-2013)]) rfl ?_
  clear hd12 e12 a12 w10 z10
  refine x_sipush (-2013) (by decide) dL_trees_58 ?_
  refine x_icmp_ne_n 487 dL_trees_61 (by decide) (by decide) ?_
  refine x_aload_n 0 dL_trees_64 rfl rfl ?_
  refine x_iconst 2 (by decide) dL_trees_65 ?_
  refine x_iconst 0 (by decide) dL_trees_66 ?_
  refine x_iconst 0 (by decide) dL_trees_67 ?_
  refine x_dom (fun hd14 => ?_)
  obtain ⟨f14, e14, a14, w14⟩ := k_rf2_1 hN (by omega) w12 hd14 (z12.le w12 hd14) (a := 0) (b := 0) tf_431
  have z14 := z12.st a14
  refine x_callsH (As := [.ref h.2, .int 2, .int 0, .int 0]) (rest := []) 39599 2228355 dL_trees_68 mi_L_call rfl ml_L_182 rfl rfl (Nat.le_of_ble_eq_true rfl) ⟨by decide, by decide⟩ (by omega) (by omega) (c_L_call N _ _ _ _ _ _ e14) (fun n14 => ?_)
  refine x_toX (st' := [.int (-2013)]) rfl ?_
  clear hd14 e14 a14 w12 z12
  refine x_sipush (-2013) (by decide) dL_trees_71 ?_
  refine x_icmp_ne_n 487 dL_trees_74 (by decide) (by decide) ?_
  refine x_aload_n 0 dL_trees_77 rfl rfl ?_
  refine x_iconst 3 (by decide) dL_trees_78 ?_
  refine x_iconst 0 (by decide) dL_trees_79 ?_
  refine x_iconst 0 (by decide) dL_trees_80 ?_
  refine x_dom (fun hd16 => ?_)
  obtain ⟨f16, e16, a16, w16⟩ := k_rf3_1 hN (by omega) w14 hd16 (z14.le w14 hd16) (a := 0) (b := 0) tf_432
  have z16 := z14.st a16
  refine x_callsH (As := [.ref h.2, .int 3, .int 0, .int 0]) (rest := []) 39565 2226440 dL_trees_81 mi_L_call rfl ml_L_182 rfl rfl (Nat.le_of_ble_eq_true rfl) ⟨by decide, by decide⟩ (by omega) (by omega) (c_L_call N _ _ _ _ _ _ e16) (fun n16 => ?_)
  refine x_toX (st' := [.int (-2013)]) rfl ?_
  clear hd16 e16 a16 w14 z14
  refine x_sipush (-2013) (by decide) dL_trees_84 ?_
  refine x_icmp_ne_n 487 dL_trees_87 (by decide) (by decide) ?_
  refine x_aload_n 0 dL_trees_90 rfl rfl ?_
  refine x_bipush 9 (by decide) dL_trees_91 ?_
  obtain ⟨q17, St17, bf17, h17, g17⟩ := w16.ci
  have e17 : F_X5_pagesFor N f16 h.2 9 = some (.inl 0) := (q_pg hN h17 g17 9).trans (congrArg some tf_433)
  obtain ⟨fs18, hfs18⟩ := w16.ob
  refine x_callv (As := [.int 9]) (rest := []) 39564 2226434 dL_trees_93 mi_X5_pagesFor ml_L_78 rfl rfl (Nat.le_of_ble_eq_true rfl) ⟨by decide, by decide⟩ (by omega) (by omega) hfs18 rfl (c_X5_pagesFor N _ _ _ _ _ e17) (x_K.some ?_) x_KX.none
  refine x_toX (st' := [.int 0]) rfl ?_
  clear h17 g17 e17 hfs18
  refine x_if_ne_n 487 dL_trees_96 (by decide) (by decide) ?_
  refine x_aload_n 0 dL_trees_99 rfl rfl ?_
  obtain ⟨f19, e19, a19, w19⟩ := w16.q1 (G := fun f1 => (k_men (k_of k_e0s), f1)) (fun q St bf h => q_mean hN h w16.gd.1)
  rw [qq_mn_of tf_429, tf_434] at e19
  have z19 := z16.st a19
  obtain ⟨fs20, hfs20⟩ := w16.ob
  refine x_callv (As := []) (rest := []) 39564 2226434 dL_trees_100 mi_X5_meanPages ml_L_205 rfl rfl (Nat.le_of_ble_eq_true rfl) ⟨by decide, by decide⟩ (by omega) (by omega) hfs20 rfl (c_X5_meanPages N _ _ _ _ e19) (x_K.some ?_) x_KX.none
  refine x_toX (st' := [.double (0 : UInt64)]) rfl ?_
  clear e19 a19 hfs20 w16 z16
  refine x_dconst0 dL_trees_103 ?_
  refine x_dcmp dL_trees_104 ?_
  refine x_toX (st' := [.int 0]) (by rw [tf_435]) ?_
  refine x_if_ne_n 487 dL_trees_105 (by decide) (by decide) ?_
  refine x_aload_n 0 dL_trees_108 rfl rfl ?_
  obtain ⟨q21, St21, bf21, h21, g21⟩ := w19.ci
  have e21 : F_X5_overflowShare N f19 h.2 = some (0 : UInt64) := (q_share hN h21 g21).trans (congrArg some tf_436)
  obtain ⟨fs22, hfs22⟩ := w19.ob
  refine x_callv (As := []) (rest := []) 39564 2226434 dL_trees_109 mi_X5_overflowShare ml_L_209 rfl rfl (Nat.le_of_ble_eq_true rfl) ⟨by decide, by decide⟩ (by omega) (by omega) hfs22 rfl (c_X5_overflowShare N _ _ _ _ e21) (x_K.some ?_) x_KX.none
  clear h21 g21 e21 hfs22
  refine x_dconst0 dL_trees_112 ?_
  refine x_dcmp dL_trees_113 ?_
  refine x_toX (st' := [.int 0]) (by rw [tf_435]) ?_
  refine x_if_ne_n 487 dL_trees_114 (by decide) (by decide) ?_
  refine x_aload_n 0 dL_trees_117 rfl rfl ?_
  obtain ⟨f23, e23, a23, w23⟩ := w19.q1 (G := fun f1 => (nI (k_wst (k_of k_e0s)), f1)) (fun q St bf h => q_worst hN h w19.gd.1)
  rw [qq_ws_of tf_429, tf_437] at e23
  have z23 := z19.st a23
  obtain ⟨fs24, hfs24⟩ := w19.ob
  refine x_callv (As := []) (rest := []) 39564 2226434 dL_trees_118 mi_X5_worstPages ml_L_212 rfl rfl (Nat.le_of_ble_eq_true rfl) ⟨by decide, by decide⟩ (by omega) (by omega) hfs24 rfl (c_X5_worstPages N _ _ _ _ e23) (x_K.some ?_) x_KX.none
  refine x_toX (st' := [.int 0]) rfl ?_
  clear e23 a23 hfs24 w19 z19
  refine x_if_ne_n 487 dL_trees_121 (by decide) (by decide) ?_
  refine x_aload_n 0 dL_trees_124 rfl rfl ?_
  refine x_bipush 50 (by decide) dL_trees_125 ?_
  obtain ⟨f25, e25, a25, w25⟩ := w23.q1 (G := fun f1 => qm (qa_lb (k_of k_e0s) 50) f1) (fun q St bf h => q_lb hN h w23.gd.1 50)
  rw [qq_lb_of tf_429 50, tf_438] at e25
  replace e25 : F_X5_leavesIfBuilt N f23 h.2 50 = some (.inl (0, f25)) := e25
  have z25 := z23.st a25
  obtain ⟨fs26, hfs26⟩ := w23.ob
  refine x_callv (As := [.int 50]) (rest := []) 39563 2226428 dL_trees_127 mi_X5_leavesIfBuilt ml_L_133 rfl rfl (Nat.le_of_ble_eq_true rfl) ⟨by decide, by decide⟩ (by omega) (by omega) hfs26 rfl (c_X5_leavesIfBuilt N _ _ _ _ _ e25) (x_K.some ?_) x_KX.none
  refine x_toX (st' := [.int 0]) rfl ?_
  clear e25 a25 hfs26 w23 z23
  refine x_if_ne_n 487 dL_trees_130 (by decide) (by decide) ?_
  refine x_aload_n 0 dL_trees_133 rfl rfl ?_
  refine x_callsQ (As := [.ref h.2]) (rest := []) 33703 1896976 dL_trees_134 mi_L_refused rfl ml_L_215 rfl rfl (Nat.le_of_ble_eq_true rfl) ⟨by decide, by decide⟩ (by omega) (by omega) (c_refused (f0 := _) hN (by omega) (f25, n16) w25 z25) (fun v27 f27 n27 hq27 => ?_)
  obtain ⟨rfl, w27, z27⟩ := hq27
  refine x_toX (st' := [.int 1]) rfl ?_
  clear w25 z25
  refine x_if_eq_n 487 dL_trees_137 (by decide) (by decide) ?_
  refine x_aload_n 0 dL_trees_140 rfl rfl ?_
  refine x_bipush 10 (by decide) dL_trees_141 ?_
  refine x_iconst 1 (by decide) dL_trees_143 ?_
  refine x_dom (fun hd28 => ?_)
  obtain ⟨f28, m28, e28, a28, w28⟩ := k_dd5 hN (by omega) w27 hd28 (z27.le w27 hd28) (a := 10) (b := 1) (v := 3) (S' := (k_of L_122)) tf_439 (k_eqb_sp tf_440)
  have z28 := z27.st a28
  replace w28 : k_wd h.2 (h.2 + 70) 1 (k_of L_122) [(k_of k_e0s)] (fun _ => none) [] f28 := w28
  obtain ⟨fs29, hfs29⟩ := w27.ob
  refine x_callv (As := [.int 10, .int 1]) (rest := []) 33669 1895061 dL_trees_144 mi_X5_insert ml_L_47 rfl rfl (Nat.le_of_ble_eq_true rfl) ⟨by decide, by decide⟩ (by omega) (by omega) hfs29 rfl (c_X5_insert N _ _ _ _ _ e28) (x_K.some ?_) x_KX.none
  refine x_toX (st' := [.int 3]) rfl ?_
  clear hd28 e28 a28 hfs29 w27 z27
  refine x_iconst 3 (by decide) dL_trees_147 ?_
  refine x_icmp_ne_n 487 dL_trees_148 (by decide) (by decide) ?_
  refine x_aload_n 0 dL_trees_151 rfl rfl ?_
  refine x_iconst 1 (by decide) dL_trees_152 ?_
  refine x_iconst 1 (by decide) dL_trees_153 ?_
  refine x_iconst 0 (by decide) dL_trees_154 ?_
  refine x_iconst 0 (by decide) dL_trees_155 ?_
  refine x_iconst 1 (by decide) dL_trees_156 ?_
  refine x_iconst 0 (by decide) dL_trees_157 ?_
  refine x_callsQ (As := [.ref h.2, .int 1, .int 1, .int 0, .int 0, .int 1, .int 0]) (rest := []) 33567 1889316 dL_trees_158 mi_L_is rfl ml_L_219 rfl rfl (Nat.le_of_ble_eq_true rfl) ⟨by decide, by decide⟩ (by omega) (by omega) (c_is hN (f28, m28) w28 z28 tf_441 tf_442 tf_443 tf_444 tf_445 tf_446) (fun v30 f30 n30 hq30 => ?_)
  obtain ⟨rfl, w30, z30⟩ := hq30
  refine x_toX (st' := [.int 1]) rfl ?_
  clear w28 z28
  refine x_if_eq_n 487 dL_trees_161 (by decide) (by decide) ?_
  refine x_aload_n 0 dL_trees_164 rfl rfl ?_
  refine x_bipush 20 (by decide) dL_trees_165 ?_
  refine x_iconst 2 (by decide) dL_trees_167 ?_
  refine x_dom (fun hd31 => ?_)
  obtain ⟨f31, m31, e31, a31, w31⟩ := k_dd5 hN (by omega) w30 hd31 (z30.le w30 hd31) (a := 20) (b := 2) (v := 1) (S' := (k_of L_123)) tf_447 (k_eqb_sp tf_448)
  have z31 := z30.st a31
  replace w31 : k_wd h.2 (h.2 + 70) 2 (k_of L_123) [(k_of k_e0s), (k_of L_122)] (fun _ => none) [] f31 := w31
  obtain ⟨fs32, hfs32⟩ := w30.ob
  refine x_callv (As := [.int 20, .int 2]) (rest := []) 33533 1887401 dL_trees_168 mi_X5_insert ml_L_47 rfl rfl (Nat.le_of_ble_eq_true rfl) ⟨by decide, by decide⟩ (by omega) (by omega) hfs32 rfl (c_X5_insert N _ _ _ _ _ e31) (x_K.some ?_) x_KX.none
  refine x_toX (st' := [.int 1]) rfl ?_
  clear hd31 e31 a31 hfs32 w30 z30
  refine x_iconst 1 (by decide) dL_trees_171 ?_
  refine x_icmp_ne_n 487 dL_trees_172 (by decide) (by decide) ?_
  refine x_aload_n 0 dL_trees_175 rfl rfl ?_
  refine x_bipush 30 (by decide) dL_trees_176 ?_
  refine x_iconst 3 (by decide) dL_trees_178 ?_
  refine x_dom (fun hd33 => ?_)
  obtain ⟨f33, m33, e33, a33, w33⟩ := k_dd5 hN (by omega) w31 hd33 (z31.le w31 hd33) (a := 30) (b := 3) (v := 1) (S' := (k_of L_124)) tf_449 (k_eqb_sp tf_450)
  have z33 := z31.st a33
  replace w33 : k_wd h.2 (h.2 + 70) 3 (k_of L_124) [(k_of k_e0s), (k_of L_122), (k_of L_123)] (fun _ => none) [] f33 := w33
  obtain ⟨fs34, hfs34⟩ := w31.ob
  refine x_callv (As := [.int 30, .int 3]) (rest := []) 33499 1885486 dL_trees_179 mi_X5_insert ml_L_47 rfl rfl (Nat.le_of_ble_eq_true rfl) ⟨by decide, by decide⟩ (by omega) (by omega) hfs34 rfl (c_X5_insert N _ _ _ _ _ e33) (x_K.some ?_) x_KX.none
  refine x_toX (st' := [.int 1]) rfl ?_
  clear hd33 e33 a33 hfs34 w31 z31
  refine x_iconst 1 (by decide) dL_trees_182 ?_
  refine x_icmp_ne_n 487 dL_trees_183 (by decide) (by decide) ?_
  refine x_aload_n 0 dL_trees_186 rfl rfl ?_
  refine x_iconst 5 (by decide) dL_trees_187 ?_
  refine x_iconst 4 (by decide) dL_trees_188 ?_
  refine x_dom (fun hd35 => ?_)
  obtain ⟨f35, m35, e35, a35, w35⟩ := k_dd5 hN (by omega) w33 hd35 (z33.le w33 hd35) (a := 5) (b := 4) (v := 1) (S' := (k_of L_125)) tf_451 (k_eqb_sp tf_452)
  have z35 := z33.st a35
  replace w35 : k_wd h.2 (h.2 + 70) 4 (k_of L_125) [(k_of k_e0s), (k_of L_122), (k_of L_123), (k_of L_124)] (fun _ => none) [] f35 := w35
  obtain ⟨fs36, hfs36⟩ := w33.ob
  refine x_callv (As := [.int 5, .int 4]) (rest := []) 33465 1883571 dL_trees_189 mi_X5_insert ml_L_47 rfl rfl (Nat.le_of_ble_eq_true rfl) ⟨by decide, by decide⟩ (by omega) (by omega) hfs36 rfl (c_X5_insert N _ _ _ _ _ e35) (x_K.some ?_) x_KX.none
  refine x_toX (st' := [.int 1]) rfl ?_
  clear hd35 e35 a35 hfs36 w33 z33
  refine x_iconst 1 (by decide) dL_trees_192 ?_
  refine x_icmp_ne_n 487 dL_trees_193 (by decide) (by decide) ?_
  refine x_aload_n 0 dL_trees_196 rfl rfl ?_
  refine x_iconst 0 (by decide) dL_trees_197 ?_
  refine x_iconst 0 (by decide) dL_trees_198 ?_
  obtain ⟨q37, St37, bf37, h37, g37⟩ := w35.ci
  have e37 : F_X5_leafKey N f35 h.2 0 0 = some (.inl 5) := (q_lk hN h37 g37 0 0).trans (congrArg some tf_453)
  obtain ⟨fs38, hfs38⟩ := w35.ob
  refine x_callv (As := [.int 0, .int 0]) (rest := []) 33463 1883559 dL_trees_199 mi_X5_leafKey ml_L_112 rfl rfl (Nat.le_of_ble_eq_true rfl) ⟨by decide, by decide⟩ (by omega) (by omega) hfs38 rfl (c_X5_leafKey N _ _ _ _ _ _ e37) (x_K.some ?_) x_KX.none
  refine x_toX (st' := [.int 5]) rfl ?_
  clear h37 g37 e37 hfs38
  refine x_iconst 5 (by decide) dL_trees_202 ?_
  refine x_icmp_ne_n 487 dL_trees_203 (by decide) (by decide) ?_
  refine x_aload_n 0 dL_trees_206 rfl rfl ?_
  refine x_iconst 5 (by decide) dL_trees_207 ?_
  obtain ⟨q39, St39, bf39, h39, g39⟩ := w35.ci
  have e39 : F_X5_pagesFor N f35 h.2 5 = some (.inl 1) := (q_pg hN h39 g39 5).trans (congrArg some tf_454)
  obtain ⟨fs40, hfs40⟩ := w35.ob
  refine x_callv (As := [.int 5]) (rest := []) 33462 1883553 dL_trees_208 mi_X5_pagesFor ml_L_78 rfl rfl (Nat.le_of_ble_eq_true rfl) ⟨by decide, by decide⟩ (by omega) (by omega) hfs40 rfl (c_X5_pagesFor N _ _ _ _ _ e39) (x_K.some ?_) x_KX.none
  refine x_toX (st' := [.int 1]) rfl ?_
  clear h39 g39 e39 hfs40
  refine x_iconst 1 (by decide) dL_trees_211 ?_
  refine x_icmp_ne_n 487 dL_trees_212 (by decide) (by decide) ?_
  refine x_aload_n 0 dL_trees_215 rfl rfl ?_
  refine x_bipush 6 (by decide) dL_trees_216 ?_
  obtain ⟨q41, St41, bf41, h41, g41⟩ := w35.ci
  have e41 : F_X5_pagesFor N f35 h.2 6 = some (.inl 1) := (q_pg hN h41 g41 6).trans (congrArg some tf_455)
  obtain ⟨fs42, hfs42⟩ := w35.ob
  refine x_callv (As := [.int 6]) (rest := []) 33461 1883547 dL_trees_218 mi_X5_pagesFor ml_L_78 rfl rfl (Nat.le_of_ble_eq_true rfl) ⟨by decide, by decide⟩ (by omega) (by omega) hfs42 rfl (c_X5_pagesFor N _ _ _ _ _ e41) (x_K.some ?_) x_KX.none
  refine x_toX (st' := [.int 1]) rfl ?_
  clear h41 g41 e41 hfs42
  refine x_iconst 1 (by decide) dL_trees_221 ?_
  refine x_icmp_ne_n 487 dL_trees_222 (by decide) (by decide) ?_
  refine x_aload_n 0 dL_trees_225 rfl rfl ?_
  refine x_bipush 40 (by decide) dL_trees_226 ?_
  refine x_iconst 5 (by decide) dL_trees_228 ?_
  refine x_dom (fun hd43 => ?_)
  obtain ⟨f43, m43, e43, a43, w43⟩ := k_dd5 hN (by omega) w35 hd43 (z35.le w35 hd43) (a := 40) (b := 5) (v := 3) (S' := (k_of L_126)) tf_456 (k_eqb_sp tf_457)
  have z43 := z35.st a43
  replace w43 : k_wd h.2 (h.2 + 70) 5 (k_of L_126) [(k_of k_e0s), (k_of L_122), (k_of L_123), (k_of L_124), (k_of L_125)] (fun _ => none) [] f43 := w43
  obtain ⟨fs44, hfs44⟩ := w35.ob
  refine x_callv (As := [.int 40, .int 5]) (rest := []) 33427 1881632 dL_trees_229 mi_X5_insert ml_L_47 rfl rfl (Nat.le_of_ble_eq_true rfl) ⟨by decide, by decide⟩ (by omega) (by omega) hfs44 rfl (c_X5_insert N _ _ _ _ _ e43) (x_K.some ?_) x_KX.none
  refine x_toX (st' := [.int 3]) rfl ?_
  clear hd43 e43 a43 hfs44 w35 z35
  refine x_iconst 3 (by decide) dL_trees_232 ?_
  refine x_icmp_ne_n 487 dL_trees_233 (by decide) (by decide) ?_
  refine x_aload_n 0 dL_trees_236 rfl rfl ?_
  refine x_iconst 5 (by decide) dL_trees_237 ?_
  refine x_iconst 2 (by decide) dL_trees_238 ?_
  refine x_iconst 1 (by decide) dL_trees_239 ?_
  refine x_iconst 0 (by decide) dL_trees_240 ?_
  refine x_iconst 4 (by decide) dL_trees_241 ?_
  refine x_iconst 0 (by decide) dL_trees_242 ?_
  refine x_callsQ (As := [.ref h.2, .int 5, .int 2, .int 1, .int 0, .int 4, .int 0]) (rest := []) 33325 1875887 dL_trees_243 mi_L_is rfl ml_L_219 rfl rfl (Nat.le_of_ble_eq_true rfl) ⟨by decide, by decide⟩ (by omega) (by omega) (c_is hN (f43, m43) w43 z43 tf_458 tf_459 tf_460 tf_461 tf_462 tf_463) (fun v45 f45 n45 hq45 => ?_)
  obtain ⟨rfl, w45, z45⟩ := hq45
  refine x_toX (st' := [.int 1]) rfl ?_
  clear w43 z43
  refine x_if_eq_n 487 dL_trees_246 (by decide) (by decide) ?_
  refine x_aload_n 0 dL_trees_249 rfl rfl ?_
  refine x_iconst 0 (by decide) dL_trees_250 ?_
  obtain ⟨q46, St46, bf46, h46, g46⟩ := w45.ci
  have e46 : F_X5_nodesAt N f45 h.2 0 = some (.inl 1) := (q_nd hN h46 g46 0).trans (congrArg some tf_464)
  obtain ⟨fs47, hfs47⟩ := w45.ob
  refine x_callv (As := [.int 0]) (rest := []) 33324 1875881 dL_trees_251 mi_X5_nodesAt ml_L_121 rfl rfl (Nat.le_of_ble_eq_true rfl) ⟨by decide, by decide⟩ (by omega) (by omega) hfs47 rfl (c_X5_nodesAt N _ _ _ _ _ e46) (x_K.some ?_) x_KX.none
  refine x_toX (st' := [.int 1]) rfl ?_
  clear h46 g46 e46 hfs47
  refine x_iconst 1 (by decide) dL_trees_254 ?_
  refine x_icmp_ne_n 487 dL_trees_255 (by decide) (by decide) ?_
  refine x_aload_n 0 dL_trees_258 rfl rfl ?_
  refine x_iconst 0 (by decide) dL_trees_259 ?_
  refine x_iconst 0 (by decide) dL_trees_260 ?_
  obtain ⟨q48, St48, bf48, h48, g48⟩ := w45.ci
  have e48 : F_X5_childrenOf N f45 h.2 0 0 = some (.inl 2) := (q_ch hN h48 g48 0 0).trans (congrArg some tf_465)
  obtain ⟨fs49, hfs49⟩ := w45.ob
  refine x_callv (As := [.int 0, .int 0]) (rest := []) 33322 1875869 dL_trees_261 mi_X5_childrenOf ml_L_124 rfl rfl (Nat.le_of_ble_eq_true rfl) ⟨by decide, by decide⟩ (by omega) (by omega) hfs49 rfl (c_X5_childrenOf N _ _ _ _ _ _ e48) (x_K.some ?_) x_KX.none
  refine x_toX (st' := [.int 2]) rfl ?_
  clear h48 g48 e48 hfs49
  refine x_iconst 2 (by decide) dL_trees_264 ?_
  refine x_icmp_ne_n 487 dL_trees_265 (by decide) (by decide) ?_
  refine x_aload_n 0 dL_trees_268 rfl rfl ?_
  refine x_iconst 0 (by decide) dL_trees_269 ?_
  refine x_iconst 0 (by decide) dL_trees_270 ?_
  obtain ⟨q50, St50, bf50, h50, g50⟩ := w45.ci
  have e50 : F_X5_boundOf N f45 h.2 0 0 = some (.inl 0) := (q_bd hN h50 g50 0 0).trans (congrArg some tf_466)
  obtain ⟨fs51, hfs51⟩ := w45.ob
  refine x_callv (As := [.int 0, .int 0]) (rest := []) 33320 1875857 dL_trees_271 mi_X5_boundOf ml_L_127 rfl rfl (Nat.le_of_ble_eq_true rfl) ⟨by decide, by decide⟩ (by omega) (by omega) hfs51 rfl (c_X5_boundOf N _ _ _ _ _ _ e50) (x_K.some ?_) x_KX.none
  refine x_toX (st' := [.int 0]) rfl ?_
  clear h50 g50 e50 hfs51
  refine x_if_ne_n 487 dL_trees_274 (by decide) (by decide) ?_
  refine x_aload_n 0 dL_trees_277 rfl rfl ?_
  refine x_bipush 39 (by decide) dL_trees_278 ?_
  obtain ⟨q52, St52, bf52, h52, g52⟩ := w45.ci
  have e52 : F_X5_leafFor N f45 h.2 39 = some (.inl 0) := (q_lf hN h52 g52 39).trans (congrArg some tf_467)
  obtain ⟨fs53, hfs53⟩ := w45.ob
  refine x_callv (As := [.int 39]) (rest := []) 33318 1875845 dL_trees_280 mi_X5_leafFor ml_L_130 rfl rfl (Nat.le_of_ble_eq_true rfl) ⟨by decide, by decide⟩ (by omega) (by omega) hfs53 rfl (c_X5_leafFor N _ _ _ _ _ e52) (x_K.some ?_) x_KX.none
  refine x_toX (st' := [.int 0]) rfl ?_
  clear h52 g52 e52 hfs53
  refine x_if_ne_n 487 dL_trees_283 (by decide) (by decide) ?_
  refine x_aload_n 0 dL_trees_286 rfl rfl ?_
  refine x_bipush 40 (by decide) dL_trees_287 ?_
  obtain ⟨q54, St54, bf54, h54, g54⟩ := w45.ci
  have e54 : F_X5_leafFor N f45 h.2 40 = some (.inl 1) := (q_lf hN h54 g54 40).trans (congrArg some tf_468)
  obtain ⟨fs55, hfs55⟩ := w45.ob
  refine x_callv (As := [.int 40]) (rest := []) 33316 1875833 dL_trees_289 mi_X5_leafFor ml_L_130 rfl rfl (Nat.le_of_ble_eq_true rfl) ⟨by decide, by decide⟩ (by omega) (by omega) hfs55 rfl (c_X5_leafFor N _ _ _ _ _ e54) (x_K.some ?_) x_KX.none
  refine x_toX (st' := [.int 1]) rfl ?_
  clear h54 g54 e54 hfs55
  refine x_iconst 1 (by decide) dL_trees_292 ?_
  refine x_icmp_ne_n 487 dL_trees_293 (by decide) (by decide) ?_
  refine x_aload_n 0 dL_trees_296 rfl rfl ?_
  refine x_iconst 0 (by decide) dL_trees_297 ?_
  obtain ⟨q56, St56, bf56, h56, g56⟩ := w45.ci
  have e56 : F_X5_leafFor N f45 h.2 0 = some (.inl 0) := (q_lf hN h56 g56 0).trans (congrArg some tf_469)
  obtain ⟨fs57, hfs57⟩ := w45.ob
  refine x_callv (As := [.int 0]) (rest := []) 33314 1875821 dL_trees_298 mi_X5_leafFor ml_L_130 rfl rfl (Nat.le_of_ble_eq_true rfl) ⟨by decide, by decide⟩ (by omega) (by omega) hfs57 rfl (c_X5_leafFor N _ _ _ _ _ e56) (x_K.some ?_) x_KX.none
  refine x_toX (st' := [.int 0]) rfl ?_
  clear h56 g56 e56 hfs57
  refine x_if_ne_n 487 dL_trees_301 (by decide) (by decide) ?_
  refine x_aload_n 0 dL_trees_304 rfl rfl ?_
  refine x_bipush 7 (by decide) dL_trees_305 ?_
  refine x_bipush 6 (by decide) dL_trees_307 ?_
  refine x_dom (fun hd58 => ?_)
  obtain ⟨f58, m58, e58, a58, w58⟩ := k_dd5 hN (by omega) w45 hd58 (z45.le w45 hd58) (a := 7) (b := 6) (v := 2) (S' := (k_of L_127)) tf_470 (k_eqb_sp tf_471)
  have z58 := z45.st a58
  replace w58 : k_wd h.2 (h.2 + 70) 6 (k_of L_127) [(k_of k_e0s), (k_of L_122), (k_of L_123), (k_of L_124), (k_of L_125), (k_of L_126)] (fun _ => none) [] f58 := w58
  obtain ⟨fs59, hfs59⟩ := w45.ob
  refine x_callv (As := [.int 7, .int 6]) (rest := []) 33280 1873906 dL_trees_309 mi_X5_insert ml_L_47 rfl rfl (Nat.le_of_ble_eq_true rfl) ⟨by decide, by decide⟩ (by omega) (by omega) hfs59 rfl (c_X5_insert N _ _ _ _ _ e58) (x_K.some ?_) x_KX.none
  refine x_toX (st' := [.int 2]) rfl ?_
  clear hd58 e58 a58 hfs59 w45 z45
  refine x_iconst 2 (by decide) dL_trees_312 ?_
  refine x_icmp_ne_n 487 dL_trees_313 (by decide) (by decide) ?_
  refine x_aload_n 0 dL_trees_316 rfl rfl ?_
  refine x_bipush 6 (by decide) dL_trees_317 ?_
  refine x_iconst 2 (by decide) dL_trees_319 ?_
  refine x_iconst 1 (by decide) dL_trees_320 ?_
  refine x_iconst 0 (by decide) dL_trees_321 ?_
  refine x_iconst 4 (by decide) dL_trees_322 ?_
  refine x_iconst 1 (by decide) dL_trees_323 ?_
  refine x_callsQ (As := [.ref h.2, .int 6, .int 2, .int 1, .int 0, .int 4, .int 1]) (rest := []) 33178 1868161 dL_trees_324 mi_L_is rfl ml_L_219 rfl rfl (Nat.le_of_ble_eq_true rfl) ⟨by decide, by decide⟩ (by omega) (by omega) (c_is hN (f58, m58) w58 z58 tf_472 tf_473 tf_474 tf_475 tf_476 tf_477) (fun v60 f60 n60 hq60 => ?_)
  obtain ⟨rfl, w60, z60⟩ := hq60
  refine x_toX (st' := [.int 1]) rfl ?_
  clear w58 z58
  refine x_if_eq_n 487 dL_trees_327 (by decide) (by decide) ?_
  refine x_aload_n 0 dL_trees_330 rfl rfl ?_
  refine x_bipush 7 (by decide) dL_trees_331 ?_
  obtain ⟨q61, St61, bf61, h61, g61⟩ := w60.ci
  have e61 : F_X5_pagesFor N f60 h.2 7 = some (.inl 3) := (q_pg hN h61 g61 7).trans (congrArg some tf_478)
  obtain ⟨fs62, hfs62⟩ := w60.ob
  refine x_callv (As := [.int 7]) (rest := []) 33177 1868155 dL_trees_333 mi_X5_pagesFor ml_L_78 rfl rfl (Nat.le_of_ble_eq_true rfl) ⟨by decide, by decide⟩ (by omega) (by omega) hfs62 rfl (c_X5_pagesFor N _ _ _ _ _ e61) (x_K.some ?_) x_KX.none
  refine x_toX (st' := [.int 3]) rfl ?_
  clear h61 g61 e61 hfs62
  refine x_iconst 3 (by decide) dL_trees_336 ?_
  refine x_icmp_ne_n 487 dL_trees_337 (by decide) (by decide) ?_
  refine x_aload_n 0 dL_trees_340 rfl rfl ?_
  refine x_bipush 10 (by decide) dL_trees_341 ?_
  obtain ⟨q63, St63, bf63, h63, g63⟩ := w60.ci
  have e63 : F_X5_pagesFor N f60 h.2 10 = some (.inl 2) := (q_pg hN h63 g63 10).trans (congrArg some tf_479)
  obtain ⟨fs64, hfs64⟩ := w60.ob
  refine x_callv (As := [.int 10]) (rest := []) 33176 1868149 dL_trees_343 mi_X5_pagesFor ml_L_78 rfl rfl (Nat.le_of_ble_eq_true rfl) ⟨by decide, by decide⟩ (by omega) (by omega) hfs64 rfl (c_X5_pagesFor N _ _ _ _ _ e63) (x_K.some ?_) x_KX.none
  refine x_toX (st' := [.int 2]) rfl ?_
  clear h63 g63 e63 hfs64
  refine x_iconst 2 (by decide) dL_trees_346 ?_
  refine x_icmp_ne_n 487 dL_trees_347 (by decide) (by decide) ?_
  refine x_aload_n 0 dL_trees_350 rfl rfl ?_
  refine x_bipush 6 (by decide) dL_trees_351 ?_
  obtain ⟨q65, St65, bf65, h65, g65⟩ := w60.ci
  have e65 : F_X5_pagesFor N f60 h.2 6 = some (.inl 3) := (q_pg hN h65 g65 6).trans (congrArg some tf_480)
  obtain ⟨fs66, hfs66⟩ := w60.ob
  refine x_callv (As := [.int 6]) (rest := []) 33175 1868143 dL_trees_353 mi_X5_pagesFor ml_L_78 rfl rfl (Nat.le_of_ble_eq_true rfl) ⟨by decide, by decide⟩ (by omega) (by omega) hfs66 rfl (c_X5_pagesFor N _ _ _ _ _ e65) (x_K.some ?_) x_KX.none
  refine x_toX (st' := [.int 3]) rfl ?_
  clear h65 g65 e65 hfs66
  refine x_iconst 3 (by decide) dL_trees_356 ?_
  refine x_icmp_ne_n 487 dL_trees_357 (by decide) (by decide) ?_
  refine x_aload_n 0 dL_trees_360 rfl rfl ?_
  refine x_bipush 45 (by decide) dL_trees_361 ?_
  obtain ⟨q67, St67, bf67, h67, g67⟩ := w60.ci
  have e67 : F_X5_pagesFor N f60 h.2 45 = some (.inl 2) := (q_pg hN h67 g67 45).trans (congrArg some tf_481)
  obtain ⟨fs68, hfs68⟩ := w60.ob
  refine x_callv (As := [.int 45]) (rest := []) 33174 1868137 dL_trees_363 mi_X5_pagesFor ml_L_78 rfl rfl (Nat.le_of_ble_eq_true rfl) ⟨by decide, by decide⟩ (by omega) (by omega) hfs68 rfl (c_X5_pagesFor N _ _ _ _ _ e67) (x_K.some ?_) x_KX.none
  refine x_toX (st' := [.int 2]) rfl ?_
  clear h67 g67 e67 hfs68
  refine x_iconst 2 (by decide) dL_trees_366 ?_
  refine x_icmp_ne_n 487 dL_trees_367 (by decide) (by decide) ?_
  refine x_aload_n 0 dL_trees_370 rfl rfl ?_
  obtain ⟨q69, St69, bf69, h69, g69⟩ := w60.ci
  have e69 : F_X5_overflowShare N f60 h.2 = some (4595172819793696085 : UInt64) := (q_share hN h69 g69).trans (congrArg some tf_482)
  obtain ⟨fs70, hfs70⟩ := w60.ob
  refine x_callv (As := []) (rest := []) 33174 1868137 dL_trees_371 mi_X5_overflowShare ml_L_209 rfl rfl (Nat.le_of_ble_eq_true rfl) ⟨by decide, by decide⟩ (by omega) (by omega) hfs70 rfl (c_X5_overflowShare N _ _ _ _ e69) (x_K.some ?_) x_KX.none
  clear h69 g69 e69 hfs70
  refine x_ldc2d kc_L_223 dL_trees_374 ?_
  refine x_dcmp dL_trees_377 ?_
  refine x_toX (st' := [.int 0]) (by rw [tf_483]) ?_
  refine x_if_ne_n 487 dL_trees_378 (by decide) (by decide) ?_
  refine x_aload_n 0 dL_trees_381 rfl rfl ?_
  refine x_bipush 7 (by decide) dL_trees_382 ?_
  refine x_bipush 9 (by decide) dL_trees_384 ?_
  refine x_dom (fun hd71 => ?_)
  obtain ⟨f71, m71, e71, a71, w71⟩ := k_dd5 hN (by omega) w60 hd71 (z60.le w60 hd71) (a := 7) (b := 9) (v := 0) (S' := (k_of L_128)) tf_484 (k_eqb_sp tf_485)
  have z71 := z60.st a71
  replace w71 : k_wd h.2 (h.2 + 70) 7 (k_of L_128) [(k_of L_122), (k_of L_123), (k_of L_124), (k_of L_125), (k_of L_126), (k_of L_127)] (fun _ => none) [] f71 := w71
  obtain ⟨fs72, hfs72⟩ := w60.ob
  refine x_callv (As := [.int 7, .int 9]) (rest := []) 33140 1866222 dL_trees_386 mi_X5_insert ml_L_47 rfl rfl (Nat.le_of_ble_eq_true rfl) ⟨by decide, by decide⟩ (by omega) (by omega) hfs72 rfl (c_X5_insert N _ _ _ _ _ e71) (x_K.some ?_) x_KX.none
  refine x_toX (st' := [.int 0]) rfl ?_
  clear hd71 e71 a71 hfs72 w60 z60
  refine x_if_ne_n 487 dL_trees_389 (by decide) (by decide) ?_
  refine x_aload_n 0 dL_trees_392 rfl rfl ?_
  refine x_bipush 7 (by decide) dL_trees_393 ?_
  obtain ⟨q73, St73, bf73, h73, g73⟩ := w71.ci
  have e73 : F_X5_valueOf N f71 h.2 7 = some (.inl 9) := (q_val hN h73 g73 7).trans (congrArg some tf_486)
  obtain ⟨fs74, hfs74⟩ := w71.ob
  refine x_callv (As := [.int 7]) (rest := []) 33138 1866210 dL_trees_395 mi_X5_valueOf ml_L_75 rfl rfl (Nat.le_of_ble_eq_true rfl) ⟨by decide, by decide⟩ (by omega) (by omega) hfs74 rfl (c_X5_valueOf N _ _ _ _ _ e73) (x_K.some ?_) x_KX.none
  refine x_toX (st' := [.int 9]) rfl ?_
  clear h73 g73 e73 hfs74
  refine x_bipush 9 (by decide) dL_trees_398 ?_
  refine x_icmp_ne_n 487 dL_trees_400 (by decide) (by decide) ?_
  refine x_aload_n 0 dL_trees_403 rfl rfl ?_
  refine x_bipush 35 (by decide) dL_trees_404 ?_
  refine x_iconst 1 (by decide) dL_trees_406 ?_
  refine x_dom (fun hd75 => ?_)
  obtain ⟨f75, m75, e75, a75, w75⟩ := k_dd5 hN (by omega) w71 hd75 (z71.le w71 hd75) (a := 35) (b := 1) (v := 2) (S' := (k_of L_129)) tf_487 (k_eqb_sp tf_488)
  have z75 := z71.st a75
  replace w75 : k_wd h.2 (h.2 + 70) 8 (k_of L_129) [(k_of L_123), (k_of L_124), (k_of L_125), (k_of L_126), (k_of L_127), (k_of L_128)] (fun _ => none) [] f75 := w75
  obtain ⟨fs76, hfs76⟩ := w71.ob
  refine x_callv (As := [.int 35, .int 1]) (rest := []) 33104 1864295 dL_trees_407 mi_X5_insert ml_L_47 rfl rfl (Nat.le_of_ble_eq_true rfl) ⟨by decide, by decide⟩ (by omega) (by omega) hfs76 rfl (c_X5_insert N _ _ _ _ _ e75) (x_K.some ?_) x_KX.none
  refine x_toX (st' := [.int 2]) rfl ?_
  clear hd75 e75 a75 hfs76 w71 z71
  refine x_iconst 2 (by decide) dL_trees_410 ?_
  refine x_icmp_ne_n 487 dL_trees_411 (by decide) (by decide) ?_
  refine x_aload_n 0 dL_trees_414 rfl rfl ?_
  refine x_bipush 50 (by decide) dL_trees_415 ?_
  refine x_iconst 1 (by decide) dL_trees_417 ?_
  refine x_dom (fun hd77 => ?_)
  obtain ⟨f77, m77, e77, a77, w77⟩ := k_dd5 hN (by omega) w75 hd77 (z75.le w75 hd77) (a := 50) (b := 1) (v := 1) (S' := (k_of L_130)) tf_489 (k_eqb_sp tf_490)
  have z77 := z75.st a77
  replace w77 : k_wd h.2 (h.2 + 70) 9 (k_of L_130) [(k_of L_124), (k_of L_125), (k_of L_126), (k_of L_127), (k_of L_128), (k_of L_129)] (fun _ => none) [] f77 := w77
  obtain ⟨fs78, hfs78⟩ := w75.ob
  refine x_callv (As := [.int 50, .int 1]) (rest := []) 33070 1862380 dL_trees_418 mi_X5_insert ml_L_47 rfl rfl (Nat.le_of_ble_eq_true rfl) ⟨by decide, by decide⟩ (by omega) (by omega) hfs78 rfl (c_X5_insert N _ _ _ _ _ e77) (x_K.some ?_) x_KX.none
  refine x_toX (st' := [.int 1]) rfl ?_
  clear hd77 e77 a77 hfs78 w75 z75
  refine x_iconst 1 (by decide) dL_trees_421 ?_
  refine x_icmp_ne_n 487 dL_trees_422 (by decide) (by decide) ?_
  refine x_aload_n 0 dL_trees_425 rfl rfl ?_
  refine x_bipush 20 (by decide) dL_trees_426 ?_
  refine x_dom (fun hd79 => ?_)
  obtain ⟨f79, m79, e79, a79, w79⟩ := k_dd6 hN (by omega) w77 hd79 (z77.le w77 hd79) (a := 20) (b := 0) (v := 2) (S' := (k_of L_131)) tf_491 (k_eqb_sp tf_492)
  have z79 := z77.st a79
  replace w79 : k_wd h.2 (h.2 + 70) 10 (k_of L_131) [(k_of L_125), (k_of L_126), (k_of L_127), (k_of L_128), (k_of L_129), (k_of L_130)] (fun _ => none) [] f79 := w79
  obtain ⟨fs80, hfs80⟩ := w77.ob
  refine x_callv (As := [.int 20]) (rest := []) 33037 1860471 dL_trees_428 mi_X5_erase ml_L_50 rfl rfl (Nat.le_of_ble_eq_true rfl) ⟨by decide, by decide⟩ (by omega) (by omega) hfs80 rfl (c_X5_erase N _ _ _ _ e79) (x_K.some ?_) x_KX.none
  refine x_toX (st' := [.int 2]) rfl ?_
  clear hd79 e79 a79 hfs80 w77 z77
  refine x_iconst 2 (by decide) dL_trees_431 ?_
  refine x_icmp_ne_n 487 dL_trees_432 (by decide) (by decide) ?_
  refine x_aload_n 0 dL_trees_435 rfl rfl ?_
  refine x_bipush 7 (by decide) dL_trees_436 ?_
  refine x_iconst 2 (by decide) dL_trees_438 ?_
  refine x_iconst 1 (by decide) dL_trees_439 ?_
  refine x_iconst 0 (by decide) dL_trees_440 ?_
  refine x_iconst 3 (by decide) dL_trees_441 ?_
  refine x_iconst 2 (by decide) dL_trees_442 ?_
  refine x_callsQ (As := [.ref h.2, .int 7, .int 2, .int 1, .int 0, .int 3, .int 2]) (rest := []) 32935 1854726 dL_trees_443 mi_L_is rfl ml_L_219 rfl rfl (Nat.le_of_ble_eq_true rfl) ⟨by decide, by decide⟩ (by omega) (by omega) (c_is hN (f79, m79) w79 z79 tf_493 tf_494 tf_495 tf_496 tf_497 tf_498) (fun v81 f81 n81 hq81 => ?_)
  obtain ⟨rfl, w81, z81⟩ := hq81
  refine x_toX (st' := [.int 1]) rfl ?_
  clear w79 z79
  refine x_if_eq_n 487 dL_trees_446 (by decide) (by decide) ?_
  refine x_aload_n 0 dL_trees_449 rfl rfl ?_
  refine x_bipush 6 (by decide) dL_trees_450 ?_
  refine x_bipush 20 (by decide) dL_trees_452 ?_
  refine x_iconst 0 (by decide) dL_trees_454 ?_
  refine x_dom (fun hd83 => ?_)
  obtain ⟨f83, e83, a83, w83⟩ := k_rf6_1 hN (by omega) w81 hd83 (z81.le w81 hd83) (a := 20) (b := 0) tf_499
  have z83 := z81.st a83
  refine x_callsH (As := [.ref h.2, .int 6, .int 20, .int 0]) (rest := []) 32901 1852811 dL_trees_455 mi_L_call rfl ml_L_182 rfl rfl (Nat.le_of_ble_eq_true rfl) ⟨by decide, by decide⟩ (by omega) (by omega) (c_L_call N _ _ _ _ _ _ e83) (fun n83 => ?_)
  refine x_toX (st' := [.int (-2013)]) rfl ?_
  clear hd83 e83 a83 w81 z81
  refine x_sipush (-2013) (by decide) dL_trees_458 ?_
  refine x_icmp_ne_n 487 dL_trees_461 (by decide) (by decide) ?_
  refine x_aload_n 0 dL_trees_464 rfl rfl ?_
  refine x_bipush 25 (by decide) dL_trees_465 ?_
  refine x_bipush 7 (by decide) dL_trees_467 ?_
  refine x_dom (fun hd84 => ?_)
  obtain ⟨f84, m84, e84, a84, w84⟩ := k_dd5 hN (by omega) w83 hd84 (z83.le w83 hd84) (a := 25) (b := 7) (v := 1) (S' := (k_of L_132)) tf_500 (k_eqb_sp tf_501)
  have z84 := z83.st a84
  replace w84 : k_wd h.2 (h.2 + 70) 11 (k_of L_132) [(k_of L_126), (k_of L_127), (k_of L_128), (k_of L_129), (k_of L_130), (k_of L_131)] (fun _ => none) [] f84 := w84
  obtain ⟨fs85, hfs85⟩ := w83.ob
  refine x_callv (As := [.int 25, .int 7]) (rest := []) 32867 1850896 dL_trees_469 mi_X5_insert ml_L_47 rfl rfl (Nat.le_of_ble_eq_true rfl) ⟨by decide, by decide⟩ (by omega) (by omega) hfs85 rfl (c_X5_insert N _ _ _ _ _ e84) (x_K.some ?_) x_KX.none
  refine x_toX (st' := [.int 1]) rfl ?_
  clear hd84 e84 a84 hfs85 w83 z83
  refine x_iconst 1 (by decide) dL_trees_472 ?_
  refine x_icmp_ne_n 487 dL_trees_473 (by decide) (by decide) ?_
  refine x_aload_n 0 dL_trees_476 rfl rfl ?_
  refine x_iconst 0 (by decide) dL_trees_477 ?_
  refine x_iconst 2 (by decide) dL_trees_478 ?_
  obtain ⟨q86, St86, bf86, h86, g86⟩ := w84.ci
  have e86 : F_X5_leafKey N f84 h.2 0 2 = some (.inl 25) := (q_lk hN h86 g86 0 2).trans (congrArg some tf_502)
  obtain ⟨fs87, hfs87⟩ := w84.ob
  refine x_callv (As := [.int 0, .int 2]) (rest := []) 32865 1850884 dL_trees_479 mi_X5_leafKey ml_L_112 rfl rfl (Nat.le_of_ble_eq_true rfl) ⟨by decide, by decide⟩ (by omega) (by omega) hfs87 rfl (c_X5_leafKey N _ _ _ _ _ _ e86) (x_K.some ?_) x_KX.none
  refine x_toX (st' := [.int 25]) rfl ?_
  clear h86 g86 e86 hfs87
  refine x_bipush 25 (by decide) dL_trees_482 ?_
  refine x_icmp_eq_y 489 dL_trees_484 (by decide) (by decide) ?_
  refine x_aload_n 0 dL_trees_489 rfl rfl ?_
  refine x_callsQ (As := [.ref h.2]) (rest := []) 27005 1521432 dL_trees_490 mi_L_refused rfl ml_L_215 rfl rfl (Nat.le_of_ble_eq_true rfl) ⟨by decide, by decide⟩ (by omega) (by omega) (c_refused (f0 := _) hN (by omega) (f84, m84) w84 z84) (fun v88 f88 n88 hq88 => ?_)
  obtain ⟨rfl, w88, z88⟩ := hq88
  refine x_toX (st' := [.int 1]) rfl ?_
  clear w84 z84
  refine x_if_eq_n 896 dL_trees_493 (by decide) (by decide) ?_
  refine x_aload_n 0 dL_trees_496 rfl rfl ?_
  refine x_bipush 60 (by decide) dL_trees_497 ?_
  refine x_iconst 1 (by decide) dL_trees_499 ?_
  refine x_dom (fun hd89 => ?_)
  obtain ⟨f89, m89, e89, a89, w89⟩ := k_dd5 hN (by omega) w88 hd89 (z88.le w88 hd89) (a := 60) (b := 1) (v := 1) (S' := (k_of L_133)) tf_503 (k_eqb_sp tf_504)
  have z89 := z88.st a89
  replace w89 : k_wd h.2 (h.2 + 70) 12 (k_of L_133) [(k_of L_127), (k_of L_128), (k_of L_129), (k_of L_130), (k_of L_131), (k_of L_132)] (fun _ => none) [] f89 := w89
  obtain ⟨fs90, hfs90⟩ := w88.ob
  refine x_callv (As := [.int 60, .int 1]) (rest := []) 26971 1519517 dL_trees_500 mi_X5_insert ml_L_47 rfl rfl (Nat.le_of_ble_eq_true rfl) ⟨by decide, by decide⟩ (by omega) (by omega) hfs90 rfl (c_X5_insert N _ _ _ _ _ e89) (x_K.some ?_) x_KX.none
  refine x_toX (st' := [.int 1]) rfl ?_
  clear hd89 e89 a89 hfs90 w88 z88
  refine x_iconst 1 (by decide) dL_trees_503 ?_
  refine x_icmp_ne_n 896 dL_trees_504 (by decide) (by decide) ?_
  refine x_aload_n 0 dL_trees_507 rfl rfl ?_
  refine x_bipush 70 (by decide) dL_trees_508 ?_
  refine x_iconst 1 (by decide) dL_trees_510 ?_
  refine x_dom (fun hd91 => ?_)
  obtain ⟨f91, m91, e91, a91, w91⟩ := k_dd5 hN (by omega) w89 hd91 (z89.le w89 hd91) (a := 70) (b := 1) (v := 1) (S' := (k_of L_134)) tf_505 (k_eqb_sp tf_506)
  have z91 := z89.st a91
  replace w91 : k_wd h.2 (h.2 + 70) 13 (k_of L_134) [(k_of L_128), (k_of L_129), (k_of L_130), (k_of L_131), (k_of L_132), (k_of L_133)] (fun _ => none) [] f91 := w91
  obtain ⟨fs92, hfs92⟩ := w89.ob
  refine x_callv (As := [.int 70, .int 1]) (rest := []) 26937 1517602 dL_trees_511 mi_X5_insert ml_L_47 rfl rfl (Nat.le_of_ble_eq_true rfl) ⟨by decide, by decide⟩ (by omega) (by omega) hfs92 rfl (c_X5_insert N _ _ _ _ _ e91) (x_K.some ?_) x_KX.none
  refine x_toX (st' := [.int 1]) rfl ?_
  clear hd91 e91 a91 hfs92 w89 z89
  refine x_iconst 1 (by decide) dL_trees_514 ?_
  refine x_icmp_ne_n 896 dL_trees_515 (by decide) (by decide) ?_
  refine x_aload_n 0 dL_trees_518 rfl rfl ?_
  refine x_bipush 65 (by decide) dL_trees_519 ?_
  refine x_iconst 2 (by decide) dL_trees_521 ?_
  refine x_dom (fun hd93 => ?_)
  obtain ⟨f93, m93, e93, a93, w93⟩ := k_dd5 hN (by omega) w91 hd93 (z91.le w91 hd93) (a := 65) (b := 2) (v := 2) (S' := (k_of L_135)) tf_507 (k_eqb_sp tf_508)
  have z93 := z91.st a93
  replace w93 : k_wd h.2 (h.2 + 70) 14 (k_of L_135) [(k_of L_129), (k_of L_130), (k_of L_131), (k_of L_132), (k_of L_133), (k_of L_134)] (fun _ => none) [] f93 := w93
  obtain ⟨fs94, hfs94⟩ := w91.ob
  refine x_callv (As := [.int 65, .int 2]) (rest := []) 26903 1515687 dL_trees_522 mi_X5_insert ml_L_47 rfl rfl (Nat.le_of_ble_eq_true rfl) ⟨by decide, by decide⟩ (by omega) (by omega) hfs94 rfl (c_X5_insert N _ _ _ _ _ e93) (x_K.some ?_) x_KX.none
  refine x_toX (st' := [.int 2]) rfl ?_
  clear hd93 e93 a93 hfs94 w91 z91
  refine x_iconst 2 (by decide) dL_trees_525 ?_
  refine x_icmp_ne_n 896 dL_trees_526 (by decide) (by decide) ?_
  refine x_aload_n 0 dL_trees_529 rfl rfl ?_
  refine x_bipush 80 (by decide) dL_trees_530 ?_
  refine x_iconst 1 (by decide) dL_trees_532 ?_
  refine x_dom (fun hd95 => ?_)
  obtain ⟨f95, m95, e95, a95, w95⟩ := k_dd5 hN (by omega) w93 hd95 (z93.le w93 hd95) (a := 80) (b := 1) (v := 3) (S' := (k_of L_136)) tf_509 (k_eqb_sp tf_510)
  have z95 := z93.st a95
  replace w95 : k_wd h.2 (h.2 + 70) 15 (k_of L_136) [(k_of L_130), (k_of L_131), (k_of L_132), (k_of L_133), (k_of L_134), (k_of L_135)] (fun _ => none) [] f95 := w95
  obtain ⟨fs96, hfs96⟩ := w93.ob
  refine x_callv (As := [.int 80, .int 1]) (rest := []) 26869 1513772 dL_trees_533 mi_X5_insert ml_L_47 rfl rfl (Nat.le_of_ble_eq_true rfl) ⟨by decide, by decide⟩ (by omega) (by omega) hfs96 rfl (c_X5_insert N _ _ _ _ _ e95) (x_K.some ?_) x_KX.none
  refine x_toX (st' := [.int 3]) rfl ?_
  clear hd95 e95 a95 hfs96 w93 z93
  refine x_iconst 3 (by decide) dL_trees_536 ?_
  refine x_icmp_ne_n 896 dL_trees_537 (by decide) (by decide) ?_
  refine x_aload_n 0 dL_trees_540 rfl rfl ?_
  refine x_bipush 12 (by decide) dL_trees_541 ?_
  refine x_iconst 3 (by decide) dL_trees_543 ?_
  refine x_iconst 1 (by decide) dL_trees_544 ?_
  refine x_iconst 1 (by decide) dL_trees_545 ?_
  refine x_iconst 4 (by decide) dL_trees_546 ?_
  refine x_iconst 1 (by decide) dL_trees_547 ?_
  refine x_callsQ (As := [.ref h.2, .int 12, .int 3, .int 1, .int 1, .int 4, .int 1]) (rest := []) 26767 1508027 dL_trees_548 mi_L_is rfl ml_L_219 rfl rfl (Nat.le_of_ble_eq_true rfl) ⟨by decide, by decide⟩ (by omega) (by omega) (c_is hN (f95, m95) w95 z95 tf_511 tf_512 tf_513 tf_514 tf_515 tf_516) (fun v97 f97 n97 hq97 => ?_)
  obtain ⟨rfl, w97, z97⟩ := hq97
  refine x_toX (st' := [.int 1]) rfl ?_
  clear w95 z95
  refine x_if_eq_n 896 dL_trees_551 (by decide) (by decide) ?_
  refine x_aload_n 0 dL_trees_554 rfl rfl ?_
  refine x_iconst 0 (by decide) dL_trees_555 ?_
  refine x_iconst 0 (by decide) dL_trees_556 ?_
  obtain ⟨q98, St98, bf98, h98, g98⟩ := w97.ci
  have e98 : F_X5_childrenOf N f97 h.2 0 0 = some (.inl 3) := (q_ch hN h98 g98 0 0).trans (congrArg some tf_517)
  obtain ⟨fs99, hfs99⟩ := w97.ob
  refine x_callv (As := [.int 0, .int 0]) (rest := []) 26765 1508015 dL_trees_557 mi_X5_childrenOf ml_L_124 rfl rfl (Nat.le_of_ble_eq_true rfl) ⟨by decide, by decide⟩ (by omega) (by omega) hfs99 rfl (c_X5_childrenOf N _ _ _ _ _ _ e98) (x_K.some ?_) x_KX.none
  refine x_toX (st' := [.int 3]) rfl ?_
  clear h98 g98 e98 hfs99
  refine x_iconst 3 (by decide) dL_trees_560 ?_
  refine x_icmp_ne_n 896 dL_trees_561 (by decide) (by decide) ?_
  refine x_aload_n 0 dL_trees_564 rfl rfl ?_
  refine x_bipush 81 (by decide) dL_trees_565 ?_
  refine x_iconst 0 (by decide) dL_trees_567 ?_
  refine x_dom (fun hd100 => ?_)
  obtain ⟨f100, m100, e100, a100, w100⟩ := k_dd5 hN (by omega) w97 hd100 (z97.le w97 hd100) (a := 81) (b := 0) (v := 1) (S' := (k_of L_137)) tf_518 (k_eqb_sp tf_519)
  have z100 := z97.st a100
  replace w100 : k_wd h.2 (h.2 + 70) 16 (k_of L_137) [(k_of L_131), (k_of L_132), (k_of L_133), (k_of L_134), (k_of L_135), (k_of L_136)] (fun _ => none) [] f100 := w100
  obtain ⟨fs101, hfs101⟩ := w97.ob
  refine x_callv (As := [.int 81, .int 0]) (rest := []) 26731 1506100 dL_trees_568 mi_X5_insert ml_L_47 rfl rfl (Nat.le_of_ble_eq_true rfl) ⟨by decide, by decide⟩ (by omega) (by omega) hfs101 rfl (c_X5_insert N _ _ _ _ _ e100) (x_K.some ?_) x_KX.none
  refine x_toX (st' := [.int 1]) rfl ?_
  clear hd100 e100 a100 hfs101 w97 z97
  refine x_iconst 1 (by decide) dL_trees_571 ?_
  refine x_icmp_ne_n 896 dL_trees_572 (by decide) (by decide) ?_
  refine x_aload_n 0 dL_trees_575 rfl rfl ?_
  refine x_bipush 82 (by decide) dL_trees_576 ?_
  refine x_iconst 0 (by decide) dL_trees_578 ?_
  refine x_dom (fun hd102 => ?_)
  obtain ⟨f102, m102, e102, a102, w102⟩ := k_dd5 hN (by omega) w100 hd102 (z100.le w100 hd102) (a := 82) (b := 0) (v := 1) (S' := (k_of L_138)) tf_520 (k_eqb_sp tf_521)
  have z102 := z100.st a102
  replace w102 : k_wd h.2 (h.2 + 70) 17 (k_of L_138) [(k_of L_132), (k_of L_133), (k_of L_134), (k_of L_135), (k_of L_136), (k_of L_137)] (fun _ => none) [] f102 := w102
  obtain ⟨fs103, hfs103⟩ := w100.ob
  refine x_callv (As := [.int 82, .int 0]) (rest := []) 26697 1504185 dL_trees_579 mi_X5_insert ml_L_47 rfl rfl (Nat.le_of_ble_eq_true rfl) ⟨by decide, by decide⟩ (by omega) (by omega) hfs103 rfl (c_X5_insert N _ _ _ _ _ e102) (x_K.some ?_) x_KX.none
  refine x_toX (st' := [.int 1]) rfl ?_
  clear hd102 e102 a102 hfs103 w100 z100
  refine x_iconst 1 (by decide) dL_trees_582 ?_
  refine x_icmp_ne_n 896 dL_trees_583 (by decide) (by decide) ?_
  refine x_aload_n 0 dL_trees_586 rfl rfl ?_
  refine x_bipush 83 (by decide) dL_trees_587 ?_
  refine x_iconst 0 (by decide) dL_trees_589 ?_
  refine x_dom (fun hd104 => ?_)
  obtain ⟨f104, m104, e104, a104, w104⟩ := k_dd5 hN (by omega) w102 hd104 (z102.le w102 hd104) (a := 83) (b := 0) (v := 1) (S' := (k_of L_139)) tf_522 (k_eqb_sp tf_523)
  have z104 := z102.st a104
  replace w104 : k_wd h.2 (h.2 + 70) 18 (k_of L_139) [(k_of L_133), (k_of L_134), (k_of L_135), (k_of L_136), (k_of L_137), (k_of L_138)] (fun _ => none) [] f104 := w104
  obtain ⟨fs105, hfs105⟩ := w102.ob
  refine x_callv (As := [.int 83, .int 0]) (rest := []) 26663 1502270 dL_trees_590 mi_X5_insert ml_L_47 rfl rfl (Nat.le_of_ble_eq_true rfl) ⟨by decide, by decide⟩ (by omega) (by omega) hfs105 rfl (c_X5_insert N _ _ _ _ _ e104) (x_K.some ?_) x_KX.none
  refine x_toX (st' := [.int 1]) rfl ?_
  clear hd104 e104 a104 hfs105 w102 z102
  refine x_iconst 1 (by decide) dL_trees_593 ?_
  refine x_icmp_ne_n 896 dL_trees_594 (by decide) (by decide) ?_
  refine x_aload_n 0 dL_trees_597 rfl rfl ?_
  refine x_bipush 90 (by decide) dL_trees_598 ?_
  refine x_bipush 8 (by decide) dL_trees_600 ?_
  refine x_dom (fun hd106 => ?_)
  obtain ⟨f106, m106, e106, a106, w106⟩ := k_dd5 hN (by omega) w104 hd106 (z104.le w104 hd106) (a := 90) (b := 8) (v := 3) (S' := (k_of L_140)) tf_524 (k_eqb_sp tf_525)
  have z106 := z104.st a106
  replace w106 : k_wd h.2 (h.2 + 70) 19 (k_of L_140) [(k_of L_134), (k_of L_135), (k_of L_136), (k_of L_137), (k_of L_138), (k_of L_139)] (fun _ => none) [] f106 := w106
  obtain ⟨fs107, hfs107⟩ := w104.ob
  refine x_callv (As := [.int 90, .int 8]) (rest := []) 26629 1500355 dL_trees_602 mi_X5_insert ml_L_47 rfl rfl (Nat.le_of_ble_eq_true rfl) ⟨by decide, by decide⟩ (by omega) (by omega) hfs107 rfl (c_X5_insert N _ _ _ _ _ e106) (x_K.some ?_) x_KX.none
  refine x_toX (st' := [.int 3]) rfl ?_
  clear hd106 e106 a106 hfs107 w104 z104
  refine x_iconst 3 (by decide) dL_trees_605 ?_
  refine x_icmp_ne_n 896 dL_trees_606 (by decide) (by decide) ?_
  refine x_aload_n 0 dL_trees_609 rfl rfl ?_
  refine x_bipush 16 (by decide) dL_trees_610 ?_
  refine x_iconst 4 (by decide) dL_trees_612 ?_
  refine x_iconst 2 (by decide) dL_trees_613 ?_
  refine x_iconst 3 (by decide) dL_trees_614 ?_
  refine x_iconst 1 (by decide) dL_trees_615 ?_
  refine x_iconst 0 (by decide) dL_trees_616 ?_
  refine x_callsQ (As := [.ref h.2, .int 16, .int 4, .int 2, .int 3, .int 1, .int 0]) (rest := []) 26527 1494610 dL_trees_617 mi_L_is rfl ml_L_219 rfl rfl (Nat.le_of_ble_eq_true rfl) ⟨by decide, by decide⟩ (by omega) (by omega) (c_is hN (f106, m106) w106 z106 tf_526 tf_527 tf_528 tf_529 tf_530 tf_531) (fun v108 f108 n108 hq108 => ?_)
  obtain ⟨rfl, w108, z108⟩ := hq108
  refine x_toX (st' := [.int 1]) rfl ?_
  clear w106 z106
  refine x_if_eq_n 896 dL_trees_620 (by decide) (by decide) ?_
  refine x_aload_n 0 dL_trees_623 rfl rfl ?_
  refine x_iconst 0 (by decide) dL_trees_624 ?_
  obtain ⟨q109, St109, bf109, h109, g109⟩ := w108.ci
  have e109 : F_X5_nodesAt N f108 h.2 0 = some (.inl 2) := (q_nd hN h109 g109 0).trans (congrArg some tf_532)
  obtain ⟨fs110, hfs110⟩ := w108.ob
  refine x_callv (As := [.int 0]) (rest := []) 26526 1494604 dL_trees_625 mi_X5_nodesAt ml_L_121 rfl rfl (Nat.le_of_ble_eq_true rfl) ⟨by decide, by decide⟩ (by omega) (by omega) hfs110 rfl (c_X5_nodesAt N _ _ _ _ _ e109) (x_K.some ?_) x_KX.none
  refine x_toX (st' := [.int 2]) rfl ?_
  clear h109 g109 e109 hfs110
  refine x_iconst 2 (by decide) dL_trees_628 ?_
  refine x_icmp_ne_n 896 dL_trees_629 (by decide) (by decide) ?_
  refine x_aload_n 0 dL_trees_632 rfl rfl ?_
  refine x_iconst 1 (by decide) dL_trees_633 ?_
  obtain ⟨q111, St111, bf111, h111, g111⟩ := w108.ci
  have e111 : F_X5_nodesAt N f108 h.2 1 = some (.inl 1) := (q_nd hN h111 g111 1).trans (congrArg some tf_533)
  obtain ⟨fs112, hfs112⟩ := w108.ob
  refine x_callv (As := [.int 1]) (rest := []) 26525 1494598 dL_trees_634 mi_X5_nodesAt ml_L_121 rfl rfl (Nat.le_of_ble_eq_true rfl) ⟨by decide, by decide⟩ (by omega) (by omega) hfs112 rfl (c_X5_nodesAt N _ _ _ _ _ e111) (x_K.some ?_) x_KX.none
  refine x_toX (st' := [.int 1]) rfl ?_
  clear h111 g111 e111 hfs112
  refine x_iconst 1 (by decide) dL_trees_637 ?_
  refine x_icmp_ne_n 896 dL_trees_638 (by decide) (by decide) ?_
  refine x_aload_n 0 dL_trees_641 rfl rfl ?_
  refine x_iconst 0 (by decide) dL_trees_642 ?_
  refine x_iconst 0 (by decide) dL_trees_643 ?_
  obtain ⟨q113, St113, bf113, h113, g113⟩ := w108.ci
  have e113 : F_X5_childrenOf N f108 h.2 0 0 = some (.inl 3) := (q_ch hN h113 g113 0 0).trans (congrArg some tf_534)
  obtain ⟨fs114, hfs114⟩ := w108.ob
  refine x_callv (As := [.int 0, .int 0]) (rest := []) 26523 1494586 dL_trees_644 mi_X5_childrenOf ml_L_124 rfl rfl (Nat.le_of_ble_eq_true rfl) ⟨by decide, by decide⟩ (by omega) (by omega) hfs114 rfl (c_X5_childrenOf N _ _ _ _ _ _ e113) (x_K.some ?_) x_KX.none
  refine x_toX (st' := [.int 3]) rfl ?_
  clear h113 g113 e113 hfs114
  refine x_iconst 3 (by decide) dL_trees_647 ?_
  refine x_icmp_ne_n 896 dL_trees_648 (by decide) (by decide) ?_
  refine x_aload_n 0 dL_trees_651 rfl rfl ?_
  refine x_iconst 0 (by decide) dL_trees_652 ?_
  refine x_iconst 1 (by decide) dL_trees_653 ?_
  obtain ⟨q115, St115, bf115, h115, g115⟩ := w108.ci
  have e115 : F_X5_childrenOf N f108 h.2 0 1 = some (.inl 1) := (q_ch hN h115 g115 0 1).trans (congrArg some tf_535)
  obtain ⟨fs116, hfs116⟩ := w108.ob
  refine x_callv (As := [.int 0, .int 1]) (rest := []) 26521 1494574 dL_trees_654 mi_X5_childrenOf ml_L_124 rfl rfl (Nat.le_of_ble_eq_true rfl) ⟨by decide, by decide⟩ (by omega) (by omega) hfs116 rfl (c_X5_childrenOf N _ _ _ _ _ _ e115) (x_K.some ?_) x_KX.none
  refine x_toX (st' := [.int 1]) rfl ?_
  clear h115 g115 e115 hfs116
  refine x_iconst 1 (by decide) dL_trees_657 ?_
  refine x_icmp_ne_n 896 dL_trees_658 (by decide) (by decide) ?_
  refine x_aload_n 0 dL_trees_661 rfl rfl ?_
  refine x_iconst 1 (by decide) dL_trees_662 ?_
  refine x_iconst 0 (by decide) dL_trees_663 ?_
  obtain ⟨q117, St117, bf117, h117, g117⟩ := w108.ci
  have e117 : F_X5_childrenOf N f108 h.2 1 0 = some (.inl 2) := (q_ch hN h117 g117 1 0).trans (congrArg some tf_536)
  obtain ⟨fs118, hfs118⟩ := w108.ob
  refine x_callv (As := [.int 1, .int 0]) (rest := []) 26519 1494562 dL_trees_664 mi_X5_childrenOf ml_L_124 rfl rfl (Nat.le_of_ble_eq_true rfl) ⟨by decide, by decide⟩ (by omega) (by omega) hfs118 rfl (c_X5_childrenOf N _ _ _ _ _ _ e117) (x_K.some ?_) x_KX.none
  refine x_toX (st' := [.int 2]) rfl ?_
  clear h117 g117 e117 hfs118
  refine x_iconst 2 (by decide) dL_trees_667 ?_
  refine x_icmp_ne_n 896 dL_trees_668 (by decide) (by decide) ?_
  refine x_aload_n 0 dL_trees_671 rfl rfl ?_
  refine x_iconst 0 (by decide) dL_trees_672 ?_
  refine x_iconst 1 (by decide) dL_trees_673 ?_
  obtain ⟨q119, St119, bf119, h119, g119⟩ := w108.ci
  have e119 : F_X5_boundOf N f108 h.2 0 1 = some (.inl 90) := (q_bd hN h119 g119 0 1).trans (congrArg some tf_537)
  obtain ⟨fs120, hfs120⟩ := w108.ob
  refine x_callv (As := [.int 0, .int 1]) (rest := []) 26517 1494550 dL_trees_674 mi_X5_boundOf ml_L_127 rfl rfl (Nat.le_of_ble_eq_true rfl) ⟨by decide, by decide⟩ (by omega) (by omega) hfs120 rfl (c_X5_boundOf N _ _ _ _ _ _ e119) (x_K.some ?_) x_KX.none
  refine x_toX (st' := [.int 90]) rfl ?_
  clear h119 g119 e119 hfs120
  refine x_bipush 90 (by decide) dL_trees_677 ?_
  refine x_icmp_ne_n 896 dL_trees_679 (by decide) (by decide) ?_
  refine x_aload_n 0 dL_trees_682 rfl rfl ?_
  refine x_iconst 1 (by decide) dL_trees_683 ?_
  refine x_iconst 0 (by decide) dL_trees_684 ?_
  obtain ⟨q121, St121, bf121, h121, g121⟩ := w108.ci
  have e121 : F_X5_boundOf N f108 h.2 1 0 = some (.inl 0) := (q_bd hN h121 g121 1 0).trans (congrArg some tf_538)
  obtain ⟨fs122, hfs122⟩ := w108.ob
  refine x_callv (As := [.int 1, .int 0]) (rest := []) 26515 1494538 dL_trees_685 mi_X5_boundOf ml_L_127 rfl rfl (Nat.le_of_ble_eq_true rfl) ⟨by decide, by decide⟩ (by omega) (by omega) hfs122 rfl (c_X5_boundOf N _ _ _ _ _ _ e121) (x_K.some ?_) x_KX.none
  refine x_toX (st' := [.int 0]) rfl ?_
  clear h121 g121 e121 hfs122
  refine x_if_ne_n 896 dL_trees_688 (by decide) (by decide) ?_
  refine x_aload_n 0 dL_trees_691 rfl rfl ?_
  refine x_bipush 89 (by decide) dL_trees_692 ?_
  obtain ⟨q123, St123, bf123, h123, g123⟩ := w108.ci
  have e123 : F_X5_leafFor N f108 h.2 89 = some (.inl 2) := (q_lf hN h123 g123 89).trans (congrArg some tf_539)
  obtain ⟨fs124, hfs124⟩ := w108.ob
  refine x_callv (As := [.int 89]) (rest := []) 26513 1494526 dL_trees_694 mi_X5_leafFor ml_L_130 rfl rfl (Nat.le_of_ble_eq_true rfl) ⟨by decide, by decide⟩ (by omega) (by omega) hfs124 rfl (c_X5_leafFor N _ _ _ _ _ e123) (x_K.some ?_) x_KX.none
  refine x_toX (st' := [.int 2]) rfl ?_
  clear h123 g123 e123 hfs124
  refine x_iconst 2 (by decide) dL_trees_697 ?_
  refine x_icmp_ne_n 896 dL_trees_698 (by decide) (by decide) ?_
  refine x_aload_n 0 dL_trees_701 rfl rfl ?_
  refine x_iconst 1 (by decide) dL_trees_702 ?_
  refine x_iconst 1 (by decide) dL_trees_703 ?_
  refine x_dom (fun hd125 => ?_)
  obtain ⟨f125, m125, e125, a125, w125⟩ := k_dd5 hN (by omega) w108 hd125 (z108.le w108 hd125) (a := 1) (b := 1) (v := 2) (S' := (k_of L_141)) tf_540 (k_eqb_sp tf_541)
  have z125 := z108.st a125
  replace w125 : k_wd h.2 (h.2 + 70) 20 (k_of L_141) [(k_of L_135), (k_of L_136), (k_of L_137), (k_of L_138), (k_of L_139), (k_of L_140)] (fun _ => none) [] f125 := w125
  obtain ⟨fs126, hfs126⟩ := w108.ob
  refine x_callv (As := [.int 1, .int 1]) (rest := []) 26479 1492611 dL_trees_704 mi_X5_insert ml_L_47 rfl rfl (Nat.le_of_ble_eq_true rfl) ⟨by decide, by decide⟩ (by omega) (by omega) hfs126 rfl (c_X5_insert N _ _ _ _ _ e125) (x_K.some ?_) x_KX.none
  refine x_toX (st' := [.int 2]) rfl ?_
  clear hd125 e125 a125 hfs126 w108 z108
  refine x_iconst 2 (by decide) dL_trees_707 ?_
  refine x_icmp_ne_n 896 dL_trees_708 (by decide) (by decide) ?_
  refine x_aload_n 0 dL_trees_711 rfl rfl ?_
  refine x_iconst 2 (by decide) dL_trees_712 ?_
  refine x_iconst 2 (by decide) dL_trees_713 ?_
  refine x_dom (fun hd127 => ?_)
  obtain ⟨f127, m127, e127, a127, w127⟩ := k_dd5 hN (by omega) w125 hd127 (z125.le w125 hd127) (a := 2) (b := 2) (v := 2) (S' := (k_of L_142)) tf_542 (k_eqb_sp tf_543)
  have z127 := z125.st a127
  replace w127 : k_wd h.2 (h.2 + 70) 21 (k_of L_142) [(k_of L_136), (k_of L_137), (k_of L_138), (k_of L_139), (k_of L_140), (k_of L_141)] (fun _ => none) [] f127 := w127
  obtain ⟨fs128, hfs128⟩ := w125.ob
  refine x_callv (As := [.int 2, .int 2]) (rest := []) 26445 1490696 dL_trees_714 mi_X5_insert ml_L_47 rfl rfl (Nat.le_of_ble_eq_true rfl) ⟨by decide, by decide⟩ (by omega) (by omega) hfs128 rfl (c_X5_insert N _ _ _ _ _ e127) (x_K.some ?_) x_KX.none
  refine x_toX (st' := [.int 2]) rfl ?_
  clear hd127 e127 a127 hfs128 w125 z125
  refine x_iconst 2 (by decide) dL_trees_717 ?_
  refine x_icmp_ne_n 896 dL_trees_718 (by decide) (by decide) ?_
  refine x_aload_n 0 dL_trees_721 rfl rfl ?_
  refine x_iconst 3 (by decide) dL_trees_722 ?_
  refine x_iconst 3 (by decide) dL_trees_723 ?_
  refine x_dom (fun hd129 => ?_)
  obtain ⟨f129, m129, e129, a129, w129⟩ := k_dd5 hN (by omega) w127 hd129 (z127.le w127 hd129) (a := 3) (b := 3) (v := 2) (S' := (k_of L_143)) tf_544 (k_eqb_sp tf_545)
  have z129 := z127.st a129
  replace w129 : k_wd h.2 (h.2 + 70) 22 (k_of L_143) [(k_of L_137), (k_of L_138), (k_of L_139), (k_of L_140), (k_of L_141), (k_of L_142)] (fun _ => none) [] f129 := w129
  obtain ⟨fs130, hfs130⟩ := w127.ob
  refine x_callv (As := [.int 3, .int 3]) (rest := []) 26411 1488781 dL_trees_724 mi_X5_insert ml_L_47 rfl rfl (Nat.le_of_ble_eq_true rfl) ⟨by decide, by decide⟩ (by omega) (by omega) hfs130 rfl (c_X5_insert N _ _ _ _ _ e129) (x_K.some ?_) x_KX.none
  refine x_toX (st' := [.int 2]) rfl ?_
  clear hd129 e129 a129 hfs130 w127 z127
  refine x_iconst 2 (by decide) dL_trees_727 ?_
  refine x_icmp_ne_n 896 dL_trees_728 (by decide) (by decide) ?_
  refine x_aload_n 0 dL_trees_731 rfl rfl ?_
  refine x_bipush 19 (by decide) dL_trees_732 ?_
  refine x_iconst 4 (by decide) dL_trees_734 ?_
  refine x_iconst 2 (by decide) dL_trees_735 ?_
  refine x_iconst 0 (by decide) dL_trees_736 ?_
  refine x_iconst 4 (by decide) dL_trees_737 ?_
  refine x_iconst 5 (by decide) dL_trees_738 ?_
  refine x_callsQ (As := [.ref h.2, .int 19, .int 4, .int 2, .int 0, .int 4, .int 5]) (rest := []) 26309 1483036 dL_trees_739 mi_L_is rfl ml_L_219 rfl rfl (Nat.le_of_ble_eq_true rfl) ⟨by decide, by decide⟩ (by omega) (by omega) (c_is hN (f129, m129) w129 z129 tf_546 tf_547 tf_548 tf_549 tf_550 tf_551) (fun v131 f131 n131 hq131 => ?_)
  obtain ⟨rfl, w131, z131⟩ := hq131
  refine x_toX (st' := [.int 1]) rfl ?_
  clear w129 z129
  refine x_if_eq_n 896 dL_trees_742 (by decide) (by decide) ?_
  refine x_aload_n 0 dL_trees_745 rfl rfl ?_
  refine x_iconst 3 (by decide) dL_trees_746 ?_
  obtain ⟨q132, St132, bf132, h132, g132⟩ := w131.ci
  have e132 : F_X5_pagesFor N f131 h.2 3 = some (.inl 5) := (q_pg hN h132 g132 3).trans (congrArg some tf_552)
  obtain ⟨fs133, hfs133⟩ := w131.ob
  refine x_callv (As := [.int 3]) (rest := []) 26308 1483030 dL_trees_747 mi_X5_pagesFor ml_L_78 rfl rfl (Nat.le_of_ble_eq_true rfl) ⟨by decide, by decide⟩ (by omega) (by omega) hfs133 rfl (c_X5_pagesFor N _ _ _ _ _ e132) (x_K.some ?_) x_KX.none
  refine x_toX (st' := [.int 5]) rfl ?_
  clear h132 g132 e132 hfs133
  refine x_iconst 5 (by decide) dL_trees_750 ?_
  refine x_icmp_ne_n 896 dL_trees_751 (by decide) (by decide) ?_
  refine x_aload_n 0 dL_trees_754 rfl rfl ?_
  refine x_iconst 2 (by decide) dL_trees_755 ?_
  obtain ⟨q134, St134, bf134, h134, g134⟩ := w131.ci
  have e134 : F_X5_pagesFor N f131 h.2 2 = some (.inl 4) := (q_pg hN h134 g134 2).trans (congrArg some tf_553)
  obtain ⟨fs135, hfs135⟩ := w131.ob
  refine x_callv (As := [.int 2]) (rest := []) 26307 1483024 dL_trees_756 mi_X5_pagesFor ml_L_78 rfl rfl (Nat.le_of_ble_eq_true rfl) ⟨by decide, by decide⟩ (by omega) (by omega) hfs135 rfl (c_X5_pagesFor N _ _ _ _ _ e134) (x_K.some ?_) x_KX.none
  refine x_toX (st' := [.int 4]) rfl ?_
  clear h134 g134 e134 hfs135
  refine x_iconst 4 (by decide) dL_trees_759 ?_
  refine x_icmp_ne_n 896 dL_trees_760 (by decide) (by decide) ?_
  refine x_aload_n 0 dL_trees_763 rfl rfl ?_
  refine x_iconst 4 (by decide) dL_trees_764 ?_
  obtain ⟨q136, St136, bf136, h136, g136⟩ := w131.ci
  have e136 : F_X5_pagesFor N f131 h.2 4 = some (.inl 5) := (q_pg hN h136 g136 4).trans (congrArg some tf_554)
  obtain ⟨fs137, hfs137⟩ := w131.ob
  refine x_callv (As := [.int 4]) (rest := []) 26306 1483018 dL_trees_765 mi_X5_pagesFor ml_L_78 rfl rfl (Nat.le_of_ble_eq_true rfl) ⟨by decide, by decide⟩ (by omega) (by omega) hfs137 rfl (c_X5_pagesFor N _ _ _ _ _ e136) (x_K.some ?_) x_KX.none
  refine x_toX (st' := [.int 5]) rfl ?_
  clear h136 g136 e136 hfs137
  refine x_iconst 5 (by decide) dL_trees_768 ?_
  refine x_icmp_ne_n 896 dL_trees_769 (by decide) (by decide) ?_
  refine x_aload_n 0 dL_trees_772 rfl rfl ?_
  refine x_bipush 7 (by decide) dL_trees_773 ?_
  refine x_dom (fun hd138 => ?_)
  obtain ⟨f138, m138, e138, a138, w138⟩ := k_dd6 hN (by omega) w131 hd138 (z131.le w131 hd138) (a := 7) (b := 0) (v := 9) (S' := (k_of L_144)) tf_555 (k_eqb_sp tf_556)
  have z138 := z131.st a138
  replace w138 : k_wd h.2 (h.2 + 70) 23 (k_of L_144) [(k_of L_138), (k_of L_139), (k_of L_140), (k_of L_141), (k_of L_142), (k_of L_143)] (fun _ => none) [] f138 := w138
  obtain ⟨fs139, hfs139⟩ := w131.ob
  refine x_callv (As := [.int 7]) (rest := []) 26273 1481109 dL_trees_775 mi_X5_erase ml_L_50 rfl rfl (Nat.le_of_ble_eq_true rfl) ⟨by decide, by decide⟩ (by omega) (by omega) hfs139 rfl (c_X5_erase N _ _ _ _ e138) (x_K.some ?_) x_KX.none
  refine x_toX (st' := [.int 9]) rfl ?_
  clear hd138 e138 a138 hfs139 w131 z131
  refine x_bipush 9 (by decide) dL_trees_778 ?_
  refine x_icmp_ne_n 896 dL_trees_780 (by decide) (by decide) ?_
  refine x_aload_n 0 dL_trees_783 rfl rfl ?_
  refine x_bipush 18 (by decide) dL_trees_784 ?_
  refine x_iconst 4 (by decide) dL_trees_786 ?_
  refine x_iconst 2 (by decide) dL_trees_787 ?_
  refine x_iconst 0 (by decide) dL_trees_788 ?_
  refine x_iconst 4 (by decide) dL_trees_789 ?_
  refine x_iconst 4 (by decide) dL_trees_790 ?_
  refine x_callsQ (As := [.ref h.2, .int 18, .int 4, .int 2, .int 0, .int 4, .int 4]) (rest := []) 26171 1475364 dL_trees_791 mi_L_is rfl ml_L_219 rfl rfl (Nat.le_of_ble_eq_true rfl) ⟨by decide, by decide⟩ (by omega) (by omega) (c_is hN (f138, m138) w138 z138 tf_557 tf_558 tf_559 tf_560 tf_561 tf_562) (fun v140 f140 n140 hq140 => ?_)
  obtain ⟨rfl, w140, z140⟩ := hq140
  refine x_toX (st' := [.int 1]) rfl ?_
  clear w138 z138
  refine x_if_eq_n 896 dL_trees_794 (by decide) (by decide) ?_
  refine x_aload_n 0 dL_trees_797 rfl rfl ?_
  refine x_iconst 3 (by decide) dL_trees_798 ?_
  obtain ⟨q141, St141, bf141, h141, g141⟩ := w140.ci
  have e141 : F_X5_pagesFor N f140 h.2 3 = some (.inl 4) := (q_pg hN h141 g141 3).trans (congrArg some tf_563)
  obtain ⟨fs142, hfs142⟩ := w140.ob
  refine x_callv (As := [.int 3]) (rest := []) 26170 1475358 dL_trees_799 mi_X5_pagesFor ml_L_78 rfl rfl (Nat.le_of_ble_eq_true rfl) ⟨by decide, by decide⟩ (by omega) (by omega) hfs142 rfl (c_X5_pagesFor N _ _ _ _ _ e141) (x_K.some ?_) x_KX.none
  refine x_toX (st' := [.int 4]) rfl ?_
  clear h141 g141 e141 hfs142
  refine x_iconst 4 (by decide) dL_trees_802 ?_
  refine x_icmp_ne_n 896 dL_trees_803 (by decide) (by decide) ?_
  refine x_aload_n 0 dL_trees_806 rfl rfl ?_
  obtain ⟨f143, e143, a143, w143⟩ := w140.q1 (G := fun f1 => (nI (k_wst (k_of L_144)), f1)) (fun q St bf h => q_worst hN h w140.gd.1)
  rw [qq_ws_of tf_564, tf_565] at e143
  have z143 := z140.st a143
  obtain ⟨fs144, hfs144⟩ := w140.ob
  refine x_callv (As := []) (rest := []) 26170 1475358 dL_trees_807 mi_X5_worstPages ml_L_212 rfl rfl (Nat.le_of_ble_eq_true rfl) ⟨by decide, by decide⟩ (by omega) (by omega) hfs144 rfl (c_X5_worstPages N _ _ _ _ e143) (x_K.some ?_) x_KX.none
  refine x_toX (st' := [.int 4]) rfl ?_
  clear e143 a143 hfs144 w140 z140
  refine x_iconst 4 (by decide) dL_trees_810 ?_
  refine x_icmp_ne_n 896 dL_trees_811 (by decide) (by decide) ?_
  refine x_aload_n 0 dL_trees_814 rfl rfl ?_
  refine x_iconst 3 (by decide) dL_trees_815 ?_
  refine x_bipush 40 (by decide) dL_trees_816 ?_
  obtain ⟨q145, St145, bf145, h145, g145⟩ := w143.ci
  have e145 : F_X5_countByLeaves N f143 h.2 3 40 = some (.inl 7) := (q_cl hN h145 g145 3 40).trans (congrArg some tf_566)
  obtain ⟨fs146, hfs146⟩ := w143.ob
  refine x_callv (As := [.int 3, .int 40]) (rest := []) 26169 1475352 dL_trees_818 mi_X5_countByLeaves ml_L_81 rfl rfl (Nat.le_of_ble_eq_true rfl) ⟨by decide, by decide⟩ (by omega) (by omega) hfs146 rfl (c_X5_countByLeaves N _ _ _ _ _ _ e145) (x_K.some ?_) x_KX.none
  refine x_toX (st' := [.int 7]) rfl ?_
  clear h145 g145 e145 hfs146
  refine x_bipush 7 (by decide) dL_trees_821 ?_
  refine x_icmp_ne_n 896 dL_trees_823 (by decide) (by decide) ?_
  refine x_aload_n 0 dL_trees_826 rfl rfl ?_
  refine x_iconst 3 (by decide) dL_trees_827 ?_
  refine x_bipush 40 (by decide) dL_trees_828 ?_
  obtain ⟨f147, e147, a147, w147⟩ := w143.q1 (G := fun f1 => qm (qa_cn (k_of L_144) 3 40) f1) (fun q St bf h => q_cn hN h w143.gd.1 3 40)
  rw [qq_cn_of tf_564 3 40, tf_567] at e147
  replace e147 : F_X5_countByNext N f143 h.2 3 40 = some (.inl (7, f147)) := e147
  have z147 := z143.st a147
  obtain ⟨fs148, hfs148⟩ := w143.ob
  refine x_callv (As := [.int 3, .int 40]) (rest := []) 26168 1475346 dL_trees_830 mi_X5_countByNext ml_L_84 rfl rfl (Nat.le_of_ble_eq_true rfl) ⟨by decide, by decide⟩ (by omega) (by omega) hfs148 rfl (c_X5_countByNext N _ _ _ _ _ _ e147) (x_K.some ?_) x_KX.none
  refine x_toX (st' := [.int 7]) rfl ?_
  clear e147 a147 hfs148 w143 z143
  refine x_bipush 7 (by decide) dL_trees_833 ?_
  refine x_icmp_ne_n 896 dL_trees_835 (by decide) (by decide) ?_
  refine x_aload_n 0 dL_trees_838 rfl rfl ?_
  refine x_iconst 3 (by decide) dL_trees_839 ?_
  obtain ⟨f149, e149, a149, w149⟩ := w147.q1 (G := fun f1 => qm (qa_nx (k_of L_144) 3) f1) (fun q St bf h => q_nx hN h w147.gd.1 3)
  rw [qq_nx_of tf_564 3, tf_568] at e149
  replace e149 : F_X5_nextKey N f147 h.2 3 = some (.inl (5, f149)) := e149
  have z149 := z147.st a149
  obtain ⟨fs150, hfs150⟩ := w147.ob
  refine x_callv (As := [.int 3]) (rest := []) 26166 1475334 dL_trees_840 mi_X5_nextKey ml_L_87 rfl rfl (Nat.le_of_ble_eq_true rfl) ⟨by decide, by decide⟩ (by omega) (by omega) hfs150 rfl (c_X5_nextKey N _ _ _ _ _ e149) (x_K.some ?_) x_KX.none
  refine x_toX (st' := [.int 5]) rfl ?_
  clear e149 a149 hfs150 w147 z147
  refine x_iconst 5 (by decide) dL_trees_843 ?_
  refine x_icmp_ne_n 896 dL_trees_844 (by decide) (by decide) ?_
  refine x_aload_n 0 dL_trees_847 rfl rfl ?_
  refine x_bipush 40 (by decide) dL_trees_848 ?_
  obtain ⟨f151, e151, a151, w151⟩ := w149.q1 (G := fun f1 => qm (qa_nx (k_of L_144) 40) f1) (fun q St bf h => q_nx hN h w149.gd.1 40)
  rw [qq_nx_of tf_564 40, tf_569] at e151
  replace e151 : F_X5_nextKey N f149 h.2 40 = some (.inl (50, f151)) := e151
  have z151 := z149.st a151
  obtain ⟨fs152, hfs152⟩ := w149.ob
  refine x_callv (As := [.int 40]) (rest := []) 26164 1475322 dL_trees_850 mi_X5_nextKey ml_L_87 rfl rfl (Nat.le_of_ble_eq_true rfl) ⟨by decide, by decide⟩ (by omega) (by omega) hfs152 rfl (c_X5_nextKey N _ _ _ _ _ e151) (x_K.some ?_) x_KX.none
  refine x_toX (st' := [.int 50]) rfl ?_
  clear e151 a151 hfs152 w149 z149
  refine x_bipush 50 (by decide) dL_trees_853 ?_
  refine x_icmp_ne_n 896 dL_trees_855 (by decide) (by decide) ?_
  refine x_aload_n 0 dL_trees_858 rfl rfl ?_
  refine x_iconst 5 (by decide) dL_trees_859 ?_
  obtain ⟨f153, e153, a153, w153⟩ := w151.q1 (G := fun f1 => qm (qa_kb (k_of L_144) 5) f1) (fun q St bf h => q_kb hN h w151.gd.1 5)
  rw [qq_kb_of tf_564 5, tf_570] at e153
  replace e153 : F_X5_keyBefore N f151 h.2 5 = some (.inl (3, f153)) := e153
  have z153 := z151.st a153
  obtain ⟨fs154, hfs154⟩ := w151.ob
  refine x_callv (As := [.int 5]) (rest := []) 26162 1475310 dL_trees_860 mi_X5_keyBefore ml_L_90 rfl rfl (Nat.le_of_ble_eq_true rfl) ⟨by decide, by decide⟩ (by omega) (by omega) hfs154 rfl (c_X5_keyBefore N _ _ _ _ _ e153) (x_K.some ?_) x_KX.none
  refine x_toX (st' := [.int 3]) rfl ?_
  clear e153 a153 hfs154 w151 z151
  refine x_iconst 3 (by decide) dL_trees_863 ?_
  refine x_icmp_ne_n 896 dL_trees_864 (by decide) (by decide) ?_
  refine x_aload_n 0 dL_trees_867 rfl rfl ?_
  refine x_bipush 19 (by decide) dL_trees_868 ?_
  refine x_iconst 1 (by decide) dL_trees_870 ?_
  refine x_iconst 0 (by decide) dL_trees_871 ?_
  refine x_dom (fun hd156 => ?_)
  obtain ⟨f156, e156, a156, w156⟩ := k_cl19 (hs := n140) hN w153 1 0
  rw [show k_iv (k_as 19 (k_of L_144) 1 0) = (-2013) from ((congrArg k_iv (qq_kb_of tf_564 1)).trans tf_571)] at e156
  have z156 := z153.st a156
  refine x_callsH (As := [.ref h.2, .int 19, .int 1, .int 0]) (rest := []) 26128 1473395 dL_trees_872 mi_L_call rfl ml_L_182 rfl rfl (Nat.le_of_ble_eq_true rfl) ⟨by decide, by decide⟩ (by omega) (by omega) (c_L_call N _ _ _ _ _ _ e156) (fun n156 => ?_)
  refine x_toX (st' := [.int (-2013)]) rfl ?_
  clear hd156 e156 a156 w153 z153
  refine x_sipush (-2013) (by decide) dL_trees_875 ?_
  refine x_icmp_ne_n 896 dL_trees_878 (by decide) (by decide) ?_
  refine x_aload_n 0 dL_trees_881 rfl rfl ?_
  refine x_bipush 18 (by decide) dL_trees_882 ?_
  refine x_bipush 90 (by decide) dL_trees_884 ?_
  refine x_iconst 0 (by decide) dL_trees_886 ?_
  refine x_dom (fun hd158 => ?_)
  obtain ⟨f158, e158, a158, w158⟩ := k_cl18 (hs := n156) hN w156 90 0
  rw [show k_iv (k_as 18 (k_of L_144) 90 0) = (-2013) from ((congrArg k_iv (qq_nx_of tf_564 90)).trans tf_572)] at e158
  have z158 := z156.st a158
  refine x_callsH (As := [.ref h.2, .int 18, .int 90, .int 0]) (rest := []) 26094 1471480 dL_trees_887 mi_L_call rfl ml_L_182 rfl rfl (Nat.le_of_ble_eq_true rfl) ⟨by decide, by decide⟩ (by omega) (by omega) (c_L_call N _ _ _ _ _ _ e158) (fun n158 => ?_)
  refine x_toX (st' := [.int (-2013)]) rfl ?_
  clear hd158 e158 a158 w156 z156
  refine x_sipush (-2013) (by decide) dL_trees_890 ?_
  refine x_icmp_eq_y 898 dL_trees_893 (by decide) (by decide) ?_
  refine x_aload_n 0 dL_trees_898 rfl rfl ?_
  refine x_iconst 0 (by decide) dL_trees_899 ?_
  refine x_dom (fun hd160 => ?_)
  obtain ⟨f160, e160, a160, w160⟩ := k_keeps hN w158 hd160 (z158.le w158 hd160) 0
  rw [show k_kp 0 = .inl 0 by decide] at e160 w160
  replace w160 : k_wd h.2 (h.2 + 70) 23 (k_of L_144) [(k_of L_138), (k_of L_139), (k_of L_140), (k_of L_141), (k_of L_142), (k_of L_143)] (fun i => if i = k_u 0 then some (k_of L_144) else (fun _ => none) i) [] f160 := w160
  have z160 := z158.st a160
  refine x_callsH (As := [.ref h.2, .int 0]) (rest := []) 26061 1469571 dL_trees_900 mi_L_keeps rfl ml_L_185 rfl rfl (Nat.le_of_ble_eq_true rfl) ⟨by decide, by decide⟩ (by omega) (by omega) (c_L_keeps N _ _ _ _ e160) (fun n160 => ?_)
  refine x_toX (st' := [.int 0]) rfl ?_
  clear hd160 e160 a160 w158 z158
  refine x_if_ne_n 1115 dL_trees_903 (by decide) (by decide) ?_
  refine x_aload_n 0 dL_trees_906 rfl rfl ?_
  refine x_bipush 100 (by decide) dL_trees_907 ?_
  obtain ⟨f161, e161, a161, w161⟩ := w160.q1 (G := fun f1 => qm (qa_lb (k_of L_144) 100) f1) (fun q St bf h => q_lb hN h w160.gd.1 100)
  rw [qq_lb_of tf_564 100, tf_573] at e161
  replace e161 : F_X5_leavesIfBuilt N f160 h.2 100 = some (.inl (5, f161)) := e161
  have z161 := z160.st a161
  obtain ⟨fs162, hfs162⟩ := w160.ob
  refine x_callv (As := [.int 100]) (rest := []) 26060 1469565 dL_trees_909 mi_X5_leavesIfBuilt ml_L_133 rfl rfl (Nat.le_of_ble_eq_true rfl) ⟨by decide, by decide⟩ (by omega) (by omega) hfs162 rfl (c_X5_leavesIfBuilt N _ _ _ _ _ e161) (x_K.some ?_) x_KX.none
  refine x_toX (st' := [.int 5]) rfl ?_
  clear e161 a161 hfs162 w160 z160
  refine x_iconst 5 (by decide) dL_trees_912 ?_
  refine x_icmp_ne_n 1115 dL_trees_913 (by decide) (by decide) ?_
  refine x_aload_n 0 dL_trees_916 rfl rfl ?_
  refine x_bipush 100 (by decide) dL_trees_917 ?_
  obtain ⟨f163, e163, a163, w163⟩ := w161.q1 (G := fun f1 => qm (qa_ll (k_of L_144) 100) f1) (fun q St bf h => q_ll hN h w161.gd.1 100)
  rw [qq_ll_of tf_564 100, tf_574] at e163
  replace e163 : F_X5_levelsIfBuilt N f161 h.2 100 = some (.inl (2, f163)) := e163
  have z163 := z161.st a163
  obtain ⟨fs164, hfs164⟩ := w161.ob
  refine x_callv (As := [.int 100]) (rest := []) 26059 1469559 dL_trees_919 mi_X5_levelsIfBuilt ml_L_136 rfl rfl (Nat.le_of_ble_eq_true rfl) ⟨by decide, by decide⟩ (by omega) (by omega) hfs164 rfl (c_X5_levelsIfBuilt N _ _ _ _ _ e163) (x_K.some ?_) x_KX.none
  refine x_toX (st' := [.int 2]) rfl ?_
  clear e163 a163 hfs164 w161 z161
  refine x_iconst 2 (by decide) dL_trees_922 ?_
  refine x_icmp_ne_n 1115 dL_trees_923 (by decide) (by decide) ?_
  refine x_aload_n 0 dL_trees_926 rfl rfl ?_
  refine x_bipush 50 (by decide) dL_trees_927 ?_
  obtain ⟨f165, e165, a165, w165⟩ := w163.q1 (G := fun f1 => qm (qa_lb (k_of L_144) 50) f1) (fun q St bf h => q_lb hN h w163.gd.1 50)
  rw [qq_lb_of tf_564 50, tf_575] at e165
  replace e165 : F_X5_leavesIfBuilt N f163 h.2 50 = some (.inl (9, f165)) := e165
  have z165 := z163.st a165
  obtain ⟨fs166, hfs166⟩ := w163.ob
  refine x_callv (As := [.int 50]) (rest := []) 26058 1469553 dL_trees_929 mi_X5_leavesIfBuilt ml_L_133 rfl rfl (Nat.le_of_ble_eq_true rfl) ⟨by decide, by decide⟩ (by omega) (by omega) hfs166 rfl (c_X5_leavesIfBuilt N _ _ _ _ _ e165) (x_K.some ?_) x_KX.none
  refine x_toX (st' := [.int 9]) rfl ?_
  clear e165 a165 hfs166 w163 z163
  refine x_bipush 9 (by decide) dL_trees_932 ?_
  refine x_icmp_ne_n 1115 dL_trees_934 (by decide) (by decide) ?_
  refine x_aload_n 0 dL_trees_937 rfl rfl ?_
  refine x_bipush 74 (by decide) dL_trees_938 ?_
  obtain ⟨f167, e167, a167, w167⟩ := w165.q1 (G := fun f1 => qm (qa_lb (k_of L_144) 74) f1) (fun q St bf h => q_lb hN h w165.gd.1 74)
  rw [qq_lb_of tf_564 74, tf_576] at e167
  replace e167 : F_X5_leavesIfBuilt N f165 h.2 74 = some (.inl (9, f167)) := e167
  have z167 := z165.st a167
  obtain ⟨fs168, hfs168⟩ := w165.ob
  refine x_callv (As := [.int 74]) (rest := []) 26057 1469547 dL_trees_940 mi_X5_leavesIfBuilt ml_L_133 rfl rfl (Nat.le_of_ble_eq_true rfl) ⟨by decide, by decide⟩ (by omega) (by omega) hfs168 rfl (c_X5_leavesIfBuilt N _ _ _ _ _ e167) (x_K.some ?_) x_KX.none
  refine x_toX (st' := [.int 9]) rfl ?_
  clear e167 a167 hfs168 w165 z165
  refine x_bipush 9 (by decide) dL_trees_943 ?_
  refine x_icmp_ne_n 1115 dL_trees_945 (by decide) (by decide) ?_
  refine x_aload_n 0 dL_trees_948 rfl rfl ?_
  refine x_bipush 75 (by decide) dL_trees_949 ?_
  obtain ⟨f169, e169, a169, w169⟩ := w167.q1 (G := fun f1 => qm (qa_lb (k_of L_144) 75) f1) (fun q St bf h => q_lb hN h w167.gd.1 75)
  rw [qq_lb_of tf_564 75, tf_577] at e169
  replace e169 : F_X5_leavesIfBuilt N f167 h.2 75 = some (.inl (6, f169)) := e169
  have z169 := z167.st a169
  obtain ⟨fs170, hfs170⟩ := w167.ob
  refine x_callv (As := [.int 75]) (rest := []) 26056 1469541 dL_trees_951 mi_X5_leavesIfBuilt ml_L_133 rfl rfl (Nat.le_of_ble_eq_true rfl) ⟨by decide, by decide⟩ (by omega) (by omega) hfs170 rfl (c_X5_leavesIfBuilt N _ _ _ _ _ e169) (x_K.some ?_) x_KX.none
  refine x_toX (st' := [.int 6]) rfl ?_
  clear e169 a169 hfs170 w167 z167
  refine x_bipush 6 (by decide) dL_trees_954 ?_
  refine x_icmp_ne_n 1115 dL_trees_956 (by decide) (by decide) ?_
  refine x_aload_n 0 dL_trees_959 rfl rfl ?_
  refine x_bipush 75 (by decide) dL_trees_960 ?_
  refine x_dom (fun hd171 => ?_)
  obtain ⟨f171, m171, e171, a171, w171⟩ := k_dd4 hN (by omega) w169 hd171 (z169.le w169 hd171) (a := 75) (b := 0) (v := 6) (S' := (k_of L_145)) ((k_ac4_of (b := 0) tf_564 tf_578 tf_579 w169.gd.1).1.trans (congrArg Sum.inl tf_580)) (k_ac4_of (b := 0) tf_564 tf_578 tf_579 w169.gd.1).2
  have z171 := z169.st a171
  replace w171 : k_wd h.2 (h.2 + 70) 24 (k_of L_145) [(k_of L_139), (k_of L_140), (k_of L_141), (k_of L_142), (k_of L_143), (k_of L_144)] (fun i => if i = k_u 0 then some (k_of L_144) else (fun _ => none) i) [] f171 := w171
  obtain ⟨fs172, hfs172⟩ := w169.ob
  refine x_callv (As := [.int 75]) (rest := []) 26023 1467632 dL_trees_962 mi_X5_build ml_L_44 rfl rfl (Nat.le_of_ble_eq_true rfl) ⟨by decide, by decide⟩ (by omega) (by omega) hfs172 rfl (c_X5_build N _ _ _ _ e171) (x_K.some ?_) x_KX.none
  refine x_toX (st' := [.int 6]) rfl ?_
  clear hd171 e171 a171 hfs172 w169 z169
  refine x_bipush 6 (by decide) dL_trees_965 ?_
  refine x_icmp_ne_n 1115 dL_trees_967 (by decide) (by decide) ?_
  refine x_aload_n 0 dL_trees_970 rfl rfl ?_
  refine x_bipush 18 (by decide) dL_trees_971 ?_
  refine x_bipush 6 (by decide) dL_trees_973 ?_
  refine x_iconst 2 (by decide) dL_trees_975 ?_
  refine x_iconst 5 (by decide) dL_trees_976 ?_
  refine x_iconst 3 (by decide) dL_trees_977 ?_
  refine x_iconst 0 (by decide) dL_trees_978 ?_
  refine x_callsQ (As := [.ref h.2, .int 18, .int 6, .int 2, .int 5, .int 3, .int 0]) (rest := []) 25921 1461887 dL_trees_979 mi_L_is rfl ml_L_219 rfl rfl (Nat.le_of_ble_eq_true rfl) ⟨by decide, by decide⟩ (by omega) (by omega) (c_is hN (f171, m171) w171 z171 tf_581 tf_582 tf_583 tf_584 tf_585 tf_586) (fun v173 f173 n173 hq173 => ?_)
  obtain ⟨rfl, w173, z173⟩ := hq173
  refine x_toX (st' := [.int 1]) rfl ?_
  clear w171 z171
  refine x_if_eq_n 1115 dL_trees_982 (by decide) (by decide) ?_
  refine x_aload_n 0 dL_trees_985 rfl rfl ?_
  refine x_iconst 0 (by decide) dL_trees_986 ?_
  obtain ⟨q174, St174, bf174, h174, g174⟩ := w173.ci
  have e174 : F_X5_nodesAt N f173 h.2 0 = some (.inl 2) := (q_nd hN h174 g174 0).trans (congrArg some tf_587)
  obtain ⟨fs175, hfs175⟩ := w173.ob
  refine x_callv (As := [.int 0]) (rest := []) 25920 1461881 dL_trees_987 mi_X5_nodesAt ml_L_121 rfl rfl (Nat.le_of_ble_eq_true rfl) ⟨by decide, by decide⟩ (by omega) (by omega) hfs175 rfl (c_X5_nodesAt N _ _ _ _ _ e174) (x_K.some ?_) x_KX.none
  refine x_toX (st' := [.int 2]) rfl ?_
  clear h174 g174 e174 hfs175
  refine x_iconst 2 (by decide) dL_trees_990 ?_
  refine x_icmp_ne_n 1115 dL_trees_991 (by decide) (by decide) ?_
  refine x_aload_n 0 dL_trees_994 rfl rfl ?_
  refine x_iconst 0 (by decide) dL_trees_995 ?_
  refine x_iconst 1 (by decide) dL_trees_996 ?_
  obtain ⟨q176, St176, bf176, h176, g176⟩ := w173.ci
  have e176 : F_X5_boundOf N f173 h.2 0 1 = some (.inl 50) := (q_bd hN h176 g176 0 1).trans (congrArg some tf_588)
  obtain ⟨fs177, hfs177⟩ := w173.ob
  refine x_callv (As := [.int 0, .int 1]) (rest := []) 25918 1461869 dL_trees_997 mi_X5_boundOf ml_L_127 rfl rfl (Nat.le_of_ble_eq_true rfl) ⟨by decide, by decide⟩ (by omega) (by omega) hfs177 rfl (c_X5_boundOf N _ _ _ _ _ _ e176) (x_K.some ?_) x_KX.none
  refine x_toX (st' := [.int 50]) rfl ?_
  clear h176 g176 e176 hfs177
  refine x_bipush 50 (by decide) dL_trees_1000 ?_
  refine x_icmp_ne_n 1115 dL_trees_1002 (by decide) (by decide) ?_
  refine x_aload_n 0 dL_trees_1005 rfl rfl ?_
  refine x_iconst 2 (by decide) dL_trees_1006 ?_
  refine x_iconst 0 (by decide) dL_trees_1007 ?_
  obtain ⟨q178, St178, bf178, h178, g178⟩ := w173.ci
  have e178 : F_X5_leafKey N f173 h.2 2 0 = some (.inl 30) := (q_lk hN h178 g178 2 0).trans (congrArg some tf_589)
  obtain ⟨fs179, hfs179⟩ := w173.ob
  refine x_callv (As := [.int 2, .int 0]) (rest := []) 25916 1461857 dL_trees_1008 mi_X5_leafKey ml_L_112 rfl rfl (Nat.le_of_ble_eq_true rfl) ⟨by decide, by decide⟩ (by omega) (by omega) hfs179 rfl (c_X5_leafKey N _ _ _ _ _ _ e178) (x_K.some ?_) x_KX.none
  refine x_toX (st' := [.int 30]) rfl ?_
  clear h178 g178 e178 hfs179
  refine x_bipush 30 (by decide) dL_trees_1011 ?_
  refine x_icmp_ne_n 1115 dL_trees_1013 (by decide) (by decide) ?_
  refine x_aload_n 0 dL_trees_1016 rfl rfl ?_
  obtain ⟨q180, St180, bf180, h180, g180⟩ := w173.ci
  have e180 : F_X5_written N f173 h.2 = some 18 := ((q_written (N := N) h180).trans (congrArg some tf_590))
  obtain ⟨fs181, hfs181⟩ := w173.ob
  refine x_callv (As := []) (rest := []) 25916 1461857 dL_trees_1017 mi_X5_written ml_L_152 rfl rfl (Nat.le_of_ble_eq_true rfl) ⟨by decide, by decide⟩ (by omega) (by omega) hfs181 rfl (c_X5_written N _ _ _ _ e180) (x_K.some ?_) x_KX.none
  clear h180 g180 e180 hfs181
  refine x_bipush 18 (by decide) dL_trees_1020 ?_
  refine x_icmp_ne_n 1115 dL_trees_1022 (by decide) (by decide) ?_
  refine x_aload_n 0 dL_trees_1025 rfl rfl ?_
  obtain ⟨q182, St182, bf182, h182, g182⟩ := w173.ci
  have e182 : F_X5_builds N f173 h.2 = some 1 := ((q_builds (N := N) h182).trans (congrArg some tf_591))
  obtain ⟨fs183, hfs183⟩ := w173.ob
  refine x_callv (As := []) (rest := []) 25916 1461857 dL_trees_1026 mi_X5_builds ml_L_149 rfl rfl (Nat.le_of_ble_eq_true rfl) ⟨by decide, by decide⟩ (by omega) (by omega) hfs183 rfl (c_X5_builds N _ _ _ _ e182) (x_K.some ?_) x_KX.none
  clear h182 g182 e182 hfs183
  refine x_iconst 1 (by decide) dL_trees_1029 ?_
  refine x_icmp_ne_n 1115 dL_trees_1030 (by decide) (by decide) ?_
  refine x_aload_n 0 dL_trees_1033 rfl rfl ?_
  obtain ⟨f184, e184, a184, w184⟩ := w173.q1 (G := fun f1 => (k_men (k_of L_145), f1)) (fun q St bf h => q_mean hN h w173.gd.1)
  rw [qq_mn_of tf_592, tf_593] at e184
  have z184 := z173.st a184
  obtain ⟨fs185, hfs185⟩ := w173.ob
  refine x_callv (As := []) (rest := []) 25916 1461857 dL_trees_1034 mi_X5_meanPages ml_L_205 rfl rfl (Nat.le_of_ble_eq_true rfl) ⟨by decide, by decide⟩ (by omega) (by omega) hfs185 rfl (c_X5_meanPages N _ _ _ _ e184) (x_K.some ?_) x_KX.none
  refine x_toX (st' := [.double (4613937818241073152 : UInt64)]) rfl ?_
  clear e184 a184 hfs185 w173 z173
  refine x_ldc2d kc_L_225 dL_trees_1037 ?_
  refine x_dcmp dL_trees_1040 ?_
  refine x_toX (st' := [.int 0]) (by rw [tf_594]) ?_
  refine x_if_ne_n 1115 dL_trees_1041 (by decide) (by decide) ?_
  refine x_aload_n 0 dL_trees_1044 rfl rfl ?_
  refine x_iconst 4 (by decide) dL_trees_1045 ?_
  refine x_iconst 4 (by decide) dL_trees_1046 ?_
  refine x_dom (fun hd186 => ?_)
  obtain ⟨f186, m186, e186, a186, w186⟩ := k_dd5 hN (by omega) w184 hd186 (z184.le w184 hd186) (a := 4) (b := 4) (v := 1) (S' := (k_of L_146)) tf_595 (k_eqb_sp tf_596)
  have z186 := z184.st a186
  replace w186 : k_wd h.2 (h.2 + 70) 25 (k_of L_146) [(k_of L_140), (k_of L_141), (k_of L_142), (k_of L_143), (k_of L_144), (k_of L_145)] (fun i => if i = k_u 0 then some (k_of L_144) else (fun _ => none) i) [] f186 := w186
  obtain ⟨fs187, hfs187⟩ := w184.ob
  refine x_callv (As := [.int 4, .int 4]) (rest := []) 25882 1459942 dL_trees_1047 mi_X5_insert ml_L_47 rfl rfl (Nat.le_of_ble_eq_true rfl) ⟨by decide, by decide⟩ (by omega) (by omega) hfs187 rfl (c_X5_insert N _ _ _ _ _ e186) (x_K.some ?_) x_KX.none
  refine x_toX (st' := [.int 1]) rfl ?_
  clear hd186 e186 a186 hfs187 w184 z184
  refine x_iconst 1 (by decide) dL_trees_1050 ?_
  refine x_icmp_ne_n 1115 dL_trees_1051 (by decide) (by decide) ?_
  refine x_aload_n 0 dL_trees_1054 rfl rfl ?_
  refine x_iconst 0 (by decide) dL_trees_1055 ?_
  obtain ⟨q188, St188, bf188, h188, g188⟩ := w186.ci
  have e188 : F_X5_entriesOf N f186 h.2 0 = some (.inl 4) := (q_own hN h188 g188 0).trans (congrArg some tf_597)
  obtain ⟨fs189, hfs189⟩ := w186.ob
  refine x_callv (As := [.int 0]) (rest := []) 25881 1459936 dL_trees_1056 mi_X5_entriesOf ml_L_109 rfl rfl (Nat.le_of_ble_eq_true rfl) ⟨by decide, by decide⟩ (by omega) (by omega) hfs189 rfl (c_X5_entriesOf N _ _ _ _ _ e188) (x_K.some ?_) x_KX.none
  refine x_toX (st' := [.int 4]) rfl ?_
  clear h188 g188 e188 hfs189
  refine x_iconst 4 (by decide) dL_trees_1059 ?_
  refine x_icmp_ne_n 1115 dL_trees_1060 (by decide) (by decide) ?_
  refine x_aload_n 0 dL_trees_1063 rfl rfl ?_
  refine x_bipush 8 (by decide) dL_trees_1064 ?_
  refine x_dom (fun hd190 => ?_)
  obtain ⟨f190, m190, e190, a190, w190⟩ := k_dd7 hN (by omega) w186 hd190 (z186.le w186 hd190) (a := 8) (b := 0) (v := 4) (S' := (k_of L_147)) tf_598 (k_eqb_sp tf_599)
  have z190 := z186.st a190
  replace w190 : k_wd h.2 (h.2 + 70) 26 (k_of L_147) [(k_of L_141), (k_of L_142), (k_of L_143), (k_of L_144), (k_of L_145), (k_of L_146)] (fun i => if i = k_u 0 then some (k_of L_144) else (fun _ => none) i) [] f190 := w190
  obtain ⟨fs191, hfs191⟩ := w186.ob
  refine x_callv (As := [.int 8]) (rest := []) 25849 1458033 dL_trees_1066 mi_X5_changeLeaf ml_L_53 rfl rfl (Nat.le_of_ble_eq_true rfl) ⟨by decide, by decide⟩ (by omega) (by omega) hfs191 rfl (c_X5_changeLeaf N _ _ _ _ e190) (x_K.some ?_) x_KX.none
  refine x_toX (st' := [.int 4]) rfl ?_
  clear hd190 e190 a190 hfs191 w186 z186
  refine x_iconst 4 (by decide) dL_trees_1069 ?_
  refine x_icmp_ne_n 1115 dL_trees_1070 (by decide) (by decide) ?_
  refine x_aload_n 0 dL_trees_1073 rfl rfl ?_
  refine x_iconst 2 (by decide) dL_trees_1074 ?_
  refine x_dom (fun hd192 => ?_)
  obtain ⟨f192, m192, e192, a192, w192⟩ := k_dd8 hN (by omega) w190 hd192 (z190.le w190 hd192) (a := 2) (b := 0) (v := 3) (S' := (k_of L_148)) tf_600 (k_eqb_sp tf_601)
  have z192 := z190.st a192
  replace w192 : k_wd h.2 (h.2 + 70) 27 (k_of L_148) [(k_of L_142), (k_of L_143), (k_of L_144), (k_of L_145), (k_of L_146), (k_of L_147)] (fun i => if i = k_u 0 then some (k_of L_144) else (fun _ => none) i) [] f192 := w192
  obtain ⟨fs193, hfs193⟩ := w190.ob
  refine x_callv (As := [.int 2]) (rest := []) 25817 1456130 dL_trees_1075 mi_X5_changeFan ml_L_56 rfl rfl (Nat.le_of_ble_eq_true rfl) ⟨by decide, by decide⟩ (by omega) (by omega) hfs193 rfl (c_X5_changeFan N _ _ _ _ e192) (x_K.some ?_) x_KX.none
  refine x_toX (st' := [.int 3]) rfl ?_
  clear hd192 e192 a192 hfs193 w190 z190
  refine x_iconst 3 (by decide) dL_trees_1078 ?_
  refine x_icmp_ne_n 1115 dL_trees_1079 (by decide) (by decide) ?_
  refine x_aload_n 0 dL_trees_1082 rfl rfl ?_
  refine x_bipush 6 (by decide) dL_trees_1083 ?_
  refine x_bipush 6 (by decide) dL_trees_1085 ?_
  refine x_dom (fun hd194 => ?_)
  obtain ⟨f194, m194, e194, a194, w194⟩ := k_dd5 hN (by omega) w192 hd194 (z192.le w192 hd194) (a := 6) (b := 6) (v := 1) (S' := (k_of L_149)) tf_602 (k_eqb_sp tf_603)
  have z194 := z192.st a194
  replace w194 : k_wd h.2 (h.2 + 70) 28 (k_of L_149) [(k_of L_143), (k_of L_144), (k_of L_145), (k_of L_146), (k_of L_147), (k_of L_148)] (fun i => if i = k_u 0 then some (k_of L_144) else (fun _ => none) i) [] f194 := w194
  obtain ⟨fs195, hfs195⟩ := w192.ob
  refine x_callv (As := [.int 6, .int 6]) (rest := []) 25783 1454215 dL_trees_1087 mi_X5_insert ml_L_47 rfl rfl (Nat.le_of_ble_eq_true rfl) ⟨by decide, by decide⟩ (by omega) (by omega) hfs195 rfl (c_X5_insert N _ _ _ _ _ e194) (x_K.some ?_) x_KX.none
  refine x_toX (st' := [.int 1]) rfl ?_
  clear hd194 e194 a194 hfs195 w192 z192
  refine x_iconst 1 (by decide) dL_trees_1090 ?_
  refine x_icmp_ne_n 1115 dL_trees_1091 (by decide) (by decide) ?_
  refine x_aload_n 0 dL_trees_1094 rfl rfl ?_
  refine x_bipush 8 (by decide) dL_trees_1095 ?_
  refine x_bipush 6 (by decide) dL_trees_1097 ?_
  refine x_dom (fun hd196 => ?_)
  obtain ⟨f196, m196, e196, a196, w196⟩ := k_dd5 hN (by omega) w194 hd196 (z194.le w194 hd196) (a := 8) (b := 6) (v := 2) (S' := (k_of L_150)) tf_604 (k_eqb_sp tf_605)
  have z196 := z194.st a196
  replace w196 : k_wd h.2 (h.2 + 70) 29 (k_of L_150) [(k_of L_144), (k_of L_145), (k_of L_146), (k_of L_147), (k_of L_148), (k_of L_149)] (fun i => if i = k_u 0 then some (k_of L_144) else (fun _ => none) i) [] f196 := w196
  obtain ⟨fs197, hfs197⟩ := w194.ob
  refine x_callv (As := [.int 8, .int 6]) (rest := []) 25749 1452300 dL_trees_1099 mi_X5_insert ml_L_47 rfl rfl (Nat.le_of_ble_eq_true rfl) ⟨by decide, by decide⟩ (by omega) (by omega) hfs197 rfl (c_X5_insert N _ _ _ _ _ e196) (x_K.some ?_) x_KX.none
  refine x_toX (st' := [.int 2]) rfl ?_
  clear hd196 e196 a196 hfs197 w194 z194
  refine x_iconst 2 (by decide) dL_trees_1102 ?_
  refine x_icmp_ne_n 1115 dL_trees_1103 (by decide) (by decide) ?_
  refine x_aload_n 0 dL_trees_1106 rfl rfl ?_
  refine x_iconst 1 (by decide) dL_trees_1107 ?_
  obtain ⟨q198, St198, bf198, h198, g198⟩ := w196.ci
  have e198 : F_X5_entriesOf N f196 h.2 1 = some (.inl 4) := (q_own hN h198 g198 1).trans (congrArg some tf_606)
  obtain ⟨fs199, hfs199⟩ := w196.ob
  refine x_callv (As := [.int 1]) (rest := []) 25748 1452294 dL_trees_1108 mi_X5_entriesOf ml_L_109 rfl rfl (Nat.le_of_ble_eq_true rfl) ⟨by decide, by decide⟩ (by omega) (by omega) hfs199 rfl (c_X5_entriesOf N _ _ _ _ _ e198) (x_K.some ?_) x_KX.none
  refine x_toX (st' := [.int 4]) rfl ?_
  clear h198 g198 e198 hfs199
  refine x_iconst 4 (by decide) dL_trees_1111 ?_
  refine x_icmp_eq_y 1117 dL_trees_1112 (by decide) (by decide) ?_
  refine x_aload_n 0 dL_trees_1117 rfl rfl ?_
  refine x_iconst 0 (by decide) dL_trees_1118 ?_
  refine x_dom (fun hd201 => ?_)
  obtain ⟨f201, e201, a201, w201⟩ := k_back hN w196 hd201 (z196.le w196 hd201) 0
  rw [show k_bk (fun i => if i = k_u 0 then some (k_of L_144) else (fun _ => none) i) 0 = .inl 0 from rfl] at e201 w201
  replace w201 : k_wd h.2 (h.2 + 70) 30 (k_of L_144) [(k_of L_145), (k_of L_146), (k_of L_147), (k_of L_148), (k_of L_149), (k_of L_150)] (fun i => if i = k_u 0 then some (k_of L_144) else (fun _ => none) i) [] f201 := w201
  have z201 := z196.st a201
  refine x_callsH (As := [.ref h.2, .int 0]) (rest := []) 25715 1450385 dL_trees_1119 mi_L_back rfl ml_L_189 rfl rfl (Nat.le_of_ble_eq_true rfl) ⟨by decide, by decide⟩ (by omega) (by omega) (c_L_back N _ _ _ _ e201) (fun n201 => ?_)
  refine x_toX (st' := [.int 0]) rfl ?_
  clear hd201 e201 a201 w196 z196
  refine x_if_ne_n 1194 dL_trees_1122 (by decide) (by decide) ?_
  refine x_aload_n 0 dL_trees_1125 rfl rfl ?_
  obtain ⟨q202, St202, bf202, h202, g202⟩ := w201.ci
  have e202 : F_X5_builds N f201 h.2 = some 0 := ((q_builds (N := N) h202).trans (congrArg some tf_607))
  obtain ⟨fs203, hfs203⟩ := w201.ob
  refine x_callv (As := []) (rest := []) 25715 1450385 dL_trees_1126 mi_X5_builds ml_L_149 rfl rfl (Nat.le_of_ble_eq_true rfl) ⟨by decide, by decide⟩ (by omega) (by omega) hfs203 rfl (c_X5_builds N _ _ _ _ e202) (x_K.some ?_) x_KX.none
  clear h202 g202 e202 hfs203
  refine x_if_ne_n 1194 dL_trees_1129 (by decide) (by decide) ?_
  refine x_aload_n 0 dL_trees_1132 rfl rfl ?_
  refine x_bipush 18 (by decide) dL_trees_1133 ?_
  refine x_iconst 4 (by decide) dL_trees_1135 ?_
  refine x_iconst 2 (by decide) dL_trees_1136 ?_
  refine x_iconst 0 (by decide) dL_trees_1137 ?_
  refine x_iconst 4 (by decide) dL_trees_1138 ?_
  refine x_iconst 4 (by decide) dL_trees_1139 ?_
  refine x_callsQ (As := [.ref h.2, .int 18, .int 4, .int 2, .int 0, .int 4, .int 4]) (rest := []) 25613 1444640 dL_trees_1140 mi_L_is rfl ml_L_219 rfl rfl (Nat.le_of_ble_eq_true rfl) ⟨by decide, by decide⟩ (by omega) (by omega) (c_is hN (f201, n201) w201 z201 tf_557 tf_558 tf_559 tf_560 tf_561 tf_562) (fun v204 f204 n204 hq204 => ?_)
  obtain ⟨rfl, w204, z204⟩ := hq204
  refine x_toX (st' := [.int 1]) rfl ?_
  clear w201 z201
  refine x_if_eq_n 1194 dL_trees_1143 (by decide) (by decide) ?_
  refine x_aload_n 0 dL_trees_1146 rfl rfl ?_
  obtain ⟨q205, St205, bf205, h205, g205⟩ := w204.ci
  have e205 : F_X5_savedStates N f204 h.2 = some 6 := ((q_saved (N := N) h205).trans rfl)
  obtain ⟨fs206, hfs206⟩ := w204.ob
  refine x_callv (As := []) (rest := []) 25613 1444640 dL_trees_1147 mi_X5_savedStates ml_L_164 rfl rfl (Nat.le_of_ble_eq_true rfl) ⟨by decide, by decide⟩ (by omega) (by omega) hfs206 rfl (c_X5_savedStates N _ _ _ _ e205) (x_K.some ?_) x_KX.none
  clear h205 g205 e205 hfs206
  refine x_bipush 6 (by decide) dL_trees_1150 ?_
  refine x_icmp_ne_n 1194 dL_trees_1152 (by decide) (by decide) ?_
  refine x_aload_n 0 dL_trees_1155 rfl rfl ?_
  refine x_dom (fun hd208 => ?_)
  obtain ⟨f208, e208, a208, w208⟩ := k_undone_yes (hs := n204) hN (P := [(k_of L_145), (k_of L_146), (k_of L_147), (k_of L_148), (k_of L_149)]) (s := (k_of L_150)) w204
  replace e208 : F_L_undone N (f204, n204) h.2 = some (5, f208) := e208
  have z208 := z204.st a208
  refine x_callsH (As := [.ref h.2]) (rest := []) 25612 1444634 dL_trees_1156 mi_L_undone rfl ml_L_201 rfl rfl (Nat.le_of_ble_eq_true rfl) ⟨by decide, by decide⟩ (by omega) (by omega) (c_L_undone N _ _ _ e208) (fun n208 => ?_)
  refine x_toX (st' := [.int 5]) rfl ?_
  clear hd208 e208 a208 w204 z204
  refine x_iconst 5 (by decide) dL_trees_1159 ?_
  refine x_icmp_ne_n 1194 dL_trees_1160 (by decide) (by decide) ?_
  refine x_aload_n 0 dL_trees_1163 rfl rfl ?_
  obtain ⟨q209, St209, bf209, h209, g209⟩ := w208.ci
  have e209 : F_X5_builds N f208 h.2 = some 1 := ((q_builds (N := N) h209).trans (congrArg some tf_608))
  obtain ⟨fs210, hfs210⟩ := w208.ob
  refine x_callv (As := []) (rest := []) 25612 1444634 dL_trees_1164 mi_X5_builds ml_L_149 rfl rfl (Nat.le_of_ble_eq_true rfl) ⟨by decide, by decide⟩ (by omega) (by omega) hfs210 rfl (c_X5_builds N _ _ _ _ e209) (x_K.some ?_) x_KX.none
  clear h209 g209 e209 hfs210
  refine x_iconst 1 (by decide) dL_trees_1167 ?_
  refine x_icmp_ne_n 1194 dL_trees_1168 (by decide) (by decide) ?_
  refine x_aload_n 0 dL_trees_1171 rfl rfl ?_
  refine x_callsQ (As := [.ref h.2]) (rest := []) 19752 1115182 dL_trees_1172 mi_L_refused rfl ml_L_215 rfl rfl (Nat.le_of_ble_eq_true rfl) ⟨by decide, by decide⟩ (by omega) (by omega) (c_refused (f0 := _) hN (by omega) (f208, n208) w208 z208) (fun v211 f211 n211 hq211 => ?_)
  obtain ⟨rfl, w211, z211⟩ := hq211
  refine x_toX (st' := [.int 1]) rfl ?_
  clear w208 z208
  refine x_if_eq_n 1194 dL_trees_1175 (by decide) (by decide) ?_
  refine x_callsQ (As := []) (rest := []) 12876 727870 dL_trees_1178 mi_L_runsOf rfl ml_L_227 rfl rfl (Nat.le_of_ble_eq_true rfl) ⟨by decide, by decide⟩ (by omega) (by omega) (c_runsOf hN (f211, n211)) (fun v212 f212 n212 hq212 => ?_)
  obtain rfl := hq212
  refine x_toX (st' := [.int 1]) rfl ?_
  refine x_if_eq_n 1194 dL_trees_1181 (by decide) (by decide) ?_
  refine x_callsQ (As := []) (rest := []) 0 0 dL_trees_1184 mi_L_limits rfl ml_L_231 rfl rfl (Nat.le_of_ble_eq_true rfl) ⟨by decide, by decide⟩ (by omega) (by omega) (c_limits hN (f212, n212)) (fun v213 f213 n213 hq213 => ?_)
  obtain rfl := hq213
  refine x_toX (st' := [.int 1]) rfl ?_
  refine x_if_eq_n 1194 dL_trees_1187 (by decide) (by decide) ?_
  refine x_iconst 1 (by decide) dL_trees_1190 ?_
  refine x_goto 1195 dL_trees_1191 (by decide) ?_
  exact x_zretq dL_trees_1195 rfl (Or.inr rfl) rfl
