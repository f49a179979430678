/-! texts, by hand. Laid by wip/p55/gen_texts.py. -/
set_option maxRecDepth 20000 in
set_option maxHeartbeats 4000000 in
theorem c_texts {N : Nat} (hN : 50000 ≤ N) (h : XH) : x_Cq mL_texts 10 245 275 14061 [] h (fun v _ => v = some (.int 1)) := by
  refine x_cq (by decide) rfl (Nat.le_of_ble_eq_true rfl) ?_
  show X mL_texts 10 245 _ _ 275 14061 0 [] [] (h.1, h.2)
  refine x_new_r (f := fun z => some z) 274 14052 dL_texts_0 cl_L_28 (by omega) (by omega) rfl (fun u1 hu1 => ?_)
  cases hu1
  refine x_dupr dL_texts_3 ?_
  obtain ⟨f2, e2, w2, a2⟩ := k_new (N := N) (f := h.1) (x := h.2) (wz := h.2 + 70)
  have z2 : k_Zf h.2 (h.2 + 70) f2 f2 := k_Zf.rf (Or.inl (Nat.le_refl _))
  refine x_calli (As := []) (rest := [.ref h.2]) 199 8038 dL_texts_4 mi_X5_init ml_L_200 rfl rfl (Nat.le_of_ble_eq_true rfl) ⟨by decide, by decide⟩ (by omega) (by omega) (c_X5_init N _ _ _ e2) ?_
  refine x_toX (st' := [.ref h.2]) rfl ?_
  clear e2 a2
  refine x_astore_n (i := 0) (lv' := [(0, .ref h.2)]) dL_texts_7 rfl (by decide) rfl ?_
  refine x_aload_n 0 dL_texts_8 rfl rfl ?_
  refine x_ldc2 kc_L_246 dL_texts_9 ?_
  refine x_lconst 0 (by decide) dL_texts_12 ?_
  refine x_iconst 1 (by decide) dL_texts_13 ?_
  obtain ⟨f3, e3, a3, w3⟩ := k_iserr hN w2 (112 : Int64) (0 : Int64) (e := 1) tf_609 tf_610 tf_611 tf_612
  replace e3 : F_L_isError N f2 h.2 (112 : Int64) (0 : Int64) 1 = some (true, f3) := e3
  replace w3 : k_wd h.2 (h.2 + 70) 0 (k_of k_e0s) [] (fun _ => none) T_0 f3 := w3
  have z3 := z2.st a3
  refine x_calls (As := [.ref h.2, .long (112 : Int64), .long (0 : Int64), .int 1]) (rest := []) 199 8038 dL_texts_14 mi_L_isError rfl ml_L_248 rfl rfl (Nat.le_of_ble_eq_true rfl) ⟨by decide, by decide⟩ (by omega) (by omega) (c_L_isError N _ _ _ _ _ _ _ e3) (x_K.some ?_) x_KX.none
  refine x_toX (st' := [.int 1]) rfl ?_
  clear e3 a3 w2 z2
  refine x_if_eq_n 129 dL_texts_17 (by decide) (by decide) ?_
  refine x_aload_n 0 dL_texts_20 rfl rfl ?_
  refine x_ldc2 kc_L_252 dL_texts_21 ?_
  refine x_lconst 0 (by decide) dL_texts_24 ?_
  refine x_bipush 6 (by decide) dL_texts_25 ?_
  obtain ⟨f4, e4, a4, w4⟩ := k_iserr hN w3 (31579289236353072 : Int64) (0 : Int64) (e := 6) tf_613 tf_610 tf_614 tf_615
  replace e4 : F_L_isError N f3 h.2 (31579289236353072 : Int64) (0 : Int64) 6 = some (true, f4) := e4
  replace w4 : k_wd h.2 (h.2 + 70) 0 (k_of k_e0s) [] (fun _ => none) T_1 f4 := w4
  have z4 := z3.st a4
  refine x_calls (As := [.ref h.2, .long (31579289236353072 : Int64), .long (0 : Int64), .int 6]) (rest := []) 199 8038 dL_texts_27 mi_L_isError rfl ml_L_248 rfl rfl (Nat.le_of_ble_eq_true rfl) ⟨by decide, by decide⟩ (by omega) (by omega) (c_L_isError N _ _ _ _ _ _ _ e4) (x_K.some ?_) x_KX.none
  refine x_toX (st' := [.int 1]) rfl ?_
  clear e4 a4 w3 z3
  refine x_if_eq_n 129 dL_texts_30 (by decide) (by decide) ?_
  refine x_aload_n 0 dL_texts_33 rfl rfl ?_
  refine x_ldc2 kc_L_254 dL_texts_34 ?_
  refine x_lconst 0 (by decide) dL_texts_37 ?_
  refine x_iconst 2 (by decide) dL_texts_38 ?_
  obtain ⟨f5, e5, a5, w5⟩ := k_iserr hN w4 (7352373 : Int64) (0 : Int64) (e := 2) tf_616 tf_610 tf_617 tf_618
  replace e5 : F_L_isError N f4 h.2 (7352373 : Int64) (0 : Int64) 2 = some (true, f5) := e5
  replace w5 : k_wd h.2 (h.2 + 70) 0 (k_of k_e0s) [] (fun _ => none) T_2 f5 := w5
  have z5 := z4.st a5
  refine x_calls (As := [.ref h.2, .long (7352373 : Int64), .long (0 : Int64), .int 2]) (rest := []) 199 8038 dL_texts_39 mi_L_isError rfl ml_L_248 rfl rfl (Nat.le_of_ble_eq_true rfl) ⟨by decide, by decide⟩ (by omega) (by omega) (c_L_isError N _ _ _ _ _ _ _ e5) (x_K.some ?_) x_KX.none
  refine x_toX (st' := [.int 1]) rfl ?_
  clear e5 a5 w4 z4
  refine x_if_eq_n 129 dL_texts_42 (by decide) (by decide) ?_
  refine x_aload_n 0 dL_texts_45 rfl rfl ?_
  refine x_ldc2 kc_L_256 dL_texts_46 ?_
  refine x_lconst 0 (by decide) dL_texts_49 ?_
  refine x_iconst 5 (by decide) dL_texts_50 ?_
  obtain ⟨f6, e6, a6, w6⟩ := k_iserr hN w5 (123356564172848 : Int64) (0 : Int64) (e := 5) tf_619 tf_610 tf_620 tf_621
  replace e6 : F_L_isError N f5 h.2 (123356564172848 : Int64) (0 : Int64) 5 = some (true, f6) := e6
  replace w6 : k_wd h.2 (h.2 + 70) 0 (k_of k_e0s) [] (fun _ => none) T_3 f6 := w6
  have z6 := z5.st a6
  refine x_calls (As := [.ref h.2, .long (123356564172848 : Int64), .long (0 : Int64), .int 5]) (rest := []) 199 8038 dL_texts_51 mi_L_isError rfl ml_L_248 rfl rfl (Nat.le_of_ble_eq_true rfl) ⟨by decide, by decide⟩ (by omega) (by omega) (c_L_isError N _ _ _ _ _ _ _ e6) (x_K.some ?_) x_KX.none
  refine x_toX (st' := [.int 1]) rfl ?_
  clear e6 a6 w5 z5
  refine x_if_eq_n 129 dL_texts_54 (by decide) (by decide) ?_
  refine x_aload_n 0 dL_texts_57 rfl rfl ?_
  refine x_ldc2 kc_L_258 dL_texts_58 ?_
  refine x_lconst 0 (by decide) dL_texts_61 ?_
  refine x_iconst 3 (by decide) dL_texts_62 ?_
  obtain ⟨f7, e7, a7, w7⟩ := k_iserr hN w6 (6568251 : Int64) (0 : Int64) (e := 3) tf_622 tf_610 tf_623 tf_624
  replace e7 : F_L_isError N f6 h.2 (6568251 : Int64) (0 : Int64) 3 = some (true, f7) := e7
  replace w7 : k_wd h.2 (h.2 + 70) 0 (k_of k_e0s) [] (fun _ => none) T_4 f7 := w7
  have z7 := z6.st a7
  refine x_calls (As := [.ref h.2, .long (6568251 : Int64), .long (0 : Int64), .int 3]) (rest := []) 199 8038 dL_texts_63 mi_L_isError rfl ml_L_248 rfl rfl (Nat.le_of_ble_eq_true rfl) ⟨by decide, by decide⟩ (by omega) (by omega) (c_L_isError N _ _ _ _ _ _ _ e7) (x_K.some ?_) x_KX.none
  refine x_toX (st' := [.int 1]) rfl ?_
  clear e7 a7 w6 z6
  refine x_if_eq_n 129 dL_texts_66 (by decide) (by decide) ?_
  refine x_aload_n 0 dL_texts_69 rfl rfl ?_
  refine x_ldc2 kc_L_260 dL_texts_70 ?_
  refine x_lconst 0 (by decide) dL_texts_73 ?_
  refine x_iconst 1 (by decide) dL_texts_74 ?_
  obtain ⟨f8, e8, a8, w8⟩ := k_iserr hN w7 (6435897 : Int64) (0 : Int64) (e := 1) tf_625 tf_610 tf_626 tf_627
  replace e8 : F_L_isError N f7 h.2 (6435897 : Int64) (0 : Int64) 1 = some (true, f8) := e8
  replace w8 : k_wd h.2 (h.2 + 70) 0 (k_of k_e0s) [] (fun _ => none) T_5 f8 := w8
  have z8 := z7.st a8
  refine x_calls (As := [.ref h.2, .long (6435897 : Int64), .long (0 : Int64), .int 1]) (rest := []) 199 8038 dL_texts_75 mi_L_isError rfl ml_L_248 rfl rfl (Nat.le_of_ble_eq_true rfl) ⟨by decide, by decide⟩ (by omega) (by omega) (c_L_isError N _ _ _ _ _ _ _ e8) (x_K.some ?_) x_KX.none
  refine x_toX (st' := [.int 1]) rfl ?_
  clear e8 a8 w7 z7
  refine x_if_eq_n 129 dL_texts_78 (by decide) (by decide) ?_
  refine x_aload_n 0 dL_texts_81 rfl rfl ?_
  refine x_ldc2 kc_L_262 dL_texts_82 ?_
  refine x_lconst 0 (by decide) dL_texts_85 ?_
  refine x_iconst 2 (by decide) dL_texts_86 ?_
  obtain ⟨f9, e9, a9, w9⟩ := k_iserr hN w8 (25141 : Int64) (0 : Int64) (e := 2) tf_628 tf_610 tf_629 tf_630
  replace e9 : F_L_isError N f8 h.2 (25141 : Int64) (0 : Int64) 2 = some (true, f9) := e9
  replace w9 : k_wd h.2 (h.2 + 70) 0 (k_of k_e0s) [] (fun _ => none) T_6 f9 := w9
  have z9 := z8.st a9
  refine x_calls (As := [.ref h.2, .long (25141 : Int64), .long (0 : Int64), .int 2]) (rest := []) 199 8038 dL_texts_87 mi_L_isError rfl ml_L_248 rfl rfl (Nat.le_of_ble_eq_true rfl) ⟨by decide, by decide⟩ (by omega) (by omega) (c_L_isError N _ _ _ _ _ _ _ e9) (x_K.some ?_) x_KX.none
  refine x_toX (st' := [.int 1]) rfl ?_
  clear e9 a9 w8 z8
  refine x_if_eq_n 129 dL_texts_90 (by decide) (by decide) ?_
  refine x_aload_n 0 dL_texts_93 rfl rfl ?_
  refine x_ldc2 kc_L_264 dL_texts_94 ?_
  refine x_lconst 0 (by decide) dL_texts_97 ?_
  refine x_iconst 3 (by decide) dL_texts_98 ?_
  obtain ⟨f10, e10, a10, w10⟩ := k_iserr hN w9 (1647390769 : Int64) (0 : Int64) (e := 3) tf_631 tf_610 tf_632 tf_633
  replace e10 : F_L_isError N f9 h.2 (1647390769 : Int64) (0 : Int64) 3 = some (true, f10) := e10
  replace w10 : k_wd h.2 (h.2 + 70) 0 (k_of k_e0s) [] (fun _ => none) T_7 f10 := w10
  have z10 := z9.st a10
  refine x_calls (As := [.ref h.2, .long (1647390769 : Int64), .long (0 : Int64), .int 3]) (rest := []) 199 8038 dL_texts_99 mi_L_isError rfl ml_L_248 rfl rfl (Nat.le_of_ble_eq_true rfl) ⟨by decide, by decide⟩ (by omega) (by omega) (c_L_isError N _ _ _ _ _ _ _ e10) (x_K.some ?_) x_KX.none
  refine x_toX (st' := [.int 1]) rfl ?_
  clear e10 a10 w9 z9
  refine x_if_eq_n 129 dL_texts_102 (by decide) (by decide) ?_
  refine x_aload_n 0 dL_texts_105 rfl rfl ?_
  refine x_ldc2 kc_L_266 dL_texts_106 ?_
  refine x_lconst 0 (by decide) dL_texts_109 ?_
  refine x_iconst 4 (by decide) dL_texts_110 ?_
  obtain ⟨f11, e11, a11, w11⟩ := k_iserr hN w10 (1647390768 : Int64) (0 : Int64) (e := 4) tf_634 tf_610 tf_635 tf_636
  replace e11 : F_L_isError N f10 h.2 (1647390768 : Int64) (0 : Int64) 4 = some (true, f11) := e11
  replace w11 : k_wd h.2 (h.2 + 70) 0 (k_of k_e0s) [] (fun _ => none) T_8 f11 := w11
  have z11 := z10.st a11
  refine x_calls (As := [.ref h.2, .long (1647390768 : Int64), .long (0 : Int64), .int 4]) (rest := []) 199 8038 dL_texts_111 mi_L_isError rfl ml_L_248 rfl rfl (Nat.le_of_ble_eq_true rfl) ⟨by decide, by decide⟩ (by omega) (by omega) (c_L_isError N _ _ _ _ _ _ _ e11) (x_K.some ?_) x_KX.none
  refine x_toX (st' := [.int 1]) rfl ?_
  clear e11 a11 w10 z10
  refine x_if_eq_n 129 dL_texts_114 (by decide) (by decide) ?_
  refine x_aload_n 0 dL_texts_117 rfl rfl ?_
  refine x_ldc2 kc_L_268 dL_texts_118 ?_
  refine x_lconst 0 (by decide) dL_texts_121 ?_
  refine x_iconst 3 (by decide) dL_texts_122 ?_
  obtain ⟨f12, e12, a12, w12⟩ := k_iserr hN w11 (6435120 : Int64) (0 : Int64) (e := 3) tf_637 tf_610 tf_638 tf_639
  replace e12 : F_L_isError N f11 h.2 (6435120 : Int64) (0 : Int64) 3 = some (true, f12) := e12
  replace w12 : k_wd h.2 (h.2 + 70) 0 (k_of k_e0s) [] (fun _ => none) T_9 f12 := w12
  have z12 := z11.st a12
  refine x_calls (As := [.ref h.2, .long (6435120 : Int64), .long (0 : Int64), .int 3]) (rest := []) 199 8038 dL_texts_123 mi_L_isError rfl ml_L_248 rfl rfl (Nat.le_of_ble_eq_true rfl) ⟨by decide, by decide⟩ (by omega) (by omega) (c_L_isError N _ _ _ _ _ _ _ e12) (x_K.some ?_) x_KX.none
  refine x_toX (st' := [.int 1]) rfl ?_
  clear e12 a12 w11 z11
  refine x_if_ne_y 131 dL_texts_126 (by decide) (by decide) ?_
  refine x_aload_n 0 dL_texts_131 rfl rfl ?_
  refine x_ldc2 kc_L_270 dL_texts_132 ?_
  refine x_lconst 0 (by decide) dL_texts_135 ?_
  refine x_iconst 1 (by decide) dL_texts_136 ?_
  obtain ⟨f13, e13, a13, w13⟩ := k_iserr hN w12 (25443 : Int64) (0 : Int64) (e := 1) tf_640 tf_610 tf_641 tf_642
  replace e13 : F_L_isError N f12 h.2 (25443 : Int64) (0 : Int64) 1 = some (true, f13) := e13
  replace w13 : k_wd h.2 (h.2 + 70) 0 (k_of k_e0s) [] (fun _ => none) T_10 f13 := w13
  have z13 := z12.st a13
  refine x_calls (As := [.ref h.2, .long (25443 : Int64), .long (0 : Int64), .int 1]) (rest := []) 199 8038 dL_texts_137 mi_L_isError rfl ml_L_248 rfl rfl (Nat.le_of_ble_eq_true rfl) ⟨by decide, by decide⟩ (by omega) (by omega) (c_L_isError N _ _ _ _ _ _ _ e13) (x_K.some ?_) x_KX.none
  refine x_toX (st' := [.int 1]) rfl ?_
  clear e13 a13 w12 z12
  refine x_if_eq_n 251 dL_texts_140 (by decide) (by decide) ?_
  refine x_aload_n 0 dL_texts_143 rfl rfl ?_
  refine x_ldc2 kc_L_272 dL_texts_144 ?_
  refine x_lconst 0 (by decide) dL_texts_147 ?_
  refine x_iconst 3 (by decide) dL_texts_148 ?_
  obtain ⟨f14, e14, a14, w14⟩ := k_iserr hN w13 (6894397 : Int64) (0 : Int64) (e := 3) tf_643 tf_610 tf_644 tf_645
  replace e14 : F_L_isError N f13 h.2 (6894397 : Int64) (0 : Int64) 3 = some (true, f14) := e14
  replace w14 : k_wd h.2 (h.2 + 70) 0 (k_of k_e0s) [] (fun _ => none) T_11 f14 := w14
  have z14 := z13.st a14
  refine x_calls (As := [.ref h.2, .long (6894397 : Int64), .long (0 : Int64), .int 3]) (rest := []) 199 8038 dL_texts_149 mi_L_isError rfl ml_L_248 rfl rfl (Nat.le_of_ble_eq_true rfl) ⟨by decide, by decide⟩ (by omega) (by omega) (c_L_isError N _ _ _ _ _ _ _ e14) (x_K.some ?_) x_KX.none
  refine x_toX (st' := [.int 1]) rfl ?_
  clear e14 a14 w13 z13
  refine x_if_eq_n 251 dL_texts_152 (by decide) (by decide) ?_
  refine x_aload_n 0 dL_texts_155 rfl rfl ?_
  refine x_ldc2 kc_L_274 dL_texts_156 ?_
  refine x_lconst 0 (by decide) dL_texts_159 ?_
  refine x_iconst 1 (by decide) dL_texts_160 ?_
  obtain ⟨f15, e15, a15, w15⟩ := k_iserr hN w14 (101 : Int64) (0 : Int64) (e := 1) tf_646 tf_610 tf_647 tf_648
  replace e15 : F_L_isError N f14 h.2 (101 : Int64) (0 : Int64) 1 = some (true, f15) := e15
  replace w15 : k_wd h.2 (h.2 + 70) 0 (k_of k_e0s) [] (fun _ => none) T_12 f15 := w15
  have z15 := z14.st a15
  refine x_calls (As := [.ref h.2, .long (101 : Int64), .long (0 : Int64), .int 1]) (rest := []) 199 8038 dL_texts_161 mi_L_isError rfl ml_L_248 rfl rfl (Nat.le_of_ble_eq_true rfl) ⟨by decide, by decide⟩ (by omega) (by omega) (c_L_isError N _ _ _ _ _ _ _ e15) (x_K.some ?_) x_KX.none
  refine x_toX (st' := [.int 1]) rfl ?_
  clear e15 a15 w14 z14
  refine x_if_eq_n 251 dL_texts_164 (by decide) (by decide) ?_
  refine x_aload_n 0 dL_texts_167 rfl rfl ?_
  refine x_lconst 0 (by decide) dL_texts_168 ?_
  refine x_lconst 0 (by decide) dL_texts_169 ?_
  refine x_iconst 0 (by decide) dL_texts_170 ?_
  obtain ⟨f16, e16, a16, w16⟩ := k_iserr hN w15 (0 : Int64) (0 : Int64) (e := 0) tf_610 tf_610 tf_649 tf_650
  replace e16 : F_L_isError N f15 h.2 (0 : Int64) (0 : Int64) 0 = some (true, f16) := e16
  replace w16 : k_wd h.2 (h.2 + 70) 0 (k_of k_e0s) [] (fun _ => none) T_13 f16 := w16
  have z16 := z15.st a16
  refine x_calls (As := [.ref h.2, .long (0 : Int64), .long (0 : Int64), .int 0]) (rest := []) 199 8038 dL_texts_171 mi_L_isError rfl ml_L_248 rfl rfl (Nat.le_of_ble_eq_true rfl) ⟨by decide, by decide⟩ (by omega) (by omega) (c_L_isError N _ _ _ _ _ _ _ e16) (x_K.some ?_) x_KX.none
  refine x_toX (st' := [.int 1]) rfl ?_
  clear e16 a16 w15 z15
  refine x_if_eq_n 251 dL_texts_174 (by decide) (by decide) ?_
  refine x_aload_n 0 dL_texts_177 rfl rfl ?_
  refine x_ldc2 kc_L_276 dL_texts_178 ?_
  refine x_lconst 0 (by decide) dL_texts_181 ?_
  refine x_iconst 5 (by decide) dL_texts_182 ?_
  obtain ⟨f17, e17, a17, w17⟩ := k_iserr hN w16 (426198121315 : Int64) (0 : Int64) (e := 5) tf_651 tf_610 tf_652 tf_653
  replace e17 : F_L_isError N f16 h.2 (426198121315 : Int64) (0 : Int64) 5 = some (true, f17) := e17
  replace w17 : k_wd h.2 (h.2 + 70) 0 (k_of k_e0s) [] (fun _ => none) T_14 f17 := w17
  have z17 := z16.st a17
  refine x_calls (As := [.ref h.2, .long (426198121315 : Int64), .long (0 : Int64), .int 5]) (rest := []) 199 8038 dL_texts_183 mi_L_isError rfl ml_L_248 rfl rfl (Nat.le_of_ble_eq_true rfl) ⟨by decide, by decide⟩ (by omega) (by omega) (c_L_isError N _ _ _ _ _ _ _ e17) (x_K.some ?_) x_KX.none
  refine x_toX (st' := [.int 1]) rfl ?_
  clear e17 a17 w16 z16
  refine x_if_eq_n 251 dL_texts_186 (by decide) (by decide) ?_
  refine x_aload_n 0 dL_texts_189 rfl rfl ?_
  refine x_ldc2 kc_L_278 dL_texts_190 ?_
  refine x_lconst 0 (by decide) dL_texts_193 ?_
  refine x_bipush 8 (by decide) dL_texts_194 ?_
  obtain ⟨f18, e18, a18, w18⟩ := k_iserr hN w17 (8086557523856668985 : Int64) (0 : Int64) (e := 8) tf_654 tf_610 tf_655 tf_656
  replace e18 : F_L_isError N f17 h.2 (8086557523856668985 : Int64) (0 : Int64) 8 = some (true, f18) := e18
  replace w18 : k_wd h.2 (h.2 + 70) 0 (k_of k_e0s) [] (fun _ => none) T_15 f18 := w18
  have z18 := z17.st a18
  refine x_calls (As := [.ref h.2, .long (8086557523856668985 : Int64), .long (0 : Int64), .int 8]) (rest := []) 199 8038 dL_texts_196 mi_L_isError rfl ml_L_248 rfl rfl (Nat.le_of_ble_eq_true rfl) ⟨by decide, by decide⟩ (by omega) (by omega) (c_L_isError N _ _ _ _ _ _ _ e18) (x_K.some ?_) x_KX.none
  refine x_toX (st' := [.int 1]) rfl ?_
  clear e18 a18 w17 z17
  refine x_if_eq_n 251 dL_texts_199 (by decide) (by decide) ?_
  refine x_aload_n 0 dL_texts_202 rfl rfl ?_
  refine x_ldc2 kc_L_280 dL_texts_203 ?_
  refine x_lconst 0 (by decide) dL_texts_206 ?_
  refine x_iconst 4 (by decide) dL_texts_207 ?_
  obtain ⟨f19, e19, a19, w19⟩ := k_iserr hN w18 (451780882485 : Int64) (0 : Int64) (e := 4) tf_657 tf_610 tf_658 tf_659
  replace e19 : F_L_isError N f18 h.2 (451780882485 : Int64) (0 : Int64) 4 = some (true, f19) := e19
  replace w19 : k_wd h.2 (h.2 + 70) 0 (k_of k_e0s) [] (fun _ => none) T_16 f19 := w19
  have z19 := z18.st a19
  refine x_calls (As := [.ref h.2, .long (451780882485 : Int64), .long (0 : Int64), .int 4]) (rest := []) 199 8038 dL_texts_208 mi_L_isError rfl ml_L_248 rfl rfl (Nat.le_of_ble_eq_true rfl) ⟨by decide, by decide⟩ (by omega) (by omega) (c_L_isError N _ _ _ _ _ _ _ e19) (x_K.some ?_) x_KX.none
  refine x_toX (st' := [.int 1]) rfl ?_
  clear e19 a19 w18 z18
  refine x_if_eq_n 251 dL_texts_211 (by decide) (by decide) ?_
  refine x_aload_n 0 dL_texts_214 rfl rfl ?_
  refine x_ldc2 kc_L_282 dL_texts_215 ?_
  refine x_lconst 0 (by decide) dL_texts_218 ?_
  refine x_iconst 0 (by decide) dL_texts_219 ?_
  obtain ⟨f20, e20, a20, w20⟩ := k_iserr hN w19 (120 : Int64) (0 : Int64) (e := 0) tf_660 tf_610 tf_661 tf_662
  replace e20 : F_L_isError N f19 h.2 (120 : Int64) (0 : Int64) 0 = some (true, f20) := e20
  replace w20 : k_wd h.2 (h.2 + 70) 0 (k_of k_e0s) [] (fun _ => none) T_17 f20 := w20
  have z20 := z19.st a20
  refine x_calls (As := [.ref h.2, .long (120 : Int64), .long (0 : Int64), .int 0]) (rest := []) 199 8038 dL_texts_220 mi_L_isError rfl ml_L_248 rfl rfl (Nat.le_of_ble_eq_true rfl) ⟨by decide, by decide⟩ (by omega) (by omega) (c_L_isError N _ _ _ _ _ _ _ e20) (x_K.some ?_) x_KX.none
  refine x_toX (st' := [.int 1]) rfl ?_
  clear e20 a20 w19 z19
  refine x_if_eq_n 251 dL_texts_223 (by decide) (by decide) ?_
  refine x_aload_n 0 dL_texts_226 rfl rfl ?_
  refine x_ldc2 kc_L_284 dL_texts_227 ?_
  refine x_lconst 0 (by decide) dL_texts_230 ?_
  refine x_bipush 6 (by decide) dL_texts_231 ?_
  obtain ⟨f21, e21, a21, w21⟩ := k_iserr hN w20 (27643028988834168 : Int64) (0 : Int64) (e := 6) tf_663 tf_610 tf_664 tf_665
  replace e21 : F_L_isError N f20 h.2 (27643028988834168 : Int64) (0 : Int64) 6 = some (true, f21) := e21
  replace w21 : k_wd h.2 (h.2 + 70) 0 (k_of k_e0s) [] (fun _ => none) T_18 f21 := w21
  have z21 := z20.st a21
  refine x_calls (As := [.ref h.2, .long (27643028988834168 : Int64), .long (0 : Int64), .int 6]) (rest := []) 199 8038 dL_texts_233 mi_L_isError rfl ml_L_248 rfl rfl (Nat.le_of_ble_eq_true rfl) ⟨by decide, by decide⟩ (by omega) (by omega) (c_L_isError N _ _ _ _ _ _ _ e21) (x_K.some ?_) x_KX.none
  refine x_toX (st' := [.int 1]) rfl ?_
  clear e21 a21 w20 z20
  refine x_if_eq_n 251 dL_texts_236 (by decide) (by decide) ?_
  refine x_aload_n 0 dL_texts_239 rfl rfl ?_
  refine x_ldc2 kc_L_286 dL_texts_240 ?_
  refine x_lconst 0 (by decide) dL_texts_243 ?_
  refine x_iconst 0 (by decide) dL_texts_244 ?_
  obtain ⟨f22, e22, a22, w22⟩ := k_iserr hN w21 (1345404209 : Int64) (0 : Int64) (e := 0) tf_666 tf_610 tf_667 tf_668
  replace e22 : F_L_isError N f21 h.2 (1345404209 : Int64) (0 : Int64) 0 = some (true, f22) := e22
  replace w22 : k_wd h.2 (h.2 + 70) 0 (k_of k_e0s) [] (fun _ => none) T_19 f22 := w22
  have z22 := z21.st a22
  refine x_calls (As := [.ref h.2, .long (1345404209 : Int64), .long (0 : Int64), .int 0]) (rest := []) 199 8038 dL_texts_245 mi_L_isError rfl ml_L_248 rfl rfl (Nat.le_of_ble_eq_true rfl) ⟨by decide, by decide⟩ (by omega) (by omega) (c_L_isError N _ _ _ _ _ _ _ e22) (x_K.some ?_) x_KX.none
  refine x_toX (st' := [.int 1]) rfl ?_
  clear e22 a22 w21 z21
  refine x_if_ne_y 253 dL_texts_248 (by decide) (by decide) ?_
  refine x_aload_n 0 dL_texts_253 rfl rfl ?_
  obtain ⟨f23, e23, a23, w23⟩ := k_clrb (N := N) w22
  rw [tf_669] at e23
  have z23 := z22.st a23
  obtain ⟨fs24, hfs24⟩ := w22.ob
  refine x_callv (As := []) (rest := []) 199 8038 dL_texts_254 mi_X5_clearBuffer ml_L_239 rfl rfl (Nat.le_of_ble_eq_true rfl) ⟨by decide, by decide⟩ (by omega) (by omega) hfs24 rfl (c_X5_clearBuffer N _ _ _ _ e23) (x_K.some ?_) x_KX.none
  refine x_toX (st' := [.int 4]) rfl ?_
  clear e23 a23 hfs24 w22 z22
  refine x_iconst 4 (by decide) dL_texts_257 ?_
  refine x_icmp_ne_n 450 dL_texts_258 (by decide) (by decide) ?_
  refine x_aload_n 0 dL_texts_261 rfl rfl ?_
  refine x_ldc2 kc_L_288 dL_texts_262 ?_
  obtain ⟨f25, e25, a25, w25⟩ := k_types hN w23 (8085435987673495101 : Int64) tf_670 tf_671
  replace w25 : k_wd h.2 (h.2 + 70) 0 (k_of k_e0s) [] (fun _ => none) T_20 f25 := w25
  have z25 := z23.st a25
  refine x_calls (As := [.ref h.2, .long (8085435987673495101 : Int64)]) (rest := []) 199 8038 dL_texts_265 mi_L_types rfl ml_L_242 rfl rfl (Nat.le_of_ble_eq_true rfl) ⟨by decide, by decide⟩ (by omega) (by omega) (c_L_types N _ _ _ _ _ e25) (x_K.some ?_) x_KX.none
  refine x_toX (st' := [.int 1]) rfl ?_
  clear e25 a25 w23 z23
  refine x_if_eq_n 450 dL_texts_268 (by decide) (by decide) ?_
  refine x_aload_n 0 dL_texts_271 rfl rfl ?_
  refine x_ldc2 kc_L_290 dL_texts_272 ?_
  obtain ⟨f26, e26, a26, w26⟩ := k_types hN w25 (3619596905314728809 : Int64) tf_672 tf_673
  replace w26 : k_wd h.2 (h.2 + 70) 0 (k_of k_e0s) [] (fun _ => none) T_21 f26 := w26
  have z26 := z25.st a26
  refine x_calls (As := [.ref h.2, .long (3619596905314728809 : Int64)]) (rest := []) 199 8038 dL_texts_275 mi_L_types rfl ml_L_242 rfl rfl (Nat.le_of_ble_eq_true rfl) ⟨by decide, by decide⟩ (by omega) (by omega) (c_L_types N _ _ _ _ _ e26) (x_K.some ?_) x_KX.none
  refine x_toX (st' := [.int 1]) rfl ?_
  clear e26 a26 w25 z25
  refine x_if_eq_n 450 dL_texts_278 (by decide) (by decide) ?_
  refine x_aload_n 0 dL_texts_281 rfl rfl ?_
  refine x_ldc2 kc_L_292 dL_texts_282 ?_
  obtain ⟨f27, e27, a27, w27⟩ := k_types hN w26 (3980398373973146929 : Int64) tf_674 tf_675
  replace w27 : k_wd h.2 (h.2 + 70) 0 (k_of k_e0s) [] (fun _ => none) T_22 f27 := w27
  have z27 := z26.st a27
  refine x_calls (As := [.ref h.2, .long (3980398373973146929 : Int64)]) (rest := []) 199 8038 dL_texts_285 mi_L_types rfl ml_L_242 rfl rfl (Nat.le_of_ble_eq_true rfl) ⟨by decide, by decide⟩ (by omega) (by omega) (c_L_types N _ _ _ _ _ e27) (x_K.some ?_) x_KX.none
  refine x_toX (st' := [.int 1]) rfl ?_
  clear e27 a27 w26 z26
  refine x_if_eq_n 450 dL_texts_288 (by decide) (by decide) ?_
  refine x_aload_n 0 dL_texts_291 rfl rfl ?_
  refine x_bipush 10 (by decide) dL_texts_292 ?_
  refine x_iconst 0 (by decide) dL_texts_294 ?_
  refine x_iconst 0 (by decide) dL_texts_295 ?_
  refine x_dom (fun hd29 => ?_)
  obtain ⟨f29, e29, a29, w29⟩ := k_fol_no hN (by omega) w27 hd29 (z27.le w27 hd29) tf_676 (k_none_of tf_677) 0 0
  have z29 := z27.st a29
  refine x_callsH (As := [.ref h.2, .int 10, .int 0, .int 0]) (rest := []) 165 6123 dL_texts_296 mi_L_call rfl ml_L_182 rfl rfl (Nat.le_of_ble_eq_true rfl) ⟨by decide, by decide⟩ (by omega) (by omega) (c_L_call N _ _ _ _ _ _ e29) (fun n29 => ?_)
  refine x_toX (st' := [.int (-2013)]) rfl ?_
  clear hd29 e29 a29 w27 z27
  refine x_sipush (-2013) (by decide) dL_texts_299 ?_
  refine x_icmp_ne_n 450 dL_texts_302 (by decide) (by decide) ?_
  refine x_aload_n 0 dL_texts_305 rfl rfl ?_
  obtain ⟨f31, e31, a31, w31⟩ := w29.q1 (G := fun f1 => (nI (k_all (k_of k_e0s)).1, f1)) (fun q St bf h => q_found hN h w29.gd.1)
  rw [qq_fd_of tf_678, tf_679] at e31
  have z31 := z29.st a31
  obtain ⟨fs32, hfs32⟩ := w29.ob
  refine x_callv (As := []) (rest := []) 165 6123 dL_texts_306 mi_X5_found ml_L_158 rfl rfl (Nat.le_of_ble_eq_true rfl) ⟨by decide, by decide⟩ (by omega) (by omega) hfs32 rfl (c_X5_found N _ _ _ _ e31) (x_K.some ?_) x_KX.none
  refine x_toX (st' := [.int 0]) rfl ?_
  clear e31 a31 hfs32 w29 z29
  refine x_if_ne_n 450 dL_texts_309 (by decide) (by decide) ?_
  refine x_aload_n 0 dL_texts_312 rfl rfl ?_
  obtain ⟨q34, St34, bf34, h34, g34⟩ := w31.ci
  have e34 : F_X5_savedStates N f31 h.2 = some 0 := ((q_saved (N := N) h34).trans rfl)
  obtain ⟨fs35, hfs35⟩ := w31.ob
  refine x_callv (As := []) (rest := []) 165 6123 dL_texts_313 mi_X5_savedStates ml_L_164 rfl rfl (Nat.le_of_ble_eq_true rfl) ⟨by decide, by decide⟩ (by omega) (by omega) hfs35 rfl (c_X5_savedStates N _ _ _ _ e34) (x_K.some ?_) x_KX.none
  clear h34 g34 e34 hfs35
  refine x_if_ne_n 450 dL_texts_316 (by decide) (by decide) ?_
  refine x_aload_n 0 dL_texts_319 rfl rfl ?_
  obtain ⟨f36, e36, a36, w36⟩ := k_clrb (N := N) w31
  rw [tf_680] at e36
  have z36 := z31.st a36
  obtain ⟨fs37, hfs37⟩ := w31.ob
  refine x_callv (As := []) (rest := []) 165 6123 dL_texts_320 mi_X5_clearBuffer ml_L_239 rfl rfl (Nat.le_of_ble_eq_true rfl) ⟨by decide, by decide⟩ (by omega) (by omega) hfs37 rfl (c_X5_clearBuffer N _ _ _ _ e36) (x_K.some ?_) x_KX.none
  refine x_toX (st' := [.int 24]) rfl ?_
  clear e36 a36 hfs37 w31 z31
  refine x_bipush 24 (by decide) dL_texts_323 ?_
  refine x_icmp_ne_n 450 dL_texts_325 (by decide) (by decide) ?_
  refine x_aload_n 0 dL_texts_328 rfl rfl ?_
  refine x_ldc2 kc_L_288 dL_texts_329 ?_
  obtain ⟨f38, e38, a38, w38⟩ := k_types hN w36 (8085435987673495101 : Int64) tf_670 tf_671
  replace w38 : k_wd h.2 (h.2 + 70) 0 (k_of k_e0s) [] (fun _ => none) T_20 f38 := w38
  have z38 := z36.st a38
  refine x_calls (As := [.ref h.2, .long (8085435987673495101 : Int64)]) (rest := []) 165 6123 dL_texts_332 mi_L_types rfl ml_L_242 rfl rfl (Nat.le_of_ble_eq_true rfl) ⟨by decide, by decide⟩ (by omega) (by omega) (c_L_types N _ _ _ _ _ e38) (x_K.some ?_) x_KX.none
  refine x_toX (st' := [.int 1]) rfl ?_
  clear e38 a38 w36 z36
  refine x_if_eq_n 450 dL_texts_335 (by decide) (by decide) ?_
  refine x_aload_n 0 dL_texts_338 rfl rfl ?_
  refine x_ldc2 kc_L_290 dL_texts_339 ?_
  obtain ⟨f39, e39, a39, w39⟩ := k_types hN w38 (3619596905314728809 : Int64) tf_672 tf_673
  replace w39 : k_wd h.2 (h.2 + 70) 0 (k_of k_e0s) [] (fun _ => none) T_21 f39 := w39
  have z39 := z38.st a39
  refine x_calls (As := [.ref h.2, .long (3619596905314728809 : Int64)]) (rest := []) 165 6123 dL_texts_342 mi_L_types rfl ml_L_242 rfl rfl (Nat.le_of_ble_eq_true rfl) ⟨by decide, by decide⟩ (by omega) (by omega) (c_L_types N _ _ _ _ _ e39) (x_K.some ?_) x_KX.none
  refine x_toX (st' := [.int 1]) rfl ?_
  clear e39 a39 w38 z38
  refine x_if_eq_n 450 dL_texts_345 (by decide) (by decide) ?_
  refine x_aload_n 0 dL_texts_348 rfl rfl ?_
  refine x_ldc2 kc_L_294 dL_texts_349 ?_
  obtain ⟨f40, e40, a40, w40⟩ := k_types hN w39 (3980398373906103138 : Int64) tf_681 tf_682
  replace w40 : k_wd h.2 (h.2 + 70) 0 (k_of k_e0s) [] (fun _ => none) T_23 f40 := w40
  have z40 := z39.st a40
  refine x_calls (As := [.ref h.2, .long (3980398373906103138 : Int64)]) (rest := []) 165 6123 dL_texts_352 mi_L_types rfl ml_L_242 rfl rfl (Nat.le_of_ble_eq_true rfl) ⟨by decide, by decide⟩ (by omega) (by omega) (c_L_types N _ _ _ _ _ e40) (x_K.some ?_) x_KX.none
  refine x_toX (st' := [.int 1]) rfl ?_
  clear e40 a40 w39 z39
  refine x_if_eq_n 450 dL_texts_355 (by decide) (by decide) ?_
  refine x_aload_n 0 dL_texts_358 rfl rfl ?_
  refine x_ldc2 kc_L_296 dL_texts_359 ?_
  obtain ⟨f41, e41, a41, w41⟩ := k_types hN w40 (3544385938467142969 : Int64) tf_683 tf_684
  replace w41 : k_wd h.2 (h.2 + 70) 0 (k_of k_e0s) [] (fun _ => none) T_24 f41 := w41
  have z41 := z40.st a41
  refine x_calls (As := [.ref h.2, .long (3544385938467142969 : Int64)]) (rest := []) 165 6123 dL_texts_362 mi_L_types rfl ml_L_242 rfl rfl (Nat.le_of_ble_eq_true rfl) ⟨by decide, by decide⟩ (by omega) (by omega) (c_L_types N _ _ _ _ _ e41) (x_K.some ?_) x_KX.none
  refine x_toX (st' := [.int 1]) rfl ?_
  clear e41 a41 w40 z40
  refine x_if_eq_n 450 dL_texts_365 (by decide) (by decide) ?_
  refine x_aload_n 0 dL_texts_368 rfl rfl ?_
  refine x_dom (fun hd42 => ?_)
  obtain ⟨f42, m42, e42, a42, w42⟩ := k_fol_yes hN (by omega) w41 hd42 (z41.le w41 hd42) tf_703 tfo_685
  rw [qq_fd_of tf_704, tf_705] at e42
  replace w42 : k_wd h.2 (h.2 + 70) 61 (k_of L_158) [(k_of k_e0s)] (fun _ => none) [] f42 := w42
  have z42 := z41.st a42
  obtain ⟨fs43, hfs43⟩ := w41.ob
  refine x_callv (As := []) (rest := []) 133 4220 dL_texts_369 mi_X5_follow ml_L_62 rfl rfl (Nat.le_of_ble_eq_true rfl) ⟨by decide, by decide⟩ (by omega) (by omega) hfs43 rfl (c_X5_follow N _ _ _ e42) (x_K.some ?_) x_KX.none
  refine x_toX (st' := [.int 2]) rfl ?_
  clear hd42 e42 a42 hfs43 w41 z41
  refine x_iconst 2 (by decide) dL_texts_372 ?_
  refine x_icmp_ne_n 450 dL_texts_373 (by decide) (by decide) ?_
  refine x_aload_n 0 dL_texts_376 rfl rfl ?_
  obtain ⟨f44, e44, a44, w44⟩ := k_clrb (N := N) w42
  rw [tf_706] at e44
  have z44 := z42.st a44
  obtain ⟨fs45, hfs45⟩ := w42.ob
  refine x_callv (As := []) (rest := []) 133 4220 dL_texts_377 mi_X5_clearBuffer ml_L_239 rfl rfl (Nat.le_of_ble_eq_true rfl) ⟨by decide, by decide⟩ (by omega) (by omega) hfs45 rfl (c_X5_clearBuffer N _ _ _ _ e44) (x_K.some ?_) x_KX.none
  refine x_toX (st' := [.int 0]) rfl ?_
  clear e44 a44 hfs45 w42 z42
  refine x_if_ne_n 450 dL_texts_380 (by decide) (by decide) ?_
  refine x_aload_n 0 dL_texts_383 rfl rfl ?_
  refine x_iconst 0 (by decide) dL_texts_384 ?_
  obtain ⟨f47, e47, a47, w47⟩ := w44.q1 (G := fun f1 => qm (qa_ka (k_of L_158) 0) f1) (fun q St bf h => q_ka hN h w44.gd.1 0)
  rw [qq_ka_of tf_704 0, tf_707] at e47
  replace e47 : F_X5_keyAt N f44 h.2 0 = some (.inl (6, f47)) := e47
  have z47 := z44.st a47
  obtain ⟨fs48, hfs48⟩ := w44.ob
  refine x_callv (As := [.int 0]) (rest := []) 132 4214 dL_texts_385 mi_X5_keyAt ml_L_93 rfl rfl (Nat.le_of_ble_eq_true rfl) ⟨by decide, by decide⟩ (by omega) (by omega) hfs48 rfl (c_X5_keyAt N _ _ _ _ _ e47) (x_K.some ?_) x_KX.none
  refine x_toX (st' := [.int 6]) rfl ?_
  clear e47 a47 hfs48 w44 z44
  refine x_bipush 6 (by decide) dL_texts_388 ?_
  refine x_icmp_ne_n 450 dL_texts_390 (by decide) (by decide) ?_
  refine x_aload_n 0 dL_texts_393 rfl rfl ?_
  refine x_bipush 9 (by decide) dL_texts_394 ?_
  obtain ⟨q50, St50, bf50, h50, g50⟩ := w47.ci
  have e50 : F_X5_valueOf N f47 h.2 9 = some (.inl 9) := (q_val hN h50 g50 9).trans (congrArg some tf_708)
  obtain ⟨fs51, hfs51⟩ := w47.ob
  refine x_callv (As := [.int 9]) (rest := []) 130 4202 dL_texts_396 mi_X5_valueOf ml_L_75 rfl rfl (Nat.le_of_ble_eq_true rfl) ⟨by decide, by decide⟩ (by omega) (by omega) hfs51 rfl (c_X5_valueOf N _ _ _ _ _ e50) (x_K.some ?_) x_KX.none
  refine x_toX (st' := [.int 9]) rfl ?_
  clear h50 g50 e50 hfs51
  refine x_bipush 9 (by decide) dL_texts_399 ?_
  refine x_icmp_ne_n 450 dL_texts_401 (by decide) (by decide) ?_
  refine x_aload_n 0 dL_texts_404 rfl rfl ?_
  refine x_iconst 0 (by decide) dL_texts_405 ?_
  obtain ⟨q53, St53, bf53, h53, g53⟩ := w47.ci
  have e53 : F_X5_entriesOf N f47 h.2 0 = some (.inl 2) := (q_own hN h53 g53 0).trans (congrArg some tf_709)
  obtain ⟨fs54, hfs54⟩ := w47.ob
  refine x_callv (As := [.int 0]) (rest := []) 129 4196 dL_texts_406 mi_X5_entriesOf ml_L_109 rfl rfl (Nat.le_of_ble_eq_true rfl) ⟨by decide, by decide⟩ (by omega) (by omega) hfs54 rfl (c_X5_entriesOf N _ _ _ _ _ e53) (x_K.some ?_) x_KX.none
  refine x_toX (st' := [.int 2]) rfl ?_
  clear h53 g53 e53 hfs54
  refine x_iconst 2 (by decide) dL_texts_409 ?_
  refine x_icmp_ne_n 450 dL_texts_410 (by decide) (by decide) ?_
  refine x_aload_n 0 dL_texts_413 rfl rfl ?_
  obtain ⟨q56, St56, bf56, h56, g56⟩ := w47.ci
  have e56 : F_X5_builds N f47 h.2 = some 1 := ((q_builds (N := N) h56).trans (congrArg some tf_710))
  obtain ⟨fs57, hfs57⟩ := w47.ob
  refine x_callv (As := []) (rest := []) 129 4196 dL_texts_414 mi_X5_builds ml_L_149 rfl rfl (Nat.le_of_ble_eq_true rfl) ⟨by decide, by decide⟩ (by omega) (by omega) hfs57 rfl (c_X5_builds N _ _ _ _ e56) (x_K.some ?_) x_KX.none
  clear h56 g56 e56 hfs57
  refine x_iconst 1 (by decide) dL_texts_417 ?_
  refine x_icmp_ne_n 450 dL_texts_418 (by decide) (by decide) ?_
  refine x_aload_n 0 dL_texts_421 rfl rfl ?_
  obtain ⟨q59, St59, bf59, h59, g59⟩ := w47.ci
  have e59 : F_X5_savedStates N f47 h.2 = some 1 := ((q_saved (N := N) h59).trans rfl)
  obtain ⟨fs60, hfs60⟩ := w47.ob
  refine x_callv (As := []) (rest := []) 129 4196 dL_texts_422 mi_X5_savedStates ml_L_164 rfl rfl (Nat.le_of_ble_eq_true rfl) ⟨by decide, by decide⟩ (by omega) (by omega) hfs60 rfl (c_X5_savedStates N _ _ _ _ e59) (x_K.some ?_) x_KX.none
  clear h59 g59 e59 hfs60
  refine x_iconst 1 (by decide) dL_texts_425 ?_
  refine x_icmp_ne_n 450 dL_texts_426 (by decide) (by decide) ?_
  refine x_aload_n 0 dL_texts_429 rfl rfl ?_
  refine x_dom (fun hd63 => ?_)
  obtain ⟨f63, e63, a63, w63⟩ := k_undone_yes (hs := m42) hN (P := []) (s := (k_of k_e0s)) w47
  replace e63 : F_L_undone N (f47, m42) h.2 = some (0, f63) := e63
  have z63 := z47.st a63
  refine x_callsH (As := [.ref h.2]) (rest := []) 128 4190 dL_texts_430 mi_L_undone rfl ml_L_201 rfl rfl (Nat.le_of_ble_eq_true rfl) ⟨by decide, by decide⟩ (by omega) (by omega) (c_L_undone N _ _ _ e63) (fun n63 => ?_)
  refine x_toX (st' := [.int 0]) rfl ?_
  clear hd63 e63 a63 w47 z47
  refine x_if_ne_n 450 dL_texts_433 (by decide) (by decide) ?_
  refine x_aload_n 0 dL_texts_436 rfl rfl ?_
  obtain ⟨f65, e65, a65, w65⟩ := w63.q1 (G := fun f1 => (nI (k_all (k_of k_e0s)).1, f1)) (fun q St bf h => q_found hN h w63.gd.1)
  rw [qq_fd_of tf_678, tf_679] at e65
  have z65 := z63.st a65
  obtain ⟨fs66, hfs66⟩ := w63.ob
  refine x_callv (As := []) (rest := []) 128 4190 dL_texts_437 mi_X5_found ml_L_158 rfl rfl (Nat.le_of_ble_eq_true rfl) ⟨by decide, by decide⟩ (by omega) (by omega) hfs66 rfl (c_X5_found N _ _ _ _ e65) (x_K.some ?_) x_KX.none
  refine x_toX (st' := [.int 0]) rfl ?_
  clear e65 a65 hfs66 w63 z63
  refine x_if_ne_n 450 dL_texts_440 (by decide) (by decide) ?_
  refine x_aload_n 0 dL_texts_443 rfl rfl ?_
  obtain ⟨q68, St68, bf68, h68, g68⟩ := w65.ci
  have e68 : F_X5_leaves N f65 h.2 = some 0 := ((q_leaves (N := N) h68).trans (congrArg some tf_711))
  obtain ⟨fs69, hfs69⟩ := w65.ob
  refine x_callv (As := []) (rest := []) 128 4190 dL_texts_444 mi_X5_leaves ml_L_146 rfl rfl (Nat.le_of_ble_eq_true rfl) ⟨by decide, by decide⟩ (by omega) (by omega) hfs69 rfl (c_X5_leaves N _ _ _ _ e68) (x_K.some ?_) x_KX.none
  clear h68 g68 e68 hfs69
  refine x_if_eq_y 452 dL_texts_447 (by decide) (by decide) ?_
  refine x_iconst 0 (by decide) dL_texts_452 ?_
  refine x_istore_n (i := 1) (lv' := [(1, .int 0), (0, .ref h.2)]) dL_texts_453 rfl (by decide) rfl ?_
  refine x_iload_n 0 dL_texts_454 rfl rfl ?_
  refine x_bipush 60 (by decide) dL_texts_455 ?_
  refine x_icmp_ge_n 501 dL_texts_457 (by decide) (by decide) ?_
  refine x_aload_n 1 dL_texts_460 rfl rfl ?_
  refine x_iload_n 0 dL_texts_461 rfl rfl ?_
  refine x_iconst 2 (by decide) dL_texts_462 ?_
  refine x_irem (f := fun v => if v = 0 then some () else none) (w := ()) dL_texts_463 (by decide) (fun v70 hv70 => ?_)
  obtain rfl : v70 = 0 := by by_cases z : v70 = 0; exact z; rw [if_neg z] at hv70; cases hv70
  refine x_if_ne_n 472 dL_texts_464 (by decide) (by decide) ?_
  refine x_bipush 99 (by decide) dL_texts_467 ?_
  refine x_goto 474 dL_texts_469 (by decide) ?_
  obtain ⟨f71, e71, a71, w71⟩ := k_app (N := N) w65 99
  rw [tf_712] at e71 w71
  replace w71 : k_wd h.2 (h.2 + 70) 61 (k_of k_e0s) [] (fun _ => none) [99] f71 := w71
  have z71 := z65.st a71
  obtain ⟨fs72, hfs72⟩ := w65.ob
  refine x_callv (As := [.int 99]) (rest := []) 127 4184 dL_texts_474 mi_X5_append ml_L_59 rfl rfl (Nat.le_of_ble_eq_true rfl) ⟨by decide, by decide⟩ (by omega) (by omega) hfs72 rfl (c_X5_append N _ _ _ _ _ e71) (x_K.some ?_) x_KX.none
  refine x_toX (st' := [.int 1]) rfl ?_
  clear e71 a71 hfs72 w65 z65
  refine x_iload_n 0 dL_texts_477 rfl rfl ?_
  refine x_iconst 1 (by decide) dL_texts_478 ?_
  refine x_iadd dL_texts_479 ?_
  refine x_toX (st' := [.int 1, .int 1]) rfl ?_
  refine x_icmp_ne_n 493 dL_texts_480 (by decide) (by decide) ?_
  refine x_aload_n 1 dL_texts_483 rfl rfl ?_
  obtain ⟨f73, e73, a73, w73⟩ := k_ferr_of hN w71 tf_713
  have z73 := z71.st a73
  obtain ⟨fs74, hfs74⟩ := w71.ob
  refine x_callv (As := []) (rest := []) 127 4184 dL_texts_484 mi_X5_firstError ml_L_65 rfl rfl (Nat.le_of_ble_eq_true rfl) ⟨by decide, by decide⟩ (by omega) (by omega) hfs74 rfl (c_X5_firstError N _ _ _ _ e73) (x_K.some ?_) x_KX.none
  refine x_toX (st' := [.int 1]) rfl ?_
  clear e73 a73 hfs74 w71 z71
  refine x_iload_n 0 dL_texts_487 rfl rfl ?_
  refine x_iconst 1 (by decide) dL_texts_488 ?_
  refine x_iadd dL_texts_489 ?_
  refine x_toX (st' := [.int 1, .int 1]) rfl ?_
  refine x_icmp_eq_y 495 dL_texts_490 (by decide) (by decide) ?_
  refine x_iinc 1 (lv' := [(1, .int 1), (0, .ref h.2)]) dL_texts_495 0 rfl (by decide) (by decide) rfl ?_
  refine x_goto 454 dL_texts_498 (by decide) ?_
  refine x_iload_n 0 dL_texts_454 rfl rfl ?_
  refine x_bipush 60 (by decide) dL_texts_455 ?_
  refine x_icmp_ge_n 501 dL_texts_457 (by decide) (by decide) ?_
  refine x_aload_n 1 dL_texts_460 rfl rfl ?_
  refine x_iload_n 0 dL_texts_461 rfl rfl ?_
  refine x_iconst 2 (by decide) dL_texts_462 ?_
  refine x_irem (f := fun v => if v = 1 then some () else none) (w := ()) dL_texts_463 (by decide) (fun v75 hv75 => ?_)
  obtain rfl : v75 = 1 := by by_cases z : v75 = 1; exact z; rw [if_neg z] at hv75; cases hv75
  refine x_if_ne_y 472 dL_texts_464 (by decide) (by decide) ?_
  refine x_bipush 59 (by decide) dL_texts_472 ?_
  obtain ⟨f76, e76, a76, w76⟩ := k_app (N := N) w73 59
  rw [tf_714] at e76 w76
  replace w76 : k_wd h.2 (h.2 + 70) 61 (k_of k_e0s) [] (fun _ => none) [99, 59] f76 := w76
  have z76 := z73.st a76
  obtain ⟨fs77, hfs77⟩ := w73.ob
  refine x_callv (As := [.int 59]) (rest := []) 126 4178 dL_texts_474 mi_X5_append ml_L_59 rfl rfl (Nat.le_of_ble_eq_true rfl) ⟨by decide, by decide⟩ (by omega) (by omega) hfs77 rfl (c_X5_append N _ _ _ _ _ e76) (x_K.some ?_) x_KX.none
  refine x_toX (st' := [.int 2]) rfl ?_
  clear e76 a76 hfs77 w73 z73
  refine x_iload_n 0 dL_texts_477 rfl rfl ?_
  refine x_iconst 1 (by decide) dL_texts_478 ?_
  refine x_iadd dL_texts_479 ?_
  refine x_toX (st' := [.int 2, .int 2]) rfl ?_
  refine x_icmp_ne_n 493 dL_texts_480 (by decide) (by decide) ?_
  refine x_aload_n 1 dL_texts_483 rfl rfl ?_
  obtain ⟨f78, e78, a78, w78⟩ := k_ferr_of hN w76 tf_715
  have z78 := z76.st a78
  obtain ⟨fs79, hfs79⟩ := w76.ob
  refine x_callv (As := []) (rest := []) 126 4178 dL_texts_484 mi_X5_firstError ml_L_65 rfl rfl (Nat.le_of_ble_eq_true rfl) ⟨by decide, by decide⟩ (by omega) (by omega) hfs79 rfl (c_X5_firstError N _ _ _ _ e78) (x_K.some ?_) x_KX.none
  refine x_toX (st' := [.int 2]) rfl ?_
  clear e78 a78 hfs79 w76 z76
  refine x_iload_n 0 dL_texts_487 rfl rfl ?_
  refine x_iconst 1 (by decide) dL_texts_488 ?_
  refine x_iadd dL_texts_489 ?_
  refine x_toX (st' := [.int 2, .int 2]) rfl ?_
  refine x_icmp_eq_y 495 dL_texts_490 (by decide) (by decide) ?_
  refine x_iinc 2 (lv' := [(1, .int 2), (0, .ref h.2)]) dL_texts_495 0 rfl (by decide) (by decide) rfl ?_
  refine x_goto 454 dL_texts_498 (by decide) ?_
  refine x_iload_n 0 dL_texts_454 rfl rfl ?_
  refine x_bipush 60 (by decide) dL_texts_455 ?_
  refine x_icmp_ge_n 501 dL_texts_457 (by decide) (by decide) ?_
  refine x_aload_n 1 dL_texts_460 rfl rfl ?_
  refine x_iload_n 0 dL_texts_461 rfl rfl ?_
  refine x_iconst 2 (by decide) dL_texts_462 ?_
  refine x_irem (f := fun v => if v = 0 then some () else none) (w := ()) dL_texts_463 (by decide) (fun v80 hv80 => ?_)
  obtain rfl : v80 = 0 := by by_cases z : v80 = 0; exact z; rw [if_neg z] at hv80; cases hv80
  refine x_if_ne_n 472 dL_texts_464 (by decide) (by decide) ?_
  refine x_bipush 99 (by decide) dL_texts_467 ?_
  refine x_goto 474 dL_texts_469 (by decide) ?_
  obtain ⟨f81, e81, a81, w81⟩ := k_app (N := N) w78 99
  rw [tf_716] at e81 w81
  replace w81 : k_wd h.2 (h.2 + 70) 61 (k_of k_e0s) [] (fun _ => none) [99, 59, 99] f81 := w81
  have z81 := z78.st a81
  obtain ⟨fs82, hfs82⟩ := w78.ob
  refine x_callv (As := [.int 99]) (rest := []) 125 4172 dL_texts_474 mi_X5_append ml_L_59 rfl rfl (Nat.le_of_ble_eq_true rfl) ⟨by decide, by decide⟩ (by omega) (by omega) hfs82 rfl (c_X5_append N _ _ _ _ _ e81) (x_K.some ?_) x_KX.none
  refine x_toX (st' := [.int 3]) rfl ?_
  clear e81 a81 hfs82 w78 z78
  refine x_iload_n 0 dL_texts_477 rfl rfl ?_
  refine x_iconst 1 (by decide) dL_texts_478 ?_
  refine x_iadd dL_texts_479 ?_
  refine x_toX (st' := [.int 3, .int 3]) rfl ?_
  refine x_icmp_ne_n 493 dL_texts_480 (by decide) (by decide) ?_
  refine x_aload_n 1 dL_texts_483 rfl rfl ?_
  obtain ⟨f83, e83, a83, w83⟩ := k_ferr_of hN w81 tf_717
  have z83 := z81.st a83
  obtain ⟨fs84, hfs84⟩ := w81.ob
  refine x_callv (As := []) (rest := []) 125 4172 dL_texts_484 mi_X5_firstError ml_L_65 rfl rfl (Nat.le_of_ble_eq_true rfl) ⟨by decide, by decide⟩ (by omega) (by omega) hfs84 rfl (c_X5_firstError N _ _ _ _ e83) (x_K.some ?_) x_KX.none
  refine x_toX (st' := [.int 3]) rfl ?_
  clear e83 a83 hfs84 w81 z81
  refine x_iload_n 0 dL_texts_487 rfl rfl ?_
  refine x_iconst 1 (by decide) dL_texts_488 ?_
  refine x_iadd dL_texts_489 ?_
  refine x_toX (st' := [.int 3, .int 3]) rfl ?_
  refine x_icmp_eq_y 495 dL_texts_490 (by decide) (by decide) ?_
  refine x_iinc 3 (lv' := [(1, .int 3), (0, .ref h.2)]) dL_texts_495 0 rfl (by decide) (by decide) rfl ?_
  refine x_goto 454 dL_texts_498 (by decide) ?_
  refine x_iload_n 0 dL_texts_454 rfl rfl ?_
  refine x_bipush 60 (by decide) dL_texts_455 ?_
  refine x_icmp_ge_n 501 dL_texts_457 (by decide) (by decide) ?_
  refine x_aload_n 1 dL_texts_460 rfl rfl ?_
  refine x_iload_n 0 dL_texts_461 rfl rfl ?_
  refine x_iconst 2 (by decide) dL_texts_462 ?_
  refine x_irem (f := fun v => if v = 1 then some () else none) (w := ()) dL_texts_463 (by decide) (fun v85 hv85 => ?_)
  obtain rfl : v85 = 1 := by by_cases z : v85 = 1; exact z; rw [if_neg z] at hv85; cases hv85
  refine x_if_ne_y 472 dL_texts_464 (by decide) (by decide) ?_
  refine x_bipush 59 (by decide) dL_texts_472 ?_
  obtain ⟨f86, e86, a86, w86⟩ := k_app (N := N) w83 59
  rw [tf_718] at e86 w86
  replace w86 : k_wd h.2 (h.2 + 70) 61 (k_of k_e0s) [] (fun _ => none) [99, 59, 99, 59] f86 := w86
  have z86 := z83.st a86
  obtain ⟨fs87, hfs87⟩ := w83.ob
  refine x_callv (As := [.int 59]) (rest := []) 124 4166 dL_texts_474 mi_X5_append ml_L_59 rfl rfl (Nat.le_of_ble_eq_true rfl) ⟨by decide, by decide⟩ (by omega) (by omega) hfs87 rfl (c_X5_append N _ _ _ _ _ e86) (x_K.some ?_) x_KX.none
  refine x_toX (st' := [.int 4]) rfl ?_
  clear e86 a86 hfs87 w83 z83
  refine x_iload_n 0 dL_texts_477 rfl rfl ?_
  refine x_iconst 1 (by decide) dL_texts_478 ?_
  refine x_iadd dL_texts_479 ?_
  refine x_toX (st' := [.int 4, .int 4]) rfl ?_
  refine x_icmp_ne_n 493 dL_texts_480 (by decide) (by decide) ?_
  refine x_aload_n 1 dL_texts_483 rfl rfl ?_
  obtain ⟨f88, e88, a88, w88⟩ := k_ferr_of hN w86 tf_719
  have z88 := z86.st a88
  obtain ⟨fs89, hfs89⟩ := w86.ob
  refine x_callv (As := []) (rest := []) 124 4166 dL_texts_484 mi_X5_firstError ml_L_65 rfl rfl (Nat.le_of_ble_eq_true rfl) ⟨by decide, by decide⟩ (by omega) (by omega) hfs89 rfl (c_X5_firstError N _ _ _ _ e88) (x_K.some ?_) x_KX.none
  refine x_toX (st' := [.int 4]) rfl ?_
  clear e88 a88 hfs89 w86 z86
  refine x_iload_n 0 dL_texts_487 rfl rfl ?_
  refine x_iconst 1 (by decide) dL_texts_488 ?_
  refine x_iadd dL_texts_489 ?_
  refine x_toX (st' := [.int 4, .int 4]) rfl ?_
  refine x_icmp_eq_y 495 dL_texts_490 (by decide) (by decide) ?_
  refine x_iinc 4 (lv' := [(1, .int 4), (0, .ref h.2)]) dL_texts_495 0 rfl (by decide) (by decide) rfl ?_
  refine x_goto 454 dL_texts_498 (by decide) ?_
  refine x_iload_n 0 dL_texts_454 rfl rfl ?_
  refine x_bipush 60 (by decide) dL_texts_455 ?_
  refine x_icmp_ge_n 501 dL_texts_457 (by decide) (by decide) ?_
  refine x_aload_n 1 dL_texts_460 rfl rfl ?_
  refine x_iload_n 0 dL_texts_461 rfl rfl ?_
  refine x_iconst 2 (by decide) dL_texts_462 ?_
  refine x_irem (f := fun v => if v = 0 then some () else none) (w := ()) dL_texts_463 (by decide) (fun v90 hv90 => ?_)
  obtain rfl : v90 = 0 := by by_cases z : v90 = 0; exact z; rw [if_neg z] at hv90; cases hv90
  refine x_if_ne_n 472 dL_texts_464 (by decide) (by decide) ?_
  refine x_bipush 99 (by decide) dL_texts_467 ?_
  refine x_goto 474 dL_texts_469 (by decide) ?_
  obtain ⟨f91, e91, a91, w91⟩ := k_app (N := N) w88 99
  rw [tf_720] at e91 w91
  replace w91 : k_wd h.2 (h.2 + 70) 61 (k_of k_e0s) [] (fun _ => none) [99, 59, 99, 59, 99] f91 := w91
  have z91 := z88.st a91
  obtain ⟨fs92, hfs92⟩ := w88.ob
  refine x_callv (As := [.int 99]) (rest := []) 123 4160 dL_texts_474 mi_X5_append ml_L_59 rfl rfl (Nat.le_of_ble_eq_true rfl) ⟨by decide, by decide⟩ (by omega) (by omega) hfs92 rfl (c_X5_append N _ _ _ _ _ e91) (x_K.some ?_) x_KX.none
  refine x_toX (st' := [.int 5]) rfl ?_
  clear e91 a91 hfs92 w88 z88
  refine x_iload_n 0 dL_texts_477 rfl rfl ?_
  refine x_iconst 1 (by decide) dL_texts_478 ?_
  refine x_iadd dL_texts_479 ?_
  refine x_toX (st' := [.int 5, .int 5]) rfl ?_
  refine x_icmp_ne_n 493 dL_texts_480 (by decide) (by decide) ?_
  refine x_aload_n 1 dL_texts_483 rfl rfl ?_
  obtain ⟨f93, e93, a93, w93⟩ := k_ferr_of hN w91 tf_721
  have z93 := z91.st a93
  obtain ⟨fs94, hfs94⟩ := w91.ob
  refine x_callv (As := []) (rest := []) 123 4160 dL_texts_484 mi_X5_firstError ml_L_65 rfl rfl (Nat.le_of_ble_eq_true rfl) ⟨by decide, by decide⟩ (by omega) (by omega) hfs94 rfl (c_X5_firstError N _ _ _ _ e93) (x_K.some ?_) x_KX.none
  refine x_toX (st' := [.int 5]) rfl ?_
  clear e93 a93 hfs94 w91 z91
  refine x_iload_n 0 dL_texts_487 rfl rfl ?_
  refine x_iconst 1 (by decide) dL_texts_488 ?_
  refine x_iadd dL_texts_489 ?_
  refine x_toX (st' := [.int 5, .int 5]) rfl ?_
  refine x_icmp_eq_y 495 dL_texts_490 (by decide) (by decide) ?_
  refine x_iinc 5 (lv' := [(1, .int 5), (0, .ref h.2)]) dL_texts_495 0 rfl (by decide) (by decide) rfl ?_
  refine x_goto 454 dL_texts_498 (by decide) ?_
  refine x_iload_n 0 dL_texts_454 rfl rfl ?_
  refine x_bipush 60 (by decide) dL_texts_455 ?_
  refine x_icmp_ge_n 501 dL_texts_457 (by decide) (by decide) ?_
  refine x_aload_n 1 dL_texts_460 rfl rfl ?_
  refine x_iload_n 0 dL_texts_461 rfl rfl ?_
  refine x_iconst 2 (by decide) dL_texts_462 ?_
  refine x_irem (f := fun v => if v = 1 then some () else none) (w := ()) dL_texts_463 (by decide) (fun v95 hv95 => ?_)
  obtain rfl : v95 = 1 := by by_cases z : v95 = 1; exact z; rw [if_neg z] at hv95; cases hv95
  refine x_if_ne_y 472 dL_texts_464 (by decide) (by decide) ?_
  refine x_bipush 59 (by decide) dL_texts_472 ?_
  obtain ⟨f96, e96, a96, w96⟩ := k_app (N := N) w93 59
  rw [tf_722] at e96 w96
  replace w96 : k_wd h.2 (h.2 + 70) 61 (k_of k_e0s) [] (fun _ => none) [99, 59, 99, 59, 99, 59] f96 := w96
  have z96 := z93.st a96
  obtain ⟨fs97, hfs97⟩ := w93.ob
  refine x_callv (As := [.int 59]) (rest := []) 122 4154 dL_texts_474 mi_X5_append ml_L_59 rfl rfl (Nat.le_of_ble_eq_true rfl) ⟨by decide, by decide⟩ (by omega) (by omega) hfs97 rfl (c_X5_append N _ _ _ _ _ e96) (x_K.some ?_) x_KX.none
  refine x_toX (st' := [.int 6]) rfl ?_
  clear e96 a96 hfs97 w93 z93
  refine x_iload_n 0 dL_texts_477 rfl rfl ?_
  refine x_iconst 1 (by decide) dL_texts_478 ?_
  refine x_iadd dL_texts_479 ?_
  refine x_toX (st' := [.int 6, .int 6]) rfl ?_
  refine x_icmp_ne_n 493 dL_texts_480 (by decide) (by decide) ?_
  refine x_aload_n 1 dL_texts_483 rfl rfl ?_
  obtain ⟨f98, e98, a98, w98⟩ := k_ferr_of hN w96 tf_723
  have z98 := z96.st a98
  obtain ⟨fs99, hfs99⟩ := w96.ob
  refine x_callv (As := []) (rest := []) 122 4154 dL_texts_484 mi_X5_firstError ml_L_65 rfl rfl (Nat.le_of_ble_eq_true rfl) ⟨by decide, by decide⟩ (by omega) (by omega) hfs99 rfl (c_X5_firstError N _ _ _ _ e98) (x_K.some ?_) x_KX.none
  refine x_toX (st' := [.int 6]) rfl ?_
  clear e98 a98 hfs99 w96 z96
  refine x_iload_n 0 dL_texts_487 rfl rfl ?_
  refine x_iconst 1 (by decide) dL_texts_488 ?_
  refine x_iadd dL_texts_489 ?_
  refine x_toX (st' := [.int 6, .int 6]) rfl ?_
  refine x_icmp_eq_y 495 dL_texts_490 (by decide) (by decide) ?_
  refine x_iinc 6 (lv' := [(1, .int 6), (0, .ref h.2)]) dL_texts_495 0 rfl (by decide) (by decide) rfl ?_
  refine x_goto 454 dL_texts_498 (by decide) ?_
  refine x_iload_n 0 dL_texts_454 rfl rfl ?_
  refine x_bipush 60 (by decide) dL_texts_455 ?_
  refine x_icmp_ge_n 501 dL_texts_457 (by decide) (by decide) ?_
  refine x_aload_n 1 dL_texts_460 rfl rfl ?_
  refine x_iload_n 0 dL_texts_461 rfl rfl ?_
  refine x_iconst 2 (by decide) dL_texts_462 ?_
  refine x_irem (f := fun v => if v = 0 then some () else none) (w := ()) dL_texts_463 (by decide) (fun v100 hv100 => ?_)
  obtain rfl : v100 = 0 := by by_cases z : v100 = 0; exact z; rw [if_neg z] at hv100; cases hv100
  refine x_if_ne_n 472 dL_texts_464 (by decide) (by decide) ?_
  refine x_bipush 99 (by decide) dL_texts_467 ?_
  refine x_goto 474 dL_texts_469 (by decide) ?_
  obtain ⟨f101, e101, a101, w101⟩ := k_app (N := N) w98 99
  rw [tf_724] at e101 w101
  replace w101 : k_wd h.2 (h.2 + 70) 61 (k_of k_e0s) [] (fun _ => none) [99, 59, 99, 59, 99, 59, 99] f101 := w101
  have z101 := z98.st a101
  obtain ⟨fs102, hfs102⟩ := w98.ob
  refine x_callv (As := [.int 99]) (rest := []) 121 4148 dL_texts_474 mi_X5_append ml_L_59 rfl rfl (Nat.le_of_ble_eq_true rfl) ⟨by decide, by decide⟩ (by omega) (by omega) hfs102 rfl (c_X5_append N _ _ _ _ _ e101) (x_K.some ?_) x_KX.none
  refine x_toX (st' := [.int 7]) rfl ?_
  clear e101 a101 hfs102 w98 z98
  refine x_iload_n 0 dL_texts_477 rfl rfl ?_
  refine x_iconst 1 (by decide) dL_texts_478 ?_
  refine x_iadd dL_texts_479 ?_
  refine x_toX (st' := [.int 7, .int 7]) rfl ?_
  refine x_icmp_ne_n 493 dL_texts_480 (by decide) (by decide) ?_
  refine x_aload_n 1 dL_texts_483 rfl rfl ?_
  obtain ⟨f103, e103, a103, w103⟩ := k_ferr_of hN w101 tf_725
  have z103 := z101.st a103
  obtain ⟨fs104, hfs104⟩ := w101.ob
  refine x_callv (As := []) (rest := []) 121 4148 dL_texts_484 mi_X5_firstError ml_L_65 rfl rfl (Nat.le_of_ble_eq_true rfl) ⟨by decide, by decide⟩ (by omega) (by omega) hfs104 rfl (c_X5_firstError N _ _ _ _ e103) (x_K.some ?_) x_KX.none
  refine x_toX (st' := [.int 7]) rfl ?_
  clear e103 a103 hfs104 w101 z101
  refine x_iload_n 0 dL_texts_487 rfl rfl ?_
  refine x_iconst 1 (by decide) dL_texts_488 ?_
  refine x_iadd dL_texts_489 ?_
  refine x_toX (st' := [.int 7, .int 7]) rfl ?_
  refine x_icmp_eq_y 495 dL_texts_490 (by decide) (by decide) ?_
  refine x_iinc 7 (lv' := [(1, .int 7), (0, .ref h.2)]) dL_texts_495 0 rfl (by decide) (by decide) rfl ?_
  refine x_goto 454 dL_texts_498 (by decide) ?_
  refine x_iload_n 0 dL_texts_454 rfl rfl ?_
  refine x_bipush 60 (by decide) dL_texts_455 ?_
  refine x_icmp_ge_n 501 dL_texts_457 (by decide) (by decide) ?_
  refine x_aload_n 1 dL_texts_460 rfl rfl ?_
  refine x_iload_n 0 dL_texts_461 rfl rfl ?_
  refine x_iconst 2 (by decide) dL_texts_462 ?_
  refine x_irem (f := fun v => if v = 1 then some () else none) (w := ()) dL_texts_463 (by decide) (fun v105 hv105 => ?_)
  obtain rfl : v105 = 1 := by by_cases z : v105 = 1; exact z; rw [if_neg z] at hv105; cases hv105
  refine x_if_ne_y 472 dL_texts_464 (by decide) (by decide) ?_
  refine x_bipush 59 (by decide) dL_texts_472 ?_
  obtain ⟨f106, e106, a106, w106⟩ := k_app (N := N) w103 59
  rw [tf_726] at e106 w106
  replace w106 : k_wd h.2 (h.2 + 70) 61 (k_of k_e0s) [] (fun _ => none) [99, 59, 99, 59, 99, 59, 99, 59] f106 := w106
  have z106 := z103.st a106
  obtain ⟨fs107, hfs107⟩ := w103.ob
  refine x_callv (As := [.int 59]) (rest := []) 120 4142 dL_texts_474 mi_X5_append ml_L_59 rfl rfl (Nat.le_of_ble_eq_true rfl) ⟨by decide, by decide⟩ (by omega) (by omega) hfs107 rfl (c_X5_append N _ _ _ _ _ e106) (x_K.some ?_) x_KX.none
  refine x_toX (st' := [.int 8]) rfl ?_
  clear e106 a106 hfs107 w103 z103
  refine x_iload_n 0 dL_texts_477 rfl rfl ?_
  refine x_iconst 1 (by decide) dL_texts_478 ?_
  refine x_iadd dL_texts_479 ?_
  refine x_toX (st' := [.int 8, .int 8]) rfl ?_
  refine x_icmp_ne_n 493 dL_texts_480 (by decide) (by decide) ?_
  refine x_aload_n 1 dL_texts_483 rfl rfl ?_
  obtain ⟨f108, e108, a108, w108⟩ := k_ferr_of hN w106 tf_727
  have z108 := z106.st a108
  obtain ⟨fs109, hfs109⟩ := w106.ob
  refine x_callv (As := []) (rest := []) 120 4142 dL_texts_484 mi_X5_firstError ml_L_65 rfl rfl (Nat.le_of_ble_eq_true rfl) ⟨by decide, by decide⟩ (by omega) (by omega) hfs109 rfl (c_X5_firstError N _ _ _ _ e108) (x_K.some ?_) x_KX.none
  refine x_toX (st' := [.int 8]) rfl ?_
  clear e108 a108 hfs109 w106 z106
  refine x_iload_n 0 dL_texts_487 rfl rfl ?_
  refine x_iconst 1 (by decide) dL_texts_488 ?_
  refine x_iadd dL_texts_489 ?_
  refine x_toX (st' := [.int 8, .int 8]) rfl ?_
  refine x_icmp_eq_y 495 dL_texts_490 (by decide) (by decide) ?_
  refine x_iinc 8 (lv' := [(1, .int 8), (0, .ref h.2)]) dL_texts_495 0 rfl (by decide) (by decide) rfl ?_
  refine x_goto 454 dL_texts_498 (by decide) ?_
  refine x_iload_n 0 dL_texts_454 rfl rfl ?_
  refine x_bipush 60 (by decide) dL_texts_455 ?_
  refine x_icmp_ge_n 501 dL_texts_457 (by decide) (by decide) ?_
  refine x_aload_n 1 dL_texts_460 rfl rfl ?_
  refine x_iload_n 0 dL_texts_461 rfl rfl ?_
  refine x_iconst 2 (by decide) dL_texts_462 ?_
  refine x_irem (f := fun v => if v = 0 then some () else none) (w := ()) dL_texts_463 (by decide) (fun v110 hv110 => ?_)
  obtain rfl : v110 = 0 := by by_cases z : v110 = 0; exact z; rw [if_neg z] at hv110; cases hv110
  refine x_if_ne_n 472 dL_texts_464 (by decide) (by decide) ?_
  refine x_bipush 99 (by decide) dL_texts_467 ?_
  refine x_goto 474 dL_texts_469 (by decide) ?_
  obtain ⟨f111, e111, a111, w111⟩ := k_app (N := N) w108 99
  rw [tf_728] at e111 w111
  replace w111 : k_wd h.2 (h.2 + 70) 61 (k_of k_e0s) [] (fun _ => none) [99, 59, 99, 59, 99, 59, 99, 59, 99] f111 := w111
  have z111 := z108.st a111
  obtain ⟨fs112, hfs112⟩ := w108.ob
  refine x_callv (As := [.int 99]) (rest := []) 119 4136 dL_texts_474 mi_X5_append ml_L_59 rfl rfl (Nat.le_of_ble_eq_true rfl) ⟨by decide, by decide⟩ (by omega) (by omega) hfs112 rfl (c_X5_append N _ _ _ _ _ e111) (x_K.some ?_) x_KX.none
  refine x_toX (st' := [.int 9]) rfl ?_
  clear e111 a111 hfs112 w108 z108
  refine x_iload_n 0 dL_texts_477 rfl rfl ?_
  refine x_iconst 1 (by decide) dL_texts_478 ?_
  refine x_iadd dL_texts_479 ?_
  refine x_toX (st' := [.int 9, .int 9]) rfl ?_
  refine x_icmp_ne_n 493 dL_texts_480 (by decide) (by decide) ?_
  refine x_aload_n 1 dL_texts_483 rfl rfl ?_
  obtain ⟨f113, e113, a113, w113⟩ := k_ferr_of hN w111 tf_729
  have z113 := z111.st a113
  obtain ⟨fs114, hfs114⟩ := w111.ob
  refine x_callv (As := []) (rest := []) 119 4136 dL_texts_484 mi_X5_firstError ml_L_65 rfl rfl (Nat.le_of_ble_eq_true rfl) ⟨by decide, by decide⟩ (by omega) (by omega) hfs114 rfl (c_X5_firstError N _ _ _ _ e113) (x_K.some ?_) x_KX.none
  refine x_toX (st' := [.int 9]) rfl ?_
  clear e113 a113 hfs114 w111 z111
  refine x_iload_n 0 dL_texts_487 rfl rfl ?_
  refine x_iconst 1 (by decide) dL_texts_488 ?_
  refine x_iadd dL_texts_489 ?_
  refine x_toX (st' := [.int 9, .int 9]) rfl ?_
  refine x_icmp_eq_y 495 dL_texts_490 (by decide) (by decide) ?_
  refine x_iinc 9 (lv' := [(1, .int 9), (0, .ref h.2)]) dL_texts_495 0 rfl (by decide) (by decide) rfl ?_
  refine x_goto 454 dL_texts_498 (by decide) ?_
  refine x_iload_n 0 dL_texts_454 rfl rfl ?_
  refine x_bipush 60 (by decide) dL_texts_455 ?_
  refine x_icmp_ge_n 501 dL_texts_457 (by decide) (by decide) ?_
  refine x_aload_n 1 dL_texts_460 rfl rfl ?_
  refine x_iload_n 0 dL_texts_461 rfl rfl ?_
  refine x_iconst 2 (by decide) dL_texts_462 ?_
  refine x_irem (f := fun v => if v = 1 then some () else none) (w := ()) dL_texts_463 (by decide) (fun v115 hv115 => ?_)
  obtain rfl : v115 = 1 := by by_cases z : v115 = 1; exact z; rw [if_neg z] at hv115; cases hv115
  refine x_if_ne_y 472 dL_texts_464 (by decide) (by decide) ?_
  refine x_bipush 59 (by decide) dL_texts_472 ?_
  obtain ⟨f116, e116, a116, w116⟩ := k_app (N := N) w113 59
  rw [tf_730] at e116 w116
  replace w116 : k_wd h.2 (h.2 + 70) 61 (k_of k_e0s) [] (fun _ => none) [99, 59, 99, 59, 99, 59, 99, 59, 99, 59] f116 := w116
  have z116 := z113.st a116
  obtain ⟨fs117, hfs117⟩ := w113.ob
  refine x_callv (As := [.int 59]) (rest := []) 118 4130 dL_texts_474 mi_X5_append ml_L_59 rfl rfl (Nat.le_of_ble_eq_true rfl) ⟨by decide, by decide⟩ (by omega) (by omega) hfs117 rfl (c_X5_append N _ _ _ _ _ e116) (x_K.some ?_) x_KX.none
  refine x_toX (st' := [.int 10]) rfl ?_
  clear e116 a116 hfs117 w113 z113
  refine x_iload_n 0 dL_texts_477 rfl rfl ?_
  refine x_iconst 1 (by decide) dL_texts_478 ?_
  refine x_iadd dL_texts_479 ?_
  refine x_toX (st' := [.int 10, .int 10]) rfl ?_
  refine x_icmp_ne_n 493 dL_texts_480 (by decide) (by decide) ?_
  refine x_aload_n 1 dL_texts_483 rfl rfl ?_
  obtain ⟨f118, e118, a118, w118⟩ := k_ferr_of hN w116 tf_731
  have z118 := z116.st a118
  obtain ⟨fs119, hfs119⟩ := w116.ob
  refine x_callv (As := []) (rest := []) 118 4130 dL_texts_484 mi_X5_firstError ml_L_65 rfl rfl (Nat.le_of_ble_eq_true rfl) ⟨by decide, by decide⟩ (by omega) (by omega) hfs119 rfl (c_X5_firstError N _ _ _ _ e118) (x_K.some ?_) x_KX.none
  refine x_toX (st' := [.int 10]) rfl ?_
  clear e118 a118 hfs119 w116 z116
  refine x_iload_n 0 dL_texts_487 rfl rfl ?_
  refine x_iconst 1 (by decide) dL_texts_488 ?_
  refine x_iadd dL_texts_489 ?_
  refine x_toX (st' := [.int 10, .int 10]) rfl ?_
  refine x_icmp_eq_y 495 dL_texts_490 (by decide) (by decide) ?_
  refine x_iinc 10 (lv' := [(1, .int 10), (0, .ref h.2)]) dL_texts_495 0 rfl (by decide) (by decide) rfl ?_
  refine x_goto 454 dL_texts_498 (by decide) ?_
  refine x_iload_n 0 dL_texts_454 rfl rfl ?_
  refine x_bipush 60 (by decide) dL_texts_455 ?_
  refine x_icmp_ge_n 501 dL_texts_457 (by decide) (by decide) ?_
  refine x_aload_n 1 dL_texts_460 rfl rfl ?_
  refine x_iload_n 0 dL_texts_461 rfl rfl ?_
  refine x_iconst 2 (by decide) dL_texts_462 ?_
  refine x_irem (f := fun v => if v = 0 then some () else none) (w := ()) dL_texts_463 (by decide) (fun v120 hv120 => ?_)
  obtain rfl : v120 = 0 := by by_cases z : v120 = 0; exact z; rw [if_neg z] at hv120; cases hv120
  refine x_if_ne_n 472 dL_texts_464 (by decide) (by decide) ?_
  refine x_bipush 99 (by decide) dL_texts_467 ?_
  refine x_goto 474 dL_texts_469 (by decide) ?_
  obtain ⟨f121, e121, a121, w121⟩ := k_app (N := N) w118 99
  rw [tf_732] at e121 w121
  replace w121 : k_wd h.2 (h.2 + 70) 61 (k_of k_e0s) [] (fun _ => none) [99, 59, 99, 59, 99, 59, 99, 59, 99, 59, 99] f121 := w121
  have z121 := z118.st a121
  obtain ⟨fs122, hfs122⟩ := w118.ob
  refine x_callv (As := [.int 99]) (rest := []) 117 4124 dL_texts_474 mi_X5_append ml_L_59 rfl rfl (Nat.le_of_ble_eq_true rfl) ⟨by decide, by decide⟩ (by omega) (by omega) hfs122 rfl (c_X5_append N _ _ _ _ _ e121) (x_K.some ?_) x_KX.none
  refine x_toX (st' := [.int 11]) rfl ?_
  clear e121 a121 hfs122 w118 z118
  refine x_iload_n 0 dL_texts_477 rfl rfl ?_
  refine x_iconst 1 (by decide) dL_texts_478 ?_
  refine x_iadd dL_texts_479 ?_
  refine x_toX (st' := [.int 11, .int 11]) rfl ?_
  refine x_icmp_ne_n 493 dL_texts_480 (by decide) (by decide) ?_
  refine x_aload_n 1 dL_texts_483 rfl rfl ?_
  obtain ⟨f123, e123, a123, w123⟩ := k_ferr_of hN w121 tf_733
  have z123 := z121.st a123
  obtain ⟨fs124, hfs124⟩ := w121.ob
  refine x_callv (As := []) (rest := []) 117 4124 dL_texts_484 mi_X5_firstError ml_L_65 rfl rfl (Nat.le_of_ble_eq_true rfl) ⟨by decide, by decide⟩ (by omega) (by omega) hfs124 rfl (c_X5_firstError N _ _ _ _ e123) (x_K.some ?_) x_KX.none
  refine x_toX (st' := [.int 11]) rfl ?_
  clear e123 a123 hfs124 w121 z121
  refine x_iload_n 0 dL_texts_487 rfl rfl ?_
  refine x_iconst 1 (by decide) dL_texts_488 ?_
  refine x_iadd dL_texts_489 ?_
  refine x_toX (st' := [.int 11, .int 11]) rfl ?_
  refine x_icmp_eq_y 495 dL_texts_490 (by decide) (by decide) ?_
  refine x_iinc 11 (lv' := [(1, .int 11), (0, .ref h.2)]) dL_texts_495 0 rfl (by decide) (by decide) rfl ?_
  refine x_goto 454 dL_texts_498 (by decide) ?_
  refine x_iload_n 0 dL_texts_454 rfl rfl ?_
  refine x_bipush 60 (by decide) dL_texts_455 ?_
  refine x_icmp_ge_n 501 dL_texts_457 (by decide) (by decide) ?_
  refine x_aload_n 1 dL_texts_460 rfl rfl ?_
  refine x_iload_n 0 dL_texts_461 rfl rfl ?_
  refine x_iconst 2 (by decide) dL_texts_462 ?_
  refine x_irem (f := fun v => if v = 1 then some () else none) (w := ()) dL_texts_463 (by decide) (fun v125 hv125 => ?_)
  obtain rfl : v125 = 1 := by by_cases z : v125 = 1; exact z; rw [if_neg z] at hv125; cases hv125
  refine x_if_ne_y 472 dL_texts_464 (by decide) (by decide) ?_
  refine x_bipush 59 (by decide) dL_texts_472 ?_
  obtain ⟨f126, e126, a126, w126⟩ := k_app (N := N) w123 59
  rw [tf_734] at e126 w126
  replace w126 : k_wd h.2 (h.2 + 70) 61 (k_of k_e0s) [] (fun _ => none) [99, 59, 99, 59, 99, 59, 99, 59, 99, 59, 99, 59] f126 := w126
  have z126 := z123.st a126
  obtain ⟨fs127, hfs127⟩ := w123.ob
  refine x_callv (As := [.int 59]) (rest := []) 116 4118 dL_texts_474 mi_X5_append ml_L_59 rfl rfl (Nat.le_of_ble_eq_true rfl) ⟨by decide, by decide⟩ (by omega) (by omega) hfs127 rfl (c_X5_append N _ _ _ _ _ e126) (x_K.some ?_) x_KX.none
  refine x_toX (st' := [.int 12]) rfl ?_
  clear e126 a126 hfs127 w123 z123
  refine x_iload_n 0 dL_texts_477 rfl rfl ?_
  refine x_iconst 1 (by decide) dL_texts_478 ?_
  refine x_iadd dL_texts_479 ?_
  refine x_toX (st' := [.int 12, .int 12]) rfl ?_
  refine x_icmp_ne_n 493 dL_texts_480 (by decide) (by decide) ?_
  refine x_aload_n 1 dL_texts_483 rfl rfl ?_
  obtain ⟨f128, e128, a128, w128⟩ := k_ferr_of hN w126 tf_735
  have z128 := z126.st a128
  obtain ⟨fs129, hfs129⟩ := w126.ob
  refine x_callv (As := []) (rest := []) 116 4118 dL_texts_484 mi_X5_firstError ml_L_65 rfl rfl (Nat.le_of_ble_eq_true rfl) ⟨by decide, by decide⟩ (by omega) (by omega) hfs129 rfl (c_X5_firstError N _ _ _ _ e128) (x_K.some ?_) x_KX.none
  refine x_toX (st' := [.int 12]) rfl ?_
  clear e128 a128 hfs129 w126 z126
  refine x_iload_n 0 dL_texts_487 rfl rfl ?_
  refine x_iconst 1 (by decide) dL_texts_488 ?_
  refine x_iadd dL_texts_489 ?_
  refine x_toX (st' := [.int 12, .int 12]) rfl ?_
  refine x_icmp_eq_y 495 dL_texts_490 (by decide) (by decide) ?_
  refine x_iinc 12 (lv' := [(1, .int 12), (0, .ref h.2)]) dL_texts_495 0 rfl (by decide) (by decide) rfl ?_
  refine x_goto 454 dL_texts_498 (by decide) ?_
  refine x_iload_n 0 dL_texts_454 rfl rfl ?_
  refine x_bipush 60 (by decide) dL_texts_455 ?_
  refine x_icmp_ge_n 501 dL_texts_457 (by decide) (by decide) ?_
  refine x_aload_n 1 dL_texts_460 rfl rfl ?_
  refine x_iload_n 0 dL_texts_461 rfl rfl ?_
  refine x_iconst 2 (by decide) dL_texts_462 ?_
  refine x_irem (f := fun v => if v = 0 then some () else none) (w := ()) dL_texts_463 (by decide) (fun v130 hv130 => ?_)
  obtain rfl : v130 = 0 := by by_cases z : v130 = 0; exact z; rw [if_neg z] at hv130; cases hv130
  refine x_if_ne_n 472 dL_texts_464 (by decide) (by decide) ?_
  refine x_bipush 99 (by decide) dL_texts_467 ?_
  refine x_goto 474 dL_texts_469 (by decide) ?_
  obtain ⟨f131, e131, a131, w131⟩ := k_app (N := N) w128 99
  rw [tf_736] at e131 w131
  replace w131 : k_wd h.2 (h.2 + 70) 61 (k_of k_e0s) [] (fun _ => none) [99, 59, 99, 59, 99, 59, 99, 59, 99, 59, 99, 59, 99] f131 := w131
  have z131 := z128.st a131
  obtain ⟨fs132, hfs132⟩ := w128.ob
  refine x_callv (As := [.int 99]) (rest := []) 115 4112 dL_texts_474 mi_X5_append ml_L_59 rfl rfl (Nat.le_of_ble_eq_true rfl) ⟨by decide, by decide⟩ (by omega) (by omega) hfs132 rfl (c_X5_append N _ _ _ _ _ e131) (x_K.some ?_) x_KX.none
  refine x_toX (st' := [.int 13]) rfl ?_
  clear e131 a131 hfs132 w128 z128
  refine x_iload_n 0 dL_texts_477 rfl rfl ?_
  refine x_iconst 1 (by decide) dL_texts_478 ?_
  refine x_iadd dL_texts_479 ?_
  refine x_toX (st' := [.int 13, .int 13]) rfl ?_
  refine x_icmp_ne_n 493 dL_texts_480 (by decide) (by decide) ?_
  refine x_aload_n 1 dL_texts_483 rfl rfl ?_
  obtain ⟨f133, e133, a133, w133⟩ := k_ferr_of hN w131 tf_737
  have z133 := z131.st a133
  obtain ⟨fs134, hfs134⟩ := w131.ob
  refine x_callv (As := []) (rest := []) 115 4112 dL_texts_484 mi_X5_firstError ml_L_65 rfl rfl (Nat.le_of_ble_eq_true rfl) ⟨by decide, by decide⟩ (by omega) (by omega) hfs134 rfl (c_X5_firstError N _ _ _ _ e133) (x_K.some ?_) x_KX.none
  refine x_toX (st' := [.int 13]) rfl ?_
  clear e133 a133 hfs134 w131 z131
  refine x_iload_n 0 dL_texts_487 rfl rfl ?_
  refine x_iconst 1 (by decide) dL_texts_488 ?_
  refine x_iadd dL_texts_489 ?_
  refine x_toX (st' := [.int 13, .int 13]) rfl ?_
  refine x_icmp_eq_y 495 dL_texts_490 (by decide) (by decide) ?_
  refine x_iinc 13 (lv' := [(1, .int 13), (0, .ref h.2)]) dL_texts_495 0 rfl (by decide) (by decide) rfl ?_
  refine x_goto 454 dL_texts_498 (by decide) ?_
  refine x_iload_n 0 dL_texts_454 rfl rfl ?_
  refine x_bipush 60 (by decide) dL_texts_455 ?_
  refine x_icmp_ge_n 501 dL_texts_457 (by decide) (by decide) ?_
  refine x_aload_n 1 dL_texts_460 rfl rfl ?_
  refine x_iload_n 0 dL_texts_461 rfl rfl ?_
  refine x_iconst 2 (by decide) dL_texts_462 ?_
  refine x_irem (f := fun v => if v = 1 then some () else none) (w := ()) dL_texts_463 (by decide) (fun v135 hv135 => ?_)
  obtain rfl : v135 = 1 := by by_cases z : v135 = 1; exact z; rw [if_neg z] at hv135; cases hv135
  refine x_if_ne_y 472 dL_texts_464 (by decide) (by decide) ?_
  refine x_bipush 59 (by decide) dL_texts_472 ?_
  obtain ⟨f136, e136, a136, w136⟩ := k_app (N := N) w133 59
  rw [tf_738] at e136 w136
  replace w136 : k_wd h.2 (h.2 + 70) 61 (k_of k_e0s) [] (fun _ => none) [99, 59, 99, 59, 99, 59, 99, 59, 99, 59, 99, 59, 99, 59] f136 := w136
  have z136 := z133.st a136
  obtain ⟨fs137, hfs137⟩ := w133.ob
  refine x_callv (As := [.int 59]) (rest := []) 114 4106 dL_texts_474 mi_X5_append ml_L_59 rfl rfl (Nat.le_of_ble_eq_true rfl) ⟨by decide, by decide⟩ (by omega) (by omega) hfs137 rfl (c_X5_append N _ _ _ _ _ e136) (x_K.some ?_) x_KX.none
  refine x_toX (st' := [.int 14]) rfl ?_
  clear e136 a136 hfs137 w133 z133
  refine x_iload_n 0 dL_texts_477 rfl rfl ?_
  refine x_iconst 1 (by decide) dL_texts_478 ?_
  refine x_iadd dL_texts_479 ?_
  refine x_toX (st' := [.int 14, .int 14]) rfl ?_
  refine x_icmp_ne_n 493 dL_texts_480 (by decide) (by decide) ?_
  refine x_aload_n 1 dL_texts_483 rfl rfl ?_
  obtain ⟨f138, e138, a138, w138⟩ := k_ferr_of hN w136 tf_739
  have z138 := z136.st a138
  obtain ⟨fs139, hfs139⟩ := w136.ob
  refine x_callv (As := []) (rest := []) 114 4106 dL_texts_484 mi_X5_firstError ml_L_65 rfl rfl (Nat.le_of_ble_eq_true rfl) ⟨by decide, by decide⟩ (by omega) (by omega) hfs139 rfl (c_X5_firstError N _ _ _ _ e138) (x_K.some ?_) x_KX.none
  refine x_toX (st' := [.int 14]) rfl ?_
  clear e138 a138 hfs139 w136 z136
  refine x_iload_n 0 dL_texts_487 rfl rfl ?_
  refine x_iconst 1 (by decide) dL_texts_488 ?_
  refine x_iadd dL_texts_489 ?_
  refine x_toX (st' := [.int 14, .int 14]) rfl ?_
  refine x_icmp_eq_y 495 dL_texts_490 (by decide) (by decide) ?_
  refine x_iinc 14 (lv' := [(1, .int 14), (0, .ref h.2)]) dL_texts_495 0 rfl (by decide) (by decide) rfl ?_
  refine x_goto 454 dL_texts_498 (by decide) ?_
  refine x_iload_n 0 dL_texts_454 rfl rfl ?_
  refine x_bipush 60 (by decide) dL_texts_455 ?_
  refine x_icmp_ge_n 501 dL_texts_457 (by decide) (by decide) ?_
  refine x_aload_n 1 dL_texts_460 rfl rfl ?_
  refine x_iload_n 0 dL_texts_461 rfl rfl ?_
  refine x_iconst 2 (by decide) dL_texts_462 ?_
  refine x_irem (f := fun v => if v = 0 then some () else none) (w := ()) dL_texts_463 (by decide) (fun v140 hv140 => ?_)
  obtain rfl : v140 = 0 := by by_cases z : v140 = 0; exact z; rw [if_neg z] at hv140; cases hv140
  refine x_if_ne_n 472 dL_texts_464 (by decide) (by decide) ?_
  refine x_bipush 99 (by decide) dL_texts_467 ?_
  refine x_goto 474 dL_texts_469 (by decide) ?_
  obtain ⟨f141, e141, a141, w141⟩ := k_app (N := N) w138 99
  rw [tf_740] at e141 w141
  replace w141 : k_wd h.2 (h.2 + 70) 61 (k_of k_e0s) [] (fun _ => none) [99, 59, 99, 59, 99, 59, 99, 59, 99, 59, 99, 59, 99, 59, 99] f141 := w141
  have z141 := z138.st a141
  obtain ⟨fs142, hfs142⟩ := w138.ob
  refine x_callv (As := [.int 99]) (rest := []) 113 4100 dL_texts_474 mi_X5_append ml_L_59 rfl rfl (Nat.le_of_ble_eq_true rfl) ⟨by decide, by decide⟩ (by omega) (by omega) hfs142 rfl (c_X5_append N _ _ _ _ _ e141) (x_K.some ?_) x_KX.none
  refine x_toX (st' := [.int 15]) rfl ?_
  clear e141 a141 hfs142 w138 z138
  refine x_iload_n 0 dL_texts_477 rfl rfl ?_
  refine x_iconst 1 (by decide) dL_texts_478 ?_
  refine x_iadd dL_texts_479 ?_
  refine x_toX (st' := [.int 15, .int 15]) rfl ?_
  refine x_icmp_ne_n 493 dL_texts_480 (by decide) (by decide) ?_
  refine x_aload_n 1 dL_texts_483 rfl rfl ?_
  obtain ⟨f143, e143, a143, w143⟩ := k_ferr_of hN w141 tf_741
  have z143 := z141.st a143
  obtain ⟨fs144, hfs144⟩ := w141.ob
  refine x_callv (As := []) (rest := []) 113 4100 dL_texts_484 mi_X5_firstError ml_L_65 rfl rfl (Nat.le_of_ble_eq_true rfl) ⟨by decide, by decide⟩ (by omega) (by omega) hfs144 rfl (c_X5_firstError N _ _ _ _ e143) (x_K.some ?_) x_KX.none
  refine x_toX (st' := [.int 15]) rfl ?_
  clear e143 a143 hfs144 w141 z141
  refine x_iload_n 0 dL_texts_487 rfl rfl ?_
  refine x_iconst 1 (by decide) dL_texts_488 ?_
  refine x_iadd dL_texts_489 ?_
  refine x_toX (st' := [.int 15, .int 15]) rfl ?_
  refine x_icmp_eq_y 495 dL_texts_490 (by decide) (by decide) ?_
  refine x_iinc 15 (lv' := [(1, .int 15), (0, .ref h.2)]) dL_texts_495 0 rfl (by decide) (by decide) rfl ?_
  refine x_goto 454 dL_texts_498 (by decide) ?_
  refine x_iload_n 0 dL_texts_454 rfl rfl ?_
  refine x_bipush 60 (by decide) dL_texts_455 ?_
  refine x_icmp_ge_n 501 dL_texts_457 (by decide) (by decide) ?_
  refine x_aload_n 1 dL_texts_460 rfl rfl ?_
  refine x_iload_n 0 dL_texts_461 rfl rfl ?_
  refine x_iconst 2 (by decide) dL_texts_462 ?_
  refine x_irem (f := fun v => if v = 1 then some () else none) (w := ()) dL_texts_463 (by decide) (fun v145 hv145 => ?_)
  obtain rfl : v145 = 1 := by by_cases z : v145 = 1; exact z; rw [if_neg z] at hv145; cases hv145
  refine x_if_ne_y 472 dL_texts_464 (by decide) (by decide) ?_
  refine x_bipush 59 (by decide) dL_texts_472 ?_
  obtain ⟨f146, e146, a146, w146⟩ := k_app (N := N) w143 59
  rw [tf_742] at e146 w146
  replace w146 : k_wd h.2 (h.2 + 70) 61 (k_of k_e0s) [] (fun _ => none) [99, 59, 99, 59, 99, 59, 99, 59, 99, 59, 99, 59, 99, 59, 99, 59] f146 := w146
  have z146 := z143.st a146
  obtain ⟨fs147, hfs147⟩ := w143.ob
  refine x_callv (As := [.int 59]) (rest := []) 112 4094 dL_texts_474 mi_X5_append ml_L_59 rfl rfl (Nat.le_of_ble_eq_true rfl) ⟨by decide, by decide⟩ (by omega) (by omega) hfs147 rfl (c_X5_append N _ _ _ _ _ e146) (x_K.some ?_) x_KX.none
  refine x_toX (st' := [.int 16]) rfl ?_
  clear e146 a146 hfs147 w143 z143
  refine x_iload_n 0 dL_texts_477 rfl rfl ?_
  refine x_iconst 1 (by decide) dL_texts_478 ?_
  refine x_iadd dL_texts_479 ?_
  refine x_toX (st' := [.int 16, .int 16]) rfl ?_
  refine x_icmp_ne_n 493 dL_texts_480 (by decide) (by decide) ?_
  refine x_aload_n 1 dL_texts_483 rfl rfl ?_
  obtain ⟨f148, e148, a148, w148⟩ := k_ferr_of hN w146 tf_743
  have z148 := z146.st a148
  obtain ⟨fs149, hfs149⟩ := w146.ob
  refine x_callv (As := []) (rest := []) 112 4094 dL_texts_484 mi_X5_firstError ml_L_65 rfl rfl (Nat.le_of_ble_eq_true rfl) ⟨by decide, by decide⟩ (by omega) (by omega) hfs149 rfl (c_X5_firstError N _ _ _ _ e148) (x_K.some ?_) x_KX.none
  refine x_toX (st' := [.int 16]) rfl ?_
  clear e148 a148 hfs149 w146 z146
  refine x_iload_n 0 dL_texts_487 rfl rfl ?_
  refine x_iconst 1 (by decide) dL_texts_488 ?_
  refine x_iadd dL_texts_489 ?_
  refine x_toX (st' := [.int 16, .int 16]) rfl ?_
  refine x_icmp_eq_y 495 dL_texts_490 (by decide) (by decide) ?_
  refine x_iinc 16 (lv' := [(1, .int 16), (0, .ref h.2)]) dL_texts_495 0 rfl (by decide) (by decide) rfl ?_
  refine x_goto 454 dL_texts_498 (by decide) ?_
  refine x_iload_n 0 dL_texts_454 rfl rfl ?_
  refine x_bipush 60 (by decide) dL_texts_455 ?_
  refine x_icmp_ge_n 501 dL_texts_457 (by decide) (by decide) ?_
  refine x_aload_n 1 dL_texts_460 rfl rfl ?_
  refine x_iload_n 0 dL_texts_461 rfl rfl ?_
  refine x_iconst 2 (by decide) dL_texts_462 ?_
  refine x_irem (f := fun v => if v = 0 then some () else none) (w := ()) dL_texts_463 (by decide) (fun v150 hv150 => ?_)
  obtain rfl : v150 = 0 := by by_cases z : v150 = 0; exact z; rw [if_neg z] at hv150; cases hv150
  refine x_if_ne_n 472 dL_texts_464 (by decide) (by decide) ?_
  refine x_bipush 99 (by decide) dL_texts_467 ?_
  refine x_goto 474 dL_texts_469 (by decide) ?_
  obtain ⟨f151, e151, a151, w151⟩ := k_app (N := N) w148 99
  rw [tf_744] at e151 w151
  replace w151 : k_wd h.2 (h.2 + 70) 61 (k_of k_e0s) [] (fun _ => none) [99, 59, 99, 59, 99, 59, 99, 59, 99, 59, 99, 59, 99, 59, 99, 59, 99] f151 := w151
  have z151 := z148.st a151
  obtain ⟨fs152, hfs152⟩ := w148.ob
  refine x_callv (As := [.int 99]) (rest := []) 111 4088 dL_texts_474 mi_X5_append ml_L_59 rfl rfl (Nat.le_of_ble_eq_true rfl) ⟨by decide, by decide⟩ (by omega) (by omega) hfs152 rfl (c_X5_append N _ _ _ _ _ e151) (x_K.some ?_) x_KX.none
  refine x_toX (st' := [.int 17]) rfl ?_
  clear e151 a151 hfs152 w148 z148
  refine x_iload_n 0 dL_texts_477 rfl rfl ?_
  refine x_iconst 1 (by decide) dL_texts_478 ?_
  refine x_iadd dL_texts_479 ?_
  refine x_toX (st' := [.int 17, .int 17]) rfl ?_
  refine x_icmp_ne_n 493 dL_texts_480 (by decide) (by decide) ?_
  refine x_aload_n 1 dL_texts_483 rfl rfl ?_
  obtain ⟨f153, e153, a153, w153⟩ := k_ferr_of hN w151 tf_745
  have z153 := z151.st a153
  obtain ⟨fs154, hfs154⟩ := w151.ob
  refine x_callv (As := []) (rest := []) 111 4088 dL_texts_484 mi_X5_firstError ml_L_65 rfl rfl (Nat.le_of_ble_eq_true rfl) ⟨by decide, by decide⟩ (by omega) (by omega) hfs154 rfl (c_X5_firstError N _ _ _ _ e153) (x_K.some ?_) x_KX.none
  refine x_toX (st' := [.int 17]) rfl ?_
  clear e153 a153 hfs154 w151 z151
  refine x_iload_n 0 dL_texts_487 rfl rfl ?_
  refine x_iconst 1 (by decide) dL_texts_488 ?_
  refine x_iadd dL_texts_489 ?_
  refine x_toX (st' := [.int 17, .int 17]) rfl ?_
  refine x_icmp_eq_y 495 dL_texts_490 (by decide) (by decide) ?_
  refine x_iinc 17 (lv' := [(1, .int 17), (0, .ref h.2)]) dL_texts_495 0 rfl (by decide) (by decide) rfl ?_
  refine x_goto 454 dL_texts_498 (by decide) ?_
  refine x_iload_n 0 dL_texts_454 rfl rfl ?_
  refine x_bipush 60 (by decide) dL_texts_455 ?_
  refine x_icmp_ge_n 501 dL_texts_457 (by decide) (by decide) ?_
  refine x_aload_n 1 dL_texts_460 rfl rfl ?_
  refine x_iload_n 0 dL_texts_461 rfl rfl ?_
  refine x_iconst 2 (by decide) dL_texts_462 ?_
  refine x_irem (f := fun v => if v = 1 then some () else none) (w := ()) dL_texts_463 (by decide) (fun v155 hv155 => ?_)
  obtain rfl : v155 = 1 := by by_cases z : v155 = 1; exact z; rw [if_neg z] at hv155; cases hv155
  refine x_if_ne_y 472 dL_texts_464 (by decide) (by decide) ?_
  refine x_bipush 59 (by decide) dL_texts_472 ?_
  obtain ⟨f156, e156, a156, w156⟩ := k_app (N := N) w153 59
  rw [tf_746] at e156 w156
  replace w156 : k_wd h.2 (h.2 + 70) 61 (k_of k_e0s) [] (fun _ => none) [99, 59, 99, 59, 99, 59, 99, 59, 99, 59, 99, 59, 99, 59, 99, 59, 99, 59] f156 := w156
  have z156 := z153.st a156
  obtain ⟨fs157, hfs157⟩ := w153.ob
  refine x_callv (As := [.int 59]) (rest := []) 110 4082 dL_texts_474 mi_X5_append ml_L_59 rfl rfl (Nat.le_of_ble_eq_true rfl) ⟨by decide, by decide⟩ (by omega) (by omega) hfs157 rfl (c_X5_append N _ _ _ _ _ e156) (x_K.some ?_) x_KX.none
  refine x_toX (st' := [.int 18]) rfl ?_
  clear e156 a156 hfs157 w153 z153
  refine x_iload_n 0 dL_texts_477 rfl rfl ?_
  refine x_iconst 1 (by decide) dL_texts_478 ?_
  refine x_iadd dL_texts_479 ?_
  refine x_toX (st' := [.int 18, .int 18]) rfl ?_
  refine x_icmp_ne_n 493 dL_texts_480 (by decide) (by decide) ?_
  refine x_aload_n 1 dL_texts_483 rfl rfl ?_
  obtain ⟨f158, e158, a158, w158⟩ := k_ferr_of hN w156 tf_747
  have z158 := z156.st a158
  obtain ⟨fs159, hfs159⟩ := w156.ob
  refine x_callv (As := []) (rest := []) 110 4082 dL_texts_484 mi_X5_firstError ml_L_65 rfl rfl (Nat.le_of_ble_eq_true rfl) ⟨by decide, by decide⟩ (by omega) (by omega) hfs159 rfl (c_X5_firstError N _ _ _ _ e158) (x_K.some ?_) x_KX.none
  refine x_toX (st' := [.int 18]) rfl ?_
  clear e158 a158 hfs159 w156 z156
  refine x_iload_n 0 dL_texts_487 rfl rfl ?_
  refine x_iconst 1 (by decide) dL_texts_488 ?_
  refine x_iadd dL_texts_489 ?_
  refine x_toX (st' := [.int 18, .int 18]) rfl ?_
  refine x_icmp_eq_y 495 dL_texts_490 (by decide) (by decide) ?_
  refine x_iinc 18 (lv' := [(1, .int 18), (0, .ref h.2)]) dL_texts_495 0 rfl (by decide) (by decide) rfl ?_
  refine x_goto 454 dL_texts_498 (by decide) ?_
  refine x_iload_n 0 dL_texts_454 rfl rfl ?_
  refine x_bipush 60 (by decide) dL_texts_455 ?_
  refine x_icmp_ge_n 501 dL_texts_457 (by decide) (by decide) ?_
  refine x_aload_n 1 dL_texts_460 rfl rfl ?_
  refine x_iload_n 0 dL_texts_461 rfl rfl ?_
  refine x_iconst 2 (by decide) dL_texts_462 ?_
  refine x_irem (f := fun v => if v = 0 then some () else none) (w := ()) dL_texts_463 (by decide) (fun v160 hv160 => ?_)
  obtain rfl : v160 = 0 := by by_cases z : v160 = 0; exact z; rw [if_neg z] at hv160; cases hv160
  refine x_if_ne_n 472 dL_texts_464 (by decide) (by decide) ?_
  refine x_bipush 99 (by decide) dL_texts_467 ?_
  refine x_goto 474 dL_texts_469 (by decide) ?_
  obtain ⟨f161, e161, a161, w161⟩ := k_app (N := N) w158 99
  rw [tf_748] at e161 w161
  replace w161 : k_wd h.2 (h.2 + 70) 61 (k_of k_e0s) [] (fun _ => none) [99, 59, 99, 59, 99, 59, 99, 59, 99, 59, 99, 59, 99, 59, 99, 59, 99, 59, 99] f161 := w161
  have z161 := z158.st a161
  obtain ⟨fs162, hfs162⟩ := w158.ob
  refine x_callv (As := [.int 99]) (rest := []) 109 4076 dL_texts_474 mi_X5_append ml_L_59 rfl rfl (Nat.le_of_ble_eq_true rfl) ⟨by decide, by decide⟩ (by omega) (by omega) hfs162 rfl (c_X5_append N _ _ _ _ _ e161) (x_K.some ?_) x_KX.none
  refine x_toX (st' := [.int 19]) rfl ?_
  clear e161 a161 hfs162 w158 z158
  refine x_iload_n 0 dL_texts_477 rfl rfl ?_
  refine x_iconst 1 (by decide) dL_texts_478 ?_
  refine x_iadd dL_texts_479 ?_
  refine x_toX (st' := [.int 19, .int 19]) rfl ?_
  refine x_icmp_ne_n 493 dL_texts_480 (by decide) (by decide) ?_
  refine x_aload_n 1 dL_texts_483 rfl rfl ?_
  obtain ⟨f163, e163, a163, w163⟩ := k_ferr_of hN w161 tf_749
  have z163 := z161.st a163
  obtain ⟨fs164, hfs164⟩ := w161.ob
  refine x_callv (As := []) (rest := []) 109 4076 dL_texts_484 mi_X5_firstError ml_L_65 rfl rfl (Nat.le_of_ble_eq_true rfl) ⟨by decide, by decide⟩ (by omega) (by omega) hfs164 rfl (c_X5_firstError N _ _ _ _ e163) (x_K.some ?_) x_KX.none
  refine x_toX (st' := [.int 19]) rfl ?_
  clear e163 a163 hfs164 w161 z161
  refine x_iload_n 0 dL_texts_487 rfl rfl ?_
  refine x_iconst 1 (by decide) dL_texts_488 ?_
  refine x_iadd dL_texts_489 ?_
  refine x_toX (st' := [.int 19, .int 19]) rfl ?_
  refine x_icmp_eq_y 495 dL_texts_490 (by decide) (by decide) ?_
  refine x_iinc 19 (lv' := [(1, .int 19), (0, .ref h.2)]) dL_texts_495 0 rfl (by decide) (by decide) rfl ?_
  refine x_goto 454 dL_texts_498 (by decide) ?_
  refine x_iload_n 0 dL_texts_454 rfl rfl ?_
  refine x_bipush 60 (by decide) dL_texts_455 ?_
  refine x_icmp_ge_n 501 dL_texts_457 (by decide) (by decide) ?_
  refine x_aload_n 1 dL_texts_460 rfl rfl ?_
  refine x_iload_n 0 dL_texts_461 rfl rfl ?_
  refine x_iconst 2 (by decide) dL_texts_462 ?_
  refine x_irem (f := fun v => if v = 1 then some () else none) (w := ()) dL_texts_463 (by decide) (fun v165 hv165 => ?_)
  obtain rfl : v165 = 1 := by by_cases z : v165 = 1; exact z; rw [if_neg z] at hv165; cases hv165
  refine x_if_ne_y 472 dL_texts_464 (by decide) (by decide) ?_
  refine x_bipush 59 (by decide) dL_texts_472 ?_
  obtain ⟨f166, e166, a166, w166⟩ := k_app (N := N) w163 59
  rw [tf_750] at e166 w166
  replace w166 : k_wd h.2 (h.2 + 70) 61 (k_of k_e0s) [] (fun _ => none) [99, 59, 99, 59, 99, 59, 99, 59, 99, 59, 99, 59, 99, 59, 99, 59, 99, 59, 99, 59] f166 := w166
  have z166 := z163.st a166
  obtain ⟨fs167, hfs167⟩ := w163.ob
  refine x_callv (As := [.int 59]) (rest := []) 108 4070 dL_texts_474 mi_X5_append ml_L_59 rfl rfl (Nat.le_of_ble_eq_true rfl) ⟨by decide, by decide⟩ (by omega) (by omega) hfs167 rfl (c_X5_append N _ _ _ _ _ e166) (x_K.some ?_) x_KX.none
  refine x_toX (st' := [.int 20]) rfl ?_
  clear e166 a166 hfs167 w163 z163
  refine x_iload_n 0 dL_texts_477 rfl rfl ?_
  refine x_iconst 1 (by decide) dL_texts_478 ?_
  refine x_iadd dL_texts_479 ?_
  refine x_toX (st' := [.int 20, .int 20]) rfl ?_
  refine x_icmp_ne_n 493 dL_texts_480 (by decide) (by decide) ?_
  refine x_aload_n 1 dL_texts_483 rfl rfl ?_
  obtain ⟨f168, e168, a168, w168⟩ := k_ferr_of hN w166 tf_751
  have z168 := z166.st a168
  obtain ⟨fs169, hfs169⟩ := w166.ob
  refine x_callv (As := []) (rest := []) 108 4070 dL_texts_484 mi_X5_firstError ml_L_65 rfl rfl (Nat.le_of_ble_eq_true rfl) ⟨by decide, by decide⟩ (by omega) (by omega) hfs169 rfl (c_X5_firstError N _ _ _ _ e168) (x_K.some ?_) x_KX.none
  refine x_toX (st' := [.int 20]) rfl ?_
  clear e168 a168 hfs169 w166 z166
  refine x_iload_n 0 dL_texts_487 rfl rfl ?_
  refine x_iconst 1 (by decide) dL_texts_488 ?_
  refine x_iadd dL_texts_489 ?_
  refine x_toX (st' := [.int 20, .int 20]) rfl ?_
  refine x_icmp_eq_y 495 dL_texts_490 (by decide) (by decide) ?_
  refine x_iinc 20 (lv' := [(1, .int 20), (0, .ref h.2)]) dL_texts_495 0 rfl (by decide) (by decide) rfl ?_
  refine x_goto 454 dL_texts_498 (by decide) ?_
  refine x_iload_n 0 dL_texts_454 rfl rfl ?_
  refine x_bipush 60 (by decide) dL_texts_455 ?_
  refine x_icmp_ge_n 501 dL_texts_457 (by decide) (by decide) ?_
  refine x_aload_n 1 dL_texts_460 rfl rfl ?_
  refine x_iload_n 0 dL_texts_461 rfl rfl ?_
  refine x_iconst 2 (by decide) dL_texts_462 ?_
  refine x_irem (f := fun v => if v = 0 then some () else none) (w := ()) dL_texts_463 (by decide) (fun v170 hv170 => ?_)
  obtain rfl : v170 = 0 := by by_cases z : v170 = 0; exact z; rw [if_neg z] at hv170; cases hv170
  refine x_if_ne_n 472 dL_texts_464 (by decide) (by decide) ?_
  refine x_bipush 99 (by decide) dL_texts_467 ?_
  refine x_goto 474 dL_texts_469 (by decide) ?_
  obtain ⟨f171, e171, a171, w171⟩ := k_app (N := N) w168 99
  rw [tf_752] at e171 w171
  replace w171 : k_wd h.2 (h.2 + 70) 61 (k_of k_e0s) [] (fun _ => none) [99, 59, 99, 59, 99, 59, 99, 59, 99, 59, 99, 59, 99, 59, 99, 59, 99, 59, 99, 59, 99] f171 := w171
  have z171 := z168.st a171
  obtain ⟨fs172, hfs172⟩ := w168.ob
  refine x_callv (As := [.int 99]) (rest := []) 107 4064 dL_texts_474 mi_X5_append ml_L_59 rfl rfl (Nat.le_of_ble_eq_true rfl) ⟨by decide, by decide⟩ (by omega) (by omega) hfs172 rfl (c_X5_append N _ _ _ _ _ e171) (x_K.some ?_) x_KX.none
  refine x_toX (st' := [.int 21]) rfl ?_
  clear e171 a171 hfs172 w168 z168
  refine x_iload_n 0 dL_texts_477 rfl rfl ?_
  refine x_iconst 1 (by decide) dL_texts_478 ?_
  refine x_iadd dL_texts_479 ?_
  refine x_toX (st' := [.int 21, .int 21]) rfl ?_
  refine x_icmp_ne_n 493 dL_texts_480 (by decide) (by decide) ?_
  refine x_aload_n 1 dL_texts_483 rfl rfl ?_
  obtain ⟨f173, e173, a173, w173⟩ := k_ferr_of hN w171 tf_753
  have z173 := z171.st a173
  obtain ⟨fs174, hfs174⟩ := w171.ob
  refine x_callv (As := []) (rest := []) 107 4064 dL_texts_484 mi_X5_firstError ml_L_65 rfl rfl (Nat.le_of_ble_eq_true rfl) ⟨by decide, by decide⟩ (by omega) (by omega) hfs174 rfl (c_X5_firstError N _ _ _ _ e173) (x_K.some ?_) x_KX.none
  refine x_toX (st' := [.int 21]) rfl ?_
  clear e173 a173 hfs174 w171 z171
  refine x_iload_n 0 dL_texts_487 rfl rfl ?_
  refine x_iconst 1 (by decide) dL_texts_488 ?_
  refine x_iadd dL_texts_489 ?_
  refine x_toX (st' := [.int 21, .int 21]) rfl ?_
  refine x_icmp_eq_y 495 dL_texts_490 (by decide) (by decide) ?_
  refine x_iinc 21 (lv' := [(1, .int 21), (0, .ref h.2)]) dL_texts_495 0 rfl (by decide) (by decide) rfl ?_
  refine x_goto 454 dL_texts_498 (by decide) ?_
  refine x_iload_n 0 dL_texts_454 rfl rfl ?_
  refine x_bipush 60 (by decide) dL_texts_455 ?_
  refine x_icmp_ge_n 501 dL_texts_457 (by decide) (by decide) ?_
  refine x_aload_n 1 dL_texts_460 rfl rfl ?_
  refine x_iload_n 0 dL_texts_461 rfl rfl ?_
  refine x_iconst 2 (by decide) dL_texts_462 ?_
  refine x_irem (f := fun v => if v = 1 then some () else none) (w := ()) dL_texts_463 (by decide) (fun v175 hv175 => ?_)
  obtain rfl : v175 = 1 := by by_cases z : v175 = 1; exact z; rw [if_neg z] at hv175; cases hv175
  refine x_if_ne_y 472 dL_texts_464 (by decide) (by decide) ?_
  refine x_bipush 59 (by decide) dL_texts_472 ?_
  obtain ⟨f176, e176, a176, w176⟩ := k_app (N := N) w173 59
  rw [tf_754] at e176 w176
  replace w176 : k_wd h.2 (h.2 + 70) 61 (k_of k_e0s) [] (fun _ => none) [99, 59, 99, 59, 99, 59, 99, 59, 99, 59, 99, 59, 99, 59, 99, 59, 99, 59, 99, 59, 99, 59] f176 := w176
  have z176 := z173.st a176
  obtain ⟨fs177, hfs177⟩ := w173.ob
  refine x_callv (As := [.int 59]) (rest := []) 106 4058 dL_texts_474 mi_X5_append ml_L_59 rfl rfl (Nat.le_of_ble_eq_true rfl) ⟨by decide, by decide⟩ (by omega) (by omega) hfs177 rfl (c_X5_append N _ _ _ _ _ e176) (x_K.some ?_) x_KX.none
  refine x_toX (st' := [.int 22]) rfl ?_
  clear e176 a176 hfs177 w173 z173
  refine x_iload_n 0 dL_texts_477 rfl rfl ?_
  refine x_iconst 1 (by decide) dL_texts_478 ?_
  refine x_iadd dL_texts_479 ?_
  refine x_toX (st' := [.int 22, .int 22]) rfl ?_
  refine x_icmp_ne_n 493 dL_texts_480 (by decide) (by decide) ?_
  refine x_aload_n 1 dL_texts_483 rfl rfl ?_
  obtain ⟨f178, e178, a178, w178⟩ := k_ferr_of hN w176 tf_755
  have z178 := z176.st a178
  obtain ⟨fs179, hfs179⟩ := w176.ob
  refine x_callv (As := []) (rest := []) 106 4058 dL_texts_484 mi_X5_firstError ml_L_65 rfl rfl (Nat.le_of_ble_eq_true rfl) ⟨by decide, by decide⟩ (by omega) (by omega) hfs179 rfl (c_X5_firstError N _ _ _ _ e178) (x_K.some ?_) x_KX.none
  refine x_toX (st' := [.int 22]) rfl ?_
  clear e178 a178 hfs179 w176 z176
  refine x_iload_n 0 dL_texts_487 rfl rfl ?_
  refine x_iconst 1 (by decide) dL_texts_488 ?_
  refine x_iadd dL_texts_489 ?_
  refine x_toX (st' := [.int 22, .int 22]) rfl ?_
  refine x_icmp_eq_y 495 dL_texts_490 (by decide) (by decide) ?_
  refine x_iinc 22 (lv' := [(1, .int 22), (0, .ref h.2)]) dL_texts_495 0 rfl (by decide) (by decide) rfl ?_
  refine x_goto 454 dL_texts_498 (by decide) ?_
  refine x_iload_n 0 dL_texts_454 rfl rfl ?_
  refine x_bipush 60 (by decide) dL_texts_455 ?_
  refine x_icmp_ge_n 501 dL_texts_457 (by decide) (by decide) ?_
  refine x_aload_n 1 dL_texts_460 rfl rfl ?_
  refine x_iload_n 0 dL_texts_461 rfl rfl ?_
  refine x_iconst 2 (by decide) dL_texts_462 ?_
  refine x_irem (f := fun v => if v = 0 then some () else none) (w := ()) dL_texts_463 (by decide) (fun v180 hv180 => ?_)
  obtain rfl : v180 = 0 := by by_cases z : v180 = 0; exact z; rw [if_neg z] at hv180; cases hv180
  refine x_if_ne_n 472 dL_texts_464 (by decide) (by decide) ?_
  refine x_bipush 99 (by decide) dL_texts_467 ?_
  refine x_goto 474 dL_texts_469 (by decide) ?_
  obtain ⟨f181, e181, a181, w181⟩ := k_app (N := N) w178 99
  rw [tf_756] at e181 w181
  replace w181 : k_wd h.2 (h.2 + 70) 61 (k_of k_e0s) [] (fun _ => none) [99, 59, 99, 59, 99, 59, 99, 59, 99, 59, 99, 59, 99, 59, 99, 59, 99, 59, 99, 59, 99, 59, 99] f181 := w181
  have z181 := z178.st a181
  obtain ⟨fs182, hfs182⟩ := w178.ob
  refine x_callv (As := [.int 99]) (rest := []) 105 4052 dL_texts_474 mi_X5_append ml_L_59 rfl rfl (Nat.le_of_ble_eq_true rfl) ⟨by decide, by decide⟩ (by omega) (by omega) hfs182 rfl (c_X5_append N _ _ _ _ _ e181) (x_K.some ?_) x_KX.none
  refine x_toX (st' := [.int 23]) rfl ?_
  clear e181 a181 hfs182 w178 z178
  refine x_iload_n 0 dL_texts_477 rfl rfl ?_
  refine x_iconst 1 (by decide) dL_texts_478 ?_
  refine x_iadd dL_texts_479 ?_
  refine x_toX (st' := [.int 23, .int 23]) rfl ?_
  refine x_icmp_ne_n 493 dL_texts_480 (by decide) (by decide) ?_
  refine x_aload_n 1 dL_texts_483 rfl rfl ?_
  obtain ⟨f183, e183, a183, w183⟩ := k_ferr_of hN w181 tf_757
  have z183 := z181.st a183
  obtain ⟨fs184, hfs184⟩ := w181.ob
  refine x_callv (As := []) (rest := []) 105 4052 dL_texts_484 mi_X5_firstError ml_L_65 rfl rfl (Nat.le_of_ble_eq_true rfl) ⟨by decide, by decide⟩ (by omega) (by omega) hfs184 rfl (c_X5_firstError N _ _ _ _ e183) (x_K.some ?_) x_KX.none
  refine x_toX (st' := [.int 23]) rfl ?_
  clear e183 a183 hfs184 w181 z181
  refine x_iload_n 0 dL_texts_487 rfl rfl ?_
  refine x_iconst 1 (by decide) dL_texts_488 ?_
  refine x_iadd dL_texts_489 ?_
  refine x_toX (st' := [.int 23, .int 23]) rfl ?_
  refine x_icmp_eq_y 495 dL_texts_490 (by decide) (by decide) ?_
  refine x_iinc 23 (lv' := [(1, .int 23), (0, .ref h.2)]) dL_texts_495 0 rfl (by decide) (by decide) rfl ?_
  refine x_goto 454 dL_texts_498 (by decide) ?_
  refine x_iload_n 0 dL_texts_454 rfl rfl ?_
  refine x_bipush 60 (by decide) dL_texts_455 ?_
  refine x_icmp_ge_n 501 dL_texts_457 (by decide) (by decide) ?_
  refine x_aload_n 1 dL_texts_460 rfl rfl ?_
  refine x_iload_n 0 dL_texts_461 rfl rfl ?_
  refine x_iconst 2 (by decide) dL_texts_462 ?_
  refine x_irem (f := fun v => if v = 1 then some () else none) (w := ()) dL_texts_463 (by decide) (fun v185 hv185 => ?_)
  obtain rfl : v185 = 1 := by by_cases z : v185 = 1; exact z; rw [if_neg z] at hv185; cases hv185
  refine x_if_ne_y 472 dL_texts_464 (by decide) (by decide) ?_
  refine x_bipush 59 (by decide) dL_texts_472 ?_
  obtain ⟨f186, e186, a186, w186⟩ := k_app (N := N) w183 59
  rw [tf_758] at e186 w186
  replace w186 : k_wd h.2 (h.2 + 70) 61 (k_of k_e0s) [] (fun _ => none) [99, 59, 99, 59, 99, 59, 99, 59, 99, 59, 99, 59, 99, 59, 99, 59, 99, 59, 99, 59, 99, 59, 99, 59] f186 := w186
  have z186 := z183.st a186
  obtain ⟨fs187, hfs187⟩ := w183.ob
  refine x_callv (As := [.int 59]) (rest := []) 104 4046 dL_texts_474 mi_X5_append ml_L_59 rfl rfl (Nat.le_of_ble_eq_true rfl) ⟨by decide, by decide⟩ (by omega) (by omega) hfs187 rfl (c_X5_append N _ _ _ _ _ e186) (x_K.some ?_) x_KX.none
  refine x_toX (st' := [.int 24]) rfl ?_
  clear e186 a186 hfs187 w183 z183
  refine x_iload_n 0 dL_texts_477 rfl rfl ?_
  refine x_iconst 1 (by decide) dL_texts_478 ?_
  refine x_iadd dL_texts_479 ?_
  refine x_toX (st' := [.int 24, .int 24]) rfl ?_
  refine x_icmp_ne_n 493 dL_texts_480 (by decide) (by decide) ?_
  refine x_aload_n 1 dL_texts_483 rfl rfl ?_
  obtain ⟨f188, e188, a188, w188⟩ := k_ferr_of hN w186 tf_759
  have z188 := z186.st a188
  obtain ⟨fs189, hfs189⟩ := w186.ob
  refine x_callv (As := []) (rest := []) 104 4046 dL_texts_484 mi_X5_firstError ml_L_65 rfl rfl (Nat.le_of_ble_eq_true rfl) ⟨by decide, by decide⟩ (by omega) (by omega) hfs189 rfl (c_X5_firstError N _ _ _ _ e188) (x_K.some ?_) x_KX.none
  refine x_toX (st' := [.int 24]) rfl ?_
  clear e188 a188 hfs189 w186 z186
  refine x_iload_n 0 dL_texts_487 rfl rfl ?_
  refine x_iconst 1 (by decide) dL_texts_488 ?_
  refine x_iadd dL_texts_489 ?_
  refine x_toX (st' := [.int 24, .int 24]) rfl ?_
  refine x_icmp_eq_y 495 dL_texts_490 (by decide) (by decide) ?_
  refine x_iinc 24 (lv' := [(1, .int 24), (0, .ref h.2)]) dL_texts_495 0 rfl (by decide) (by decide) rfl ?_
  refine x_goto 454 dL_texts_498 (by decide) ?_
  refine x_iload_n 0 dL_texts_454 rfl rfl ?_
  refine x_bipush 60 (by decide) dL_texts_455 ?_
  refine x_icmp_ge_n 501 dL_texts_457 (by decide) (by decide) ?_
  refine x_aload_n 1 dL_texts_460 rfl rfl ?_
  refine x_iload_n 0 dL_texts_461 rfl rfl ?_
  refine x_iconst 2 (by decide) dL_texts_462 ?_
  refine x_irem (f := fun v => if v = 0 then some () else none) (w := ()) dL_texts_463 (by decide) (fun v190 hv190 => ?_)
  obtain rfl : v190 = 0 := by by_cases z : v190 = 0; exact z; rw [if_neg z] at hv190; cases hv190
  refine x_if_ne_n 472 dL_texts_464 (by decide) (by decide) ?_
  refine x_bipush 99 (by decide) dL_texts_467 ?_
  refine x_goto 474 dL_texts_469 (by decide) ?_
  obtain ⟨f191, e191, a191, w191⟩ := k_app (N := N) w188 99
  rw [tf_760] at e191 w191
  replace w191 : k_wd h.2 (h.2 + 70) 61 (k_of k_e0s) [] (fun _ => none) [99, 59, 99, 59, 99, 59, 99, 59, 99, 59, 99, 59, 99, 59, 99, 59, 99, 59, 99, 59, 99, 59, 99, 59, 99] f191 := w191
  have z191 := z188.st a191
  obtain ⟨fs192, hfs192⟩ := w188.ob
  refine x_callv (As := [.int 99]) (rest := []) 103 4040 dL_texts_474 mi_X5_append ml_L_59 rfl rfl (Nat.le_of_ble_eq_true rfl) ⟨by decide, by decide⟩ (by omega) (by omega) hfs192 rfl (c_X5_append N _ _ _ _ _ e191) (x_K.some ?_) x_KX.none
  refine x_toX (st' := [.int 25]) rfl ?_
  clear e191 a191 hfs192 w188 z188
  refine x_iload_n 0 dL_texts_477 rfl rfl ?_
  refine x_iconst 1 (by decide) dL_texts_478 ?_
  refine x_iadd dL_texts_479 ?_
  refine x_toX (st' := [.int 25, .int 25]) rfl ?_
  refine x_icmp_ne_n 493 dL_texts_480 (by decide) (by decide) ?_
  refine x_aload_n 1 dL_texts_483 rfl rfl ?_
  obtain ⟨f193, e193, a193, w193⟩ := k_ferr_of hN w191 tf_761
  have z193 := z191.st a193
  obtain ⟨fs194, hfs194⟩ := w191.ob
  refine x_callv (As := []) (rest := []) 103 4040 dL_texts_484 mi_X5_firstError ml_L_65 rfl rfl (Nat.le_of_ble_eq_true rfl) ⟨by decide, by decide⟩ (by omega) (by omega) hfs194 rfl (c_X5_firstError N _ _ _ _ e193) (x_K.some ?_) x_KX.none
  refine x_toX (st' := [.int 25]) rfl ?_
  clear e193 a193 hfs194 w191 z191
  refine x_iload_n 0 dL_texts_487 rfl rfl ?_
  refine x_iconst 1 (by decide) dL_texts_488 ?_
  refine x_iadd dL_texts_489 ?_
  refine x_toX (st' := [.int 25, .int 25]) rfl ?_
  refine x_icmp_eq_y 495 dL_texts_490 (by decide) (by decide) ?_
  refine x_iinc 25 (lv' := [(1, .int 25), (0, .ref h.2)]) dL_texts_495 0 rfl (by decide) (by decide) rfl ?_
  refine x_goto 454 dL_texts_498 (by decide) ?_
  refine x_iload_n 0 dL_texts_454 rfl rfl ?_
  refine x_bipush 60 (by decide) dL_texts_455 ?_
  refine x_icmp_ge_n 501 dL_texts_457 (by decide) (by decide) ?_
  refine x_aload_n 1 dL_texts_460 rfl rfl ?_
  refine x_iload_n 0 dL_texts_461 rfl rfl ?_
  refine x_iconst 2 (by decide) dL_texts_462 ?_
  refine x_irem (f := fun v => if v = 1 then some () else none) (w := ()) dL_texts_463 (by decide) (fun v195 hv195 => ?_)
  obtain rfl : v195 = 1 := by by_cases z : v195 = 1; exact z; rw [if_neg z] at hv195; cases hv195
  refine x_if_ne_y 472 dL_texts_464 (by decide) (by decide) ?_
  refine x_bipush 59 (by decide) dL_texts_472 ?_
  obtain ⟨f196, e196, a196, w196⟩ := k_app (N := N) w193 59
  rw [tf_762] at e196 w196
  replace w196 : k_wd h.2 (h.2 + 70) 61 (k_of k_e0s) [] (fun _ => none) [99, 59, 99, 59, 99, 59, 99, 59, 99, 59, 99, 59, 99, 59, 99, 59, 99, 59, 99, 59, 99, 59, 99, 59, 99, 59] f196 := w196
  have z196 := z193.st a196
  obtain ⟨fs197, hfs197⟩ := w193.ob
  refine x_callv (As := [.int 59]) (rest := []) 102 4034 dL_texts_474 mi_X5_append ml_L_59 rfl rfl (Nat.le_of_ble_eq_true rfl) ⟨by decide, by decide⟩ (by omega) (by omega) hfs197 rfl (c_X5_append N _ _ _ _ _ e196) (x_K.some ?_) x_KX.none
  refine x_toX (st' := [.int 26]) rfl ?_
  clear e196 a196 hfs197 w193 z193
  refine x_iload_n 0 dL_texts_477 rfl rfl ?_
  refine x_iconst 1 (by decide) dL_texts_478 ?_
  refine x_iadd dL_texts_479 ?_
  refine x_toX (st' := [.int 26, .int 26]) rfl ?_
  refine x_icmp_ne_n 493 dL_texts_480 (by decide) (by decide) ?_
  refine x_aload_n 1 dL_texts_483 rfl rfl ?_
  obtain ⟨f198, e198, a198, w198⟩ := k_ferr_of hN w196 tf_763
  have z198 := z196.st a198
  obtain ⟨fs199, hfs199⟩ := w196.ob
  refine x_callv (As := []) (rest := []) 102 4034 dL_texts_484 mi_X5_firstError ml_L_65 rfl rfl (Nat.le_of_ble_eq_true rfl) ⟨by decide, by decide⟩ (by omega) (by omega) hfs199 rfl (c_X5_firstError N _ _ _ _ e198) (x_K.some ?_) x_KX.none
  refine x_toX (st' := [.int 26]) rfl ?_
  clear e198 a198 hfs199 w196 z196
  refine x_iload_n 0 dL_texts_487 rfl rfl ?_
  refine x_iconst 1 (by decide) dL_texts_488 ?_
  refine x_iadd dL_texts_489 ?_
  refine x_toX (st' := [.int 26, .int 26]) rfl ?_
  refine x_icmp_eq_y 495 dL_texts_490 (by decide) (by decide) ?_
  refine x_iinc 26 (lv' := [(1, .int 26), (0, .ref h.2)]) dL_texts_495 0 rfl (by decide) (by decide) rfl ?_
  refine x_goto 454 dL_texts_498 (by decide) ?_
  refine x_iload_n 0 dL_texts_454 rfl rfl ?_
  refine x_bipush 60 (by decide) dL_texts_455 ?_
  refine x_icmp_ge_n 501 dL_texts_457 (by decide) (by decide) ?_
  refine x_aload_n 1 dL_texts_460 rfl rfl ?_
  refine x_iload_n 0 dL_texts_461 rfl rfl ?_
  refine x_iconst 2 (by decide) dL_texts_462 ?_
  refine x_irem (f := fun v => if v = 0 then some () else none) (w := ()) dL_texts_463 (by decide) (fun v200 hv200 => ?_)
  obtain rfl : v200 = 0 := by by_cases z : v200 = 0; exact z; rw [if_neg z] at hv200; cases hv200
  refine x_if_ne_n 472 dL_texts_464 (by decide) (by decide) ?_
  refine x_bipush 99 (by decide) dL_texts_467 ?_
  refine x_goto 474 dL_texts_469 (by decide) ?_
  obtain ⟨f201, e201, a201, w201⟩ := k_app (N := N) w198 99
  rw [tf_764] at e201 w201
  replace w201 : k_wd h.2 (h.2 + 70) 61 (k_of k_e0s) [] (fun _ => none) [99, 59, 99, 59, 99, 59, 99, 59, 99, 59, 99, 59, 99, 59, 99, 59, 99, 59, 99, 59, 99, 59, 99, 59, 99, 59, 99] f201 := w201
  have z201 := z198.st a201
  obtain ⟨fs202, hfs202⟩ := w198.ob
  refine x_callv (As := [.int 99]) (rest := []) 101 4028 dL_texts_474 mi_X5_append ml_L_59 rfl rfl (Nat.le_of_ble_eq_true rfl) ⟨by decide, by decide⟩ (by omega) (by omega) hfs202 rfl (c_X5_append N _ _ _ _ _ e201) (x_K.some ?_) x_KX.none
  refine x_toX (st' := [.int 27]) rfl ?_
  clear e201 a201 hfs202 w198 z198
  refine x_iload_n 0 dL_texts_477 rfl rfl ?_
  refine x_iconst 1 (by decide) dL_texts_478 ?_
  refine x_iadd dL_texts_479 ?_
  refine x_toX (st' := [.int 27, .int 27]) rfl ?_
  refine x_icmp_ne_n 493 dL_texts_480 (by decide) (by decide) ?_
  refine x_aload_n 1 dL_texts_483 rfl rfl ?_
  obtain ⟨f203, e203, a203, w203⟩ := k_ferr_of hN w201 tf_765
  have z203 := z201.st a203
  obtain ⟨fs204, hfs204⟩ := w201.ob
  refine x_callv (As := []) (rest := []) 101 4028 dL_texts_484 mi_X5_firstError ml_L_65 rfl rfl (Nat.le_of_ble_eq_true rfl) ⟨by decide, by decide⟩ (by omega) (by omega) hfs204 rfl (c_X5_firstError N _ _ _ _ e203) (x_K.some ?_) x_KX.none
  refine x_toX (st' := [.int 27]) rfl ?_
  clear e203 a203 hfs204 w201 z201
  refine x_iload_n 0 dL_texts_487 rfl rfl ?_
  refine x_iconst 1 (by decide) dL_texts_488 ?_
  refine x_iadd dL_texts_489 ?_
  refine x_toX (st' := [.int 27, .int 27]) rfl ?_
  refine x_icmp_eq_y 495 dL_texts_490 (by decide) (by decide) ?_
  refine x_iinc 27 (lv' := [(1, .int 27), (0, .ref h.2)]) dL_texts_495 0 rfl (by decide) (by decide) rfl ?_
  refine x_goto 454 dL_texts_498 (by decide) ?_
  refine x_iload_n 0 dL_texts_454 rfl rfl ?_
  refine x_bipush 60 (by decide) dL_texts_455 ?_
  refine x_icmp_ge_n 501 dL_texts_457 (by decide) (by decide) ?_
  refine x_aload_n 1 dL_texts_460 rfl rfl ?_
  refine x_iload_n 0 dL_texts_461 rfl rfl ?_
  refine x_iconst 2 (by decide) dL_texts_462 ?_
  refine x_irem (f := fun v => if v = 1 then some () else none) (w := ()) dL_texts_463 (by decide) (fun v205 hv205 => ?_)
  obtain rfl : v205 = 1 := by by_cases z : v205 = 1; exact z; rw [if_neg z] at hv205; cases hv205
  refine x_if_ne_y 472 dL_texts_464 (by decide) (by decide) ?_
  refine x_bipush 59 (by decide) dL_texts_472 ?_
  obtain ⟨f206, e206, a206, w206⟩ := k_app (N := N) w203 59
  rw [tf_766] at e206 w206
  replace w206 : k_wd h.2 (h.2 + 70) 61 (k_of k_e0s) [] (fun _ => none) [99, 59, 99, 59, 99, 59, 99, 59, 99, 59, 99, 59, 99, 59, 99, 59, 99, 59, 99, 59, 99, 59, 99, 59, 99, 59, 99, 59] f206 := w206
  have z206 := z203.st a206
  obtain ⟨fs207, hfs207⟩ := w203.ob
  refine x_callv (As := [.int 59]) (rest := []) 100 4022 dL_texts_474 mi_X5_append ml_L_59 rfl rfl (Nat.le_of_ble_eq_true rfl) ⟨by decide, by decide⟩ (by omega) (by omega) hfs207 rfl (c_X5_append N _ _ _ _ _ e206) (x_K.some ?_) x_KX.none
  refine x_toX (st' := [.int 28]) rfl ?_
  clear e206 a206 hfs207 w203 z203
  refine x_iload_n 0 dL_texts_477 rfl rfl ?_
  refine x_iconst 1 (by decide) dL_texts_478 ?_
  refine x_iadd dL_texts_479 ?_
  refine x_toX (st' := [.int 28, .int 28]) rfl ?_
  refine x_icmp_ne_n 493 dL_texts_480 (by decide) (by decide) ?_
  refine x_aload_n 1 dL_texts_483 rfl rfl ?_
  obtain ⟨f208, e208, a208, w208⟩ := k_ferr_of hN w206 tf_767
  have z208 := z206.st a208
  obtain ⟨fs209, hfs209⟩ := w206.ob
  refine x_callv (As := []) (rest := []) 100 4022 dL_texts_484 mi_X5_firstError ml_L_65 rfl rfl (Nat.le_of_ble_eq_true rfl) ⟨by decide, by decide⟩ (by omega) (by omega) hfs209 rfl (c_X5_firstError N _ _ _ _ e208) (x_K.some ?_) x_KX.none
  refine x_toX (st' := [.int 28]) rfl ?_
  clear e208 a208 hfs209 w206 z206
  refine x_iload_n 0 dL_texts_487 rfl rfl ?_
  refine x_iconst 1 (by decide) dL_texts_488 ?_
  refine x_iadd dL_texts_489 ?_
  refine x_toX (st' := [.int 28, .int 28]) rfl ?_
  refine x_icmp_eq_y 495 dL_texts_490 (by decide) (by decide) ?_
  refine x_iinc 28 (lv' := [(1, .int 28), (0, .ref h.2)]) dL_texts_495 0 rfl (by decide) (by decide) rfl ?_
  refine x_goto 454 dL_texts_498 (by decide) ?_
  refine x_iload_n 0 dL_texts_454 rfl rfl ?_
  refine x_bipush 60 (by decide) dL_texts_455 ?_
  refine x_icmp_ge_n 501 dL_texts_457 (by decide) (by decide) ?_
  refine x_aload_n 1 dL_texts_460 rfl rfl ?_
  refine x_iload_n 0 dL_texts_461 rfl rfl ?_
  refine x_iconst 2 (by decide) dL_texts_462 ?_
  refine x_irem (f := fun v => if v = 0 then some () else none) (w := ()) dL_texts_463 (by decide) (fun v210 hv210 => ?_)
  obtain rfl : v210 = 0 := by by_cases z : v210 = 0; exact z; rw [if_neg z] at hv210; cases hv210
  refine x_if_ne_n 472 dL_texts_464 (by decide) (by decide) ?_
  refine x_bipush 99 (by decide) dL_texts_467 ?_
  refine x_goto 474 dL_texts_469 (by decide) ?_
  obtain ⟨f211, e211, a211, w211⟩ := k_app (N := N) w208 99
  rw [tf_768] at e211 w211
  replace w211 : k_wd h.2 (h.2 + 70) 61 (k_of k_e0s) [] (fun _ => none) [99, 59, 99, 59, 99, 59, 99, 59, 99, 59, 99, 59, 99, 59, 99, 59, 99, 59, 99, 59, 99, 59, 99, 59, 99, 59, 99, 59, 99] f211 := w211
  have z211 := z208.st a211
  obtain ⟨fs212, hfs212⟩ := w208.ob
  refine x_callv (As := [.int 99]) (rest := []) 99 4016 dL_texts_474 mi_X5_append ml_L_59 rfl rfl (Nat.le_of_ble_eq_true rfl) ⟨by decide, by decide⟩ (by omega) (by omega) hfs212 rfl (c_X5_append N _ _ _ _ _ e211) (x_K.some ?_) x_KX.none
  refine x_toX (st' := [.int 29]) rfl ?_
  clear e211 a211 hfs212 w208 z208
  refine x_iload_n 0 dL_texts_477 rfl rfl ?_
  refine x_iconst 1 (by decide) dL_texts_478 ?_
  refine x_iadd dL_texts_479 ?_
  refine x_toX (st' := [.int 29, .int 29]) rfl ?_
  refine x_icmp_ne_n 493 dL_texts_480 (by decide) (by decide) ?_
  refine x_aload_n 1 dL_texts_483 rfl rfl ?_
  obtain ⟨f213, e213, a213, w213⟩ := k_ferr_of hN w211 tf_769
  have z213 := z211.st a213
  obtain ⟨fs214, hfs214⟩ := w211.ob
  refine x_callv (As := []) (rest := []) 99 4016 dL_texts_484 mi_X5_firstError ml_L_65 rfl rfl (Nat.le_of_ble_eq_true rfl) ⟨by decide, by decide⟩ (by omega) (by omega) hfs214 rfl (c_X5_firstError N _ _ _ _ e213) (x_K.some ?_) x_KX.none
  refine x_toX (st' := [.int 29]) rfl ?_
  clear e213 a213 hfs214 w211 z211
  refine x_iload_n 0 dL_texts_487 rfl rfl ?_
  refine x_iconst 1 (by decide) dL_texts_488 ?_
  refine x_iadd dL_texts_489 ?_
  refine x_toX (st' := [.int 29, .int 29]) rfl ?_
  refine x_icmp_eq_y 495 dL_texts_490 (by decide) (by decide) ?_
  refine x_iinc 29 (lv' := [(1, .int 29), (0, .ref h.2)]) dL_texts_495 0 rfl (by decide) (by decide) rfl ?_
  refine x_goto 454 dL_texts_498 (by decide) ?_
  refine x_iload_n 0 dL_texts_454 rfl rfl ?_
  refine x_bipush 60 (by decide) dL_texts_455 ?_
  refine x_icmp_ge_n 501 dL_texts_457 (by decide) (by decide) ?_
  refine x_aload_n 1 dL_texts_460 rfl rfl ?_
  refine x_iload_n 0 dL_texts_461 rfl rfl ?_
  refine x_iconst 2 (by decide) dL_texts_462 ?_
  refine x_irem (f := fun v => if v = 1 then some () else none) (w := ()) dL_texts_463 (by decide) (fun v215 hv215 => ?_)
  obtain rfl : v215 = 1 := by by_cases z : v215 = 1; exact z; rw [if_neg z] at hv215; cases hv215
  refine x_if_ne_y 472 dL_texts_464 (by decide) (by decide) ?_
  refine x_bipush 59 (by decide) dL_texts_472 ?_
  obtain ⟨f216, e216, a216, w216⟩ := k_app (N := N) w213 59
  rw [tf_770] at e216 w216
  replace w216 : k_wd h.2 (h.2 + 70) 61 (k_of k_e0s) [] (fun _ => none) [99, 59, 99, 59, 99, 59, 99, 59, 99, 59, 99, 59, 99, 59, 99, 59, 99, 59, 99, 59, 99, 59, 99, 59, 99, 59, 99, 59, 99, 59] f216 := w216
  have z216 := z213.st a216
  obtain ⟨fs217, hfs217⟩ := w213.ob
  refine x_callv (As := [.int 59]) (rest := []) 98 4010 dL_texts_474 mi_X5_append ml_L_59 rfl rfl (Nat.le_of_ble_eq_true rfl) ⟨by decide, by decide⟩ (by omega) (by omega) hfs217 rfl (c_X5_append N _ _ _ _ _ e216) (x_K.some ?_) x_KX.none
  refine x_toX (st' := [.int 30]) rfl ?_
  clear e216 a216 hfs217 w213 z213
  refine x_iload_n 0 dL_texts_477 rfl rfl ?_
  refine x_iconst 1 (by decide) dL_texts_478 ?_
  refine x_iadd dL_texts_479 ?_
  refine x_toX (st' := [.int 30, .int 30]) rfl ?_
  refine x_icmp_ne_n 493 dL_texts_480 (by decide) (by decide) ?_
  refine x_aload_n 1 dL_texts_483 rfl rfl ?_
  obtain ⟨f218, e218, a218, w218⟩ := k_ferr_of hN w216 tf_771
  have z218 := z216.st a218
  obtain ⟨fs219, hfs219⟩ := w216.ob
  refine x_callv (As := []) (rest := []) 98 4010 dL_texts_484 mi_X5_firstError ml_L_65 rfl rfl (Nat.le_of_ble_eq_true rfl) ⟨by decide, by decide⟩ (by omega) (by omega) hfs219 rfl (c_X5_firstError N _ _ _ _ e218) (x_K.some ?_) x_KX.none
  refine x_toX (st' := [.int 30]) rfl ?_
  clear e218 a218 hfs219 w216 z216
  refine x_iload_n 0 dL_texts_487 rfl rfl ?_
  refine x_iconst 1 (by decide) dL_texts_488 ?_
  refine x_iadd dL_texts_489 ?_
  refine x_toX (st' := [.int 30, .int 30]) rfl ?_
  refine x_icmp_eq_y 495 dL_texts_490 (by decide) (by decide) ?_
  refine x_iinc 30 (lv' := [(1, .int 30), (0, .ref h.2)]) dL_texts_495 0 rfl (by decide) (by decide) rfl ?_
  refine x_goto 454 dL_texts_498 (by decide) ?_
  refine x_iload_n 0 dL_texts_454 rfl rfl ?_
  refine x_bipush 60 (by decide) dL_texts_455 ?_
  refine x_icmp_ge_n 501 dL_texts_457 (by decide) (by decide) ?_
  refine x_aload_n 1 dL_texts_460 rfl rfl ?_
  refine x_iload_n 0 dL_texts_461 rfl rfl ?_
  refine x_iconst 2 (by decide) dL_texts_462 ?_
  refine x_irem (f := fun v => if v = 0 then some () else none) (w := ()) dL_texts_463 (by decide) (fun v220 hv220 => ?_)
  obtain rfl : v220 = 0 := by by_cases z : v220 = 0; exact z; rw [if_neg z] at hv220; cases hv220
  refine x_if_ne_n 472 dL_texts_464 (by decide) (by decide) ?_
  refine x_bipush 99 (by decide) dL_texts_467 ?_
  refine x_goto 474 dL_texts_469 (by decide) ?_
  obtain ⟨f221, e221, a221, w221⟩ := k_app (N := N) w218 99
  rw [tf_772] at e221 w221
  replace w221 : k_wd h.2 (h.2 + 70) 61 (k_of k_e0s) [] (fun _ => none) [99, 59, 99, 59, 99, 59, 99, 59, 99, 59, 99, 59, 99, 59, 99, 59, 99, 59, 99, 59, 99, 59, 99, 59, 99, 59, 99, 59, 99, 59, 99] f221 := w221
  have z221 := z218.st a221
  obtain ⟨fs222, hfs222⟩ := w218.ob
  refine x_callv (As := [.int 99]) (rest := []) 97 4004 dL_texts_474 mi_X5_append ml_L_59 rfl rfl (Nat.le_of_ble_eq_true rfl) ⟨by decide, by decide⟩ (by omega) (by omega) hfs222 rfl (c_X5_append N _ _ _ _ _ e221) (x_K.some ?_) x_KX.none
  refine x_toX (st' := [.int 31]) rfl ?_
  clear e221 a221 hfs222 w218 z218
  refine x_iload_n 0 dL_texts_477 rfl rfl ?_
  refine x_iconst 1 (by decide) dL_texts_478 ?_
  refine x_iadd dL_texts_479 ?_
  refine x_toX (st' := [.int 31, .int 31]) rfl ?_
  refine x_icmp_ne_n 493 dL_texts_480 (by decide) (by decide) ?_
  refine x_aload_n 1 dL_texts_483 rfl rfl ?_
  obtain ⟨f223, e223, a223, w223⟩ := k_ferr_of hN w221 tf_773
  have z223 := z221.st a223
  obtain ⟨fs224, hfs224⟩ := w221.ob
  refine x_callv (As := []) (rest := []) 97 4004 dL_texts_484 mi_X5_firstError ml_L_65 rfl rfl (Nat.le_of_ble_eq_true rfl) ⟨by decide, by decide⟩ (by omega) (by omega) hfs224 rfl (c_X5_firstError N _ _ _ _ e223) (x_K.some ?_) x_KX.none
  refine x_toX (st' := [.int 31]) rfl ?_
  clear e223 a223 hfs224 w221 z221
  refine x_iload_n 0 dL_texts_487 rfl rfl ?_
  refine x_iconst 1 (by decide) dL_texts_488 ?_
  refine x_iadd dL_texts_489 ?_
  refine x_toX (st' := [.int 31, .int 31]) rfl ?_
  refine x_icmp_eq_y 495 dL_texts_490 (by decide) (by decide) ?_
  refine x_iinc 31 (lv' := [(1, .int 31), (0, .ref h.2)]) dL_texts_495 0 rfl (by decide) (by decide) rfl ?_
  refine x_goto 454 dL_texts_498 (by decide) ?_
  refine x_iload_n 0 dL_texts_454 rfl rfl ?_
  refine x_bipush 60 (by decide) dL_texts_455 ?_
  refine x_icmp_ge_n 501 dL_texts_457 (by decide) (by decide) ?_
  refine x_aload_n 1 dL_texts_460 rfl rfl ?_
  refine x_iload_n 0 dL_texts_461 rfl rfl ?_
  refine x_iconst 2 (by decide) dL_texts_462 ?_
  refine x_irem (f := fun v => if v = 1 then some () else none) (w := ()) dL_texts_463 (by decide) (fun v225 hv225 => ?_)
  obtain rfl : v225 = 1 := by by_cases z : v225 = 1; exact z; rw [if_neg z] at hv225; cases hv225
  refine x_if_ne_y 472 dL_texts_464 (by decide) (by decide) ?_
  refine x_bipush 59 (by decide) dL_texts_472 ?_
  obtain ⟨f226, e226, a226, w226⟩ := k_app (N := N) w223 59
  rw [tf_774] at e226 w226
  replace w226 : k_wd h.2 (h.2 + 70) 61 (k_of k_e0s) [] (fun _ => none) [99, 59, 99, 59, 99, 59, 99, 59, 99, 59, 99, 59, 99, 59, 99, 59, 99, 59, 99, 59, 99, 59, 99, 59, 99, 59, 99, 59, 99, 59, 99, 59] f226 := w226
  have z226 := z223.st a226
  obtain ⟨fs227, hfs227⟩ := w223.ob
  refine x_callv (As := [.int 59]) (rest := []) 96 3998 dL_texts_474 mi_X5_append ml_L_59 rfl rfl (Nat.le_of_ble_eq_true rfl) ⟨by decide, by decide⟩ (by omega) (by omega) hfs227 rfl (c_X5_append N _ _ _ _ _ e226) (x_K.some ?_) x_KX.none
  refine x_toX (st' := [.int 32]) rfl ?_
  clear e226 a226 hfs227 w223 z223
  refine x_iload_n 0 dL_texts_477 rfl rfl ?_
  refine x_iconst 1 (by decide) dL_texts_478 ?_
  refine x_iadd dL_texts_479 ?_
  refine x_toX (st' := [.int 32, .int 32]) rfl ?_
  refine x_icmp_ne_n 493 dL_texts_480 (by decide) (by decide) ?_
  refine x_aload_n 1 dL_texts_483 rfl rfl ?_
  obtain ⟨f228, e228, a228, w228⟩ := k_ferr_of hN w226 tf_775
  have z228 := z226.st a228
  obtain ⟨fs229, hfs229⟩ := w226.ob
  refine x_callv (As := []) (rest := []) 96 3998 dL_texts_484 mi_X5_firstError ml_L_65 rfl rfl (Nat.le_of_ble_eq_true rfl) ⟨by decide, by decide⟩ (by omega) (by omega) hfs229 rfl (c_X5_firstError N _ _ _ _ e228) (x_K.some ?_) x_KX.none
  refine x_toX (st' := [.int 32]) rfl ?_
  clear e228 a228 hfs229 w226 z226
  refine x_iload_n 0 dL_texts_487 rfl rfl ?_
  refine x_iconst 1 (by decide) dL_texts_488 ?_
  refine x_iadd dL_texts_489 ?_
  refine x_toX (st' := [.int 32, .int 32]) rfl ?_
  refine x_icmp_eq_y 495 dL_texts_490 (by decide) (by decide) ?_
  refine x_iinc 32 (lv' := [(1, .int 32), (0, .ref h.2)]) dL_texts_495 0 rfl (by decide) (by decide) rfl ?_
  refine x_goto 454 dL_texts_498 (by decide) ?_
  refine x_iload_n 0 dL_texts_454 rfl rfl ?_
  refine x_bipush 60 (by decide) dL_texts_455 ?_
  refine x_icmp_ge_n 501 dL_texts_457 (by decide) (by decide) ?_
  refine x_aload_n 1 dL_texts_460 rfl rfl ?_
  refine x_iload_n 0 dL_texts_461 rfl rfl ?_
  refine x_iconst 2 (by decide) dL_texts_462 ?_
  refine x_irem (f := fun v => if v = 0 then some () else none) (w := ()) dL_texts_463 (by decide) (fun v230 hv230 => ?_)
  obtain rfl : v230 = 0 := by by_cases z : v230 = 0; exact z; rw [if_neg z] at hv230; cases hv230
  refine x_if_ne_n 472 dL_texts_464 (by decide) (by decide) ?_
  refine x_bipush 99 (by decide) dL_texts_467 ?_
  refine x_goto 474 dL_texts_469 (by decide) ?_
  obtain ⟨f231, e231, a231, w231⟩ := k_app (N := N) w228 99
  rw [tf_776] at e231 w231
  replace w231 : k_wd h.2 (h.2 + 70) 61 (k_of k_e0s) [] (fun _ => none) [99, 59, 99, 59, 99, 59, 99, 59, 99, 59, 99, 59, 99, 59, 99, 59, 99, 59, 99, 59, 99, 59, 99, 59, 99, 59, 99, 59, 99, 59, 99, 59, 99] f231 := w231
  have z231 := z228.st a231
  obtain ⟨fs232, hfs232⟩ := w228.ob
  refine x_callv (As := [.int 99]) (rest := []) 95 3992 dL_texts_474 mi_X5_append ml_L_59 rfl rfl (Nat.le_of_ble_eq_true rfl) ⟨by decide, by decide⟩ (by omega) (by omega) hfs232 rfl (c_X5_append N _ _ _ _ _ e231) (x_K.some ?_) x_KX.none
  refine x_toX (st' := [.int 33]) rfl ?_
  clear e231 a231 hfs232 w228 z228
  refine x_iload_n 0 dL_texts_477 rfl rfl ?_
  refine x_iconst 1 (by decide) dL_texts_478 ?_
  refine x_iadd dL_texts_479 ?_
  refine x_toX (st' := [.int 33, .int 33]) rfl ?_
  refine x_icmp_ne_n 493 dL_texts_480 (by decide) (by decide) ?_
  refine x_aload_n 1 dL_texts_483 rfl rfl ?_
  obtain ⟨f233, e233, a233, w233⟩ := k_ferr_of hN w231 tf_777
  have z233 := z231.st a233
  obtain ⟨fs234, hfs234⟩ := w231.ob
  refine x_callv (As := []) (rest := []) 95 3992 dL_texts_484 mi_X5_firstError ml_L_65 rfl rfl (Nat.le_of_ble_eq_true rfl) ⟨by decide, by decide⟩ (by omega) (by omega) hfs234 rfl (c_X5_firstError N _ _ _ _ e233) (x_K.some ?_) x_KX.none
  refine x_toX (st' := [.int 33]) rfl ?_
  clear e233 a233 hfs234 w231 z231
  refine x_iload_n 0 dL_texts_487 rfl rfl ?_
  refine x_iconst 1 (by decide) dL_texts_488 ?_
  refine x_iadd dL_texts_489 ?_
  refine x_toX (st' := [.int 33, .int 33]) rfl ?_
  refine x_icmp_eq_y 495 dL_texts_490 (by decide) (by decide) ?_
  refine x_iinc 33 (lv' := [(1, .int 33), (0, .ref h.2)]) dL_texts_495 0 rfl (by decide) (by decide) rfl ?_
  refine x_goto 454 dL_texts_498 (by decide) ?_
  refine x_iload_n 0 dL_texts_454 rfl rfl ?_
  refine x_bipush 60 (by decide) dL_texts_455 ?_
  refine x_icmp_ge_n 501 dL_texts_457 (by decide) (by decide) ?_
  refine x_aload_n 1 dL_texts_460 rfl rfl ?_
  refine x_iload_n 0 dL_texts_461 rfl rfl ?_
  refine x_iconst 2 (by decide) dL_texts_462 ?_
  refine x_irem (f := fun v => if v = 1 then some () else none) (w := ()) dL_texts_463 (by decide) (fun v235 hv235 => ?_)
  obtain rfl : v235 = 1 := by by_cases z : v235 = 1; exact z; rw [if_neg z] at hv235; cases hv235
  refine x_if_ne_y 472 dL_texts_464 (by decide) (by decide) ?_
  refine x_bipush 59 (by decide) dL_texts_472 ?_
  obtain ⟨f236, e236, a236, w236⟩ := k_app (N := N) w233 59
  rw [tf_778] at e236 w236
  replace w236 : k_wd h.2 (h.2 + 70) 61 (k_of k_e0s) [] (fun _ => none) [99, 59, 99, 59, 99, 59, 99, 59, 99, 59, 99, 59, 99, 59, 99, 59, 99, 59, 99, 59, 99, 59, 99, 59, 99, 59, 99, 59, 99, 59, 99, 59, 99, 59] f236 := w236
  have z236 := z233.st a236
  obtain ⟨fs237, hfs237⟩ := w233.ob
  refine x_callv (As := [.int 59]) (rest := []) 94 3986 dL_texts_474 mi_X5_append ml_L_59 rfl rfl (Nat.le_of_ble_eq_true rfl) ⟨by decide, by decide⟩ (by omega) (by omega) hfs237 rfl (c_X5_append N _ _ _ _ _ e236) (x_K.some ?_) x_KX.none
  refine x_toX (st' := [.int 34]) rfl ?_
  clear e236 a236 hfs237 w233 z233
  refine x_iload_n 0 dL_texts_477 rfl rfl ?_
  refine x_iconst 1 (by decide) dL_texts_478 ?_
  refine x_iadd dL_texts_479 ?_
  refine x_toX (st' := [.int 34, .int 34]) rfl ?_
  refine x_icmp_ne_n 493 dL_texts_480 (by decide) (by decide) ?_
  refine x_aload_n 1 dL_texts_483 rfl rfl ?_
  obtain ⟨f238, e238, a238, w238⟩ := k_ferr_of hN w236 tf_779
  have z238 := z236.st a238
  obtain ⟨fs239, hfs239⟩ := w236.ob
  refine x_callv (As := []) (rest := []) 94 3986 dL_texts_484 mi_X5_firstError ml_L_65 rfl rfl (Nat.le_of_ble_eq_true rfl) ⟨by decide, by decide⟩ (by omega) (by omega) hfs239 rfl (c_X5_firstError N _ _ _ _ e238) (x_K.some ?_) x_KX.none
  refine x_toX (st' := [.int 34]) rfl ?_
  clear e238 a238 hfs239 w236 z236
  refine x_iload_n 0 dL_texts_487 rfl rfl ?_
  refine x_iconst 1 (by decide) dL_texts_488 ?_
  refine x_iadd dL_texts_489 ?_
  refine x_toX (st' := [.int 34, .int 34]) rfl ?_
  refine x_icmp_eq_y 495 dL_texts_490 (by decide) (by decide) ?_
  refine x_iinc 34 (lv' := [(1, .int 34), (0, .ref h.2)]) dL_texts_495 0 rfl (by decide) (by decide) rfl ?_
  refine x_goto 454 dL_texts_498 (by decide) ?_
  refine x_iload_n 0 dL_texts_454 rfl rfl ?_
  refine x_bipush 60 (by decide) dL_texts_455 ?_
  refine x_icmp_ge_n 501 dL_texts_457 (by decide) (by decide) ?_
  refine x_aload_n 1 dL_texts_460 rfl rfl ?_
  refine x_iload_n 0 dL_texts_461 rfl rfl ?_
  refine x_iconst 2 (by decide) dL_texts_462 ?_
  refine x_irem (f := fun v => if v = 0 then some () else none) (w := ()) dL_texts_463 (by decide) (fun v240 hv240 => ?_)
  obtain rfl : v240 = 0 := by by_cases z : v240 = 0; exact z; rw [if_neg z] at hv240; cases hv240
  refine x_if_ne_n 472 dL_texts_464 (by decide) (by decide) ?_
  refine x_bipush 99 (by decide) dL_texts_467 ?_
  refine x_goto 474 dL_texts_469 (by decide) ?_
  obtain ⟨f241, e241, a241, w241⟩ := k_app (N := N) w238 99
  rw [tf_780] at e241 w241
  replace w241 : k_wd h.2 (h.2 + 70) 61 (k_of k_e0s) [] (fun _ => none) [99, 59, 99, 59, 99, 59, 99, 59, 99, 59, 99, 59, 99, 59, 99, 59, 99, 59, 99, 59, 99, 59, 99, 59, 99, 59, 99, 59, 99, 59, 99, 59, 99, 59, 99] f241 := w241
  have z241 := z238.st a241
  obtain ⟨fs242, hfs242⟩ := w238.ob
  refine x_callv (As := [.int 99]) (rest := []) 93 3980 dL_texts_474 mi_X5_append ml_L_59 rfl rfl (Nat.le_of_ble_eq_true rfl) ⟨by decide, by decide⟩ (by omega) (by omega) hfs242 rfl (c_X5_append N _ _ _ _ _ e241) (x_K.some ?_) x_KX.none
  refine x_toX (st' := [.int 35]) rfl ?_
  clear e241 a241 hfs242 w238 z238
  refine x_iload_n 0 dL_texts_477 rfl rfl ?_
  refine x_iconst 1 (by decide) dL_texts_478 ?_
  refine x_iadd dL_texts_479 ?_
  refine x_toX (st' := [.int 35, .int 35]) rfl ?_
  refine x_icmp_ne_n 493 dL_texts_480 (by decide) (by decide) ?_
  refine x_aload_n 1 dL_texts_483 rfl rfl ?_
  obtain ⟨f243, e243, a243, w243⟩ := k_ferr_of hN w241 tf_781
  have z243 := z241.st a243
  obtain ⟨fs244, hfs244⟩ := w241.ob
  refine x_callv (As := []) (rest := []) 93 3980 dL_texts_484 mi_X5_firstError ml_L_65 rfl rfl (Nat.le_of_ble_eq_true rfl) ⟨by decide, by decide⟩ (by omega) (by omega) hfs244 rfl (c_X5_firstError N _ _ _ _ e243) (x_K.some ?_) x_KX.none
  refine x_toX (st' := [.int 35]) rfl ?_
  clear e243 a243 hfs244 w241 z241
  refine x_iload_n 0 dL_texts_487 rfl rfl ?_
  refine x_iconst 1 (by decide) dL_texts_488 ?_
  refine x_iadd dL_texts_489 ?_
  refine x_toX (st' := [.int 35, .int 35]) rfl ?_
  refine x_icmp_eq_y 495 dL_texts_490 (by decide) (by decide) ?_
  refine x_iinc 35 (lv' := [(1, .int 35), (0, .ref h.2)]) dL_texts_495 0 rfl (by decide) (by decide) rfl ?_
  refine x_goto 454 dL_texts_498 (by decide) ?_
  refine x_iload_n 0 dL_texts_454 rfl rfl ?_
  refine x_bipush 60 (by decide) dL_texts_455 ?_
  refine x_icmp_ge_n 501 dL_texts_457 (by decide) (by decide) ?_
  refine x_aload_n 1 dL_texts_460 rfl rfl ?_
  refine x_iload_n 0 dL_texts_461 rfl rfl ?_
  refine x_iconst 2 (by decide) dL_texts_462 ?_
  refine x_irem (f := fun v => if v = 1 then some () else none) (w := ()) dL_texts_463 (by decide) (fun v245 hv245 => ?_)
  obtain rfl : v245 = 1 := by by_cases z : v245 = 1; exact z; rw [if_neg z] at hv245; cases hv245
  refine x_if_ne_y 472 dL_texts_464 (by decide) (by decide) ?_
  refine x_bipush 59 (by decide) dL_texts_472 ?_
  obtain ⟨f246, e246, a246, w246⟩ := k_app (N := N) w243 59
  rw [tf_782] at e246 w246
  replace w246 : k_wd h.2 (h.2 + 70) 61 (k_of k_e0s) [] (fun _ => none) [99, 59, 99, 59, 99, 59, 99, 59, 99, 59, 99, 59, 99, 59, 99, 59, 99, 59, 99, 59, 99, 59, 99, 59, 99, 59, 99, 59, 99, 59, 99, 59, 99, 59, 99, 59] f246 := w246
  have z246 := z243.st a246
  obtain ⟨fs247, hfs247⟩ := w243.ob
  refine x_callv (As := [.int 59]) (rest := []) 92 3974 dL_texts_474 mi_X5_append ml_L_59 rfl rfl (Nat.le_of_ble_eq_true rfl) ⟨by decide, by decide⟩ (by omega) (by omega) hfs247 rfl (c_X5_append N _ _ _ _ _ e246) (x_K.some ?_) x_KX.none
  refine x_toX (st' := [.int 36]) rfl ?_
  clear e246 a246 hfs247 w243 z243
  refine x_iload_n 0 dL_texts_477 rfl rfl ?_
  refine x_iconst 1 (by decide) dL_texts_478 ?_
  refine x_iadd dL_texts_479 ?_
  refine x_toX (st' := [.int 36, .int 36]) rfl ?_
  refine x_icmp_ne_n 493 dL_texts_480 (by decide) (by decide) ?_
  refine x_aload_n 1 dL_texts_483 rfl rfl ?_
  obtain ⟨f248, e248, a248, w248⟩ := k_ferr_of hN w246 tf_783
  have z248 := z246.st a248
  obtain ⟨fs249, hfs249⟩ := w246.ob
  refine x_callv (As := []) (rest := []) 92 3974 dL_texts_484 mi_X5_firstError ml_L_65 rfl rfl (Nat.le_of_ble_eq_true rfl) ⟨by decide, by decide⟩ (by omega) (by omega) hfs249 rfl (c_X5_firstError N _ _ _ _ e248) (x_K.some ?_) x_KX.none
  refine x_toX (st' := [.int 36]) rfl ?_
  clear e248 a248 hfs249 w246 z246
  refine x_iload_n 0 dL_texts_487 rfl rfl ?_
  refine x_iconst 1 (by decide) dL_texts_488 ?_
  refine x_iadd dL_texts_489 ?_
  refine x_toX (st' := [.int 36, .int 36]) rfl ?_
  refine x_icmp_eq_y 495 dL_texts_490 (by decide) (by decide) ?_
  refine x_iinc 36 (lv' := [(1, .int 36), (0, .ref h.2)]) dL_texts_495 0 rfl (by decide) (by decide) rfl ?_
  refine x_goto 454 dL_texts_498 (by decide) ?_
  refine x_iload_n 0 dL_texts_454 rfl rfl ?_
  refine x_bipush 60 (by decide) dL_texts_455 ?_
  refine x_icmp_ge_n 501 dL_texts_457 (by decide) (by decide) ?_
  refine x_aload_n 1 dL_texts_460 rfl rfl ?_
  refine x_iload_n 0 dL_texts_461 rfl rfl ?_
  refine x_iconst 2 (by decide) dL_texts_462 ?_
  refine x_irem (f := fun v => if v = 0 then some () else none) (w := ()) dL_texts_463 (by decide) (fun v250 hv250 => ?_)
  obtain rfl : v250 = 0 := by by_cases z : v250 = 0; exact z; rw [if_neg z] at hv250; cases hv250
  refine x_if_ne_n 472 dL_texts_464 (by decide) (by decide) ?_
  refine x_bipush 99 (by decide) dL_texts_467 ?_
  refine x_goto 474 dL_texts_469 (by decide) ?_
  obtain ⟨f251, e251, a251, w251⟩ := k_app (N := N) w248 99
  rw [tf_784] at e251 w251
  replace w251 : k_wd h.2 (h.2 + 70) 61 (k_of k_e0s) [] (fun _ => none) [99, 59, 99, 59, 99, 59, 99, 59, 99, 59, 99, 59, 99, 59, 99, 59, 99, 59, 99, 59, 99, 59, 99, 59, 99, 59, 99, 59, 99, 59, 99, 59, 99, 59, 99, 59, 99] f251 := w251
  have z251 := z248.st a251
  obtain ⟨fs252, hfs252⟩ := w248.ob
  refine x_callv (As := [.int 99]) (rest := []) 91 3968 dL_texts_474 mi_X5_append ml_L_59 rfl rfl (Nat.le_of_ble_eq_true rfl) ⟨by decide, by decide⟩ (by omega) (by omega) hfs252 rfl (c_X5_append N _ _ _ _ _ e251) (x_K.some ?_) x_KX.none
  refine x_toX (st' := [.int 37]) rfl ?_
  clear e251 a251 hfs252 w248 z248
  refine x_iload_n 0 dL_texts_477 rfl rfl ?_
  refine x_iconst 1 (by decide) dL_texts_478 ?_
  refine x_iadd dL_texts_479 ?_
  refine x_toX (st' := [.int 37, .int 37]) rfl ?_
  refine x_icmp_ne_n 493 dL_texts_480 (by decide) (by decide) ?_
  refine x_aload_n 1 dL_texts_483 rfl rfl ?_
  obtain ⟨f253, e253, a253, w253⟩ := k_ferr_of hN w251 tf_785
  have z253 := z251.st a253
  obtain ⟨fs254, hfs254⟩ := w251.ob
  refine x_callv (As := []) (rest := []) 91 3968 dL_texts_484 mi_X5_firstError ml_L_65 rfl rfl (Nat.le_of_ble_eq_true rfl) ⟨by decide, by decide⟩ (by omega) (by omega) hfs254 rfl (c_X5_firstError N _ _ _ _ e253) (x_K.some ?_) x_KX.none
  refine x_toX (st' := [.int 37]) rfl ?_
  clear e253 a253 hfs254 w251 z251
  refine x_iload_n 0 dL_texts_487 rfl rfl ?_
  refine x_iconst 1 (by decide) dL_texts_488 ?_
  refine x_iadd dL_texts_489 ?_
  refine x_toX (st' := [.int 37, .int 37]) rfl ?_
  refine x_icmp_eq_y 495 dL_texts_490 (by decide) (by decide) ?_
  refine x_iinc 37 (lv' := [(1, .int 37), (0, .ref h.2)]) dL_texts_495 0 rfl (by decide) (by decide) rfl ?_
  refine x_goto 454 dL_texts_498 (by decide) ?_
  refine x_iload_n 0 dL_texts_454 rfl rfl ?_
  refine x_bipush 60 (by decide) dL_texts_455 ?_
  refine x_icmp_ge_n 501 dL_texts_457 (by decide) (by decide) ?_
  refine x_aload_n 1 dL_texts_460 rfl rfl ?_
  refine x_iload_n 0 dL_texts_461 rfl rfl ?_
  refine x_iconst 2 (by decide) dL_texts_462 ?_
  refine x_irem (f := fun v => if v = 1 then some () else none) (w := ()) dL_texts_463 (by decide) (fun v255 hv255 => ?_)
  obtain rfl : v255 = 1 := by by_cases z : v255 = 1; exact z; rw [if_neg z] at hv255; cases hv255
  refine x_if_ne_y 472 dL_texts_464 (by decide) (by decide) ?_
  refine x_bipush 59 (by decide) dL_texts_472 ?_
  obtain ⟨f256, e256, a256, w256⟩ := k_app (N := N) w253 59
  rw [tf_786] at e256 w256
  replace w256 : k_wd h.2 (h.2 + 70) 61 (k_of k_e0s) [] (fun _ => none) [99, 59, 99, 59, 99, 59, 99, 59, 99, 59, 99, 59, 99, 59, 99, 59, 99, 59, 99, 59, 99, 59, 99, 59, 99, 59, 99, 59, 99, 59, 99, 59, 99, 59, 99, 59, 99, 59] f256 := w256
  have z256 := z253.st a256
  obtain ⟨fs257, hfs257⟩ := w253.ob
  refine x_callv (As := [.int 59]) (rest := []) 90 3962 dL_texts_474 mi_X5_append ml_L_59 rfl rfl (Nat.le_of_ble_eq_true rfl) ⟨by decide, by decide⟩ (by omega) (by omega) hfs257 rfl (c_X5_append N _ _ _ _ _ e256) (x_K.some ?_) x_KX.none
  refine x_toX (st' := [.int 38]) rfl ?_
  clear e256 a256 hfs257 w253 z253
  refine x_iload_n 0 dL_texts_477 rfl rfl ?_
  refine x_iconst 1 (by decide) dL_texts_478 ?_
  refine x_iadd dL_texts_479 ?_
  refine x_toX (st' := [.int 38, .int 38]) rfl ?_
  refine x_icmp_ne_n 493 dL_texts_480 (by decide) (by decide) ?_
  refine x_aload_n 1 dL_texts_483 rfl rfl ?_
  obtain ⟨f258, e258, a258, w258⟩ := k_ferr_of hN w256 tf_787
  have z258 := z256.st a258
  obtain ⟨fs259, hfs259⟩ := w256.ob
  refine x_callv (As := []) (rest := []) 90 3962 dL_texts_484 mi_X5_firstError ml_L_65 rfl rfl (Nat.le_of_ble_eq_true rfl) ⟨by decide, by decide⟩ (by omega) (by omega) hfs259 rfl (c_X5_firstError N _ _ _ _ e258) (x_K.some ?_) x_KX.none
  refine x_toX (st' := [.int 38]) rfl ?_
  clear e258 a258 hfs259 w256 z256
  refine x_iload_n 0 dL_texts_487 rfl rfl ?_
  refine x_iconst 1 (by decide) dL_texts_488 ?_
  refine x_iadd dL_texts_489 ?_
  refine x_toX (st' := [.int 38, .int 38]) rfl ?_
  refine x_icmp_eq_y 495 dL_texts_490 (by decide) (by decide) ?_
  refine x_iinc 38 (lv' := [(1, .int 38), (0, .ref h.2)]) dL_texts_495 0 rfl (by decide) (by decide) rfl ?_
  refine x_goto 454 dL_texts_498 (by decide) ?_
  refine x_iload_n 0 dL_texts_454 rfl rfl ?_
  refine x_bipush 60 (by decide) dL_texts_455 ?_
  refine x_icmp_ge_n 501 dL_texts_457 (by decide) (by decide) ?_
  refine x_aload_n 1 dL_texts_460 rfl rfl ?_
  refine x_iload_n 0 dL_texts_461 rfl rfl ?_
  refine x_iconst 2 (by decide) dL_texts_462 ?_
  refine x_irem (f := fun v => if v = 0 then some () else none) (w := ()) dL_texts_463 (by decide) (fun v260 hv260 => ?_)
  obtain rfl : v260 = 0 := by by_cases z : v260 = 0; exact z; rw [if_neg z] at hv260; cases hv260
  refine x_if_ne_n 472 dL_texts_464 (by decide) (by decide) ?_
  refine x_bipush 99 (by decide) dL_texts_467 ?_
  refine x_goto 474 dL_texts_469 (by decide) ?_
  obtain ⟨f261, e261, a261, w261⟩ := k_app (N := N) w258 99
  rw [tf_788] at e261 w261
  replace w261 : k_wd h.2 (h.2 + 70) 61 (k_of k_e0s) [] (fun _ => none) [99, 59, 99, 59, 99, 59, 99, 59, 99, 59, 99, 59, 99, 59, 99, 59, 99, 59, 99, 59, 99, 59, 99, 59, 99, 59, 99, 59, 99, 59, 99, 59, 99, 59, 99, 59, 99, 59, 99] f261 := w261
  have z261 := z258.st a261
  obtain ⟨fs262, hfs262⟩ := w258.ob
  refine x_callv (As := [.int 99]) (rest := []) 89 3956 dL_texts_474 mi_X5_append ml_L_59 rfl rfl (Nat.le_of_ble_eq_true rfl) ⟨by decide, by decide⟩ (by omega) (by omega) hfs262 rfl (c_X5_append N _ _ _ _ _ e261) (x_K.some ?_) x_KX.none
  refine x_toX (st' := [.int 39]) rfl ?_
  clear e261 a261 hfs262 w258 z258
  refine x_iload_n 0 dL_texts_477 rfl rfl ?_
  refine x_iconst 1 (by decide) dL_texts_478 ?_
  refine x_iadd dL_texts_479 ?_
  refine x_toX (st' := [.int 39, .int 39]) rfl ?_
  refine x_icmp_ne_n 493 dL_texts_480 (by decide) (by decide) ?_
  refine x_aload_n 1 dL_texts_483 rfl rfl ?_
  obtain ⟨f263, e263, a263, w263⟩ := k_ferr_of hN w261 tf_789
  have z263 := z261.st a263
  obtain ⟨fs264, hfs264⟩ := w261.ob
  refine x_callv (As := []) (rest := []) 89 3956 dL_texts_484 mi_X5_firstError ml_L_65 rfl rfl (Nat.le_of_ble_eq_true rfl) ⟨by decide, by decide⟩ (by omega) (by omega) hfs264 rfl (c_X5_firstError N _ _ _ _ e263) (x_K.some ?_) x_KX.none
  refine x_toX (st' := [.int 39]) rfl ?_
  clear e263 a263 hfs264 w261 z261
  refine x_iload_n 0 dL_texts_487 rfl rfl ?_
  refine x_iconst 1 (by decide) dL_texts_488 ?_
  refine x_iadd dL_texts_489 ?_
  refine x_toX (st' := [.int 39, .int 39]) rfl ?_
  refine x_icmp_eq_y 495 dL_texts_490 (by decide) (by decide) ?_
  refine x_iinc 39 (lv' := [(1, .int 39), (0, .ref h.2)]) dL_texts_495 0 rfl (by decide) (by decide) rfl ?_
  refine x_goto 454 dL_texts_498 (by decide) ?_
  refine x_iload_n 0 dL_texts_454 rfl rfl ?_
  refine x_bipush 60 (by decide) dL_texts_455 ?_
  refine x_icmp_ge_n 501 dL_texts_457 (by decide) (by decide) ?_
  refine x_aload_n 1 dL_texts_460 rfl rfl ?_
  refine x_iload_n 0 dL_texts_461 rfl rfl ?_
  refine x_iconst 2 (by decide) dL_texts_462 ?_
  refine x_irem (f := fun v => if v = 1 then some () else none) (w := ()) dL_texts_463 (by decide) (fun v265 hv265 => ?_)
  obtain rfl : v265 = 1 := by by_cases z : v265 = 1; exact z; rw [if_neg z] at hv265; cases hv265
  refine x_if_ne_y 472 dL_texts_464 (by decide) (by decide) ?_
  refine x_bipush 59 (by decide) dL_texts_472 ?_
  obtain ⟨f266, e266, a266, w266⟩ := k_app (N := N) w263 59
  rw [tf_790] at e266 w266
  replace w266 : k_wd h.2 (h.2 + 70) 61 (k_of k_e0s) [] (fun _ => none) [99, 59, 99, 59, 99, 59, 99, 59, 99, 59, 99, 59, 99, 59, 99, 59, 99, 59, 99, 59, 99, 59, 99, 59, 99, 59, 99, 59, 99, 59, 99, 59, 99, 59, 99, 59, 99, 59, 99, 59] f266 := w266
  have z266 := z263.st a266
  obtain ⟨fs267, hfs267⟩ := w263.ob
  refine x_callv (As := [.int 59]) (rest := []) 88 3950 dL_texts_474 mi_X5_append ml_L_59 rfl rfl (Nat.le_of_ble_eq_true rfl) ⟨by decide, by decide⟩ (by omega) (by omega) hfs267 rfl (c_X5_append N _ _ _ _ _ e266) (x_K.some ?_) x_KX.none
  refine x_toX (st' := [.int 40]) rfl ?_
  clear e266 a266 hfs267 w263 z263
  refine x_iload_n 0 dL_texts_477 rfl rfl ?_
  refine x_iconst 1 (by decide) dL_texts_478 ?_
  refine x_iadd dL_texts_479 ?_
  refine x_toX (st' := [.int 40, .int 40]) rfl ?_
  refine x_icmp_ne_n 493 dL_texts_480 (by decide) (by decide) ?_
  refine x_aload_n 1 dL_texts_483 rfl rfl ?_
  obtain ⟨f268, e268, a268, w268⟩ := k_ferr_of hN w266 tf_791
  have z268 := z266.st a268
  obtain ⟨fs269, hfs269⟩ := w266.ob
  refine x_callv (As := []) (rest := []) 88 3950 dL_texts_484 mi_X5_firstError ml_L_65 rfl rfl (Nat.le_of_ble_eq_true rfl) ⟨by decide, by decide⟩ (by omega) (by omega) hfs269 rfl (c_X5_firstError N _ _ _ _ e268) (x_K.some ?_) x_KX.none
  refine x_toX (st' := [.int 40]) rfl ?_
  clear e268 a268 hfs269 w266 z266
  refine x_iload_n 0 dL_texts_487 rfl rfl ?_
  refine x_iconst 1 (by decide) dL_texts_488 ?_
  refine x_iadd dL_texts_489 ?_
  refine x_toX (st' := [.int 40, .int 40]) rfl ?_
  refine x_icmp_eq_y 495 dL_texts_490 (by decide) (by decide) ?_
  refine x_iinc 40 (lv' := [(1, .int 40), (0, .ref h.2)]) dL_texts_495 0 rfl (by decide) (by decide) rfl ?_
  refine x_goto 454 dL_texts_498 (by decide) ?_
  refine x_iload_n 0 dL_texts_454 rfl rfl ?_
  refine x_bipush 60 (by decide) dL_texts_455 ?_
  refine x_icmp_ge_n 501 dL_texts_457 (by decide) (by decide) ?_
  refine x_aload_n 1 dL_texts_460 rfl rfl ?_
  refine x_iload_n 0 dL_texts_461 rfl rfl ?_
  refine x_iconst 2 (by decide) dL_texts_462 ?_
  refine x_irem (f := fun v => if v = 0 then some () else none) (w := ()) dL_texts_463 (by decide) (fun v270 hv270 => ?_)
  obtain rfl : v270 = 0 := by by_cases z : v270 = 0; exact z; rw [if_neg z] at hv270; cases hv270
  refine x_if_ne_n 472 dL_texts_464 (by decide) (by decide) ?_
  refine x_bipush 99 (by decide) dL_texts_467 ?_
  refine x_goto 474 dL_texts_469 (by decide) ?_
  obtain ⟨f271, e271, a271, w271⟩ := k_app (N := N) w268 99
  rw [tf_792] at e271 w271
  replace w271 : k_wd h.2 (h.2 + 70) 61 (k_of k_e0s) [] (fun _ => none) [99, 59, 99, 59, 99, 59, 99, 59, 99, 59, 99, 59, 99, 59, 99, 59, 99, 59, 99, 59, 99, 59, 99, 59, 99, 59, 99, 59, 99, 59, 99, 59, 99, 59, 99, 59, 99, 59, 99, 59, 99] f271 := w271
  have z271 := z268.st a271
  obtain ⟨fs272, hfs272⟩ := w268.ob
  refine x_callv (As := [.int 99]) (rest := []) 87 3944 dL_texts_474 mi_X5_append ml_L_59 rfl rfl (Nat.le_of_ble_eq_true rfl) ⟨by decide, by decide⟩ (by omega) (by omega) hfs272 rfl (c_X5_append N _ _ _ _ _ e271) (x_K.some ?_) x_KX.none
  refine x_toX (st' := [.int 41]) rfl ?_
  clear e271 a271 hfs272 w268 z268
  refine x_iload_n 0 dL_texts_477 rfl rfl ?_
  refine x_iconst 1 (by decide) dL_texts_478 ?_
  refine x_iadd dL_texts_479 ?_
  refine x_toX (st' := [.int 41, .int 41]) rfl ?_
  refine x_icmp_ne_n 493 dL_texts_480 (by decide) (by decide) ?_
  refine x_aload_n 1 dL_texts_483 rfl rfl ?_
  obtain ⟨f273, e273, a273, w273⟩ := k_ferr_of hN w271 tf_793
  have z273 := z271.st a273
  obtain ⟨fs274, hfs274⟩ := w271.ob
  refine x_callv (As := []) (rest := []) 87 3944 dL_texts_484 mi_X5_firstError ml_L_65 rfl rfl (Nat.le_of_ble_eq_true rfl) ⟨by decide, by decide⟩ (by omega) (by omega) hfs274 rfl (c_X5_firstError N _ _ _ _ e273) (x_K.some ?_) x_KX.none
  refine x_toX (st' := [.int 41]) rfl ?_
  clear e273 a273 hfs274 w271 z271
  refine x_iload_n 0 dL_texts_487 rfl rfl ?_
  refine x_iconst 1 (by decide) dL_texts_488 ?_
  refine x_iadd dL_texts_489 ?_
  refine x_toX (st' := [.int 41, .int 41]) rfl ?_
  refine x_icmp_eq_y 495 dL_texts_490 (by decide) (by decide) ?_
  refine x_iinc 41 (lv' := [(1, .int 41), (0, .ref h.2)]) dL_texts_495 0 rfl (by decide) (by decide) rfl ?_
  refine x_goto 454 dL_texts_498 (by decide) ?_
  refine x_iload_n 0 dL_texts_454 rfl rfl ?_
  refine x_bipush 60 (by decide) dL_texts_455 ?_
  refine x_icmp_ge_n 501 dL_texts_457 (by decide) (by decide) ?_
  refine x_aload_n 1 dL_texts_460 rfl rfl ?_
  refine x_iload_n 0 dL_texts_461 rfl rfl ?_
  refine x_iconst 2 (by decide) dL_texts_462 ?_
  refine x_irem (f := fun v => if v = 1 then some () else none) (w := ()) dL_texts_463 (by decide) (fun v275 hv275 => ?_)
  obtain rfl : v275 = 1 := by by_cases z : v275 = 1; exact z; rw [if_neg z] at hv275; cases hv275
  refine x_if_ne_y 472 dL_texts_464 (by decide) (by decide) ?_
  refine x_bipush 59 (by decide) dL_texts_472 ?_
  obtain ⟨f276, e276, a276, w276⟩ := k_app (N := N) w273 59
  rw [tf_794] at e276 w276
  replace w276 : k_wd h.2 (h.2 + 70) 61 (k_of k_e0s) [] (fun _ => none) [99, 59, 99, 59, 99, 59, 99, 59, 99, 59, 99, 59, 99, 59, 99, 59, 99, 59, 99, 59, 99, 59, 99, 59, 99, 59, 99, 59, 99, 59, 99, 59, 99, 59, 99, 59, 99, 59, 99, 59, 99, 59] f276 := w276
  have z276 := z273.st a276
  obtain ⟨fs277, hfs277⟩ := w273.ob
  refine x_callv (As := [.int 59]) (rest := []) 86 3938 dL_texts_474 mi_X5_append ml_L_59 rfl rfl (Nat.le_of_ble_eq_true rfl) ⟨by decide, by decide⟩ (by omega) (by omega) hfs277 rfl (c_X5_append N _ _ _ _ _ e276) (x_K.some ?_) x_KX.none
  refine x_toX (st' := [.int 42]) rfl ?_
  clear e276 a276 hfs277 w273 z273
  refine x_iload_n 0 dL_texts_477 rfl rfl ?_
  refine x_iconst 1 (by decide) dL_texts_478 ?_
  refine x_iadd dL_texts_479 ?_
  refine x_toX (st' := [.int 42, .int 42]) rfl ?_
  refine x_icmp_ne_n 493 dL_texts_480 (by decide) (by decide) ?_
  refine x_aload_n 1 dL_texts_483 rfl rfl ?_
  obtain ⟨f278, e278, a278, w278⟩ := k_ferr_of hN w276 tf_795
  have z278 := z276.st a278
  obtain ⟨fs279, hfs279⟩ := w276.ob
  refine x_callv (As := []) (rest := []) 86 3938 dL_texts_484 mi_X5_firstError ml_L_65 rfl rfl (Nat.le_of_ble_eq_true rfl) ⟨by decide, by decide⟩ (by omega) (by omega) hfs279 rfl (c_X5_firstError N _ _ _ _ e278) (x_K.some ?_) x_KX.none
  refine x_toX (st' := [.int 42]) rfl ?_
  clear e278 a278 hfs279 w276 z276
  refine x_iload_n 0 dL_texts_487 rfl rfl ?_
  refine x_iconst 1 (by decide) dL_texts_488 ?_
  refine x_iadd dL_texts_489 ?_
  refine x_toX (st' := [.int 42, .int 42]) rfl ?_
  refine x_icmp_eq_y 495 dL_texts_490 (by decide) (by decide) ?_
  refine x_iinc 42 (lv' := [(1, .int 42), (0, .ref h.2)]) dL_texts_495 0 rfl (by decide) (by decide) rfl ?_
  refine x_goto 454 dL_texts_498 (by decide) ?_
  refine x_iload_n 0 dL_texts_454 rfl rfl ?_
  refine x_bipush 60 (by decide) dL_texts_455 ?_
  refine x_icmp_ge_n 501 dL_texts_457 (by decide) (by decide) ?_
  refine x_aload_n 1 dL_texts_460 rfl rfl ?_
  refine x_iload_n 0 dL_texts_461 rfl rfl ?_
  refine x_iconst 2 (by decide) dL_texts_462 ?_
  refine x_irem (f := fun v => if v = 0 then some () else none) (w := ()) dL_texts_463 (by decide) (fun v280 hv280 => ?_)
  obtain rfl : v280 = 0 := by by_cases z : v280 = 0; exact z; rw [if_neg z] at hv280; cases hv280
  refine x_if_ne_n 472 dL_texts_464 (by decide) (by decide) ?_
  refine x_bipush 99 (by decide) dL_texts_467 ?_
  refine x_goto 474 dL_texts_469 (by decide) ?_
  obtain ⟨f281, e281, a281, w281⟩ := k_app (N := N) w278 99
  rw [tf_796] at e281 w281
  replace w281 : k_wd h.2 (h.2 + 70) 61 (k_of k_e0s) [] (fun _ => none) [99, 59, 99, 59, 99, 59, 99, 59, 99, 59, 99, 59, 99, 59, 99, 59, 99, 59, 99, 59, 99, 59, 99, 59, 99, 59, 99, 59, 99, 59, 99, 59, 99, 59, 99, 59, 99, 59, 99, 59, 99, 59, 99] f281 := w281
  have z281 := z278.st a281
  obtain ⟨fs282, hfs282⟩ := w278.ob
  refine x_callv (As := [.int 99]) (rest := []) 85 3932 dL_texts_474 mi_X5_append ml_L_59 rfl rfl (Nat.le_of_ble_eq_true rfl) ⟨by decide, by decide⟩ (by omega) (by omega) hfs282 rfl (c_X5_append N _ _ _ _ _ e281) (x_K.some ?_) x_KX.none
  refine x_toX (st' := [.int 43]) rfl ?_
  clear e281 a281 hfs282 w278 z278
  refine x_iload_n 0 dL_texts_477 rfl rfl ?_
  refine x_iconst 1 (by decide) dL_texts_478 ?_
  refine x_iadd dL_texts_479 ?_
  refine x_toX (st' := [.int 43, .int 43]) rfl ?_
  refine x_icmp_ne_n 493 dL_texts_480 (by decide) (by decide) ?_
  refine x_aload_n 1 dL_texts_483 rfl rfl ?_
  obtain ⟨f283, e283, a283, w283⟩ := k_ferr_of hN w281 tf_797
  have z283 := z281.st a283
  obtain ⟨fs284, hfs284⟩ := w281.ob
  refine x_callv (As := []) (rest := []) 85 3932 dL_texts_484 mi_X5_firstError ml_L_65 rfl rfl (Nat.le_of_ble_eq_true rfl) ⟨by decide, by decide⟩ (by omega) (by omega) hfs284 rfl (c_X5_firstError N _ _ _ _ e283) (x_K.some ?_) x_KX.none
  refine x_toX (st' := [.int 43]) rfl ?_
  clear e283 a283 hfs284 w281 z281
  refine x_iload_n 0 dL_texts_487 rfl rfl ?_
  refine x_iconst 1 (by decide) dL_texts_488 ?_
  refine x_iadd dL_texts_489 ?_
  refine x_toX (st' := [.int 43, .int 43]) rfl ?_
  refine x_icmp_eq_y 495 dL_texts_490 (by decide) (by decide) ?_
  refine x_iinc 43 (lv' := [(1, .int 43), (0, .ref h.2)]) dL_texts_495 0 rfl (by decide) (by decide) rfl ?_
  refine x_goto 454 dL_texts_498 (by decide) ?_
  refine x_iload_n 0 dL_texts_454 rfl rfl ?_
  refine x_bipush 60 (by decide) dL_texts_455 ?_
  refine x_icmp_ge_n 501 dL_texts_457 (by decide) (by decide) ?_
  refine x_aload_n 1 dL_texts_460 rfl rfl ?_
  refine x_iload_n 0 dL_texts_461 rfl rfl ?_
  refine x_iconst 2 (by decide) dL_texts_462 ?_
  refine x_irem (f := fun v => if v = 1 then some () else none) (w := ()) dL_texts_463 (by decide) (fun v285 hv285 => ?_)
  obtain rfl : v285 = 1 := by by_cases z : v285 = 1; exact z; rw [if_neg z] at hv285; cases hv285
  refine x_if_ne_y 472 dL_texts_464 (by decide) (by decide) ?_
  refine x_bipush 59 (by decide) dL_texts_472 ?_
  obtain ⟨f286, e286, a286, w286⟩ := k_app (N := N) w283 59
  rw [tf_798] at e286 w286
  replace w286 : k_wd h.2 (h.2 + 70) 61 (k_of k_e0s) [] (fun _ => none) [99, 59, 99, 59, 99, 59, 99, 59, 99, 59, 99, 59, 99, 59, 99, 59, 99, 59, 99, 59, 99, 59, 99, 59, 99, 59, 99, 59, 99, 59, 99, 59, 99, 59, 99, 59, 99, 59, 99, 59, 99, 59, 99, 59] f286 := w286
  have z286 := z283.st a286
  obtain ⟨fs287, hfs287⟩ := w283.ob
  refine x_callv (As := [.int 59]) (rest := []) 84 3926 dL_texts_474 mi_X5_append ml_L_59 rfl rfl (Nat.le_of_ble_eq_true rfl) ⟨by decide, by decide⟩ (by omega) (by omega) hfs287 rfl (c_X5_append N _ _ _ _ _ e286) (x_K.some ?_) x_KX.none
  refine x_toX (st' := [.int 44]) rfl ?_
  clear e286 a286 hfs287 w283 z283
  refine x_iload_n 0 dL_texts_477 rfl rfl ?_
  refine x_iconst 1 (by decide) dL_texts_478 ?_
  refine x_iadd dL_texts_479 ?_
  refine x_toX (st' := [.int 44, .int 44]) rfl ?_
  refine x_icmp_ne_n 493 dL_texts_480 (by decide) (by decide) ?_
  refine x_aload_n 1 dL_texts_483 rfl rfl ?_
  obtain ⟨f288, e288, a288, w288⟩ := k_ferr_of hN w286 tf_799
  have z288 := z286.st a288
  obtain ⟨fs289, hfs289⟩ := w286.ob
  refine x_callv (As := []) (rest := []) 84 3926 dL_texts_484 mi_X5_firstError ml_L_65 rfl rfl (Nat.le_of_ble_eq_true rfl) ⟨by decide, by decide⟩ (by omega) (by omega) hfs289 rfl (c_X5_firstError N _ _ _ _ e288) (x_K.some ?_) x_KX.none
  refine x_toX (st' := [.int 44]) rfl ?_
  clear e288 a288 hfs289 w286 z286
  refine x_iload_n 0 dL_texts_487 rfl rfl ?_
  refine x_iconst 1 (by decide) dL_texts_488 ?_
  refine x_iadd dL_texts_489 ?_
  refine x_toX (st' := [.int 44, .int 44]) rfl ?_
  refine x_icmp_eq_y 495 dL_texts_490 (by decide) (by decide) ?_
  refine x_iinc 44 (lv' := [(1, .int 44), (0, .ref h.2)]) dL_texts_495 0 rfl (by decide) (by decide) rfl ?_
  refine x_goto 454 dL_texts_498 (by decide) ?_
  refine x_iload_n 0 dL_texts_454 rfl rfl ?_
  refine x_bipush 60 (by decide) dL_texts_455 ?_
  refine x_icmp_ge_n 501 dL_texts_457 (by decide) (by decide) ?_
  refine x_aload_n 1 dL_texts_460 rfl rfl ?_
  refine x_iload_n 0 dL_texts_461 rfl rfl ?_
  refine x_iconst 2 (by decide) dL_texts_462 ?_
  refine x_irem (f := fun v => if v = 0 then some () else none) (w := ()) dL_texts_463 (by decide) (fun v290 hv290 => ?_)
  obtain rfl : v290 = 0 := by by_cases z : v290 = 0; exact z; rw [if_neg z] at hv290; cases hv290
  refine x_if_ne_n 472 dL_texts_464 (by decide) (by decide) ?_
  refine x_bipush 99 (by decide) dL_texts_467 ?_
  refine x_goto 474 dL_texts_469 (by decide) ?_
  obtain ⟨f291, e291, a291, w291⟩ := k_app (N := N) w288 99
  rw [tf_800] at e291 w291
  replace w291 : k_wd h.2 (h.2 + 70) 61 (k_of k_e0s) [] (fun _ => none) [99, 59, 99, 59, 99, 59, 99, 59, 99, 59, 99, 59, 99, 59, 99, 59, 99, 59, 99, 59, 99, 59, 99, 59, 99, 59, 99, 59, 99, 59, 99, 59, 99, 59, 99, 59, 99, 59, 99, 59, 99, 59, 99, 59, 99] f291 := w291
  have z291 := z288.st a291
  obtain ⟨fs292, hfs292⟩ := w288.ob
  refine x_callv (As := [.int 99]) (rest := []) 83 3920 dL_texts_474 mi_X5_append ml_L_59 rfl rfl (Nat.le_of_ble_eq_true rfl) ⟨by decide, by decide⟩ (by omega) (by omega) hfs292 rfl (c_X5_append N _ _ _ _ _ e291) (x_K.some ?_) x_KX.none
  refine x_toX (st' := [.int 45]) rfl ?_
  clear e291 a291 hfs292 w288 z288
  refine x_iload_n 0 dL_texts_477 rfl rfl ?_
  refine x_iconst 1 (by decide) dL_texts_478 ?_
  refine x_iadd dL_texts_479 ?_
  refine x_toX (st' := [.int 45, .int 45]) rfl ?_
  refine x_icmp_ne_n 493 dL_texts_480 (by decide) (by decide) ?_
  refine x_aload_n 1 dL_texts_483 rfl rfl ?_
  obtain ⟨f293, e293, a293, w293⟩ := k_ferr_of hN w291 tf_801
  have z293 := z291.st a293
  obtain ⟨fs294, hfs294⟩ := w291.ob
  refine x_callv (As := []) (rest := []) 83 3920 dL_texts_484 mi_X5_firstError ml_L_65 rfl rfl (Nat.le_of_ble_eq_true rfl) ⟨by decide, by decide⟩ (by omega) (by omega) hfs294 rfl (c_X5_firstError N _ _ _ _ e293) (x_K.some ?_) x_KX.none
  refine x_toX (st' := [.int 45]) rfl ?_
  clear e293 a293 hfs294 w291 z291
  refine x_iload_n 0 dL_texts_487 rfl rfl ?_
  refine x_iconst 1 (by decide) dL_texts_488 ?_
  refine x_iadd dL_texts_489 ?_
  refine x_toX (st' := [.int 45, .int 45]) rfl ?_
  refine x_icmp_eq_y 495 dL_texts_490 (by decide) (by decide) ?_
  refine x_iinc 45 (lv' := [(1, .int 45), (0, .ref h.2)]) dL_texts_495 0 rfl (by decide) (by decide) rfl ?_
  refine x_goto 454 dL_texts_498 (by decide) ?_
  refine x_iload_n 0 dL_texts_454 rfl rfl ?_
  refine x_bipush 60 (by decide) dL_texts_455 ?_
  refine x_icmp_ge_n 501 dL_texts_457 (by decide) (by decide) ?_
  refine x_aload_n 1 dL_texts_460 rfl rfl ?_
  refine x_iload_n 0 dL_texts_461 rfl rfl ?_
  refine x_iconst 2 (by decide) dL_texts_462 ?_
  refine x_irem (f := fun v => if v = 1 then some () else none) (w := ()) dL_texts_463 (by decide) (fun v295 hv295 => ?_)
  obtain rfl : v295 = 1 := by by_cases z : v295 = 1; exact z; rw [if_neg z] at hv295; cases hv295
  refine x_if_ne_y 472 dL_texts_464 (by decide) (by decide) ?_
  refine x_bipush 59 (by decide) dL_texts_472 ?_
  obtain ⟨f296, e296, a296, w296⟩ := k_app (N := N) w293 59
  rw [tf_802] at e296 w296
  replace w296 : k_wd h.2 (h.2 + 70) 61 (k_of k_e0s) [] (fun _ => none) [99, 59, 99, 59, 99, 59, 99, 59, 99, 59, 99, 59, 99, 59, 99, 59, 99, 59, 99, 59, 99, 59, 99, 59, 99, 59, 99, 59, 99, 59, 99, 59, 99, 59, 99, 59, 99, 59, 99, 59, 99, 59, 99, 59, 99, 59] f296 := w296
  have z296 := z293.st a296
  obtain ⟨fs297, hfs297⟩ := w293.ob
  refine x_callv (As := [.int 59]) (rest := []) 82 3914 dL_texts_474 mi_X5_append ml_L_59 rfl rfl (Nat.le_of_ble_eq_true rfl) ⟨by decide, by decide⟩ (by omega) (by omega) hfs297 rfl (c_X5_append N _ _ _ _ _ e296) (x_K.some ?_) x_KX.none
  refine x_toX (st' := [.int 46]) rfl ?_
  clear e296 a296 hfs297 w293 z293
  refine x_iload_n 0 dL_texts_477 rfl rfl ?_
  refine x_iconst 1 (by decide) dL_texts_478 ?_
  refine x_iadd dL_texts_479 ?_
  refine x_toX (st' := [.int 46, .int 46]) rfl ?_
  refine x_icmp_ne_n 493 dL_texts_480 (by decide) (by decide) ?_
  refine x_aload_n 1 dL_texts_483 rfl rfl ?_
  obtain ⟨f298, e298, a298, w298⟩ := k_ferr_of hN w296 tf_803
  have z298 := z296.st a298
  obtain ⟨fs299, hfs299⟩ := w296.ob
  refine x_callv (As := []) (rest := []) 82 3914 dL_texts_484 mi_X5_firstError ml_L_65 rfl rfl (Nat.le_of_ble_eq_true rfl) ⟨by decide, by decide⟩ (by omega) (by omega) hfs299 rfl (c_X5_firstError N _ _ _ _ e298) (x_K.some ?_) x_KX.none
  refine x_toX (st' := [.int 46]) rfl ?_
  clear e298 a298 hfs299 w296 z296
  refine x_iload_n 0 dL_texts_487 rfl rfl ?_
  refine x_iconst 1 (by decide) dL_texts_488 ?_
  refine x_iadd dL_texts_489 ?_
  refine x_toX (st' := [.int 46, .int 46]) rfl ?_
  refine x_icmp_eq_y 495 dL_texts_490 (by decide) (by decide) ?_
  refine x_iinc 46 (lv' := [(1, .int 46), (0, .ref h.2)]) dL_texts_495 0 rfl (by decide) (by decide) rfl ?_
  refine x_goto 454 dL_texts_498 (by decide) ?_
  refine x_iload_n 0 dL_texts_454 rfl rfl ?_
  refine x_bipush 60 (by decide) dL_texts_455 ?_
  refine x_icmp_ge_n 501 dL_texts_457 (by decide) (by decide) ?_
  refine x_aload_n 1 dL_texts_460 rfl rfl ?_
  refine x_iload_n 0 dL_texts_461 rfl rfl ?_
  refine x_iconst 2 (by decide) dL_texts_462 ?_
  refine x_irem (f := fun v => if v = 0 then some () else none) (w := ()) dL_texts_463 (by decide) (fun v300 hv300 => ?_)
  obtain rfl : v300 = 0 := by by_cases z : v300 = 0; exact z; rw [if_neg z] at hv300; cases hv300
  refine x_if_ne_n 472 dL_texts_464 (by decide) (by decide) ?_
  refine x_bipush 99 (by decide) dL_texts_467 ?_
  refine x_goto 474 dL_texts_469 (by decide) ?_
  obtain ⟨f301, e301, a301, w301⟩ := k_app (N := N) w298 99
  rw [tf_804] at e301 w301
  replace w301 : k_wd h.2 (h.2 + 70) 61 (k_of k_e0s) [] (fun _ => none) [99, 59, 99, 59, 99, 59, 99, 59, 99, 59, 99, 59, 99, 59, 99, 59, 99, 59, 99, 59, 99, 59, 99, 59, 99, 59, 99, 59, 99, 59, 99, 59, 99, 59, 99, 59, 99, 59, 99, 59, 99, 59, 99, 59, 99, 59, 99] f301 := w301
  have z301 := z298.st a301
  obtain ⟨fs302, hfs302⟩ := w298.ob
  refine x_callv (As := [.int 99]) (rest := []) 81 3908 dL_texts_474 mi_X5_append ml_L_59 rfl rfl (Nat.le_of_ble_eq_true rfl) ⟨by decide, by decide⟩ (by omega) (by omega) hfs302 rfl (c_X5_append N _ _ _ _ _ e301) (x_K.some ?_) x_KX.none
  refine x_toX (st' := [.int 47]) rfl ?_
  clear e301 a301 hfs302 w298 z298
  refine x_iload_n 0 dL_texts_477 rfl rfl ?_
  refine x_iconst 1 (by decide) dL_texts_478 ?_
  refine x_iadd dL_texts_479 ?_
  refine x_toX (st' := [.int 47, .int 47]) rfl ?_
  refine x_icmp_ne_n 493 dL_texts_480 (by decide) (by decide) ?_
  refine x_aload_n 1 dL_texts_483 rfl rfl ?_
  obtain ⟨f303, e303, a303, w303⟩ := k_ferr_of hN w301 tf_805
  have z303 := z301.st a303
  obtain ⟨fs304, hfs304⟩ := w301.ob
  refine x_callv (As := []) (rest := []) 81 3908 dL_texts_484 mi_X5_firstError ml_L_65 rfl rfl (Nat.le_of_ble_eq_true rfl) ⟨by decide, by decide⟩ (by omega) (by omega) hfs304 rfl (c_X5_firstError N _ _ _ _ e303) (x_K.some ?_) x_KX.none
  refine x_toX (st' := [.int 47]) rfl ?_
  clear e303 a303 hfs304 w301 z301
  refine x_iload_n 0 dL_texts_487 rfl rfl ?_
  refine x_iconst 1 (by decide) dL_texts_488 ?_
  refine x_iadd dL_texts_489 ?_
  refine x_toX (st' := [.int 47, .int 47]) rfl ?_
  refine x_icmp_eq_y 495 dL_texts_490 (by decide) (by decide) ?_
  refine x_iinc 47 (lv' := [(1, .int 47), (0, .ref h.2)]) dL_texts_495 0 rfl (by decide) (by decide) rfl ?_
  refine x_goto 454 dL_texts_498 (by decide) ?_
  refine x_iload_n 0 dL_texts_454 rfl rfl ?_
  refine x_bipush 60 (by decide) dL_texts_455 ?_
  refine x_icmp_ge_n 501 dL_texts_457 (by decide) (by decide) ?_
  refine x_aload_n 1 dL_texts_460 rfl rfl ?_
  refine x_iload_n 0 dL_texts_461 rfl rfl ?_
  refine x_iconst 2 (by decide) dL_texts_462 ?_
  refine x_irem (f := fun v => if v = 1 then some () else none) (w := ()) dL_texts_463 (by decide) (fun v305 hv305 => ?_)
  obtain rfl : v305 = 1 := by by_cases z : v305 = 1; exact z; rw [if_neg z] at hv305; cases hv305
  refine x_if_ne_y 472 dL_texts_464 (by decide) (by decide) ?_
  refine x_bipush 59 (by decide) dL_texts_472 ?_
  obtain ⟨f306, e306, a306, w306⟩ := k_app (N := N) w303 59
  rw [tf_806] at e306 w306
  replace w306 : k_wd h.2 (h.2 + 70) 61 (k_of k_e0s) [] (fun _ => none) [99, 59, 99, 59, 99, 59, 99, 59, 99, 59, 99, 59, 99, 59, 99, 59, 99, 59, 99, 59, 99, 59, 99, 59, 99, 59, 99, 59, 99, 59, 99, 59, 99, 59, 99, 59, 99, 59, 99, 59, 99, 59, 99, 59, 99, 59, 99, 59] f306 := w306
  have z306 := z303.st a306
  obtain ⟨fs307, hfs307⟩ := w303.ob
  refine x_callv (As := [.int 59]) (rest := []) 80 3902 dL_texts_474 mi_X5_append ml_L_59 rfl rfl (Nat.le_of_ble_eq_true rfl) ⟨by decide, by decide⟩ (by omega) (by omega) hfs307 rfl (c_X5_append N _ _ _ _ _ e306) (x_K.some ?_) x_KX.none
  refine x_toX (st' := [.int 48]) rfl ?_
  clear e306 a306 hfs307 w303 z303
  refine x_iload_n 0 dL_texts_477 rfl rfl ?_
  refine x_iconst 1 (by decide) dL_texts_478 ?_
  refine x_iadd dL_texts_479 ?_
  refine x_toX (st' := [.int 48, .int 48]) rfl ?_
  refine x_icmp_ne_n 493 dL_texts_480 (by decide) (by decide) ?_
  refine x_aload_n 1 dL_texts_483 rfl rfl ?_
  obtain ⟨f308, e308, a308, w308⟩ := k_ferr_of hN w306 tf_807
  have z308 := z306.st a308
  obtain ⟨fs309, hfs309⟩ := w306.ob
  refine x_callv (As := []) (rest := []) 80 3902 dL_texts_484 mi_X5_firstError ml_L_65 rfl rfl (Nat.le_of_ble_eq_true rfl) ⟨by decide, by decide⟩ (by omega) (by omega) hfs309 rfl (c_X5_firstError N _ _ _ _ e308) (x_K.some ?_) x_KX.none
  refine x_toX (st' := [.int 48]) rfl ?_
  clear e308 a308 hfs309 w306 z306
  refine x_iload_n 0 dL_texts_487 rfl rfl ?_
  refine x_iconst 1 (by decide) dL_texts_488 ?_
  refine x_iadd dL_texts_489 ?_
  refine x_toX (st' := [.int 48, .int 48]) rfl ?_
  refine x_icmp_eq_y 495 dL_texts_490 (by decide) (by decide) ?_
  refine x_iinc 48 (lv' := [(1, .int 48), (0, .ref h.2)]) dL_texts_495 0 rfl (by decide) (by decide) rfl ?_
  refine x_goto 454 dL_texts_498 (by decide) ?_
  refine x_iload_n 0 dL_texts_454 rfl rfl ?_
  refine x_bipush 60 (by decide) dL_texts_455 ?_
  refine x_icmp_ge_n 501 dL_texts_457 (by decide) (by decide) ?_
  refine x_aload_n 1 dL_texts_460 rfl rfl ?_
  refine x_iload_n 0 dL_texts_461 rfl rfl ?_
  refine x_iconst 2 (by decide) dL_texts_462 ?_
  refine x_irem (f := fun v => if v = 0 then some () else none) (w := ()) dL_texts_463 (by decide) (fun v310 hv310 => ?_)
  obtain rfl : v310 = 0 := by by_cases z : v310 = 0; exact z; rw [if_neg z] at hv310; cases hv310
  refine x_if_ne_n 472 dL_texts_464 (by decide) (by decide) ?_
  refine x_bipush 99 (by decide) dL_texts_467 ?_
  refine x_goto 474 dL_texts_469 (by decide) ?_
  obtain ⟨f311, e311, a311, w311⟩ := k_app (N := N) w308 99
  rw [tf_808] at e311 w311
  replace w311 : k_wd h.2 (h.2 + 70) 61 (k_of k_e0s) [] (fun _ => none) [99, 59, 99, 59, 99, 59, 99, 59, 99, 59, 99, 59, 99, 59, 99, 59, 99, 59, 99, 59, 99, 59, 99, 59, 99, 59, 99, 59, 99, 59, 99, 59, 99, 59, 99, 59, 99, 59, 99, 59, 99, 59, 99, 59, 99, 59, 99, 59, 99] f311 := w311
  have z311 := z308.st a311
  obtain ⟨fs312, hfs312⟩ := w308.ob
  refine x_callv (As := [.int 99]) (rest := []) 79 3896 dL_texts_474 mi_X5_append ml_L_59 rfl rfl (Nat.le_of_ble_eq_true rfl) ⟨by decide, by decide⟩ (by omega) (by omega) hfs312 rfl (c_X5_append N _ _ _ _ _ e311) (x_K.some ?_) x_KX.none
  refine x_toX (st' := [.int 49]) rfl ?_
  clear e311 a311 hfs312 w308 z308
  refine x_iload_n 0 dL_texts_477 rfl rfl ?_
  refine x_iconst 1 (by decide) dL_texts_478 ?_
  refine x_iadd dL_texts_479 ?_
  refine x_toX (st' := [.int 49, .int 49]) rfl ?_
  refine x_icmp_ne_n 493 dL_texts_480 (by decide) (by decide) ?_
  refine x_aload_n 1 dL_texts_483 rfl rfl ?_
  obtain ⟨f313, e313, a313, w313⟩ := k_ferr_of hN w311 tf_809
  have z313 := z311.st a313
  obtain ⟨fs314, hfs314⟩ := w311.ob
  refine x_callv (As := []) (rest := []) 79 3896 dL_texts_484 mi_X5_firstError ml_L_65 rfl rfl (Nat.le_of_ble_eq_true rfl) ⟨by decide, by decide⟩ (by omega) (by omega) hfs314 rfl (c_X5_firstError N _ _ _ _ e313) (x_K.some ?_) x_KX.none
  refine x_toX (st' := [.int 49]) rfl ?_
  clear e313 a313 hfs314 w311 z311
  refine x_iload_n 0 dL_texts_487 rfl rfl ?_
  refine x_iconst 1 (by decide) dL_texts_488 ?_
  refine x_iadd dL_texts_489 ?_
  refine x_toX (st' := [.int 49, .int 49]) rfl ?_
  refine x_icmp_eq_y 495 dL_texts_490 (by decide) (by decide) ?_
  refine x_iinc 49 (lv' := [(1, .int 49), (0, .ref h.2)]) dL_texts_495 0 rfl (by decide) (by decide) rfl ?_
  refine x_goto 454 dL_texts_498 (by decide) ?_
  refine x_iload_n 0 dL_texts_454 rfl rfl ?_
  refine x_bipush 60 (by decide) dL_texts_455 ?_
  refine x_icmp_ge_n 501 dL_texts_457 (by decide) (by decide) ?_
  refine x_aload_n 1 dL_texts_460 rfl rfl ?_
  refine x_iload_n 0 dL_texts_461 rfl rfl ?_
  refine x_iconst 2 (by decide) dL_texts_462 ?_
  refine x_irem (f := fun v => if v = 1 then some () else none) (w := ()) dL_texts_463 (by decide) (fun v315 hv315 => ?_)
  obtain rfl : v315 = 1 := by by_cases z : v315 = 1; exact z; rw [if_neg z] at hv315; cases hv315
  refine x_if_ne_y 472 dL_texts_464 (by decide) (by decide) ?_
  refine x_bipush 59 (by decide) dL_texts_472 ?_
  obtain ⟨f316, e316, a316, w316⟩ := k_app (N := N) w313 59
  rw [tf_810] at e316 w316
  replace w316 : k_wd h.2 (h.2 + 70) 61 (k_of k_e0s) [] (fun _ => none) [99, 59, 99, 59, 99, 59, 99, 59, 99, 59, 99, 59, 99, 59, 99, 59, 99, 59, 99, 59, 99, 59, 99, 59, 99, 59, 99, 59, 99, 59, 99, 59, 99, 59, 99, 59, 99, 59, 99, 59, 99, 59, 99, 59, 99, 59, 99, 59, 99, 59] f316 := w316
  have z316 := z313.st a316
  obtain ⟨fs317, hfs317⟩ := w313.ob
  refine x_callv (As := [.int 59]) (rest := []) 78 3890 dL_texts_474 mi_X5_append ml_L_59 rfl rfl (Nat.le_of_ble_eq_true rfl) ⟨by decide, by decide⟩ (by omega) (by omega) hfs317 rfl (c_X5_append N _ _ _ _ _ e316) (x_K.some ?_) x_KX.none
  refine x_toX (st' := [.int 50]) rfl ?_
  clear e316 a316 hfs317 w313 z313
  refine x_iload_n 0 dL_texts_477 rfl rfl ?_
  refine x_iconst 1 (by decide) dL_texts_478 ?_
  refine x_iadd dL_texts_479 ?_
  refine x_toX (st' := [.int 50, .int 50]) rfl ?_
  refine x_icmp_ne_n 493 dL_texts_480 (by decide) (by decide) ?_
  refine x_aload_n 1 dL_texts_483 rfl rfl ?_
  obtain ⟨f318, e318, a318, w318⟩ := k_ferr_of hN w316 tf_811
  have z318 := z316.st a318
  obtain ⟨fs319, hfs319⟩ := w316.ob
  refine x_callv (As := []) (rest := []) 78 3890 dL_texts_484 mi_X5_firstError ml_L_65 rfl rfl (Nat.le_of_ble_eq_true rfl) ⟨by decide, by decide⟩ (by omega) (by omega) hfs319 rfl (c_X5_firstError N _ _ _ _ e318) (x_K.some ?_) x_KX.none
  refine x_toX (st' := [.int 50]) rfl ?_
  clear e318 a318 hfs319 w316 z316
  refine x_iload_n 0 dL_texts_487 rfl rfl ?_
  refine x_iconst 1 (by decide) dL_texts_488 ?_
  refine x_iadd dL_texts_489 ?_
  refine x_toX (st' := [.int 50, .int 50]) rfl ?_
  refine x_icmp_eq_y 495 dL_texts_490 (by decide) (by decide) ?_
  refine x_iinc 50 (lv' := [(1, .int 50), (0, .ref h.2)]) dL_texts_495 0 rfl (by decide) (by decide) rfl ?_
  refine x_goto 454 dL_texts_498 (by decide) ?_
  refine x_iload_n 0 dL_texts_454 rfl rfl ?_
  refine x_bipush 60 (by decide) dL_texts_455 ?_
  refine x_icmp_ge_n 501 dL_texts_457 (by decide) (by decide) ?_
  refine x_aload_n 1 dL_texts_460 rfl rfl ?_
  refine x_iload_n 0 dL_texts_461 rfl rfl ?_
  refine x_iconst 2 (by decide) dL_texts_462 ?_
  refine x_irem (f := fun v => if v = 0 then some () else none) (w := ()) dL_texts_463 (by decide) (fun v320 hv320 => ?_)
  obtain rfl : v320 = 0 := by by_cases z : v320 = 0; exact z; rw [if_neg z] at hv320; cases hv320
  refine x_if_ne_n 472 dL_texts_464 (by decide) (by decide) ?_
  refine x_bipush 99 (by decide) dL_texts_467 ?_
  refine x_goto 474 dL_texts_469 (by decide) ?_
  obtain ⟨f321, e321, a321, w321⟩ := k_app (N := N) w318 99
  rw [tf_812] at e321 w321
  replace w321 : k_wd h.2 (h.2 + 70) 61 (k_of k_e0s) [] (fun _ => none) [99, 59, 99, 59, 99, 59, 99, 59, 99, 59, 99, 59, 99, 59, 99, 59, 99, 59, 99, 59, 99, 59, 99, 59, 99, 59, 99, 59, 99, 59, 99, 59, 99, 59, 99, 59, 99, 59, 99, 59, 99, 59, 99, 59, 99, 59, 99, 59, 99, 59, 99] f321 := w321
  have z321 := z318.st a321
  obtain ⟨fs322, hfs322⟩ := w318.ob
  refine x_callv (As := [.int 99]) (rest := []) 77 3884 dL_texts_474 mi_X5_append ml_L_59 rfl rfl (Nat.le_of_ble_eq_true rfl) ⟨by decide, by decide⟩ (by omega) (by omega) hfs322 rfl (c_X5_append N _ _ _ _ _ e321) (x_K.some ?_) x_KX.none
  refine x_toX (st' := [.int 51]) rfl ?_
  clear e321 a321 hfs322 w318 z318
  refine x_iload_n 0 dL_texts_477 rfl rfl ?_
  refine x_iconst 1 (by decide) dL_texts_478 ?_
  refine x_iadd dL_texts_479 ?_
  refine x_toX (st' := [.int 51, .int 51]) rfl ?_
  refine x_icmp_ne_n 493 dL_texts_480 (by decide) (by decide) ?_
  refine x_aload_n 1 dL_texts_483 rfl rfl ?_
  obtain ⟨f323, e323, a323, w323⟩ := k_ferr_of hN w321 tf_813
  have z323 := z321.st a323
  obtain ⟨fs324, hfs324⟩ := w321.ob
  refine x_callv (As := []) (rest := []) 77 3884 dL_texts_484 mi_X5_firstError ml_L_65 rfl rfl (Nat.le_of_ble_eq_true rfl) ⟨by decide, by decide⟩ (by omega) (by omega) hfs324 rfl (c_X5_firstError N _ _ _ _ e323) (x_K.some ?_) x_KX.none
  refine x_toX (st' := [.int 51]) rfl ?_
  clear e323 a323 hfs324 w321 z321
  refine x_iload_n 0 dL_texts_487 rfl rfl ?_
  refine x_iconst 1 (by decide) dL_texts_488 ?_
  refine x_iadd dL_texts_489 ?_
  refine x_toX (st' := [.int 51, .int 51]) rfl ?_
  refine x_icmp_eq_y 495 dL_texts_490 (by decide) (by decide) ?_
  refine x_iinc 51 (lv' := [(1, .int 51), (0, .ref h.2)]) dL_texts_495 0 rfl (by decide) (by decide) rfl ?_
  refine x_goto 454 dL_texts_498 (by decide) ?_
  refine x_iload_n 0 dL_texts_454 rfl rfl ?_
  refine x_bipush 60 (by decide) dL_texts_455 ?_
  refine x_icmp_ge_n 501 dL_texts_457 (by decide) (by decide) ?_
  refine x_aload_n 1 dL_texts_460 rfl rfl ?_
  refine x_iload_n 0 dL_texts_461 rfl rfl ?_
  refine x_iconst 2 (by decide) dL_texts_462 ?_
  refine x_irem (f := fun v => if v = 1 then some () else none) (w := ()) dL_texts_463 (by decide) (fun v325 hv325 => ?_)
  obtain rfl : v325 = 1 := by by_cases z : v325 = 1; exact z; rw [if_neg z] at hv325; cases hv325
  refine x_if_ne_y 472 dL_texts_464 (by decide) (by decide) ?_
  refine x_bipush 59 (by decide) dL_texts_472 ?_
  obtain ⟨f326, e326, a326, w326⟩ := k_app (N := N) w323 59
  rw [tf_814] at e326 w326
  replace w326 : k_wd h.2 (h.2 + 70) 61 (k_of k_e0s) [] (fun _ => none) [99, 59, 99, 59, 99, 59, 99, 59, 99, 59, 99, 59, 99, 59, 99, 59, 99, 59, 99, 59, 99, 59, 99, 59, 99, 59, 99, 59, 99, 59, 99, 59, 99, 59, 99, 59, 99, 59, 99, 59, 99, 59, 99, 59, 99, 59, 99, 59, 99, 59, 99, 59] f326 := w326
  have z326 := z323.st a326
  obtain ⟨fs327, hfs327⟩ := w323.ob
  refine x_callv (As := [.int 59]) (rest := []) 76 3878 dL_texts_474 mi_X5_append ml_L_59 rfl rfl (Nat.le_of_ble_eq_true rfl) ⟨by decide, by decide⟩ (by omega) (by omega) hfs327 rfl (c_X5_append N _ _ _ _ _ e326) (x_K.some ?_) x_KX.none
  refine x_toX (st' := [.int 52]) rfl ?_
  clear e326 a326 hfs327 w323 z323
  refine x_iload_n 0 dL_texts_477 rfl rfl ?_
  refine x_iconst 1 (by decide) dL_texts_478 ?_
  refine x_iadd dL_texts_479 ?_
  refine x_toX (st' := [.int 52, .int 52]) rfl ?_
  refine x_icmp_ne_n 493 dL_texts_480 (by decide) (by decide) ?_
  refine x_aload_n 1 dL_texts_483 rfl rfl ?_
  obtain ⟨f328, e328, a328, w328⟩ := k_ferr_of hN w326 tf_815
  have z328 := z326.st a328
  obtain ⟨fs329, hfs329⟩ := w326.ob
  refine x_callv (As := []) (rest := []) 76 3878 dL_texts_484 mi_X5_firstError ml_L_65 rfl rfl (Nat.le_of_ble_eq_true rfl) ⟨by decide, by decide⟩ (by omega) (by omega) hfs329 rfl (c_X5_firstError N _ _ _ _ e328) (x_K.some ?_) x_KX.none
  refine x_toX (st' := [.int 52]) rfl ?_
  clear e328 a328 hfs329 w326 z326
  refine x_iload_n 0 dL_texts_487 rfl rfl ?_
  refine x_iconst 1 (by decide) dL_texts_488 ?_
  refine x_iadd dL_texts_489 ?_
  refine x_toX (st' := [.int 52, .int 52]) rfl ?_
  refine x_icmp_eq_y 495 dL_texts_490 (by decide) (by decide) ?_
  refine x_iinc 52 (lv' := [(1, .int 52), (0, .ref h.2)]) dL_texts_495 0 rfl (by decide) (by decide) rfl ?_
  refine x_goto 454 dL_texts_498 (by decide) ?_
  refine x_iload_n 0 dL_texts_454 rfl rfl ?_
  refine x_bipush 60 (by decide) dL_texts_455 ?_
  refine x_icmp_ge_n 501 dL_texts_457 (by decide) (by decide) ?_
  refine x_aload_n 1 dL_texts_460 rfl rfl ?_
  refine x_iload_n 0 dL_texts_461 rfl rfl ?_
  refine x_iconst 2 (by decide) dL_texts_462 ?_
  refine x_irem (f := fun v => if v = 0 then some () else none) (w := ()) dL_texts_463 (by decide) (fun v330 hv330 => ?_)
  obtain rfl : v330 = 0 := by by_cases z : v330 = 0; exact z; rw [if_neg z] at hv330; cases hv330
  refine x_if_ne_n 472 dL_texts_464 (by decide) (by decide) ?_
  refine x_bipush 99 (by decide) dL_texts_467 ?_
  refine x_goto 474 dL_texts_469 (by decide) ?_
  obtain ⟨f331, e331, a331, w331⟩ := k_app (N := N) w328 99
  rw [tf_816] at e331 w331
  replace w331 : k_wd h.2 (h.2 + 70) 61 (k_of k_e0s) [] (fun _ => none) [99, 59, 99, 59, 99, 59, 99, 59, 99, 59, 99, 59, 99, 59, 99, 59, 99, 59, 99, 59, 99, 59, 99, 59, 99, 59, 99, 59, 99, 59, 99, 59, 99, 59, 99, 59, 99, 59, 99, 59, 99, 59, 99, 59, 99, 59, 99, 59, 99, 59, 99, 59, 99] f331 := w331
  have z331 := z328.st a331
  obtain ⟨fs332, hfs332⟩ := w328.ob
  refine x_callv (As := [.int 99]) (rest := []) 75 3872 dL_texts_474 mi_X5_append ml_L_59 rfl rfl (Nat.le_of_ble_eq_true rfl) ⟨by decide, by decide⟩ (by omega) (by omega) hfs332 rfl (c_X5_append N _ _ _ _ _ e331) (x_K.some ?_) x_KX.none
  refine x_toX (st' := [.int 53]) rfl ?_
  clear e331 a331 hfs332 w328 z328
  refine x_iload_n 0 dL_texts_477 rfl rfl ?_
  refine x_iconst 1 (by decide) dL_texts_478 ?_
  refine x_iadd dL_texts_479 ?_
  refine x_toX (st' := [.int 53, .int 53]) rfl ?_
  refine x_icmp_ne_n 493 dL_texts_480 (by decide) (by decide) ?_
  refine x_aload_n 1 dL_texts_483 rfl rfl ?_
  obtain ⟨f333, e333, a333, w333⟩ := k_ferr_of hN w331 tf_817
  have z333 := z331.st a333
  obtain ⟨fs334, hfs334⟩ := w331.ob
  refine x_callv (As := []) (rest := []) 75 3872 dL_texts_484 mi_X5_firstError ml_L_65 rfl rfl (Nat.le_of_ble_eq_true rfl) ⟨by decide, by decide⟩ (by omega) (by omega) hfs334 rfl (c_X5_firstError N _ _ _ _ e333) (x_K.some ?_) x_KX.none
  refine x_toX (st' := [.int 53]) rfl ?_
  clear e333 a333 hfs334 w331 z331
  refine x_iload_n 0 dL_texts_487 rfl rfl ?_
  refine x_iconst 1 (by decide) dL_texts_488 ?_
  refine x_iadd dL_texts_489 ?_
  refine x_toX (st' := [.int 53, .int 53]) rfl ?_
  refine x_icmp_eq_y 495 dL_texts_490 (by decide) (by decide) ?_
  refine x_iinc 53 (lv' := [(1, .int 53), (0, .ref h.2)]) dL_texts_495 0 rfl (by decide) (by decide) rfl ?_
  refine x_goto 454 dL_texts_498 (by decide) ?_
  refine x_iload_n 0 dL_texts_454 rfl rfl ?_
  refine x_bipush 60 (by decide) dL_texts_455 ?_
  refine x_icmp_ge_n 501 dL_texts_457 (by decide) (by decide) ?_
  refine x_aload_n 1 dL_texts_460 rfl rfl ?_
  refine x_iload_n 0 dL_texts_461 rfl rfl ?_
  refine x_iconst 2 (by decide) dL_texts_462 ?_
  refine x_irem (f := fun v => if v = 1 then some () else none) (w := ()) dL_texts_463 (by decide) (fun v335 hv335 => ?_)
  obtain rfl : v335 = 1 := by by_cases z : v335 = 1; exact z; rw [if_neg z] at hv335; cases hv335
  refine x_if_ne_y 472 dL_texts_464 (by decide) (by decide) ?_
  refine x_bipush 59 (by decide) dL_texts_472 ?_
  obtain ⟨f336, e336, a336, w336⟩ := k_app (N := N) w333 59
  rw [tf_818] at e336 w336
  replace w336 : k_wd h.2 (h.2 + 70) 61 (k_of k_e0s) [] (fun _ => none) [99, 59, 99, 59, 99, 59, 99, 59, 99, 59, 99, 59, 99, 59, 99, 59, 99, 59, 99, 59, 99, 59, 99, 59, 99, 59, 99, 59, 99, 59, 99, 59, 99, 59, 99, 59, 99, 59, 99, 59, 99, 59, 99, 59, 99, 59, 99, 59, 99, 59, 99, 59, 99, 59] f336 := w336
  have z336 := z333.st a336
  obtain ⟨fs337, hfs337⟩ := w333.ob
  refine x_callv (As := [.int 59]) (rest := []) 74 3866 dL_texts_474 mi_X5_append ml_L_59 rfl rfl (Nat.le_of_ble_eq_true rfl) ⟨by decide, by decide⟩ (by omega) (by omega) hfs337 rfl (c_X5_append N _ _ _ _ _ e336) (x_K.some ?_) x_KX.none
  refine x_toX (st' := [.int 54]) rfl ?_
  clear e336 a336 hfs337 w333 z333
  refine x_iload_n 0 dL_texts_477 rfl rfl ?_
  refine x_iconst 1 (by decide) dL_texts_478 ?_
  refine x_iadd dL_texts_479 ?_
  refine x_toX (st' := [.int 54, .int 54]) rfl ?_
  refine x_icmp_ne_n 493 dL_texts_480 (by decide) (by decide) ?_
  refine x_aload_n 1 dL_texts_483 rfl rfl ?_
  obtain ⟨f338, e338, a338, w338⟩ := k_ferr_of hN w336 tf_819
  have z338 := z336.st a338
  obtain ⟨fs339, hfs339⟩ := w336.ob
  refine x_callv (As := []) (rest := []) 74 3866 dL_texts_484 mi_X5_firstError ml_L_65 rfl rfl (Nat.le_of_ble_eq_true rfl) ⟨by decide, by decide⟩ (by omega) (by omega) hfs339 rfl (c_X5_firstError N _ _ _ _ e338) (x_K.some ?_) x_KX.none
  refine x_toX (st' := [.int 54]) rfl ?_
  clear e338 a338 hfs339 w336 z336
  refine x_iload_n 0 dL_texts_487 rfl rfl ?_
  refine x_iconst 1 (by decide) dL_texts_488 ?_
  refine x_iadd dL_texts_489 ?_
  refine x_toX (st' := [.int 54, .int 54]) rfl ?_
  refine x_icmp_eq_y 495 dL_texts_490 (by decide) (by decide) ?_
  refine x_iinc 54 (lv' := [(1, .int 54), (0, .ref h.2)]) dL_texts_495 0 rfl (by decide) (by decide) rfl ?_
  refine x_goto 454 dL_texts_498 (by decide) ?_
  refine x_iload_n 0 dL_texts_454 rfl rfl ?_
  refine x_bipush 60 (by decide) dL_texts_455 ?_
  refine x_icmp_ge_n 501 dL_texts_457 (by decide) (by decide) ?_
  refine x_aload_n 1 dL_texts_460 rfl rfl ?_
  refine x_iload_n 0 dL_texts_461 rfl rfl ?_
  refine x_iconst 2 (by decide) dL_texts_462 ?_
  refine x_irem (f := fun v => if v = 0 then some () else none) (w := ()) dL_texts_463 (by decide) (fun v340 hv340 => ?_)
  obtain rfl : v340 = 0 := by by_cases z : v340 = 0; exact z; rw [if_neg z] at hv340; cases hv340
  refine x_if_ne_n 472 dL_texts_464 (by decide) (by decide) ?_
  refine x_bipush 99 (by decide) dL_texts_467 ?_
  refine x_goto 474 dL_texts_469 (by decide) ?_
  obtain ⟨f341, e341, a341, w341⟩ := k_app (N := N) w338 99
  rw [tf_820] at e341 w341
  replace w341 : k_wd h.2 (h.2 + 70) 61 (k_of k_e0s) [] (fun _ => none) [99, 59, 99, 59, 99, 59, 99, 59, 99, 59, 99, 59, 99, 59, 99, 59, 99, 59, 99, 59, 99, 59, 99, 59, 99, 59, 99, 59, 99, 59, 99, 59, 99, 59, 99, 59, 99, 59, 99, 59, 99, 59, 99, 59, 99, 59, 99, 59, 99, 59, 99, 59, 99, 59, 99] f341 := w341
  have z341 := z338.st a341
  obtain ⟨fs342, hfs342⟩ := w338.ob
  refine x_callv (As := [.int 99]) (rest := []) 73 3860 dL_texts_474 mi_X5_append ml_L_59 rfl rfl (Nat.le_of_ble_eq_true rfl) ⟨by decide, by decide⟩ (by omega) (by omega) hfs342 rfl (c_X5_append N _ _ _ _ _ e341) (x_K.some ?_) x_KX.none
  refine x_toX (st' := [.int 55]) rfl ?_
  clear e341 a341 hfs342 w338 z338
  refine x_iload_n 0 dL_texts_477 rfl rfl ?_
  refine x_iconst 1 (by decide) dL_texts_478 ?_
  refine x_iadd dL_texts_479 ?_
  refine x_toX (st' := [.int 55, .int 55]) rfl ?_
  refine x_icmp_ne_n 493 dL_texts_480 (by decide) (by decide) ?_
  refine x_aload_n 1 dL_texts_483 rfl rfl ?_
  obtain ⟨f343, e343, a343, w343⟩ := k_ferr_of hN w341 tf_821
  have z343 := z341.st a343
  obtain ⟨fs344, hfs344⟩ := w341.ob
  refine x_callv (As := []) (rest := []) 73 3860 dL_texts_484 mi_X5_firstError ml_L_65 rfl rfl (Nat.le_of_ble_eq_true rfl) ⟨by decide, by decide⟩ (by omega) (by omega) hfs344 rfl (c_X5_firstError N _ _ _ _ e343) (x_K.some ?_) x_KX.none
  refine x_toX (st' := [.int 55]) rfl ?_
  clear e343 a343 hfs344 w341 z341
  refine x_iload_n 0 dL_texts_487 rfl rfl ?_
  refine x_iconst 1 (by decide) dL_texts_488 ?_
  refine x_iadd dL_texts_489 ?_
  refine x_toX (st' := [.int 55, .int 55]) rfl ?_
  refine x_icmp_eq_y 495 dL_texts_490 (by decide) (by decide) ?_
  refine x_iinc 55 (lv' := [(1, .int 55), (0, .ref h.2)]) dL_texts_495 0 rfl (by decide) (by decide) rfl ?_
  refine x_goto 454 dL_texts_498 (by decide) ?_
  refine x_iload_n 0 dL_texts_454 rfl rfl ?_
  refine x_bipush 60 (by decide) dL_texts_455 ?_
  refine x_icmp_ge_n 501 dL_texts_457 (by decide) (by decide) ?_
  refine x_aload_n 1 dL_texts_460 rfl rfl ?_
  refine x_iload_n 0 dL_texts_461 rfl rfl ?_
  refine x_iconst 2 (by decide) dL_texts_462 ?_
  refine x_irem (f := fun v => if v = 1 then some () else none) (w := ()) dL_texts_463 (by decide) (fun v345 hv345 => ?_)
  obtain rfl : v345 = 1 := by by_cases z : v345 = 1; exact z; rw [if_neg z] at hv345; cases hv345
  refine x_if_ne_y 472 dL_texts_464 (by decide) (by decide) ?_
  refine x_bipush 59 (by decide) dL_texts_472 ?_
  obtain ⟨f346, e346, a346, w346⟩ := k_app (N := N) w343 59
  rw [tf_822] at e346 w346
  replace w346 : k_wd h.2 (h.2 + 70) 61 (k_of k_e0s) [] (fun _ => none) [99, 59, 99, 59, 99, 59, 99, 59, 99, 59, 99, 59, 99, 59, 99, 59, 99, 59, 99, 59, 99, 59, 99, 59, 99, 59, 99, 59, 99, 59, 99, 59, 99, 59, 99, 59, 99, 59, 99, 59, 99, 59, 99, 59, 99, 59, 99, 59, 99, 59, 99, 59, 99, 59, 99, 59] f346 := w346
  have z346 := z343.st a346
  obtain ⟨fs347, hfs347⟩ := w343.ob
  refine x_callv (As := [.int 59]) (rest := []) 72 3854 dL_texts_474 mi_X5_append ml_L_59 rfl rfl (Nat.le_of_ble_eq_true rfl) ⟨by decide, by decide⟩ (by omega) (by omega) hfs347 rfl (c_X5_append N _ _ _ _ _ e346) (x_K.some ?_) x_KX.none
  refine x_toX (st' := [.int 56]) rfl ?_
  clear e346 a346 hfs347 w343 z343
  refine x_iload_n 0 dL_texts_477 rfl rfl ?_
  refine x_iconst 1 (by decide) dL_texts_478 ?_
  refine x_iadd dL_texts_479 ?_
  refine x_toX (st' := [.int 56, .int 56]) rfl ?_
  refine x_icmp_ne_n 493 dL_texts_480 (by decide) (by decide) ?_
  refine x_aload_n 1 dL_texts_483 rfl rfl ?_
  obtain ⟨f348, e348, a348, w348⟩ := k_ferr_of hN w346 tf_823
  have z348 := z346.st a348
  obtain ⟨fs349, hfs349⟩ := w346.ob
  refine x_callv (As := []) (rest := []) 72 3854 dL_texts_484 mi_X5_firstError ml_L_65 rfl rfl (Nat.le_of_ble_eq_true rfl) ⟨by decide, by decide⟩ (by omega) (by omega) hfs349 rfl (c_X5_firstError N _ _ _ _ e348) (x_K.some ?_) x_KX.none
  refine x_toX (st' := [.int 56]) rfl ?_
  clear e348 a348 hfs349 w346 z346
  refine x_iload_n 0 dL_texts_487 rfl rfl ?_
  refine x_iconst 1 (by decide) dL_texts_488 ?_
  refine x_iadd dL_texts_489 ?_
  refine x_toX (st' := [.int 56, .int 56]) rfl ?_
  refine x_icmp_eq_y 495 dL_texts_490 (by decide) (by decide) ?_
  refine x_iinc 56 (lv' := [(1, .int 56), (0, .ref h.2)]) dL_texts_495 0 rfl (by decide) (by decide) rfl ?_
  refine x_goto 454 dL_texts_498 (by decide) ?_
  refine x_iload_n 0 dL_texts_454 rfl rfl ?_
  refine x_bipush 60 (by decide) dL_texts_455 ?_
  refine x_icmp_ge_n 501 dL_texts_457 (by decide) (by decide) ?_
  refine x_aload_n 1 dL_texts_460 rfl rfl ?_
  refine x_iload_n 0 dL_texts_461 rfl rfl ?_
  refine x_iconst 2 (by decide) dL_texts_462 ?_
  refine x_irem (f := fun v => if v = 0 then some () else none) (w := ()) dL_texts_463 (by decide) (fun v350 hv350 => ?_)
  obtain rfl : v350 = 0 := by by_cases z : v350 = 0; exact z; rw [if_neg z] at hv350; cases hv350
  refine x_if_ne_n 472 dL_texts_464 (by decide) (by decide) ?_
  refine x_bipush 99 (by decide) dL_texts_467 ?_
  refine x_goto 474 dL_texts_469 (by decide) ?_
  obtain ⟨f351, e351, a351, w351⟩ := k_app (N := N) w348 99
  rw [tf_824] at e351 w351
  replace w351 : k_wd h.2 (h.2 + 70) 61 (k_of k_e0s) [] (fun _ => none) [99, 59, 99, 59, 99, 59, 99, 59, 99, 59, 99, 59, 99, 59, 99, 59, 99, 59, 99, 59, 99, 59, 99, 59, 99, 59, 99, 59, 99, 59, 99, 59, 99, 59, 99, 59, 99, 59, 99, 59, 99, 59, 99, 59, 99, 59, 99, 59, 99, 59, 99, 59, 99, 59, 99, 59, 99] f351 := w351
  have z351 := z348.st a351
  obtain ⟨fs352, hfs352⟩ := w348.ob
  refine x_callv (As := [.int 99]) (rest := []) 71 3848 dL_texts_474 mi_X5_append ml_L_59 rfl rfl (Nat.le_of_ble_eq_true rfl) ⟨by decide, by decide⟩ (by omega) (by omega) hfs352 rfl (c_X5_append N _ _ _ _ _ e351) (x_K.some ?_) x_KX.none
  refine x_toX (st' := [.int 57]) rfl ?_
  clear e351 a351 hfs352 w348 z348
  refine x_iload_n 0 dL_texts_477 rfl rfl ?_
  refine x_iconst 1 (by decide) dL_texts_478 ?_
  refine x_iadd dL_texts_479 ?_
  refine x_toX (st' := [.int 57, .int 57]) rfl ?_
  refine x_icmp_ne_n 493 dL_texts_480 (by decide) (by decide) ?_
  refine x_aload_n 1 dL_texts_483 rfl rfl ?_
  obtain ⟨f353, e353, a353, w353⟩ := k_ferr_of hN w351 tf_825
  have z353 := z351.st a353
  obtain ⟨fs354, hfs354⟩ := w351.ob
  refine x_callv (As := []) (rest := []) 71 3848 dL_texts_484 mi_X5_firstError ml_L_65 rfl rfl (Nat.le_of_ble_eq_true rfl) ⟨by decide, by decide⟩ (by omega) (by omega) hfs354 rfl (c_X5_firstError N _ _ _ _ e353) (x_K.some ?_) x_KX.none
  refine x_toX (st' := [.int 57]) rfl ?_
  clear e353 a353 hfs354 w351 z351
  refine x_iload_n 0 dL_texts_487 rfl rfl ?_
  refine x_iconst 1 (by decide) dL_texts_488 ?_
  refine x_iadd dL_texts_489 ?_
  refine x_toX (st' := [.int 57, .int 57]) rfl ?_
  refine x_icmp_eq_y 495 dL_texts_490 (by decide) (by decide) ?_
  refine x_iinc 57 (lv' := [(1, .int 57), (0, .ref h.2)]) dL_texts_495 0 rfl (by decide) (by decide) rfl ?_
  refine x_goto 454 dL_texts_498 (by decide) ?_
  refine x_iload_n 0 dL_texts_454 rfl rfl ?_
  refine x_bipush 60 (by decide) dL_texts_455 ?_
  refine x_icmp_ge_n 501 dL_texts_457 (by decide) (by decide) ?_
  refine x_aload_n 1 dL_texts_460 rfl rfl ?_
  refine x_iload_n 0 dL_texts_461 rfl rfl ?_
  refine x_iconst 2 (by decide) dL_texts_462 ?_
  refine x_irem (f := fun v => if v = 1 then some () else none) (w := ()) dL_texts_463 (by decide) (fun v355 hv355 => ?_)
  obtain rfl : v355 = 1 := by by_cases z : v355 = 1; exact z; rw [if_neg z] at hv355; cases hv355
  refine x_if_ne_y 472 dL_texts_464 (by decide) (by decide) ?_
  refine x_bipush 59 (by decide) dL_texts_472 ?_
  obtain ⟨f356, e356, a356, w356⟩ := k_app (N := N) w353 59
  rw [tf_826] at e356 w356
  replace w356 : k_wd h.2 (h.2 + 70) 61 (k_of k_e0s) [] (fun _ => none) [99, 59, 99, 59, 99, 59, 99, 59, 99, 59, 99, 59, 99, 59, 99, 59, 99, 59, 99, 59, 99, 59, 99, 59, 99, 59, 99, 59, 99, 59, 99, 59, 99, 59, 99, 59, 99, 59, 99, 59, 99, 59, 99, 59, 99, 59, 99, 59, 99, 59, 99, 59, 99, 59, 99, 59, 99, 59] f356 := w356
  have z356 := z353.st a356
  obtain ⟨fs357, hfs357⟩ := w353.ob
  refine x_callv (As := [.int 59]) (rest := []) 70 3842 dL_texts_474 mi_X5_append ml_L_59 rfl rfl (Nat.le_of_ble_eq_true rfl) ⟨by decide, by decide⟩ (by omega) (by omega) hfs357 rfl (c_X5_append N _ _ _ _ _ e356) (x_K.some ?_) x_KX.none
  refine x_toX (st' := [.int 58]) rfl ?_
  clear e356 a356 hfs357 w353 z353
  refine x_iload_n 0 dL_texts_477 rfl rfl ?_
  refine x_iconst 1 (by decide) dL_texts_478 ?_
  refine x_iadd dL_texts_479 ?_
  refine x_toX (st' := [.int 58, .int 58]) rfl ?_
  refine x_icmp_ne_n 493 dL_texts_480 (by decide) (by decide) ?_
  refine x_aload_n 1 dL_texts_483 rfl rfl ?_
  obtain ⟨f358, e358, a358, w358⟩ := k_ferr_of hN w356 tf_827
  have z358 := z356.st a358
  obtain ⟨fs359, hfs359⟩ := w356.ob
  refine x_callv (As := []) (rest := []) 70 3842 dL_texts_484 mi_X5_firstError ml_L_65 rfl rfl (Nat.le_of_ble_eq_true rfl) ⟨by decide, by decide⟩ (by omega) (by omega) hfs359 rfl (c_X5_firstError N _ _ _ _ e358) (x_K.some ?_) x_KX.none
  refine x_toX (st' := [.int 58]) rfl ?_
  clear e358 a358 hfs359 w356 z356
  refine x_iload_n 0 dL_texts_487 rfl rfl ?_
  refine x_iconst 1 (by decide) dL_texts_488 ?_
  refine x_iadd dL_texts_489 ?_
  refine x_toX (st' := [.int 58, .int 58]) rfl ?_
  refine x_icmp_eq_y 495 dL_texts_490 (by decide) (by decide) ?_
  refine x_iinc 58 (lv' := [(1, .int 58), (0, .ref h.2)]) dL_texts_495 0 rfl (by decide) (by decide) rfl ?_
  refine x_goto 454 dL_texts_498 (by decide) ?_
  refine x_iload_n 0 dL_texts_454 rfl rfl ?_
  refine x_bipush 60 (by decide) dL_texts_455 ?_
  refine x_icmp_ge_n 501 dL_texts_457 (by decide) (by decide) ?_
  refine x_aload_n 1 dL_texts_460 rfl rfl ?_
  refine x_iload_n 0 dL_texts_461 rfl rfl ?_
  refine x_iconst 2 (by decide) dL_texts_462 ?_
  refine x_irem (f := fun v => if v = 0 then some () else none) (w := ()) dL_texts_463 (by decide) (fun v360 hv360 => ?_)
  obtain rfl : v360 = 0 := by by_cases z : v360 = 0; exact z; rw [if_neg z] at hv360; cases hv360
  refine x_if_ne_n 472 dL_texts_464 (by decide) (by decide) ?_
  refine x_bipush 99 (by decide) dL_texts_467 ?_
  refine x_goto 474 dL_texts_469 (by decide) ?_
  obtain ⟨f361, e361, a361, w361⟩ := k_app (N := N) w358 99
  rw [tf_828] at e361 w361
  replace w361 : k_wd h.2 (h.2 + 70) 61 (k_of k_e0s) [] (fun _ => none) [99, 59, 99, 59, 99, 59, 99, 59, 99, 59, 99, 59, 99, 59, 99, 59, 99, 59, 99, 59, 99, 59, 99, 59, 99, 59, 99, 59, 99, 59, 99, 59, 99, 59, 99, 59, 99, 59, 99, 59, 99, 59, 99, 59, 99, 59, 99, 59, 99, 59, 99, 59, 99, 59, 99, 59, 99, 59, 99] f361 := w361
  have z361 := z358.st a361
  obtain ⟨fs362, hfs362⟩ := w358.ob
  refine x_callv (As := [.int 99]) (rest := []) 69 3836 dL_texts_474 mi_X5_append ml_L_59 rfl rfl (Nat.le_of_ble_eq_true rfl) ⟨by decide, by decide⟩ (by omega) (by omega) hfs362 rfl (c_X5_append N _ _ _ _ _ e361) (x_K.some ?_) x_KX.none
  refine x_toX (st' := [.int 59]) rfl ?_
  clear e361 a361 hfs362 w358 z358
  refine x_iload_n 0 dL_texts_477 rfl rfl ?_
  refine x_iconst 1 (by decide) dL_texts_478 ?_
  refine x_iadd dL_texts_479 ?_
  refine x_toX (st' := [.int 59, .int 59]) rfl ?_
  refine x_icmp_ne_n 493 dL_texts_480 (by decide) (by decide) ?_
  refine x_aload_n 1 dL_texts_483 rfl rfl ?_
  obtain ⟨f363, e363, a363, w363⟩ := k_ferr_of hN w361 tf_829
  have z363 := z361.st a363
  obtain ⟨fs364, hfs364⟩ := w361.ob
  refine x_callv (As := []) (rest := []) 69 3836 dL_texts_484 mi_X5_firstError ml_L_65 rfl rfl (Nat.le_of_ble_eq_true rfl) ⟨by decide, by decide⟩ (by omega) (by omega) hfs364 rfl (c_X5_firstError N _ _ _ _ e363) (x_K.some ?_) x_KX.none
  refine x_toX (st' := [.int 59]) rfl ?_
  clear e363 a363 hfs364 w361 z361
  refine x_iload_n 0 dL_texts_487 rfl rfl ?_
  refine x_iconst 1 (by decide) dL_texts_488 ?_
  refine x_iadd dL_texts_489 ?_
  refine x_toX (st' := [.int 59, .int 59]) rfl ?_
  refine x_icmp_eq_y 495 dL_texts_490 (by decide) (by decide) ?_
  refine x_iinc 59 (lv' := [(1, .int 59), (0, .ref h.2)]) dL_texts_495 0 rfl (by decide) (by decide) rfl ?_
  refine x_goto 454 dL_texts_498 (by decide) ?_
  refine x_iload_n 0 dL_texts_454 rfl rfl ?_
  refine x_bipush 60 (by decide) dL_texts_455 ?_
  refine x_icmp_ge_n 501 dL_texts_457 (by decide) (by decide) ?_
  refine x_aload_n 1 dL_texts_460 rfl rfl ?_
  refine x_iload_n 0 dL_texts_461 rfl rfl ?_
  refine x_iconst 2 (by decide) dL_texts_462 ?_
  refine x_irem (f := fun v => if v = 1 then some () else none) (w := ()) dL_texts_463 (by decide) (fun v365 hv365 => ?_)
  obtain rfl : v365 = 1 := by by_cases z : v365 = 1; exact z; rw [if_neg z] at hv365; cases hv365
  refine x_if_ne_y 472 dL_texts_464 (by decide) (by decide) ?_
  refine x_bipush 59 (by decide) dL_texts_472 ?_
  obtain ⟨f366, e366, a366, w366⟩ := k_app (N := N) w363 59
  rw [tf_830] at e366 w366
  replace w366 : k_wd h.2 (h.2 + 70) 61 (k_of k_e0s) [] (fun _ => none) [99, 59, 99, 59, 99, 59, 99, 59, 99, 59, 99, 59, 99, 59, 99, 59, 99, 59, 99, 59, 99, 59, 99, 59, 99, 59, 99, 59, 99, 59, 99, 59, 99, 59, 99, 59, 99, 59, 99, 59, 99, 59, 99, 59, 99, 59, 99, 59, 99, 59, 99, 59, 99, 59, 99, 59, 99, 59, 99, 59] f366 := w366
  have z366 := z363.st a366
  obtain ⟨fs367, hfs367⟩ := w363.ob
  refine x_callv (As := [.int 59]) (rest := []) 68 3830 dL_texts_474 mi_X5_append ml_L_59 rfl rfl (Nat.le_of_ble_eq_true rfl) ⟨by decide, by decide⟩ (by omega) (by omega) hfs367 rfl (c_X5_append N _ _ _ _ _ e366) (x_K.some ?_) x_KX.none
  refine x_toX (st' := [.int 60]) rfl ?_
  clear e366 a366 hfs367 w363 z363
  refine x_iload_n 0 dL_texts_477 rfl rfl ?_
  refine x_iconst 1 (by decide) dL_texts_478 ?_
  refine x_iadd dL_texts_479 ?_
  refine x_toX (st' := [.int 60, .int 60]) rfl ?_
  refine x_icmp_ne_n 493 dL_texts_480 (by decide) (by decide) ?_
  refine x_aload_n 1 dL_texts_483 rfl rfl ?_
  obtain ⟨f368, e368, a368, w368⟩ := k_ferr_of hN w366 tf_831
  have z368 := z366.st a368
  obtain ⟨fs369, hfs369⟩ := w366.ob
  refine x_callv (As := []) (rest := []) 68 3830 dL_texts_484 mi_X5_firstError ml_L_65 rfl rfl (Nat.le_of_ble_eq_true rfl) ⟨by decide, by decide⟩ (by omega) (by omega) hfs369 rfl (c_X5_firstError N _ _ _ _ e368) (x_K.some ?_) x_KX.none
  refine x_toX (st' := [.int 60]) rfl ?_
  clear e368 a368 hfs369 w366 z366
  refine x_iload_n 0 dL_texts_487 rfl rfl ?_
  refine x_iconst 1 (by decide) dL_texts_488 ?_
  refine x_iadd dL_texts_489 ?_
  refine x_toX (st' := [.int 60, .int 60]) rfl ?_
  refine x_icmp_eq_y 495 dL_texts_490 (by decide) (by decide) ?_
  refine x_iinc 60 (lv' := [(1, .int 60), (0, .ref h.2)]) dL_texts_495 0 rfl (by decide) (by decide) rfl ?_
  refine x_goto 454 dL_texts_498 (by decide) ?_
  refine x_iload_n 0 dL_texts_454 rfl rfl ?_
  refine x_bipush 60 (by decide) dL_texts_455 ?_
  refine x_icmp_ge_y 501 dL_texts_457 (by decide) (by decide) ?_
  refine x_aload_n 1 dL_texts_501 rfl rfl ?_
  refine x_bipush 9 (by decide) dL_texts_502 ?_
  refine x_bipush 99 (by decide) dL_texts_504 ?_
  refine x_iconst 0 (by decide) dL_texts_506 ?_
  refine x_dom (fun hd371 => ?_)
  obtain ⟨f371, e371, a371, w371⟩ := k_rf9 (N := N) (hs := n63) w368 (a := 99) (b := 0) tf_832
  have z371 := z368.st a371
  refine x_callsH (As := [.ref h.2, .int 9, .int 99, .int 0]) (rest := []) 34 1915 dL_texts_507 mi_L_call rfl ml_L_182 rfl rfl (Nat.le_of_ble_eq_true rfl) ⟨by decide, by decide⟩ (by omega) (by omega) (c_L_call N _ _ _ _ _ _ e371) (fun n371 => ?_)
  refine x_toX (st' := [.int (-2013)]) rfl ?_
  clear hd371 e371 a371 w368 z368
  refine x_sipush (-2013) (by decide) dL_texts_510 ?_
  refine x_icmp_ne_n 543 dL_texts_513 (by decide) (by decide) ?_
  refine x_aload_n 1 dL_texts_516 rfl rfl ?_
  refine x_bipush 10 (by decide) dL_texts_517 ?_
  refine x_iconst 0 (by decide) dL_texts_519 ?_
  refine x_iconst 0 (by decide) dL_texts_520 ?_
  refine x_dom (fun hd373 => ?_)
  obtain ⟨f373, e373, a373, w373⟩ := k_rf10 (hs := n371) hN w371 (fun y => absurd y.2 tf_833) 0 0
  have z373 := z371.st a373
  refine x_callsH (As := [.ref h.2, .int 10, .int 0, .int 0]) (rest := []) 0 0 dL_texts_521 mi_L_call rfl ml_L_182 rfl rfl (Nat.le_of_ble_eq_true rfl) ⟨by decide, by decide⟩ (by omega) (by omega) (c_L_call N _ _ _ _ _ _ e373) (fun n373 => ?_)
  refine x_toX (st' := [.int (-2012)]) rfl ?_
  clear hd373 e373 a373 w371 z371
  refine x_sipush (-2012) (by decide) dL_texts_524 ?_
  refine x_icmp_ne_n 543 dL_texts_527 (by decide) (by decide) ?_
  refine x_aload_n 1 dL_texts_530 rfl rfl ?_
  obtain ⟨f374, e374, a374, w374⟩ := k_clrb (N := N) w373
  rw [tf_834] at e374
  have z374 := z373.st a374
  obtain ⟨fs375, hfs375⟩ := w373.ob
  refine x_callv (As := []) (rest := []) 0 0 dL_texts_531 mi_X5_clearBuffer ml_L_239 rfl rfl (Nat.le_of_ble_eq_true rfl) ⟨by decide, by decide⟩ (by omega) (by omega) hfs375 rfl (c_X5_clearBuffer N _ _ _ _ e374) (x_K.some ?_) x_KX.none
  refine x_toX (st' := [.int 60]) rfl ?_
  clear e374 a374 hfs375 w373 z373
  refine x_bipush 60 (by decide) dL_texts_534 ?_
  refine x_icmp_ne_n 543 dL_texts_536 (by decide) (by decide) ?_
  refine x_iconst 1 (by decide) dL_texts_539 ?_
  refine x_goto 544 dL_texts_540 (by decide) ?_
  exact x_zretq dL_texts_544 rfl (Or.inr rfl) rfl
