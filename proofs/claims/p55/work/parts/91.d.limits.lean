/-! limits, by hand. Laid by wip/p55/gen_hand.py. -/
set_option maxRecDepth 20000 in
set_option maxHeartbeats 4000000 in
theorem c_limits {N : Nat} (hN : 50000 ≤ N) (h : XH) : x_Cq mL_limits 12 294 12876 727870 [] h (fun v _ => v = some (.int 1)) := by
  refine x_cq (by decide) rfl (Nat.le_of_ble_eq_true rfl) ?_
  show X mL_limits 12 294 _ _ 12876 727870 0 [] [] (h.1, h.2)
  refine x_new_r (f := fun z => some z) 12875 727861 dL_limits_0 cl_L_28 (by omega) (by omega) rfl (fun u1 hu1 => ?_)
  cases hu1
  refine x_dupr dL_limits_3 ?_
  obtain ⟨f2, e2, w2, a2⟩ := k_new (N := N) (f := h.1) (x := h.2) (wz := h.2 + 70)
  have z2 : k_Zf h.2 (h.2 + 70) f2 f2 := k_Zf.rf (Or.inl (Nat.le_refl _))
  refine x_calli (As := []) (rest := [.ref h.2]) 12800 721847 dL_limits_4 mi_X5_init ml_L_200 rfl rfl (Nat.le_of_ble_eq_true rfl) ⟨by decide, by decide⟩ (by omega) (by omega) (c_X5_init N _ _ _ e2) ?_
  refine x_toX (st' := [.ref h.2]) rfl ?_
  obtain ⟨P2, w2⟩ : ∃ P, k_wd h.2 (h.2 + 70) 0 (k_of k_e0s) P (fun _ => none) [] f2 := ⟨_, w2⟩
  clear e2 a2
  refine x_astore_n (i := 0) (lv' := [(0, .ref h.2)]) dL_limits_7 rfl (by decide) rfl ?_
  refine x_iconst 0 (by decide) dL_limits_8 ?_
  refine x_istore_n (i := 1) (lv' := [(1, .int 0), (0, .ref h.2)]) dL_limits_9 rfl (by decide) rfl ?_
  refine x_iload_n 0 dL_limits_10 rfl rfl ?_
  refine x_bipush 6 (by decide) dL_limits_11 ?_
  refine x_icmp_ge_n 125 dL_limits_13 (by decide) (by decide) ?_
  refine x_iconst 0 (by decide) dL_limits_16 ?_
  refine x_istore_n (i := 2) (lv' := [(2, .int 0), (1, .int 0), (0, .ref h.2)]) dL_limits_17 rfl (by decide) rfl ?_
  refine x_iload_n 0 dL_limits_18 rfl rfl ?_
  refine x_bipush 12 (by decide) dL_limits_19 ?_
  refine x_icmp_ge_n 49 dL_limits_21 (by decide) (by decide) ?_
  refine x_aload_n 2 dL_limits_24 rfl rfl ?_
  refine x_bipush 12 (by decide) dL_limits_25 ?_
  refine x_iload_n 1 dL_limits_27 rfl rfl ?_
  refine x_imul dL_limits_28 ?_
  refine x_toX (st' := [.int 0, .ref h.2]) rfl ?_
  refine x_iload_n 0 dL_limits_29 rfl rfl ?_
  refine x_iadd dL_limits_30 ?_
  refine x_toX (st' := [.int 0, .ref h.2]) rfl ?_
  refine x_iload_n 1 dL_limits_31 rfl rfl ?_
  refine x_dom (fun hd3 => ?_)
  obtain ⟨f3, m3, e3, a3, w3⟩ := k_dd0 hN (by omega) w2 hd3 (z2.le w2 hd3) (a := 0) (b := 0) (v := 1) (S' := (k_of L_21)) tf_97 (k_eqb_sp tf_98)
  have z3 := z2.st a3
  obtain ⟨P3, w3⟩ : ∃ P, k_wd h.2 (h.2 + 70) 1 (k_of L_21) P (fun _ => none) [] f3 := ⟨_, w3⟩
  obtain ⟨fs4, hfs4⟩ := w2.ob
  refine x_callv (As := [.int 0, .int 0]) (rest := []) 12766 719932 dL_limits_32 mi_X5_put ml_L_27 rfl rfl (Nat.le_of_ble_eq_true rfl) ⟨by decide, by decide⟩ (by omega) (by omega) hfs4 rfl (c_X5_put N _ _ _ _ _ e3) (x_K.some ?_) x_KX.none
  refine x_toX (st' := [.int 1]) rfl ?_
  clear hd3 e3 a3 hfs4 w2 z2
  refine x_iload_n 0 dL_limits_35 rfl rfl ?_
  refine x_iconst 1 (by decide) dL_limits_36 ?_
  refine x_iadd dL_limits_37 ?_
  refine x_toX (st' := [.int 1, .int 1]) rfl ?_
  refine x_icmp_eq_y 43 dL_limits_38 (by decide) (by decide) ?_
  refine x_iinc 1 (lv' := [(2, .int 1), (1, .int 0), (0, .ref h.2)]) dL_limits_43 0 rfl (by decide) (by decide) rfl ?_
  refine x_goto 18 dL_limits_46 (by decide) ?_
  refine x_iload_n 0 dL_limits_18 rfl rfl ?_
  refine x_bipush 12 (by decide) dL_limits_19 ?_
  refine x_icmp_ge_n 49 dL_limits_21 (by decide) (by decide) ?_
  refine x_aload_n 2 dL_limits_24 rfl rfl ?_
  refine x_bipush 12 (by decide) dL_limits_25 ?_
  refine x_iload_n 1 dL_limits_27 rfl rfl ?_
  refine x_imul dL_limits_28 ?_
  refine x_toX (st' := [.int 0, .ref h.2]) rfl ?_
  refine x_iload_n 0 dL_limits_29 rfl rfl ?_
  refine x_iadd dL_limits_30 ?_
  refine x_toX (st' := [.int 1, .ref h.2]) rfl ?_
  refine x_iload_n 1 dL_limits_31 rfl rfl ?_
  refine x_dom (fun hd5 => ?_)
  obtain ⟨f5, m5, e5, a5, w5⟩ := k_dd0 hN (by omega) w3 hd5 (z3.le w3 hd5) (a := 1) (b := 0) (v := 2) (S' := (k_of L_22)) tf_99 (k_eqb_sp tf_100)
  have z5 := z3.st a5
  obtain ⟨P5, w5⟩ : ∃ P, k_wd h.2 (h.2 + 70) 2 (k_of L_22) P (fun _ => none) [] f5 := ⟨_, w5⟩
  obtain ⟨fs6, hfs6⟩ := w3.ob
  refine x_callv (As := [.int 1, .int 0]) (rest := []) 12732 718017 dL_limits_32 mi_X5_put ml_L_27 rfl rfl (Nat.le_of_ble_eq_true rfl) ⟨by decide, by decide⟩ (by omega) (by omega) hfs6 rfl (c_X5_put N _ _ _ _ _ e5) (x_K.some ?_) x_KX.none
  refine x_toX (st' := [.int 2]) rfl ?_
  clear hd5 e5 a5 hfs6 w3 z3
  refine x_iload_n 0 dL_limits_35 rfl rfl ?_
  refine x_iconst 1 (by decide) dL_limits_36 ?_
  refine x_iadd dL_limits_37 ?_
  refine x_toX (st' := [.int 2, .int 2]) rfl ?_
  refine x_icmp_eq_y 43 dL_limits_38 (by decide) (by decide) ?_
  refine x_iinc 2 (lv' := [(2, .int 2), (1, .int 0), (0, .ref h.2)]) dL_limits_43 0 rfl (by decide) (by decide) rfl ?_
  refine x_goto 18 dL_limits_46 (by decide) ?_
  refine x_iload_n 0 dL_limits_18 rfl rfl ?_
  refine x_bipush 12 (by decide) dL_limits_19 ?_
  refine x_icmp_ge_n 49 dL_limits_21 (by decide) (by decide) ?_
  refine x_aload_n 2 dL_limits_24 rfl rfl ?_
  refine x_bipush 12 (by decide) dL_limits_25 ?_
  refine x_iload_n 1 dL_limits_27 rfl rfl ?_
  refine x_imul dL_limits_28 ?_
  refine x_toX (st' := [.int 0, .ref h.2]) rfl ?_
  refine x_iload_n 0 dL_limits_29 rfl rfl ?_
  refine x_iadd dL_limits_30 ?_
  refine x_toX (st' := [.int 2, .ref h.2]) rfl ?_
  refine x_iload_n 1 dL_limits_31 rfl rfl ?_
  refine x_dom (fun hd7 => ?_)
  obtain ⟨f7, m7, e7, a7, w7⟩ := k_dd0 hN (by omega) w5 hd7 (z5.le w5 hd7) (a := 2) (b := 0) (v := 3) (S' := (k_of L_23)) tf_101 (k_eqb_sp tf_102)
  have z7 := z5.st a7
  obtain ⟨P7, w7⟩ : ∃ P, k_wd h.2 (h.2 + 70) 3 (k_of L_23) P (fun _ => none) [] f7 := ⟨_, w7⟩
  obtain ⟨fs8, hfs8⟩ := w5.ob
  refine x_callv (As := [.int 2, .int 0]) (rest := []) 12698 716102 dL_limits_32 mi_X5_put ml_L_27 rfl rfl (Nat.le_of_ble_eq_true rfl) ⟨by decide, by decide⟩ (by omega) (by omega) hfs8 rfl (c_X5_put N _ _ _ _ _ e7) (x_K.some ?_) x_KX.none
  refine x_toX (st' := [.int 3]) rfl ?_
  clear hd7 e7 a7 hfs8 w5 z5
  refine x_iload_n 0 dL_limits_35 rfl rfl ?_
  refine x_iconst 1 (by decide) dL_limits_36 ?_
  refine x_iadd dL_limits_37 ?_
  refine x_toX (st' := [.int 3, .int 3]) rfl ?_
  refine x_icmp_eq_y 43 dL_limits_38 (by decide) (by decide) ?_
  refine x_iinc 3 (lv' := [(2, .int 3), (1, .int 0), (0, .ref h.2)]) dL_limits_43 0 rfl (by decide) (by decide) rfl ?_
  refine x_goto 18 dL_limits_46 (by decide) ?_
  refine x_iload_n 0 dL_limits_18 rfl rfl ?_
  refine x_bipush 12 (by decide) dL_limits_19 ?_
  refine x_icmp_ge_n 49 dL_limits_21 (by decide) (by decide) ?_
  refine x_aload_n 2 dL_limits_24 rfl rfl ?_
  refine x_bipush 12 (by decide) dL_limits_25 ?_
  refine x_iload_n 1 dL_limits_27 rfl rfl ?_
  refine x_imul dL_limits_28 ?_
  refine x_toX (st' := [.int 0, .ref h.2]) rfl ?_
  refine x_iload_n 0 dL_limits_29 rfl rfl ?_
  refine x_iadd dL_limits_30 ?_
  refine x_toX (st' := [.int 3, .ref h.2]) rfl ?_
  refine x_iload_n 1 dL_limits_31 rfl rfl ?_
  refine x_dom (fun hd9 => ?_)
  obtain ⟨f9, m9, e9, a9, w9⟩ := k_dd0 hN (by omega) w7 hd9 (z7.le w7 hd9) (a := 3) (b := 0) (v := 4) (S' := (k_of L_24)) tf_103 (k_eqb_sp tf_104)
  have z9 := z7.st a9
  obtain ⟨P9, w9⟩ : ∃ P, k_wd h.2 (h.2 + 70) 4 (k_of L_24) P (fun _ => none) [] f9 := ⟨_, w9⟩
  obtain ⟨fs10, hfs10⟩ := w7.ob
  refine x_callv (As := [.int 3, .int 0]) (rest := []) 12664 714187 dL_limits_32 mi_X5_put ml_L_27 rfl rfl (Nat.le_of_ble_eq_true rfl) ⟨by decide, by decide⟩ (by omega) (by omega) hfs10 rfl (c_X5_put N _ _ _ _ _ e9) (x_K.some ?_) x_KX.none
  refine x_toX (st' := [.int 4]) rfl ?_
  clear hd9 e9 a9 hfs10 w7 z7
  refine x_iload_n 0 dL_limits_35 rfl rfl ?_
  refine x_iconst 1 (by decide) dL_limits_36 ?_
  refine x_iadd dL_limits_37 ?_
  refine x_toX (st' := [.int 4, .int 4]) rfl ?_
  refine x_icmp_eq_y 43 dL_limits_38 (by decide) (by decide) ?_
  refine x_iinc 4 (lv' := [(2, .int 4), (1, .int 0), (0, .ref h.2)]) dL_limits_43 0 rfl (by decide) (by decide) rfl ?_
  refine x_goto 18 dL_limits_46 (by decide) ?_
  refine x_iload_n 0 dL_limits_18 rfl rfl ?_
  refine x_bipush 12 (by decide) dL_limits_19 ?_
  refine x_icmp_ge_n 49 dL_limits_21 (by decide) (by decide) ?_
  refine x_aload_n 2 dL_limits_24 rfl rfl ?_
  refine x_bipush 12 (by decide) dL_limits_25 ?_
  refine x_iload_n 1 dL_limits_27 rfl rfl ?_
  refine x_imul dL_limits_28 ?_
  refine x_toX (st' := [.int 0, .ref h.2]) rfl ?_
  refine x_iload_n 0 dL_limits_29 rfl rfl ?_
  refine x_iadd dL_limits_30 ?_
  refine x_toX (st' := [.int 4, .ref h.2]) rfl ?_
  refine x_iload_n 1 dL_limits_31 rfl rfl ?_
  refine x_dom (fun hd11 => ?_)
  obtain ⟨f11, m11, e11, a11, w11⟩ := k_dd0 hN (by omega) w9 hd11 (z9.le w9 hd11) (a := 4) (b := 0) (v := 5) (S' := (k_of L_25)) tf_105 (k_eqb_sp tf_106)
  have z11 := z9.st a11
  obtain ⟨P11, w11⟩ : ∃ P, k_wd h.2 (h.2 + 70) 5 (k_of L_25) P (fun _ => none) [] f11 := ⟨_, w11⟩
  obtain ⟨fs12, hfs12⟩ := w9.ob
  refine x_callv (As := [.int 4, .int 0]) (rest := []) 12630 712272 dL_limits_32 mi_X5_put ml_L_27 rfl rfl (Nat.le_of_ble_eq_true rfl) ⟨by decide, by decide⟩ (by omega) (by omega) hfs12 rfl (c_X5_put N _ _ _ _ _ e11) (x_K.some ?_) x_KX.none
  refine x_toX (st' := [.int 5]) rfl ?_
  clear hd11 e11 a11 hfs12 w9 z9
  refine x_iload_n 0 dL_limits_35 rfl rfl ?_
  refine x_iconst 1 (by decide) dL_limits_36 ?_
  refine x_iadd dL_limits_37 ?_
  refine x_toX (st' := [.int 5, .int 5]) rfl ?_
  refine x_icmp_eq_y 43 dL_limits_38 (by decide) (by decide) ?_
  refine x_iinc 5 (lv' := [(2, .int 5), (1, .int 0), (0, .ref h.2)]) dL_limits_43 0 rfl (by decide) (by decide) rfl ?_
  refine x_goto 18 dL_limits_46 (by decide) ?_
  refine x_iload_n 0 dL_limits_18 rfl rfl ?_
  refine x_bipush 12 (by decide) dL_limits_19 ?_
  refine x_icmp_ge_n 49 dL_limits_21 (by decide) (by decide) ?_
  refine x_aload_n 2 dL_limits_24 rfl rfl ?_
  refine x_bipush 12 (by decide) dL_limits_25 ?_
  refine x_iload_n 1 dL_limits_27 rfl rfl ?_
  refine x_imul dL_limits_28 ?_
  refine x_toX (st' := [.int 0, .ref h.2]) rfl ?_
  refine x_iload_n 0 dL_limits_29 rfl rfl ?_
  refine x_iadd dL_limits_30 ?_
  refine x_toX (st' := [.int 5, .ref h.2]) rfl ?_
  refine x_iload_n 1 dL_limits_31 rfl rfl ?_
  refine x_dom (fun hd13 => ?_)
  obtain ⟨f13, m13, e13, a13, w13⟩ := k_dd0 hN (by omega) w11 hd13 (z11.le w11 hd13) (a := 5) (b := 0) (v := 6) (S' := (k_of L_26)) tf_107 (k_eqb_sp tf_108)
  have z13 := z11.st a13
  obtain ⟨P13, w13⟩ : ∃ P, k_wd h.2 (h.2 + 70) 6 (k_of L_26) P (fun _ => none) [] f13 := ⟨_, w13⟩
  obtain ⟨fs14, hfs14⟩ := w11.ob
  refine x_callv (As := [.int 5, .int 0]) (rest := []) 12596 710357 dL_limits_32 mi_X5_put ml_L_27 rfl rfl (Nat.le_of_ble_eq_true rfl) ⟨by decide, by decide⟩ (by omega) (by omega) hfs14 rfl (c_X5_put N _ _ _ _ _ e13) (x_K.some ?_) x_KX.none
  refine x_toX (st' := [.int 6]) rfl ?_
  clear hd13 e13 a13 hfs14 w11 z11
  refine x_iload_n 0 dL_limits_35 rfl rfl ?_
  refine x_iconst 1 (by decide) dL_limits_36 ?_
  refine x_iadd dL_limits_37 ?_
  refine x_toX (st' := [.int 6, .int 6]) rfl ?_
  refine x_icmp_eq_y 43 dL_limits_38 (by decide) (by decide) ?_
  refine x_iinc 6 (lv' := [(2, .int 6), (1, .int 0), (0, .ref h.2)]) dL_limits_43 0 rfl (by decide) (by decide) rfl ?_
  refine x_goto 18 dL_limits_46 (by decide) ?_
  refine x_iload_n 0 dL_limits_18 rfl rfl ?_
  refine x_bipush 12 (by decide) dL_limits_19 ?_
  refine x_icmp_ge_n 49 dL_limits_21 (by decide) (by decide) ?_
  refine x_aload_n 2 dL_limits_24 rfl rfl ?_
  refine x_bipush 12 (by decide) dL_limits_25 ?_
  refine x_iload_n 1 dL_limits_27 rfl rfl ?_
  refine x_imul dL_limits_28 ?_
  refine x_toX (st' := [.int 0, .ref h.2]) rfl ?_
  refine x_iload_n 0 dL_limits_29 rfl rfl ?_
  refine x_iadd dL_limits_30 ?_
  refine x_toX (st' := [.int 6, .ref h.2]) rfl ?_
  refine x_iload_n 1 dL_limits_31 rfl rfl ?_
  refine x_dom (fun hd15 => ?_)
  obtain ⟨f15, m15, e15, a15, w15⟩ := k_dd0 hN (by omega) w13 hd15 (z13.le w13 hd15) (a := 6) (b := 0) (v := 7) (S' := (k_of L_27)) tf_109 (k_eqb_sp tf_110)
  have z15 := z13.st a15
  obtain ⟨P15, w15⟩ : ∃ P, k_wd h.2 (h.2 + 70) 7 (k_of L_27) P (fun _ => none) [] f15 := ⟨_, w15⟩
  obtain ⟨fs16, hfs16⟩ := w13.ob
  refine x_callv (As := [.int 6, .int 0]) (rest := []) 12562 708442 dL_limits_32 mi_X5_put ml_L_27 rfl rfl (Nat.le_of_ble_eq_true rfl) ⟨by decide, by decide⟩ (by omega) (by omega) hfs16 rfl (c_X5_put N _ _ _ _ _ e15) (x_K.some ?_) x_KX.none
  refine x_toX (st' := [.int 7]) rfl ?_
  clear hd15 e15 a15 hfs16 w13 z13
  refine x_iload_n 0 dL_limits_35 rfl rfl ?_
  refine x_iconst 1 (by decide) dL_limits_36 ?_
  refine x_iadd dL_limits_37 ?_
  refine x_toX (st' := [.int 7, .int 7]) rfl ?_
  refine x_icmp_eq_y 43 dL_limits_38 (by decide) (by decide) ?_
  refine x_iinc 7 (lv' := [(2, .int 7), (1, .int 0), (0, .ref h.2)]) dL_limits_43 0 rfl (by decide) (by decide) rfl ?_
  refine x_goto 18 dL_limits_46 (by decide) ?_
  refine x_iload_n 0 dL_limits_18 rfl rfl ?_
  refine x_bipush 12 (by decide) dL_limits_19 ?_
  refine x_icmp_ge_n 49 dL_limits_21 (by decide) (by decide) ?_
  refine x_aload_n 2 dL_limits_24 rfl rfl ?_
  refine x_bipush 12 (by decide) dL_limits_25 ?_
  refine x_iload_n 1 dL_limits_27 rfl rfl ?_
  refine x_imul dL_limits_28 ?_
  refine x_toX (st' := [.int 0, .ref h.2]) rfl ?_
  refine x_iload_n 0 dL_limits_29 rfl rfl ?_
  refine x_iadd dL_limits_30 ?_
  refine x_toX (st' := [.int 7, .ref h.2]) rfl ?_
  refine x_iload_n 1 dL_limits_31 rfl rfl ?_
  refine x_dom (fun hd17 => ?_)
  obtain ⟨f17, m17, e17, a17, w17⟩ := k_dd0 hN (by omega) w15 hd17 (z15.le w15 hd17) (a := 7) (b := 0) (v := 8) (S' := (k_of L_28)) tf_111 (k_eqb_sp tf_112)
  have z17 := z15.st a17
  obtain ⟨P17, w17⟩ : ∃ P, k_wd h.2 (h.2 + 70) 8 (k_of L_28) P (fun _ => none) [] f17 := ⟨_, w17⟩
  obtain ⟨fs18, hfs18⟩ := w15.ob
  refine x_callv (As := [.int 7, .int 0]) (rest := []) 12528 706527 dL_limits_32 mi_X5_put ml_L_27 rfl rfl (Nat.le_of_ble_eq_true rfl) ⟨by decide, by decide⟩ (by omega) (by omega) hfs18 rfl (c_X5_put N _ _ _ _ _ e17) (x_K.some ?_) x_KX.none
  refine x_toX (st' := [.int 8]) rfl ?_
  clear hd17 e17 a17 hfs18 w15 z15
  refine x_iload_n 0 dL_limits_35 rfl rfl ?_
  refine x_iconst 1 (by decide) dL_limits_36 ?_
  refine x_iadd dL_limits_37 ?_
  refine x_toX (st' := [.int 8, .int 8]) rfl ?_
  refine x_icmp_eq_y 43 dL_limits_38 (by decide) (by decide) ?_
  refine x_iinc 8 (lv' := [(2, .int 8), (1, .int 0), (0, .ref h.2)]) dL_limits_43 0 rfl (by decide) (by decide) rfl ?_
  refine x_goto 18 dL_limits_46 (by decide) ?_
  refine x_iload_n 0 dL_limits_18 rfl rfl ?_
  refine x_bipush 12 (by decide) dL_limits_19 ?_
  refine x_icmp_ge_n 49 dL_limits_21 (by decide) (by decide) ?_
  refine x_aload_n 2 dL_limits_24 rfl rfl ?_
  refine x_bipush 12 (by decide) dL_limits_25 ?_
  refine x_iload_n 1 dL_limits_27 rfl rfl ?_
  refine x_imul dL_limits_28 ?_
  refine x_toX (st' := [.int 0, .ref h.2]) rfl ?_
  refine x_iload_n 0 dL_limits_29 rfl rfl ?_
  refine x_iadd dL_limits_30 ?_
  refine x_toX (st' := [.int 8, .ref h.2]) rfl ?_
  refine x_iload_n 1 dL_limits_31 rfl rfl ?_
  refine x_dom (fun hd19 => ?_)
  obtain ⟨f19, m19, e19, a19, w19⟩ := k_dd0 hN (by omega) w17 hd19 (z17.le w17 hd19) (a := 8) (b := 0) (v := 9) (S' := (k_of L_29)) tf_113 (k_eqb_sp tf_114)
  have z19 := z17.st a19
  obtain ⟨P19, w19⟩ : ∃ P, k_wd h.2 (h.2 + 70) 9 (k_of L_29) P (fun _ => none) [] f19 := ⟨_, w19⟩
  obtain ⟨fs20, hfs20⟩ := w17.ob
  refine x_callv (As := [.int 8, .int 0]) (rest := []) 12494 704612 dL_limits_32 mi_X5_put ml_L_27 rfl rfl (Nat.le_of_ble_eq_true rfl) ⟨by decide, by decide⟩ (by omega) (by omega) hfs20 rfl (c_X5_put N _ _ _ _ _ e19) (x_K.some ?_) x_KX.none
  refine x_toX (st' := [.int 9]) rfl ?_
  clear hd19 e19 a19 hfs20 w17 z17
  refine x_iload_n 0 dL_limits_35 rfl rfl ?_
  refine x_iconst 1 (by decide) dL_limits_36 ?_
  refine x_iadd dL_limits_37 ?_
  refine x_toX (st' := [.int 9, .int 9]) rfl ?_
  refine x_icmp_eq_y 43 dL_limits_38 (by decide) (by decide) ?_
  refine x_iinc 9 (lv' := [(2, .int 9), (1, .int 0), (0, .ref h.2)]) dL_limits_43 0 rfl (by decide) (by decide) rfl ?_
  refine x_goto 18 dL_limits_46 (by decide) ?_
  refine x_iload_n 0 dL_limits_18 rfl rfl ?_
  refine x_bipush 12 (by decide) dL_limits_19 ?_
  refine x_icmp_ge_n 49 dL_limits_21 (by decide) (by decide) ?_
  refine x_aload_n 2 dL_limits_24 rfl rfl ?_
  refine x_bipush 12 (by decide) dL_limits_25 ?_
  refine x_iload_n 1 dL_limits_27 rfl rfl ?_
  refine x_imul dL_limits_28 ?_
  refine x_toX (st' := [.int 0, .ref h.2]) rfl ?_
  refine x_iload_n 0 dL_limits_29 rfl rfl ?_
  refine x_iadd dL_limits_30 ?_
  refine x_toX (st' := [.int 9, .ref h.2]) rfl ?_
  refine x_iload_n 1 dL_limits_31 rfl rfl ?_
  refine x_dom (fun hd21 => ?_)
  obtain ⟨f21, m21, e21, a21, w21⟩ := k_dd0 hN (by omega) w19 hd21 (z19.le w19 hd21) (a := 9) (b := 0) (v := 10) (S' := (k_of L_30)) tf_115 (k_eqb_sp tf_116)
  have z21 := z19.st a21
  obtain ⟨P21, w21⟩ : ∃ P, k_wd h.2 (h.2 + 70) 10 (k_of L_30) P (fun _ => none) [] f21 := ⟨_, w21⟩
  obtain ⟨fs22, hfs22⟩ := w19.ob
  refine x_callv (As := [.int 9, .int 0]) (rest := []) 12460 702697 dL_limits_32 mi_X5_put ml_L_27 rfl rfl (Nat.le_of_ble_eq_true rfl) ⟨by decide, by decide⟩ (by omega) (by omega) hfs22 rfl (c_X5_put N _ _ _ _ _ e21) (x_K.some ?_) x_KX.none
  refine x_toX (st' := [.int 10]) rfl ?_
  clear hd21 e21 a21 hfs22 w19 z19
  refine x_iload_n 0 dL_limits_35 rfl rfl ?_
  refine x_iconst 1 (by decide) dL_limits_36 ?_
  refine x_iadd dL_limits_37 ?_
  refine x_toX (st' := [.int 10, .int 10]) rfl ?_
  refine x_icmp_eq_y 43 dL_limits_38 (by decide) (by decide) ?_
  refine x_iinc 10 (lv' := [(2, .int 10), (1, .int 0), (0, .ref h.2)]) dL_limits_43 0 rfl (by decide) (by decide) rfl ?_
  refine x_goto 18 dL_limits_46 (by decide) ?_
  refine x_iload_n 0 dL_limits_18 rfl rfl ?_
  refine x_bipush 12 (by decide) dL_limits_19 ?_
  refine x_icmp_ge_n 49 dL_limits_21 (by decide) (by decide) ?_
  refine x_aload_n 2 dL_limits_24 rfl rfl ?_
  refine x_bipush 12 (by decide) dL_limits_25 ?_
  refine x_iload_n 1 dL_limits_27 rfl rfl ?_
  refine x_imul dL_limits_28 ?_
  refine x_toX (st' := [.int 0, .ref h.2]) rfl ?_
  refine x_iload_n 0 dL_limits_29 rfl rfl ?_
  refine x_iadd dL_limits_30 ?_
  refine x_toX (st' := [.int 10, .ref h.2]) rfl ?_
  refine x_iload_n 1 dL_limits_31 rfl rfl ?_
  refine x_dom (fun hd23 => ?_)
  obtain ⟨f23, m23, e23, a23, w23⟩ := k_dd0 hN (by omega) w21 hd23 (z21.le w21 hd23) (a := 10) (b := 0) (v := 11) (S' := (k_of L_31)) tf_117 (k_eqb_sp tf_118)
  have z23 := z21.st a23
  obtain ⟨P23, w23⟩ : ∃ P, k_wd h.2 (h.2 + 70) 11 (k_of L_31) P (fun _ => none) [] f23 := ⟨_, w23⟩
  obtain ⟨fs24, hfs24⟩ := w21.ob
  refine x_callv (As := [.int 10, .int 0]) (rest := []) 12426 700782 dL_limits_32 mi_X5_put ml_L_27 rfl rfl (Nat.le_of_ble_eq_true rfl) ⟨by decide, by decide⟩ (by omega) (by omega) hfs24 rfl (c_X5_put N _ _ _ _ _ e23) (x_K.some ?_) x_KX.none
  refine x_toX (st' := [.int 11]) rfl ?_
  clear hd23 e23 a23 hfs24 w21 z21
  refine x_iload_n 0 dL_limits_35 rfl rfl ?_
  refine x_iconst 1 (by decide) dL_limits_36 ?_
  refine x_iadd dL_limits_37 ?_
  refine x_toX (st' := [.int 11, .int 11]) rfl ?_
  refine x_icmp_eq_y 43 dL_limits_38 (by decide) (by decide) ?_
  refine x_iinc 11 (lv' := [(2, .int 11), (1, .int 0), (0, .ref h.2)]) dL_limits_43 0 rfl (by decide) (by decide) rfl ?_
  refine x_goto 18 dL_limits_46 (by decide) ?_
  refine x_iload_n 0 dL_limits_18 rfl rfl ?_
  refine x_bipush 12 (by decide) dL_limits_19 ?_
  refine x_icmp_ge_n 49 dL_limits_21 (by decide) (by decide) ?_
  refine x_aload_n 2 dL_limits_24 rfl rfl ?_
  refine x_bipush 12 (by decide) dL_limits_25 ?_
  refine x_iload_n 1 dL_limits_27 rfl rfl ?_
  refine x_imul dL_limits_28 ?_
  refine x_toX (st' := [.int 0, .ref h.2]) rfl ?_
  refine x_iload_n 0 dL_limits_29 rfl rfl ?_
  refine x_iadd dL_limits_30 ?_
  refine x_toX (st' := [.int 11, .ref h.2]) rfl ?_
  refine x_iload_n 1 dL_limits_31 rfl rfl ?_
  refine x_dom (fun hd25 => ?_)
  obtain ⟨f25, m25, e25, a25, w25⟩ := k_dd0 hN (by omega) w23 hd25 (z23.le w23 hd25) (a := 11) (b := 0) (v := 12) (S' := (k_of L_32)) tf_119 (k_eqb_sp tf_120)
  have z25 := z23.st a25
  obtain ⟨P25, w25⟩ : ∃ P, k_wd h.2 (h.2 + 70) 12 (k_of L_32) P (fun _ => none) [] f25 := ⟨_, w25⟩
  obtain ⟨fs26, hfs26⟩ := w23.ob
  refine x_callv (As := [.int 11, .int 0]) (rest := []) 12392 698867 dL_limits_32 mi_X5_put ml_L_27 rfl rfl (Nat.le_of_ble_eq_true rfl) ⟨by decide, by decide⟩ (by omega) (by omega) hfs26 rfl (c_X5_put N _ _ _ _ _ e25) (x_K.some ?_) x_KX.none
  refine x_toX (st' := [.int 12]) rfl ?_
  clear hd25 e25 a25 hfs26 w23 z23
  refine x_iload_n 0 dL_limits_35 rfl rfl ?_
  refine x_iconst 1 (by decide) dL_limits_36 ?_
  refine x_iadd dL_limits_37 ?_
  refine x_toX (st' := [.int 12, .int 12]) rfl ?_
  refine x_icmp_eq_y 43 dL_limits_38 (by decide) (by decide) ?_
  refine x_iinc 12 (lv' := [(2, .int 12), (1, .int 0), (0, .ref h.2)]) dL_limits_43 0 rfl (by decide) (by decide) rfl ?_
  refine x_goto 18 dL_limits_46 (by decide) ?_
  refine x_iload_n 0 dL_limits_18 rfl rfl ?_
  refine x_bipush 12 (by decide) dL_limits_19 ?_
  refine x_icmp_ge_y 49 dL_limits_21 (by decide) (by decide) ?_
  refine x_aload_n 2 dL_limits_49 rfl rfl ?_
  refine x_iconst 0 (by decide) dL_limits_50 ?_
  refine x_sipush 999 (by decide) dL_limits_51 ?_
  refine x_iconst 1 (by decide) dL_limits_54 ?_
  refine x_dom (fun hd28 => ?_)
  obtain ⟨f28, e28, a28, w28⟩ := k_rf0_1 hN (by omega) w25 hd28 (z25.le w25 hd28) (a := 999) (b := 1) tf_121
  have z28 := z25.st a28
  refine x_callsH (As := [.ref h.2, .int 0, .int 999, .int 1]) (rest := []) 12358 696952 dL_limits_55 mi_L_call rfl ml_L_182 rfl rfl (Nat.le_of_ble_eq_true rfl) ⟨by decide, by decide⟩ (by omega) (by omega) (c_L_call N _ _ _ _ _ _ e28) (fun n28 => ?_)
  refine x_toX (st' := [.int (-2013)]) rfl ?_
  clear hd28 e28 a28 w25 z25
  refine x_sipush (-2013) (by decide) dL_limits_58 ?_
  refine x_icmp_ne_n 117 dL_limits_61 (by decide) (by decide) ?_
  refine x_aload_n 2 dL_limits_64 rfl rfl ?_
  refine x_iconst 1 (by decide) dL_limits_65 ?_
  refine x_sipush 999 (by decide) dL_limits_66 ?_
  refine x_iconst 1 (by decide) dL_limits_69 ?_
  refine x_dom (fun hd30 => ?_)
  obtain ⟨f30, e30, a30, w30⟩ := k_rf1_1 hN (by omega) w28 hd30 (z28.le w28 hd30) (a := 999) (b := 1) tf_122
  have z30 := z28.st a30
  refine x_callsH (As := [.ref h.2, .int 1, .int 999, .int 1]) (rest := []) 12324 695037 dL_limits_70 mi_L_call rfl ml_L_182 rfl rfl (Nat.le_of_ble_eq_true rfl) ⟨by decide, by decide⟩ (by omega) (by omega) (c_L_call N _ _ _ _ _ _ e30) (fun n30 => ?_)
  refine x_toX (st' := [.int (-2013)]) rfl ?_
  clear hd30 e30 a30 w28 z28
  refine x_sipush (-2013) (by decide) dL_limits_73 ?_
  refine x_icmp_ne_n 117 dL_limits_76 (by decide) (by decide) ?_
  refine x_aload_n 2 dL_limits_79 rfl rfl ?_
  refine x_bipush 12 (by decide) dL_limits_80 ?_
  refine x_iload_n 1 dL_limits_82 rfl rfl ?_
  refine x_imul dL_limits_83 ?_
  refine x_toX (st' := [.int 0, .ref h.2]) rfl ?_
  refine x_dom (fun hd31 => ?_)
  obtain ⟨f31, m31, e31, a31, w31⟩ := k_dd1 hN (by omega) w30 hd31 (z30.le w30 hd31) (a := 0) (b := 0) (v := 12) (S' := (k_of L_33)) tf_123 (k_eqb_sp tf_124)
  have z31 := z30.st a31
  obtain ⟨P31, w31⟩ : ∃ P, k_wd h.2 (h.2 + 70) 13 (k_of L_33) P (fun _ => none) [] f31 := ⟨_, w31⟩
  obtain ⟨fs32, hfs32⟩ := w30.ob
  refine x_callv (As := [.int 0]) (rest := []) 12291 693128 dL_limits_84 mi_X5_drop ml_L_33 rfl rfl (Nat.le_of_ble_eq_true rfl) ⟨by decide, by decide⟩ (by omega) (by omega) hfs32 rfl (c_X5_drop N _ _ _ _ e31) (x_K.some ?_) x_KX.none
  refine x_toX (st' := [.int 12]) rfl ?_
  clear hd31 e31 a31 hfs32 w30 z30
  refine x_bipush 12 (by decide) dL_limits_87 ?_
  refine x_icmp_ne_n 117 dL_limits_89 (by decide) (by decide) ?_
  refine x_aload_n 2 dL_limits_92 rfl rfl ?_
  refine x_bipush 12 (by decide) dL_limits_93 ?_
  refine x_iload_n 1 dL_limits_95 rfl rfl ?_
  refine x_imul dL_limits_96 ?_
  refine x_toX (st' := [.int 0, .ref h.2]) rfl ?_
  refine x_bipush 9 (by decide) dL_limits_97 ?_
  refine x_dom (fun hd33 => ?_)
  obtain ⟨f33, m33, e33, a33, w33⟩ := k_dd0 hN (by omega) w31 hd33 (z31.le w31 hd33) (a := 0) (b := 9) (v := 12) (S' := (k_of L_34)) tf_125 (k_eqb_sp tf_126)
  have z33 := z31.st a33
  obtain ⟨P33, w33⟩ : ∃ P, k_wd h.2 (h.2 + 70) 14 (k_of L_34) P (fun _ => none) [] f33 := ⟨_, w33⟩
  obtain ⟨fs34, hfs34⟩ := w31.ob
  refine x_callv (As := [.int 0, .int 9]) (rest := []) 12257 691213 dL_limits_99 mi_X5_put ml_L_27 rfl rfl (Nat.le_of_ble_eq_true rfl) ⟨by decide, by decide⟩ (by omega) (by omega) hfs34 rfl (c_X5_put N _ _ _ _ _ e33) (x_K.some ?_) x_KX.none
  refine x_toX (st' := [.int 12]) rfl ?_
  clear hd33 e33 a33 hfs34 w31 z31
  refine x_bipush 12 (by decide) dL_limits_102 ?_
  refine x_icmp_ne_n 117 dL_limits_104 (by decide) (by decide) ?_
  refine x_aload_n 2 dL_limits_107 rfl rfl ?_
  refine x_dom (fun hd35 => ?_)
  obtain ⟨f35, m35, e35, a35, w35⟩ := k_dd2 hN (by omega) w33 hd35 (z33.le w33 hd35) (a := 0) (b := 0) (v := 1) (S' := (k_of L_35)) tf_127 (k_eqb_sp tf_128)
  have z35 := z33.st a35
  obtain ⟨P35, w35⟩ : ∃ P, k_wd h.2 (h.2 + 70) 15 (k_of L_35) P (fun _ => none) [] f35 := ⟨_, w35⟩
  obtain ⟨fs36, hfs36⟩ := w33.ob
  refine x_callv (As := []) (rest := []) 12225 689310 dL_limits_108 mi_X5_closeRun ml_L_37 rfl rfl (Nat.le_of_ble_eq_true rfl) ⟨by decide, by decide⟩ (by omega) (by omega) hfs36 rfl (c_X5_closeRun N _ _ _ e35) (x_K.some ?_) x_KX.none
  refine x_toX (st' := [.int 1]) rfl ?_
  clear hd35 e35 a35 hfs36 w33 z33
  refine x_iload_n 1 dL_limits_111 rfl rfl ?_
  refine x_iconst 1 (by decide) dL_limits_112 ?_
  refine x_iadd dL_limits_113 ?_
  refine x_toX (st' := [.int 1, .int 1]) rfl ?_
  refine x_icmp_eq_y 119 dL_limits_114 (by decide) (by decide) ?_
  refine x_iinc 1 (lv' := [(1, .int 1), (2, .int 12), (0, .ref h.2)]) dL_limits_119 1 rfl (by decide) (by decide) rfl ?_
  refine x_goto 10 dL_limits_122 (by decide) ?_
  refine x_iload_n 0 dL_limits_10 rfl rfl ?_
  refine x_bipush 6 (by decide) dL_limits_11 ?_
  refine x_icmp_ge_n 125 dL_limits_13 (by decide) (by decide) ?_
  refine x_iconst 0 (by decide) dL_limits_16 ?_
  refine x_istore_n (i := 2) (lv' := [(2, .int 0), (1, .int 1), (0, .ref h.2)]) dL_limits_17 rfl (by decide) rfl ?_
  refine x_iload_n 0 dL_limits_18 rfl rfl ?_
  refine x_bipush 12 (by decide) dL_limits_19 ?_
  refine x_icmp_ge_n 49 dL_limits_21 (by decide) (by decide) ?_
  refine x_aload_n 2 dL_limits_24 rfl rfl ?_
  refine x_bipush 12 (by decide) dL_limits_25 ?_
  refine x_iload_n 1 dL_limits_27 rfl rfl ?_
  refine x_imul dL_limits_28 ?_
  refine x_toX (st' := [.int 12, .ref h.2]) rfl ?_
  refine x_iload_n 0 dL_limits_29 rfl rfl ?_
  refine x_iadd dL_limits_30 ?_
  refine x_toX (st' := [.int 12, .ref h.2]) rfl ?_
  refine x_iload_n 1 dL_limits_31 rfl rfl ?_
  refine x_dom (fun hd37 => ?_)
  obtain ⟨f37, m37, e37, a37, w37⟩ := k_dd0 hN (by omega) w35 hd37 (z35.le w35 hd37) (a := 12) (b := 1) (v := 1) (S' := (k_of L_36)) tf_129 (k_eqb_sp tf_130)
  have z37 := z35.st a37
  obtain ⟨P37, w37⟩ : ∃ P, k_wd h.2 (h.2 + 70) 16 (k_of L_36) P (fun _ => none) [] f37 := ⟨_, w37⟩
  obtain ⟨fs38, hfs38⟩ := w35.ob
  refine x_callv (As := [.int 12, .int 1]) (rest := []) 12191 687395 dL_limits_32 mi_X5_put ml_L_27 rfl rfl (Nat.le_of_ble_eq_true rfl) ⟨by decide, by decide⟩ (by omega) (by omega) hfs38 rfl (c_X5_put N _ _ _ _ _ e37) (x_K.some ?_) x_KX.none
  refine x_toX (st' := [.int 1]) rfl ?_
  clear hd37 e37 a37 hfs38 w35 z35
  refine x_iload_n 0 dL_limits_35 rfl rfl ?_
  refine x_iconst 1 (by decide) dL_limits_36 ?_
  refine x_iadd dL_limits_37 ?_
  refine x_toX (st' := [.int 1, .int 1]) rfl ?_
  refine x_icmp_eq_y 43 dL_limits_38 (by decide) (by decide) ?_
  refine x_iinc 1 (lv' := [(2, .int 1), (1, .int 1), (0, .ref h.2)]) dL_limits_43 0 rfl (by decide) (by decide) rfl ?_
  refine x_goto 18 dL_limits_46 (by decide) ?_
  refine x_iload_n 0 dL_limits_18 rfl rfl ?_
  refine x_bipush 12 (by decide) dL_limits_19 ?_
  refine x_icmp_ge_n 49 dL_limits_21 (by decide) (by decide) ?_
  refine x_aload_n 2 dL_limits_24 rfl rfl ?_
  refine x_bipush 12 (by decide) dL_limits_25 ?_
  refine x_iload_n 1 dL_limits_27 rfl rfl ?_
  refine x_imul dL_limits_28 ?_
  refine x_toX (st' := [.int 12, .ref h.2]) rfl ?_
  refine x_iload_n 0 dL_limits_29 rfl rfl ?_
  refine x_iadd dL_limits_30 ?_
  refine x_toX (st' := [.int 13, .ref h.2]) rfl ?_
  refine x_iload_n 1 dL_limits_31 rfl rfl ?_
  refine x_dom (fun hd39 => ?_)
  obtain ⟨f39, m39, e39, a39, w39⟩ := k_dd0 hN (by omega) w37 hd39 (z37.le w37 hd39) (a := 13) (b := 1) (v := 2) (S' := (k_of L_37)) tf_131 (k_eqb_sp tf_132)
  have z39 := z37.st a39
  obtain ⟨P39, w39⟩ : ∃ P, k_wd h.2 (h.2 + 70) 17 (k_of L_37) P (fun _ => none) [] f39 := ⟨_, w39⟩
  obtain ⟨fs40, hfs40⟩ := w37.ob
  refine x_callv (As := [.int 13, .int 1]) (rest := []) 12157 685480 dL_limits_32 mi_X5_put ml_L_27 rfl rfl (Nat.le_of_ble_eq_true rfl) ⟨by decide, by decide⟩ (by omega) (by omega) hfs40 rfl (c_X5_put N _ _ _ _ _ e39) (x_K.some ?_) x_KX.none
  refine x_toX (st' := [.int 2]) rfl ?_
  clear hd39 e39 a39 hfs40 w37 z37
  refine x_iload_n 0 dL_limits_35 rfl rfl ?_
  refine x_iconst 1 (by decide) dL_limits_36 ?_
  refine x_iadd dL_limits_37 ?_
  refine x_toX (st' := [.int 2, .int 2]) rfl ?_
  refine x_icmp_eq_y 43 dL_limits_38 (by decide) (by decide) ?_
  refine x_iinc 2 (lv' := [(2, .int 2), (1, .int 1), (0, .ref h.2)]) dL_limits_43 0 rfl (by decide) (by decide) rfl ?_
  refine x_goto 18 dL_limits_46 (by decide) ?_
  refine x_iload_n 0 dL_limits_18 rfl rfl ?_
  refine x_bipush 12 (by decide) dL_limits_19 ?_
  refine x_icmp_ge_n 49 dL_limits_21 (by decide) (by decide) ?_
  refine x_aload_n 2 dL_limits_24 rfl rfl ?_
  refine x_bipush 12 (by decide) dL_limits_25 ?_
  refine x_iload_n 1 dL_limits_27 rfl rfl ?_
  refine x_imul dL_limits_28 ?_
  refine x_toX (st' := [.int 12, .ref h.2]) rfl ?_
  refine x_iload_n 0 dL_limits_29 rfl rfl ?_
  refine x_iadd dL_limits_30 ?_
  refine x_toX (st' := [.int 14, .ref h.2]) rfl ?_
  refine x_iload_n 1 dL_limits_31 rfl rfl ?_
  refine x_dom (fun hd41 => ?_)
  obtain ⟨f41, m41, e41, a41, w41⟩ := k_dd0 hN (by omega) w39 hd41 (z39.le w39 hd41) (a := 14) (b := 1) (v := 3) (S' := (k_of L_38)) tf_133 (k_eqb_sp tf_134)
  have z41 := z39.st a41
  obtain ⟨P41, w41⟩ : ∃ P, k_wd h.2 (h.2 + 70) 18 (k_of L_38) P (fun _ => none) [] f41 := ⟨_, w41⟩
  obtain ⟨fs42, hfs42⟩ := w39.ob
  refine x_callv (As := [.int 14, .int 1]) (rest := []) 12123 683565 dL_limits_32 mi_X5_put ml_L_27 rfl rfl (Nat.le_of_ble_eq_true rfl) ⟨by decide, by decide⟩ (by omega) (by omega) hfs42 rfl (c_X5_put N _ _ _ _ _ e41) (x_K.some ?_) x_KX.none
  refine x_toX (st' := [.int 3]) rfl ?_
  clear hd41 e41 a41 hfs42 w39 z39
  refine x_iload_n 0 dL_limits_35 rfl rfl ?_
  refine x_iconst 1 (by decide) dL_limits_36 ?_
  refine x_iadd dL_limits_37 ?_
  refine x_toX (st' := [.int 3, .int 3]) rfl ?_
  refine x_icmp_eq_y 43 dL_limits_38 (by decide) (by decide) ?_
  refine x_iinc 3 (lv' := [(2, .int 3), (1, .int 1), (0, .ref h.2)]) dL_limits_43 0 rfl (by decide) (by decide) rfl ?_
  refine x_goto 18 dL_limits_46 (by decide) ?_
  refine x_iload_n 0 dL_limits_18 rfl rfl ?_
  refine x_bipush 12 (by decide) dL_limits_19 ?_
  refine x_icmp_ge_n 49 dL_limits_21 (by decide) (by decide) ?_
  refine x_aload_n 2 dL_limits_24 rfl rfl ?_
  refine x_bipush 12 (by decide) dL_limits_25 ?_
  refine x_iload_n 1 dL_limits_27 rfl rfl ?_
  refine x_imul dL_limits_28 ?_
  refine x_toX (st' := [.int 12, .ref h.2]) rfl ?_
  refine x_iload_n 0 dL_limits_29 rfl rfl ?_
  refine x_iadd dL_limits_30 ?_
  refine x_toX (st' := [.int 15, .ref h.2]) rfl ?_
  refine x_iload_n 1 dL_limits_31 rfl rfl ?_
  refine x_dom (fun hd43 => ?_)
  obtain ⟨f43, m43, e43, a43, w43⟩ := k_dd0 hN (by omega) w41 hd43 (z41.le w41 hd43) (a := 15) (b := 1) (v := 4) (S' := (k_of L_39)) tf_135 (k_eqb_sp tf_136)
  have z43 := z41.st a43
  obtain ⟨P43, w43⟩ : ∃ P, k_wd h.2 (h.2 + 70) 19 (k_of L_39) P (fun _ => none) [] f43 := ⟨_, w43⟩
  obtain ⟨fs44, hfs44⟩ := w41.ob
  refine x_callv (As := [.int 15, .int 1]) (rest := []) 12089 681650 dL_limits_32 mi_X5_put ml_L_27 rfl rfl (Nat.le_of_ble_eq_true rfl) ⟨by decide, by decide⟩ (by omega) (by omega) hfs44 rfl (c_X5_put N _ _ _ _ _ e43) (x_K.some ?_) x_KX.none
  refine x_toX (st' := [.int 4]) rfl ?_
  clear hd43 e43 a43 hfs44 w41 z41
  refine x_iload_n 0 dL_limits_35 rfl rfl ?_
  refine x_iconst 1 (by decide) dL_limits_36 ?_
  refine x_iadd dL_limits_37 ?_
  refine x_toX (st' := [.int 4, .int 4]) rfl ?_
  refine x_icmp_eq_y 43 dL_limits_38 (by decide) (by decide) ?_
  refine x_iinc 4 (lv' := [(2, .int 4), (1, .int 1), (0, .ref h.2)]) dL_limits_43 0 rfl (by decide) (by decide) rfl ?_
  refine x_goto 18 dL_limits_46 (by decide) ?_
  refine x_iload_n 0 dL_limits_18 rfl rfl ?_
  refine x_bipush 12 (by decide) dL_limits_19 ?_
  refine x_icmp_ge_n 49 dL_limits_21 (by decide) (by decide) ?_
  refine x_aload_n 2 dL_limits_24 rfl rfl ?_
  refine x_bipush 12 (by decide) dL_limits_25 ?_
  refine x_iload_n 1 dL_limits_27 rfl rfl ?_
  refine x_imul dL_limits_28 ?_
  refine x_toX (st' := [.int 12, .ref h.2]) rfl ?_
  refine x_iload_n 0 dL_limits_29 rfl rfl ?_
  refine x_iadd dL_limits_30 ?_
  refine x_toX (st' := [.int 16, .ref h.2]) rfl ?_
  refine x_iload_n 1 dL_limits_31 rfl rfl ?_
  refine x_dom (fun hd45 => ?_)
  obtain ⟨f45, m45, e45, a45, w45⟩ := k_dd0 hN (by omega) w43 hd45 (z43.le w43 hd45) (a := 16) (b := 1) (v := 5) (S' := (k_of L_40)) tf_137 (k_eqb_sp tf_138)
  have z45 := z43.st a45
  obtain ⟨P45, w45⟩ : ∃ P, k_wd h.2 (h.2 + 70) 20 (k_of L_40) P (fun _ => none) [] f45 := ⟨_, w45⟩
  obtain ⟨fs46, hfs46⟩ := w43.ob
  refine x_callv (As := [.int 16, .int 1]) (rest := []) 12055 679735 dL_limits_32 mi_X5_put ml_L_27 rfl rfl (Nat.le_of_ble_eq_true rfl) ⟨by decide, by decide⟩ (by omega) (by omega) hfs46 rfl (c_X5_put N _ _ _ _ _ e45) (x_K.some ?_) x_KX.none
  refine x_toX (st' := [.int 5]) rfl ?_
  clear hd45 e45 a45 hfs46 w43 z43
  refine x_iload_n 0 dL_limits_35 rfl rfl ?_
  refine x_iconst 1 (by decide) dL_limits_36 ?_
  refine x_iadd dL_limits_37 ?_
  refine x_toX (st' := [.int 5, .int 5]) rfl ?_
  refine x_icmp_eq_y 43 dL_limits_38 (by decide) (by decide) ?_
  refine x_iinc 5 (lv' := [(2, .int 5), (1, .int 1), (0, .ref h.2)]) dL_limits_43 0 rfl (by decide) (by decide) rfl ?_
  refine x_goto 18 dL_limits_46 (by decide) ?_
  refine x_iload_n 0 dL_limits_18 rfl rfl ?_
  refine x_bipush 12 (by decide) dL_limits_19 ?_
  refine x_icmp_ge_n 49 dL_limits_21 (by decide) (by decide) ?_
  refine x_aload_n 2 dL_limits_24 rfl rfl ?_
  refine x_bipush 12 (by decide) dL_limits_25 ?_
  refine x_iload_n 1 dL_limits_27 rfl rfl ?_
  refine x_imul dL_limits_28 ?_
  refine x_toX (st' := [.int 12, .ref h.2]) rfl ?_
  refine x_iload_n 0 dL_limits_29 rfl rfl ?_
  refine x_iadd dL_limits_30 ?_
  refine x_toX (st' := [.int 17, .ref h.2]) rfl ?_
  refine x_iload_n 1 dL_limits_31 rfl rfl ?_
  refine x_dom (fun hd47 => ?_)
  obtain ⟨f47, m47, e47, a47, w47⟩ := k_dd0 hN (by omega) w45 hd47 (z45.le w45 hd47) (a := 17) (b := 1) (v := 6) (S' := (k_of L_41)) tf_139 (k_eqb_sp tf_140)
  have z47 := z45.st a47
  obtain ⟨P47, w47⟩ : ∃ P, k_wd h.2 (h.2 + 70) 21 (k_of L_41) P (fun _ => none) [] f47 := ⟨_, w47⟩
  obtain ⟨fs48, hfs48⟩ := w45.ob
  refine x_callv (As := [.int 17, .int 1]) (rest := []) 12021 677820 dL_limits_32 mi_X5_put ml_L_27 rfl rfl (Nat.le_of_ble_eq_true rfl) ⟨by decide, by decide⟩ (by omega) (by omega) hfs48 rfl (c_X5_put N _ _ _ _ _ e47) (x_K.some ?_) x_KX.none
  refine x_toX (st' := [.int 6]) rfl ?_
  clear hd47 e47 a47 hfs48 w45 z45
  refine x_iload_n 0 dL_limits_35 rfl rfl ?_
  refine x_iconst 1 (by decide) dL_limits_36 ?_
  refine x_iadd dL_limits_37 ?_
  refine x_toX (st' := [.int 6, .int 6]) rfl ?_
  refine x_icmp_eq_y 43 dL_limits_38 (by decide) (by decide) ?_
  refine x_iinc 6 (lv' := [(2, .int 6), (1, .int 1), (0, .ref h.2)]) dL_limits_43 0 rfl (by decide) (by decide) rfl ?_
  refine x_goto 18 dL_limits_46 (by decide) ?_
  refine x_iload_n 0 dL_limits_18 rfl rfl ?_
  refine x_bipush 12 (by decide) dL_limits_19 ?_
  refine x_icmp_ge_n 49 dL_limits_21 (by decide) (by decide) ?_
  refine x_aload_n 2 dL_limits_24 rfl rfl ?_
  refine x_bipush 12 (by decide) dL_limits_25 ?_
  refine x_iload_n 1 dL_limits_27 rfl rfl ?_
  refine x_imul dL_limits_28 ?_
  refine x_toX (st' := [.int 12, .ref h.2]) rfl ?_
  refine x_iload_n 0 dL_limits_29 rfl rfl ?_
  refine x_iadd dL_limits_30 ?_
  refine x_toX (st' := [.int 18, .ref h.2]) rfl ?_
  refine x_iload_n 1 dL_limits_31 rfl rfl ?_
  refine x_dom (fun hd49 => ?_)
  obtain ⟨f49, m49, e49, a49, w49⟩ := k_dd0 hN (by omega) w47 hd49 (z47.le w47 hd49) (a := 18) (b := 1) (v := 7) (S' := (k_of L_42)) tf_141 (k_eqb_sp tf_142)
  have z49 := z47.st a49
  obtain ⟨P49, w49⟩ : ∃ P, k_wd h.2 (h.2 + 70) 22 (k_of L_42) P (fun _ => none) [] f49 := ⟨_, w49⟩
  obtain ⟨fs50, hfs50⟩ := w47.ob
  refine x_callv (As := [.int 18, .int 1]) (rest := []) 11987 675905 dL_limits_32 mi_X5_put ml_L_27 rfl rfl (Nat.le_of_ble_eq_true rfl) ⟨by decide, by decide⟩ (by omega) (by omega) hfs50 rfl (c_X5_put N _ _ _ _ _ e49) (x_K.some ?_) x_KX.none
  refine x_toX (st' := [.int 7]) rfl ?_
  clear hd49 e49 a49 hfs50 w47 z47
  refine x_iload_n 0 dL_limits_35 rfl rfl ?_
  refine x_iconst 1 (by decide) dL_limits_36 ?_
  refine x_iadd dL_limits_37 ?_
  refine x_toX (st' := [.int 7, .int 7]) rfl ?_
  refine x_icmp_eq_y 43 dL_limits_38 (by decide) (by decide) ?_
  refine x_iinc 7 (lv' := [(2, .int 7), (1, .int 1), (0, .ref h.2)]) dL_limits_43 0 rfl (by decide) (by decide) rfl ?_
  refine x_goto 18 dL_limits_46 (by decide) ?_
  refine x_iload_n 0 dL_limits_18 rfl rfl ?_
  refine x_bipush 12 (by decide) dL_limits_19 ?_
  refine x_icmp_ge_n 49 dL_limits_21 (by decide) (by decide) ?_
  refine x_aload_n 2 dL_limits_24 rfl rfl ?_
  refine x_bipush 12 (by decide) dL_limits_25 ?_
  refine x_iload_n 1 dL_limits_27 rfl rfl ?_
  refine x_imul dL_limits_28 ?_
  refine x_toX (st' := [.int 12, .ref h.2]) rfl ?_
  refine x_iload_n 0 dL_limits_29 rfl rfl ?_
  refine x_iadd dL_limits_30 ?_
  refine x_toX (st' := [.int 19, .ref h.2]) rfl ?_
  refine x_iload_n 1 dL_limits_31 rfl rfl ?_
  refine x_dom (fun hd51 => ?_)
  obtain ⟨f51, m51, e51, a51, w51⟩ := k_dd0 hN (by omega) w49 hd51 (z49.le w49 hd51) (a := 19) (b := 1) (v := 8) (S' := (k_of L_43)) tf_143 (k_eqb_sp tf_144)
  have z51 := z49.st a51
  obtain ⟨P51, w51⟩ : ∃ P, k_wd h.2 (h.2 + 70) 23 (k_of L_43) P (fun _ => none) [] f51 := ⟨_, w51⟩
  obtain ⟨fs52, hfs52⟩ := w49.ob
  refine x_callv (As := [.int 19, .int 1]) (rest := []) 11953 673990 dL_limits_32 mi_X5_put ml_L_27 rfl rfl (Nat.le_of_ble_eq_true rfl) ⟨by decide, by decide⟩ (by omega) (by omega) hfs52 rfl (c_X5_put N _ _ _ _ _ e51) (x_K.some ?_) x_KX.none
  refine x_toX (st' := [.int 8]) rfl ?_
  clear hd51 e51 a51 hfs52 w49 z49
  refine x_iload_n 0 dL_limits_35 rfl rfl ?_
  refine x_iconst 1 (by decide) dL_limits_36 ?_
  refine x_iadd dL_limits_37 ?_
  refine x_toX (st' := [.int 8, .int 8]) rfl ?_
  refine x_icmp_eq_y 43 dL_limits_38 (by decide) (by decide) ?_
  refine x_iinc 8 (lv' := [(2, .int 8), (1, .int 1), (0, .ref h.2)]) dL_limits_43 0 rfl (by decide) (by decide) rfl ?_
  refine x_goto 18 dL_limits_46 (by decide) ?_
  refine x_iload_n 0 dL_limits_18 rfl rfl ?_
  refine x_bipush 12 (by decide) dL_limits_19 ?_
  refine x_icmp_ge_n 49 dL_limits_21 (by decide) (by decide) ?_
  refine x_aload_n 2 dL_limits_24 rfl rfl ?_
  refine x_bipush 12 (by decide) dL_limits_25 ?_
  refine x_iload_n 1 dL_limits_27 rfl rfl ?_
  refine x_imul dL_limits_28 ?_
  refine x_toX (st' := [.int 12, .ref h.2]) rfl ?_
  refine x_iload_n 0 dL_limits_29 rfl rfl ?_
  refine x_iadd dL_limits_30 ?_
  refine x_toX (st' := [.int 20, .ref h.2]) rfl ?_
  refine x_iload_n 1 dL_limits_31 rfl rfl ?_
  refine x_dom (fun hd53 => ?_)
  obtain ⟨f53, m53, e53, a53, w53⟩ := k_dd0 hN (by omega) w51 hd53 (z51.le w51 hd53) (a := 20) (b := 1) (v := 9) (S' := (k_of L_44)) tf_145 (k_eqb_sp tf_146)
  have z53 := z51.st a53
  obtain ⟨P53, w53⟩ : ∃ P, k_wd h.2 (h.2 + 70) 24 (k_of L_44) P (fun _ => none) [] f53 := ⟨_, w53⟩
  obtain ⟨fs54, hfs54⟩ := w51.ob
  refine x_callv (As := [.int 20, .int 1]) (rest := []) 11919 672075 dL_limits_32 mi_X5_put ml_L_27 rfl rfl (Nat.le_of_ble_eq_true rfl) ⟨by decide, by decide⟩ (by omega) (by omega) hfs54 rfl (c_X5_put N _ _ _ _ _ e53) (x_K.some ?_) x_KX.none
  refine x_toX (st' := [.int 9]) rfl ?_
  clear hd53 e53 a53 hfs54 w51 z51
  refine x_iload_n 0 dL_limits_35 rfl rfl ?_
  refine x_iconst 1 (by decide) dL_limits_36 ?_
  refine x_iadd dL_limits_37 ?_
  refine x_toX (st' := [.int 9, .int 9]) rfl ?_
  refine x_icmp_eq_y 43 dL_limits_38 (by decide) (by decide) ?_
  refine x_iinc 9 (lv' := [(2, .int 9), (1, .int 1), (0, .ref h.2)]) dL_limits_43 0 rfl (by decide) (by decide) rfl ?_
  refine x_goto 18 dL_limits_46 (by decide) ?_
  refine x_iload_n 0 dL_limits_18 rfl rfl ?_
  refine x_bipush 12 (by decide) dL_limits_19 ?_
  refine x_icmp_ge_n 49 dL_limits_21 (by decide) (by decide) ?_
  refine x_aload_n 2 dL_limits_24 rfl rfl ?_
  refine x_bipush 12 (by decide) dL_limits_25 ?_
  refine x_iload_n 1 dL_limits_27 rfl rfl ?_
  refine x_imul dL_limits_28 ?_
  refine x_toX (st' := [.int 12, .ref h.2]) rfl ?_
  refine x_iload_n 0 dL_limits_29 rfl rfl ?_
  refine x_iadd dL_limits_30 ?_
  refine x_toX (st' := [.int 21, .ref h.2]) rfl ?_
  refine x_iload_n 1 dL_limits_31 rfl rfl ?_
  refine x_dom (fun hd55 => ?_)
  obtain ⟨f55, m55, e55, a55, w55⟩ := k_dd0 hN (by omega) w53 hd55 (z53.le w53 hd55) (a := 21) (b := 1) (v := 10) (S' := (k_of L_45)) tf_147 (k_eqb_sp tf_148)
  have z55 := z53.st a55
  obtain ⟨P55, w55⟩ : ∃ P, k_wd h.2 (h.2 + 70) 25 (k_of L_45) P (fun _ => none) [] f55 := ⟨_, w55⟩
  obtain ⟨fs56, hfs56⟩ := w53.ob
  refine x_callv (As := [.int 21, .int 1]) (rest := []) 11885 670160 dL_limits_32 mi_X5_put ml_L_27 rfl rfl (Nat.le_of_ble_eq_true rfl) ⟨by decide, by decide⟩ (by omega) (by omega) hfs56 rfl (c_X5_put N _ _ _ _ _ e55) (x_K.some ?_) x_KX.none
  refine x_toX (st' := [.int 10]) rfl ?_
  clear hd55 e55 a55 hfs56 w53 z53
  refine x_iload_n 0 dL_limits_35 rfl rfl ?_
  refine x_iconst 1 (by decide) dL_limits_36 ?_
  refine x_iadd dL_limits_37 ?_
  refine x_toX (st' := [.int 10, .int 10]) rfl ?_
  refine x_icmp_eq_y 43 dL_limits_38 (by decide) (by decide) ?_
  refine x_iinc 10 (lv' := [(2, .int 10), (1, .int 1), (0, .ref h.2)]) dL_limits_43 0 rfl (by decide) (by decide) rfl ?_
  refine x_goto 18 dL_limits_46 (by decide) ?_
  refine x_iload_n 0 dL_limits_18 rfl rfl ?_
  refine x_bipush 12 (by decide) dL_limits_19 ?_
  refine x_icmp_ge_n 49 dL_limits_21 (by decide) (by decide) ?_
  refine x_aload_n 2 dL_limits_24 rfl rfl ?_
  refine x_bipush 12 (by decide) dL_limits_25 ?_
  refine x_iload_n 1 dL_limits_27 rfl rfl ?_
  refine x_imul dL_limits_28 ?_
  refine x_toX (st' := [.int 12, .ref h.2]) rfl ?_
  refine x_iload_n 0 dL_limits_29 rfl rfl ?_
  refine x_iadd dL_limits_30 ?_
  refine x_toX (st' := [.int 22, .ref h.2]) rfl ?_
  refine x_iload_n 1 dL_limits_31 rfl rfl ?_
  refine x_dom (fun hd57 => ?_)
  obtain ⟨f57, m57, e57, a57, w57⟩ := k_dd0 hN (by omega) w55 hd57 (z55.le w55 hd57) (a := 22) (b := 1) (v := 11) (S' := (k_of L_46)) tf_149 (k_eqb_sp tf_150)
  have z57 := z55.st a57
  obtain ⟨P57, w57⟩ : ∃ P, k_wd h.2 (h.2 + 70) 26 (k_of L_46) P (fun _ => none) [] f57 := ⟨_, w57⟩
  obtain ⟨fs58, hfs58⟩ := w55.ob
  refine x_callv (As := [.int 22, .int 1]) (rest := []) 11851 668245 dL_limits_32 mi_X5_put ml_L_27 rfl rfl (Nat.le_of_ble_eq_true rfl) ⟨by decide, by decide⟩ (by omega) (by omega) hfs58 rfl (c_X5_put N _ _ _ _ _ e57) (x_K.some ?_) x_KX.none
  refine x_toX (st' := [.int 11]) rfl ?_
  clear hd57 e57 a57 hfs58 w55 z55
  refine x_iload_n 0 dL_limits_35 rfl rfl ?_
  refine x_iconst 1 (by decide) dL_limits_36 ?_
  refine x_iadd dL_limits_37 ?_
  refine x_toX (st' := [.int 11, .int 11]) rfl ?_
  refine x_icmp_eq_y 43 dL_limits_38 (by decide) (by decide) ?_
  refine x_iinc 11 (lv' := [(2, .int 11), (1, .int 1), (0, .ref h.2)]) dL_limits_43 0 rfl (by decide) (by decide) rfl ?_
  refine x_goto 18 dL_limits_46 (by decide) ?_
  refine x_iload_n 0 dL_limits_18 rfl rfl ?_
  refine x_bipush 12 (by decide) dL_limits_19 ?_
  refine x_icmp_ge_n 49 dL_limits_21 (by decide) (by decide) ?_
  refine x_aload_n 2 dL_limits_24 rfl rfl ?_
  refine x_bipush 12 (by decide) dL_limits_25 ?_
  refine x_iload_n 1 dL_limits_27 rfl rfl ?_
  refine x_imul dL_limits_28 ?_
  refine x_toX (st' := [.int 12, .ref h.2]) rfl ?_
  refine x_iload_n 0 dL_limits_29 rfl rfl ?_
  refine x_iadd dL_limits_30 ?_
  refine x_toX (st' := [.int 23, .ref h.2]) rfl ?_
  refine x_iload_n 1 dL_limits_31 rfl rfl ?_
  refine x_dom (fun hd59 => ?_)
  obtain ⟨f59, m59, e59, a59, w59⟩ := k_dd0 hN (by omega) w57 hd59 (z57.le w57 hd59) (a := 23) (b := 1) (v := 12) (S' := (k_of L_47)) tf_151 (k_eqb_sp tf_152)
  have z59 := z57.st a59
  obtain ⟨P59, w59⟩ : ∃ P, k_wd h.2 (h.2 + 70) 27 (k_of L_47) P (fun _ => none) [] f59 := ⟨_, w59⟩
  obtain ⟨fs60, hfs60⟩ := w57.ob
  refine x_callv (As := [.int 23, .int 1]) (rest := []) 11817 666330 dL_limits_32 mi_X5_put ml_L_27 rfl rfl (Nat.le_of_ble_eq_true rfl) ⟨by decide, by decide⟩ (by omega) (by omega) hfs60 rfl (c_X5_put N _ _ _ _ _ e59) (x_K.some ?_) x_KX.none
  refine x_toX (st' := [.int 12]) rfl ?_
  clear hd59 e59 a59 hfs60 w57 z57
  refine x_iload_n 0 dL_limits_35 rfl rfl ?_
  refine x_iconst 1 (by decide) dL_limits_36 ?_
  refine x_iadd dL_limits_37 ?_
  refine x_toX (st' := [.int 12, .int 12]) rfl ?_
  refine x_icmp_eq_y 43 dL_limits_38 (by decide) (by decide) ?_
  refine x_iinc 12 (lv' := [(2, .int 12), (1, .int 1), (0, .ref h.2)]) dL_limits_43 0 rfl (by decide) (by decide) rfl ?_
  refine x_goto 18 dL_limits_46 (by decide) ?_
  refine x_iload_n 0 dL_limits_18 rfl rfl ?_
  refine x_bipush 12 (by decide) dL_limits_19 ?_
  refine x_icmp_ge_y 49 dL_limits_21 (by decide) (by decide) ?_
  refine x_aload_n 2 dL_limits_49 rfl rfl ?_
  refine x_iconst 0 (by decide) dL_limits_50 ?_
  refine x_sipush 999 (by decide) dL_limits_51 ?_
  refine x_iconst 1 (by decide) dL_limits_54 ?_
  refine x_dom (fun hd62 => ?_)
  obtain ⟨f62, e62, a62, w62⟩ := k_rf0_1 hN (by omega) w59 hd62 (z59.le w59 hd62) (a := 999) (b := 1) tf_153
  have z62 := z59.st a62
  refine x_callsH (As := [.ref h.2, .int 0, .int 999, .int 1]) (rest := []) 11783 664415 dL_limits_55 mi_L_call rfl ml_L_182 rfl rfl (Nat.le_of_ble_eq_true rfl) ⟨by decide, by decide⟩ (by omega) (by omega) (c_L_call N _ _ _ _ _ _ e62) (fun n62 => ?_)
  refine x_toX (st' := [.int (-2013)]) rfl ?_
  clear hd62 e62 a62 w59 z59
  refine x_sipush (-2013) (by decide) dL_limits_58 ?_
  refine x_icmp_ne_n 117 dL_limits_61 (by decide) (by decide) ?_
  refine x_aload_n 2 dL_limits_64 rfl rfl ?_
  refine x_iconst 1 (by decide) dL_limits_65 ?_
  refine x_sipush 999 (by decide) dL_limits_66 ?_
  refine x_iconst 1 (by decide) dL_limits_69 ?_
  refine x_dom (fun hd64 => ?_)
  obtain ⟨f64, e64, a64, w64⟩ := k_rf1_1 hN (by omega) w62 hd64 (z62.le w62 hd64) (a := 999) (b := 1) tf_154
  have z64 := z62.st a64
  refine x_callsH (As := [.ref h.2, .int 1, .int 999, .int 1]) (rest := []) 11749 662500 dL_limits_70 mi_L_call rfl ml_L_182 rfl rfl (Nat.le_of_ble_eq_true rfl) ⟨by decide, by decide⟩ (by omega) (by omega) (c_L_call N _ _ _ _ _ _ e64) (fun n64 => ?_)
  refine x_toX (st' := [.int (-2013)]) rfl ?_
  clear hd64 e64 a64 w62 z62
  refine x_sipush (-2013) (by decide) dL_limits_73 ?_
  refine x_icmp_ne_n 117 dL_limits_76 (by decide) (by decide) ?_
  refine x_aload_n 2 dL_limits_79 rfl rfl ?_
  refine x_bipush 12 (by decide) dL_limits_80 ?_
  refine x_iload_n 1 dL_limits_82 rfl rfl ?_
  refine x_imul dL_limits_83 ?_
  refine x_toX (st' := [.int 12, .ref h.2]) rfl ?_
  refine x_dom (fun hd65 => ?_)
  obtain ⟨f65, m65, e65, a65, w65⟩ := k_dd1 hN (by omega) w64 hd65 (z64.le w64 hd65) (a := 12) (b := 0) (v := 12) (S' := (k_of L_48)) tf_155 (k_eqb_sp tf_156)
  have z65 := z64.st a65
  obtain ⟨P65, w65⟩ : ∃ P, k_wd h.2 (h.2 + 70) 28 (k_of L_48) P (fun _ => none) [] f65 := ⟨_, w65⟩
  obtain ⟨fs66, hfs66⟩ := w64.ob
  refine x_callv (As := [.int 12]) (rest := []) 11716 660591 dL_limits_84 mi_X5_drop ml_L_33 rfl rfl (Nat.le_of_ble_eq_true rfl) ⟨by decide, by decide⟩ (by omega) (by omega) hfs66 rfl (c_X5_drop N _ _ _ _ e65) (x_K.some ?_) x_KX.none
  refine x_toX (st' := [.int 12]) rfl ?_
  clear hd65 e65 a65 hfs66 w64 z64
  refine x_bipush 12 (by decide) dL_limits_87 ?_
  refine x_icmp_ne_n 117 dL_limits_89 (by decide) (by decide) ?_
  refine x_aload_n 2 dL_limits_92 rfl rfl ?_
  refine x_bipush 12 (by decide) dL_limits_93 ?_
  refine x_iload_n 1 dL_limits_95 rfl rfl ?_
  refine x_imul dL_limits_96 ?_
  refine x_toX (st' := [.int 12, .ref h.2]) rfl ?_
  refine x_bipush 9 (by decide) dL_limits_97 ?_
  refine x_dom (fun hd67 => ?_)
  obtain ⟨f67, m67, e67, a67, w67⟩ := k_dd0 hN (by omega) w65 hd67 (z65.le w65 hd67) (a := 12) (b := 9) (v := 12) (S' := (k_of L_49)) tf_157 (k_eqb_sp tf_158)
  have z67 := z65.st a67
  obtain ⟨P67, w67⟩ : ∃ P, k_wd h.2 (h.2 + 70) 29 (k_of L_49) P (fun _ => none) [] f67 := ⟨_, w67⟩
  obtain ⟨fs68, hfs68⟩ := w65.ob
  refine x_callv (As := [.int 12, .int 9]) (rest := []) 11682 658676 dL_limits_99 mi_X5_put ml_L_27 rfl rfl (Nat.le_of_ble_eq_true rfl) ⟨by decide, by decide⟩ (by omega) (by omega) hfs68 rfl (c_X5_put N _ _ _ _ _ e67) (x_K.some ?_) x_KX.none
  refine x_toX (st' := [.int 12]) rfl ?_
  clear hd67 e67 a67 hfs68 w65 z65
  refine x_bipush 12 (by decide) dL_limits_102 ?_
  refine x_icmp_ne_n 117 dL_limits_104 (by decide) (by decide) ?_
  refine x_aload_n 2 dL_limits_107 rfl rfl ?_
  refine x_dom (fun hd69 => ?_)
  obtain ⟨f69, m69, e69, a69, w69⟩ := k_dd2 hN (by omega) w67 hd69 (z67.le w67 hd69) (a := 0) (b := 0) (v := 2) (S' := (k_of L_50)) tf_159 (k_eqb_sp tf_160)
  have z69 := z67.st a69
  obtain ⟨P69, w69⟩ : ∃ P, k_wd h.2 (h.2 + 70) 30 (k_of L_50) P (fun _ => none) [] f69 := ⟨_, w69⟩
  obtain ⟨fs70, hfs70⟩ := w67.ob
  refine x_callv (As := []) (rest := []) 11650 656773 dL_limits_108 mi_X5_closeRun ml_L_37 rfl rfl (Nat.le_of_ble_eq_true rfl) ⟨by decide, by decide⟩ (by omega) (by omega) hfs70 rfl (c_X5_closeRun N _ _ _ e69) (x_K.some ?_) x_KX.none
  refine x_toX (st' := [.int 2]) rfl ?_
  clear hd69 e69 a69 hfs70 w67 z67
  refine x_iload_n 1 dL_limits_111 rfl rfl ?_
  refine x_iconst 1 (by decide) dL_limits_112 ?_
  refine x_iadd dL_limits_113 ?_
  refine x_toX (st' := [.int 2, .int 2]) rfl ?_
  refine x_icmp_eq_y 119 dL_limits_114 (by decide) (by decide) ?_
  refine x_iinc 2 (lv' := [(1, .int 2), (2, .int 12), (0, .ref h.2)]) dL_limits_119 1 rfl (by decide) (by decide) rfl ?_
  refine x_goto 10 dL_limits_122 (by decide) ?_
  refine x_iload_n 0 dL_limits_10 rfl rfl ?_
  refine x_bipush 6 (by decide) dL_limits_11 ?_
  refine x_icmp_ge_n 125 dL_limits_13 (by decide) (by decide) ?_
  refine x_iconst 0 (by decide) dL_limits_16 ?_
  refine x_istore_n (i := 2) (lv' := [(2, .int 0), (1, .int 2), (0, .ref h.2)]) dL_limits_17 rfl (by decide) rfl ?_
  refine x_iload_n 0 dL_limits_18 rfl rfl ?_
  refine x_bipush 12 (by decide) dL_limits_19 ?_
  refine x_icmp_ge_n 49 dL_limits_21 (by decide) (by decide) ?_
  refine x_aload_n 2 dL_limits_24 rfl rfl ?_
  refine x_bipush 12 (by decide) dL_limits_25 ?_
  refine x_iload_n 1 dL_limits_27 rfl rfl ?_
  refine x_imul dL_limits_28 ?_
  refine x_toX (st' := [.int 24, .ref h.2]) rfl ?_
  refine x_iload_n 0 dL_limits_29 rfl rfl ?_
  refine x_iadd dL_limits_30 ?_
  refine x_toX (st' := [.int 24, .ref h.2]) rfl ?_
  refine x_iload_n 1 dL_limits_31 rfl rfl ?_
  refine x_dom (fun hd71 => ?_)
  obtain ⟨f71, m71, e71, a71, w71⟩ := k_dd0 hN (by omega) w69 hd71 (z69.le w69 hd71) (a := 24) (b := 2) (v := 1) (S' := (k_of L_51)) tf_161 (k_eqb_sp tf_162)
  have z71 := z69.st a71
  obtain ⟨P71, w71⟩ : ∃ P, k_wd h.2 (h.2 + 70) 31 (k_of L_51) P (fun _ => none) [] f71 := ⟨_, w71⟩
  obtain ⟨fs72, hfs72⟩ := w69.ob
  refine x_callv (As := [.int 24, .int 2]) (rest := []) 11616 654858 dL_limits_32 mi_X5_put ml_L_27 rfl rfl (Nat.le_of_ble_eq_true rfl) ⟨by decide, by decide⟩ (by omega) (by omega) hfs72 rfl (c_X5_put N _ _ _ _ _ e71) (x_K.some ?_) x_KX.none
  refine x_toX (st' := [.int 1]) rfl ?_
  clear hd71 e71 a71 hfs72 w69 z69
  refine x_iload_n 0 dL_limits_35 rfl rfl ?_
  refine x_iconst 1 (by decide) dL_limits_36 ?_
  refine x_iadd dL_limits_37 ?_
  refine x_toX (st' := [.int 1, .int 1]) rfl ?_
  refine x_icmp_eq_y 43 dL_limits_38 (by decide) (by decide) ?_
  refine x_iinc 1 (lv' := [(2, .int 1), (1, .int 2), (0, .ref h.2)]) dL_limits_43 0 rfl (by decide) (by decide) rfl ?_
  refine x_goto 18 dL_limits_46 (by decide) ?_
  refine x_iload_n 0 dL_limits_18 rfl rfl ?_
  refine x_bipush 12 (by decide) dL_limits_19 ?_
  refine x_icmp_ge_n 49 dL_limits_21 (by decide) (by decide) ?_
  refine x_aload_n 2 dL_limits_24 rfl rfl ?_
  refine x_bipush 12 (by decide) dL_limits_25 ?_
  refine x_iload_n 1 dL_limits_27 rfl rfl ?_
  refine x_imul dL_limits_28 ?_
  refine x_toX (st' := [.int 24, .ref h.2]) rfl ?_
  refine x_iload_n 0 dL_limits_29 rfl rfl ?_
  refine x_iadd dL_limits_30 ?_
  refine x_toX (st' := [.int 25, .ref h.2]) rfl ?_
  refine x_iload_n 1 dL_limits_31 rfl rfl ?_
  refine x_dom (fun hd73 => ?_)
  obtain ⟨f73, m73, e73, a73, w73⟩ := k_dd0 hN (by omega) w71 hd73 (z71.le w71 hd73) (a := 25) (b := 2) (v := 2) (S' := (k_of L_52)) tf_163 (k_eqb_sp tf_164)
  have z73 := z71.st a73
  obtain ⟨P73, w73⟩ : ∃ P, k_wd h.2 (h.2 + 70) 32 (k_of L_52) P (fun _ => none) [] f73 := ⟨_, w73⟩
  obtain ⟨fs74, hfs74⟩ := w71.ob
  refine x_callv (As := [.int 25, .int 2]) (rest := []) 11582 652943 dL_limits_32 mi_X5_put ml_L_27 rfl rfl (Nat.le_of_ble_eq_true rfl) ⟨by decide, by decide⟩ (by omega) (by omega) hfs74 rfl (c_X5_put N _ _ _ _ _ e73) (x_K.some ?_) x_KX.none
  refine x_toX (st' := [.int 2]) rfl ?_
  clear hd73 e73 a73 hfs74 w71 z71
  refine x_iload_n 0 dL_limits_35 rfl rfl ?_
  refine x_iconst 1 (by decide) dL_limits_36 ?_
  refine x_iadd dL_limits_37 ?_
  refine x_toX (st' := [.int 2, .int 2]) rfl ?_
  refine x_icmp_eq_y 43 dL_limits_38 (by decide) (by decide) ?_
  refine x_iinc 2 (lv' := [(2, .int 2), (1, .int 2), (0, .ref h.2)]) dL_limits_43 0 rfl (by decide) (by decide) rfl ?_
  refine x_goto 18 dL_limits_46 (by decide) ?_
  refine x_iload_n 0 dL_limits_18 rfl rfl ?_
  refine x_bipush 12 (by decide) dL_limits_19 ?_
  refine x_icmp_ge_n 49 dL_limits_21 (by decide) (by decide) ?_
  refine x_aload_n 2 dL_limits_24 rfl rfl ?_
  refine x_bipush 12 (by decide) dL_limits_25 ?_
  refine x_iload_n 1 dL_limits_27 rfl rfl ?_
  refine x_imul dL_limits_28 ?_
  refine x_toX (st' := [.int 24, .ref h.2]) rfl ?_
  refine x_iload_n 0 dL_limits_29 rfl rfl ?_
  refine x_iadd dL_limits_30 ?_
  refine x_toX (st' := [.int 26, .ref h.2]) rfl ?_
  refine x_iload_n 1 dL_limits_31 rfl rfl ?_
  refine x_dom (fun hd75 => ?_)
  obtain ⟨f75, m75, e75, a75, w75⟩ := k_dd0 hN (by omega) w73 hd75 (z73.le w73 hd75) (a := 26) (b := 2) (v := 3) (S' := (k_of L_53)) tf_165 (k_eqb_sp tf_166)
  have z75 := z73.st a75
  obtain ⟨P75, w75⟩ : ∃ P, k_wd h.2 (h.2 + 70) 33 (k_of L_53) P (fun _ => none) [] f75 := ⟨_, w75⟩
  obtain ⟨fs76, hfs76⟩ := w73.ob
  refine x_callv (As := [.int 26, .int 2]) (rest := []) 11548 651028 dL_limits_32 mi_X5_put ml_L_27 rfl rfl (Nat.le_of_ble_eq_true rfl) ⟨by decide, by decide⟩ (by omega) (by omega) hfs76 rfl (c_X5_put N _ _ _ _ _ e75) (x_K.some ?_) x_KX.none
  refine x_toX (st' := [.int 3]) rfl ?_
  clear hd75 e75 a75 hfs76 w73 z73
  refine x_iload_n 0 dL_limits_35 rfl rfl ?_
  refine x_iconst 1 (by decide) dL_limits_36 ?_
  refine x_iadd dL_limits_37 ?_
  refine x_toX (st' := [.int 3, .int 3]) rfl ?_
  refine x_icmp_eq_y 43 dL_limits_38 (by decide) (by decide) ?_
  refine x_iinc 3 (lv' := [(2, .int 3), (1, .int 2), (0, .ref h.2)]) dL_limits_43 0 rfl (by decide) (by decide) rfl ?_
  refine x_goto 18 dL_limits_46 (by decide) ?_
  refine x_iload_n 0 dL_limits_18 rfl rfl ?_
  refine x_bipush 12 (by decide) dL_limits_19 ?_
  refine x_icmp_ge_n 49 dL_limits_21 (by decide) (by decide) ?_
  refine x_aload_n 2 dL_limits_24 rfl rfl ?_
  refine x_bipush 12 (by decide) dL_limits_25 ?_
  refine x_iload_n 1 dL_limits_27 rfl rfl ?_
  refine x_imul dL_limits_28 ?_
  refine x_toX (st' := [.int 24, .ref h.2]) rfl ?_
  refine x_iload_n 0 dL_limits_29 rfl rfl ?_
  refine x_iadd dL_limits_30 ?_
  refine x_toX (st' := [.int 27, .ref h.2]) rfl ?_
  refine x_iload_n 1 dL_limits_31 rfl rfl ?_
  refine x_dom (fun hd77 => ?_)
  obtain ⟨f77, m77, e77, a77, w77⟩ := k_dd0 hN (by omega) w75 hd77 (z75.le w75 hd77) (a := 27) (b := 2) (v := 4) (S' := (k_of L_54)) tf_167 (k_eqb_sp tf_168)
  have z77 := z75.st a77
  obtain ⟨P77, w77⟩ : ∃ P, k_wd h.2 (h.2 + 70) 34 (k_of L_54) P (fun _ => none) [] f77 := ⟨_, w77⟩
  obtain ⟨fs78, hfs78⟩ := w75.ob
  refine x_callv (As := [.int 27, .int 2]) (rest := []) 11514 649113 dL_limits_32 mi_X5_put ml_L_27 rfl rfl (Nat.le_of_ble_eq_true rfl) ⟨by decide, by decide⟩ (by omega) (by omega) hfs78 rfl (c_X5_put N _ _ _ _ _ e77) (x_K.some ?_) x_KX.none
  refine x_toX (st' := [.int 4]) rfl ?_
  clear hd77 e77 a77 hfs78 w75 z75
  refine x_iload_n 0 dL_limits_35 rfl rfl ?_
  refine x_iconst 1 (by decide) dL_limits_36 ?_
  refine x_iadd dL_limits_37 ?_
  refine x_toX (st' := [.int 4, .int 4]) rfl ?_
  refine x_icmp_eq_y 43 dL_limits_38 (by decide) (by decide) ?_
  refine x_iinc 4 (lv' := [(2, .int 4), (1, .int 2), (0, .ref h.2)]) dL_limits_43 0 rfl (by decide) (by decide) rfl ?_
  refine x_goto 18 dL_limits_46 (by decide) ?_
  refine x_iload_n 0 dL_limits_18 rfl rfl ?_
  refine x_bipush 12 (by decide) dL_limits_19 ?_
  refine x_icmp_ge_n 49 dL_limits_21 (by decide) (by decide) ?_
  refine x_aload_n 2 dL_limits_24 rfl rfl ?_
  refine x_bipush 12 (by decide) dL_limits_25 ?_
  refine x_iload_n 1 dL_limits_27 rfl rfl ?_
  refine x_imul dL_limits_28 ?_
  refine x_toX (st' := [.int 24, .ref h.2]) rfl ?_
  refine x_iload_n 0 dL_limits_29 rfl rfl ?_
  refine x_iadd dL_limits_30 ?_
  refine x_toX (st' := [.int 28, .ref h.2]) rfl ?_
  refine x_iload_n 1 dL_limits_31 rfl rfl ?_
  refine x_dom (fun hd79 => ?_)
  obtain ⟨f79, m79, e79, a79, w79⟩ := k_dd0 hN (by omega) w77 hd79 (z77.le w77 hd79) (a := 28) (b := 2) (v := 5) (S' := (k_of L_55)) tf_169 (k_eqb_sp tf_170)
  have z79 := z77.st a79
  obtain ⟨P79, w79⟩ : ∃ P, k_wd h.2 (h.2 + 70) 35 (k_of L_55) P (fun _ => none) [] f79 := ⟨_, w79⟩
  obtain ⟨fs80, hfs80⟩ := w77.ob
  refine x_callv (As := [.int 28, .int 2]) (rest := []) 11480 647198 dL_limits_32 mi_X5_put ml_L_27 rfl rfl (Nat.le_of_ble_eq_true rfl) ⟨by decide, by decide⟩ (by omega) (by omega) hfs80 rfl (c_X5_put N _ _ _ _ _ e79) (x_K.some ?_) x_KX.none
  refine x_toX (st' := [.int 5]) rfl ?_
  clear hd79 e79 a79 hfs80 w77 z77
  refine x_iload_n 0 dL_limits_35 rfl rfl ?_
  refine x_iconst 1 (by decide) dL_limits_36 ?_
  refine x_iadd dL_limits_37 ?_
  refine x_toX (st' := [.int 5, .int 5]) rfl ?_
  refine x_icmp_eq_y 43 dL_limits_38 (by decide) (by decide) ?_
  refine x_iinc 5 (lv' := [(2, .int 5), (1, .int 2), (0, .ref h.2)]) dL_limits_43 0 rfl (by decide) (by decide) rfl ?_
  refine x_goto 18 dL_limits_46 (by decide) ?_
  refine x_iload_n 0 dL_limits_18 rfl rfl ?_
  refine x_bipush 12 (by decide) dL_limits_19 ?_
  refine x_icmp_ge_n 49 dL_limits_21 (by decide) (by decide) ?_
  refine x_aload_n 2 dL_limits_24 rfl rfl ?_
  refine x_bipush 12 (by decide) dL_limits_25 ?_
  refine x_iload_n 1 dL_limits_27 rfl rfl ?_
  refine x_imul dL_limits_28 ?_
  refine x_toX (st' := [.int 24, .ref h.2]) rfl ?_
  refine x_iload_n 0 dL_limits_29 rfl rfl ?_
  refine x_iadd dL_limits_30 ?_
  refine x_toX (st' := [.int 29, .ref h.2]) rfl ?_
  refine x_iload_n 1 dL_limits_31 rfl rfl ?_
  refine x_dom (fun hd81 => ?_)
  obtain ⟨f81, m81, e81, a81, w81⟩ := k_dd0 hN (by omega) w79 hd81 (z79.le w79 hd81) (a := 29) (b := 2) (v := 6) (S' := (k_of L_56)) tf_171 (k_eqb_sp tf_172)
  have z81 := z79.st a81
  obtain ⟨P81, w81⟩ : ∃ P, k_wd h.2 (h.2 + 70) 36 (k_of L_56) P (fun _ => none) [] f81 := ⟨_, w81⟩
  obtain ⟨fs82, hfs82⟩ := w79.ob
  refine x_callv (As := [.int 29, .int 2]) (rest := []) 11446 645283 dL_limits_32 mi_X5_put ml_L_27 rfl rfl (Nat.le_of_ble_eq_true rfl) ⟨by decide, by decide⟩ (by omega) (by omega) hfs82 rfl (c_X5_put N _ _ _ _ _ e81) (x_K.some ?_) x_KX.none
  refine x_toX (st' := [.int 6]) rfl ?_
  clear hd81 e81 a81 hfs82 w79 z79
  refine x_iload_n 0 dL_limits_35 rfl rfl ?_
  refine x_iconst 1 (by decide) dL_limits_36 ?_
  refine x_iadd dL_limits_37 ?_
  refine x_toX (st' := [.int 6, .int 6]) rfl ?_
  refine x_icmp_eq_y 43 dL_limits_38 (by decide) (by decide) ?_
  refine x_iinc 6 (lv' := [(2, .int 6), (1, .int 2), (0, .ref h.2)]) dL_limits_43 0 rfl (by decide) (by decide) rfl ?_
  refine x_goto 18 dL_limits_46 (by decide) ?_
  refine x_iload_n 0 dL_limits_18 rfl rfl ?_
  refine x_bipush 12 (by decide) dL_limits_19 ?_
  refine x_icmp_ge_n 49 dL_limits_21 (by decide) (by decide) ?_
  refine x_aload_n 2 dL_limits_24 rfl rfl ?_
  refine x_bipush 12 (by decide) dL_limits_25 ?_
  refine x_iload_n 1 dL_limits_27 rfl rfl ?_
  refine x_imul dL_limits_28 ?_
  refine x_toX (st' := [.int 24, .ref h.2]) rfl ?_
  refine x_iload_n 0 dL_limits_29 rfl rfl ?_
  refine x_iadd dL_limits_30 ?_
  refine x_toX (st' := [.int 30, .ref h.2]) rfl ?_
  refine x_iload_n 1 dL_limits_31 rfl rfl ?_
  refine x_dom (fun hd83 => ?_)
  obtain ⟨f83, m83, e83, a83, w83⟩ := k_dd0 hN (by omega) w81 hd83 (z81.le w81 hd83) (a := 30) (b := 2) (v := 7) (S' := (k_of L_57)) tf_173 (k_eqb_sp tf_174)
  have z83 := z81.st a83
  obtain ⟨P83, w83⟩ : ∃ P, k_wd h.2 (h.2 + 70) 37 (k_of L_57) P (fun _ => none) [] f83 := ⟨_, w83⟩
  obtain ⟨fs84, hfs84⟩ := w81.ob
  refine x_callv (As := [.int 30, .int 2]) (rest := []) 11412 643368 dL_limits_32 mi_X5_put ml_L_27 rfl rfl (Nat.le_of_ble_eq_true rfl) ⟨by decide, by decide⟩ (by omega) (by omega) hfs84 rfl (c_X5_put N _ _ _ _ _ e83) (x_K.some ?_) x_KX.none
  refine x_toX (st' := [.int 7]) rfl ?_
  clear hd83 e83 a83 hfs84 w81 z81
  refine x_iload_n 0 dL_limits_35 rfl rfl ?_
  refine x_iconst 1 (by decide) dL_limits_36 ?_
  refine x_iadd dL_limits_37 ?_
  refine x_toX (st' := [.int 7, .int 7]) rfl ?_
  refine x_icmp_eq_y 43 dL_limits_38 (by decide) (by decide) ?_
  refine x_iinc 7 (lv' := [(2, .int 7), (1, .int 2), (0, .ref h.2)]) dL_limits_43 0 rfl (by decide) (by decide) rfl ?_
  refine x_goto 18 dL_limits_46 (by decide) ?_
  refine x_iload_n 0 dL_limits_18 rfl rfl ?_
  refine x_bipush 12 (by decide) dL_limits_19 ?_
  refine x_icmp_ge_n 49 dL_limits_21 (by decide) (by decide) ?_
  refine x_aload_n 2 dL_limits_24 rfl rfl ?_
  refine x_bipush 12 (by decide) dL_limits_25 ?_
  refine x_iload_n 1 dL_limits_27 rfl rfl ?_
  refine x_imul dL_limits_28 ?_
  refine x_toX (st' := [.int 24, .ref h.2]) rfl ?_
  refine x_iload_n 0 dL_limits_29 rfl rfl ?_
  refine x_iadd dL_limits_30 ?_
  refine x_toX (st' := [.int 31, .ref h.2]) rfl ?_
  refine x_iload_n 1 dL_limits_31 rfl rfl ?_
  refine x_dom (fun hd85 => ?_)
  obtain ⟨f85, m85, e85, a85, w85⟩ := k_dd0 hN (by omega) w83 hd85 (z83.le w83 hd85) (a := 31) (b := 2) (v := 8) (S' := (k_of L_58)) tf_175 (k_eqb_sp tf_176)
  have z85 := z83.st a85
  obtain ⟨P85, w85⟩ : ∃ P, k_wd h.2 (h.2 + 70) 38 (k_of L_58) P (fun _ => none) [] f85 := ⟨_, w85⟩
  obtain ⟨fs86, hfs86⟩ := w83.ob
  refine x_callv (As := [.int 31, .int 2]) (rest := []) 11378 641453 dL_limits_32 mi_X5_put ml_L_27 rfl rfl (Nat.le_of_ble_eq_true rfl) ⟨by decide, by decide⟩ (by omega) (by omega) hfs86 rfl (c_X5_put N _ _ _ _ _ e85) (x_K.some ?_) x_KX.none
  refine x_toX (st' := [.int 8]) rfl ?_
  clear hd85 e85 a85 hfs86 w83 z83
  refine x_iload_n 0 dL_limits_35 rfl rfl ?_
  refine x_iconst 1 (by decide) dL_limits_36 ?_
  refine x_iadd dL_limits_37 ?_
  refine x_toX (st' := [.int 8, .int 8]) rfl ?_
  refine x_icmp_eq_y 43 dL_limits_38 (by decide) (by decide) ?_
  refine x_iinc 8 (lv' := [(2, .int 8), (1, .int 2), (0, .ref h.2)]) dL_limits_43 0 rfl (by decide) (by decide) rfl ?_
  refine x_goto 18 dL_limits_46 (by decide) ?_
  refine x_iload_n 0 dL_limits_18 rfl rfl ?_
  refine x_bipush 12 (by decide) dL_limits_19 ?_
  refine x_icmp_ge_n 49 dL_limits_21 (by decide) (by decide) ?_
  refine x_aload_n 2 dL_limits_24 rfl rfl ?_
  refine x_bipush 12 (by decide) dL_limits_25 ?_
  refine x_iload_n 1 dL_limits_27 rfl rfl ?_
  refine x_imul dL_limits_28 ?_
  refine x_toX (st' := [.int 24, .ref h.2]) rfl ?_
  refine x_iload_n 0 dL_limits_29 rfl rfl ?_
  refine x_iadd dL_limits_30 ?_
  refine x_toX (st' := [.int 32, .ref h.2]) rfl ?_
  refine x_iload_n 1 dL_limits_31 rfl rfl ?_
  refine x_dom (fun hd87 => ?_)
  obtain ⟨f87, m87, e87, a87, w87⟩ := k_dd0 hN (by omega) w85 hd87 (z85.le w85 hd87) (a := 32) (b := 2) (v := 9) (S' := (k_of L_59)) tf_177 (k_eqb_sp tf_178)
  have z87 := z85.st a87
  obtain ⟨P87, w87⟩ : ∃ P, k_wd h.2 (h.2 + 70) 39 (k_of L_59) P (fun _ => none) [] f87 := ⟨_, w87⟩
  obtain ⟨fs88, hfs88⟩ := w85.ob
  refine x_callv (As := [.int 32, .int 2]) (rest := []) 11344 639538 dL_limits_32 mi_X5_put ml_L_27 rfl rfl (Nat.le_of_ble_eq_true rfl) ⟨by decide, by decide⟩ (by omega) (by omega) hfs88 rfl (c_X5_put N _ _ _ _ _ e87) (x_K.some ?_) x_KX.none
  refine x_toX (st' := [.int 9]) rfl ?_
  clear hd87 e87 a87 hfs88 w85 z85
  refine x_iload_n 0 dL_limits_35 rfl rfl ?_
  refine x_iconst 1 (by decide) dL_limits_36 ?_
  refine x_iadd dL_limits_37 ?_
  refine x_toX (st' := [.int 9, .int 9]) rfl ?_
  refine x_icmp_eq_y 43 dL_limits_38 (by decide) (by decide) ?_
  refine x_iinc 9 (lv' := [(2, .int 9), (1, .int 2), (0, .ref h.2)]) dL_limits_43 0 rfl (by decide) (by decide) rfl ?_
  refine x_goto 18 dL_limits_46 (by decide) ?_
  refine x_iload_n 0 dL_limits_18 rfl rfl ?_
  refine x_bipush 12 (by decide) dL_limits_19 ?_
  refine x_icmp_ge_n 49 dL_limits_21 (by decide) (by decide) ?_
  refine x_aload_n 2 dL_limits_24 rfl rfl ?_
  refine x_bipush 12 (by decide) dL_limits_25 ?_
  refine x_iload_n 1 dL_limits_27 rfl rfl ?_
  refine x_imul dL_limits_28 ?_
  refine x_toX (st' := [.int 24, .ref h.2]) rfl ?_
  refine x_iload_n 0 dL_limits_29 rfl rfl ?_
  refine x_iadd dL_limits_30 ?_
  refine x_toX (st' := [.int 33, .ref h.2]) rfl ?_
  refine x_iload_n 1 dL_limits_31 rfl rfl ?_
  refine x_dom (fun hd89 => ?_)
  obtain ⟨f89, m89, e89, a89, w89⟩ := k_dd0 hN (by omega) w87 hd89 (z87.le w87 hd89) (a := 33) (b := 2) (v := 10) (S' := (k_of L_60)) tf_179 (k_eqb_sp tf_180)
  have z89 := z87.st a89
  obtain ⟨P89, w89⟩ : ∃ P, k_wd h.2 (h.2 + 70) 40 (k_of L_60) P (fun _ => none) [] f89 := ⟨_, w89⟩
  obtain ⟨fs90, hfs90⟩ := w87.ob
  refine x_callv (As := [.int 33, .int 2]) (rest := []) 11310 637623 dL_limits_32 mi_X5_put ml_L_27 rfl rfl (Nat.le_of_ble_eq_true rfl) ⟨by decide, by decide⟩ (by omega) (by omega) hfs90 rfl (c_X5_put N _ _ _ _ _ e89) (x_K.some ?_) x_KX.none
  refine x_toX (st' := [.int 10]) rfl ?_
  clear hd89 e89 a89 hfs90 w87 z87
  refine x_iload_n 0 dL_limits_35 rfl rfl ?_
  refine x_iconst 1 (by decide) dL_limits_36 ?_
  refine x_iadd dL_limits_37 ?_
  refine x_toX (st' := [.int 10, .int 10]) rfl ?_
  refine x_icmp_eq_y 43 dL_limits_38 (by decide) (by decide) ?_
  refine x_iinc 10 (lv' := [(2, .int 10), (1, .int 2), (0, .ref h.2)]) dL_limits_43 0 rfl (by decide) (by decide) rfl ?_
  refine x_goto 18 dL_limits_46 (by decide) ?_
  refine x_iload_n 0 dL_limits_18 rfl rfl ?_
  refine x_bipush 12 (by decide) dL_limits_19 ?_
  refine x_icmp_ge_n 49 dL_limits_21 (by decide) (by decide) ?_
  refine x_aload_n 2 dL_limits_24 rfl rfl ?_
  refine x_bipush 12 (by decide) dL_limits_25 ?_
  refine x_iload_n 1 dL_limits_27 rfl rfl ?_
  refine x_imul dL_limits_28 ?_
  refine x_toX (st' := [.int 24, .ref h.2]) rfl ?_
  refine x_iload_n 0 dL_limits_29 rfl rfl ?_
  refine x_iadd dL_limits_30 ?_
  refine x_toX (st' := [.int 34, .ref h.2]) rfl ?_
  refine x_iload_n 1 dL_limits_31 rfl rfl ?_
  refine x_dom (fun hd91 => ?_)
  obtain ⟨f91, m91, e91, a91, w91⟩ := k_dd0 hN (by omega) w89 hd91 (z89.le w89 hd91) (a := 34) (b := 2) (v := 11) (S' := (k_of L_61)) tf_181 (k_eqb_sp tf_182)
  have z91 := z89.st a91
  obtain ⟨P91, w91⟩ : ∃ P, k_wd h.2 (h.2 + 70) 41 (k_of L_61) P (fun _ => none) [] f91 := ⟨_, w91⟩
  obtain ⟨fs92, hfs92⟩ := w89.ob
  refine x_callv (As := [.int 34, .int 2]) (rest := []) 11276 635708 dL_limits_32 mi_X5_put ml_L_27 rfl rfl (Nat.le_of_ble_eq_true rfl) ⟨by decide, by decide⟩ (by omega) (by omega) hfs92 rfl (c_X5_put N _ _ _ _ _ e91) (x_K.some ?_) x_KX.none
  refine x_toX (st' := [.int 11]) rfl ?_
  clear hd91 e91 a91 hfs92 w89 z89
  refine x_iload_n 0 dL_limits_35 rfl rfl ?_
  refine x_iconst 1 (by decide) dL_limits_36 ?_
  refine x_iadd dL_limits_37 ?_
  refine x_toX (st' := [.int 11, .int 11]) rfl ?_
  refine x_icmp_eq_y 43 dL_limits_38 (by decide) (by decide) ?_
  refine x_iinc 11 (lv' := [(2, .int 11), (1, .int 2), (0, .ref h.2)]) dL_limits_43 0 rfl (by decide) (by decide) rfl ?_
  refine x_goto 18 dL_limits_46 (by decide) ?_
  refine x_iload_n 0 dL_limits_18 rfl rfl ?_
  refine x_bipush 12 (by decide) dL_limits_19 ?_
  refine x_icmp_ge_n 49 dL_limits_21 (by decide) (by decide) ?_
  refine x_aload_n 2 dL_limits_24 rfl rfl ?_
  refine x_bipush 12 (by decide) dL_limits_25 ?_
  refine x_iload_n 1 dL_limits_27 rfl rfl ?_
  refine x_imul dL_limits_28 ?_
  refine x_toX (st' := [.int 24, .ref h.2]) rfl ?_
  refine x_iload_n 0 dL_limits_29 rfl rfl ?_
  refine x_iadd dL_limits_30 ?_
  refine x_toX (st' := [.int 35, .ref h.2]) rfl ?_
  refine x_iload_n 1 dL_limits_31 rfl rfl ?_
  refine x_dom (fun hd93 => ?_)
  obtain ⟨f93, m93, e93, a93, w93⟩ := k_dd0 hN (by omega) w91 hd93 (z91.le w91 hd93) (a := 35) (b := 2) (v := 12) (S' := (k_of L_62)) tf_183 (k_eqb_sp tf_184)
  have z93 := z91.st a93
  obtain ⟨P93, w93⟩ : ∃ P, k_wd h.2 (h.2 + 70) 42 (k_of L_62) P (fun _ => none) [] f93 := ⟨_, w93⟩
  obtain ⟨fs94, hfs94⟩ := w91.ob
  refine x_callv (As := [.int 35, .int 2]) (rest := []) 11242 633793 dL_limits_32 mi_X5_put ml_L_27 rfl rfl (Nat.le_of_ble_eq_true rfl) ⟨by decide, by decide⟩ (by omega) (by omega) hfs94 rfl (c_X5_put N _ _ _ _ _ e93) (x_K.some ?_) x_KX.none
  refine x_toX (st' := [.int 12]) rfl ?_
  clear hd93 e93 a93 hfs94 w91 z91
  refine x_iload_n 0 dL_limits_35 rfl rfl ?_
  refine x_iconst 1 (by decide) dL_limits_36 ?_
  refine x_iadd dL_limits_37 ?_
  refine x_toX (st' := [.int 12, .int 12]) rfl ?_
  refine x_icmp_eq_y 43 dL_limits_38 (by decide) (by decide) ?_
  refine x_iinc 12 (lv' := [(2, .int 12), (1, .int 2), (0, .ref h.2)]) dL_limits_43 0 rfl (by decide) (by decide) rfl ?_
  refine x_goto 18 dL_limits_46 (by decide) ?_
  refine x_iload_n 0 dL_limits_18 rfl rfl ?_
  refine x_bipush 12 (by decide) dL_limits_19 ?_
  refine x_icmp_ge_y 49 dL_limits_21 (by decide) (by decide) ?_
  refine x_aload_n 2 dL_limits_49 rfl rfl ?_
  refine x_iconst 0 (by decide) dL_limits_50 ?_
  refine x_sipush 999 (by decide) dL_limits_51 ?_
  refine x_iconst 1 (by decide) dL_limits_54 ?_
  refine x_dom (fun hd96 => ?_)
  obtain ⟨f96, e96, a96, w96⟩ := k_rf0_1 hN (by omega) w93 hd96 (z93.le w93 hd96) (a := 999) (b := 1) tf_185
  have z96 := z93.st a96
  refine x_callsH (As := [.ref h.2, .int 0, .int 999, .int 1]) (rest := []) 11208 631878 dL_limits_55 mi_L_call rfl ml_L_182 rfl rfl (Nat.le_of_ble_eq_true rfl) ⟨by decide, by decide⟩ (by omega) (by omega) (c_L_call N _ _ _ _ _ _ e96) (fun n96 => ?_)
  refine x_toX (st' := [.int (-2013)]) rfl ?_
  clear hd96 e96 a96 w93 z93
  refine x_sipush (-2013) (by decide) dL_limits_58 ?_
  refine x_icmp_ne_n 117 dL_limits_61 (by decide) (by decide) ?_
  refine x_aload_n 2 dL_limits_64 rfl rfl ?_
  refine x_iconst 1 (by decide) dL_limits_65 ?_
  refine x_sipush 999 (by decide) dL_limits_66 ?_
  refine x_iconst 1 (by decide) dL_limits_69 ?_
  refine x_dom (fun hd98 => ?_)
  obtain ⟨f98, e98, a98, w98⟩ := k_rf1_1 hN (by omega) w96 hd98 (z96.le w96 hd98) (a := 999) (b := 1) tf_186
  have z98 := z96.st a98
  refine x_callsH (As := [.ref h.2, .int 1, .int 999, .int 1]) (rest := []) 11174 629963 dL_limits_70 mi_L_call rfl ml_L_182 rfl rfl (Nat.le_of_ble_eq_true rfl) ⟨by decide, by decide⟩ (by omega) (by omega) (c_L_call N _ _ _ _ _ _ e98) (fun n98 => ?_)
  refine x_toX (st' := [.int (-2013)]) rfl ?_
  clear hd98 e98 a98 w96 z96
  refine x_sipush (-2013) (by decide) dL_limits_73 ?_
  refine x_icmp_ne_n 117 dL_limits_76 (by decide) (by decide) ?_
  refine x_aload_n 2 dL_limits_79 rfl rfl ?_
  refine x_bipush 12 (by decide) dL_limits_80 ?_
  refine x_iload_n 1 dL_limits_82 rfl rfl ?_
  refine x_imul dL_limits_83 ?_
  refine x_toX (st' := [.int 24, .ref h.2]) rfl ?_
  refine x_dom (fun hd99 => ?_)
  obtain ⟨f99, m99, e99, a99, w99⟩ := k_dd1 hN (by omega) w98 hd99 (z98.le w98 hd99) (a := 24) (b := 0) (v := 12) (S' := (k_of L_63)) tf_187 (k_eqb_sp tf_188)
  have z99 := z98.st a99
  obtain ⟨P99, w99⟩ : ∃ P, k_wd h.2 (h.2 + 70) 43 (k_of L_63) P (fun _ => none) [] f99 := ⟨_, w99⟩
  obtain ⟨fs100, hfs100⟩ := w98.ob
  refine x_callv (As := [.int 24]) (rest := []) 11141 628054 dL_limits_84 mi_X5_drop ml_L_33 rfl rfl (Nat.le_of_ble_eq_true rfl) ⟨by decide, by decide⟩ (by omega) (by omega) hfs100 rfl (c_X5_drop N _ _ _ _ e99) (x_K.some ?_) x_KX.none
  refine x_toX (st' := [.int 12]) rfl ?_
  clear hd99 e99 a99 hfs100 w98 z98
  refine x_bipush 12 (by decide) dL_limits_87 ?_
  refine x_icmp_ne_n 117 dL_limits_89 (by decide) (by decide) ?_
  refine x_aload_n 2 dL_limits_92 rfl rfl ?_
  refine x_bipush 12 (by decide) dL_limits_93 ?_
  refine x_iload_n 1 dL_limits_95 rfl rfl ?_
  refine x_imul dL_limits_96 ?_
  refine x_toX (st' := [.int 24, .ref h.2]) rfl ?_
  refine x_bipush 9 (by decide) dL_limits_97 ?_
  refine x_dom (fun hd101 => ?_)
  obtain ⟨f101, m101, e101, a101, w101⟩ := k_dd0 hN (by omega) w99 hd101 (z99.le w99 hd101) (a := 24) (b := 9) (v := 12) (S' := (k_of L_64)) tf_189 (k_eqb_sp tf_190)
  have z101 := z99.st a101
  obtain ⟨P101, w101⟩ : ∃ P, k_wd h.2 (h.2 + 70) 44 (k_of L_64) P (fun _ => none) [] f101 := ⟨_, w101⟩
  obtain ⟨fs102, hfs102⟩ := w99.ob
  refine x_callv (As := [.int 24, .int 9]) (rest := []) 11107 626139 dL_limits_99 mi_X5_put ml_L_27 rfl rfl (Nat.le_of_ble_eq_true rfl) ⟨by decide, by decide⟩ (by omega) (by omega) hfs102 rfl (c_X5_put N _ _ _ _ _ e101) (x_K.some ?_) x_KX.none
  refine x_toX (st' := [.int 12]) rfl ?_
  clear hd101 e101 a101 hfs102 w99 z99
  refine x_bipush 12 (by decide) dL_limits_102 ?_
  refine x_icmp_ne_n 117 dL_limits_104 (by decide) (by decide) ?_
  refine x_aload_n 2 dL_limits_107 rfl rfl ?_
  refine x_dom (fun hd103 => ?_)
  obtain ⟨f103, m103, e103, a103, w103⟩ := k_dd2 hN (by omega) w101 hd103 (z101.le w101 hd103) (a := 0) (b := 0) (v := 3) (S' := (k_of L_65)) tf_191 (k_eqb_sp tf_192)
  have z103 := z101.st a103
  obtain ⟨P103, w103⟩ : ∃ P, k_wd h.2 (h.2 + 70) 45 (k_of L_65) P (fun _ => none) [] f103 := ⟨_, w103⟩
  obtain ⟨fs104, hfs104⟩ := w101.ob
  refine x_callv (As := []) (rest := []) 11075 624236 dL_limits_108 mi_X5_closeRun ml_L_37 rfl rfl (Nat.le_of_ble_eq_true rfl) ⟨by decide, by decide⟩ (by omega) (by omega) hfs104 rfl (c_X5_closeRun N _ _ _ e103) (x_K.some ?_) x_KX.none
  refine x_toX (st' := [.int 3]) rfl ?_
  clear hd103 e103 a103 hfs104 w101 z101
  refine x_iload_n 1 dL_limits_111 rfl rfl ?_
  refine x_iconst 1 (by decide) dL_limits_112 ?_
  refine x_iadd dL_limits_113 ?_
  refine x_toX (st' := [.int 3, .int 3]) rfl ?_
  refine x_icmp_eq_y 119 dL_limits_114 (by decide) (by decide) ?_
  refine x_iinc 3 (lv' := [(1, .int 3), (2, .int 12), (0, .ref h.2)]) dL_limits_119 1 rfl (by decide) (by decide) rfl ?_
  refine x_goto 10 dL_limits_122 (by decide) ?_
  refine x_iload_n 0 dL_limits_10 rfl rfl ?_
  refine x_bipush 6 (by decide) dL_limits_11 ?_
  refine x_icmp_ge_n 125 dL_limits_13 (by decide) (by decide) ?_
  refine x_iconst 0 (by decide) dL_limits_16 ?_
  refine x_istore_n (i := 2) (lv' := [(2, .int 0), (1, .int 3), (0, .ref h.2)]) dL_limits_17 rfl (by decide) rfl ?_
  refine x_iload_n 0 dL_limits_18 rfl rfl ?_
  refine x_bipush 12 (by decide) dL_limits_19 ?_
  refine x_icmp_ge_n 49 dL_limits_21 (by decide) (by decide) ?_
  refine x_aload_n 2 dL_limits_24 rfl rfl ?_
  refine x_bipush 12 (by decide) dL_limits_25 ?_
  refine x_iload_n 1 dL_limits_27 rfl rfl ?_
  refine x_imul dL_limits_28 ?_
  refine x_toX (st' := [.int 36, .ref h.2]) rfl ?_
  refine x_iload_n 0 dL_limits_29 rfl rfl ?_
  refine x_iadd dL_limits_30 ?_
  refine x_toX (st' := [.int 36, .ref h.2]) rfl ?_
  refine x_iload_n 1 dL_limits_31 rfl rfl ?_
  refine x_dom (fun hd105 => ?_)
  obtain ⟨f105, m105, e105, a105, w105⟩ := k_dd0 hN (by omega) w103 hd105 (z103.le w103 hd105) (a := 36) (b := 3) (v := 1) (S' := (k_of L_66)) tf_193 (k_eqb_sp tf_194)
  have z105 := z103.st a105
  obtain ⟨P105, w105⟩ : ∃ P, k_wd h.2 (h.2 + 70) 46 (k_of L_66) P (fun _ => none) [] f105 := ⟨_, w105⟩
  obtain ⟨fs106, hfs106⟩ := w103.ob
  refine x_callv (As := [.int 36, .int 3]) (rest := []) 11041 622321 dL_limits_32 mi_X5_put ml_L_27 rfl rfl (Nat.le_of_ble_eq_true rfl) ⟨by decide, by decide⟩ (by omega) (by omega) hfs106 rfl (c_X5_put N _ _ _ _ _ e105) (x_K.some ?_) x_KX.none
  refine x_toX (st' := [.int 1]) rfl ?_
  clear hd105 e105 a105 hfs106 w103 z103
  refine x_iload_n 0 dL_limits_35 rfl rfl ?_
  refine x_iconst 1 (by decide) dL_limits_36 ?_
  refine x_iadd dL_limits_37 ?_
  refine x_toX (st' := [.int 1, .int 1]) rfl ?_
  refine x_icmp_eq_y 43 dL_limits_38 (by decide) (by decide) ?_
  refine x_iinc 1 (lv' := [(2, .int 1), (1, .int 3), (0, .ref h.2)]) dL_limits_43 0 rfl (by decide) (by decide) rfl ?_
  refine x_goto 18 dL_limits_46 (by decide) ?_
  refine x_iload_n 0 dL_limits_18 rfl rfl ?_
  refine x_bipush 12 (by decide) dL_limits_19 ?_
  refine x_icmp_ge_n 49 dL_limits_21 (by decide) (by decide) ?_
  refine x_aload_n 2 dL_limits_24 rfl rfl ?_
  refine x_bipush 12 (by decide) dL_limits_25 ?_
  refine x_iload_n 1 dL_limits_27 rfl rfl ?_
  refine x_imul dL_limits_28 ?_
  refine x_toX (st' := [.int 36, .ref h.2]) rfl ?_
  refine x_iload_n 0 dL_limits_29 rfl rfl ?_
  refine x_iadd dL_limits_30 ?_
  refine x_toX (st' := [.int 37, .ref h.2]) rfl ?_
  refine x_iload_n 1 dL_limits_31 rfl rfl ?_
  refine x_dom (fun hd107 => ?_)
  obtain ⟨f107, m107, e107, a107, w107⟩ := k_dd0 hN (by omega) w105 hd107 (z105.le w105 hd107) (a := 37) (b := 3) (v := 2) (S' := (k_of L_67)) tf_195 (k_eqb_sp tf_196)
  have z107 := z105.st a107
  obtain ⟨P107, w107⟩ : ∃ P, k_wd h.2 (h.2 + 70) 47 (k_of L_67) P (fun _ => none) [] f107 := ⟨_, w107⟩
  obtain ⟨fs108, hfs108⟩ := w105.ob
  refine x_callv (As := [.int 37, .int 3]) (rest := []) 11007 620406 dL_limits_32 mi_X5_put ml_L_27 rfl rfl (Nat.le_of_ble_eq_true rfl) ⟨by decide, by decide⟩ (by omega) (by omega) hfs108 rfl (c_X5_put N _ _ _ _ _ e107) (x_K.some ?_) x_KX.none
  refine x_toX (st' := [.int 2]) rfl ?_
  clear hd107 e107 a107 hfs108 w105 z105
  refine x_iload_n 0 dL_limits_35 rfl rfl ?_
  refine x_iconst 1 (by decide) dL_limits_36 ?_
  refine x_iadd dL_limits_37 ?_
  refine x_toX (st' := [.int 2, .int 2]) rfl ?_
  refine x_icmp_eq_y 43 dL_limits_38 (by decide) (by decide) ?_
  refine x_iinc 2 (lv' := [(2, .int 2), (1, .int 3), (0, .ref h.2)]) dL_limits_43 0 rfl (by decide) (by decide) rfl ?_
  refine x_goto 18 dL_limits_46 (by decide) ?_
  refine x_iload_n 0 dL_limits_18 rfl rfl ?_
  refine x_bipush 12 (by decide) dL_limits_19 ?_
  refine x_icmp_ge_n 49 dL_limits_21 (by decide) (by decide) ?_
  refine x_aload_n 2 dL_limits_24 rfl rfl ?_
  refine x_bipush 12 (by decide) dL_limits_25 ?_
  refine x_iload_n 1 dL_limits_27 rfl rfl ?_
  refine x_imul dL_limits_28 ?_
  refine x_toX (st' := [.int 36, .ref h.2]) rfl ?_
  refine x_iload_n 0 dL_limits_29 rfl rfl ?_
  refine x_iadd dL_limits_30 ?_
  refine x_toX (st' := [.int 38, .ref h.2]) rfl ?_
  refine x_iload_n 1 dL_limits_31 rfl rfl ?_
  refine x_dom (fun hd109 => ?_)
  obtain ⟨f109, m109, e109, a109, w109⟩ := k_dd0 hN (by omega) w107 hd109 (z107.le w107 hd109) (a := 38) (b := 3) (v := 3) (S' := (k_of L_68)) tf_197 (k_eqb_sp tf_198)
  have z109 := z107.st a109
  obtain ⟨P109, w109⟩ : ∃ P, k_wd h.2 (h.2 + 70) 48 (k_of L_68) P (fun _ => none) [] f109 := ⟨_, w109⟩
  obtain ⟨fs110, hfs110⟩ := w107.ob
  refine x_callv (As := [.int 38, .int 3]) (rest := []) 10973 618491 dL_limits_32 mi_X5_put ml_L_27 rfl rfl (Nat.le_of_ble_eq_true rfl) ⟨by decide, by decide⟩ (by omega) (by omega) hfs110 rfl (c_X5_put N _ _ _ _ _ e109) (x_K.some ?_) x_KX.none
  refine x_toX (st' := [.int 3]) rfl ?_
  clear hd109 e109 a109 hfs110 w107 z107
  refine x_iload_n 0 dL_limits_35 rfl rfl ?_
  refine x_iconst 1 (by decide) dL_limits_36 ?_
  refine x_iadd dL_limits_37 ?_
  refine x_toX (st' := [.int 3, .int 3]) rfl ?_
  refine x_icmp_eq_y 43 dL_limits_38 (by decide) (by decide) ?_
  refine x_iinc 3 (lv' := [(2, .int 3), (1, .int 3), (0, .ref h.2)]) dL_limits_43 0 rfl (by decide) (by decide) rfl ?_
  refine x_goto 18 dL_limits_46 (by decide) ?_
  refine x_iload_n 0 dL_limits_18 rfl rfl ?_
  refine x_bipush 12 (by decide) dL_limits_19 ?_
  refine x_icmp_ge_n 49 dL_limits_21 (by decide) (by decide) ?_
  refine x_aload_n 2 dL_limits_24 rfl rfl ?_
  refine x_bipush 12 (by decide) dL_limits_25 ?_
  refine x_iload_n 1 dL_limits_27 rfl rfl ?_
  refine x_imul dL_limits_28 ?_
  refine x_toX (st' := [.int 36, .ref h.2]) rfl ?_
  refine x_iload_n 0 dL_limits_29 rfl rfl ?_
  refine x_iadd dL_limits_30 ?_
  refine x_toX (st' := [.int 39, .ref h.2]) rfl ?_
  refine x_iload_n 1 dL_limits_31 rfl rfl ?_
  refine x_dom (fun hd111 => ?_)
  obtain ⟨f111, m111, e111, a111, w111⟩ := k_dd0 hN (by omega) w109 hd111 (z109.le w109 hd111) (a := 39) (b := 3) (v := 4) (S' := (k_of L_69)) tf_199 (k_eqb_sp tf_200)
  have z111 := z109.st a111
  obtain ⟨P111, w111⟩ : ∃ P, k_wd h.2 (h.2 + 70) 49 (k_of L_69) P (fun _ => none) [] f111 := ⟨_, w111⟩
  obtain ⟨fs112, hfs112⟩ := w109.ob
  refine x_callv (As := [.int 39, .int 3]) (rest := []) 10939 616576 dL_limits_32 mi_X5_put ml_L_27 rfl rfl (Nat.le_of_ble_eq_true rfl) ⟨by decide, by decide⟩ (by omega) (by omega) hfs112 rfl (c_X5_put N _ _ _ _ _ e111) (x_K.some ?_) x_KX.none
  refine x_toX (st' := [.int 4]) rfl ?_
  clear hd111 e111 a111 hfs112 w109 z109
  refine x_iload_n 0 dL_limits_35 rfl rfl ?_
  refine x_iconst 1 (by decide) dL_limits_36 ?_
  refine x_iadd dL_limits_37 ?_
  refine x_toX (st' := [.int 4, .int 4]) rfl ?_
  refine x_icmp_eq_y 43 dL_limits_38 (by decide) (by decide) ?_
  refine x_iinc 4 (lv' := [(2, .int 4), (1, .int 3), (0, .ref h.2)]) dL_limits_43 0 rfl (by decide) (by decide) rfl ?_
  refine x_goto 18 dL_limits_46 (by decide) ?_
  refine x_iload_n 0 dL_limits_18 rfl rfl ?_
  refine x_bipush 12 (by decide) dL_limits_19 ?_
  refine x_icmp_ge_n 49 dL_limits_21 (by decide) (by decide) ?_
  refine x_aload_n 2 dL_limits_24 rfl rfl ?_
  refine x_bipush 12 (by decide) dL_limits_25 ?_
  refine x_iload_n 1 dL_limits_27 rfl rfl ?_
  refine x_imul dL_limits_28 ?_
  refine x_toX (st' := [.int 36, .ref h.2]) rfl ?_
  refine x_iload_n 0 dL_limits_29 rfl rfl ?_
  refine x_iadd dL_limits_30 ?_
  refine x_toX (st' := [.int 40, .ref h.2]) rfl ?_
  refine x_iload_n 1 dL_limits_31 rfl rfl ?_
  refine x_dom (fun hd113 => ?_)
  obtain ⟨f113, m113, e113, a113, w113⟩ := k_dd0 hN (by omega) w111 hd113 (z111.le w111 hd113) (a := 40) (b := 3) (v := 5) (S' := (k_of L_70)) tf_201 (k_eqb_sp tf_202)
  have z113 := z111.st a113
  obtain ⟨P113, w113⟩ : ∃ P, k_wd h.2 (h.2 + 70) 50 (k_of L_70) P (fun _ => none) [] f113 := ⟨_, w113⟩
  obtain ⟨fs114, hfs114⟩ := w111.ob
  refine x_callv (As := [.int 40, .int 3]) (rest := []) 10905 614661 dL_limits_32 mi_X5_put ml_L_27 rfl rfl (Nat.le_of_ble_eq_true rfl) ⟨by decide, by decide⟩ (by omega) (by omega) hfs114 rfl (c_X5_put N _ _ _ _ _ e113) (x_K.some ?_) x_KX.none
  refine x_toX (st' := [.int 5]) rfl ?_
  clear hd113 e113 a113 hfs114 w111 z111
  refine x_iload_n 0 dL_limits_35 rfl rfl ?_
  refine x_iconst 1 (by decide) dL_limits_36 ?_
  refine x_iadd dL_limits_37 ?_
  refine x_toX (st' := [.int 5, .int 5]) rfl ?_
  refine x_icmp_eq_y 43 dL_limits_38 (by decide) (by decide) ?_
  refine x_iinc 5 (lv' := [(2, .int 5), (1, .int 3), (0, .ref h.2)]) dL_limits_43 0 rfl (by decide) (by decide) rfl ?_
  refine x_goto 18 dL_limits_46 (by decide) ?_
  refine x_iload_n 0 dL_limits_18 rfl rfl ?_
  refine x_bipush 12 (by decide) dL_limits_19 ?_
  refine x_icmp_ge_n 49 dL_limits_21 (by decide) (by decide) ?_
  refine x_aload_n 2 dL_limits_24 rfl rfl ?_
  refine x_bipush 12 (by decide) dL_limits_25 ?_
  refine x_iload_n 1 dL_limits_27 rfl rfl ?_
  refine x_imul dL_limits_28 ?_
  refine x_toX (st' := [.int 36, .ref h.2]) rfl ?_
  refine x_iload_n 0 dL_limits_29 rfl rfl ?_
  refine x_iadd dL_limits_30 ?_
  refine x_toX (st' := [.int 41, .ref h.2]) rfl ?_
  refine x_iload_n 1 dL_limits_31 rfl rfl ?_
  refine x_dom (fun hd115 => ?_)
  obtain ⟨f115, m115, e115, a115, w115⟩ := k_dd0 hN (by omega) w113 hd115 (z113.le w113 hd115) (a := 41) (b := 3) (v := 6) (S' := (k_of L_71)) tf_203 (k_eqb_sp tf_204)
  have z115 := z113.st a115
  obtain ⟨P115, w115⟩ : ∃ P, k_wd h.2 (h.2 + 70) 51 (k_of L_71) P (fun _ => none) [] f115 := ⟨_, w115⟩
  obtain ⟨fs116, hfs116⟩ := w113.ob
  refine x_callv (As := [.int 41, .int 3]) (rest := []) 10871 612746 dL_limits_32 mi_X5_put ml_L_27 rfl rfl (Nat.le_of_ble_eq_true rfl) ⟨by decide, by decide⟩ (by omega) (by omega) hfs116 rfl (c_X5_put N _ _ _ _ _ e115) (x_K.some ?_) x_KX.none
  refine x_toX (st' := [.int 6]) rfl ?_
  clear hd115 e115 a115 hfs116 w113 z113
  refine x_iload_n 0 dL_limits_35 rfl rfl ?_
  refine x_iconst 1 (by decide) dL_limits_36 ?_
  refine x_iadd dL_limits_37 ?_
  refine x_toX (st' := [.int 6, .int 6]) rfl ?_
  refine x_icmp_eq_y 43 dL_limits_38 (by decide) (by decide) ?_
  refine x_iinc 6 (lv' := [(2, .int 6), (1, .int 3), (0, .ref h.2)]) dL_limits_43 0 rfl (by decide) (by decide) rfl ?_
  refine x_goto 18 dL_limits_46 (by decide) ?_
  refine x_iload_n 0 dL_limits_18 rfl rfl ?_
  refine x_bipush 12 (by decide) dL_limits_19 ?_
  refine x_icmp_ge_n 49 dL_limits_21 (by decide) (by decide) ?_
  refine x_aload_n 2 dL_limits_24 rfl rfl ?_
  refine x_bipush 12 (by decide) dL_limits_25 ?_
  refine x_iload_n 1 dL_limits_27 rfl rfl ?_
  refine x_imul dL_limits_28 ?_
  refine x_toX (st' := [.int 36, .ref h.2]) rfl ?_
  refine x_iload_n 0 dL_limits_29 rfl rfl ?_
  refine x_iadd dL_limits_30 ?_
  refine x_toX (st' := [.int 42, .ref h.2]) rfl ?_
  refine x_iload_n 1 dL_limits_31 rfl rfl ?_
  refine x_dom (fun hd117 => ?_)
  obtain ⟨f117, m117, e117, a117, w117⟩ := k_dd0 hN (by omega) w115 hd117 (z115.le w115 hd117) (a := 42) (b := 3) (v := 7) (S' := (k_of L_72)) tf_205 (k_eqb_sp tf_206)
  have z117 := z115.st a117
  obtain ⟨P117, w117⟩ : ∃ P, k_wd h.2 (h.2 + 70) 52 (k_of L_72) P (fun _ => none) [] f117 := ⟨_, w117⟩
  obtain ⟨fs118, hfs118⟩ := w115.ob
  refine x_callv (As := [.int 42, .int 3]) (rest := []) 10837 610831 dL_limits_32 mi_X5_put ml_L_27 rfl rfl (Nat.le_of_ble_eq_true rfl) ⟨by decide, by decide⟩ (by omega) (by omega) hfs118 rfl (c_X5_put N _ _ _ _ _ e117) (x_K.some ?_) x_KX.none
  refine x_toX (st' := [.int 7]) rfl ?_
  clear hd117 e117 a117 hfs118 w115 z115
  refine x_iload_n 0 dL_limits_35 rfl rfl ?_
  refine x_iconst 1 (by decide) dL_limits_36 ?_
  refine x_iadd dL_limits_37 ?_
  refine x_toX (st' := [.int 7, .int 7]) rfl ?_
  refine x_icmp_eq_y 43 dL_limits_38 (by decide) (by decide) ?_
  refine x_iinc 7 (lv' := [(2, .int 7), (1, .int 3), (0, .ref h.2)]) dL_limits_43 0 rfl (by decide) (by decide) rfl ?_
  refine x_goto 18 dL_limits_46 (by decide) ?_
  refine x_iload_n 0 dL_limits_18 rfl rfl ?_
  refine x_bipush 12 (by decide) dL_limits_19 ?_
  refine x_icmp_ge_n 49 dL_limits_21 (by decide) (by decide) ?_
  refine x_aload_n 2 dL_limits_24 rfl rfl ?_
  refine x_bipush 12 (by decide) dL_limits_25 ?_
  refine x_iload_n 1 dL_limits_27 rfl rfl ?_
  refine x_imul dL_limits_28 ?_
  refine x_toX (st' := [.int 36, .ref h.2]) rfl ?_
  refine x_iload_n 0 dL_limits_29 rfl rfl ?_
  refine x_iadd dL_limits_30 ?_
  refine x_toX (st' := [.int 43, .ref h.2]) rfl ?_
  refine x_iload_n 1 dL_limits_31 rfl rfl ?_
  refine x_dom (fun hd119 => ?_)
  obtain ⟨f119, m119, e119, a119, w119⟩ := k_dd0 hN (by omega) w117 hd119 (z117.le w117 hd119) (a := 43) (b := 3) (v := 8) (S' := (k_of L_73)) tf_207 (k_eqb_sp tf_208)
  have z119 := z117.st a119
  obtain ⟨P119, w119⟩ : ∃ P, k_wd h.2 (h.2 + 70) 53 (k_of L_73) P (fun _ => none) [] f119 := ⟨_, w119⟩
  obtain ⟨fs120, hfs120⟩ := w117.ob
  refine x_callv (As := [.int 43, .int 3]) (rest := []) 10803 608916 dL_limits_32 mi_X5_put ml_L_27 rfl rfl (Nat.le_of_ble_eq_true rfl) ⟨by decide, by decide⟩ (by omega) (by omega) hfs120 rfl (c_X5_put N _ _ _ _ _ e119) (x_K.some ?_) x_KX.none
  refine x_toX (st' := [.int 8]) rfl ?_
  clear hd119 e119 a119 hfs120 w117 z117
  refine x_iload_n 0 dL_limits_35 rfl rfl ?_
  refine x_iconst 1 (by decide) dL_limits_36 ?_
  refine x_iadd dL_limits_37 ?_
  refine x_toX (st' := [.int 8, .int 8]) rfl ?_
  refine x_icmp_eq_y 43 dL_limits_38 (by decide) (by decide) ?_
  refine x_iinc 8 (lv' := [(2, .int 8), (1, .int 3), (0, .ref h.2)]) dL_limits_43 0 rfl (by decide) (by decide) rfl ?_
  refine x_goto 18 dL_limits_46 (by decide) ?_
  refine x_iload_n 0 dL_limits_18 rfl rfl ?_
  refine x_bipush 12 (by decide) dL_limits_19 ?_
  refine x_icmp_ge_n 49 dL_limits_21 (by decide) (by decide) ?_
  refine x_aload_n 2 dL_limits_24 rfl rfl ?_
  refine x_bipush 12 (by decide) dL_limits_25 ?_
  refine x_iload_n 1 dL_limits_27 rfl rfl ?_
  refine x_imul dL_limits_28 ?_
  refine x_toX (st' := [.int 36, .ref h.2]) rfl ?_
  refine x_iload_n 0 dL_limits_29 rfl rfl ?_
  refine x_iadd dL_limits_30 ?_
  refine x_toX (st' := [.int 44, .ref h.2]) rfl ?_
  refine x_iload_n 1 dL_limits_31 rfl rfl ?_
  refine x_dom (fun hd121 => ?_)
  obtain ⟨f121, m121, e121, a121, w121⟩ := k_dd0 hN (by omega) w119 hd121 (z119.le w119 hd121) (a := 44) (b := 3) (v := 9) (S' := (k_of L_74)) tf_209 (k_eqb_sp tf_210)
  have z121 := z119.st a121
  obtain ⟨P121, w121⟩ : ∃ P, k_wd h.2 (h.2 + 70) 54 (k_of L_74) P (fun _ => none) [] f121 := ⟨_, w121⟩
  obtain ⟨fs122, hfs122⟩ := w119.ob
  refine x_callv (As := [.int 44, .int 3]) (rest := []) 10769 607001 dL_limits_32 mi_X5_put ml_L_27 rfl rfl (Nat.le_of_ble_eq_true rfl) ⟨by decide, by decide⟩ (by omega) (by omega) hfs122 rfl (c_X5_put N _ _ _ _ _ e121) (x_K.some ?_) x_KX.none
  refine x_toX (st' := [.int 9]) rfl ?_
  clear hd121 e121 a121 hfs122 w119 z119
  refine x_iload_n 0 dL_limits_35 rfl rfl ?_
  refine x_iconst 1 (by decide) dL_limits_36 ?_
  refine x_iadd dL_limits_37 ?_
  refine x_toX (st' := [.int 9, .int 9]) rfl ?_
  refine x_icmp_eq_y 43 dL_limits_38 (by decide) (by decide) ?_
  refine x_iinc 9 (lv' := [(2, .int 9), (1, .int 3), (0, .ref h.2)]) dL_limits_43 0 rfl (by decide) (by decide) rfl ?_
  refine x_goto 18 dL_limits_46 (by decide) ?_
  refine x_iload_n 0 dL_limits_18 rfl rfl ?_
  refine x_bipush 12 (by decide) dL_limits_19 ?_
  refine x_icmp_ge_n 49 dL_limits_21 (by decide) (by decide) ?_
  refine x_aload_n 2 dL_limits_24 rfl rfl ?_
  refine x_bipush 12 (by decide) dL_limits_25 ?_
  refine x_iload_n 1 dL_limits_27 rfl rfl ?_
  refine x_imul dL_limits_28 ?_
  refine x_toX (st' := [.int 36, .ref h.2]) rfl ?_
  refine x_iload_n 0 dL_limits_29 rfl rfl ?_
  refine x_iadd dL_limits_30 ?_
  refine x_toX (st' := [.int 45, .ref h.2]) rfl ?_
  refine x_iload_n 1 dL_limits_31 rfl rfl ?_
  refine x_dom (fun hd123 => ?_)
  obtain ⟨f123, m123, e123, a123, w123⟩ := k_dd0 hN (by omega) w121 hd123 (z121.le w121 hd123) (a := 45) (b := 3) (v := 10) (S' := (k_of L_75)) tf_211 (k_eqb_sp tf_212)
  have z123 := z121.st a123
  obtain ⟨P123, w123⟩ : ∃ P, k_wd h.2 (h.2 + 70) 55 (k_of L_75) P (fun _ => none) [] f123 := ⟨_, w123⟩
  obtain ⟨fs124, hfs124⟩ := w121.ob
  refine x_callv (As := [.int 45, .int 3]) (rest := []) 10735 605086 dL_limits_32 mi_X5_put ml_L_27 rfl rfl (Nat.le_of_ble_eq_true rfl) ⟨by decide, by decide⟩ (by omega) (by omega) hfs124 rfl (c_X5_put N _ _ _ _ _ e123) (x_K.some ?_) x_KX.none
  refine x_toX (st' := [.int 10]) rfl ?_
  clear hd123 e123 a123 hfs124 w121 z121
  refine x_iload_n 0 dL_limits_35 rfl rfl ?_
  refine x_iconst 1 (by decide) dL_limits_36 ?_
  refine x_iadd dL_limits_37 ?_
  refine x_toX (st' := [.int 10, .int 10]) rfl ?_
  refine x_icmp_eq_y 43 dL_limits_38 (by decide) (by decide) ?_
  refine x_iinc 10 (lv' := [(2, .int 10), (1, .int 3), (0, .ref h.2)]) dL_limits_43 0 rfl (by decide) (by decide) rfl ?_
  refine x_goto 18 dL_limits_46 (by decide) ?_
  refine x_iload_n 0 dL_limits_18 rfl rfl ?_
  refine x_bipush 12 (by decide) dL_limits_19 ?_
  refine x_icmp_ge_n 49 dL_limits_21 (by decide) (by decide) ?_
  refine x_aload_n 2 dL_limits_24 rfl rfl ?_
  refine x_bipush 12 (by decide) dL_limits_25 ?_
  refine x_iload_n 1 dL_limits_27 rfl rfl ?_
  refine x_imul dL_limits_28 ?_
  refine x_toX (st' := [.int 36, .ref h.2]) rfl ?_
  refine x_iload_n 0 dL_limits_29 rfl rfl ?_
  refine x_iadd dL_limits_30 ?_
  refine x_toX (st' := [.int 46, .ref h.2]) rfl ?_
  refine x_iload_n 1 dL_limits_31 rfl rfl ?_
  refine x_dom (fun hd125 => ?_)
  obtain ⟨f125, m125, e125, a125, w125⟩ := k_dd0 hN (by omega) w123 hd125 (z123.le w123 hd125) (a := 46) (b := 3) (v := 11) (S' := (k_of L_76)) tf_213 (k_eqb_sp tf_214)
  have z125 := z123.st a125
  obtain ⟨P125, w125⟩ : ∃ P, k_wd h.2 (h.2 + 70) 56 (k_of L_76) P (fun _ => none) [] f125 := ⟨_, w125⟩
  obtain ⟨fs126, hfs126⟩ := w123.ob
  refine x_callv (As := [.int 46, .int 3]) (rest := []) 10701 603171 dL_limits_32 mi_X5_put ml_L_27 rfl rfl (Nat.le_of_ble_eq_true rfl) ⟨by decide, by decide⟩ (by omega) (by omega) hfs126 rfl (c_X5_put N _ _ _ _ _ e125) (x_K.some ?_) x_KX.none
  refine x_toX (st' := [.int 11]) rfl ?_
  clear hd125 e125 a125 hfs126 w123 z123
  refine x_iload_n 0 dL_limits_35 rfl rfl ?_
  refine x_iconst 1 (by decide) dL_limits_36 ?_
  refine x_iadd dL_limits_37 ?_
  refine x_toX (st' := [.int 11, .int 11]) rfl ?_
  refine x_icmp_eq_y 43 dL_limits_38 (by decide) (by decide) ?_
  refine x_iinc 11 (lv' := [(2, .int 11), (1, .int 3), (0, .ref h.2)]) dL_limits_43 0 rfl (by decide) (by decide) rfl ?_
  refine x_goto 18 dL_limits_46 (by decide) ?_
  refine x_iload_n 0 dL_limits_18 rfl rfl ?_
  refine x_bipush 12 (by decide) dL_limits_19 ?_
  refine x_icmp_ge_n 49 dL_limits_21 (by decide) (by decide) ?_
  refine x_aload_n 2 dL_limits_24 rfl rfl ?_
  refine x_bipush 12 (by decide) dL_limits_25 ?_
  refine x_iload_n 1 dL_limits_27 rfl rfl ?_
  refine x_imul dL_limits_28 ?_
  refine x_toX (st' := [.int 36, .ref h.2]) rfl ?_
  refine x_iload_n 0 dL_limits_29 rfl rfl ?_
  refine x_iadd dL_limits_30 ?_
  refine x_toX (st' := [.int 47, .ref h.2]) rfl ?_
  refine x_iload_n 1 dL_limits_31 rfl rfl ?_
  refine x_dom (fun hd127 => ?_)
  obtain ⟨f127, m127, e127, a127, w127⟩ := k_dd0 hN (by omega) w125 hd127 (z125.le w125 hd127) (a := 47) (b := 3) (v := 12) (S' := (k_of L_77)) tf_215 (k_eqb_sp tf_216)
  have z127 := z125.st a127
  obtain ⟨P127, w127⟩ : ∃ P, k_wd h.2 (h.2 + 70) 57 (k_of L_77) P (fun _ => none) [] f127 := ⟨_, w127⟩
  obtain ⟨fs128, hfs128⟩ := w125.ob
  refine x_callv (As := [.int 47, .int 3]) (rest := []) 10667 601256 dL_limits_32 mi_X5_put ml_L_27 rfl rfl (Nat.le_of_ble_eq_true rfl) ⟨by decide, by decide⟩ (by omega) (by omega) hfs128 rfl (c_X5_put N _ _ _ _ _ e127) (x_K.some ?_) x_KX.none
  refine x_toX (st' := [.int 12]) rfl ?_
  clear hd127 e127 a127 hfs128 w125 z125
  refine x_iload_n 0 dL_limits_35 rfl rfl ?_
  refine x_iconst 1 (by decide) dL_limits_36 ?_
  refine x_iadd dL_limits_37 ?_
  refine x_toX (st' := [.int 12, .int 12]) rfl ?_
  refine x_icmp_eq_y 43 dL_limits_38 (by decide) (by decide) ?_
  refine x_iinc 12 (lv' := [(2, .int 12), (1, .int 3), (0, .ref h.2)]) dL_limits_43 0 rfl (by decide) (by decide) rfl ?_
  refine x_goto 18 dL_limits_46 (by decide) ?_
  refine x_iload_n 0 dL_limits_18 rfl rfl ?_
  refine x_bipush 12 (by decide) dL_limits_19 ?_
  refine x_icmp_ge_y 49 dL_limits_21 (by decide) (by decide) ?_
  refine x_aload_n 2 dL_limits_49 rfl rfl ?_
  refine x_iconst 0 (by decide) dL_limits_50 ?_
  refine x_sipush 999 (by decide) dL_limits_51 ?_
  refine x_iconst 1 (by decide) dL_limits_54 ?_
  refine x_dom (fun hd130 => ?_)
  obtain ⟨f130, e130, a130, w130⟩ := k_rf0_1 hN (by omega) w127 hd130 (z127.le w127 hd130) (a := 999) (b := 1) tf_217
  have z130 := z127.st a130
  refine x_callsH (As := [.ref h.2, .int 0, .int 999, .int 1]) (rest := []) 10633 599341 dL_limits_55 mi_L_call rfl ml_L_182 rfl rfl (Nat.le_of_ble_eq_true rfl) ⟨by decide, by decide⟩ (by omega) (by omega) (c_L_call N _ _ _ _ _ _ e130) (fun n130 => ?_)
  refine x_toX (st' := [.int (-2013)]) rfl ?_
  clear hd130 e130 a130 w127 z127
  refine x_sipush (-2013) (by decide) dL_limits_58 ?_
  refine x_icmp_ne_n 117 dL_limits_61 (by decide) (by decide) ?_
  refine x_aload_n 2 dL_limits_64 rfl rfl ?_
  refine x_iconst 1 (by decide) dL_limits_65 ?_
  refine x_sipush 999 (by decide) dL_limits_66 ?_
  refine x_iconst 1 (by decide) dL_limits_69 ?_
  refine x_dom (fun hd132 => ?_)
  obtain ⟨f132, e132, a132, w132⟩ := k_rf1_1 hN (by omega) w130 hd132 (z130.le w130 hd132) (a := 999) (b := 1) tf_218
  have z132 := z130.st a132
  refine x_callsH (As := [.ref h.2, .int 1, .int 999, .int 1]) (rest := []) 10599 597426 dL_limits_70 mi_L_call rfl ml_L_182 rfl rfl (Nat.le_of_ble_eq_true rfl) ⟨by decide, by decide⟩ (by omega) (by omega) (c_L_call N _ _ _ _ _ _ e132) (fun n132 => ?_)
  refine x_toX (st' := [.int (-2013)]) rfl ?_
  clear hd132 e132 a132 w130 z130
  refine x_sipush (-2013) (by decide) dL_limits_73 ?_
  refine x_icmp_ne_n 117 dL_limits_76 (by decide) (by decide) ?_
  refine x_aload_n 2 dL_limits_79 rfl rfl ?_
  refine x_bipush 12 (by decide) dL_limits_80 ?_
  refine x_iload_n 1 dL_limits_82 rfl rfl ?_
  refine x_imul dL_limits_83 ?_
  refine x_toX (st' := [.int 36, .ref h.2]) rfl ?_
  refine x_dom (fun hd133 => ?_)
  obtain ⟨f133, m133, e133, a133, w133⟩ := k_dd1 hN (by omega) w132 hd133 (z132.le w132 hd133) (a := 36) (b := 0) (v := 12) (S' := (k_of L_78)) tf_219 (k_eqb_sp tf_220)
  have z133 := z132.st a133
  obtain ⟨P133, w133⟩ : ∃ P, k_wd h.2 (h.2 + 70) 58 (k_of L_78) P (fun _ => none) [] f133 := ⟨_, w133⟩
  obtain ⟨fs134, hfs134⟩ := w132.ob
  refine x_callv (As := [.int 36]) (rest := []) 10566 595517 dL_limits_84 mi_X5_drop ml_L_33 rfl rfl (Nat.le_of_ble_eq_true rfl) ⟨by decide, by decide⟩ (by omega) (by omega) hfs134 rfl (c_X5_drop N _ _ _ _ e133) (x_K.some ?_) x_KX.none
  refine x_toX (st' := [.int 12]) rfl ?_
  clear hd133 e133 a133 hfs134 w132 z132
  refine x_bipush 12 (by decide) dL_limits_87 ?_
  refine x_icmp_ne_n 117 dL_limits_89 (by decide) (by decide) ?_
  refine x_aload_n 2 dL_limits_92 rfl rfl ?_
  refine x_bipush 12 (by decide) dL_limits_93 ?_
  refine x_iload_n 1 dL_limits_95 rfl rfl ?_
  refine x_imul dL_limits_96 ?_
  refine x_toX (st' := [.int 36, .ref h.2]) rfl ?_
  refine x_bipush 9 (by decide) dL_limits_97 ?_
  refine x_dom (fun hd135 => ?_)
  obtain ⟨f135, m135, e135, a135, w135⟩ := k_dd0 hN (by omega) w133 hd135 (z133.le w133 hd135) (a := 36) (b := 9) (v := 12) (S' := (k_of L_79)) tf_221 (k_eqb_sp tf_222)
  have z135 := z133.st a135
  obtain ⟨P135, w135⟩ : ∃ P, k_wd h.2 (h.2 + 70) 59 (k_of L_79) P (fun _ => none) [] f135 := ⟨_, w135⟩
  obtain ⟨fs136, hfs136⟩ := w133.ob
  refine x_callv (As := [.int 36, .int 9]) (rest := []) 10532 593602 dL_limits_99 mi_X5_put ml_L_27 rfl rfl (Nat.le_of_ble_eq_true rfl) ⟨by decide, by decide⟩ (by omega) (by omega) hfs136 rfl (c_X5_put N _ _ _ _ _ e135) (x_K.some ?_) x_KX.none
  refine x_toX (st' := [.int 12]) rfl ?_
  clear hd135 e135 a135 hfs136 w133 z133
  refine x_bipush 12 (by decide) dL_limits_102 ?_
  refine x_icmp_ne_n 117 dL_limits_104 (by decide) (by decide) ?_
  refine x_aload_n 2 dL_limits_107 rfl rfl ?_
  refine x_dom (fun hd137 => ?_)
  obtain ⟨f137, m137, e137, a137, w137⟩ := k_dd2 hN (by omega) w135 hd137 (z135.le w135 hd137) (a := 0) (b := 0) (v := 4) (S' := (k_of L_80)) tf_223 (k_eqb_sp tf_224)
  have z137 := z135.st a137
  obtain ⟨P137, w137⟩ : ∃ P, k_wd h.2 (h.2 + 70) 60 (k_of L_80) P (fun _ => none) [] f137 := ⟨_, w137⟩
  obtain ⟨fs138, hfs138⟩ := w135.ob
  refine x_callv (As := []) (rest := []) 10500 591699 dL_limits_108 mi_X5_closeRun ml_L_37 rfl rfl (Nat.le_of_ble_eq_true rfl) ⟨by decide, by decide⟩ (by omega) (by omega) hfs138 rfl (c_X5_closeRun N _ _ _ e137) (x_K.some ?_) x_KX.none
  refine x_toX (st' := [.int 4]) rfl ?_
  clear hd137 e137 a137 hfs138 w135 z135
  refine x_iload_n 1 dL_limits_111 rfl rfl ?_
  refine x_iconst 1 (by decide) dL_limits_112 ?_
  refine x_iadd dL_limits_113 ?_
  refine x_toX (st' := [.int 4, .int 4]) rfl ?_
  refine x_icmp_eq_y 119 dL_limits_114 (by decide) (by decide) ?_
  refine x_iinc 4 (lv' := [(1, .int 4), (2, .int 12), (0, .ref h.2)]) dL_limits_119 1 rfl (by decide) (by decide) rfl ?_
  refine x_goto 10 dL_limits_122 (by decide) ?_
  refine x_iload_n 0 dL_limits_10 rfl rfl ?_
  refine x_bipush 6 (by decide) dL_limits_11 ?_
  refine x_icmp_ge_n 125 dL_limits_13 (by decide) (by decide) ?_
  refine x_iconst 0 (by decide) dL_limits_16 ?_
  refine x_istore_n (i := 2) (lv' := [(2, .int 0), (1, .int 4), (0, .ref h.2)]) dL_limits_17 rfl (by decide) rfl ?_
  refine x_iload_n 0 dL_limits_18 rfl rfl ?_
  refine x_bipush 12 (by decide) dL_limits_19 ?_
  refine x_icmp_ge_n 49 dL_limits_21 (by decide) (by decide) ?_
  refine x_aload_n 2 dL_limits_24 rfl rfl ?_
  refine x_bipush 12 (by decide) dL_limits_25 ?_
  refine x_iload_n 1 dL_limits_27 rfl rfl ?_
  refine x_imul dL_limits_28 ?_
  refine x_toX (st' := [.int 48, .ref h.2]) rfl ?_
  refine x_iload_n 0 dL_limits_29 rfl rfl ?_
  refine x_iadd dL_limits_30 ?_
  refine x_toX (st' := [.int 48, .ref h.2]) rfl ?_
  refine x_iload_n 1 dL_limits_31 rfl rfl ?_
  refine x_dom (fun hd139 => ?_)
  obtain ⟨f139, m139, e139, a139, w139⟩ := k_dd0 hN (by omega) w137 hd139 (z137.le w137 hd139) (a := 48) (b := 4) (v := 1) (S' := (k_of L_81)) tf_225 (k_eqb_sp tf_226)
  have z139 := z137.st a139
  obtain ⟨P139, w139⟩ : ∃ P, k_wd h.2 (h.2 + 70) 61 (k_of L_81) P (fun _ => none) [] f139 := ⟨_, w139⟩
  obtain ⟨fs140, hfs140⟩ := w137.ob
  refine x_callv (As := [.int 48, .int 4]) (rest := []) 10466 589784 dL_limits_32 mi_X5_put ml_L_27 rfl rfl (Nat.le_of_ble_eq_true rfl) ⟨by decide, by decide⟩ (by omega) (by omega) hfs140 rfl (c_X5_put N _ _ _ _ _ e139) (x_K.some ?_) x_KX.none
  refine x_toX (st' := [.int 1]) rfl ?_
  clear hd139 e139 a139 hfs140 w137 z137
  refine x_iload_n 0 dL_limits_35 rfl rfl ?_
  refine x_iconst 1 (by decide) dL_limits_36 ?_
  refine x_iadd dL_limits_37 ?_
  refine x_toX (st' := [.int 1, .int 1]) rfl ?_
  refine x_icmp_eq_y 43 dL_limits_38 (by decide) (by decide) ?_
  refine x_iinc 1 (lv' := [(2, .int 1), (1, .int 4), (0, .ref h.2)]) dL_limits_43 0 rfl (by decide) (by decide) rfl ?_
  refine x_goto 18 dL_limits_46 (by decide) ?_
  refine x_iload_n 0 dL_limits_18 rfl rfl ?_
  refine x_bipush 12 (by decide) dL_limits_19 ?_
  refine x_icmp_ge_n 49 dL_limits_21 (by decide) (by decide) ?_
  refine x_aload_n 2 dL_limits_24 rfl rfl ?_
  refine x_bipush 12 (by decide) dL_limits_25 ?_
  refine x_iload_n 1 dL_limits_27 rfl rfl ?_
  refine x_imul dL_limits_28 ?_
  refine x_toX (st' := [.int 48, .ref h.2]) rfl ?_
  refine x_iload_n 0 dL_limits_29 rfl rfl ?_
  refine x_iadd dL_limits_30 ?_
  refine x_toX (st' := [.int 49, .ref h.2]) rfl ?_
  refine x_iload_n 1 dL_limits_31 rfl rfl ?_
  refine x_dom (fun hd141 => ?_)
  obtain ⟨f141, m141, e141, a141, w141⟩ := k_dd0 hN (by omega) w139 hd141 (z139.le w139 hd141) (a := 49) (b := 4) (v := 2) (S' := (k_of L_82)) tf_227 (k_eqb_sp tf_228)
  have z141 := z139.st a141
  obtain ⟨P141, w141⟩ : ∃ P, k_wd h.2 (h.2 + 70) 62 (k_of L_82) P (fun _ => none) [] f141 := ⟨_, w141⟩
  obtain ⟨fs142, hfs142⟩ := w139.ob
  refine x_callv (As := [.int 49, .int 4]) (rest := []) 10432 587869 dL_limits_32 mi_X5_put ml_L_27 rfl rfl (Nat.le_of_ble_eq_true rfl) ⟨by decide, by decide⟩ (by omega) (by omega) hfs142 rfl (c_X5_put N _ _ _ _ _ e141) (x_K.some ?_) x_KX.none
  refine x_toX (st' := [.int 2]) rfl ?_
  clear hd141 e141 a141 hfs142 w139 z139
  refine x_iload_n 0 dL_limits_35 rfl rfl ?_
  refine x_iconst 1 (by decide) dL_limits_36 ?_
  refine x_iadd dL_limits_37 ?_
  refine x_toX (st' := [.int 2, .int 2]) rfl ?_
  refine x_icmp_eq_y 43 dL_limits_38 (by decide) (by decide) ?_
  refine x_iinc 2 (lv' := [(2, .int 2), (1, .int 4), (0, .ref h.2)]) dL_limits_43 0 rfl (by decide) (by decide) rfl ?_
  refine x_goto 18 dL_limits_46 (by decide) ?_
  refine x_iload_n 0 dL_limits_18 rfl rfl ?_
  refine x_bipush 12 (by decide) dL_limits_19 ?_
  refine x_icmp_ge_n 49 dL_limits_21 (by decide) (by decide) ?_
  refine x_aload_n 2 dL_limits_24 rfl rfl ?_
  refine x_bipush 12 (by decide) dL_limits_25 ?_
  refine x_iload_n 1 dL_limits_27 rfl rfl ?_
  refine x_imul dL_limits_28 ?_
  refine x_toX (st' := [.int 48, .ref h.2]) rfl ?_
  refine x_iload_n 0 dL_limits_29 rfl rfl ?_
  refine x_iadd dL_limits_30 ?_
  refine x_toX (st' := [.int 50, .ref h.2]) rfl ?_
  refine x_iload_n 1 dL_limits_31 rfl rfl ?_
  refine x_dom (fun hd143 => ?_)
  obtain ⟨f143, m143, e143, a143, w143⟩ := k_dd0 hN (by omega) w141 hd143 (z141.le w141 hd143) (a := 50) (b := 4) (v := 3) (S' := (k_of L_83)) tf_229 (k_eqb_sp tf_230)
  have z143 := z141.st a143
  obtain ⟨P143, w143⟩ : ∃ P, k_wd h.2 (h.2 + 70) 63 (k_of L_83) P (fun _ => none) [] f143 := ⟨_, w143⟩
  obtain ⟨fs144, hfs144⟩ := w141.ob
  refine x_callv (As := [.int 50, .int 4]) (rest := []) 10398 585954 dL_limits_32 mi_X5_put ml_L_27 rfl rfl (Nat.le_of_ble_eq_true rfl) ⟨by decide, by decide⟩ (by omega) (by omega) hfs144 rfl (c_X5_put N _ _ _ _ _ e143) (x_K.some ?_) x_KX.none
  refine x_toX (st' := [.int 3]) rfl ?_
  clear hd143 e143 a143 hfs144 w141 z141
  refine x_iload_n 0 dL_limits_35 rfl rfl ?_
  refine x_iconst 1 (by decide) dL_limits_36 ?_
  refine x_iadd dL_limits_37 ?_
  refine x_toX (st' := [.int 3, .int 3]) rfl ?_
  refine x_icmp_eq_y 43 dL_limits_38 (by decide) (by decide) ?_
  refine x_iinc 3 (lv' := [(2, .int 3), (1, .int 4), (0, .ref h.2)]) dL_limits_43 0 rfl (by decide) (by decide) rfl ?_
  refine x_goto 18 dL_limits_46 (by decide) ?_
  refine x_iload_n 0 dL_limits_18 rfl rfl ?_
  refine x_bipush 12 (by decide) dL_limits_19 ?_
  refine x_icmp_ge_n 49 dL_limits_21 (by decide) (by decide) ?_
  refine x_aload_n 2 dL_limits_24 rfl rfl ?_
  refine x_bipush 12 (by decide) dL_limits_25 ?_
  refine x_iload_n 1 dL_limits_27 rfl rfl ?_
  refine x_imul dL_limits_28 ?_
  refine x_toX (st' := [.int 48, .ref h.2]) rfl ?_
  refine x_iload_n 0 dL_limits_29 rfl rfl ?_
  refine x_iadd dL_limits_30 ?_
  refine x_toX (st' := [.int 51, .ref h.2]) rfl ?_
  refine x_iload_n 1 dL_limits_31 rfl rfl ?_
  refine x_dom (fun hd145 => ?_)
  obtain ⟨f145, m145, e145, a145, w145⟩ := k_dd0 hN (by omega) w143 hd145 (z143.le w143 hd145) (a := 51) (b := 4) (v := 4) (S' := (k_of L_84)) tf_231 (k_eqb_sp tf_232)
  have z145 := z143.st a145
  obtain ⟨P145, w145⟩ : ∃ P, k_wd h.2 (h.2 + 70) 64 (k_of L_84) P (fun _ => none) [] f145 := ⟨_, w145⟩
  obtain ⟨fs146, hfs146⟩ := w143.ob
  refine x_callv (As := [.int 51, .int 4]) (rest := []) 10364 584039 dL_limits_32 mi_X5_put ml_L_27 rfl rfl (Nat.le_of_ble_eq_true rfl) ⟨by decide, by decide⟩ (by omega) (by omega) hfs146 rfl (c_X5_put N _ _ _ _ _ e145) (x_K.some ?_) x_KX.none
  refine x_toX (st' := [.int 4]) rfl ?_
  clear hd145 e145 a145 hfs146 w143 z143
  refine x_iload_n 0 dL_limits_35 rfl rfl ?_
  refine x_iconst 1 (by decide) dL_limits_36 ?_
  refine x_iadd dL_limits_37 ?_
  refine x_toX (st' := [.int 4, .int 4]) rfl ?_
  refine x_icmp_eq_y 43 dL_limits_38 (by decide) (by decide) ?_
  refine x_iinc 4 (lv' := [(2, .int 4), (1, .int 4), (0, .ref h.2)]) dL_limits_43 0 rfl (by decide) (by decide) rfl ?_
  refine x_goto 18 dL_limits_46 (by decide) ?_
  refine x_iload_n 0 dL_limits_18 rfl rfl ?_
  refine x_bipush 12 (by decide) dL_limits_19 ?_
  refine x_icmp_ge_n 49 dL_limits_21 (by decide) (by decide) ?_
  refine x_aload_n 2 dL_limits_24 rfl rfl ?_
  refine x_bipush 12 (by decide) dL_limits_25 ?_
  refine x_iload_n 1 dL_limits_27 rfl rfl ?_
  refine x_imul dL_limits_28 ?_
  refine x_toX (st' := [.int 48, .ref h.2]) rfl ?_
  refine x_iload_n 0 dL_limits_29 rfl rfl ?_
  refine x_iadd dL_limits_30 ?_
  refine x_toX (st' := [.int 52, .ref h.2]) rfl ?_
  refine x_iload_n 1 dL_limits_31 rfl rfl ?_
  refine x_dom (fun hd147 => ?_)
  obtain ⟨f147, m147, e147, a147, w147⟩ := k_dd0 hN (by omega) w145 hd147 (z145.le w145 hd147) (a := 52) (b := 4) (v := 5) (S' := (k_of L_85)) tf_233 (k_eqb_sp tf_234)
  have z147 := z145.st a147
  obtain ⟨P147, w147⟩ : ∃ P, k_wd h.2 (h.2 + 70) 65 (k_of L_85) P (fun _ => none) [] f147 := ⟨_, w147⟩
  obtain ⟨fs148, hfs148⟩ := w145.ob
  refine x_callv (As := [.int 52, .int 4]) (rest := []) 10330 582124 dL_limits_32 mi_X5_put ml_L_27 rfl rfl (Nat.le_of_ble_eq_true rfl) ⟨by decide, by decide⟩ (by omega) (by omega) hfs148 rfl (c_X5_put N _ _ _ _ _ e147) (x_K.some ?_) x_KX.none
  refine x_toX (st' := [.int 5]) rfl ?_
  clear hd147 e147 a147 hfs148 w145 z145
  refine x_iload_n 0 dL_limits_35 rfl rfl ?_
  refine x_iconst 1 (by decide) dL_limits_36 ?_
  refine x_iadd dL_limits_37 ?_
  refine x_toX (st' := [.int 5, .int 5]) rfl ?_
  refine x_icmp_eq_y 43 dL_limits_38 (by decide) (by decide) ?_
  refine x_iinc 5 (lv' := [(2, .int 5), (1, .int 4), (0, .ref h.2)]) dL_limits_43 0 rfl (by decide) (by decide) rfl ?_
  refine x_goto 18 dL_limits_46 (by decide) ?_
  refine x_iload_n 0 dL_limits_18 rfl rfl ?_
  refine x_bipush 12 (by decide) dL_limits_19 ?_
  refine x_icmp_ge_n 49 dL_limits_21 (by decide) (by decide) ?_
  refine x_aload_n 2 dL_limits_24 rfl rfl ?_
  refine x_bipush 12 (by decide) dL_limits_25 ?_
  refine x_iload_n 1 dL_limits_27 rfl rfl ?_
  refine x_imul dL_limits_28 ?_
  refine x_toX (st' := [.int 48, .ref h.2]) rfl ?_
  refine x_iload_n 0 dL_limits_29 rfl rfl ?_
  refine x_iadd dL_limits_30 ?_
  refine x_toX (st' := [.int 53, .ref h.2]) rfl ?_
  refine x_iload_n 1 dL_limits_31 rfl rfl ?_
  refine x_dom (fun hd149 => ?_)
  obtain ⟨f149, m149, e149, a149, w149⟩ := k_dd0 hN (by omega) w147 hd149 (z147.le w147 hd149) (a := 53) (b := 4) (v := 6) (S' := (k_of L_86)) tf_235 (k_eqb_sp tf_236)
  have z149 := z147.st a149
  obtain ⟨P149, w149⟩ : ∃ P, k_wd h.2 (h.2 + 70) 66 (k_of L_86) P (fun _ => none) [] f149 := ⟨_, w149⟩
  obtain ⟨fs150, hfs150⟩ := w147.ob
  refine x_callv (As := [.int 53, .int 4]) (rest := []) 10296 580209 dL_limits_32 mi_X5_put ml_L_27 rfl rfl (Nat.le_of_ble_eq_true rfl) ⟨by decide, by decide⟩ (by omega) (by omega) hfs150 rfl (c_X5_put N _ _ _ _ _ e149) (x_K.some ?_) x_KX.none
  refine x_toX (st' := [.int 6]) rfl ?_
  clear hd149 e149 a149 hfs150 w147 z147
  refine x_iload_n 0 dL_limits_35 rfl rfl ?_
  refine x_iconst 1 (by decide) dL_limits_36 ?_
  refine x_iadd dL_limits_37 ?_
  refine x_toX (st' := [.int 6, .int 6]) rfl ?_
  refine x_icmp_eq_y 43 dL_limits_38 (by decide) (by decide) ?_
  refine x_iinc 6 (lv' := [(2, .int 6), (1, .int 4), (0, .ref h.2)]) dL_limits_43 0 rfl (by decide) (by decide) rfl ?_
  refine x_goto 18 dL_limits_46 (by decide) ?_
  refine x_iload_n 0 dL_limits_18 rfl rfl ?_
  refine x_bipush 12 (by decide) dL_limits_19 ?_
  refine x_icmp_ge_n 49 dL_limits_21 (by decide) (by decide) ?_
  refine x_aload_n 2 dL_limits_24 rfl rfl ?_
  refine x_bipush 12 (by decide) dL_limits_25 ?_
  refine x_iload_n 1 dL_limits_27 rfl rfl ?_
  refine x_imul dL_limits_28 ?_
  refine x_toX (st' := [.int 48, .ref h.2]) rfl ?_
  refine x_iload_n 0 dL_limits_29 rfl rfl ?_
  refine x_iadd dL_limits_30 ?_
  refine x_toX (st' := [.int 54, .ref h.2]) rfl ?_
  refine x_iload_n 1 dL_limits_31 rfl rfl ?_
  refine x_dom (fun hd151 => ?_)
  obtain ⟨f151, m151, e151, a151, w151⟩ := k_dd0 hN (by omega) w149 hd151 (z149.le w149 hd151) (a := 54) (b := 4) (v := 7) (S' := (k_of L_87)) tf_237 (k_eqb_sp tf_238)
  have z151 := z149.st a151
  obtain ⟨P151, w151⟩ : ∃ P, k_wd h.2 (h.2 + 70) 67 (k_of L_87) P (fun _ => none) [] f151 := ⟨_, w151⟩
  obtain ⟨fs152, hfs152⟩ := w149.ob
  refine x_callv (As := [.int 54, .int 4]) (rest := []) 10262 578294 dL_limits_32 mi_X5_put ml_L_27 rfl rfl (Nat.le_of_ble_eq_true rfl) ⟨by decide, by decide⟩ (by omega) (by omega) hfs152 rfl (c_X5_put N _ _ _ _ _ e151) (x_K.some ?_) x_KX.none
  refine x_toX (st' := [.int 7]) rfl ?_
  clear hd151 e151 a151 hfs152 w149 z149
  refine x_iload_n 0 dL_limits_35 rfl rfl ?_
  refine x_iconst 1 (by decide) dL_limits_36 ?_
  refine x_iadd dL_limits_37 ?_
  refine x_toX (st' := [.int 7, .int 7]) rfl ?_
  refine x_icmp_eq_y 43 dL_limits_38 (by decide) (by decide) ?_
  refine x_iinc 7 (lv' := [(2, .int 7), (1, .int 4), (0, .ref h.2)]) dL_limits_43 0 rfl (by decide) (by decide) rfl ?_
  refine x_goto 18 dL_limits_46 (by decide) ?_
  refine x_iload_n 0 dL_limits_18 rfl rfl ?_
  refine x_bipush 12 (by decide) dL_limits_19 ?_
  refine x_icmp_ge_n 49 dL_limits_21 (by decide) (by decide) ?_
  refine x_aload_n 2 dL_limits_24 rfl rfl ?_
  refine x_bipush 12 (by decide) dL_limits_25 ?_
  refine x_iload_n 1 dL_limits_27 rfl rfl ?_
  refine x_imul dL_limits_28 ?_
  refine x_toX (st' := [.int 48, .ref h.2]) rfl ?_
  refine x_iload_n 0 dL_limits_29 rfl rfl ?_
  refine x_iadd dL_limits_30 ?_
  refine x_toX (st' := [.int 55, .ref h.2]) rfl ?_
  refine x_iload_n 1 dL_limits_31 rfl rfl ?_
  refine x_dom (fun hd153 => ?_)
  obtain ⟨f153, m153, e153, a153, w153⟩ := k_dd0 hN (by omega) w151 hd153 (z151.le w151 hd153) (a := 55) (b := 4) (v := 8) (S' := (k_of L_88)) tf_239 (k_eqb_sp tf_240)
  have z153 := z151.st a153
  obtain ⟨P153, w153⟩ : ∃ P, k_wd h.2 (h.2 + 70) 68 (k_of L_88) P (fun _ => none) [] f153 := ⟨_, w153⟩
  obtain ⟨fs154, hfs154⟩ := w151.ob
  refine x_callv (As := [.int 55, .int 4]) (rest := []) 10228 576379 dL_limits_32 mi_X5_put ml_L_27 rfl rfl (Nat.le_of_ble_eq_true rfl) ⟨by decide, by decide⟩ (by omega) (by omega) hfs154 rfl (c_X5_put N _ _ _ _ _ e153) (x_K.some ?_) x_KX.none
  refine x_toX (st' := [.int 8]) rfl ?_
  clear hd153 e153 a153 hfs154 w151 z151
  refine x_iload_n 0 dL_limits_35 rfl rfl ?_
  refine x_iconst 1 (by decide) dL_limits_36 ?_
  refine x_iadd dL_limits_37 ?_
  refine x_toX (st' := [.int 8, .int 8]) rfl ?_
  refine x_icmp_eq_y 43 dL_limits_38 (by decide) (by decide) ?_
  refine x_iinc 8 (lv' := [(2, .int 8), (1, .int 4), (0, .ref h.2)]) dL_limits_43 0 rfl (by decide) (by decide) rfl ?_
  refine x_goto 18 dL_limits_46 (by decide) ?_
  refine x_iload_n 0 dL_limits_18 rfl rfl ?_
  refine x_bipush 12 (by decide) dL_limits_19 ?_
  refine x_icmp_ge_n 49 dL_limits_21 (by decide) (by decide) ?_
  refine x_aload_n 2 dL_limits_24 rfl rfl ?_
  refine x_bipush 12 (by decide) dL_limits_25 ?_
  refine x_iload_n 1 dL_limits_27 rfl rfl ?_
  refine x_imul dL_limits_28 ?_
  refine x_toX (st' := [.int 48, .ref h.2]) rfl ?_
  refine x_iload_n 0 dL_limits_29 rfl rfl ?_
  refine x_iadd dL_limits_30 ?_
  refine x_toX (st' := [.int 56, .ref h.2]) rfl ?_
  refine x_iload_n 1 dL_limits_31 rfl rfl ?_
  refine x_dom (fun hd155 => ?_)
  obtain ⟨f155, m155, e155, a155, w155⟩ := k_dd0 hN (by omega) w153 hd155 (z153.le w153 hd155) (a := 56) (b := 4) (v := 9) (S' := (k_of L_89)) tf_241 (k_eqb_sp tf_242)
  have z155 := z153.st a155
  obtain ⟨P155, w155⟩ : ∃ P, k_wd h.2 (h.2 + 70) 69 (k_of L_89) P (fun _ => none) [] f155 := ⟨_, w155⟩
  obtain ⟨fs156, hfs156⟩ := w153.ob
  refine x_callv (As := [.int 56, .int 4]) (rest := []) 10194 574464 dL_limits_32 mi_X5_put ml_L_27 rfl rfl (Nat.le_of_ble_eq_true rfl) ⟨by decide, by decide⟩ (by omega) (by omega) hfs156 rfl (c_X5_put N _ _ _ _ _ e155) (x_K.some ?_) x_KX.none
  refine x_toX (st' := [.int 9]) rfl ?_
  clear hd155 e155 a155 hfs156 w153 z153
  refine x_iload_n 0 dL_limits_35 rfl rfl ?_
  refine x_iconst 1 (by decide) dL_limits_36 ?_
  refine x_iadd dL_limits_37 ?_
  refine x_toX (st' := [.int 9, .int 9]) rfl ?_
  refine x_icmp_eq_y 43 dL_limits_38 (by decide) (by decide) ?_
  refine x_iinc 9 (lv' := [(2, .int 9), (1, .int 4), (0, .ref h.2)]) dL_limits_43 0 rfl (by decide) (by decide) rfl ?_
  refine x_goto 18 dL_limits_46 (by decide) ?_
  refine x_iload_n 0 dL_limits_18 rfl rfl ?_
  refine x_bipush 12 (by decide) dL_limits_19 ?_
  refine x_icmp_ge_n 49 dL_limits_21 (by decide) (by decide) ?_
  refine x_aload_n 2 dL_limits_24 rfl rfl ?_
  refine x_bipush 12 (by decide) dL_limits_25 ?_
  refine x_iload_n 1 dL_limits_27 rfl rfl ?_
  refine x_imul dL_limits_28 ?_
  refine x_toX (st' := [.int 48, .ref h.2]) rfl ?_
  refine x_iload_n 0 dL_limits_29 rfl rfl ?_
  refine x_iadd dL_limits_30 ?_
  refine x_toX (st' := [.int 57, .ref h.2]) rfl ?_
  refine x_iload_n 1 dL_limits_31 rfl rfl ?_
  refine x_dom (fun hd157 => ?_)
  obtain ⟨f157, m157, e157, a157, w157⟩ := k_dd0 hN (by omega) w155 hd157 (z155.le w155 hd157) (a := 57) (b := 4) (v := 10) (S' := (k_of L_90)) tf_243 (k_eqb_sp tf_244)
  have z157 := z155.st a157
  obtain ⟨P157, w157⟩ : ∃ P, k_wd h.2 (h.2 + 70) 70 (k_of L_90) P (fun _ => none) [] f157 := ⟨_, w157⟩
  obtain ⟨fs158, hfs158⟩ := w155.ob
  refine x_callv (As := [.int 57, .int 4]) (rest := []) 10160 572549 dL_limits_32 mi_X5_put ml_L_27 rfl rfl (Nat.le_of_ble_eq_true rfl) ⟨by decide, by decide⟩ (by omega) (by omega) hfs158 rfl (c_X5_put N _ _ _ _ _ e157) (x_K.some ?_) x_KX.none
  refine x_toX (st' := [.int 10]) rfl ?_
  clear hd157 e157 a157 hfs158 w155 z155
  refine x_iload_n 0 dL_limits_35 rfl rfl ?_
  refine x_iconst 1 (by decide) dL_limits_36 ?_
  refine x_iadd dL_limits_37 ?_
  refine x_toX (st' := [.int 10, .int 10]) rfl ?_
  refine x_icmp_eq_y 43 dL_limits_38 (by decide) (by decide) ?_
  refine x_iinc 10 (lv' := [(2, .int 10), (1, .int 4), (0, .ref h.2)]) dL_limits_43 0 rfl (by decide) (by decide) rfl ?_
  refine x_goto 18 dL_limits_46 (by decide) ?_
  refine x_iload_n 0 dL_limits_18 rfl rfl ?_
  refine x_bipush 12 (by decide) dL_limits_19 ?_
  refine x_icmp_ge_n 49 dL_limits_21 (by decide) (by decide) ?_
  refine x_aload_n 2 dL_limits_24 rfl rfl ?_
  refine x_bipush 12 (by decide) dL_limits_25 ?_
  refine x_iload_n 1 dL_limits_27 rfl rfl ?_
  refine x_imul dL_limits_28 ?_
  refine x_toX (st' := [.int 48, .ref h.2]) rfl ?_
  refine x_iload_n 0 dL_limits_29 rfl rfl ?_
  refine x_iadd dL_limits_30 ?_
  refine x_toX (st' := [.int 58, .ref h.2]) rfl ?_
  refine x_iload_n 1 dL_limits_31 rfl rfl ?_
  refine x_dom (fun hd159 => ?_)
  obtain ⟨f159, m159, e159, a159, w159⟩ := k_dd0 hN (by omega) w157 hd159 (z157.le w157 hd159) (a := 58) (b := 4) (v := 11) (S' := (k_of L_91)) tf_245 (k_eqb_sp tf_246)
  have z159 := z157.st a159
  obtain ⟨P159, w159⟩ : ∃ P, k_wd h.2 (h.2 + 70) 71 (k_of L_91) P (fun _ => none) [] f159 := ⟨_, w159⟩
  obtain ⟨fs160, hfs160⟩ := w157.ob
  refine x_callv (As := [.int 58, .int 4]) (rest := []) 10126 570634 dL_limits_32 mi_X5_put ml_L_27 rfl rfl (Nat.le_of_ble_eq_true rfl) ⟨by decide, by decide⟩ (by omega) (by omega) hfs160 rfl (c_X5_put N _ _ _ _ _ e159) (x_K.some ?_) x_KX.none
  refine x_toX (st' := [.int 11]) rfl ?_
  clear hd159 e159 a159 hfs160 w157 z157
  refine x_iload_n 0 dL_limits_35 rfl rfl ?_
  refine x_iconst 1 (by decide) dL_limits_36 ?_
  refine x_iadd dL_limits_37 ?_
  refine x_toX (st' := [.int 11, .int 11]) rfl ?_
  refine x_icmp_eq_y 43 dL_limits_38 (by decide) (by decide) ?_
  refine x_iinc 11 (lv' := [(2, .int 11), (1, .int 4), (0, .ref h.2)]) dL_limits_43 0 rfl (by decide) (by decide) rfl ?_
  refine x_goto 18 dL_limits_46 (by decide) ?_
  refine x_iload_n 0 dL_limits_18 rfl rfl ?_
  refine x_bipush 12 (by decide) dL_limits_19 ?_
  refine x_icmp_ge_n 49 dL_limits_21 (by decide) (by decide) ?_
  refine x_aload_n 2 dL_limits_24 rfl rfl ?_
  refine x_bipush 12 (by decide) dL_limits_25 ?_
  refine x_iload_n 1 dL_limits_27 rfl rfl ?_
  refine x_imul dL_limits_28 ?_
  refine x_toX (st' := [.int 48, .ref h.2]) rfl ?_
  refine x_iload_n 0 dL_limits_29 rfl rfl ?_
  refine x_iadd dL_limits_30 ?_
  refine x_toX (st' := [.int 59, .ref h.2]) rfl ?_
  refine x_iload_n 1 dL_limits_31 rfl rfl ?_
  refine x_dom (fun hd161 => ?_)
  obtain ⟨f161, m161, e161, a161, w161⟩ := k_dd0 hN (by omega) w159 hd161 (z159.le w159 hd161) (a := 59) (b := 4) (v := 12) (S' := (k_of L_92)) tf_247 (k_eqb_sp tf_248)
  have z161 := z159.st a161
  obtain ⟨P161, w161⟩ : ∃ P, k_wd h.2 (h.2 + 70) 72 (k_of L_92) P (fun _ => none) [] f161 := ⟨_, w161⟩
  obtain ⟨fs162, hfs162⟩ := w159.ob
  refine x_callv (As := [.int 59, .int 4]) (rest := []) 10092 568719 dL_limits_32 mi_X5_put ml_L_27 rfl rfl (Nat.le_of_ble_eq_true rfl) ⟨by decide, by decide⟩ (by omega) (by omega) hfs162 rfl (c_X5_put N _ _ _ _ _ e161) (x_K.some ?_) x_KX.none
  refine x_toX (st' := [.int 12]) rfl ?_
  clear hd161 e161 a161 hfs162 w159 z159
  refine x_iload_n 0 dL_limits_35 rfl rfl ?_
  refine x_iconst 1 (by decide) dL_limits_36 ?_
  refine x_iadd dL_limits_37 ?_
  refine x_toX (st' := [.int 12, .int 12]) rfl ?_
  refine x_icmp_eq_y 43 dL_limits_38 (by decide) (by decide) ?_
  refine x_iinc 12 (lv' := [(2, .int 12), (1, .int 4), (0, .ref h.2)]) dL_limits_43 0 rfl (by decide) (by decide) rfl ?_
  refine x_goto 18 dL_limits_46 (by decide) ?_
  refine x_iload_n 0 dL_limits_18 rfl rfl ?_
  refine x_bipush 12 (by decide) dL_limits_19 ?_
  refine x_icmp_ge_y 49 dL_limits_21 (by decide) (by decide) ?_
  refine x_aload_n 2 dL_limits_49 rfl rfl ?_
  refine x_iconst 0 (by decide) dL_limits_50 ?_
  refine x_sipush 999 (by decide) dL_limits_51 ?_
  refine x_iconst 1 (by decide) dL_limits_54 ?_
  refine x_dom (fun hd164 => ?_)
  obtain ⟨f164, e164, a164, w164⟩ := k_rf0_1 hN (by omega) w161 hd164 (z161.le w161 hd164) (a := 999) (b := 1) tf_249
  have z164 := z161.st a164
  refine x_callsH (As := [.ref h.2, .int 0, .int 999, .int 1]) (rest := []) 10058 566804 dL_limits_55 mi_L_call rfl ml_L_182 rfl rfl (Nat.le_of_ble_eq_true rfl) ⟨by decide, by decide⟩ (by omega) (by omega) (c_L_call N _ _ _ _ _ _ e164) (fun n164 => ?_)
  refine x_toX (st' := [.int (-2013)]) rfl ?_
  clear hd164 e164 a164 w161 z161
  refine x_sipush (-2013) (by decide) dL_limits_58 ?_
  refine x_icmp_ne_n 117 dL_limits_61 (by decide) (by decide) ?_
  refine x_aload_n 2 dL_limits_64 rfl rfl ?_
  refine x_iconst 1 (by decide) dL_limits_65 ?_
  refine x_sipush 999 (by decide) dL_limits_66 ?_
  refine x_iconst 1 (by decide) dL_limits_69 ?_
  refine x_dom (fun hd166 => ?_)
  obtain ⟨f166, e166, a166, w166⟩ := k_rf1_1 hN (by omega) w164 hd166 (z164.le w164 hd166) (a := 999) (b := 1) tf_250
  have z166 := z164.st a166
  refine x_callsH (As := [.ref h.2, .int 1, .int 999, .int 1]) (rest := []) 10024 564889 dL_limits_70 mi_L_call rfl ml_L_182 rfl rfl (Nat.le_of_ble_eq_true rfl) ⟨by decide, by decide⟩ (by omega) (by omega) (c_L_call N _ _ _ _ _ _ e166) (fun n166 => ?_)
  refine x_toX (st' := [.int (-2013)]) rfl ?_
  clear hd166 e166 a166 w164 z164
  refine x_sipush (-2013) (by decide) dL_limits_73 ?_
  refine x_icmp_ne_n 117 dL_limits_76 (by decide) (by decide) ?_
  refine x_aload_n 2 dL_limits_79 rfl rfl ?_
  refine x_bipush 12 (by decide) dL_limits_80 ?_
  refine x_iload_n 1 dL_limits_82 rfl rfl ?_
  refine x_imul dL_limits_83 ?_
  refine x_toX (st' := [.int 48, .ref h.2]) rfl ?_
  refine x_dom (fun hd167 => ?_)
  obtain ⟨f167, m167, e167, a167, w167⟩ := k_dd1 hN (by omega) w166 hd167 (z166.le w166 hd167) (a := 48) (b := 0) (v := 12) (S' := (k_of L_93)) tf_251 (k_eqb_sp tf_252)
  have z167 := z166.st a167
  obtain ⟨P167, w167⟩ : ∃ P, k_wd h.2 (h.2 + 70) 73 (k_of L_93) P (fun _ => none) [] f167 := ⟨_, w167⟩
  obtain ⟨fs168, hfs168⟩ := w166.ob
  refine x_callv (As := [.int 48]) (rest := []) 9991 562980 dL_limits_84 mi_X5_drop ml_L_33 rfl rfl (Nat.le_of_ble_eq_true rfl) ⟨by decide, by decide⟩ (by omega) (by omega) hfs168 rfl (c_X5_drop N _ _ _ _ e167) (x_K.some ?_) x_KX.none
  refine x_toX (st' := [.int 12]) rfl ?_
  clear hd167 e167 a167 hfs168 w166 z166
  refine x_bipush 12 (by decide) dL_limits_87 ?_
  refine x_icmp_ne_n 117 dL_limits_89 (by decide) (by decide) ?_
  refine x_aload_n 2 dL_limits_92 rfl rfl ?_
  refine x_bipush 12 (by decide) dL_limits_93 ?_
  refine x_iload_n 1 dL_limits_95 rfl rfl ?_
  refine x_imul dL_limits_96 ?_
  refine x_toX (st' := [.int 48, .ref h.2]) rfl ?_
  refine x_bipush 9 (by decide) dL_limits_97 ?_
  refine x_dom (fun hd169 => ?_)
  obtain ⟨f169, m169, e169, a169, w169⟩ := k_dd0 hN (by omega) w167 hd169 (z167.le w167 hd169) (a := 48) (b := 9) (v := 12) (S' := (k_of L_94)) tf_253 (k_eqb_sp tf_254)
  have z169 := z167.st a169
  obtain ⟨P169, w169⟩ : ∃ P, k_wd h.2 (h.2 + 70) 74 (k_of L_94) P (fun _ => none) [] f169 := ⟨_, w169⟩
  obtain ⟨fs170, hfs170⟩ := w167.ob
  refine x_callv (As := [.int 48, .int 9]) (rest := []) 9957 561065 dL_limits_99 mi_X5_put ml_L_27 rfl rfl (Nat.le_of_ble_eq_true rfl) ⟨by decide, by decide⟩ (by omega) (by omega) hfs170 rfl (c_X5_put N _ _ _ _ _ e169) (x_K.some ?_) x_KX.none
  refine x_toX (st' := [.int 12]) rfl ?_
  clear hd169 e169 a169 hfs170 w167 z167
  refine x_bipush 12 (by decide) dL_limits_102 ?_
  refine x_icmp_ne_n 117 dL_limits_104 (by decide) (by decide) ?_
  refine x_aload_n 2 dL_limits_107 rfl rfl ?_
  refine x_dom (fun hd171 => ?_)
  obtain ⟨f171, m171, e171, a171, w171⟩ := k_dd2 hN (by omega) w169 hd171 (z169.le w169 hd171) (a := 0) (b := 0) (v := 5) (S' := (k_of L_95)) tf_255 (k_eqb_sp tf_256)
  have z171 := z169.st a171
  obtain ⟨P171, w171⟩ : ∃ P, k_wd h.2 (h.2 + 70) 75 (k_of L_95) P (fun _ => none) [] f171 := ⟨_, w171⟩
  obtain ⟨fs172, hfs172⟩ := w169.ob
  refine x_callv (As := []) (rest := []) 9925 559162 dL_limits_108 mi_X5_closeRun ml_L_37 rfl rfl (Nat.le_of_ble_eq_true rfl) ⟨by decide, by decide⟩ (by omega) (by omega) hfs172 rfl (c_X5_closeRun N _ _ _ e171) (x_K.some ?_) x_KX.none
  refine x_toX (st' := [.int 5]) rfl ?_
  clear hd171 e171 a171 hfs172 w169 z169
  refine x_iload_n 1 dL_limits_111 rfl rfl ?_
  refine x_iconst 1 (by decide) dL_limits_112 ?_
  refine x_iadd dL_limits_113 ?_
  refine x_toX (st' := [.int 5, .int 5]) rfl ?_
  refine x_icmp_eq_y 119 dL_limits_114 (by decide) (by decide) ?_
  refine x_iinc 5 (lv' := [(1, .int 5), (2, .int 12), (0, .ref h.2)]) dL_limits_119 1 rfl (by decide) (by decide) rfl ?_
  refine x_goto 10 dL_limits_122 (by decide) ?_
  refine x_iload_n 0 dL_limits_10 rfl rfl ?_
  refine x_bipush 6 (by decide) dL_limits_11 ?_
  refine x_icmp_ge_n 125 dL_limits_13 (by decide) (by decide) ?_
  refine x_iconst 0 (by decide) dL_limits_16 ?_
  refine x_istore_n (i := 2) (lv' := [(2, .int 0), (1, .int 5), (0, .ref h.2)]) dL_limits_17 rfl (by decide) rfl ?_
  refine x_iload_n 0 dL_limits_18 rfl rfl ?_
  refine x_bipush 12 (by decide) dL_limits_19 ?_
  refine x_icmp_ge_n 49 dL_limits_21 (by decide) (by decide) ?_
  refine x_aload_n 2 dL_limits_24 rfl rfl ?_
  refine x_bipush 12 (by decide) dL_limits_25 ?_
  refine x_iload_n 1 dL_limits_27 rfl rfl ?_
  refine x_imul dL_limits_28 ?_
  refine x_toX (st' := [.int 60, .ref h.2]) rfl ?_
  refine x_iload_n 0 dL_limits_29 rfl rfl ?_
  refine x_iadd dL_limits_30 ?_
  refine x_toX (st' := [.int 60, .ref h.2]) rfl ?_
  refine x_iload_n 1 dL_limits_31 rfl rfl ?_
  refine x_dom (fun hd173 => ?_)
  obtain ⟨f173, m173, e173, a173, w173⟩ := k_dd0 hN (by omega) w171 hd173 (z171.le w171 hd173) (a := 60) (b := 5) (v := 1) (S' := (k_of L_96)) tf_257 (k_eqb_sp tf_258)
  have z173 := z171.st a173
  obtain ⟨P173, w173⟩ : ∃ P, k_wd h.2 (h.2 + 70) 76 (k_of L_96) P (fun _ => none) [] f173 := ⟨_, w173⟩
  obtain ⟨fs174, hfs174⟩ := w171.ob
  refine x_callv (As := [.int 60, .int 5]) (rest := []) 9891 557247 dL_limits_32 mi_X5_put ml_L_27 rfl rfl (Nat.le_of_ble_eq_true rfl) ⟨by decide, by decide⟩ (by omega) (by omega) hfs174 rfl (c_X5_put N _ _ _ _ _ e173) (x_K.some ?_) x_KX.none
  refine x_toX (st' := [.int 1]) rfl ?_
  clear hd173 e173 a173 hfs174 w171 z171
  refine x_iload_n 0 dL_limits_35 rfl rfl ?_
  refine x_iconst 1 (by decide) dL_limits_36 ?_
  refine x_iadd dL_limits_37 ?_
  refine x_toX (st' := [.int 1, .int 1]) rfl ?_
  refine x_icmp_eq_y 43 dL_limits_38 (by decide) (by decide) ?_
  refine x_iinc 1 (lv' := [(2, .int 1), (1, .int 5), (0, .ref h.2)]) dL_limits_43 0 rfl (by decide) (by decide) rfl ?_
  refine x_goto 18 dL_limits_46 (by decide) ?_
  refine x_iload_n 0 dL_limits_18 rfl rfl ?_
  refine x_bipush 12 (by decide) dL_limits_19 ?_
  refine x_icmp_ge_n 49 dL_limits_21 (by decide) (by decide) ?_
  refine x_aload_n 2 dL_limits_24 rfl rfl ?_
  refine x_bipush 12 (by decide) dL_limits_25 ?_
  refine x_iload_n 1 dL_limits_27 rfl rfl ?_
  refine x_imul dL_limits_28 ?_
  refine x_toX (st' := [.int 60, .ref h.2]) rfl ?_
  refine x_iload_n 0 dL_limits_29 rfl rfl ?_
  refine x_iadd dL_limits_30 ?_
  refine x_toX (st' := [.int 61, .ref h.2]) rfl ?_
  refine x_iload_n 1 dL_limits_31 rfl rfl ?_
  refine x_dom (fun hd175 => ?_)
  obtain ⟨f175, m175, e175, a175, w175⟩ := k_dd0 hN (by omega) w173 hd175 (z173.le w173 hd175) (a := 61) (b := 5) (v := 2) (S' := (k_of L_97)) tf_259 (k_eqb_sp tf_260)
  have z175 := z173.st a175
  obtain ⟨P175, w175⟩ : ∃ P, k_wd h.2 (h.2 + 70) 77 (k_of L_97) P (fun _ => none) [] f175 := ⟨_, w175⟩
  obtain ⟨fs176, hfs176⟩ := w173.ob
  refine x_callv (As := [.int 61, .int 5]) (rest := []) 9857 555332 dL_limits_32 mi_X5_put ml_L_27 rfl rfl (Nat.le_of_ble_eq_true rfl) ⟨by decide, by decide⟩ (by omega) (by omega) hfs176 rfl (c_X5_put N _ _ _ _ _ e175) (x_K.some ?_) x_KX.none
  refine x_toX (st' := [.int 2]) rfl ?_
  clear hd175 e175 a175 hfs176 w173 z173
  refine x_iload_n 0 dL_limits_35 rfl rfl ?_
  refine x_iconst 1 (by decide) dL_limits_36 ?_
  refine x_iadd dL_limits_37 ?_
  refine x_toX (st' := [.int 2, .int 2]) rfl ?_
  refine x_icmp_eq_y 43 dL_limits_38 (by decide) (by decide) ?_
  refine x_iinc 2 (lv' := [(2, .int 2), (1, .int 5), (0, .ref h.2)]) dL_limits_43 0 rfl (by decide) (by decide) rfl ?_
  refine x_goto 18 dL_limits_46 (by decide) ?_
  refine x_iload_n 0 dL_limits_18 rfl rfl ?_
  refine x_bipush 12 (by decide) dL_limits_19 ?_
  refine x_icmp_ge_n 49 dL_limits_21 (by decide) (by decide) ?_
  refine x_aload_n 2 dL_limits_24 rfl rfl ?_
  refine x_bipush 12 (by decide) dL_limits_25 ?_
  refine x_iload_n 1 dL_limits_27 rfl rfl ?_
  refine x_imul dL_limits_28 ?_
  refine x_toX (st' := [.int 60, .ref h.2]) rfl ?_
  refine x_iload_n 0 dL_limits_29 rfl rfl ?_
  refine x_iadd dL_limits_30 ?_
  refine x_toX (st' := [.int 62, .ref h.2]) rfl ?_
  refine x_iload_n 1 dL_limits_31 rfl rfl ?_
  refine x_dom (fun hd177 => ?_)
  obtain ⟨f177, m177, e177, a177, w177⟩ := k_dd0 hN (by omega) w175 hd177 (z175.le w175 hd177) (a := 62) (b := 5) (v := 3) (S' := (k_of L_98)) tf_261 (k_eqb_sp tf_262)
  have z177 := z175.st a177
  obtain ⟨P177, w177⟩ : ∃ P, k_wd h.2 (h.2 + 70) 78 (k_of L_98) P (fun _ => none) [] f177 := ⟨_, w177⟩
  obtain ⟨fs178, hfs178⟩ := w175.ob
  refine x_callv (As := [.int 62, .int 5]) (rest := []) 9823 553417 dL_limits_32 mi_X5_put ml_L_27 rfl rfl (Nat.le_of_ble_eq_true rfl) ⟨by decide, by decide⟩ (by omega) (by omega) hfs178 rfl (c_X5_put N _ _ _ _ _ e177) (x_K.some ?_) x_KX.none
  refine x_toX (st' := [.int 3]) rfl ?_
  clear hd177 e177 a177 hfs178 w175 z175
  refine x_iload_n 0 dL_limits_35 rfl rfl ?_
  refine x_iconst 1 (by decide) dL_limits_36 ?_
  refine x_iadd dL_limits_37 ?_
  refine x_toX (st' := [.int 3, .int 3]) rfl ?_
  refine x_icmp_eq_y 43 dL_limits_38 (by decide) (by decide) ?_
  refine x_iinc 3 (lv' := [(2, .int 3), (1, .int 5), (0, .ref h.2)]) dL_limits_43 0 rfl (by decide) (by decide) rfl ?_
  refine x_goto 18 dL_limits_46 (by decide) ?_
  refine x_iload_n 0 dL_limits_18 rfl rfl ?_
  refine x_bipush 12 (by decide) dL_limits_19 ?_
  refine x_icmp_ge_n 49 dL_limits_21 (by decide) (by decide) ?_
  refine x_aload_n 2 dL_limits_24 rfl rfl ?_
  refine x_bipush 12 (by decide) dL_limits_25 ?_
  refine x_iload_n 1 dL_limits_27 rfl rfl ?_
  refine x_imul dL_limits_28 ?_
  refine x_toX (st' := [.int 60, .ref h.2]) rfl ?_
  refine x_iload_n 0 dL_limits_29 rfl rfl ?_
  refine x_iadd dL_limits_30 ?_
  refine x_toX (st' := [.int 63, .ref h.2]) rfl ?_
  refine x_iload_n 1 dL_limits_31 rfl rfl ?_
  refine x_dom (fun hd179 => ?_)
  obtain ⟨f179, m179, e179, a179, w179⟩ := k_dd0 hN (by omega) w177 hd179 (z177.le w177 hd179) (a := 63) (b := 5) (v := 4) (S' := (k_of L_99)) tf_263 (k_eqb_sp tf_264)
  have z179 := z177.st a179
  obtain ⟨P179, w179⟩ : ∃ P, k_wd h.2 (h.2 + 70) 79 (k_of L_99) P (fun _ => none) [] f179 := ⟨_, w179⟩
  obtain ⟨fs180, hfs180⟩ := w177.ob
  refine x_callv (As := [.int 63, .int 5]) (rest := []) 9789 551502 dL_limits_32 mi_X5_put ml_L_27 rfl rfl (Nat.le_of_ble_eq_true rfl) ⟨by decide, by decide⟩ (by omega) (by omega) hfs180 rfl (c_X5_put N _ _ _ _ _ e179) (x_K.some ?_) x_KX.none
  refine x_toX (st' := [.int 4]) rfl ?_
  clear hd179 e179 a179 hfs180 w177 z177
  refine x_iload_n 0 dL_limits_35 rfl rfl ?_
  refine x_iconst 1 (by decide) dL_limits_36 ?_
  refine x_iadd dL_limits_37 ?_
  refine x_toX (st' := [.int 4, .int 4]) rfl ?_
  refine x_icmp_eq_y 43 dL_limits_38 (by decide) (by decide) ?_
  refine x_iinc 4 (lv' := [(2, .int 4), (1, .int 5), (0, .ref h.2)]) dL_limits_43 0 rfl (by decide) (by decide) rfl ?_
  refine x_goto 18 dL_limits_46 (by decide) ?_
  refine x_iload_n 0 dL_limits_18 rfl rfl ?_
  refine x_bipush 12 (by decide) dL_limits_19 ?_
  refine x_icmp_ge_n 49 dL_limits_21 (by decide) (by decide) ?_
  refine x_aload_n 2 dL_limits_24 rfl rfl ?_
  refine x_bipush 12 (by decide) dL_limits_25 ?_
  refine x_iload_n 1 dL_limits_27 rfl rfl ?_
  refine x_imul dL_limits_28 ?_
  refine x_toX (st' := [.int 60, .ref h.2]) rfl ?_
  refine x_iload_n 0 dL_limits_29 rfl rfl ?_
  refine x_iadd dL_limits_30 ?_
  refine x_toX (st' := [.int 64, .ref h.2]) rfl ?_
  refine x_iload_n 1 dL_limits_31 rfl rfl ?_
  refine x_dom (fun hd181 => ?_)
  obtain ⟨f181, m181, e181, a181, w181⟩ := k_dd0 hN (by omega) w179 hd181 (z179.le w179 hd181) (a := 64) (b := 5) (v := 5) (S' := (k_of L_100)) tf_265 (k_eqb_sp tf_266)
  have z181 := z179.st a181
  obtain ⟨P181, w181⟩ : ∃ P, k_wd h.2 (h.2 + 70) 80 (k_of L_100) P (fun _ => none) [] f181 := ⟨_, w181⟩
  obtain ⟨fs182, hfs182⟩ := w179.ob
  refine x_callv (As := [.int 64, .int 5]) (rest := []) 9755 549587 dL_limits_32 mi_X5_put ml_L_27 rfl rfl (Nat.le_of_ble_eq_true rfl) ⟨by decide, by decide⟩ (by omega) (by omega) hfs182 rfl (c_X5_put N _ _ _ _ _ e181) (x_K.some ?_) x_KX.none
  refine x_toX (st' := [.int 5]) rfl ?_
  clear hd181 e181 a181 hfs182 w179 z179
  refine x_iload_n 0 dL_limits_35 rfl rfl ?_
  refine x_iconst 1 (by decide) dL_limits_36 ?_
  refine x_iadd dL_limits_37 ?_
  refine x_toX (st' := [.int 5, .int 5]) rfl ?_
  refine x_icmp_eq_y 43 dL_limits_38 (by decide) (by decide) ?_
  refine x_iinc 5 (lv' := [(2, .int 5), (1, .int 5), (0, .ref h.2)]) dL_limits_43 0 rfl (by decide) (by decide) rfl ?_
  refine x_goto 18 dL_limits_46 (by decide) ?_
  refine x_iload_n 0 dL_limits_18 rfl rfl ?_
  refine x_bipush 12 (by decide) dL_limits_19 ?_
  refine x_icmp_ge_n 49 dL_limits_21 (by decide) (by decide) ?_
  refine x_aload_n 2 dL_limits_24 rfl rfl ?_
  refine x_bipush 12 (by decide) dL_limits_25 ?_
  refine x_iload_n 1 dL_limits_27 rfl rfl ?_
  refine x_imul dL_limits_28 ?_
  refine x_toX (st' := [.int 60, .ref h.2]) rfl ?_
  refine x_iload_n 0 dL_limits_29 rfl rfl ?_
  refine x_iadd dL_limits_30 ?_
  refine x_toX (st' := [.int 65, .ref h.2]) rfl ?_
  refine x_iload_n 1 dL_limits_31 rfl rfl ?_
  refine x_dom (fun hd183 => ?_)
  obtain ⟨f183, m183, e183, a183, w183⟩ := k_dd0 hN (by omega) w181 hd183 (z181.le w181 hd183) (a := 65) (b := 5) (v := 6) (S' := (k_of L_101)) tf_267 (k_eqb_sp tf_268)
  have z183 := z181.st a183
  obtain ⟨P183, w183⟩ : ∃ P, k_wd h.2 (h.2 + 70) 81 (k_of L_101) P (fun _ => none) [] f183 := ⟨_, w183⟩
  obtain ⟨fs184, hfs184⟩ := w181.ob
  refine x_callv (As := [.int 65, .int 5]) (rest := []) 9721 547672 dL_limits_32 mi_X5_put ml_L_27 rfl rfl (Nat.le_of_ble_eq_true rfl) ⟨by decide, by decide⟩ (by omega) (by omega) hfs184 rfl (c_X5_put N _ _ _ _ _ e183) (x_K.some ?_) x_KX.none
  refine x_toX (st' := [.int 6]) rfl ?_
  clear hd183 e183 a183 hfs184 w181 z181
  refine x_iload_n 0 dL_limits_35 rfl rfl ?_
  refine x_iconst 1 (by decide) dL_limits_36 ?_
  refine x_iadd dL_limits_37 ?_
  refine x_toX (st' := [.int 6, .int 6]) rfl ?_
  refine x_icmp_eq_y 43 dL_limits_38 (by decide) (by decide) ?_
  refine x_iinc 6 (lv' := [(2, .int 6), (1, .int 5), (0, .ref h.2)]) dL_limits_43 0 rfl (by decide) (by decide) rfl ?_
  refine x_goto 18 dL_limits_46 (by decide) ?_
  refine x_iload_n 0 dL_limits_18 rfl rfl ?_
  refine x_bipush 12 (by decide) dL_limits_19 ?_
  refine x_icmp_ge_n 49 dL_limits_21 (by decide) (by decide) ?_
  refine x_aload_n 2 dL_limits_24 rfl rfl ?_
  refine x_bipush 12 (by decide) dL_limits_25 ?_
  refine x_iload_n 1 dL_limits_27 rfl rfl ?_
  refine x_imul dL_limits_28 ?_
  refine x_toX (st' := [.int 60, .ref h.2]) rfl ?_
  refine x_iload_n 0 dL_limits_29 rfl rfl ?_
  refine x_iadd dL_limits_30 ?_
  refine x_toX (st' := [.int 66, .ref h.2]) rfl ?_
  refine x_iload_n 1 dL_limits_31 rfl rfl ?_
  refine x_dom (fun hd185 => ?_)
  obtain ⟨f185, m185, e185, a185, w185⟩ := k_dd0 hN (by omega) w183 hd185 (z183.le w183 hd185) (a := 66) (b := 5) (v := 7) (S' := (k_of L_102)) tf_269 (k_eqb_sp tf_270)
  have z185 := z183.st a185
  obtain ⟨P185, w185⟩ : ∃ P, k_wd h.2 (h.2 + 70) 82 (k_of L_102) P (fun _ => none) [] f185 := ⟨_, w185⟩
  obtain ⟨fs186, hfs186⟩ := w183.ob
  refine x_callv (As := [.int 66, .int 5]) (rest := []) 9687 545757 dL_limits_32 mi_X5_put ml_L_27 rfl rfl (Nat.le_of_ble_eq_true rfl) ⟨by decide, by decide⟩ (by omega) (by omega) hfs186 rfl (c_X5_put N _ _ _ _ _ e185) (x_K.some ?_) x_KX.none
  refine x_toX (st' := [.int 7]) rfl ?_
  clear hd185 e185 a185 hfs186 w183 z183
  refine x_iload_n 0 dL_limits_35 rfl rfl ?_
  refine x_iconst 1 (by decide) dL_limits_36 ?_
  refine x_iadd dL_limits_37 ?_
  refine x_toX (st' := [.int 7, .int 7]) rfl ?_
  refine x_icmp_eq_y 43 dL_limits_38 (by decide) (by decide) ?_
  refine x_iinc 7 (lv' := [(2, .int 7), (1, .int 5), (0, .ref h.2)]) dL_limits_43 0 rfl (by decide) (by decide) rfl ?_
  refine x_goto 18 dL_limits_46 (by decide) ?_
  refine x_iload_n 0 dL_limits_18 rfl rfl ?_
  refine x_bipush 12 (by decide) dL_limits_19 ?_
  refine x_icmp_ge_n 49 dL_limits_21 (by decide) (by decide) ?_
  refine x_aload_n 2 dL_limits_24 rfl rfl ?_
  refine x_bipush 12 (by decide) dL_limits_25 ?_
  refine x_iload_n 1 dL_limits_27 rfl rfl ?_
  refine x_imul dL_limits_28 ?_
  refine x_toX (st' := [.int 60, .ref h.2]) rfl ?_
  refine x_iload_n 0 dL_limits_29 rfl rfl ?_
  refine x_iadd dL_limits_30 ?_
  refine x_toX (st' := [.int 67, .ref h.2]) rfl ?_
  refine x_iload_n 1 dL_limits_31 rfl rfl ?_
  refine x_dom (fun hd187 => ?_)
  obtain ⟨f187, m187, e187, a187, w187⟩ := k_dd0 hN (by omega) w185 hd187 (z185.le w185 hd187) (a := 67) (b := 5) (v := 8) (S' := (k_of L_103)) tf_271 (k_eqb_sp tf_272)
  have z187 := z185.st a187
  obtain ⟨P187, w187⟩ : ∃ P, k_wd h.2 (h.2 + 70) 83 (k_of L_103) P (fun _ => none) [] f187 := ⟨_, w187⟩
  obtain ⟨fs188, hfs188⟩ := w185.ob
  refine x_callv (As := [.int 67, .int 5]) (rest := []) 9653 543842 dL_limits_32 mi_X5_put ml_L_27 rfl rfl (Nat.le_of_ble_eq_true rfl) ⟨by decide, by decide⟩ (by omega) (by omega) hfs188 rfl (c_X5_put N _ _ _ _ _ e187) (x_K.some ?_) x_KX.none
  refine x_toX (st' := [.int 8]) rfl ?_
  clear hd187 e187 a187 hfs188 w185 z185
  refine x_iload_n 0 dL_limits_35 rfl rfl ?_
  refine x_iconst 1 (by decide) dL_limits_36 ?_
  refine x_iadd dL_limits_37 ?_
  refine x_toX (st' := [.int 8, .int 8]) rfl ?_
  refine x_icmp_eq_y 43 dL_limits_38 (by decide) (by decide) ?_
  refine x_iinc 8 (lv' := [(2, .int 8), (1, .int 5), (0, .ref h.2)]) dL_limits_43 0 rfl (by decide) (by decide) rfl ?_
  refine x_goto 18 dL_limits_46 (by decide) ?_
  refine x_iload_n 0 dL_limits_18 rfl rfl ?_
  refine x_bipush 12 (by decide) dL_limits_19 ?_
  refine x_icmp_ge_n 49 dL_limits_21 (by decide) (by decide) ?_
  refine x_aload_n 2 dL_limits_24 rfl rfl ?_
  refine x_bipush 12 (by decide) dL_limits_25 ?_
  refine x_iload_n 1 dL_limits_27 rfl rfl ?_
  refine x_imul dL_limits_28 ?_
  refine x_toX (st' := [.int 60, .ref h.2]) rfl ?_
  refine x_iload_n 0 dL_limits_29 rfl rfl ?_
  refine x_iadd dL_limits_30 ?_
  refine x_toX (st' := [.int 68, .ref h.2]) rfl ?_
  refine x_iload_n 1 dL_limits_31 rfl rfl ?_
  refine x_dom (fun hd189 => ?_)
  obtain ⟨f189, m189, e189, a189, w189⟩ := k_dd0 hN (by omega) w187 hd189 (z187.le w187 hd189) (a := 68) (b := 5) (v := 9) (S' := (k_of L_104)) tf_273 (k_eqb_sp tf_274)
  have z189 := z187.st a189
  obtain ⟨P189, w189⟩ : ∃ P, k_wd h.2 (h.2 + 70) 84 (k_of L_104) P (fun _ => none) [] f189 := ⟨_, w189⟩
  obtain ⟨fs190, hfs190⟩ := w187.ob
  refine x_callv (As := [.int 68, .int 5]) (rest := []) 9619 541927 dL_limits_32 mi_X5_put ml_L_27 rfl rfl (Nat.le_of_ble_eq_true rfl) ⟨by decide, by decide⟩ (by omega) (by omega) hfs190 rfl (c_X5_put N _ _ _ _ _ e189) (x_K.some ?_) x_KX.none
  refine x_toX (st' := [.int 9]) rfl ?_
  clear hd189 e189 a189 hfs190 w187 z187
  refine x_iload_n 0 dL_limits_35 rfl rfl ?_
  refine x_iconst 1 (by decide) dL_limits_36 ?_
  refine x_iadd dL_limits_37 ?_
  refine x_toX (st' := [.int 9, .int 9]) rfl ?_
  refine x_icmp_eq_y 43 dL_limits_38 (by decide) (by decide) ?_
  refine x_iinc 9 (lv' := [(2, .int 9), (1, .int 5), (0, .ref h.2)]) dL_limits_43 0 rfl (by decide) (by decide) rfl ?_
  refine x_goto 18 dL_limits_46 (by decide) ?_
  refine x_iload_n 0 dL_limits_18 rfl rfl ?_
  refine x_bipush 12 (by decide) dL_limits_19 ?_
  refine x_icmp_ge_n 49 dL_limits_21 (by decide) (by decide) ?_
  refine x_aload_n 2 dL_limits_24 rfl rfl ?_
  refine x_bipush 12 (by decide) dL_limits_25 ?_
  refine x_iload_n 1 dL_limits_27 rfl rfl ?_
  refine x_imul dL_limits_28 ?_
  refine x_toX (st' := [.int 60, .ref h.2]) rfl ?_
  refine x_iload_n 0 dL_limits_29 rfl rfl ?_
  refine x_iadd dL_limits_30 ?_
  refine x_toX (st' := [.int 69, .ref h.2]) rfl ?_
  refine x_iload_n 1 dL_limits_31 rfl rfl ?_
  refine x_dom (fun hd191 => ?_)
  obtain ⟨f191, m191, e191, a191, w191⟩ := k_dd0 hN (by omega) w189 hd191 (z189.le w189 hd191) (a := 69) (b := 5) (v := 10) (S' := (k_of L_105)) tf_275 (k_eqb_sp tf_276)
  have z191 := z189.st a191
  obtain ⟨P191, w191⟩ : ∃ P, k_wd h.2 (h.2 + 70) 85 (k_of L_105) P (fun _ => none) [] f191 := ⟨_, w191⟩
  obtain ⟨fs192, hfs192⟩ := w189.ob
  refine x_callv (As := [.int 69, .int 5]) (rest := []) 9585 540012 dL_limits_32 mi_X5_put ml_L_27 rfl rfl (Nat.le_of_ble_eq_true rfl) ⟨by decide, by decide⟩ (by omega) (by omega) hfs192 rfl (c_X5_put N _ _ _ _ _ e191) (x_K.some ?_) x_KX.none
  refine x_toX (st' := [.int 10]) rfl ?_
  clear hd191 e191 a191 hfs192 w189 z189
  refine x_iload_n 0 dL_limits_35 rfl rfl ?_
  refine x_iconst 1 (by decide) dL_limits_36 ?_
  refine x_iadd dL_limits_37 ?_
  refine x_toX (st' := [.int 10, .int 10]) rfl ?_
  refine x_icmp_eq_y 43 dL_limits_38 (by decide) (by decide) ?_
  refine x_iinc 10 (lv' := [(2, .int 10), (1, .int 5), (0, .ref h.2)]) dL_limits_43 0 rfl (by decide) (by decide) rfl ?_
  refine x_goto 18 dL_limits_46 (by decide) ?_
  refine x_iload_n 0 dL_limits_18 rfl rfl ?_
  refine x_bipush 12 (by decide) dL_limits_19 ?_
  refine x_icmp_ge_n 49 dL_limits_21 (by decide) (by decide) ?_
  refine x_aload_n 2 dL_limits_24 rfl rfl ?_
  refine x_bipush 12 (by decide) dL_limits_25 ?_
  refine x_iload_n 1 dL_limits_27 rfl rfl ?_
  refine x_imul dL_limits_28 ?_
  refine x_toX (st' := [.int 60, .ref h.2]) rfl ?_
  refine x_iload_n 0 dL_limits_29 rfl rfl ?_
  refine x_iadd dL_limits_30 ?_
  refine x_toX (st' := [.int 70, .ref h.2]) rfl ?_
  refine x_iload_n 1 dL_limits_31 rfl rfl ?_
  refine x_dom (fun hd193 => ?_)
  obtain ⟨f193, m193, e193, a193, w193⟩ := k_dd0 hN (by omega) w191 hd193 (z191.le w191 hd193) (a := 70) (b := 5) (v := 11) (S' := (k_of L_106)) tf_277 (k_eqb_sp tf_278)
  have z193 := z191.st a193
  obtain ⟨P193, w193⟩ : ∃ P, k_wd h.2 (h.2 + 70) 86 (k_of L_106) P (fun _ => none) [] f193 := ⟨_, w193⟩
  obtain ⟨fs194, hfs194⟩ := w191.ob
  refine x_callv (As := [.int 70, .int 5]) (rest := []) 9551 538097 dL_limits_32 mi_X5_put ml_L_27 rfl rfl (Nat.le_of_ble_eq_true rfl) ⟨by decide, by decide⟩ (by omega) (by omega) hfs194 rfl (c_X5_put N _ _ _ _ _ e193) (x_K.some ?_) x_KX.none
  refine x_toX (st' := [.int 11]) rfl ?_
  clear hd193 e193 a193 hfs194 w191 z191
  refine x_iload_n 0 dL_limits_35 rfl rfl ?_
  refine x_iconst 1 (by decide) dL_limits_36 ?_
  refine x_iadd dL_limits_37 ?_
  refine x_toX (st' := [.int 11, .int 11]) rfl ?_
  refine x_icmp_eq_y 43 dL_limits_38 (by decide) (by decide) ?_
  refine x_iinc 11 (lv' := [(2, .int 11), (1, .int 5), (0, .ref h.2)]) dL_limits_43 0 rfl (by decide) (by decide) rfl ?_
  refine x_goto 18 dL_limits_46 (by decide) ?_
  refine x_iload_n 0 dL_limits_18 rfl rfl ?_
  refine x_bipush 12 (by decide) dL_limits_19 ?_
  refine x_icmp_ge_n 49 dL_limits_21 (by decide) (by decide) ?_
  refine x_aload_n 2 dL_limits_24 rfl rfl ?_
  refine x_bipush 12 (by decide) dL_limits_25 ?_
  refine x_iload_n 1 dL_limits_27 rfl rfl ?_
  refine x_imul dL_limits_28 ?_
  refine x_toX (st' := [.int 60, .ref h.2]) rfl ?_
  refine x_iload_n 0 dL_limits_29 rfl rfl ?_
  refine x_iadd dL_limits_30 ?_
  refine x_toX (st' := [.int 71, .ref h.2]) rfl ?_
  refine x_iload_n 1 dL_limits_31 rfl rfl ?_
  refine x_dom (fun hd195 => ?_)
  obtain ⟨f195, m195, e195, a195, w195⟩ := k_dd0 hN (by omega) w193 hd195 (z193.le w193 hd195) (a := 71) (b := 5) (v := 12) (S' := (k_of L_107)) tf_279 (k_eqb_sp tf_280)
  have z195 := z193.st a195
  obtain ⟨P195, w195⟩ : ∃ P, k_wd h.2 (h.2 + 70) 87 (k_of L_107) P (fun _ => none) [] f195 := ⟨_, w195⟩
  obtain ⟨fs196, hfs196⟩ := w193.ob
  refine x_callv (As := [.int 71, .int 5]) (rest := []) 9517 536182 dL_limits_32 mi_X5_put ml_L_27 rfl rfl (Nat.le_of_ble_eq_true rfl) ⟨by decide, by decide⟩ (by omega) (by omega) hfs196 rfl (c_X5_put N _ _ _ _ _ e195) (x_K.some ?_) x_KX.none
  refine x_toX (st' := [.int 12]) rfl ?_
  clear hd195 e195 a195 hfs196 w193 z193
  refine x_iload_n 0 dL_limits_35 rfl rfl ?_
  refine x_iconst 1 (by decide) dL_limits_36 ?_
  refine x_iadd dL_limits_37 ?_
  refine x_toX (st' := [.int 12, .int 12]) rfl ?_
  refine x_icmp_eq_y 43 dL_limits_38 (by decide) (by decide) ?_
  refine x_iinc 12 (lv' := [(2, .int 12), (1, .int 5), (0, .ref h.2)]) dL_limits_43 0 rfl (by decide) (by decide) rfl ?_
  refine x_goto 18 dL_limits_46 (by decide) ?_
  refine x_iload_n 0 dL_limits_18 rfl rfl ?_
  refine x_bipush 12 (by decide) dL_limits_19 ?_
  refine x_icmp_ge_y 49 dL_limits_21 (by decide) (by decide) ?_
  refine x_aload_n 2 dL_limits_49 rfl rfl ?_
  refine x_iconst 0 (by decide) dL_limits_50 ?_
  refine x_sipush 999 (by decide) dL_limits_51 ?_
  refine x_iconst 1 (by decide) dL_limits_54 ?_
  refine x_dom (fun hd198 => ?_)
  obtain ⟨f198, e198, a198, w198⟩ := k_rf0_1 hN (by omega) w195 hd198 (z195.le w195 hd198) (a := 999) (b := 1) tf_281
  have z198 := z195.st a198
  refine x_callsH (As := [.ref h.2, .int 0, .int 999, .int 1]) (rest := []) 9483 534267 dL_limits_55 mi_L_call rfl ml_L_182 rfl rfl (Nat.le_of_ble_eq_true rfl) ⟨by decide, by decide⟩ (by omega) (by omega) (c_L_call N _ _ _ _ _ _ e198) (fun n198 => ?_)
  refine x_toX (st' := [.int (-2013)]) rfl ?_
  clear hd198 e198 a198 w195 z195
  refine x_sipush (-2013) (by decide) dL_limits_58 ?_
  refine x_icmp_ne_n 117 dL_limits_61 (by decide) (by decide) ?_
  refine x_aload_n 2 dL_limits_64 rfl rfl ?_
  refine x_iconst 1 (by decide) dL_limits_65 ?_
  refine x_sipush 999 (by decide) dL_limits_66 ?_
  refine x_iconst 1 (by decide) dL_limits_69 ?_
  refine x_dom (fun hd200 => ?_)
  obtain ⟨f200, e200, a200, w200⟩ := k_rf1_1 hN (by omega) w198 hd200 (z198.le w198 hd200) (a := 999) (b := 1) tf_282
  have z200 := z198.st a200
  refine x_callsH (As := [.ref h.2, .int 1, .int 999, .int 1]) (rest := []) 9449 532352 dL_limits_70 mi_L_call rfl ml_L_182 rfl rfl (Nat.le_of_ble_eq_true rfl) ⟨by decide, by decide⟩ (by omega) (by omega) (c_L_call N _ _ _ _ _ _ e200) (fun n200 => ?_)
  refine x_toX (st' := [.int (-2013)]) rfl ?_
  clear hd200 e200 a200 w198 z198
  refine x_sipush (-2013) (by decide) dL_limits_73 ?_
  refine x_icmp_ne_n 117 dL_limits_76 (by decide) (by decide) ?_
  refine x_aload_n 2 dL_limits_79 rfl rfl ?_
  refine x_bipush 12 (by decide) dL_limits_80 ?_
  refine x_iload_n 1 dL_limits_82 rfl rfl ?_
  refine x_imul dL_limits_83 ?_
  refine x_toX (st' := [.int 60, .ref h.2]) rfl ?_
  refine x_dom (fun hd201 => ?_)
  obtain ⟨f201, m201, e201, a201, w201⟩ := k_dd1 hN (by omega) w200 hd201 (z200.le w200 hd201) (a := 60) (b := 0) (v := 12) (S' := (k_of L_108)) tf_283 (k_eqb_sp tf_284)
  have z201 := z200.st a201
  obtain ⟨P201, w201⟩ : ∃ P, k_wd h.2 (h.2 + 70) 88 (k_of L_108) P (fun _ => none) [] f201 := ⟨_, w201⟩
  obtain ⟨fs202, hfs202⟩ := w200.ob
  refine x_callv (As := [.int 60]) (rest := []) 9416 530443 dL_limits_84 mi_X5_drop ml_L_33 rfl rfl (Nat.le_of_ble_eq_true rfl) ⟨by decide, by decide⟩ (by omega) (by omega) hfs202 rfl (c_X5_drop N _ _ _ _ e201) (x_K.some ?_) x_KX.none
  refine x_toX (st' := [.int 12]) rfl ?_
  clear hd201 e201 a201 hfs202 w200 z200
  refine x_bipush 12 (by decide) dL_limits_87 ?_
  refine x_icmp_ne_n 117 dL_limits_89 (by decide) (by decide) ?_
  refine x_aload_n 2 dL_limits_92 rfl rfl ?_
  refine x_bipush 12 (by decide) dL_limits_93 ?_
  refine x_iload_n 1 dL_limits_95 rfl rfl ?_
  refine x_imul dL_limits_96 ?_
  refine x_toX (st' := [.int 60, .ref h.2]) rfl ?_
  refine x_bipush 9 (by decide) dL_limits_97 ?_
  refine x_dom (fun hd203 => ?_)
  obtain ⟨f203, m203, e203, a203, w203⟩ := k_dd0 hN (by omega) w201 hd203 (z201.le w201 hd203) (a := 60) (b := 9) (v := 12) (S' := (k_of L_109)) tf_285 (k_eqb_sp tf_286)
  have z203 := z201.st a203
  obtain ⟨P203, w203⟩ : ∃ P, k_wd h.2 (h.2 + 70) 89 (k_of L_109) P (fun _ => none) [] f203 := ⟨_, w203⟩
  obtain ⟨fs204, hfs204⟩ := w201.ob
  refine x_callv (As := [.int 60, .int 9]) (rest := []) 9382 528528 dL_limits_99 mi_X5_put ml_L_27 rfl rfl (Nat.le_of_ble_eq_true rfl) ⟨by decide, by decide⟩ (by omega) (by omega) hfs204 rfl (c_X5_put N _ _ _ _ _ e203) (x_K.some ?_) x_KX.none
  refine x_toX (st' := [.int 12]) rfl ?_
  clear hd203 e203 a203 hfs204 w201 z201
  refine x_bipush 12 (by decide) dL_limits_102 ?_
  refine x_icmp_ne_n 117 dL_limits_104 (by decide) (by decide) ?_
  refine x_aload_n 2 dL_limits_107 rfl rfl ?_
  refine x_dom (fun hd205 => ?_)
  obtain ⟨f205, m205, e205, a205, w205⟩ := k_dd2 hN (by omega) w203 hd205 (z203.le w203 hd205) (a := 0) (b := 0) (v := 6) (S' := (k_of L_110)) tf_287 (k_eqb_sp tf_288)
  have z205 := z203.st a205
  obtain ⟨P205, w205⟩ : ∃ P, k_wd h.2 (h.2 + 70) 90 (k_of L_110) P (fun _ => none) [] f205 := ⟨_, w205⟩
  obtain ⟨fs206, hfs206⟩ := w203.ob
  refine x_callv (As := []) (rest := []) 9350 526625 dL_limits_108 mi_X5_closeRun ml_L_37 rfl rfl (Nat.le_of_ble_eq_true rfl) ⟨by decide, by decide⟩ (by omega) (by omega) hfs206 rfl (c_X5_closeRun N _ _ _ e205) (x_K.some ?_) x_KX.none
  refine x_toX (st' := [.int 6]) rfl ?_
  clear hd205 e205 a205 hfs206 w203 z203
  refine x_iload_n 1 dL_limits_111 rfl rfl ?_
  refine x_iconst 1 (by decide) dL_limits_112 ?_
  refine x_iadd dL_limits_113 ?_
  refine x_toX (st' := [.int 6, .int 6]) rfl ?_
  refine x_icmp_eq_y 119 dL_limits_114 (by decide) (by decide) ?_
  refine x_iinc 6 (lv' := [(1, .int 6), (2, .int 12), (0, .ref h.2)]) dL_limits_119 1 rfl (by decide) (by decide) rfl ?_
  refine x_goto 10 dL_limits_122 (by decide) ?_
  refine x_iload_n 0 dL_limits_10 rfl rfl ?_
  refine x_bipush 6 (by decide) dL_limits_11 ?_
  refine x_icmp_ge_y 125 dL_limits_13 (by decide) (by decide) ?_
  refine x_aload_n 2 dL_limits_125 rfl rfl ?_
  refine x_sipush 9999 (by decide) dL_limits_126 ?_
  refine x_bipush 99 (by decide) dL_limits_129 ?_
  refine x_dom (fun hd207 => ?_)
  obtain ⟨f207, m207, e207, a207, w207⟩ := k_dd0 hN (by omega) w205 hd207 (z205.le w205 hd207) (a := 9999) (b := 99) (v := 1) (S' := (k_of L_111)) tf_289 (k_eqb_sp tf_290)
  have z207 := z205.st a207
  obtain ⟨P207, w207⟩ : ∃ P, k_wd h.2 (h.2 + 70) 91 (k_of L_111) P (fun _ => none) [] f207 := ⟨_, w207⟩
  obtain ⟨fs208, hfs208⟩ := w205.ob
  refine x_callv (As := [.int 9999, .int 99]) (rest := []) 9316 524710 dL_limits_131 mi_X5_put ml_L_27 rfl rfl (Nat.le_of_ble_eq_true rfl) ⟨by decide, by decide⟩ (by omega) (by omega) hfs208 rfl (c_X5_put N _ _ _ _ _ e207) (x_K.some ?_) x_KX.none
  refine x_toX (st' := [.int 1]) rfl ?_
  clear hd207 e207 a207 hfs208 w205 z205
  refine x_iconst 1 (by decide) dL_limits_134 ?_
  refine x_icmp_ne_n 275 dL_limits_135 (by decide) (by decide) ?_
  refine x_aload_n 2 dL_limits_138 rfl rfl ?_
  refine x_iconst 2 (by decide) dL_limits_139 ?_
  refine x_iconst 0 (by decide) dL_limits_140 ?_
  refine x_iconst 0 (by decide) dL_limits_141 ?_
  refine x_dom (fun hd210 => ?_)
  obtain ⟨f210, e210, a210, w210⟩ := k_rf2_1 hN (by omega) w207 hd210 (z207.le w207 hd210) (a := 0) (b := 0) tf_291
  have z210 := z207.st a210
  refine x_callsH (As := [.ref h.2, .int 2, .int 0, .int 0]) (rest := []) 9282 522795 dL_limits_142 mi_L_call rfl ml_L_182 rfl rfl (Nat.le_of_ble_eq_true rfl) ⟨by decide, by decide⟩ (by omega) (by omega) (c_L_call N _ _ _ _ _ _ e210) (fun n210 => ?_)
  refine x_toX (st' := [.int (-2013)]) rfl ?_
  clear hd210 e210 a210 w207 z207
  refine x_sipush (-2013) (by decide) dL_limits_145 ?_
  refine x_icmp_ne_n 275 dL_limits_148 (by decide) (by decide) ?_
  refine x_aload_n 2 dL_limits_151 rfl rfl ?_
  refine x_dom (fun hd211 => ?_)
  obtain ⟨f211, m211, e211, a211, w211⟩ := k_dd3 hN (by omega) w210 hd211 (z210.le w210 hd211) (a := 0) (b := 0) (v := 24) (S' := (k_of L_112)) tf_295.1 tf_295.2
  have z211 := z210.st a211
  obtain ⟨P211, w211⟩ : ∃ P, k_wd h.2 (h.2 + 70) 92 (k_of L_112) P (fun _ => none) [] f211 := ⟨_, w211⟩
  obtain ⟨fs212, hfs212⟩ := w210.ob
  refine x_callv (As := []) (rest := []) 9250 520892 dL_limits_152 mi_X5_mergeRuns ml_L_41 rfl rfl (Nat.le_of_ble_eq_true rfl) ⟨by decide, by decide⟩ (by omega) (by omega) hfs212 rfl (c_X5_mergeRuns N _ _ _ e211) (x_K.some ?_) x_KX.none
  refine x_toX (st' := [.int 24]) rfl ?_
  clear hd211 e211 a211 hfs212 w210 z210
  refine x_bipush 24 (by decide) dL_limits_155 ?_
  refine x_icmp_ne_n 275 dL_limits_157 (by decide) (by decide) ?_
  refine x_aload_n 2 dL_limits_160 rfl rfl ?_
  refine x_dom (fun hd213 => ?_)
  obtain ⟨f213, m213, e213, a213, w213⟩ := k_dd3 hN (by omega) w211 hd213 (z211.le w211 hd213) (a := 0) (b := 0) (v := 36) (S' := (k_of L_113)) tf_299.1 tf_299.2
  have z213 := z211.st a213
  obtain ⟨P213, w213⟩ : ∃ P, k_wd h.2 (h.2 + 70) 93 (k_of L_113) P (fun _ => none) [] f213 := ⟨_, w213⟩
  obtain ⟨fs214, hfs214⟩ := w211.ob
  refine x_callv (As := []) (rest := []) 9218 518989 dL_limits_161 mi_X5_mergeRuns ml_L_41 rfl rfl (Nat.le_of_ble_eq_true rfl) ⟨by decide, by decide⟩ (by omega) (by omega) hfs214 rfl (c_X5_mergeRuns N _ _ _ e213) (x_K.some ?_) x_KX.none
  refine x_toX (st' := [.int 36]) rfl ?_
  clear hd213 e213 a213 hfs214 w211 z211
  refine x_bipush 36 (by decide) dL_limits_164 ?_
  refine x_icmp_ne_n 275 dL_limits_166 (by decide) (by decide) ?_
  refine x_aload_n 2 dL_limits_169 rfl rfl ?_
  refine x_dom (fun hd215 => ?_)
  obtain ⟨f215, m215, e215, a215, w215⟩ := k_dd3 hN (by omega) w213 hd215 (z213.le w213 hd215) (a := 0) (b := 0) (v := 48) (S' := (k_of L_114)) tf_303.1 tf_303.2
  have z215 := z213.st a215
  obtain ⟨P215, w215⟩ : ∃ P, k_wd h.2 (h.2 + 70) 94 (k_of L_114) P (fun _ => none) [] f215 := ⟨_, w215⟩
  obtain ⟨fs216, hfs216⟩ := w213.ob
  refine x_callv (As := []) (rest := []) 9186 517086 dL_limits_170 mi_X5_mergeRuns ml_L_41 rfl rfl (Nat.le_of_ble_eq_true rfl) ⟨by decide, by decide⟩ (by omega) (by omega) hfs216 rfl (c_X5_mergeRuns N _ _ _ e215) (x_K.some ?_) x_KX.none
  refine x_toX (st' := [.int 48]) rfl ?_
  clear hd215 e215 a215 hfs216 w213 z213
  refine x_bipush 48 (by decide) dL_limits_173 ?_
  refine x_icmp_ne_n 275 dL_limits_175 (by decide) (by decide) ?_
  refine x_aload_n 2 dL_limits_178 rfl rfl ?_
  refine x_dom (fun hd217 => ?_)
  obtain ⟨f217, m217, e217, a217, w217⟩ := k_dd3 hN (by omega) w215 hd217 (z215.le w215 hd217) (a := 0) (b := 0) (v := 60) (S' := (k_of L_115)) tf_307.1 tf_307.2
  have z217 := z215.st a217
  obtain ⟨P217, w217⟩ : ∃ P, k_wd h.2 (h.2 + 70) 95 (k_of L_115) P (fun _ => none) [] f217 := ⟨_, w217⟩
  obtain ⟨fs218, hfs218⟩ := w215.ob
  refine x_callv (As := []) (rest := []) 9154 515183 dL_limits_179 mi_X5_mergeRuns ml_L_41 rfl rfl (Nat.le_of_ble_eq_true rfl) ⟨by decide, by decide⟩ (by omega) (by omega) hfs218 rfl (c_X5_mergeRuns N _ _ _ e217) (x_K.some ?_) x_KX.none
  refine x_toX (st' := [.int 60]) rfl ?_
  clear hd217 e217 a217 hfs218 w215 z215
  refine x_bipush 60 (by decide) dL_limits_182 ?_
  refine x_icmp_ne_n 275 dL_limits_184 (by decide) (by decide) ?_
  refine x_aload_n 2 dL_limits_187 rfl rfl ?_
  refine x_iconst 3 (by decide) dL_limits_188 ?_
  refine x_iconst 0 (by decide) dL_limits_189 ?_
  refine x_iconst 0 (by decide) dL_limits_190 ?_
  refine x_dom (fun hd220 => ?_)
  obtain ⟨f220, e220, a220, w220⟩ := k_rf3_1 hN (by omega) w217 hd220 (z217.le w217 hd220) (a := 0) (b := 0) (k_ac3_no tf_308 tf_309)
  have z220 := z217.st a220
  refine x_callsH (As := [.ref h.2, .int 3, .int 0, .int 0]) (rest := []) 9120 513268 dL_limits_191 mi_L_call rfl ml_L_182 rfl rfl (Nat.le_of_ble_eq_true rfl) ⟨by decide, by decide⟩ (by omega) (by omega) (c_L_call N _ _ _ _ _ _ e220) (fun n220 => ?_)
  refine x_toX (st' := [.int (-2013)]) rfl ?_
  clear hd220 e220 a220 w217 z217
  refine x_sipush (-2013) (by decide) dL_limits_194 ?_
  refine x_icmp_ne_n 275 dL_limits_197 (by decide) (by decide) ?_
  refine x_aload_n 2 dL_limits_200 rfl rfl ?_
  obtain ⟨q221, St221, bf221, h221, g221⟩ := w220.ci
  have e221 : F_X5_runs N f220 h.2 = some 2 := ((q_runs (N := N) h221).trans (congrArg some tf_310))
  obtain ⟨fs222, hfs222⟩ := w220.ob
  refine x_callv (As := []) (rest := []) 9120 513268 dL_limits_201 mi_X5_runs ml_L_155 rfl rfl (Nat.le_of_ble_eq_true rfl) ⟨by decide, by decide⟩ (by omega) (by omega) hfs222 rfl (c_X5_runs N _ _ _ _ e221) (x_K.some ?_) x_KX.none
  clear h221 g221 e221 hfs222
  refine x_iconst 2 (by decide) dL_limits_204 ?_
  refine x_icmp_ne_n 275 dL_limits_205 (by decide) (by decide) ?_
  refine x_aload_n 2 dL_limits_208 rfl rfl ?_
  obtain ⟨f223, e223, a223, w223⟩ := w220.q1 (G := fun f1 => (nI (k_all (k_of L_115)).1, f1)) (fun q St bf h => q_found hN h w220.gd.1)
  rw [qq_fd_of tf_311, tf_312] at e223
  have z223 := z220.st a223
  obtain ⟨fs224, hfs224⟩ := w220.ob
  refine x_callv (As := []) (rest := []) 9120 513268 dL_limits_209 mi_X5_found ml_L_158 rfl rfl (Nat.le_of_ble_eq_true rfl) ⟨by decide, by decide⟩ (by omega) (by omega) hfs224 rfl (c_X5_found N _ _ _ _ e223) (x_K.some ?_) x_KX.none
  refine x_toX (st' := [.int 73]) rfl ?_
  clear e223 a223 hfs224 w220 z220
  refine x_bipush 73 (by decide) dL_limits_212 ?_
  refine x_icmp_ne_n 275 dL_limits_214 (by decide) (by decide) ?_
  refine x_aload_n 2 dL_limits_217 rfl rfl ?_
  refine x_bipush 72 (by decide) dL_limits_218 ?_
  obtain ⟨f225, e225, a225, w225⟩ := w223.q1 (G := fun f1 => qm (qa_ka (k_of L_115) 72) f1) (fun q St bf h => q_ka hN h w223.gd.1 72)
  rw [qq_ka_of tf_311 72, tf_313] at e225
  replace e225 : F_X5_keyAt N f223 h.2 72 = some (.inl (9999, f225)) := e225
  have z225 := z223.st a225
  obtain ⟨fs226, hfs226⟩ := w223.ob
  refine x_callv (As := [.int 72]) (rest := []) 9119 513262 dL_limits_220 mi_X5_keyAt ml_L_93 rfl rfl (Nat.le_of_ble_eq_true rfl) ⟨by decide, by decide⟩ (by omega) (by omega) hfs226 rfl (c_X5_keyAt N _ _ _ _ _ e225) (x_K.some ?_) x_KX.none
  refine x_toX (st' := [.int 9999]) rfl ?_
  clear e225 a225 hfs226 w223 z223
  refine x_sipush 9999 (by decide) dL_limits_223 ?_
  refine x_icmp_ne_n 275 dL_limits_226 (by decide) (by decide) ?_
  refine x_aload_n 2 dL_limits_229 rfl rfl ?_
  refine x_iconst 0 (by decide) dL_limits_230 ?_
  obtain ⟨q227, St227, bf227, h227, g227⟩ := w225.ci
  have e227 : F_X5_pagesFor N f225 h.2 0 = some (.inl 3) := (q_pg hN h227 g227 0).trans (congrArg some tf_314)
  obtain ⟨fs228, hfs228⟩ := w225.ob
  refine x_callv (As := [.int 0]) (rest := []) 9118 513256 dL_limits_231 mi_X5_pagesFor ml_L_78 rfl rfl (Nat.le_of_ble_eq_true rfl) ⟨by decide, by decide⟩ (by omega) (by omega) hfs228 rfl (c_X5_pagesFor N _ _ _ _ _ e227) (x_K.some ?_) x_KX.none
  refine x_toX (st' := [.int 3]) rfl ?_
  clear h227 g227 e227 hfs228
  refine x_iconst 3 (by decide) dL_limits_234 ?_
  refine x_icmp_ne_n 275 dL_limits_235 (by decide) (by decide) ?_
  refine x_aload_n 2 dL_limits_238 rfl rfl ?_
  refine x_bipush 100 (by decide) dL_limits_239 ?_
  refine x_dom (fun hd229 => ?_)
  obtain ⟨f229, m229, e229, a229, w229⟩ := k_dd4 hN (by omega) w225 hd229 (z225.le w225 hd229) (a := 100) (b := 0) (v := 19) (S' := (k_of L_116)) ((k_ac4_of (b := 0) tf_311 tf_315 tf_316 w225.gd.1).1.trans (congrArg Sum.inl tf_317)) (k_ac4_of (b := 0) tf_311 tf_315 tf_316 w225.gd.1).2
  have z229 := z225.st a229
  obtain ⟨P229, w229⟩ : ∃ P, k_wd h.2 (h.2 + 70) 96 (k_of L_116) P (fun _ => none) [] f229 := ⟨_, w229⟩
  obtain ⟨fs230, hfs230⟩ := w225.ob
  refine x_callv (As := [.int 100]) (rest := []) 9085 511347 dL_limits_241 mi_X5_build ml_L_44 rfl rfl (Nat.le_of_ble_eq_true rfl) ⟨by decide, by decide⟩ (by omega) (by omega) hfs230 rfl (c_X5_build N _ _ _ _ e229) (x_K.some ?_) x_KX.none
  refine x_toX (st' := [.int 19]) rfl ?_
  clear hd229 e229 a229 hfs230 w225 z225
  refine x_bipush 19 (by decide) dL_limits_244 ?_
  refine x_icmp_ne_n 275 dL_limits_246 (by decide) (by decide) ?_
  refine x_aload_n 2 dL_limits_249 rfl rfl ?_
  obtain ⟨q231, St231, bf231, h231, g231⟩ := w229.ci
  have e231 : F_X5_levels N f229 h.2 = some 3 := ((q_levels hN h231 g231).trans (congrArg some tf_318))
  obtain ⟨fs232, hfs232⟩ := w229.ob
  refine x_callv (As := []) (rest := []) 9085 511347 dL_limits_250 mi_X5_levels ml_L_179 rfl rfl (Nat.le_of_ble_eq_true rfl) ⟨by decide, by decide⟩ (by omega) (by omega) hfs232 rfl (c_X5_levels N _ _ _ _ e231) (x_K.some ?_) x_KX.none
  clear h231 g231 e231 hfs232
  refine x_iconst 3 (by decide) dL_limits_253 ?_
  refine x_icmp_ne_n 275 dL_limits_254 (by decide) (by decide) ?_
  refine x_aload_n 2 dL_limits_257 rfl rfl ?_
  obtain ⟨f233, e233, a233, w233⟩ := w229.q1 (G := fun f1 => (nI (k_wst (k_of L_116)), f1)) (fun q St bf h => q_worst hN h w229.gd.1)
  rw [qq_ws_of tf_319, tf_320] at e233
  have z233 := z229.st a233
  obtain ⟨fs234, hfs234⟩ := w229.ob
  refine x_callv (As := []) (rest := []) 9085 511347 dL_limits_258 mi_X5_worstPages ml_L_212 rfl rfl (Nat.le_of_ble_eq_true rfl) ⟨by decide, by decide⟩ (by omega) (by omega) hfs234 rfl (c_X5_worstPages N _ _ _ _ e233) (x_K.some ?_) x_KX.none
  refine x_toX (st' := [.int 4]) rfl ?_
  clear e233 a233 hfs234 w229 z229
  refine x_iconst 4 (by decide) dL_limits_261 ?_
  refine x_icmp_ne_n 275 dL_limits_262 (by decide) (by decide) ?_
  refine x_aload_n 2 dL_limits_265 rfl rfl ?_
  refine x_bipush 8 (by decide) dL_limits_266 ?_
  refine x_dom (fun hd235 => ?_)
  obtain ⟨f235, m235, e235, a235, w235⟩ := k_dd7 hN (by omega) w233 hd235 (z233.le w233 hd235) (a := 8) (b := 0) (v := 4) (S' := (k_of (k_lx 0))) tf_321 (k_eqb_sp tf_322)
  have z235 := z233.st a235
  obtain ⟨P235, w235⟩ : ∃ P, k_wd h.2 (h.2 + 70) 97 (k_of (k_lx 0)) P (fun _ => none) [] f235 := ⟨_, w235⟩
  obtain ⟨fs236, hfs236⟩ := w233.ob
  refine x_callv (As := [.int 8]) (rest := []) 9053 509444 dL_limits_268 mi_X5_changeLeaf ml_L_53 rfl rfl (Nat.le_of_ble_eq_true rfl) ⟨by decide, by decide⟩ (by omega) (by omega) hfs236 rfl (c_X5_changeLeaf N _ _ _ _ e235) (x_K.some ?_) x_KX.none
  refine x_toX (st' := [.int 4]) rfl ?_
  clear hd235 e235 a235 hfs236 w233 z233
  refine x_iconst 4 (by decide) dL_limits_271 ?_
  refine x_icmp_eq_y 277 dL_limits_272 (by decide) (by decide) ?_
  refine x_iconst 0 (by decide) dL_limits_277 ?_
  refine x_istore_n (i := 1) (lv' := [(1, .int 0), (2, .int 12), (0, .ref h.2)]) dL_limits_278 rfl (by decide) rfl ?_
  refine x_iload_n 0 dL_limits_279 rfl rfl ?_
  refine x_bipush 87 (by decide) dL_limits_280 ?_
  refine x_icmp_ge_n 317 dL_limits_282 (by decide) (by decide) ?_
  refine x_aload_n 2 dL_limits_285 rfl rfl ?_
  refine x_bipush 100 (by decide) dL_limits_286 ?_
  refine x_iload_n 0 dL_limits_288 rfl rfl ?_
  refine x_iadd dL_limits_289 ?_
  refine x_toX (st' := [.int 100, .ref h.2]) rfl ?_
  refine x_iload_n 0 dL_limits_290 rfl rfl ?_
  refine x_dom (fun hd237 => ?_)
  obtain ⟨f237, m237, e237, a237, w237⟩ := k_dd5 hN (by omega) w235 hd237 (z235.le w235 hd237) (a := 100) (b := 0) (v := 2) (S' := (k_of (k_lx 1))) (k_ck5_sp k_lz_0).1 (k_ck5_sp k_lz_0).2
  have z237 := z235.st a237
  obtain ⟨P237, w237⟩ : ∃ P, k_wd h.2 (h.2 + 70) 98 (k_of (k_lx 1)) P (fun _ => none) [] f237 := ⟨_, w237⟩
  obtain ⟨fs238, hfs238⟩ := w235.ob
  refine x_callv (As := [.int 100, .int 0]) (rest := []) 9019 507529 dL_limits_291 mi_X5_insert ml_L_47 rfl rfl (Nat.le_of_ble_eq_true rfl) ⟨by decide, by decide⟩ (by omega) (by omega) hfs238 rfl (c_X5_insert N _ _ _ _ _ e237) (x_K.some ?_) x_KX.none
  refine x_toX (st' := [.int 2]) rfl ?_
  clear hd237 e237 a237 hfs238 w235 z235
  refine x_iconst 2 (by decide) dL_limits_294 ?_
  refine x_icmp_ne_n 309 dL_limits_295 (by decide) (by decide) ?_
  refine x_aload_n 2 dL_limits_298 rfl rfl ?_
  obtain ⟨q239, St239, bf239, h239, g239⟩ := w237.ci
  have e239 : F_X5_entries N f237 h.2 = some 74 := ((q_entries (N := N) h239).trans (congrArg some tf_323))
  obtain ⟨fs240, hfs240⟩ := w237.ob
  refine x_callv (As := []) (rest := []) 9019 507529 dL_limits_299 mi_X5_entries ml_L_143 rfl rfl (Nat.le_of_ble_eq_true rfl) ⟨by decide, by decide⟩ (by omega) (by omega) hfs240 rfl (c_X5_entries N _ _ _ _ e239) (x_K.some ?_) x_KX.none
  clear h239 g239 e239 hfs240
  refine x_bipush 74 (by decide) dL_limits_302 ?_
  refine x_iload_n 0 dL_limits_304 rfl rfl ?_
  refine x_iadd dL_limits_305 ?_
  refine x_toX (st' := [.int 74, .int 74]) rfl ?_
  refine x_icmp_eq_y 311 dL_limits_306 (by decide) (by decide) ?_
  refine x_iinc 1 (lv' := [(1, .int 1), (2, .int 12), (0, .ref h.2)]) dL_limits_311 0 rfl (by decide) (by decide) rfl ?_
  refine x_goto 279 dL_limits_314 (by decide) ?_
  refine x_iload_n 0 dL_limits_279 rfl rfl ?_
  refine x_bipush 87 (by decide) dL_limits_280 ?_
  refine x_icmp_ge_n 317 dL_limits_282 (by decide) (by decide) ?_
  refine x_aload_n 2 dL_limits_285 rfl rfl ?_
  refine x_bipush 100 (by decide) dL_limits_286 ?_
  refine x_iload_n 0 dL_limits_288 rfl rfl ?_
  refine x_iadd dL_limits_289 ?_
  refine x_toX (st' := [.int 101, .ref h.2]) rfl ?_
  refine x_iload_n 0 dL_limits_290 rfl rfl ?_
  refine x_dom (fun hd241 => ?_)
  obtain ⟨f241, m241, e241, a241, w241⟩ := k_dd5 hN (by omega) w237 hd241 (z237.le w237 hd241) (a := 101) (b := 1) (v := 2) (S' := (k_of (k_lx 2))) (k_ck5_sp k_lz_1).1 (k_ck5_sp k_lz_1).2
  have z241 := z237.st a241
  obtain ⟨P241, w241⟩ : ∃ P, k_wd h.2 (h.2 + 70) 99 (k_of (k_lx 2)) P (fun _ => none) [] f241 := ⟨_, w241⟩
  obtain ⟨fs242, hfs242⟩ := w237.ob
  refine x_callv (As := [.int 101, .int 1]) (rest := []) 8985 505614 dL_limits_291 mi_X5_insert ml_L_47 rfl rfl (Nat.le_of_ble_eq_true rfl) ⟨by decide, by decide⟩ (by omega) (by omega) hfs242 rfl (c_X5_insert N _ _ _ _ _ e241) (x_K.some ?_) x_KX.none
  refine x_toX (st' := [.int 2]) rfl ?_
  clear hd241 e241 a241 hfs242 w237 z237
  refine x_iconst 2 (by decide) dL_limits_294 ?_
  refine x_icmp_ne_n 309 dL_limits_295 (by decide) (by decide) ?_
  refine x_aload_n 2 dL_limits_298 rfl rfl ?_
  obtain ⟨q243, St243, bf243, h243, g243⟩ := w241.ci
  have e243 : F_X5_entries N f241 h.2 = some 75 := ((q_entries (N := N) h243).trans (congrArg some tf_324))
  obtain ⟨fs244, hfs244⟩ := w241.ob
  refine x_callv (As := []) (rest := []) 8985 505614 dL_limits_299 mi_X5_entries ml_L_143 rfl rfl (Nat.le_of_ble_eq_true rfl) ⟨by decide, by decide⟩ (by omega) (by omega) hfs244 rfl (c_X5_entries N _ _ _ _ e243) (x_K.some ?_) x_KX.none
  clear h243 g243 e243 hfs244
  refine x_bipush 74 (by decide) dL_limits_302 ?_
  refine x_iload_n 0 dL_limits_304 rfl rfl ?_
  refine x_iadd dL_limits_305 ?_
  refine x_toX (st' := [.int 75, .int 75]) rfl ?_
  refine x_icmp_eq_y 311 dL_limits_306 (by decide) (by decide) ?_
  refine x_iinc 2 (lv' := [(1, .int 2), (2, .int 12), (0, .ref h.2)]) dL_limits_311 0 rfl (by decide) (by decide) rfl ?_
  refine x_goto 279 dL_limits_314 (by decide) ?_
  refine x_iload_n 0 dL_limits_279 rfl rfl ?_
  refine x_bipush 87 (by decide) dL_limits_280 ?_
  refine x_icmp_ge_n 317 dL_limits_282 (by decide) (by decide) ?_
  refine x_aload_n 2 dL_limits_285 rfl rfl ?_
  refine x_bipush 100 (by decide) dL_limits_286 ?_
  refine x_iload_n 0 dL_limits_288 rfl rfl ?_
  refine x_iadd dL_limits_289 ?_
  refine x_toX (st' := [.int 102, .ref h.2]) rfl ?_
  refine x_iload_n 0 dL_limits_290 rfl rfl ?_
  refine x_dom (fun hd245 => ?_)
  obtain ⟨f245, m245, e245, a245, w245⟩ := k_dd5 hN (by omega) w241 hd245 (z241.le w241 hd245) (a := 102) (b := 2) (v := 2) (S' := (k_of (k_lx 3))) (k_ck5_sp k_lz_2).1 (k_ck5_sp k_lz_2).2
  have z245 := z241.st a245
  obtain ⟨P245, w245⟩ : ∃ P, k_wd h.2 (h.2 + 70) 100 (k_of (k_lx 3)) P (fun _ => none) [] f245 := ⟨_, w245⟩
  obtain ⟨fs246, hfs246⟩ := w241.ob
  refine x_callv (As := [.int 102, .int 2]) (rest := []) 8951 503699 dL_limits_291 mi_X5_insert ml_L_47 rfl rfl (Nat.le_of_ble_eq_true rfl) ⟨by decide, by decide⟩ (by omega) (by omega) hfs246 rfl (c_X5_insert N _ _ _ _ _ e245) (x_K.some ?_) x_KX.none
  refine x_toX (st' := [.int 2]) rfl ?_
  clear hd245 e245 a245 hfs246 w241 z241
  refine x_iconst 2 (by decide) dL_limits_294 ?_
  refine x_icmp_ne_n 309 dL_limits_295 (by decide) (by decide) ?_
  refine x_aload_n 2 dL_limits_298 rfl rfl ?_
  obtain ⟨q247, St247, bf247, h247, g247⟩ := w245.ci
  have e247 : F_X5_entries N f245 h.2 = some 76 := ((q_entries (N := N) h247).trans (congrArg some tf_325))
  obtain ⟨fs248, hfs248⟩ := w245.ob
  refine x_callv (As := []) (rest := []) 8951 503699 dL_limits_299 mi_X5_entries ml_L_143 rfl rfl (Nat.le_of_ble_eq_true rfl) ⟨by decide, by decide⟩ (by omega) (by omega) hfs248 rfl (c_X5_entries N _ _ _ _ e247) (x_K.some ?_) x_KX.none
  clear h247 g247 e247 hfs248
  refine x_bipush 74 (by decide) dL_limits_302 ?_
  refine x_iload_n 0 dL_limits_304 rfl rfl ?_
  refine x_iadd dL_limits_305 ?_
  refine x_toX (st' := [.int 76, .int 76]) rfl ?_
  refine x_icmp_eq_y 311 dL_limits_306 (by decide) (by decide) ?_
  refine x_iinc 3 (lv' := [(1, .int 3), (2, .int 12), (0, .ref h.2)]) dL_limits_311 0 rfl (by decide) (by decide) rfl ?_
  refine x_goto 279 dL_limits_314 (by decide) ?_
  refine x_iload_n 0 dL_limits_279 rfl rfl ?_
  refine x_bipush 87 (by decide) dL_limits_280 ?_
  refine x_icmp_ge_n 317 dL_limits_282 (by decide) (by decide) ?_
  refine x_aload_n 2 dL_limits_285 rfl rfl ?_
  refine x_bipush 100 (by decide) dL_limits_286 ?_
  refine x_iload_n 0 dL_limits_288 rfl rfl ?_
  refine x_iadd dL_limits_289 ?_
  refine x_toX (st' := [.int 103, .ref h.2]) rfl ?_
  refine x_iload_n 0 dL_limits_290 rfl rfl ?_
  refine x_dom (fun hd249 => ?_)
  obtain ⟨f249, m249, e249, a249, w249⟩ := k_dd5 hN (by omega) w245 hd249 (z245.le w245 hd249) (a := 103) (b := 3) (v := 2) (S' := (k_of (k_lx 4))) (k_ck5_sp k_lz_3).1 (k_ck5_sp k_lz_3).2
  have z249 := z245.st a249
  obtain ⟨P249, w249⟩ : ∃ P, k_wd h.2 (h.2 + 70) 101 (k_of (k_lx 4)) P (fun _ => none) [] f249 := ⟨_, w249⟩
  obtain ⟨fs250, hfs250⟩ := w245.ob
  refine x_callv (As := [.int 103, .int 3]) (rest := []) 8917 501784 dL_limits_291 mi_X5_insert ml_L_47 rfl rfl (Nat.le_of_ble_eq_true rfl) ⟨by decide, by decide⟩ (by omega) (by omega) hfs250 rfl (c_X5_insert N _ _ _ _ _ e249) (x_K.some ?_) x_KX.none
  refine x_toX (st' := [.int 2]) rfl ?_
  clear hd249 e249 a249 hfs250 w245 z245
  refine x_iconst 2 (by decide) dL_limits_294 ?_
  refine x_icmp_ne_n 309 dL_limits_295 (by decide) (by decide) ?_
  refine x_aload_n 2 dL_limits_298 rfl rfl ?_
  obtain ⟨q251, St251, bf251, h251, g251⟩ := w249.ci
  have e251 : F_X5_entries N f249 h.2 = some 77 := ((q_entries (N := N) h251).trans (congrArg some tf_326))
  obtain ⟨fs252, hfs252⟩ := w249.ob
  refine x_callv (As := []) (rest := []) 8917 501784 dL_limits_299 mi_X5_entries ml_L_143 rfl rfl (Nat.le_of_ble_eq_true rfl) ⟨by decide, by decide⟩ (by omega) (by omega) hfs252 rfl (c_X5_entries N _ _ _ _ e251) (x_K.some ?_) x_KX.none
  clear h251 g251 e251 hfs252
  refine x_bipush 74 (by decide) dL_limits_302 ?_
  refine x_iload_n 0 dL_limits_304 rfl rfl ?_
  refine x_iadd dL_limits_305 ?_
  refine x_toX (st' := [.int 77, .int 77]) rfl ?_
  refine x_icmp_eq_y 311 dL_limits_306 (by decide) (by decide) ?_
  refine x_iinc 4 (lv' := [(1, .int 4), (2, .int 12), (0, .ref h.2)]) dL_limits_311 0 rfl (by decide) (by decide) rfl ?_
  refine x_goto 279 dL_limits_314 (by decide) ?_
  refine x_iload_n 0 dL_limits_279 rfl rfl ?_
  refine x_bipush 87 (by decide) dL_limits_280 ?_
  refine x_icmp_ge_n 317 dL_limits_282 (by decide) (by decide) ?_
  refine x_aload_n 2 dL_limits_285 rfl rfl ?_
  refine x_bipush 100 (by decide) dL_limits_286 ?_
  refine x_iload_n 0 dL_limits_288 rfl rfl ?_
  refine x_iadd dL_limits_289 ?_
  refine x_toX (st' := [.int 104, .ref h.2]) rfl ?_
  refine x_iload_n 0 dL_limits_290 rfl rfl ?_
  refine x_dom (fun hd253 => ?_)
  obtain ⟨f253, m253, e253, a253, w253⟩ := k_dd5 hN (by omega) w249 hd253 (z249.le w249 hd253) (a := 104) (b := 4) (v := 2) (S' := (k_of (k_lx 5))) (k_ck5_sp k_lz_4).1 (k_ck5_sp k_lz_4).2
  have z253 := z249.st a253
  obtain ⟨P253, w253⟩ : ∃ P, k_wd h.2 (h.2 + 70) 102 (k_of (k_lx 5)) P (fun _ => none) [] f253 := ⟨_, w253⟩
  obtain ⟨fs254, hfs254⟩ := w249.ob
  refine x_callv (As := [.int 104, .int 4]) (rest := []) 8883 499869 dL_limits_291 mi_X5_insert ml_L_47 rfl rfl (Nat.le_of_ble_eq_true rfl) ⟨by decide, by decide⟩ (by omega) (by omega) hfs254 rfl (c_X5_insert N _ _ _ _ _ e253) (x_K.some ?_) x_KX.none
  refine x_toX (st' := [.int 2]) rfl ?_
  clear hd253 e253 a253 hfs254 w249 z249
  refine x_iconst 2 (by decide) dL_limits_294 ?_
  refine x_icmp_ne_n 309 dL_limits_295 (by decide) (by decide) ?_
  refine x_aload_n 2 dL_limits_298 rfl rfl ?_
  obtain ⟨q255, St255, bf255, h255, g255⟩ := w253.ci
  have e255 : F_X5_entries N f253 h.2 = some 78 := ((q_entries (N := N) h255).trans (congrArg some tf_327))
  obtain ⟨fs256, hfs256⟩ := w253.ob
  refine x_callv (As := []) (rest := []) 8883 499869 dL_limits_299 mi_X5_entries ml_L_143 rfl rfl (Nat.le_of_ble_eq_true rfl) ⟨by decide, by decide⟩ (by omega) (by omega) hfs256 rfl (c_X5_entries N _ _ _ _ e255) (x_K.some ?_) x_KX.none
  clear h255 g255 e255 hfs256
  refine x_bipush 74 (by decide) dL_limits_302 ?_
  refine x_iload_n 0 dL_limits_304 rfl rfl ?_
  refine x_iadd dL_limits_305 ?_
  refine x_toX (st' := [.int 78, .int 78]) rfl ?_
  refine x_icmp_eq_y 311 dL_limits_306 (by decide) (by decide) ?_
  refine x_iinc 5 (lv' := [(1, .int 5), (2, .int 12), (0, .ref h.2)]) dL_limits_311 0 rfl (by decide) (by decide) rfl ?_
  refine x_goto 279 dL_limits_314 (by decide) ?_
  refine x_iload_n 0 dL_limits_279 rfl rfl ?_
  refine x_bipush 87 (by decide) dL_limits_280 ?_
  refine x_icmp_ge_n 317 dL_limits_282 (by decide) (by decide) ?_
  refine x_aload_n 2 dL_limits_285 rfl rfl ?_
  refine x_bipush 100 (by decide) dL_limits_286 ?_
  refine x_iload_n 0 dL_limits_288 rfl rfl ?_
  refine x_iadd dL_limits_289 ?_
  refine x_toX (st' := [.int 105, .ref h.2]) rfl ?_
  refine x_iload_n 0 dL_limits_290 rfl rfl ?_
  refine x_dom (fun hd257 => ?_)
  obtain ⟨f257, m257, e257, a257, w257⟩ := k_dd5 hN (by omega) w253 hd257 (z253.le w253 hd257) (a := 105) (b := 5) (v := 2) (S' := (k_of (k_lx 6))) (k_ck5_sp k_lz_5).1 (k_ck5_sp k_lz_5).2
  have z257 := z253.st a257
  obtain ⟨P257, w257⟩ : ∃ P, k_wd h.2 (h.2 + 70) 103 (k_of (k_lx 6)) P (fun _ => none) [] f257 := ⟨_, w257⟩
  obtain ⟨fs258, hfs258⟩ := w253.ob
  refine x_callv (As := [.int 105, .int 5]) (rest := []) 8849 497954 dL_limits_291 mi_X5_insert ml_L_47 rfl rfl (Nat.le_of_ble_eq_true rfl) ⟨by decide, by decide⟩ (by omega) (by omega) hfs258 rfl (c_X5_insert N _ _ _ _ _ e257) (x_K.some ?_) x_KX.none
  refine x_toX (st' := [.int 2]) rfl ?_
  clear hd257 e257 a257 hfs258 w253 z253
  refine x_iconst 2 (by decide) dL_limits_294 ?_
  refine x_icmp_ne_n 309 dL_limits_295 (by decide) (by decide) ?_
  refine x_aload_n 2 dL_limits_298 rfl rfl ?_
  obtain ⟨q259, St259, bf259, h259, g259⟩ := w257.ci
  have e259 : F_X5_entries N f257 h.2 = some 79 := ((q_entries (N := N) h259).trans (congrArg some tf_328))
  obtain ⟨fs260, hfs260⟩ := w257.ob
  refine x_callv (As := []) (rest := []) 8849 497954 dL_limits_299 mi_X5_entries ml_L_143 rfl rfl (Nat.le_of_ble_eq_true rfl) ⟨by decide, by decide⟩ (by omega) (by omega) hfs260 rfl (c_X5_entries N _ _ _ _ e259) (x_K.some ?_) x_KX.none
  clear h259 g259 e259 hfs260
  refine x_bipush 74 (by decide) dL_limits_302 ?_
  refine x_iload_n 0 dL_limits_304 rfl rfl ?_
  refine x_iadd dL_limits_305 ?_
  refine x_toX (st' := [.int 79, .int 79]) rfl ?_
  refine x_icmp_eq_y 311 dL_limits_306 (by decide) (by decide) ?_
  refine x_iinc 6 (lv' := [(1, .int 6), (2, .int 12), (0, .ref h.2)]) dL_limits_311 0 rfl (by decide) (by decide) rfl ?_
  refine x_goto 279 dL_limits_314 (by decide) ?_
  refine x_iload_n 0 dL_limits_279 rfl rfl ?_
  refine x_bipush 87 (by decide) dL_limits_280 ?_
  refine x_icmp_ge_n 317 dL_limits_282 (by decide) (by decide) ?_
  refine x_aload_n 2 dL_limits_285 rfl rfl ?_
  refine x_bipush 100 (by decide) dL_limits_286 ?_
  refine x_iload_n 0 dL_limits_288 rfl rfl ?_
  refine x_iadd dL_limits_289 ?_
  refine x_toX (st' := [.int 106, .ref h.2]) rfl ?_
  refine x_iload_n 0 dL_limits_290 rfl rfl ?_
  refine x_dom (fun hd261 => ?_)
  obtain ⟨f261, m261, e261, a261, w261⟩ := k_dd5 hN (by omega) w257 hd261 (z257.le w257 hd261) (a := 106) (b := 6) (v := 2) (S' := (k_of (k_lx 7))) (k_ck5_sp k_lz_6).1 (k_ck5_sp k_lz_6).2
  have z261 := z257.st a261
  obtain ⟨P261, w261⟩ : ∃ P, k_wd h.2 (h.2 + 70) 104 (k_of (k_lx 7)) P (fun _ => none) [] f261 := ⟨_, w261⟩
  obtain ⟨fs262, hfs262⟩ := w257.ob
  refine x_callv (As := [.int 106, .int 6]) (rest := []) 8815 496039 dL_limits_291 mi_X5_insert ml_L_47 rfl rfl (Nat.le_of_ble_eq_true rfl) ⟨by decide, by decide⟩ (by omega) (by omega) hfs262 rfl (c_X5_insert N _ _ _ _ _ e261) (x_K.some ?_) x_KX.none
  refine x_toX (st' := [.int 2]) rfl ?_
  clear hd261 e261 a261 hfs262 w257 z257
  refine x_iconst 2 (by decide) dL_limits_294 ?_
  refine x_icmp_ne_n 309 dL_limits_295 (by decide) (by decide) ?_
  refine x_aload_n 2 dL_limits_298 rfl rfl ?_
  obtain ⟨q263, St263, bf263, h263, g263⟩ := w261.ci
  have e263 : F_X5_entries N f261 h.2 = some 80 := ((q_entries (N := N) h263).trans (congrArg some tf_329))
  obtain ⟨fs264, hfs264⟩ := w261.ob
  refine x_callv (As := []) (rest := []) 8815 496039 dL_limits_299 mi_X5_entries ml_L_143 rfl rfl (Nat.le_of_ble_eq_true rfl) ⟨by decide, by decide⟩ (by omega) (by omega) hfs264 rfl (c_X5_entries N _ _ _ _ e263) (x_K.some ?_) x_KX.none
  clear h263 g263 e263 hfs264
  refine x_bipush 74 (by decide) dL_limits_302 ?_
  refine x_iload_n 0 dL_limits_304 rfl rfl ?_
  refine x_iadd dL_limits_305 ?_
  refine x_toX (st' := [.int 80, .int 80]) rfl ?_
  refine x_icmp_eq_y 311 dL_limits_306 (by decide) (by decide) ?_
  refine x_iinc 7 (lv' := [(1, .int 7), (2, .int 12), (0, .ref h.2)]) dL_limits_311 0 rfl (by decide) (by decide) rfl ?_
  refine x_goto 279 dL_limits_314 (by decide) ?_
  refine x_iload_n 0 dL_limits_279 rfl rfl ?_
  refine x_bipush 87 (by decide) dL_limits_280 ?_
  refine x_icmp_ge_n 317 dL_limits_282 (by decide) (by decide) ?_
  refine x_aload_n 2 dL_limits_285 rfl rfl ?_
  refine x_bipush 100 (by decide) dL_limits_286 ?_
  refine x_iload_n 0 dL_limits_288 rfl rfl ?_
  refine x_iadd dL_limits_289 ?_
  refine x_toX (st' := [.int 107, .ref h.2]) rfl ?_
  refine x_iload_n 0 dL_limits_290 rfl rfl ?_
  refine x_dom (fun hd265 => ?_)
  obtain ⟨f265, m265, e265, a265, w265⟩ := k_dd5 hN (by omega) w261 hd265 (z261.le w261 hd265) (a := 107) (b := 7) (v := 2) (S' := (k_of (k_lx 8))) (k_ck5_sp k_lz_7).1 (k_ck5_sp k_lz_7).2
  have z265 := z261.st a265
  obtain ⟨P265, w265⟩ : ∃ P, k_wd h.2 (h.2 + 70) 105 (k_of (k_lx 8)) P (fun _ => none) [] f265 := ⟨_, w265⟩
  obtain ⟨fs266, hfs266⟩ := w261.ob
  refine x_callv (As := [.int 107, .int 7]) (rest := []) 8781 494124 dL_limits_291 mi_X5_insert ml_L_47 rfl rfl (Nat.le_of_ble_eq_true rfl) ⟨by decide, by decide⟩ (by omega) (by omega) hfs266 rfl (c_X5_insert N _ _ _ _ _ e265) (x_K.some ?_) x_KX.none
  refine x_toX (st' := [.int 2]) rfl ?_
  clear hd265 e265 a265 hfs266 w261 z261
  refine x_iconst 2 (by decide) dL_limits_294 ?_
  refine x_icmp_ne_n 309 dL_limits_295 (by decide) (by decide) ?_
  refine x_aload_n 2 dL_limits_298 rfl rfl ?_
  obtain ⟨q267, St267, bf267, h267, g267⟩ := w265.ci
  have e267 : F_X5_entries N f265 h.2 = some 81 := ((q_entries (N := N) h267).trans (congrArg some tf_330))
  obtain ⟨fs268, hfs268⟩ := w265.ob
  refine x_callv (As := []) (rest := []) 8781 494124 dL_limits_299 mi_X5_entries ml_L_143 rfl rfl (Nat.le_of_ble_eq_true rfl) ⟨by decide, by decide⟩ (by omega) (by omega) hfs268 rfl (c_X5_entries N _ _ _ _ e267) (x_K.some ?_) x_KX.none
  clear h267 g267 e267 hfs268
  refine x_bipush 74 (by decide) dL_limits_302 ?_
  refine x_iload_n 0 dL_limits_304 rfl rfl ?_
  refine x_iadd dL_limits_305 ?_
  refine x_toX (st' := [.int 81, .int 81]) rfl ?_
  refine x_icmp_eq_y 311 dL_limits_306 (by decide) (by decide) ?_
  refine x_iinc 8 (lv' := [(1, .int 8), (2, .int 12), (0, .ref h.2)]) dL_limits_311 0 rfl (by decide) (by decide) rfl ?_
  refine x_goto 279 dL_limits_314 (by decide) ?_
  refine x_iload_n 0 dL_limits_279 rfl rfl ?_
  refine x_bipush 87 (by decide) dL_limits_280 ?_
  refine x_icmp_ge_n 317 dL_limits_282 (by decide) (by decide) ?_
  refine x_aload_n 2 dL_limits_285 rfl rfl ?_
  refine x_bipush 100 (by decide) dL_limits_286 ?_
  refine x_iload_n 0 dL_limits_288 rfl rfl ?_
  refine x_iadd dL_limits_289 ?_
  refine x_toX (st' := [.int 108, .ref h.2]) rfl ?_
  refine x_iload_n 0 dL_limits_290 rfl rfl ?_
  refine x_dom (fun hd269 => ?_)
  obtain ⟨f269, m269, e269, a269, w269⟩ := k_dd5 hN (by omega) w265 hd269 (z265.le w265 hd269) (a := 108) (b := 8) (v := 2) (S' := (k_of (k_lx 9))) (k_ck5_sp k_lz_8).1 (k_ck5_sp k_lz_8).2
  have z269 := z265.st a269
  obtain ⟨P269, w269⟩ : ∃ P, k_wd h.2 (h.2 + 70) 106 (k_of (k_lx 9)) P (fun _ => none) [] f269 := ⟨_, w269⟩
  obtain ⟨fs270, hfs270⟩ := w265.ob
  refine x_callv (As := [.int 108, .int 8]) (rest := []) 8747 492209 dL_limits_291 mi_X5_insert ml_L_47 rfl rfl (Nat.le_of_ble_eq_true rfl) ⟨by decide, by decide⟩ (by omega) (by omega) hfs270 rfl (c_X5_insert N _ _ _ _ _ e269) (x_K.some ?_) x_KX.none
  refine x_toX (st' := [.int 2]) rfl ?_
  clear hd269 e269 a269 hfs270 w265 z265
  refine x_iconst 2 (by decide) dL_limits_294 ?_
  refine x_icmp_ne_n 309 dL_limits_295 (by decide) (by decide) ?_
  refine x_aload_n 2 dL_limits_298 rfl rfl ?_
  obtain ⟨q271, St271, bf271, h271, g271⟩ := w269.ci
  have e271 : F_X5_entries N f269 h.2 = some 82 := ((q_entries (N := N) h271).trans (congrArg some tf_331))
  obtain ⟨fs272, hfs272⟩ := w269.ob
  refine x_callv (As := []) (rest := []) 8747 492209 dL_limits_299 mi_X5_entries ml_L_143 rfl rfl (Nat.le_of_ble_eq_true rfl) ⟨by decide, by decide⟩ (by omega) (by omega) hfs272 rfl (c_X5_entries N _ _ _ _ e271) (x_K.some ?_) x_KX.none
  clear h271 g271 e271 hfs272
  refine x_bipush 74 (by decide) dL_limits_302 ?_
  refine x_iload_n 0 dL_limits_304 rfl rfl ?_
  refine x_iadd dL_limits_305 ?_
  refine x_toX (st' := [.int 82, .int 82]) rfl ?_
  refine x_icmp_eq_y 311 dL_limits_306 (by decide) (by decide) ?_
  refine x_iinc 9 (lv' := [(1, .int 9), (2, .int 12), (0, .ref h.2)]) dL_limits_311 0 rfl (by decide) (by decide) rfl ?_
  refine x_goto 279 dL_limits_314 (by decide) ?_
  refine x_iload_n 0 dL_limits_279 rfl rfl ?_
  refine x_bipush 87 (by decide) dL_limits_280 ?_
  refine x_icmp_ge_n 317 dL_limits_282 (by decide) (by decide) ?_
  refine x_aload_n 2 dL_limits_285 rfl rfl ?_
  refine x_bipush 100 (by decide) dL_limits_286 ?_
  refine x_iload_n 0 dL_limits_288 rfl rfl ?_
  refine x_iadd dL_limits_289 ?_
  refine x_toX (st' := [.int 109, .ref h.2]) rfl ?_
  refine x_iload_n 0 dL_limits_290 rfl rfl ?_
  refine x_dom (fun hd273 => ?_)
  obtain ⟨f273, m273, e273, a273, w273⟩ := k_dd5 hN (by omega) w269 hd273 (z269.le w269 hd273) (a := 109) (b := 9) (v := 2) (S' := (k_of (k_lx 10))) (k_ck5_sp k_lz_9).1 (k_ck5_sp k_lz_9).2
  have z273 := z269.st a273
  obtain ⟨P273, w273⟩ : ∃ P, k_wd h.2 (h.2 + 70) 107 (k_of (k_lx 10)) P (fun _ => none) [] f273 := ⟨_, w273⟩
  obtain ⟨fs274, hfs274⟩ := w269.ob
  refine x_callv (As := [.int 109, .int 9]) (rest := []) 8713 490294 dL_limits_291 mi_X5_insert ml_L_47 rfl rfl (Nat.le_of_ble_eq_true rfl) ⟨by decide, by decide⟩ (by omega) (by omega) hfs274 rfl (c_X5_insert N _ _ _ _ _ e273) (x_K.some ?_) x_KX.none
  refine x_toX (st' := [.int 2]) rfl ?_
  clear hd273 e273 a273 hfs274 w269 z269
  refine x_iconst 2 (by decide) dL_limits_294 ?_
  refine x_icmp_ne_n 309 dL_limits_295 (by decide) (by decide) ?_
  refine x_aload_n 2 dL_limits_298 rfl rfl ?_
  obtain ⟨q275, St275, bf275, h275, g275⟩ := w273.ci
  have e275 : F_X5_entries N f273 h.2 = some 83 := ((q_entries (N := N) h275).trans (congrArg some tf_332))
  obtain ⟨fs276, hfs276⟩ := w273.ob
  refine x_callv (As := []) (rest := []) 8713 490294 dL_limits_299 mi_X5_entries ml_L_143 rfl rfl (Nat.le_of_ble_eq_true rfl) ⟨by decide, by decide⟩ (by omega) (by omega) hfs276 rfl (c_X5_entries N _ _ _ _ e275) (x_K.some ?_) x_KX.none
  clear h275 g275 e275 hfs276
  refine x_bipush 74 (by decide) dL_limits_302 ?_
  refine x_iload_n 0 dL_limits_304 rfl rfl ?_
  refine x_iadd dL_limits_305 ?_
  refine x_toX (st' := [.int 83, .int 83]) rfl ?_
  refine x_icmp_eq_y 311 dL_limits_306 (by decide) (by decide) ?_
  refine x_iinc 10 (lv' := [(1, .int 10), (2, .int 12), (0, .ref h.2)]) dL_limits_311 0 rfl (by decide) (by decide) rfl ?_
  refine x_goto 279 dL_limits_314 (by decide) ?_
  refine x_iload_n 0 dL_limits_279 rfl rfl ?_
  refine x_bipush 87 (by decide) dL_limits_280 ?_
  refine x_icmp_ge_n 317 dL_limits_282 (by decide) (by decide) ?_
  refine x_aload_n 2 dL_limits_285 rfl rfl ?_
  refine x_bipush 100 (by decide) dL_limits_286 ?_
  refine x_iload_n 0 dL_limits_288 rfl rfl ?_
  refine x_iadd dL_limits_289 ?_
  refine x_toX (st' := [.int 110, .ref h.2]) rfl ?_
  refine x_iload_n 0 dL_limits_290 rfl rfl ?_
  refine x_dom (fun hd277 => ?_)
  obtain ⟨f277, m277, e277, a277, w277⟩ := k_dd5 hN (by omega) w273 hd277 (z273.le w273 hd277) (a := 110) (b := 10) (v := 2) (S' := (k_of (k_lx 11))) (k_ck5_sp k_lz_10).1 (k_ck5_sp k_lz_10).2
  have z277 := z273.st a277
  obtain ⟨P277, w277⟩ : ∃ P, k_wd h.2 (h.2 + 70) 108 (k_of (k_lx 11)) P (fun _ => none) [] f277 := ⟨_, w277⟩
  obtain ⟨fs278, hfs278⟩ := w273.ob
  refine x_callv (As := [.int 110, .int 10]) (rest := []) 8679 488379 dL_limits_291 mi_X5_insert ml_L_47 rfl rfl (Nat.le_of_ble_eq_true rfl) ⟨by decide, by decide⟩ (by omega) (by omega) hfs278 rfl (c_X5_insert N _ _ _ _ _ e277) (x_K.some ?_) x_KX.none
  refine x_toX (st' := [.int 2]) rfl ?_
  clear hd277 e277 a277 hfs278 w273 z273
  refine x_iconst 2 (by decide) dL_limits_294 ?_
  refine x_icmp_ne_n 309 dL_limits_295 (by decide) (by decide) ?_
  refine x_aload_n 2 dL_limits_298 rfl rfl ?_
  obtain ⟨q279, St279, bf279, h279, g279⟩ := w277.ci
  have e279 : F_X5_entries N f277 h.2 = some 84 := ((q_entries (N := N) h279).trans (congrArg some tf_333))
  obtain ⟨fs280, hfs280⟩ := w277.ob
  refine x_callv (As := []) (rest := []) 8679 488379 dL_limits_299 mi_X5_entries ml_L_143 rfl rfl (Nat.le_of_ble_eq_true rfl) ⟨by decide, by decide⟩ (by omega) (by omega) hfs280 rfl (c_X5_entries N _ _ _ _ e279) (x_K.some ?_) x_KX.none
  clear h279 g279 e279 hfs280
  refine x_bipush 74 (by decide) dL_limits_302 ?_
  refine x_iload_n 0 dL_limits_304 rfl rfl ?_
  refine x_iadd dL_limits_305 ?_
  refine x_toX (st' := [.int 84, .int 84]) rfl ?_
  refine x_icmp_eq_y 311 dL_limits_306 (by decide) (by decide) ?_
  refine x_iinc 11 (lv' := [(1, .int 11), (2, .int 12), (0, .ref h.2)]) dL_limits_311 0 rfl (by decide) (by decide) rfl ?_
  refine x_goto 279 dL_limits_314 (by decide) ?_
  refine x_iload_n 0 dL_limits_279 rfl rfl ?_
  refine x_bipush 87 (by decide) dL_limits_280 ?_
  refine x_icmp_ge_n 317 dL_limits_282 (by decide) (by decide) ?_
  refine x_aload_n 2 dL_limits_285 rfl rfl ?_
  refine x_bipush 100 (by decide) dL_limits_286 ?_
  refine x_iload_n 0 dL_limits_288 rfl rfl ?_
  refine x_iadd dL_limits_289 ?_
  refine x_toX (st' := [.int 111, .ref h.2]) rfl ?_
  refine x_iload_n 0 dL_limits_290 rfl rfl ?_
  refine x_dom (fun hd281 => ?_)
  obtain ⟨f281, m281, e281, a281, w281⟩ := k_dd5 hN (by omega) w277 hd281 (z277.le w277 hd281) (a := 111) (b := 11) (v := 2) (S' := (k_of (k_lx 12))) (k_ck5_sp k_lz_11).1 (k_ck5_sp k_lz_11).2
  have z281 := z277.st a281
  obtain ⟨P281, w281⟩ : ∃ P, k_wd h.2 (h.2 + 70) 109 (k_of (k_lx 12)) P (fun _ => none) [] f281 := ⟨_, w281⟩
  obtain ⟨fs282, hfs282⟩ := w277.ob
  refine x_callv (As := [.int 111, .int 11]) (rest := []) 8645 486464 dL_limits_291 mi_X5_insert ml_L_47 rfl rfl (Nat.le_of_ble_eq_true rfl) ⟨by decide, by decide⟩ (by omega) (by omega) hfs282 rfl (c_X5_insert N _ _ _ _ _ e281) (x_K.some ?_) x_KX.none
  refine x_toX (st' := [.int 2]) rfl ?_
  clear hd281 e281 a281 hfs282 w277 z277
  refine x_iconst 2 (by decide) dL_limits_294 ?_
  refine x_icmp_ne_n 309 dL_limits_295 (by decide) (by decide) ?_
  refine x_aload_n 2 dL_limits_298 rfl rfl ?_
  obtain ⟨q283, St283, bf283, h283, g283⟩ := w281.ci
  have e283 : F_X5_entries N f281 h.2 = some 85 := ((q_entries (N := N) h283).trans (congrArg some tf_334))
  obtain ⟨fs284, hfs284⟩ := w281.ob
  refine x_callv (As := []) (rest := []) 8645 486464 dL_limits_299 mi_X5_entries ml_L_143 rfl rfl (Nat.le_of_ble_eq_true rfl) ⟨by decide, by decide⟩ (by omega) (by omega) hfs284 rfl (c_X5_entries N _ _ _ _ e283) (x_K.some ?_) x_KX.none
  clear h283 g283 e283 hfs284
  refine x_bipush 74 (by decide) dL_limits_302 ?_
  refine x_iload_n 0 dL_limits_304 rfl rfl ?_
  refine x_iadd dL_limits_305 ?_
  refine x_toX (st' := [.int 85, .int 85]) rfl ?_
  refine x_icmp_eq_y 311 dL_limits_306 (by decide) (by decide) ?_
  refine x_iinc 12 (lv' := [(1, .int 12), (2, .int 12), (0, .ref h.2)]) dL_limits_311 0 rfl (by decide) (by decide) rfl ?_
  refine x_goto 279 dL_limits_314 (by decide) ?_
  refine x_iload_n 0 dL_limits_279 rfl rfl ?_
  refine x_bipush 87 (by decide) dL_limits_280 ?_
  refine x_icmp_ge_n 317 dL_limits_282 (by decide) (by decide) ?_
  refine x_aload_n 2 dL_limits_285 rfl rfl ?_
  refine x_bipush 100 (by decide) dL_limits_286 ?_
  refine x_iload_n 0 dL_limits_288 rfl rfl ?_
  refine x_iadd dL_limits_289 ?_
  refine x_toX (st' := [.int 112, .ref h.2]) rfl ?_
  refine x_iload_n 0 dL_limits_290 rfl rfl ?_
  refine x_dom (fun hd285 => ?_)
  obtain ⟨f285, m285, e285, a285, w285⟩ := k_dd5 hN (by omega) w281 hd285 (z281.le w281 hd285) (a := 112) (b := 12) (v := 2) (S' := (k_of (k_lx 13))) (k_ck5_sp k_lz_12).1 (k_ck5_sp k_lz_12).2
  have z285 := z281.st a285
  obtain ⟨P285, w285⟩ : ∃ P, k_wd h.2 (h.2 + 70) 110 (k_of (k_lx 13)) P (fun _ => none) [] f285 := ⟨_, w285⟩
  obtain ⟨fs286, hfs286⟩ := w281.ob
  refine x_callv (As := [.int 112, .int 12]) (rest := []) 8611 484549 dL_limits_291 mi_X5_insert ml_L_47 rfl rfl (Nat.le_of_ble_eq_true rfl) ⟨by decide, by decide⟩ (by omega) (by omega) hfs286 rfl (c_X5_insert N _ _ _ _ _ e285) (x_K.some ?_) x_KX.none
  refine x_toX (st' := [.int 2]) rfl ?_
  clear hd285 e285 a285 hfs286 w281 z281
  refine x_iconst 2 (by decide) dL_limits_294 ?_
  refine x_icmp_ne_n 309 dL_limits_295 (by decide) (by decide) ?_
  refine x_aload_n 2 dL_limits_298 rfl rfl ?_
  obtain ⟨q287, St287, bf287, h287, g287⟩ := w285.ci
  have e287 : F_X5_entries N f285 h.2 = some 86 := ((q_entries (N := N) h287).trans (congrArg some tf_335))
  obtain ⟨fs288, hfs288⟩ := w285.ob
  refine x_callv (As := []) (rest := []) 8611 484549 dL_limits_299 mi_X5_entries ml_L_143 rfl rfl (Nat.le_of_ble_eq_true rfl) ⟨by decide, by decide⟩ (by omega) (by omega) hfs288 rfl (c_X5_entries N _ _ _ _ e287) (x_K.some ?_) x_KX.none
  clear h287 g287 e287 hfs288
  refine x_bipush 74 (by decide) dL_limits_302 ?_
  refine x_iload_n 0 dL_limits_304 rfl rfl ?_
  refine x_iadd dL_limits_305 ?_
  refine x_toX (st' := [.int 86, .int 86]) rfl ?_
  refine x_icmp_eq_y 311 dL_limits_306 (by decide) (by decide) ?_
  refine x_iinc 13 (lv' := [(1, .int 13), (2, .int 12), (0, .ref h.2)]) dL_limits_311 0 rfl (by decide) (by decide) rfl ?_
  refine x_goto 279 dL_limits_314 (by decide) ?_
  refine x_iload_n 0 dL_limits_279 rfl rfl ?_
  refine x_bipush 87 (by decide) dL_limits_280 ?_
  refine x_icmp_ge_n 317 dL_limits_282 (by decide) (by decide) ?_
  refine x_aload_n 2 dL_limits_285 rfl rfl ?_
  refine x_bipush 100 (by decide) dL_limits_286 ?_
  refine x_iload_n 0 dL_limits_288 rfl rfl ?_
  refine x_iadd dL_limits_289 ?_
  refine x_toX (st' := [.int 113, .ref h.2]) rfl ?_
  refine x_iload_n 0 dL_limits_290 rfl rfl ?_
  refine x_dom (fun hd289 => ?_)
  obtain ⟨f289, m289, e289, a289, w289⟩ := k_dd5 hN (by omega) w285 hd289 (z285.le w285 hd289) (a := 113) (b := 13) (v := 2) (S' := (k_of (k_lx 14))) (k_ck5_sp k_lz_13).1 (k_ck5_sp k_lz_13).2
  have z289 := z285.st a289
  obtain ⟨P289, w289⟩ : ∃ P, k_wd h.2 (h.2 + 70) 111 (k_of (k_lx 14)) P (fun _ => none) [] f289 := ⟨_, w289⟩
  obtain ⟨fs290, hfs290⟩ := w285.ob
  refine x_callv (As := [.int 113, .int 13]) (rest := []) 8577 482634 dL_limits_291 mi_X5_insert ml_L_47 rfl rfl (Nat.le_of_ble_eq_true rfl) ⟨by decide, by decide⟩ (by omega) (by omega) hfs290 rfl (c_X5_insert N _ _ _ _ _ e289) (x_K.some ?_) x_KX.none
  refine x_toX (st' := [.int 2]) rfl ?_
  clear hd289 e289 a289 hfs290 w285 z285
  refine x_iconst 2 (by decide) dL_limits_294 ?_
  refine x_icmp_ne_n 309 dL_limits_295 (by decide) (by decide) ?_
  refine x_aload_n 2 dL_limits_298 rfl rfl ?_
  obtain ⟨q291, St291, bf291, h291, g291⟩ := w289.ci
  have e291 : F_X5_entries N f289 h.2 = some 87 := ((q_entries (N := N) h291).trans (congrArg some tf_336))
  obtain ⟨fs292, hfs292⟩ := w289.ob
  refine x_callv (As := []) (rest := []) 8577 482634 dL_limits_299 mi_X5_entries ml_L_143 rfl rfl (Nat.le_of_ble_eq_true rfl) ⟨by decide, by decide⟩ (by omega) (by omega) hfs292 rfl (c_X5_entries N _ _ _ _ e291) (x_K.some ?_) x_KX.none
  clear h291 g291 e291 hfs292
  refine x_bipush 74 (by decide) dL_limits_302 ?_
  refine x_iload_n 0 dL_limits_304 rfl rfl ?_
  refine x_iadd dL_limits_305 ?_
  refine x_toX (st' := [.int 87, .int 87]) rfl ?_
  refine x_icmp_eq_y 311 dL_limits_306 (by decide) (by decide) ?_
  refine x_iinc 14 (lv' := [(1, .int 14), (2, .int 12), (0, .ref h.2)]) dL_limits_311 0 rfl (by decide) (by decide) rfl ?_
  refine x_goto 279 dL_limits_314 (by decide) ?_
  refine x_iload_n 0 dL_limits_279 rfl rfl ?_
  refine x_bipush 87 (by decide) dL_limits_280 ?_
  refine x_icmp_ge_n 317 dL_limits_282 (by decide) (by decide) ?_
  refine x_aload_n 2 dL_limits_285 rfl rfl ?_
  refine x_bipush 100 (by decide) dL_limits_286 ?_
  refine x_iload_n 0 dL_limits_288 rfl rfl ?_
  refine x_iadd dL_limits_289 ?_
  refine x_toX (st' := [.int 114, .ref h.2]) rfl ?_
  refine x_iload_n 0 dL_limits_290 rfl rfl ?_
  refine x_dom (fun hd293 => ?_)
  obtain ⟨f293, m293, e293, a293, w293⟩ := k_dd5 hN (by omega) w289 hd293 (z289.le w289 hd293) (a := 114) (b := 14) (v := 2) (S' := (k_of (k_lx 15))) (k_ck5_sp k_lz_14).1 (k_ck5_sp k_lz_14).2
  have z293 := z289.st a293
  obtain ⟨P293, w293⟩ : ∃ P, k_wd h.2 (h.2 + 70) 112 (k_of (k_lx 15)) P (fun _ => none) [] f293 := ⟨_, w293⟩
  obtain ⟨fs294, hfs294⟩ := w289.ob
  refine x_callv (As := [.int 114, .int 14]) (rest := []) 8543 480719 dL_limits_291 mi_X5_insert ml_L_47 rfl rfl (Nat.le_of_ble_eq_true rfl) ⟨by decide, by decide⟩ (by omega) (by omega) hfs294 rfl (c_X5_insert N _ _ _ _ _ e293) (x_K.some ?_) x_KX.none
  refine x_toX (st' := [.int 2]) rfl ?_
  clear hd293 e293 a293 hfs294 w289 z289
  refine x_iconst 2 (by decide) dL_limits_294 ?_
  refine x_icmp_ne_n 309 dL_limits_295 (by decide) (by decide) ?_
  refine x_aload_n 2 dL_limits_298 rfl rfl ?_
  obtain ⟨q295, St295, bf295, h295, g295⟩ := w293.ci
  have e295 : F_X5_entries N f293 h.2 = some 88 := ((q_entries (N := N) h295).trans (congrArg some tf_337))
  obtain ⟨fs296, hfs296⟩ := w293.ob
  refine x_callv (As := []) (rest := []) 8543 480719 dL_limits_299 mi_X5_entries ml_L_143 rfl rfl (Nat.le_of_ble_eq_true rfl) ⟨by decide, by decide⟩ (by omega) (by omega) hfs296 rfl (c_X5_entries N _ _ _ _ e295) (x_K.some ?_) x_KX.none
  clear h295 g295 e295 hfs296
  refine x_bipush 74 (by decide) dL_limits_302 ?_
  refine x_iload_n 0 dL_limits_304 rfl rfl ?_
  refine x_iadd dL_limits_305 ?_
  refine x_toX (st' := [.int 88, .int 88]) rfl ?_
  refine x_icmp_eq_y 311 dL_limits_306 (by decide) (by decide) ?_
  refine x_iinc 15 (lv' := [(1, .int 15), (2, .int 12), (0, .ref h.2)]) dL_limits_311 0 rfl (by decide) (by decide) rfl ?_
  refine x_goto 279 dL_limits_314 (by decide) ?_
  refine x_iload_n 0 dL_limits_279 rfl rfl ?_
  refine x_bipush 87 (by decide) dL_limits_280 ?_
  refine x_icmp_ge_n 317 dL_limits_282 (by decide) (by decide) ?_
  refine x_aload_n 2 dL_limits_285 rfl rfl ?_
  refine x_bipush 100 (by decide) dL_limits_286 ?_
  refine x_iload_n 0 dL_limits_288 rfl rfl ?_
  refine x_iadd dL_limits_289 ?_
  refine x_toX (st' := [.int 115, .ref h.2]) rfl ?_
  refine x_iload_n 0 dL_limits_290 rfl rfl ?_
  refine x_dom (fun hd297 => ?_)
  obtain ⟨f297, m297, e297, a297, w297⟩ := k_dd5 hN (by omega) w293 hd297 (z293.le w293 hd297) (a := 115) (b := 15) (v := 2) (S' := (k_of (k_lx 16))) (k_ck5_sp k_lz_15).1 (k_ck5_sp k_lz_15).2
  have z297 := z293.st a297
  obtain ⟨P297, w297⟩ : ∃ P, k_wd h.2 (h.2 + 70) 113 (k_of (k_lx 16)) P (fun _ => none) [] f297 := ⟨_, w297⟩
  obtain ⟨fs298, hfs298⟩ := w293.ob
  refine x_callv (As := [.int 115, .int 15]) (rest := []) 8509 478804 dL_limits_291 mi_X5_insert ml_L_47 rfl rfl (Nat.le_of_ble_eq_true rfl) ⟨by decide, by decide⟩ (by omega) (by omega) hfs298 rfl (c_X5_insert N _ _ _ _ _ e297) (x_K.some ?_) x_KX.none
  refine x_toX (st' := [.int 2]) rfl ?_
  clear hd297 e297 a297 hfs298 w293 z293
  refine x_iconst 2 (by decide) dL_limits_294 ?_
  refine x_icmp_ne_n 309 dL_limits_295 (by decide) (by decide) ?_
  refine x_aload_n 2 dL_limits_298 rfl rfl ?_
  obtain ⟨q299, St299, bf299, h299, g299⟩ := w297.ci
  have e299 : F_X5_entries N f297 h.2 = some 89 := ((q_entries (N := N) h299).trans (congrArg some tf_338))
  obtain ⟨fs300, hfs300⟩ := w297.ob
  refine x_callv (As := []) (rest := []) 8509 478804 dL_limits_299 mi_X5_entries ml_L_143 rfl rfl (Nat.le_of_ble_eq_true rfl) ⟨by decide, by decide⟩ (by omega) (by omega) hfs300 rfl (c_X5_entries N _ _ _ _ e299) (x_K.some ?_) x_KX.none
  clear h299 g299 e299 hfs300
  refine x_bipush 74 (by decide) dL_limits_302 ?_
  refine x_iload_n 0 dL_limits_304 rfl rfl ?_
  refine x_iadd dL_limits_305 ?_
  refine x_toX (st' := [.int 89, .int 89]) rfl ?_
  refine x_icmp_eq_y 311 dL_limits_306 (by decide) (by decide) ?_
  refine x_iinc 16 (lv' := [(1, .int 16), (2, .int 12), (0, .ref h.2)]) dL_limits_311 0 rfl (by decide) (by decide) rfl ?_
  refine x_goto 279 dL_limits_314 (by decide) ?_
  refine x_iload_n 0 dL_limits_279 rfl rfl ?_
  refine x_bipush 87 (by decide) dL_limits_280 ?_
  refine x_icmp_ge_n 317 dL_limits_282 (by decide) (by decide) ?_
  refine x_aload_n 2 dL_limits_285 rfl rfl ?_
  refine x_bipush 100 (by decide) dL_limits_286 ?_
  refine x_iload_n 0 dL_limits_288 rfl rfl ?_
  refine x_iadd dL_limits_289 ?_
  refine x_toX (st' := [.int 116, .ref h.2]) rfl ?_
  refine x_iload_n 0 dL_limits_290 rfl rfl ?_
  refine x_dom (fun hd301 => ?_)
  obtain ⟨f301, m301, e301, a301, w301⟩ := k_dd5 hN (by omega) w297 hd301 (z297.le w297 hd301) (a := 116) (b := 16) (v := 2) (S' := (k_of (k_lx 17))) (k_ck5_sp k_lz_16).1 (k_ck5_sp k_lz_16).2
  have z301 := z297.st a301
  obtain ⟨P301, w301⟩ : ∃ P, k_wd h.2 (h.2 + 70) 114 (k_of (k_lx 17)) P (fun _ => none) [] f301 := ⟨_, w301⟩
  obtain ⟨fs302, hfs302⟩ := w297.ob
  refine x_callv (As := [.int 116, .int 16]) (rest := []) 8475 476889 dL_limits_291 mi_X5_insert ml_L_47 rfl rfl (Nat.le_of_ble_eq_true rfl) ⟨by decide, by decide⟩ (by omega) (by omega) hfs302 rfl (c_X5_insert N _ _ _ _ _ e301) (x_K.some ?_) x_KX.none
  refine x_toX (st' := [.int 2]) rfl ?_
  clear hd301 e301 a301 hfs302 w297 z297
  refine x_iconst 2 (by decide) dL_limits_294 ?_
  refine x_icmp_ne_n 309 dL_limits_295 (by decide) (by decide) ?_
  refine x_aload_n 2 dL_limits_298 rfl rfl ?_
  obtain ⟨q303, St303, bf303, h303, g303⟩ := w301.ci
  have e303 : F_X5_entries N f301 h.2 = some 90 := ((q_entries (N := N) h303).trans (congrArg some tf_339))
  obtain ⟨fs304, hfs304⟩ := w301.ob
  refine x_callv (As := []) (rest := []) 8475 476889 dL_limits_299 mi_X5_entries ml_L_143 rfl rfl (Nat.le_of_ble_eq_true rfl) ⟨by decide, by decide⟩ (by omega) (by omega) hfs304 rfl (c_X5_entries N _ _ _ _ e303) (x_K.some ?_) x_KX.none
  clear h303 g303 e303 hfs304
  refine x_bipush 74 (by decide) dL_limits_302 ?_
  refine x_iload_n 0 dL_limits_304 rfl rfl ?_
  refine x_iadd dL_limits_305 ?_
  refine x_toX (st' := [.int 90, .int 90]) rfl ?_
  refine x_icmp_eq_y 311 dL_limits_306 (by decide) (by decide) ?_
  refine x_iinc 17 (lv' := [(1, .int 17), (2, .int 12), (0, .ref h.2)]) dL_limits_311 0 rfl (by decide) (by decide) rfl ?_
  refine x_goto 279 dL_limits_314 (by decide) ?_
  refine x_iload_n 0 dL_limits_279 rfl rfl ?_
  refine x_bipush 87 (by decide) dL_limits_280 ?_
  refine x_icmp_ge_n 317 dL_limits_282 (by decide) (by decide) ?_
  refine x_aload_n 2 dL_limits_285 rfl rfl ?_
  refine x_bipush 100 (by decide) dL_limits_286 ?_
  refine x_iload_n 0 dL_limits_288 rfl rfl ?_
  refine x_iadd dL_limits_289 ?_
  refine x_toX (st' := [.int 117, .ref h.2]) rfl ?_
  refine x_iload_n 0 dL_limits_290 rfl rfl ?_
  refine x_dom (fun hd305 => ?_)
  obtain ⟨f305, m305, e305, a305, w305⟩ := k_dd5 hN (by omega) w301 hd305 (z301.le w301 hd305) (a := 117) (b := 17) (v := 2) (S' := (k_of (k_lx 18))) (k_ck5_sp k_lz_17).1 (k_ck5_sp k_lz_17).2
  have z305 := z301.st a305
  obtain ⟨P305, w305⟩ : ∃ P, k_wd h.2 (h.2 + 70) 115 (k_of (k_lx 18)) P (fun _ => none) [] f305 := ⟨_, w305⟩
  obtain ⟨fs306, hfs306⟩ := w301.ob
  refine x_callv (As := [.int 117, .int 17]) (rest := []) 8441 474974 dL_limits_291 mi_X5_insert ml_L_47 rfl rfl (Nat.le_of_ble_eq_true rfl) ⟨by decide, by decide⟩ (by omega) (by omega) hfs306 rfl (c_X5_insert N _ _ _ _ _ e305) (x_K.some ?_) x_KX.none
  refine x_toX (st' := [.int 2]) rfl ?_
  clear hd305 e305 a305 hfs306 w301 z301
  refine x_iconst 2 (by decide) dL_limits_294 ?_
  refine x_icmp_ne_n 309 dL_limits_295 (by decide) (by decide) ?_
  refine x_aload_n 2 dL_limits_298 rfl rfl ?_
  obtain ⟨q307, St307, bf307, h307, g307⟩ := w305.ci
  have e307 : F_X5_entries N f305 h.2 = some 91 := ((q_entries (N := N) h307).trans (congrArg some tf_340))
  obtain ⟨fs308, hfs308⟩ := w305.ob
  refine x_callv (As := []) (rest := []) 8441 474974 dL_limits_299 mi_X5_entries ml_L_143 rfl rfl (Nat.le_of_ble_eq_true rfl) ⟨by decide, by decide⟩ (by omega) (by omega) hfs308 rfl (c_X5_entries N _ _ _ _ e307) (x_K.some ?_) x_KX.none
  clear h307 g307 e307 hfs308
  refine x_bipush 74 (by decide) dL_limits_302 ?_
  refine x_iload_n 0 dL_limits_304 rfl rfl ?_
  refine x_iadd dL_limits_305 ?_
  refine x_toX (st' := [.int 91, .int 91]) rfl ?_
  refine x_icmp_eq_y 311 dL_limits_306 (by decide) (by decide) ?_
  refine x_iinc 18 (lv' := [(1, .int 18), (2, .int 12), (0, .ref h.2)]) dL_limits_311 0 rfl (by decide) (by decide) rfl ?_
  refine x_goto 279 dL_limits_314 (by decide) ?_
  refine x_iload_n 0 dL_limits_279 rfl rfl ?_
  refine x_bipush 87 (by decide) dL_limits_280 ?_
  refine x_icmp_ge_n 317 dL_limits_282 (by decide) (by decide) ?_
  refine x_aload_n 2 dL_limits_285 rfl rfl ?_
  refine x_bipush 100 (by decide) dL_limits_286 ?_
  refine x_iload_n 0 dL_limits_288 rfl rfl ?_
  refine x_iadd dL_limits_289 ?_
  refine x_toX (st' := [.int 118, .ref h.2]) rfl ?_
  refine x_iload_n 0 dL_limits_290 rfl rfl ?_
  refine x_dom (fun hd309 => ?_)
  obtain ⟨f309, m309, e309, a309, w309⟩ := k_dd5 hN (by omega) w305 hd309 (z305.le w305 hd309) (a := 118) (b := 18) (v := 2) (S' := (k_of (k_lx 19))) (k_ck5_sp k_lz_18).1 (k_ck5_sp k_lz_18).2
  have z309 := z305.st a309
  obtain ⟨P309, w309⟩ : ∃ P, k_wd h.2 (h.2 + 70) 116 (k_of (k_lx 19)) P (fun _ => none) [] f309 := ⟨_, w309⟩
  obtain ⟨fs310, hfs310⟩ := w305.ob
  refine x_callv (As := [.int 118, .int 18]) (rest := []) 8407 473059 dL_limits_291 mi_X5_insert ml_L_47 rfl rfl (Nat.le_of_ble_eq_true rfl) ⟨by decide, by decide⟩ (by omega) (by omega) hfs310 rfl (c_X5_insert N _ _ _ _ _ e309) (x_K.some ?_) x_KX.none
  refine x_toX (st' := [.int 2]) rfl ?_
  clear hd309 e309 a309 hfs310 w305 z305
  refine x_iconst 2 (by decide) dL_limits_294 ?_
  refine x_icmp_ne_n 309 dL_limits_295 (by decide) (by decide) ?_
  refine x_aload_n 2 dL_limits_298 rfl rfl ?_
  obtain ⟨q311, St311, bf311, h311, g311⟩ := w309.ci
  have e311 : F_X5_entries N f309 h.2 = some 92 := ((q_entries (N := N) h311).trans (congrArg some tf_341))
  obtain ⟨fs312, hfs312⟩ := w309.ob
  refine x_callv (As := []) (rest := []) 8407 473059 dL_limits_299 mi_X5_entries ml_L_143 rfl rfl (Nat.le_of_ble_eq_true rfl) ⟨by decide, by decide⟩ (by omega) (by omega) hfs312 rfl (c_X5_entries N _ _ _ _ e311) (x_K.some ?_) x_KX.none
  clear h311 g311 e311 hfs312
  refine x_bipush 74 (by decide) dL_limits_302 ?_
  refine x_iload_n 0 dL_limits_304 rfl rfl ?_
  refine x_iadd dL_limits_305 ?_
  refine x_toX (st' := [.int 92, .int 92]) rfl ?_
  refine x_icmp_eq_y 311 dL_limits_306 (by decide) (by decide) ?_
  refine x_iinc 19 (lv' := [(1, .int 19), (2, .int 12), (0, .ref h.2)]) dL_limits_311 0 rfl (by decide) (by decide) rfl ?_
  refine x_goto 279 dL_limits_314 (by decide) ?_
  refine x_iload_n 0 dL_limits_279 rfl rfl ?_
  refine x_bipush 87 (by decide) dL_limits_280 ?_
  refine x_icmp_ge_n 317 dL_limits_282 (by decide) (by decide) ?_
  refine x_aload_n 2 dL_limits_285 rfl rfl ?_
  refine x_bipush 100 (by decide) dL_limits_286 ?_
  refine x_iload_n 0 dL_limits_288 rfl rfl ?_
  refine x_iadd dL_limits_289 ?_
  refine x_toX (st' := [.int 119, .ref h.2]) rfl ?_
  refine x_iload_n 0 dL_limits_290 rfl rfl ?_
  refine x_dom (fun hd313 => ?_)
  obtain ⟨f313, m313, e313, a313, w313⟩ := k_dd5 hN (by omega) w309 hd313 (z309.le w309 hd313) (a := 119) (b := 19) (v := 2) (S' := (k_of (k_lx 20))) (k_ck5_sp k_lz_19).1 (k_ck5_sp k_lz_19).2
  have z313 := z309.st a313
  obtain ⟨P313, w313⟩ : ∃ P, k_wd h.2 (h.2 + 70) 117 (k_of (k_lx 20)) P (fun _ => none) [] f313 := ⟨_, w313⟩
  obtain ⟨fs314, hfs314⟩ := w309.ob
  refine x_callv (As := [.int 119, .int 19]) (rest := []) 8373 471144 dL_limits_291 mi_X5_insert ml_L_47 rfl rfl (Nat.le_of_ble_eq_true rfl) ⟨by decide, by decide⟩ (by omega) (by omega) hfs314 rfl (c_X5_insert N _ _ _ _ _ e313) (x_K.some ?_) x_KX.none
  refine x_toX (st' := [.int 2]) rfl ?_
  clear hd313 e313 a313 hfs314 w309 z309
  refine x_iconst 2 (by decide) dL_limits_294 ?_
  refine x_icmp_ne_n 309 dL_limits_295 (by decide) (by decide) ?_
  refine x_aload_n 2 dL_limits_298 rfl rfl ?_
  obtain ⟨q315, St315, bf315, h315, g315⟩ := w313.ci
  have e315 : F_X5_entries N f313 h.2 = some 93 := ((q_entries (N := N) h315).trans (congrArg some tf_342))
  obtain ⟨fs316, hfs316⟩ := w313.ob
  refine x_callv (As := []) (rest := []) 8373 471144 dL_limits_299 mi_X5_entries ml_L_143 rfl rfl (Nat.le_of_ble_eq_true rfl) ⟨by decide, by decide⟩ (by omega) (by omega) hfs316 rfl (c_X5_entries N _ _ _ _ e315) (x_K.some ?_) x_KX.none
  clear h315 g315 e315 hfs316
  refine x_bipush 74 (by decide) dL_limits_302 ?_
  refine x_iload_n 0 dL_limits_304 rfl rfl ?_
  refine x_iadd dL_limits_305 ?_
  refine x_toX (st' := [.int 93, .int 93]) rfl ?_
  refine x_icmp_eq_y 311 dL_limits_306 (by decide) (by decide) ?_
  refine x_iinc 20 (lv' := [(1, .int 20), (2, .int 12), (0, .ref h.2)]) dL_limits_311 0 rfl (by decide) (by decide) rfl ?_
  refine x_goto 279 dL_limits_314 (by decide) ?_
  refine x_iload_n 0 dL_limits_279 rfl rfl ?_
  refine x_bipush 87 (by decide) dL_limits_280 ?_
  refine x_icmp_ge_n 317 dL_limits_282 (by decide) (by decide) ?_
  refine x_aload_n 2 dL_limits_285 rfl rfl ?_
  refine x_bipush 100 (by decide) dL_limits_286 ?_
  refine x_iload_n 0 dL_limits_288 rfl rfl ?_
  refine x_iadd dL_limits_289 ?_
  refine x_toX (st' := [.int 120, .ref h.2]) rfl ?_
  refine x_iload_n 0 dL_limits_290 rfl rfl ?_
  refine x_dom (fun hd317 => ?_)
  obtain ⟨f317, m317, e317, a317, w317⟩ := k_dd5 hN (by omega) w313 hd317 (z313.le w313 hd317) (a := 120) (b := 20) (v := 2) (S' := (k_of (k_lx 21))) (k_ck5_sp k_lz_20).1 (k_ck5_sp k_lz_20).2
  have z317 := z313.st a317
  obtain ⟨P317, w317⟩ : ∃ P, k_wd h.2 (h.2 + 70) 118 (k_of (k_lx 21)) P (fun _ => none) [] f317 := ⟨_, w317⟩
  obtain ⟨fs318, hfs318⟩ := w313.ob
  refine x_callv (As := [.int 120, .int 20]) (rest := []) 8339 469229 dL_limits_291 mi_X5_insert ml_L_47 rfl rfl (Nat.le_of_ble_eq_true rfl) ⟨by decide, by decide⟩ (by omega) (by omega) hfs318 rfl (c_X5_insert N _ _ _ _ _ e317) (x_K.some ?_) x_KX.none
  refine x_toX (st' := [.int 2]) rfl ?_
  clear hd317 e317 a317 hfs318 w313 z313
  refine x_iconst 2 (by decide) dL_limits_294 ?_
  refine x_icmp_ne_n 309 dL_limits_295 (by decide) (by decide) ?_
  refine x_aload_n 2 dL_limits_298 rfl rfl ?_
  obtain ⟨q319, St319, bf319, h319, g319⟩ := w317.ci
  have e319 : F_X5_entries N f317 h.2 = some 94 := ((q_entries (N := N) h319).trans (congrArg some tf_343))
  obtain ⟨fs320, hfs320⟩ := w317.ob
  refine x_callv (As := []) (rest := []) 8339 469229 dL_limits_299 mi_X5_entries ml_L_143 rfl rfl (Nat.le_of_ble_eq_true rfl) ⟨by decide, by decide⟩ (by omega) (by omega) hfs320 rfl (c_X5_entries N _ _ _ _ e319) (x_K.some ?_) x_KX.none
  clear h319 g319 e319 hfs320
  refine x_bipush 74 (by decide) dL_limits_302 ?_
  refine x_iload_n 0 dL_limits_304 rfl rfl ?_
  refine x_iadd dL_limits_305 ?_
  refine x_toX (st' := [.int 94, .int 94]) rfl ?_
  refine x_icmp_eq_y 311 dL_limits_306 (by decide) (by decide) ?_
  refine x_iinc 21 (lv' := [(1, .int 21), (2, .int 12), (0, .ref h.2)]) dL_limits_311 0 rfl (by decide) (by decide) rfl ?_
  refine x_goto 279 dL_limits_314 (by decide) ?_
  refine x_iload_n 0 dL_limits_279 rfl rfl ?_
  refine x_bipush 87 (by decide) dL_limits_280 ?_
  refine x_icmp_ge_n 317 dL_limits_282 (by decide) (by decide) ?_
  refine x_aload_n 2 dL_limits_285 rfl rfl ?_
  refine x_bipush 100 (by decide) dL_limits_286 ?_
  refine x_iload_n 0 dL_limits_288 rfl rfl ?_
  refine x_iadd dL_limits_289 ?_
  refine x_toX (st' := [.int 121, .ref h.2]) rfl ?_
  refine x_iload_n 0 dL_limits_290 rfl rfl ?_
  refine x_dom (fun hd321 => ?_)
  obtain ⟨f321, m321, e321, a321, w321⟩ := k_dd5 hN (by omega) w317 hd321 (z317.le w317 hd321) (a := 121) (b := 21) (v := 2) (S' := (k_of (k_lx 22))) (k_ck5_sp k_lz_21).1 (k_ck5_sp k_lz_21).2
  have z321 := z317.st a321
  obtain ⟨P321, w321⟩ : ∃ P, k_wd h.2 (h.2 + 70) 119 (k_of (k_lx 22)) P (fun _ => none) [] f321 := ⟨_, w321⟩
  obtain ⟨fs322, hfs322⟩ := w317.ob
  refine x_callv (As := [.int 121, .int 21]) (rest := []) 8305 467314 dL_limits_291 mi_X5_insert ml_L_47 rfl rfl (Nat.le_of_ble_eq_true rfl) ⟨by decide, by decide⟩ (by omega) (by omega) hfs322 rfl (c_X5_insert N _ _ _ _ _ e321) (x_K.some ?_) x_KX.none
  refine x_toX (st' := [.int 2]) rfl ?_
  clear hd321 e321 a321 hfs322 w317 z317
  refine x_iconst 2 (by decide) dL_limits_294 ?_
  refine x_icmp_ne_n 309 dL_limits_295 (by decide) (by decide) ?_
  refine x_aload_n 2 dL_limits_298 rfl rfl ?_
  obtain ⟨q323, St323, bf323, h323, g323⟩ := w321.ci
  have e323 : F_X5_entries N f321 h.2 = some 95 := ((q_entries (N := N) h323).trans (congrArg some tf_344))
  obtain ⟨fs324, hfs324⟩ := w321.ob
  refine x_callv (As := []) (rest := []) 8305 467314 dL_limits_299 mi_X5_entries ml_L_143 rfl rfl (Nat.le_of_ble_eq_true rfl) ⟨by decide, by decide⟩ (by omega) (by omega) hfs324 rfl (c_X5_entries N _ _ _ _ e323) (x_K.some ?_) x_KX.none
  clear h323 g323 e323 hfs324
  refine x_bipush 74 (by decide) dL_limits_302 ?_
  refine x_iload_n 0 dL_limits_304 rfl rfl ?_
  refine x_iadd dL_limits_305 ?_
  refine x_toX (st' := [.int 95, .int 95]) rfl ?_
  refine x_icmp_eq_y 311 dL_limits_306 (by decide) (by decide) ?_
  refine x_iinc 22 (lv' := [(1, .int 22), (2, .int 12), (0, .ref h.2)]) dL_limits_311 0 rfl (by decide) (by decide) rfl ?_
  refine x_goto 279 dL_limits_314 (by decide) ?_
  refine x_iload_n 0 dL_limits_279 rfl rfl ?_
  refine x_bipush 87 (by decide) dL_limits_280 ?_
  refine x_icmp_ge_n 317 dL_limits_282 (by decide) (by decide) ?_
  refine x_aload_n 2 dL_limits_285 rfl rfl ?_
  refine x_bipush 100 (by decide) dL_limits_286 ?_
  refine x_iload_n 0 dL_limits_288 rfl rfl ?_
  refine x_iadd dL_limits_289 ?_
  refine x_toX (st' := [.int 122, .ref h.2]) rfl ?_
  refine x_iload_n 0 dL_limits_290 rfl rfl ?_
  refine x_dom (fun hd325 => ?_)
  obtain ⟨f325, m325, e325, a325, w325⟩ := k_dd5 hN (by omega) w321 hd325 (z321.le w321 hd325) (a := 122) (b := 22) (v := 2) (S' := (k_of (k_lx 23))) (k_ck5_sp k_lz_22).1 (k_ck5_sp k_lz_22).2
  have z325 := z321.st a325
  obtain ⟨P325, w325⟩ : ∃ P, k_wd h.2 (h.2 + 70) 120 (k_of (k_lx 23)) P (fun _ => none) [] f325 := ⟨_, w325⟩
  obtain ⟨fs326, hfs326⟩ := w321.ob
  refine x_callv (As := [.int 122, .int 22]) (rest := []) 8271 465399 dL_limits_291 mi_X5_insert ml_L_47 rfl rfl (Nat.le_of_ble_eq_true rfl) ⟨by decide, by decide⟩ (by omega) (by omega) hfs326 rfl (c_X5_insert N _ _ _ _ _ e325) (x_K.some ?_) x_KX.none
  refine x_toX (st' := [.int 2]) rfl ?_
  clear hd325 e325 a325 hfs326 w321 z321
  refine x_iconst 2 (by decide) dL_limits_294 ?_
  refine x_icmp_ne_n 309 dL_limits_295 (by decide) (by decide) ?_
  refine x_aload_n 2 dL_limits_298 rfl rfl ?_
  obtain ⟨q327, St327, bf327, h327, g327⟩ := w325.ci
  have e327 : F_X5_entries N f325 h.2 = some 96 := ((q_entries (N := N) h327).trans (congrArg some tf_345))
  obtain ⟨fs328, hfs328⟩ := w325.ob
  refine x_callv (As := []) (rest := []) 8271 465399 dL_limits_299 mi_X5_entries ml_L_143 rfl rfl (Nat.le_of_ble_eq_true rfl) ⟨by decide, by decide⟩ (by omega) (by omega) hfs328 rfl (c_X5_entries N _ _ _ _ e327) (x_K.some ?_) x_KX.none
  clear h327 g327 e327 hfs328
  refine x_bipush 74 (by decide) dL_limits_302 ?_
  refine x_iload_n 0 dL_limits_304 rfl rfl ?_
  refine x_iadd dL_limits_305 ?_
  refine x_toX (st' := [.int 96, .int 96]) rfl ?_
  refine x_icmp_eq_y 311 dL_limits_306 (by decide) (by decide) ?_
  refine x_iinc 23 (lv' := [(1, .int 23), (2, .int 12), (0, .ref h.2)]) dL_limits_311 0 rfl (by decide) (by decide) rfl ?_
  refine x_goto 279 dL_limits_314 (by decide) ?_
  refine x_iload_n 0 dL_limits_279 rfl rfl ?_
  refine x_bipush 87 (by decide) dL_limits_280 ?_
  refine x_icmp_ge_n 317 dL_limits_282 (by decide) (by decide) ?_
  refine x_aload_n 2 dL_limits_285 rfl rfl ?_
  refine x_bipush 100 (by decide) dL_limits_286 ?_
  refine x_iload_n 0 dL_limits_288 rfl rfl ?_
  refine x_iadd dL_limits_289 ?_
  refine x_toX (st' := [.int 123, .ref h.2]) rfl ?_
  refine x_iload_n 0 dL_limits_290 rfl rfl ?_
  refine x_dom (fun hd329 => ?_)
  obtain ⟨f329, m329, e329, a329, w329⟩ := k_dd5 hN (by omega) w325 hd329 (z325.le w325 hd329) (a := 123) (b := 23) (v := 2) (S' := (k_of (k_lx 24))) (k_ck5_sp k_lz_23).1 (k_ck5_sp k_lz_23).2
  have z329 := z325.st a329
  obtain ⟨P329, w329⟩ : ∃ P, k_wd h.2 (h.2 + 70) 121 (k_of (k_lx 24)) P (fun _ => none) [] f329 := ⟨_, w329⟩
  obtain ⟨fs330, hfs330⟩ := w325.ob
  refine x_callv (As := [.int 123, .int 23]) (rest := []) 8237 463484 dL_limits_291 mi_X5_insert ml_L_47 rfl rfl (Nat.le_of_ble_eq_true rfl) ⟨by decide, by decide⟩ (by omega) (by omega) hfs330 rfl (c_X5_insert N _ _ _ _ _ e329) (x_K.some ?_) x_KX.none
  refine x_toX (st' := [.int 2]) rfl ?_
  clear hd329 e329 a329 hfs330 w325 z325
  refine x_iconst 2 (by decide) dL_limits_294 ?_
  refine x_icmp_ne_n 309 dL_limits_295 (by decide) (by decide) ?_
  refine x_aload_n 2 dL_limits_298 rfl rfl ?_
  obtain ⟨q331, St331, bf331, h331, g331⟩ := w329.ci
  have e331 : F_X5_entries N f329 h.2 = some 97 := ((q_entries (N := N) h331).trans (congrArg some tf_346))
  obtain ⟨fs332, hfs332⟩ := w329.ob
  refine x_callv (As := []) (rest := []) 8237 463484 dL_limits_299 mi_X5_entries ml_L_143 rfl rfl (Nat.le_of_ble_eq_true rfl) ⟨by decide, by decide⟩ (by omega) (by omega) hfs332 rfl (c_X5_entries N _ _ _ _ e331) (x_K.some ?_) x_KX.none
  clear h331 g331 e331 hfs332
  refine x_bipush 74 (by decide) dL_limits_302 ?_
  refine x_iload_n 0 dL_limits_304 rfl rfl ?_
  refine x_iadd dL_limits_305 ?_
  refine x_toX (st' := [.int 97, .int 97]) rfl ?_
  refine x_icmp_eq_y 311 dL_limits_306 (by decide) (by decide) ?_
  refine x_iinc 24 (lv' := [(1, .int 24), (2, .int 12), (0, .ref h.2)]) dL_limits_311 0 rfl (by decide) (by decide) rfl ?_
  refine x_goto 279 dL_limits_314 (by decide) ?_
  refine x_iload_n 0 dL_limits_279 rfl rfl ?_
  refine x_bipush 87 (by decide) dL_limits_280 ?_
  refine x_icmp_ge_n 317 dL_limits_282 (by decide) (by decide) ?_
  refine x_aload_n 2 dL_limits_285 rfl rfl ?_
  refine x_bipush 100 (by decide) dL_limits_286 ?_
  refine x_iload_n 0 dL_limits_288 rfl rfl ?_
  refine x_iadd dL_limits_289 ?_
  refine x_toX (st' := [.int 124, .ref h.2]) rfl ?_
  refine x_iload_n 0 dL_limits_290 rfl rfl ?_
  refine x_dom (fun hd333 => ?_)
  obtain ⟨f333, m333, e333, a333, w333⟩ := k_dd5 hN (by omega) w329 hd333 (z329.le w329 hd333) (a := 124) (b := 24) (v := 2) (S' := (k_of (k_lx 25))) (k_ck5_sp k_lz_24).1 (k_ck5_sp k_lz_24).2
  have z333 := z329.st a333
  obtain ⟨P333, w333⟩ : ∃ P, k_wd h.2 (h.2 + 70) 122 (k_of (k_lx 25)) P (fun _ => none) [] f333 := ⟨_, w333⟩
  obtain ⟨fs334, hfs334⟩ := w329.ob
  refine x_callv (As := [.int 124, .int 24]) (rest := []) 8203 461569 dL_limits_291 mi_X5_insert ml_L_47 rfl rfl (Nat.le_of_ble_eq_true rfl) ⟨by decide, by decide⟩ (by omega) (by omega) hfs334 rfl (c_X5_insert N _ _ _ _ _ e333) (x_K.some ?_) x_KX.none
  refine x_toX (st' := [.int 2]) rfl ?_
  clear hd333 e333 a333 hfs334 w329 z329
  refine x_iconst 2 (by decide) dL_limits_294 ?_
  refine x_icmp_ne_n 309 dL_limits_295 (by decide) (by decide) ?_
  refine x_aload_n 2 dL_limits_298 rfl rfl ?_
  obtain ⟨q335, St335, bf335, h335, g335⟩ := w333.ci
  have e335 : F_X5_entries N f333 h.2 = some 98 := ((q_entries (N := N) h335).trans (congrArg some tf_347))
  obtain ⟨fs336, hfs336⟩ := w333.ob
  refine x_callv (As := []) (rest := []) 8203 461569 dL_limits_299 mi_X5_entries ml_L_143 rfl rfl (Nat.le_of_ble_eq_true rfl) ⟨by decide, by decide⟩ (by omega) (by omega) hfs336 rfl (c_X5_entries N _ _ _ _ e335) (x_K.some ?_) x_KX.none
  clear h335 g335 e335 hfs336
  refine x_bipush 74 (by decide) dL_limits_302 ?_
  refine x_iload_n 0 dL_limits_304 rfl rfl ?_
  refine x_iadd dL_limits_305 ?_
  refine x_toX (st' := [.int 98, .int 98]) rfl ?_
  refine x_icmp_eq_y 311 dL_limits_306 (by decide) (by decide) ?_
  refine x_iinc 25 (lv' := [(1, .int 25), (2, .int 12), (0, .ref h.2)]) dL_limits_311 0 rfl (by decide) (by decide) rfl ?_
  refine x_goto 279 dL_limits_314 (by decide) ?_
  refine x_iload_n 0 dL_limits_279 rfl rfl ?_
  refine x_bipush 87 (by decide) dL_limits_280 ?_
  refine x_icmp_ge_n 317 dL_limits_282 (by decide) (by decide) ?_
  refine x_aload_n 2 dL_limits_285 rfl rfl ?_
  refine x_bipush 100 (by decide) dL_limits_286 ?_
  refine x_iload_n 0 dL_limits_288 rfl rfl ?_
  refine x_iadd dL_limits_289 ?_
  refine x_toX (st' := [.int 125, .ref h.2]) rfl ?_
  refine x_iload_n 0 dL_limits_290 rfl rfl ?_
  refine x_dom (fun hd337 => ?_)
  obtain ⟨f337, m337, e337, a337, w337⟩ := k_dd5 hN (by omega) w333 hd337 (z333.le w333 hd337) (a := 125) (b := 25) (v := 2) (S' := (k_of (k_lx 26))) (k_ck5_sp k_lz_25).1 (k_ck5_sp k_lz_25).2
  have z337 := z333.st a337
  obtain ⟨P337, w337⟩ : ∃ P, k_wd h.2 (h.2 + 70) 123 (k_of (k_lx 26)) P (fun _ => none) [] f337 := ⟨_, w337⟩
  obtain ⟨fs338, hfs338⟩ := w333.ob
  refine x_callv (As := [.int 125, .int 25]) (rest := []) 8169 459654 dL_limits_291 mi_X5_insert ml_L_47 rfl rfl (Nat.le_of_ble_eq_true rfl) ⟨by decide, by decide⟩ (by omega) (by omega) hfs338 rfl (c_X5_insert N _ _ _ _ _ e337) (x_K.some ?_) x_KX.none
  refine x_toX (st' := [.int 2]) rfl ?_
  clear hd337 e337 a337 hfs338 w333 z333
  refine x_iconst 2 (by decide) dL_limits_294 ?_
  refine x_icmp_ne_n 309 dL_limits_295 (by decide) (by decide) ?_
  refine x_aload_n 2 dL_limits_298 rfl rfl ?_
  obtain ⟨q339, St339, bf339, h339, g339⟩ := w337.ci
  have e339 : F_X5_entries N f337 h.2 = some 99 := ((q_entries (N := N) h339).trans (congrArg some tf_348))
  obtain ⟨fs340, hfs340⟩ := w337.ob
  refine x_callv (As := []) (rest := []) 8169 459654 dL_limits_299 mi_X5_entries ml_L_143 rfl rfl (Nat.le_of_ble_eq_true rfl) ⟨by decide, by decide⟩ (by omega) (by omega) hfs340 rfl (c_X5_entries N _ _ _ _ e339) (x_K.some ?_) x_KX.none
  clear h339 g339 e339 hfs340
  refine x_bipush 74 (by decide) dL_limits_302 ?_
  refine x_iload_n 0 dL_limits_304 rfl rfl ?_
  refine x_iadd dL_limits_305 ?_
  refine x_toX (st' := [.int 99, .int 99]) rfl ?_
  refine x_icmp_eq_y 311 dL_limits_306 (by decide) (by decide) ?_
  refine x_iinc 26 (lv' := [(1, .int 26), (2, .int 12), (0, .ref h.2)]) dL_limits_311 0 rfl (by decide) (by decide) rfl ?_
  refine x_goto 279 dL_limits_314 (by decide) ?_
  refine x_iload_n 0 dL_limits_279 rfl rfl ?_
  refine x_bipush 87 (by decide) dL_limits_280 ?_
  refine x_icmp_ge_n 317 dL_limits_282 (by decide) (by decide) ?_
  refine x_aload_n 2 dL_limits_285 rfl rfl ?_
  refine x_bipush 100 (by decide) dL_limits_286 ?_
  refine x_iload_n 0 dL_limits_288 rfl rfl ?_
  refine x_iadd dL_limits_289 ?_
  refine x_toX (st' := [.int 126, .ref h.2]) rfl ?_
  refine x_iload_n 0 dL_limits_290 rfl rfl ?_
  refine x_dom (fun hd341 => ?_)
  obtain ⟨f341, m341, e341, a341, w341⟩ := k_dd5 hN (by omega) w337 hd341 (z337.le w337 hd341) (a := 126) (b := 26) (v := 2) (S' := (k_of (k_lx 27))) (k_ck5_sp k_lz_26).1 (k_ck5_sp k_lz_26).2
  have z341 := z337.st a341
  obtain ⟨P341, w341⟩ : ∃ P, k_wd h.2 (h.2 + 70) 124 (k_of (k_lx 27)) P (fun _ => none) [] f341 := ⟨_, w341⟩
  obtain ⟨fs342, hfs342⟩ := w337.ob
  refine x_callv (As := [.int 126, .int 26]) (rest := []) 8135 457739 dL_limits_291 mi_X5_insert ml_L_47 rfl rfl (Nat.le_of_ble_eq_true rfl) ⟨by decide, by decide⟩ (by omega) (by omega) hfs342 rfl (c_X5_insert N _ _ _ _ _ e341) (x_K.some ?_) x_KX.none
  refine x_toX (st' := [.int 2]) rfl ?_
  clear hd341 e341 a341 hfs342 w337 z337
  refine x_iconst 2 (by decide) dL_limits_294 ?_
  refine x_icmp_ne_n 309 dL_limits_295 (by decide) (by decide) ?_
  refine x_aload_n 2 dL_limits_298 rfl rfl ?_
  obtain ⟨q343, St343, bf343, h343, g343⟩ := w341.ci
  have e343 : F_X5_entries N f341 h.2 = some 100 := ((q_entries (N := N) h343).trans (congrArg some tf_349))
  obtain ⟨fs344, hfs344⟩ := w341.ob
  refine x_callv (As := []) (rest := []) 8135 457739 dL_limits_299 mi_X5_entries ml_L_143 rfl rfl (Nat.le_of_ble_eq_true rfl) ⟨by decide, by decide⟩ (by omega) (by omega) hfs344 rfl (c_X5_entries N _ _ _ _ e343) (x_K.some ?_) x_KX.none
  clear h343 g343 e343 hfs344
  refine x_bipush 74 (by decide) dL_limits_302 ?_
  refine x_iload_n 0 dL_limits_304 rfl rfl ?_
  refine x_iadd dL_limits_305 ?_
  refine x_toX (st' := [.int 100, .int 100]) rfl ?_
  refine x_icmp_eq_y 311 dL_limits_306 (by decide) (by decide) ?_
  refine x_iinc 27 (lv' := [(1, .int 27), (2, .int 12), (0, .ref h.2)]) dL_limits_311 0 rfl (by decide) (by decide) rfl ?_
  refine x_goto 279 dL_limits_314 (by decide) ?_
  refine x_iload_n 0 dL_limits_279 rfl rfl ?_
  refine x_bipush 87 (by decide) dL_limits_280 ?_
  refine x_icmp_ge_n 317 dL_limits_282 (by decide) (by decide) ?_
  refine x_aload_n 2 dL_limits_285 rfl rfl ?_
  refine x_bipush 100 (by decide) dL_limits_286 ?_
  refine x_iload_n 0 dL_limits_288 rfl rfl ?_
  refine x_iadd dL_limits_289 ?_
  refine x_toX (st' := [.int 127, .ref h.2]) rfl ?_
  refine x_iload_n 0 dL_limits_290 rfl rfl ?_
  refine x_dom (fun hd345 => ?_)
  obtain ⟨f345, m345, e345, a345, w345⟩ := k_dd5 hN (by omega) w341 hd345 (z341.le w341 hd345) (a := 127) (b := 27) (v := 2) (S' := (k_of (k_lx 28))) (k_ck5_sp k_lz_27).1 (k_ck5_sp k_lz_27).2
  have z345 := z341.st a345
  obtain ⟨P345, w345⟩ : ∃ P, k_wd h.2 (h.2 + 70) 125 (k_of (k_lx 28)) P (fun _ => none) [] f345 := ⟨_, w345⟩
  obtain ⟨fs346, hfs346⟩ := w341.ob
  refine x_callv (As := [.int 127, .int 27]) (rest := []) 8101 455824 dL_limits_291 mi_X5_insert ml_L_47 rfl rfl (Nat.le_of_ble_eq_true rfl) ⟨by decide, by decide⟩ (by omega) (by omega) hfs346 rfl (c_X5_insert N _ _ _ _ _ e345) (x_K.some ?_) x_KX.none
  refine x_toX (st' := [.int 2]) rfl ?_
  clear hd345 e345 a345 hfs346 w341 z341
  refine x_iconst 2 (by decide) dL_limits_294 ?_
  refine x_icmp_ne_n 309 dL_limits_295 (by decide) (by decide) ?_
  refine x_aload_n 2 dL_limits_298 rfl rfl ?_
  obtain ⟨q347, St347, bf347, h347, g347⟩ := w345.ci
  have e347 : F_X5_entries N f345 h.2 = some 101 := ((q_entries (N := N) h347).trans (congrArg some tf_350))
  obtain ⟨fs348, hfs348⟩ := w345.ob
  refine x_callv (As := []) (rest := []) 8101 455824 dL_limits_299 mi_X5_entries ml_L_143 rfl rfl (Nat.le_of_ble_eq_true rfl) ⟨by decide, by decide⟩ (by omega) (by omega) hfs348 rfl (c_X5_entries N _ _ _ _ e347) (x_K.some ?_) x_KX.none
  clear h347 g347 e347 hfs348
  refine x_bipush 74 (by decide) dL_limits_302 ?_
  refine x_iload_n 0 dL_limits_304 rfl rfl ?_
  refine x_iadd dL_limits_305 ?_
  refine x_toX (st' := [.int 101, .int 101]) rfl ?_
  refine x_icmp_eq_y 311 dL_limits_306 (by decide) (by decide) ?_
  refine x_iinc 28 (lv' := [(1, .int 28), (2, .int 12), (0, .ref h.2)]) dL_limits_311 0 rfl (by decide) (by decide) rfl ?_
  refine x_goto 279 dL_limits_314 (by decide) ?_
  refine x_iload_n 0 dL_limits_279 rfl rfl ?_
  refine x_bipush 87 (by decide) dL_limits_280 ?_
  refine x_icmp_ge_n 317 dL_limits_282 (by decide) (by decide) ?_
  refine x_aload_n 2 dL_limits_285 rfl rfl ?_
  refine x_bipush 100 (by decide) dL_limits_286 ?_
  refine x_iload_n 0 dL_limits_288 rfl rfl ?_
  refine x_iadd dL_limits_289 ?_
  refine x_toX (st' := [.int 128, .ref h.2]) rfl ?_
  refine x_iload_n 0 dL_limits_290 rfl rfl ?_
  refine x_dom (fun hd349 => ?_)
  obtain ⟨f349, m349, e349, a349, w349⟩ := k_dd5 hN (by omega) w345 hd349 (z345.le w345 hd349) (a := 128) (b := 28) (v := 2) (S' := (k_of (k_lx 29))) (k_ck5_sp k_lz_28).1 (k_ck5_sp k_lz_28).2
  have z349 := z345.st a349
  obtain ⟨P349, w349⟩ : ∃ P, k_wd h.2 (h.2 + 70) 126 (k_of (k_lx 29)) P (fun _ => none) [] f349 := ⟨_, w349⟩
  obtain ⟨fs350, hfs350⟩ := w345.ob
  refine x_callv (As := [.int 128, .int 28]) (rest := []) 8067 453909 dL_limits_291 mi_X5_insert ml_L_47 rfl rfl (Nat.le_of_ble_eq_true rfl) ⟨by decide, by decide⟩ (by omega) (by omega) hfs350 rfl (c_X5_insert N _ _ _ _ _ e349) (x_K.some ?_) x_KX.none
  refine x_toX (st' := [.int 2]) rfl ?_
  clear hd349 e349 a349 hfs350 w345 z345
  refine x_iconst 2 (by decide) dL_limits_294 ?_
  refine x_icmp_ne_n 309 dL_limits_295 (by decide) (by decide) ?_
  refine x_aload_n 2 dL_limits_298 rfl rfl ?_
  obtain ⟨q351, St351, bf351, h351, g351⟩ := w349.ci
  have e351 : F_X5_entries N f349 h.2 = some 102 := ((q_entries (N := N) h351).trans (congrArg some tf_351))
  obtain ⟨fs352, hfs352⟩ := w349.ob
  refine x_callv (As := []) (rest := []) 8067 453909 dL_limits_299 mi_X5_entries ml_L_143 rfl rfl (Nat.le_of_ble_eq_true rfl) ⟨by decide, by decide⟩ (by omega) (by omega) hfs352 rfl (c_X5_entries N _ _ _ _ e351) (x_K.some ?_) x_KX.none
  clear h351 g351 e351 hfs352
  refine x_bipush 74 (by decide) dL_limits_302 ?_
  refine x_iload_n 0 dL_limits_304 rfl rfl ?_
  refine x_iadd dL_limits_305 ?_
  refine x_toX (st' := [.int 102, .int 102]) rfl ?_
  refine x_icmp_eq_y 311 dL_limits_306 (by decide) (by decide) ?_
  refine x_iinc 29 (lv' := [(1, .int 29), (2, .int 12), (0, .ref h.2)]) dL_limits_311 0 rfl (by decide) (by decide) rfl ?_
  refine x_goto 279 dL_limits_314 (by decide) ?_
  refine x_iload_n 0 dL_limits_279 rfl rfl ?_
  refine x_bipush 87 (by decide) dL_limits_280 ?_
  refine x_icmp_ge_n 317 dL_limits_282 (by decide) (by decide) ?_
  refine x_aload_n 2 dL_limits_285 rfl rfl ?_
  refine x_bipush 100 (by decide) dL_limits_286 ?_
  refine x_iload_n 0 dL_limits_288 rfl rfl ?_
  refine x_iadd dL_limits_289 ?_
  refine x_toX (st' := [.int 129, .ref h.2]) rfl ?_
  refine x_iload_n 0 dL_limits_290 rfl rfl ?_
  refine x_dom (fun hd353 => ?_)
  obtain ⟨f353, m353, e353, a353, w353⟩ := k_dd5 hN (by omega) w349 hd353 (z349.le w349 hd353) (a := 129) (b := 29) (v := 2) (S' := (k_of (k_lx 30))) (k_ck5_sp k_lz_29).1 (k_ck5_sp k_lz_29).2
  have z353 := z349.st a353
  obtain ⟨P353, w353⟩ : ∃ P, k_wd h.2 (h.2 + 70) 127 (k_of (k_lx 30)) P (fun _ => none) [] f353 := ⟨_, w353⟩
  obtain ⟨fs354, hfs354⟩ := w349.ob
  refine x_callv (As := [.int 129, .int 29]) (rest := []) 8033 451994 dL_limits_291 mi_X5_insert ml_L_47 rfl rfl (Nat.le_of_ble_eq_true rfl) ⟨by decide, by decide⟩ (by omega) (by omega) hfs354 rfl (c_X5_insert N _ _ _ _ _ e353) (x_K.some ?_) x_KX.none
  refine x_toX (st' := [.int 2]) rfl ?_
  clear hd353 e353 a353 hfs354 w349 z349
  refine x_iconst 2 (by decide) dL_limits_294 ?_
  refine x_icmp_ne_n 309 dL_limits_295 (by decide) (by decide) ?_
  refine x_aload_n 2 dL_limits_298 rfl rfl ?_
  obtain ⟨q355, St355, bf355, h355, g355⟩ := w353.ci
  have e355 : F_X5_entries N f353 h.2 = some 103 := ((q_entries (N := N) h355).trans (congrArg some tf_352))
  obtain ⟨fs356, hfs356⟩ := w353.ob
  refine x_callv (As := []) (rest := []) 8033 451994 dL_limits_299 mi_X5_entries ml_L_143 rfl rfl (Nat.le_of_ble_eq_true rfl) ⟨by decide, by decide⟩ (by omega) (by omega) hfs356 rfl (c_X5_entries N _ _ _ _ e355) (x_K.some ?_) x_KX.none
  clear h355 g355 e355 hfs356
  refine x_bipush 74 (by decide) dL_limits_302 ?_
  refine x_iload_n 0 dL_limits_304 rfl rfl ?_
  refine x_iadd dL_limits_305 ?_
  refine x_toX (st' := [.int 103, .int 103]) rfl ?_
  refine x_icmp_eq_y 311 dL_limits_306 (by decide) (by decide) ?_
  refine x_iinc 30 (lv' := [(1, .int 30), (2, .int 12), (0, .ref h.2)]) dL_limits_311 0 rfl (by decide) (by decide) rfl ?_
  refine x_goto 279 dL_limits_314 (by decide) ?_
  refine x_iload_n 0 dL_limits_279 rfl rfl ?_
  refine x_bipush 87 (by decide) dL_limits_280 ?_
  refine x_icmp_ge_n 317 dL_limits_282 (by decide) (by decide) ?_
  refine x_aload_n 2 dL_limits_285 rfl rfl ?_
  refine x_bipush 100 (by decide) dL_limits_286 ?_
  refine x_iload_n 0 dL_limits_288 rfl rfl ?_
  refine x_iadd dL_limits_289 ?_
  refine x_toX (st' := [.int 130, .ref h.2]) rfl ?_
  refine x_iload_n 0 dL_limits_290 rfl rfl ?_
  refine x_dom (fun hd357 => ?_)
  obtain ⟨f357, m357, e357, a357, w357⟩ := k_dd5 hN (by omega) w353 hd357 (z353.le w353 hd357) (a := 130) (b := 30) (v := 2) (S' := (k_of (k_lx 31))) (k_ck5_sp k_lz_30).1 (k_ck5_sp k_lz_30).2
  have z357 := z353.st a357
  obtain ⟨P357, w357⟩ : ∃ P, k_wd h.2 (h.2 + 70) 128 (k_of (k_lx 31)) P (fun _ => none) [] f357 := ⟨_, w357⟩
  obtain ⟨fs358, hfs358⟩ := w353.ob
  refine x_callv (As := [.int 130, .int 30]) (rest := []) 7999 450079 dL_limits_291 mi_X5_insert ml_L_47 rfl rfl (Nat.le_of_ble_eq_true rfl) ⟨by decide, by decide⟩ (by omega) (by omega) hfs358 rfl (c_X5_insert N _ _ _ _ _ e357) (x_K.some ?_) x_KX.none
  refine x_toX (st' := [.int 2]) rfl ?_
  clear hd357 e357 a357 hfs358 w353 z353
  refine x_iconst 2 (by decide) dL_limits_294 ?_
  refine x_icmp_ne_n 309 dL_limits_295 (by decide) (by decide) ?_
  refine x_aload_n 2 dL_limits_298 rfl rfl ?_
  obtain ⟨q359, St359, bf359, h359, g359⟩ := w357.ci
  have e359 : F_X5_entries N f357 h.2 = some 104 := ((q_entries (N := N) h359).trans (congrArg some tf_353))
  obtain ⟨fs360, hfs360⟩ := w357.ob
  refine x_callv (As := []) (rest := []) 7999 450079 dL_limits_299 mi_X5_entries ml_L_143 rfl rfl (Nat.le_of_ble_eq_true rfl) ⟨by decide, by decide⟩ (by omega) (by omega) hfs360 rfl (c_X5_entries N _ _ _ _ e359) (x_K.some ?_) x_KX.none
  clear h359 g359 e359 hfs360
  refine x_bipush 74 (by decide) dL_limits_302 ?_
  refine x_iload_n 0 dL_limits_304 rfl rfl ?_
  refine x_iadd dL_limits_305 ?_
  refine x_toX (st' := [.int 104, .int 104]) rfl ?_
  refine x_icmp_eq_y 311 dL_limits_306 (by decide) (by decide) ?_
  refine x_iinc 31 (lv' := [(1, .int 31), (2, .int 12), (0, .ref h.2)]) dL_limits_311 0 rfl (by decide) (by decide) rfl ?_
  refine x_goto 279 dL_limits_314 (by decide) ?_
  refine x_iload_n 0 dL_limits_279 rfl rfl ?_
  refine x_bipush 87 (by decide) dL_limits_280 ?_
  refine x_icmp_ge_n 317 dL_limits_282 (by decide) (by decide) ?_
  refine x_aload_n 2 dL_limits_285 rfl rfl ?_
  refine x_bipush 100 (by decide) dL_limits_286 ?_
  refine x_iload_n 0 dL_limits_288 rfl rfl ?_
  refine x_iadd dL_limits_289 ?_
  refine x_toX (st' := [.int 131, .ref h.2]) rfl ?_
  refine x_iload_n 0 dL_limits_290 rfl rfl ?_
  refine x_dom (fun hd361 => ?_)
  obtain ⟨f361, m361, e361, a361, w361⟩ := k_dd5 hN (by omega) w357 hd361 (z357.le w357 hd361) (a := 131) (b := 31) (v := 2) (S' := (k_of (k_lx 32))) (k_ck5_sp k_lz_31).1 (k_ck5_sp k_lz_31).2
  have z361 := z357.st a361
  obtain ⟨P361, w361⟩ : ∃ P, k_wd h.2 (h.2 + 70) 129 (k_of (k_lx 32)) P (fun _ => none) [] f361 := ⟨_, w361⟩
  obtain ⟨fs362, hfs362⟩ := w357.ob
  refine x_callv (As := [.int 131, .int 31]) (rest := []) 7965 448164 dL_limits_291 mi_X5_insert ml_L_47 rfl rfl (Nat.le_of_ble_eq_true rfl) ⟨by decide, by decide⟩ (by omega) (by omega) hfs362 rfl (c_X5_insert N _ _ _ _ _ e361) (x_K.some ?_) x_KX.none
  refine x_toX (st' := [.int 2]) rfl ?_
  clear hd361 e361 a361 hfs362 w357 z357
  refine x_iconst 2 (by decide) dL_limits_294 ?_
  refine x_icmp_ne_n 309 dL_limits_295 (by decide) (by decide) ?_
  refine x_aload_n 2 dL_limits_298 rfl rfl ?_
  obtain ⟨q363, St363, bf363, h363, g363⟩ := w361.ci
  have e363 : F_X5_entries N f361 h.2 = some 105 := ((q_entries (N := N) h363).trans (congrArg some tf_354))
  obtain ⟨fs364, hfs364⟩ := w361.ob
  refine x_callv (As := []) (rest := []) 7965 448164 dL_limits_299 mi_X5_entries ml_L_143 rfl rfl (Nat.le_of_ble_eq_true rfl) ⟨by decide, by decide⟩ (by omega) (by omega) hfs364 rfl (c_X5_entries N _ _ _ _ e363) (x_K.some ?_) x_KX.none
  clear h363 g363 e363 hfs364
  refine x_bipush 74 (by decide) dL_limits_302 ?_
  refine x_iload_n 0 dL_limits_304 rfl rfl ?_
  refine x_iadd dL_limits_305 ?_
  refine x_toX (st' := [.int 105, .int 105]) rfl ?_
  refine x_icmp_eq_y 311 dL_limits_306 (by decide) (by decide) ?_
  refine x_iinc 32 (lv' := [(1, .int 32), (2, .int 12), (0, .ref h.2)]) dL_limits_311 0 rfl (by decide) (by decide) rfl ?_
  refine x_goto 279 dL_limits_314 (by decide) ?_
  refine x_iload_n 0 dL_limits_279 rfl rfl ?_
  refine x_bipush 87 (by decide) dL_limits_280 ?_
  refine x_icmp_ge_n 317 dL_limits_282 (by decide) (by decide) ?_
  refine x_aload_n 2 dL_limits_285 rfl rfl ?_
  refine x_bipush 100 (by decide) dL_limits_286 ?_
  refine x_iload_n 0 dL_limits_288 rfl rfl ?_
  refine x_iadd dL_limits_289 ?_
  refine x_toX (st' := [.int 132, .ref h.2]) rfl ?_
  refine x_iload_n 0 dL_limits_290 rfl rfl ?_
  refine x_dom (fun hd365 => ?_)
  obtain ⟨f365, m365, e365, a365, w365⟩ := k_dd5 hN (by omega) w361 hd365 (z361.le w361 hd365) (a := 132) (b := 32) (v := 2) (S' := (k_of (k_lx 33))) (k_ck5_sp k_lz_32).1 (k_ck5_sp k_lz_32).2
  have z365 := z361.st a365
  obtain ⟨P365, w365⟩ : ∃ P, k_wd h.2 (h.2 + 70) 130 (k_of (k_lx 33)) P (fun _ => none) [] f365 := ⟨_, w365⟩
  obtain ⟨fs366, hfs366⟩ := w361.ob
  refine x_callv (As := [.int 132, .int 32]) (rest := []) 7931 446249 dL_limits_291 mi_X5_insert ml_L_47 rfl rfl (Nat.le_of_ble_eq_true rfl) ⟨by decide, by decide⟩ (by omega) (by omega) hfs366 rfl (c_X5_insert N _ _ _ _ _ e365) (x_K.some ?_) x_KX.none
  refine x_toX (st' := [.int 2]) rfl ?_
  clear hd365 e365 a365 hfs366 w361 z361
  refine x_iconst 2 (by decide) dL_limits_294 ?_
  refine x_icmp_ne_n 309 dL_limits_295 (by decide) (by decide) ?_
  refine x_aload_n 2 dL_limits_298 rfl rfl ?_
  obtain ⟨q367, St367, bf367, h367, g367⟩ := w365.ci
  have e367 : F_X5_entries N f365 h.2 = some 106 := ((q_entries (N := N) h367).trans (congrArg some tf_355))
  obtain ⟨fs368, hfs368⟩ := w365.ob
  refine x_callv (As := []) (rest := []) 7931 446249 dL_limits_299 mi_X5_entries ml_L_143 rfl rfl (Nat.le_of_ble_eq_true rfl) ⟨by decide, by decide⟩ (by omega) (by omega) hfs368 rfl (c_X5_entries N _ _ _ _ e367) (x_K.some ?_) x_KX.none
  clear h367 g367 e367 hfs368
  refine x_bipush 74 (by decide) dL_limits_302 ?_
  refine x_iload_n 0 dL_limits_304 rfl rfl ?_
  refine x_iadd dL_limits_305 ?_
  refine x_toX (st' := [.int 106, .int 106]) rfl ?_
  refine x_icmp_eq_y 311 dL_limits_306 (by decide) (by decide) ?_
  refine x_iinc 33 (lv' := [(1, .int 33), (2, .int 12), (0, .ref h.2)]) dL_limits_311 0 rfl (by decide) (by decide) rfl ?_
  refine x_goto 279 dL_limits_314 (by decide) ?_
  refine x_iload_n 0 dL_limits_279 rfl rfl ?_
  refine x_bipush 87 (by decide) dL_limits_280 ?_
  refine x_icmp_ge_n 317 dL_limits_282 (by decide) (by decide) ?_
  refine x_aload_n 2 dL_limits_285 rfl rfl ?_
  refine x_bipush 100 (by decide) dL_limits_286 ?_
  refine x_iload_n 0 dL_limits_288 rfl rfl ?_
  refine x_iadd dL_limits_289 ?_
  refine x_toX (st' := [.int 133, .ref h.2]) rfl ?_
  refine x_iload_n 0 dL_limits_290 rfl rfl ?_
  refine x_dom (fun hd369 => ?_)
  obtain ⟨f369, m369, e369, a369, w369⟩ := k_dd5 hN (by omega) w365 hd369 (z365.le w365 hd369) (a := 133) (b := 33) (v := 2) (S' := (k_of (k_lx 34))) (k_ck5_sp k_lz_33).1 (k_ck5_sp k_lz_33).2
  have z369 := z365.st a369
  obtain ⟨P369, w369⟩ : ∃ P, k_wd h.2 (h.2 + 70) 131 (k_of (k_lx 34)) P (fun _ => none) [] f369 := ⟨_, w369⟩
  obtain ⟨fs370, hfs370⟩ := w365.ob
  refine x_callv (As := [.int 133, .int 33]) (rest := []) 7897 444334 dL_limits_291 mi_X5_insert ml_L_47 rfl rfl (Nat.le_of_ble_eq_true rfl) ⟨by decide, by decide⟩ (by omega) (by omega) hfs370 rfl (c_X5_insert N _ _ _ _ _ e369) (x_K.some ?_) x_KX.none
  refine x_toX (st' := [.int 2]) rfl ?_
  clear hd369 e369 a369 hfs370 w365 z365
  refine x_iconst 2 (by decide) dL_limits_294 ?_
  refine x_icmp_ne_n 309 dL_limits_295 (by decide) (by decide) ?_
  refine x_aload_n 2 dL_limits_298 rfl rfl ?_
  obtain ⟨q371, St371, bf371, h371, g371⟩ := w369.ci
  have e371 : F_X5_entries N f369 h.2 = some 107 := ((q_entries (N := N) h371).trans (congrArg some tf_356))
  obtain ⟨fs372, hfs372⟩ := w369.ob
  refine x_callv (As := []) (rest := []) 7897 444334 dL_limits_299 mi_X5_entries ml_L_143 rfl rfl (Nat.le_of_ble_eq_true rfl) ⟨by decide, by decide⟩ (by omega) (by omega) hfs372 rfl (c_X5_entries N _ _ _ _ e371) (x_K.some ?_) x_KX.none
  clear h371 g371 e371 hfs372
  refine x_bipush 74 (by decide) dL_limits_302 ?_
  refine x_iload_n 0 dL_limits_304 rfl rfl ?_
  refine x_iadd dL_limits_305 ?_
  refine x_toX (st' := [.int 107, .int 107]) rfl ?_
  refine x_icmp_eq_y 311 dL_limits_306 (by decide) (by decide) ?_
  refine x_iinc 34 (lv' := [(1, .int 34), (2, .int 12), (0, .ref h.2)]) dL_limits_311 0 rfl (by decide) (by decide) rfl ?_
  refine x_goto 279 dL_limits_314 (by decide) ?_
  refine x_iload_n 0 dL_limits_279 rfl rfl ?_
  refine x_bipush 87 (by decide) dL_limits_280 ?_
  refine x_icmp_ge_n 317 dL_limits_282 (by decide) (by decide) ?_
  refine x_aload_n 2 dL_limits_285 rfl rfl ?_
  refine x_bipush 100 (by decide) dL_limits_286 ?_
  refine x_iload_n 0 dL_limits_288 rfl rfl ?_
  refine x_iadd dL_limits_289 ?_
  refine x_toX (st' := [.int 134, .ref h.2]) rfl ?_
  refine x_iload_n 0 dL_limits_290 rfl rfl ?_
  refine x_dom (fun hd373 => ?_)
  obtain ⟨f373, m373, e373, a373, w373⟩ := k_dd5 hN (by omega) w369 hd373 (z369.le w369 hd373) (a := 134) (b := 34) (v := 2) (S' := (k_of (k_lx 35))) (k_ck5_sp k_lz_34).1 (k_ck5_sp k_lz_34).2
  have z373 := z369.st a373
  obtain ⟨P373, w373⟩ : ∃ P, k_wd h.2 (h.2 + 70) 132 (k_of (k_lx 35)) P (fun _ => none) [] f373 := ⟨_, w373⟩
  obtain ⟨fs374, hfs374⟩ := w369.ob
  refine x_callv (As := [.int 134, .int 34]) (rest := []) 7863 442419 dL_limits_291 mi_X5_insert ml_L_47 rfl rfl (Nat.le_of_ble_eq_true rfl) ⟨by decide, by decide⟩ (by omega) (by omega) hfs374 rfl (c_X5_insert N _ _ _ _ _ e373) (x_K.some ?_) x_KX.none
  refine x_toX (st' := [.int 2]) rfl ?_
  clear hd373 e373 a373 hfs374 w369 z369
  refine x_iconst 2 (by decide) dL_limits_294 ?_
  refine x_icmp_ne_n 309 dL_limits_295 (by decide) (by decide) ?_
  refine x_aload_n 2 dL_limits_298 rfl rfl ?_
  obtain ⟨q375, St375, bf375, h375, g375⟩ := w373.ci
  have e375 : F_X5_entries N f373 h.2 = some 108 := ((q_entries (N := N) h375).trans (congrArg some tf_357))
  obtain ⟨fs376, hfs376⟩ := w373.ob
  refine x_callv (As := []) (rest := []) 7863 442419 dL_limits_299 mi_X5_entries ml_L_143 rfl rfl (Nat.le_of_ble_eq_true rfl) ⟨by decide, by decide⟩ (by omega) (by omega) hfs376 rfl (c_X5_entries N _ _ _ _ e375) (x_K.some ?_) x_KX.none
  clear h375 g375 e375 hfs376
  refine x_bipush 74 (by decide) dL_limits_302 ?_
  refine x_iload_n 0 dL_limits_304 rfl rfl ?_
  refine x_iadd dL_limits_305 ?_
  refine x_toX (st' := [.int 108, .int 108]) rfl ?_
  refine x_icmp_eq_y 311 dL_limits_306 (by decide) (by decide) ?_
  refine x_iinc 35 (lv' := [(1, .int 35), (2, .int 12), (0, .ref h.2)]) dL_limits_311 0 rfl (by decide) (by decide) rfl ?_
  refine x_goto 279 dL_limits_314 (by decide) ?_
  refine x_iload_n 0 dL_limits_279 rfl rfl ?_
  refine x_bipush 87 (by decide) dL_limits_280 ?_
  refine x_icmp_ge_n 317 dL_limits_282 (by decide) (by decide) ?_
  refine x_aload_n 2 dL_limits_285 rfl rfl ?_
  refine x_bipush 100 (by decide) dL_limits_286 ?_
  refine x_iload_n 0 dL_limits_288 rfl rfl ?_
  refine x_iadd dL_limits_289 ?_
  refine x_toX (st' := [.int 135, .ref h.2]) rfl ?_
  refine x_iload_n 0 dL_limits_290 rfl rfl ?_
  refine x_dom (fun hd377 => ?_)
  obtain ⟨f377, m377, e377, a377, w377⟩ := k_dd5 hN (by omega) w373 hd377 (z373.le w373 hd377) (a := 135) (b := 35) (v := 2) (S' := (k_of (k_lx 36))) (k_ck5_sp k_lz_35).1 (k_ck5_sp k_lz_35).2
  have z377 := z373.st a377
  obtain ⟨P377, w377⟩ : ∃ P, k_wd h.2 (h.2 + 70) 133 (k_of (k_lx 36)) P (fun _ => none) [] f377 := ⟨_, w377⟩
  obtain ⟨fs378, hfs378⟩ := w373.ob
  refine x_callv (As := [.int 135, .int 35]) (rest := []) 7829 440504 dL_limits_291 mi_X5_insert ml_L_47 rfl rfl (Nat.le_of_ble_eq_true rfl) ⟨by decide, by decide⟩ (by omega) (by omega) hfs378 rfl (c_X5_insert N _ _ _ _ _ e377) (x_K.some ?_) x_KX.none
  refine x_toX (st' := [.int 2]) rfl ?_
  clear hd377 e377 a377 hfs378 w373 z373
  refine x_iconst 2 (by decide) dL_limits_294 ?_
  refine x_icmp_ne_n 309 dL_limits_295 (by decide) (by decide) ?_
  refine x_aload_n 2 dL_limits_298 rfl rfl ?_
  obtain ⟨q379, St379, bf379, h379, g379⟩ := w377.ci
  have e379 : F_X5_entries N f377 h.2 = some 109 := ((q_entries (N := N) h379).trans (congrArg some tf_358))
  obtain ⟨fs380, hfs380⟩ := w377.ob
  refine x_callv (As := []) (rest := []) 7829 440504 dL_limits_299 mi_X5_entries ml_L_143 rfl rfl (Nat.le_of_ble_eq_true rfl) ⟨by decide, by decide⟩ (by omega) (by omega) hfs380 rfl (c_X5_entries N _ _ _ _ e379) (x_K.some ?_) x_KX.none
  clear h379 g379 e379 hfs380
  refine x_bipush 74 (by decide) dL_limits_302 ?_
  refine x_iload_n 0 dL_limits_304 rfl rfl ?_
  refine x_iadd dL_limits_305 ?_
  refine x_toX (st' := [.int 109, .int 109]) rfl ?_
  refine x_icmp_eq_y 311 dL_limits_306 (by decide) (by decide) ?_
  refine x_iinc 36 (lv' := [(1, .int 36), (2, .int 12), (0, .ref h.2)]) dL_limits_311 0 rfl (by decide) (by decide) rfl ?_
  refine x_goto 279 dL_limits_314 (by decide) ?_
  refine x_iload_n 0 dL_limits_279 rfl rfl ?_
  refine x_bipush 87 (by decide) dL_limits_280 ?_
  refine x_icmp_ge_n 317 dL_limits_282 (by decide) (by decide) ?_
  refine x_aload_n 2 dL_limits_285 rfl rfl ?_
  refine x_bipush 100 (by decide) dL_limits_286 ?_
  refine x_iload_n 0 dL_limits_288 rfl rfl ?_
  refine x_iadd dL_limits_289 ?_
  refine x_toX (st' := [.int 136, .ref h.2]) rfl ?_
  refine x_iload_n 0 dL_limits_290 rfl rfl ?_
  refine x_dom (fun hd381 => ?_)
  obtain ⟨f381, m381, e381, a381, w381⟩ := k_dd5 hN (by omega) w377 hd381 (z377.le w377 hd381) (a := 136) (b := 36) (v := 2) (S' := (k_of (k_lx 37))) (k_ck5_sp k_lz_36).1 (k_ck5_sp k_lz_36).2
  have z381 := z377.st a381
  obtain ⟨P381, w381⟩ : ∃ P, k_wd h.2 (h.2 + 70) 134 (k_of (k_lx 37)) P (fun _ => none) [] f381 := ⟨_, w381⟩
  obtain ⟨fs382, hfs382⟩ := w377.ob
  refine x_callv (As := [.int 136, .int 36]) (rest := []) 7795 438589 dL_limits_291 mi_X5_insert ml_L_47 rfl rfl (Nat.le_of_ble_eq_true rfl) ⟨by decide, by decide⟩ (by omega) (by omega) hfs382 rfl (c_X5_insert N _ _ _ _ _ e381) (x_K.some ?_) x_KX.none
  refine x_toX (st' := [.int 2]) rfl ?_
  clear hd381 e381 a381 hfs382 w377 z377
  refine x_iconst 2 (by decide) dL_limits_294 ?_
  refine x_icmp_ne_n 309 dL_limits_295 (by decide) (by decide) ?_
  refine x_aload_n 2 dL_limits_298 rfl rfl ?_
  obtain ⟨q383, St383, bf383, h383, g383⟩ := w381.ci
  have e383 : F_X5_entries N f381 h.2 = some 110 := ((q_entries (N := N) h383).trans (congrArg some tf_359))
  obtain ⟨fs384, hfs384⟩ := w381.ob
  refine x_callv (As := []) (rest := []) 7795 438589 dL_limits_299 mi_X5_entries ml_L_143 rfl rfl (Nat.le_of_ble_eq_true rfl) ⟨by decide, by decide⟩ (by omega) (by omega) hfs384 rfl (c_X5_entries N _ _ _ _ e383) (x_K.some ?_) x_KX.none
  clear h383 g383 e383 hfs384
  refine x_bipush 74 (by decide) dL_limits_302 ?_
  refine x_iload_n 0 dL_limits_304 rfl rfl ?_
  refine x_iadd dL_limits_305 ?_
  refine x_toX (st' := [.int 110, .int 110]) rfl ?_
  refine x_icmp_eq_y 311 dL_limits_306 (by decide) (by decide) ?_
  refine x_iinc 37 (lv' := [(1, .int 37), (2, .int 12), (0, .ref h.2)]) dL_limits_311 0 rfl (by decide) (by decide) rfl ?_
  refine x_goto 279 dL_limits_314 (by decide) ?_
  refine x_iload_n 0 dL_limits_279 rfl rfl ?_
  refine x_bipush 87 (by decide) dL_limits_280 ?_
  refine x_icmp_ge_n 317 dL_limits_282 (by decide) (by decide) ?_
  refine x_aload_n 2 dL_limits_285 rfl rfl ?_
  refine x_bipush 100 (by decide) dL_limits_286 ?_
  refine x_iload_n 0 dL_limits_288 rfl rfl ?_
  refine x_iadd dL_limits_289 ?_
  refine x_toX (st' := [.int 137, .ref h.2]) rfl ?_
  refine x_iload_n 0 dL_limits_290 rfl rfl ?_
  refine x_dom (fun hd385 => ?_)
  obtain ⟨f385, m385, e385, a385, w385⟩ := k_dd5 hN (by omega) w381 hd385 (z381.le w381 hd385) (a := 137) (b := 37) (v := 2) (S' := (k_of (k_lx 38))) (k_ck5_sp k_lz_37).1 (k_ck5_sp k_lz_37).2
  have z385 := z381.st a385
  obtain ⟨P385, w385⟩ : ∃ P, k_wd h.2 (h.2 + 70) 135 (k_of (k_lx 38)) P (fun _ => none) [] f385 := ⟨_, w385⟩
  obtain ⟨fs386, hfs386⟩ := w381.ob
  refine x_callv (As := [.int 137, .int 37]) (rest := []) 7761 436674 dL_limits_291 mi_X5_insert ml_L_47 rfl rfl (Nat.le_of_ble_eq_true rfl) ⟨by decide, by decide⟩ (by omega) (by omega) hfs386 rfl (c_X5_insert N _ _ _ _ _ e385) (x_K.some ?_) x_KX.none
  refine x_toX (st' := [.int 2]) rfl ?_
  clear hd385 e385 a385 hfs386 w381 z381
  refine x_iconst 2 (by decide) dL_limits_294 ?_
  refine x_icmp_ne_n 309 dL_limits_295 (by decide) (by decide) ?_
  refine x_aload_n 2 dL_limits_298 rfl rfl ?_
  obtain ⟨q387, St387, bf387, h387, g387⟩ := w385.ci
  have e387 : F_X5_entries N f385 h.2 = some 111 := ((q_entries (N := N) h387).trans (congrArg some tf_360))
  obtain ⟨fs388, hfs388⟩ := w385.ob
  refine x_callv (As := []) (rest := []) 7761 436674 dL_limits_299 mi_X5_entries ml_L_143 rfl rfl (Nat.le_of_ble_eq_true rfl) ⟨by decide, by decide⟩ (by omega) (by omega) hfs388 rfl (c_X5_entries N _ _ _ _ e387) (x_K.some ?_) x_KX.none
  clear h387 g387 e387 hfs388
  refine x_bipush 74 (by decide) dL_limits_302 ?_
  refine x_iload_n 0 dL_limits_304 rfl rfl ?_
  refine x_iadd dL_limits_305 ?_
  refine x_toX (st' := [.int 111, .int 111]) rfl ?_
  refine x_icmp_eq_y 311 dL_limits_306 (by decide) (by decide) ?_
  refine x_iinc 38 (lv' := [(1, .int 38), (2, .int 12), (0, .ref h.2)]) dL_limits_311 0 rfl (by decide) (by decide) rfl ?_
  refine x_goto 279 dL_limits_314 (by decide) ?_
  refine x_iload_n 0 dL_limits_279 rfl rfl ?_
  refine x_bipush 87 (by decide) dL_limits_280 ?_
  refine x_icmp_ge_n 317 dL_limits_282 (by decide) (by decide) ?_
  refine x_aload_n 2 dL_limits_285 rfl rfl ?_
  refine x_bipush 100 (by decide) dL_limits_286 ?_
  refine x_iload_n 0 dL_limits_288 rfl rfl ?_
  refine x_iadd dL_limits_289 ?_
  refine x_toX (st' := [.int 138, .ref h.2]) rfl ?_
  refine x_iload_n 0 dL_limits_290 rfl rfl ?_
  refine x_dom (fun hd389 => ?_)
  obtain ⟨f389, m389, e389, a389, w389⟩ := k_dd5 hN (by omega) w385 hd389 (z385.le w385 hd389) (a := 138) (b := 38) (v := 2) (S' := (k_of (k_lx 39))) (k_ck5_sp k_lz_38).1 (k_ck5_sp k_lz_38).2
  have z389 := z385.st a389
  obtain ⟨P389, w389⟩ : ∃ P, k_wd h.2 (h.2 + 70) 136 (k_of (k_lx 39)) P (fun _ => none) [] f389 := ⟨_, w389⟩
  obtain ⟨fs390, hfs390⟩ := w385.ob
  refine x_callv (As := [.int 138, .int 38]) (rest := []) 7727 434759 dL_limits_291 mi_X5_insert ml_L_47 rfl rfl (Nat.le_of_ble_eq_true rfl) ⟨by decide, by decide⟩ (by omega) (by omega) hfs390 rfl (c_X5_insert N _ _ _ _ _ e389) (x_K.some ?_) x_KX.none
  refine x_toX (st' := [.int 2]) rfl ?_
  clear hd389 e389 a389 hfs390 w385 z385
  refine x_iconst 2 (by decide) dL_limits_294 ?_
  refine x_icmp_ne_n 309 dL_limits_295 (by decide) (by decide) ?_
  refine x_aload_n 2 dL_limits_298 rfl rfl ?_
  obtain ⟨q391, St391, bf391, h391, g391⟩ := w389.ci
  have e391 : F_X5_entries N f389 h.2 = some 112 := ((q_entries (N := N) h391).trans (congrArg some tf_361))
  obtain ⟨fs392, hfs392⟩ := w389.ob
  refine x_callv (As := []) (rest := []) 7727 434759 dL_limits_299 mi_X5_entries ml_L_143 rfl rfl (Nat.le_of_ble_eq_true rfl) ⟨by decide, by decide⟩ (by omega) (by omega) hfs392 rfl (c_X5_entries N _ _ _ _ e391) (x_K.some ?_) x_KX.none
  clear h391 g391 e391 hfs392
  refine x_bipush 74 (by decide) dL_limits_302 ?_
  refine x_iload_n 0 dL_limits_304 rfl rfl ?_
  refine x_iadd dL_limits_305 ?_
  refine x_toX (st' := [.int 112, .int 112]) rfl ?_
  refine x_icmp_eq_y 311 dL_limits_306 (by decide) (by decide) ?_
  refine x_iinc 39 (lv' := [(1, .int 39), (2, .int 12), (0, .ref h.2)]) dL_limits_311 0 rfl (by decide) (by decide) rfl ?_
  refine x_goto 279 dL_limits_314 (by decide) ?_
  refine x_iload_n 0 dL_limits_279 rfl rfl ?_
  refine x_bipush 87 (by decide) dL_limits_280 ?_
  refine x_icmp_ge_n 317 dL_limits_282 (by decide) (by decide) ?_
  refine x_aload_n 2 dL_limits_285 rfl rfl ?_
  refine x_bipush 100 (by decide) dL_limits_286 ?_
  refine x_iload_n 0 dL_limits_288 rfl rfl ?_
  refine x_iadd dL_limits_289 ?_
  refine x_toX (st' := [.int 139, .ref h.2]) rfl ?_
  refine x_iload_n 0 dL_limits_290 rfl rfl ?_
  refine x_dom (fun hd393 => ?_)
  obtain ⟨f393, m393, e393, a393, w393⟩ := k_dd5 hN (by omega) w389 hd393 (z389.le w389 hd393) (a := 139) (b := 39) (v := 2) (S' := (k_of (k_lx 40))) (k_ck5_sp k_lz_39).1 (k_ck5_sp k_lz_39).2
  have z393 := z389.st a393
  obtain ⟨P393, w393⟩ : ∃ P, k_wd h.2 (h.2 + 70) 137 (k_of (k_lx 40)) P (fun _ => none) [] f393 := ⟨_, w393⟩
  obtain ⟨fs394, hfs394⟩ := w389.ob
  refine x_callv (As := [.int 139, .int 39]) (rest := []) 7693 432844 dL_limits_291 mi_X5_insert ml_L_47 rfl rfl (Nat.le_of_ble_eq_true rfl) ⟨by decide, by decide⟩ (by omega) (by omega) hfs394 rfl (c_X5_insert N _ _ _ _ _ e393) (x_K.some ?_) x_KX.none
  refine x_toX (st' := [.int 2]) rfl ?_
  clear hd393 e393 a393 hfs394 w389 z389
  refine x_iconst 2 (by decide) dL_limits_294 ?_
  refine x_icmp_ne_n 309 dL_limits_295 (by decide) (by decide) ?_
  refine x_aload_n 2 dL_limits_298 rfl rfl ?_
  obtain ⟨q395, St395, bf395, h395, g395⟩ := w393.ci
  have e395 : F_X5_entries N f393 h.2 = some 113 := ((q_entries (N := N) h395).trans (congrArg some tf_362))
  obtain ⟨fs396, hfs396⟩ := w393.ob
  refine x_callv (As := []) (rest := []) 7693 432844 dL_limits_299 mi_X5_entries ml_L_143 rfl rfl (Nat.le_of_ble_eq_true rfl) ⟨by decide, by decide⟩ (by omega) (by omega) hfs396 rfl (c_X5_entries N _ _ _ _ e395) (x_K.some ?_) x_KX.none
  clear h395 g395 e395 hfs396
  refine x_bipush 74 (by decide) dL_limits_302 ?_
  refine x_iload_n 0 dL_limits_304 rfl rfl ?_
  refine x_iadd dL_limits_305 ?_
  refine x_toX (st' := [.int 113, .int 113]) rfl ?_
  refine x_icmp_eq_y 311 dL_limits_306 (by decide) (by decide) ?_
  refine x_iinc 40 (lv' := [(1, .int 40), (2, .int 12), (0, .ref h.2)]) dL_limits_311 0 rfl (by decide) (by decide) rfl ?_
  refine x_goto 279 dL_limits_314 (by decide) ?_
  refine x_iload_n 0 dL_limits_279 rfl rfl ?_
  refine x_bipush 87 (by decide) dL_limits_280 ?_
  refine x_icmp_ge_n 317 dL_limits_282 (by decide) (by decide) ?_
  refine x_aload_n 2 dL_limits_285 rfl rfl ?_
  refine x_bipush 100 (by decide) dL_limits_286 ?_
  refine x_iload_n 0 dL_limits_288 rfl rfl ?_
  refine x_iadd dL_limits_289 ?_
  refine x_toX (st' := [.int 140, .ref h.2]) rfl ?_
  refine x_iload_n 0 dL_limits_290 rfl rfl ?_
  refine x_dom (fun hd397 => ?_)
  obtain ⟨f397, m397, e397, a397, w397⟩ := k_dd5 hN (by omega) w393 hd397 (z393.le w393 hd397) (a := 140) (b := 40) (v := 2) (S' := (k_of (k_lx 41))) (k_ck5_sp k_lz_40).1 (k_ck5_sp k_lz_40).2
  have z397 := z393.st a397
  obtain ⟨P397, w397⟩ : ∃ P, k_wd h.2 (h.2 + 70) 138 (k_of (k_lx 41)) P (fun _ => none) [] f397 := ⟨_, w397⟩
  obtain ⟨fs398, hfs398⟩ := w393.ob
  refine x_callv (As := [.int 140, .int 40]) (rest := []) 7659 430929 dL_limits_291 mi_X5_insert ml_L_47 rfl rfl (Nat.le_of_ble_eq_true rfl) ⟨by decide, by decide⟩ (by omega) (by omega) hfs398 rfl (c_X5_insert N _ _ _ _ _ e397) (x_K.some ?_) x_KX.none
  refine x_toX (st' := [.int 2]) rfl ?_
  clear hd397 e397 a397 hfs398 w393 z393
  refine x_iconst 2 (by decide) dL_limits_294 ?_
  refine x_icmp_ne_n 309 dL_limits_295 (by decide) (by decide) ?_
  refine x_aload_n 2 dL_limits_298 rfl rfl ?_
  obtain ⟨q399, St399, bf399, h399, g399⟩ := w397.ci
  have e399 : F_X5_entries N f397 h.2 = some 114 := ((q_entries (N := N) h399).trans (congrArg some tf_363))
  obtain ⟨fs400, hfs400⟩ := w397.ob
  refine x_callv (As := []) (rest := []) 7659 430929 dL_limits_299 mi_X5_entries ml_L_143 rfl rfl (Nat.le_of_ble_eq_true rfl) ⟨by decide, by decide⟩ (by omega) (by omega) hfs400 rfl (c_X5_entries N _ _ _ _ e399) (x_K.some ?_) x_KX.none
  clear h399 g399 e399 hfs400
  refine x_bipush 74 (by decide) dL_limits_302 ?_
  refine x_iload_n 0 dL_limits_304 rfl rfl ?_
  refine x_iadd dL_limits_305 ?_
  refine x_toX (st' := [.int 114, .int 114]) rfl ?_
  refine x_icmp_eq_y 311 dL_limits_306 (by decide) (by decide) ?_
  refine x_iinc 41 (lv' := [(1, .int 41), (2, .int 12), (0, .ref h.2)]) dL_limits_311 0 rfl (by decide) (by decide) rfl ?_
  refine x_goto 279 dL_limits_314 (by decide) ?_
  refine x_iload_n 0 dL_limits_279 rfl rfl ?_
  refine x_bipush 87 (by decide) dL_limits_280 ?_
  refine x_icmp_ge_n 317 dL_limits_282 (by decide) (by decide) ?_
  refine x_aload_n 2 dL_limits_285 rfl rfl ?_
  refine x_bipush 100 (by decide) dL_limits_286 ?_
  refine x_iload_n 0 dL_limits_288 rfl rfl ?_
  refine x_iadd dL_limits_289 ?_
  refine x_toX (st' := [.int 141, .ref h.2]) rfl ?_
  refine x_iload_n 0 dL_limits_290 rfl rfl ?_
  refine x_dom (fun hd401 => ?_)
  obtain ⟨f401, m401, e401, a401, w401⟩ := k_dd5 hN (by omega) w397 hd401 (z397.le w397 hd401) (a := 141) (b := 41) (v := 2) (S' := (k_of (k_lx 42))) (k_ck5_sp k_lz_41).1 (k_ck5_sp k_lz_41).2
  have z401 := z397.st a401
  obtain ⟨P401, w401⟩ : ∃ P, k_wd h.2 (h.2 + 70) 139 (k_of (k_lx 42)) P (fun _ => none) [] f401 := ⟨_, w401⟩
  obtain ⟨fs402, hfs402⟩ := w397.ob
  refine x_callv (As := [.int 141, .int 41]) (rest := []) 7625 429014 dL_limits_291 mi_X5_insert ml_L_47 rfl rfl (Nat.le_of_ble_eq_true rfl) ⟨by decide, by decide⟩ (by omega) (by omega) hfs402 rfl (c_X5_insert N _ _ _ _ _ e401) (x_K.some ?_) x_KX.none
  refine x_toX (st' := [.int 2]) rfl ?_
  clear hd401 e401 a401 hfs402 w397 z397
  refine x_iconst 2 (by decide) dL_limits_294 ?_
  refine x_icmp_ne_n 309 dL_limits_295 (by decide) (by decide) ?_
  refine x_aload_n 2 dL_limits_298 rfl rfl ?_
  obtain ⟨q403, St403, bf403, h403, g403⟩ := w401.ci
  have e403 : F_X5_entries N f401 h.2 = some 115 := ((q_entries (N := N) h403).trans (congrArg some tf_364))
  obtain ⟨fs404, hfs404⟩ := w401.ob
  refine x_callv (As := []) (rest := []) 7625 429014 dL_limits_299 mi_X5_entries ml_L_143 rfl rfl (Nat.le_of_ble_eq_true rfl) ⟨by decide, by decide⟩ (by omega) (by omega) hfs404 rfl (c_X5_entries N _ _ _ _ e403) (x_K.some ?_) x_KX.none
  clear h403 g403 e403 hfs404
  refine x_bipush 74 (by decide) dL_limits_302 ?_
  refine x_iload_n 0 dL_limits_304 rfl rfl ?_
  refine x_iadd dL_limits_305 ?_
  refine x_toX (st' := [.int 115, .int 115]) rfl ?_
  refine x_icmp_eq_y 311 dL_limits_306 (by decide) (by decide) ?_
  refine x_iinc 42 (lv' := [(1, .int 42), (2, .int 12), (0, .ref h.2)]) dL_limits_311 0 rfl (by decide) (by decide) rfl ?_
  refine x_goto 279 dL_limits_314 (by decide) ?_
  refine x_iload_n 0 dL_limits_279 rfl rfl ?_
  refine x_bipush 87 (by decide) dL_limits_280 ?_
  refine x_icmp_ge_n 317 dL_limits_282 (by decide) (by decide) ?_
  refine x_aload_n 2 dL_limits_285 rfl rfl ?_
  refine x_bipush 100 (by decide) dL_limits_286 ?_
  refine x_iload_n 0 dL_limits_288 rfl rfl ?_
  refine x_iadd dL_limits_289 ?_
  refine x_toX (st' := [.int 142, .ref h.2]) rfl ?_
  refine x_iload_n 0 dL_limits_290 rfl rfl ?_
  refine x_dom (fun hd405 => ?_)
  obtain ⟨f405, m405, e405, a405, w405⟩ := k_dd5 hN (by omega) w401 hd405 (z401.le w401 hd405) (a := 142) (b := 42) (v := 2) (S' := (k_of (k_lx 43))) (k_ck5_sp k_lz_42).1 (k_ck5_sp k_lz_42).2
  have z405 := z401.st a405
  obtain ⟨P405, w405⟩ : ∃ P, k_wd h.2 (h.2 + 70) 140 (k_of (k_lx 43)) P (fun _ => none) [] f405 := ⟨_, w405⟩
  obtain ⟨fs406, hfs406⟩ := w401.ob
  refine x_callv (As := [.int 142, .int 42]) (rest := []) 7591 427099 dL_limits_291 mi_X5_insert ml_L_47 rfl rfl (Nat.le_of_ble_eq_true rfl) ⟨by decide, by decide⟩ (by omega) (by omega) hfs406 rfl (c_X5_insert N _ _ _ _ _ e405) (x_K.some ?_) x_KX.none
  refine x_toX (st' := [.int 2]) rfl ?_
  clear hd405 e405 a405 hfs406 w401 z401
  refine x_iconst 2 (by decide) dL_limits_294 ?_
  refine x_icmp_ne_n 309 dL_limits_295 (by decide) (by decide) ?_
  refine x_aload_n 2 dL_limits_298 rfl rfl ?_
  obtain ⟨q407, St407, bf407, h407, g407⟩ := w405.ci
  have e407 : F_X5_entries N f405 h.2 = some 116 := ((q_entries (N := N) h407).trans (congrArg some tf_365))
  obtain ⟨fs408, hfs408⟩ := w405.ob
  refine x_callv (As := []) (rest := []) 7591 427099 dL_limits_299 mi_X5_entries ml_L_143 rfl rfl (Nat.le_of_ble_eq_true rfl) ⟨by decide, by decide⟩ (by omega) (by omega) hfs408 rfl (c_X5_entries N _ _ _ _ e407) (x_K.some ?_) x_KX.none
  clear h407 g407 e407 hfs408
  refine x_bipush 74 (by decide) dL_limits_302 ?_
  refine x_iload_n 0 dL_limits_304 rfl rfl ?_
  refine x_iadd dL_limits_305 ?_
  refine x_toX (st' := [.int 116, .int 116]) rfl ?_
  refine x_icmp_eq_y 311 dL_limits_306 (by decide) (by decide) ?_
  refine x_iinc 43 (lv' := [(1, .int 43), (2, .int 12), (0, .ref h.2)]) dL_limits_311 0 rfl (by decide) (by decide) rfl ?_
  refine x_goto 279 dL_limits_314 (by decide) ?_
  refine x_iload_n 0 dL_limits_279 rfl rfl ?_
  refine x_bipush 87 (by decide) dL_limits_280 ?_
  refine x_icmp_ge_n 317 dL_limits_282 (by decide) (by decide) ?_
  refine x_aload_n 2 dL_limits_285 rfl rfl ?_
  refine x_bipush 100 (by decide) dL_limits_286 ?_
  refine x_iload_n 0 dL_limits_288 rfl rfl ?_
  refine x_iadd dL_limits_289 ?_
  refine x_toX (st' := [.int 143, .ref h.2]) rfl ?_
  refine x_iload_n 0 dL_limits_290 rfl rfl ?_
  refine x_dom (fun hd409 => ?_)
  obtain ⟨f409, m409, e409, a409, w409⟩ := k_dd5 hN (by omega) w405 hd409 (z405.le w405 hd409) (a := 143) (b := 43) (v := 2) (S' := (k_of (k_lx 44))) (k_ck5_sp k_lz_43).1 (k_ck5_sp k_lz_43).2
  have z409 := z405.st a409
  obtain ⟨P409, w409⟩ : ∃ P, k_wd h.2 (h.2 + 70) 141 (k_of (k_lx 44)) P (fun _ => none) [] f409 := ⟨_, w409⟩
  obtain ⟨fs410, hfs410⟩ := w405.ob
  refine x_callv (As := [.int 143, .int 43]) (rest := []) 7557 425184 dL_limits_291 mi_X5_insert ml_L_47 rfl rfl (Nat.le_of_ble_eq_true rfl) ⟨by decide, by decide⟩ (by omega) (by omega) hfs410 rfl (c_X5_insert N _ _ _ _ _ e409) (x_K.some ?_) x_KX.none
  refine x_toX (st' := [.int 2]) rfl ?_
  clear hd409 e409 a409 hfs410 w405 z405
  refine x_iconst 2 (by decide) dL_limits_294 ?_
  refine x_icmp_ne_n 309 dL_limits_295 (by decide) (by decide) ?_
  refine x_aload_n 2 dL_limits_298 rfl rfl ?_
  obtain ⟨q411, St411, bf411, h411, g411⟩ := w409.ci
  have e411 : F_X5_entries N f409 h.2 = some 117 := ((q_entries (N := N) h411).trans (congrArg some tf_366))
  obtain ⟨fs412, hfs412⟩ := w409.ob
  refine x_callv (As := []) (rest := []) 7557 425184 dL_limits_299 mi_X5_entries ml_L_143 rfl rfl (Nat.le_of_ble_eq_true rfl) ⟨by decide, by decide⟩ (by omega) (by omega) hfs412 rfl (c_X5_entries N _ _ _ _ e411) (x_K.some ?_) x_KX.none
  clear h411 g411 e411 hfs412
  refine x_bipush 74 (by decide) dL_limits_302 ?_
  refine x_iload_n 0 dL_limits_304 rfl rfl ?_
  refine x_iadd dL_limits_305 ?_
  refine x_toX (st' := [.int 117, .int 117]) rfl ?_
  refine x_icmp_eq_y 311 dL_limits_306 (by decide) (by decide) ?_
  refine x_iinc 44 (lv' := [(1, .int 44), (2, .int 12), (0, .ref h.2)]) dL_limits_311 0 rfl (by decide) (by decide) rfl ?_
  refine x_goto 279 dL_limits_314 (by decide) ?_
  refine x_iload_n 0 dL_limits_279 rfl rfl ?_
  refine x_bipush 87 (by decide) dL_limits_280 ?_
  refine x_icmp_ge_n 317 dL_limits_282 (by decide) (by decide) ?_
  refine x_aload_n 2 dL_limits_285 rfl rfl ?_
  refine x_bipush 100 (by decide) dL_limits_286 ?_
  refine x_iload_n 0 dL_limits_288 rfl rfl ?_
  refine x_iadd dL_limits_289 ?_
  refine x_toX (st' := [.int 144, .ref h.2]) rfl ?_
  refine x_iload_n 0 dL_limits_290 rfl rfl ?_
  refine x_dom (fun hd413 => ?_)
  obtain ⟨f413, m413, e413, a413, w413⟩ := k_dd5 hN (by omega) w409 hd413 (z409.le w409 hd413) (a := 144) (b := 44) (v := 2) (S' := (k_of (k_lx 45))) (k_ck5_sp k_lz_44).1 (k_ck5_sp k_lz_44).2
  have z413 := z409.st a413
  obtain ⟨P413, w413⟩ : ∃ P, k_wd h.2 (h.2 + 70) 142 (k_of (k_lx 45)) P (fun _ => none) [] f413 := ⟨_, w413⟩
  obtain ⟨fs414, hfs414⟩ := w409.ob
  refine x_callv (As := [.int 144, .int 44]) (rest := []) 7523 423269 dL_limits_291 mi_X5_insert ml_L_47 rfl rfl (Nat.le_of_ble_eq_true rfl) ⟨by decide, by decide⟩ (by omega) (by omega) hfs414 rfl (c_X5_insert N _ _ _ _ _ e413) (x_K.some ?_) x_KX.none
  refine x_toX (st' := [.int 2]) rfl ?_
  clear hd413 e413 a413 hfs414 w409 z409
  refine x_iconst 2 (by decide) dL_limits_294 ?_
  refine x_icmp_ne_n 309 dL_limits_295 (by decide) (by decide) ?_
  refine x_aload_n 2 dL_limits_298 rfl rfl ?_
  obtain ⟨q415, St415, bf415, h415, g415⟩ := w413.ci
  have e415 : F_X5_entries N f413 h.2 = some 118 := ((q_entries (N := N) h415).trans (congrArg some tf_367))
  obtain ⟨fs416, hfs416⟩ := w413.ob
  refine x_callv (As := []) (rest := []) 7523 423269 dL_limits_299 mi_X5_entries ml_L_143 rfl rfl (Nat.le_of_ble_eq_true rfl) ⟨by decide, by decide⟩ (by omega) (by omega) hfs416 rfl (c_X5_entries N _ _ _ _ e415) (x_K.some ?_) x_KX.none
  clear h415 g415 e415 hfs416
  refine x_bipush 74 (by decide) dL_limits_302 ?_
  refine x_iload_n 0 dL_limits_304 rfl rfl ?_
  refine x_iadd dL_limits_305 ?_
  refine x_toX (st' := [.int 118, .int 118]) rfl ?_
  refine x_icmp_eq_y 311 dL_limits_306 (by decide) (by decide) ?_
  refine x_iinc 45 (lv' := [(1, .int 45), (2, .int 12), (0, .ref h.2)]) dL_limits_311 0 rfl (by decide) (by decide) rfl ?_
  refine x_goto 279 dL_limits_314 (by decide) ?_
  refine x_iload_n 0 dL_limits_279 rfl rfl ?_
  refine x_bipush 87 (by decide) dL_limits_280 ?_
  refine x_icmp_ge_n 317 dL_limits_282 (by decide) (by decide) ?_
  refine x_aload_n 2 dL_limits_285 rfl rfl ?_
  refine x_bipush 100 (by decide) dL_limits_286 ?_
  refine x_iload_n 0 dL_limits_288 rfl rfl ?_
  refine x_iadd dL_limits_289 ?_
  refine x_toX (st' := [.int 145, .ref h.2]) rfl ?_
  refine x_iload_n 0 dL_limits_290 rfl rfl ?_
  refine x_dom (fun hd417 => ?_)
  obtain ⟨f417, m417, e417, a417, w417⟩ := k_dd5 hN (by omega) w413 hd417 (z413.le w413 hd417) (a := 145) (b := 45) (v := 2) (S' := (k_of (k_lx 46))) (k_ck5_sp k_lz_45).1 (k_ck5_sp k_lz_45).2
  have z417 := z413.st a417
  obtain ⟨P417, w417⟩ : ∃ P, k_wd h.2 (h.2 + 70) 143 (k_of (k_lx 46)) P (fun _ => none) [] f417 := ⟨_, w417⟩
  obtain ⟨fs418, hfs418⟩ := w413.ob
  refine x_callv (As := [.int 145, .int 45]) (rest := []) 7489 421354 dL_limits_291 mi_X5_insert ml_L_47 rfl rfl (Nat.le_of_ble_eq_true rfl) ⟨by decide, by decide⟩ (by omega) (by omega) hfs418 rfl (c_X5_insert N _ _ _ _ _ e417) (x_K.some ?_) x_KX.none
  refine x_toX (st' := [.int 2]) rfl ?_
  clear hd417 e417 a417 hfs418 w413 z413
  refine x_iconst 2 (by decide) dL_limits_294 ?_
  refine x_icmp_ne_n 309 dL_limits_295 (by decide) (by decide) ?_
  refine x_aload_n 2 dL_limits_298 rfl rfl ?_
  obtain ⟨q419, St419, bf419, h419, g419⟩ := w417.ci
  have e419 : F_X5_entries N f417 h.2 = some 119 := ((q_entries (N := N) h419).trans (congrArg some tf_368))
  obtain ⟨fs420, hfs420⟩ := w417.ob
  refine x_callv (As := []) (rest := []) 7489 421354 dL_limits_299 mi_X5_entries ml_L_143 rfl rfl (Nat.le_of_ble_eq_true rfl) ⟨by decide, by decide⟩ (by omega) (by omega) hfs420 rfl (c_X5_entries N _ _ _ _ e419) (x_K.some ?_) x_KX.none
  clear h419 g419 e419 hfs420
  refine x_bipush 74 (by decide) dL_limits_302 ?_
  refine x_iload_n 0 dL_limits_304 rfl rfl ?_
  refine x_iadd dL_limits_305 ?_
  refine x_toX (st' := [.int 119, .int 119]) rfl ?_
  refine x_icmp_eq_y 311 dL_limits_306 (by decide) (by decide) ?_
  refine x_iinc 46 (lv' := [(1, .int 46), (2, .int 12), (0, .ref h.2)]) dL_limits_311 0 rfl (by decide) (by decide) rfl ?_
  refine x_goto 279 dL_limits_314 (by decide) ?_
  refine x_iload_n 0 dL_limits_279 rfl rfl ?_
  refine x_bipush 87 (by decide) dL_limits_280 ?_
  refine x_icmp_ge_n 317 dL_limits_282 (by decide) (by decide) ?_
  refine x_aload_n 2 dL_limits_285 rfl rfl ?_
  refine x_bipush 100 (by decide) dL_limits_286 ?_
  refine x_iload_n 0 dL_limits_288 rfl rfl ?_
  refine x_iadd dL_limits_289 ?_
  refine x_toX (st' := [.int 146, .ref h.2]) rfl ?_
  refine x_iload_n 0 dL_limits_290 rfl rfl ?_
  refine x_dom (fun hd421 => ?_)
  obtain ⟨f421, m421, e421, a421, w421⟩ := k_dd5 hN (by omega) w417 hd421 (z417.le w417 hd421) (a := 146) (b := 46) (v := 2) (S' := (k_of (k_lx 47))) (k_ck5_sp k_lz_46).1 (k_ck5_sp k_lz_46).2
  have z421 := z417.st a421
  obtain ⟨P421, w421⟩ : ∃ P, k_wd h.2 (h.2 + 70) 144 (k_of (k_lx 47)) P (fun _ => none) [] f421 := ⟨_, w421⟩
  obtain ⟨fs422, hfs422⟩ := w417.ob
  refine x_callv (As := [.int 146, .int 46]) (rest := []) 7455 419439 dL_limits_291 mi_X5_insert ml_L_47 rfl rfl (Nat.le_of_ble_eq_true rfl) ⟨by decide, by decide⟩ (by omega) (by omega) hfs422 rfl (c_X5_insert N _ _ _ _ _ e421) (x_K.some ?_) x_KX.none
  refine x_toX (st' := [.int 2]) rfl ?_
  clear hd421 e421 a421 hfs422 w417 z417
  refine x_iconst 2 (by decide) dL_limits_294 ?_
  refine x_icmp_ne_n 309 dL_limits_295 (by decide) (by decide) ?_
  refine x_aload_n 2 dL_limits_298 rfl rfl ?_
  obtain ⟨q423, St423, bf423, h423, g423⟩ := w421.ci
  have e423 : F_X5_entries N f421 h.2 = some 120 := ((q_entries (N := N) h423).trans (congrArg some tf_369))
  obtain ⟨fs424, hfs424⟩ := w421.ob
  refine x_callv (As := []) (rest := []) 7455 419439 dL_limits_299 mi_X5_entries ml_L_143 rfl rfl (Nat.le_of_ble_eq_true rfl) ⟨by decide, by decide⟩ (by omega) (by omega) hfs424 rfl (c_X5_entries N _ _ _ _ e423) (x_K.some ?_) x_KX.none
  clear h423 g423 e423 hfs424
  refine x_bipush 74 (by decide) dL_limits_302 ?_
  refine x_iload_n 0 dL_limits_304 rfl rfl ?_
  refine x_iadd dL_limits_305 ?_
  refine x_toX (st' := [.int 120, .int 120]) rfl ?_
  refine x_icmp_eq_y 311 dL_limits_306 (by decide) (by decide) ?_
  refine x_iinc 47 (lv' := [(1, .int 47), (2, .int 12), (0, .ref h.2)]) dL_limits_311 0 rfl (by decide) (by decide) rfl ?_
  refine x_goto 279 dL_limits_314 (by decide) ?_
  refine x_iload_n 0 dL_limits_279 rfl rfl ?_
  refine x_bipush 87 (by decide) dL_limits_280 ?_
  refine x_icmp_ge_n 317 dL_limits_282 (by decide) (by decide) ?_
  refine x_aload_n 2 dL_limits_285 rfl rfl ?_
  refine x_bipush 100 (by decide) dL_limits_286 ?_
  refine x_iload_n 0 dL_limits_288 rfl rfl ?_
  refine x_iadd dL_limits_289 ?_
  refine x_toX (st' := [.int 147, .ref h.2]) rfl ?_
  refine x_iload_n 0 dL_limits_290 rfl rfl ?_
  refine x_dom (fun hd425 => ?_)
  obtain ⟨f425, m425, e425, a425, w425⟩ := k_dd5 hN (by omega) w421 hd425 (z421.le w421 hd425) (a := 147) (b := 47) (v := 2) (S' := (k_of (k_lx 48))) (k_ck5_sp k_lz_47).1 (k_ck5_sp k_lz_47).2
  have z425 := z421.st a425
  obtain ⟨P425, w425⟩ : ∃ P, k_wd h.2 (h.2 + 70) 145 (k_of (k_lx 48)) P (fun _ => none) [] f425 := ⟨_, w425⟩
  obtain ⟨fs426, hfs426⟩ := w421.ob
  refine x_callv (As := [.int 147, .int 47]) (rest := []) 7421 417524 dL_limits_291 mi_X5_insert ml_L_47 rfl rfl (Nat.le_of_ble_eq_true rfl) ⟨by decide, by decide⟩ (by omega) (by omega) hfs426 rfl (c_X5_insert N _ _ _ _ _ e425) (x_K.some ?_) x_KX.none
  refine x_toX (st' := [.int 2]) rfl ?_
  clear hd425 e425 a425 hfs426 w421 z421
  refine x_iconst 2 (by decide) dL_limits_294 ?_
  refine x_icmp_ne_n 309 dL_limits_295 (by decide) (by decide) ?_
  refine x_aload_n 2 dL_limits_298 rfl rfl ?_
  obtain ⟨q427, St427, bf427, h427, g427⟩ := w425.ci
  have e427 : F_X5_entries N f425 h.2 = some 121 := ((q_entries (N := N) h427).trans (congrArg some tf_370))
  obtain ⟨fs428, hfs428⟩ := w425.ob
  refine x_callv (As := []) (rest := []) 7421 417524 dL_limits_299 mi_X5_entries ml_L_143 rfl rfl (Nat.le_of_ble_eq_true rfl) ⟨by decide, by decide⟩ (by omega) (by omega) hfs428 rfl (c_X5_entries N _ _ _ _ e427) (x_K.some ?_) x_KX.none
  clear h427 g427 e427 hfs428
  refine x_bipush 74 (by decide) dL_limits_302 ?_
  refine x_iload_n 0 dL_limits_304 rfl rfl ?_
  refine x_iadd dL_limits_305 ?_
  refine x_toX (st' := [.int 121, .int 121]) rfl ?_
  refine x_icmp_eq_y 311 dL_limits_306 (by decide) (by decide) ?_
  refine x_iinc 48 (lv' := [(1, .int 48), (2, .int 12), (0, .ref h.2)]) dL_limits_311 0 rfl (by decide) (by decide) rfl ?_
  refine x_goto 279 dL_limits_314 (by decide) ?_
  refine x_iload_n 0 dL_limits_279 rfl rfl ?_
  refine x_bipush 87 (by decide) dL_limits_280 ?_
  refine x_icmp_ge_n 317 dL_limits_282 (by decide) (by decide) ?_
  refine x_aload_n 2 dL_limits_285 rfl rfl ?_
  refine x_bipush 100 (by decide) dL_limits_286 ?_
  refine x_iload_n 0 dL_limits_288 rfl rfl ?_
  refine x_iadd dL_limits_289 ?_
  refine x_toX (st' := [.int 148, .ref h.2]) rfl ?_
  refine x_iload_n 0 dL_limits_290 rfl rfl ?_
  refine x_dom (fun hd429 => ?_)
  obtain ⟨f429, m429, e429, a429, w429⟩ := k_dd5 hN (by omega) w425 hd429 (z425.le w425 hd429) (a := 148) (b := 48) (v := 2) (S' := (k_of (k_lx 49))) (k_ck5_sp k_lz_48).1 (k_ck5_sp k_lz_48).2
  have z429 := z425.st a429
  obtain ⟨P429, w429⟩ : ∃ P, k_wd h.2 (h.2 + 70) 146 (k_of (k_lx 49)) P (fun _ => none) [] f429 := ⟨_, w429⟩
  obtain ⟨fs430, hfs430⟩ := w425.ob
  refine x_callv (As := [.int 148, .int 48]) (rest := []) 7387 415609 dL_limits_291 mi_X5_insert ml_L_47 rfl rfl (Nat.le_of_ble_eq_true rfl) ⟨by decide, by decide⟩ (by omega) (by omega) hfs430 rfl (c_X5_insert N _ _ _ _ _ e429) (x_K.some ?_) x_KX.none
  refine x_toX (st' := [.int 2]) rfl ?_
  clear hd429 e429 a429 hfs430 w425 z425
  refine x_iconst 2 (by decide) dL_limits_294 ?_
  refine x_icmp_ne_n 309 dL_limits_295 (by decide) (by decide) ?_
  refine x_aload_n 2 dL_limits_298 rfl rfl ?_
  obtain ⟨q431, St431, bf431, h431, g431⟩ := w429.ci
  have e431 : F_X5_entries N f429 h.2 = some 122 := ((q_entries (N := N) h431).trans (congrArg some tf_371))
  obtain ⟨fs432, hfs432⟩ := w429.ob
  refine x_callv (As := []) (rest := []) 7387 415609 dL_limits_299 mi_X5_entries ml_L_143 rfl rfl (Nat.le_of_ble_eq_true rfl) ⟨by decide, by decide⟩ (by omega) (by omega) hfs432 rfl (c_X5_entries N _ _ _ _ e431) (x_K.some ?_) x_KX.none
  clear h431 g431 e431 hfs432
  refine x_bipush 74 (by decide) dL_limits_302 ?_
  refine x_iload_n 0 dL_limits_304 rfl rfl ?_
  refine x_iadd dL_limits_305 ?_
  refine x_toX (st' := [.int 122, .int 122]) rfl ?_
  refine x_icmp_eq_y 311 dL_limits_306 (by decide) (by decide) ?_
  refine x_iinc 49 (lv' := [(1, .int 49), (2, .int 12), (0, .ref h.2)]) dL_limits_311 0 rfl (by decide) (by decide) rfl ?_
  refine x_goto 279 dL_limits_314 (by decide) ?_
  refine x_iload_n 0 dL_limits_279 rfl rfl ?_
  refine x_bipush 87 (by decide) dL_limits_280 ?_
  refine x_icmp_ge_n 317 dL_limits_282 (by decide) (by decide) ?_
  refine x_aload_n 2 dL_limits_285 rfl rfl ?_
  refine x_bipush 100 (by decide) dL_limits_286 ?_
  refine x_iload_n 0 dL_limits_288 rfl rfl ?_
  refine x_iadd dL_limits_289 ?_
  refine x_toX (st' := [.int 149, .ref h.2]) rfl ?_
  refine x_iload_n 0 dL_limits_290 rfl rfl ?_
  refine x_dom (fun hd433 => ?_)
  obtain ⟨f433, m433, e433, a433, w433⟩ := k_dd5 hN (by omega) w429 hd433 (z429.le w429 hd433) (a := 149) (b := 49) (v := 2) (S' := (k_of (k_lx 50))) (k_ck5_sp k_lz_49).1 (k_ck5_sp k_lz_49).2
  have z433 := z429.st a433
  obtain ⟨P433, w433⟩ : ∃ P, k_wd h.2 (h.2 + 70) 147 (k_of (k_lx 50)) P (fun _ => none) [] f433 := ⟨_, w433⟩
  obtain ⟨fs434, hfs434⟩ := w429.ob
  refine x_callv (As := [.int 149, .int 49]) (rest := []) 7353 413694 dL_limits_291 mi_X5_insert ml_L_47 rfl rfl (Nat.le_of_ble_eq_true rfl) ⟨by decide, by decide⟩ (by omega) (by omega) hfs434 rfl (c_X5_insert N _ _ _ _ _ e433) (x_K.some ?_) x_KX.none
  refine x_toX (st' := [.int 2]) rfl ?_
  clear hd433 e433 a433 hfs434 w429 z429
  refine x_iconst 2 (by decide) dL_limits_294 ?_
  refine x_icmp_ne_n 309 dL_limits_295 (by decide) (by decide) ?_
  refine x_aload_n 2 dL_limits_298 rfl rfl ?_
  obtain ⟨q435, St435, bf435, h435, g435⟩ := w433.ci
  have e435 : F_X5_entries N f433 h.2 = some 123 := ((q_entries (N := N) h435).trans (congrArg some tf_372))
  obtain ⟨fs436, hfs436⟩ := w433.ob
  refine x_callv (As := []) (rest := []) 7353 413694 dL_limits_299 mi_X5_entries ml_L_143 rfl rfl (Nat.le_of_ble_eq_true rfl) ⟨by decide, by decide⟩ (by omega) (by omega) hfs436 rfl (c_X5_entries N _ _ _ _ e435) (x_K.some ?_) x_KX.none
  clear h435 g435 e435 hfs436
  refine x_bipush 74 (by decide) dL_limits_302 ?_
  refine x_iload_n 0 dL_limits_304 rfl rfl ?_
  refine x_iadd dL_limits_305 ?_
  refine x_toX (st' := [.int 123, .int 123]) rfl ?_
  refine x_icmp_eq_y 311 dL_limits_306 (by decide) (by decide) ?_
  refine x_iinc 50 (lv' := [(1, .int 50), (2, .int 12), (0, .ref h.2)]) dL_limits_311 0 rfl (by decide) (by decide) rfl ?_
  refine x_goto 279 dL_limits_314 (by decide) ?_
  refine x_iload_n 0 dL_limits_279 rfl rfl ?_
  refine x_bipush 87 (by decide) dL_limits_280 ?_
  refine x_icmp_ge_n 317 dL_limits_282 (by decide) (by decide) ?_
  refine x_aload_n 2 dL_limits_285 rfl rfl ?_
  refine x_bipush 100 (by decide) dL_limits_286 ?_
  refine x_iload_n 0 dL_limits_288 rfl rfl ?_
  refine x_iadd dL_limits_289 ?_
  refine x_toX (st' := [.int 150, .ref h.2]) rfl ?_
  refine x_iload_n 0 dL_limits_290 rfl rfl ?_
  refine x_dom (fun hd437 => ?_)
  obtain ⟨f437, m437, e437, a437, w437⟩ := k_dd5 hN (by omega) w433 hd437 (z433.le w433 hd437) (a := 150) (b := 50) (v := 2) (S' := (k_of (k_lx 51))) (k_ck5_sp k_lz_50).1 (k_ck5_sp k_lz_50).2
  have z437 := z433.st a437
  obtain ⟨P437, w437⟩ : ∃ P, k_wd h.2 (h.2 + 70) 148 (k_of (k_lx 51)) P (fun _ => none) [] f437 := ⟨_, w437⟩
  obtain ⟨fs438, hfs438⟩ := w433.ob
  refine x_callv (As := [.int 150, .int 50]) (rest := []) 7319 411779 dL_limits_291 mi_X5_insert ml_L_47 rfl rfl (Nat.le_of_ble_eq_true rfl) ⟨by decide, by decide⟩ (by omega) (by omega) hfs438 rfl (c_X5_insert N _ _ _ _ _ e437) (x_K.some ?_) x_KX.none
  refine x_toX (st' := [.int 2]) rfl ?_
  clear hd437 e437 a437 hfs438 w433 z433
  refine x_iconst 2 (by decide) dL_limits_294 ?_
  refine x_icmp_ne_n 309 dL_limits_295 (by decide) (by decide) ?_
  refine x_aload_n 2 dL_limits_298 rfl rfl ?_
  obtain ⟨q439, St439, bf439, h439, g439⟩ := w437.ci
  have e439 : F_X5_entries N f437 h.2 = some 124 := ((q_entries (N := N) h439).trans (congrArg some tf_373))
  obtain ⟨fs440, hfs440⟩ := w437.ob
  refine x_callv (As := []) (rest := []) 7319 411779 dL_limits_299 mi_X5_entries ml_L_143 rfl rfl (Nat.le_of_ble_eq_true rfl) ⟨by decide, by decide⟩ (by omega) (by omega) hfs440 rfl (c_X5_entries N _ _ _ _ e439) (x_K.some ?_) x_KX.none
  clear h439 g439 e439 hfs440
  refine x_bipush 74 (by decide) dL_limits_302 ?_
  refine x_iload_n 0 dL_limits_304 rfl rfl ?_
  refine x_iadd dL_limits_305 ?_
  refine x_toX (st' := [.int 124, .int 124]) rfl ?_
  refine x_icmp_eq_y 311 dL_limits_306 (by decide) (by decide) ?_
  refine x_iinc 51 (lv' := [(1, .int 51), (2, .int 12), (0, .ref h.2)]) dL_limits_311 0 rfl (by decide) (by decide) rfl ?_
  refine x_goto 279 dL_limits_314 (by decide) ?_
  refine x_iload_n 0 dL_limits_279 rfl rfl ?_
  refine x_bipush 87 (by decide) dL_limits_280 ?_
  refine x_icmp_ge_n 317 dL_limits_282 (by decide) (by decide) ?_
  refine x_aload_n 2 dL_limits_285 rfl rfl ?_
  refine x_bipush 100 (by decide) dL_limits_286 ?_
  refine x_iload_n 0 dL_limits_288 rfl rfl ?_
  refine x_iadd dL_limits_289 ?_
  refine x_toX (st' := [.int 151, .ref h.2]) rfl ?_
  refine x_iload_n 0 dL_limits_290 rfl rfl ?_
  refine x_dom (fun hd441 => ?_)
  obtain ⟨f441, m441, e441, a441, w441⟩ := k_dd5 hN (by omega) w437 hd441 (z437.le w437 hd441) (a := 151) (b := 51) (v := 2) (S' := (k_of (k_lx 52))) (k_ck5_sp k_lz_51).1 (k_ck5_sp k_lz_51).2
  have z441 := z437.st a441
  obtain ⟨P441, w441⟩ : ∃ P, k_wd h.2 (h.2 + 70) 149 (k_of (k_lx 52)) P (fun _ => none) [] f441 := ⟨_, w441⟩
  obtain ⟨fs442, hfs442⟩ := w437.ob
  refine x_callv (As := [.int 151, .int 51]) (rest := []) 7285 409864 dL_limits_291 mi_X5_insert ml_L_47 rfl rfl (Nat.le_of_ble_eq_true rfl) ⟨by decide, by decide⟩ (by omega) (by omega) hfs442 rfl (c_X5_insert N _ _ _ _ _ e441) (x_K.some ?_) x_KX.none
  refine x_toX (st' := [.int 2]) rfl ?_
  clear hd441 e441 a441 hfs442 w437 z437
  refine x_iconst 2 (by decide) dL_limits_294 ?_
  refine x_icmp_ne_n 309 dL_limits_295 (by decide) (by decide) ?_
  refine x_aload_n 2 dL_limits_298 rfl rfl ?_
  obtain ⟨q443, St443, bf443, h443, g443⟩ := w441.ci
  have e443 : F_X5_entries N f441 h.2 = some 125 := ((q_entries (N := N) h443).trans (congrArg some tf_374))
  obtain ⟨fs444, hfs444⟩ := w441.ob
  refine x_callv (As := []) (rest := []) 7285 409864 dL_limits_299 mi_X5_entries ml_L_143 rfl rfl (Nat.le_of_ble_eq_true rfl) ⟨by decide, by decide⟩ (by omega) (by omega) hfs444 rfl (c_X5_entries N _ _ _ _ e443) (x_K.some ?_) x_KX.none
  clear h443 g443 e443 hfs444
  refine x_bipush 74 (by decide) dL_limits_302 ?_
  refine x_iload_n 0 dL_limits_304 rfl rfl ?_
  refine x_iadd dL_limits_305 ?_
  refine x_toX (st' := [.int 125, .int 125]) rfl ?_
  refine x_icmp_eq_y 311 dL_limits_306 (by decide) (by decide) ?_
  refine x_iinc 52 (lv' := [(1, .int 52), (2, .int 12), (0, .ref h.2)]) dL_limits_311 0 rfl (by decide) (by decide) rfl ?_
  refine x_goto 279 dL_limits_314 (by decide) ?_
  refine x_iload_n 0 dL_limits_279 rfl rfl ?_
  refine x_bipush 87 (by decide) dL_limits_280 ?_
  refine x_icmp_ge_n 317 dL_limits_282 (by decide) (by decide) ?_
  refine x_aload_n 2 dL_limits_285 rfl rfl ?_
  refine x_bipush 100 (by decide) dL_limits_286 ?_
  refine x_iload_n 0 dL_limits_288 rfl rfl ?_
  refine x_iadd dL_limits_289 ?_
  refine x_toX (st' := [.int 152, .ref h.2]) rfl ?_
  refine x_iload_n 0 dL_limits_290 rfl rfl ?_
  refine x_dom (fun hd445 => ?_)
  obtain ⟨f445, m445, e445, a445, w445⟩ := k_dd5 hN (by omega) w441 hd445 (z441.le w441 hd445) (a := 152) (b := 52) (v := 2) (S' := (k_of (k_lx 53))) (k_ck5_sp k_lz_52).1 (k_ck5_sp k_lz_52).2
  have z445 := z441.st a445
  obtain ⟨P445, w445⟩ : ∃ P, k_wd h.2 (h.2 + 70) 150 (k_of (k_lx 53)) P (fun _ => none) [] f445 := ⟨_, w445⟩
  obtain ⟨fs446, hfs446⟩ := w441.ob
  refine x_callv (As := [.int 152, .int 52]) (rest := []) 7251 407949 dL_limits_291 mi_X5_insert ml_L_47 rfl rfl (Nat.le_of_ble_eq_true rfl) ⟨by decide, by decide⟩ (by omega) (by omega) hfs446 rfl (c_X5_insert N _ _ _ _ _ e445) (x_K.some ?_) x_KX.none
  refine x_toX (st' := [.int 2]) rfl ?_
  clear hd445 e445 a445 hfs446 w441 z441
  refine x_iconst 2 (by decide) dL_limits_294 ?_
  refine x_icmp_ne_n 309 dL_limits_295 (by decide) (by decide) ?_
  refine x_aload_n 2 dL_limits_298 rfl rfl ?_
  obtain ⟨q447, St447, bf447, h447, g447⟩ := w445.ci
  have e447 : F_X5_entries N f445 h.2 = some 126 := ((q_entries (N := N) h447).trans (congrArg some tf_375))
  obtain ⟨fs448, hfs448⟩ := w445.ob
  refine x_callv (As := []) (rest := []) 7251 407949 dL_limits_299 mi_X5_entries ml_L_143 rfl rfl (Nat.le_of_ble_eq_true rfl) ⟨by decide, by decide⟩ (by omega) (by omega) hfs448 rfl (c_X5_entries N _ _ _ _ e447) (x_K.some ?_) x_KX.none
  clear h447 g447 e447 hfs448
  refine x_bipush 74 (by decide) dL_limits_302 ?_
  refine x_iload_n 0 dL_limits_304 rfl rfl ?_
  refine x_iadd dL_limits_305 ?_
  refine x_toX (st' := [.int 126, .int 126]) rfl ?_
  refine x_icmp_eq_y 311 dL_limits_306 (by decide) (by decide) ?_
  refine x_iinc 53 (lv' := [(1, .int 53), (2, .int 12), (0, .ref h.2)]) dL_limits_311 0 rfl (by decide) (by decide) rfl ?_
  refine x_goto 279 dL_limits_314 (by decide) ?_
  refine x_iload_n 0 dL_limits_279 rfl rfl ?_
  refine x_bipush 87 (by decide) dL_limits_280 ?_
  refine x_icmp_ge_n 317 dL_limits_282 (by decide) (by decide) ?_
  refine x_aload_n 2 dL_limits_285 rfl rfl ?_
  refine x_bipush 100 (by decide) dL_limits_286 ?_
  refine x_iload_n 0 dL_limits_288 rfl rfl ?_
  refine x_iadd dL_limits_289 ?_
  refine x_toX (st' := [.int 153, .ref h.2]) rfl ?_
  refine x_iload_n 0 dL_limits_290 rfl rfl ?_
  refine x_dom (fun hd449 => ?_)
  obtain ⟨f449, m449, e449, a449, w449⟩ := k_dd5 hN (by omega) w445 hd449 (z445.le w445 hd449) (a := 153) (b := 53) (v := 2) (S' := (k_of (k_lx 54))) (k_ck5_sp k_lz_53).1 (k_ck5_sp k_lz_53).2
  have z449 := z445.st a449
  obtain ⟨P449, w449⟩ : ∃ P, k_wd h.2 (h.2 + 70) 151 (k_of (k_lx 54)) P (fun _ => none) [] f449 := ⟨_, w449⟩
  obtain ⟨fs450, hfs450⟩ := w445.ob
  refine x_callv (As := [.int 153, .int 53]) (rest := []) 7217 406034 dL_limits_291 mi_X5_insert ml_L_47 rfl rfl (Nat.le_of_ble_eq_true rfl) ⟨by decide, by decide⟩ (by omega) (by omega) hfs450 rfl (c_X5_insert N _ _ _ _ _ e449) (x_K.some ?_) x_KX.none
  refine x_toX (st' := [.int 2]) rfl ?_
  clear hd449 e449 a449 hfs450 w445 z445
  refine x_iconst 2 (by decide) dL_limits_294 ?_
  refine x_icmp_ne_n 309 dL_limits_295 (by decide) (by decide) ?_
  refine x_aload_n 2 dL_limits_298 rfl rfl ?_
  obtain ⟨q451, St451, bf451, h451, g451⟩ := w449.ci
  have e451 : F_X5_entries N f449 h.2 = some 127 := ((q_entries (N := N) h451).trans (congrArg some tf_376))
  obtain ⟨fs452, hfs452⟩ := w449.ob
  refine x_callv (As := []) (rest := []) 7217 406034 dL_limits_299 mi_X5_entries ml_L_143 rfl rfl (Nat.le_of_ble_eq_true rfl) ⟨by decide, by decide⟩ (by omega) (by omega) hfs452 rfl (c_X5_entries N _ _ _ _ e451) (x_K.some ?_) x_KX.none
  clear h451 g451 e451 hfs452
  refine x_bipush 74 (by decide) dL_limits_302 ?_
  refine x_iload_n 0 dL_limits_304 rfl rfl ?_
  refine x_iadd dL_limits_305 ?_
  refine x_toX (st' := [.int 127, .int 127]) rfl ?_
  refine x_icmp_eq_y 311 dL_limits_306 (by decide) (by decide) ?_
  refine x_iinc 54 (lv' := [(1, .int 54), (2, .int 12), (0, .ref h.2)]) dL_limits_311 0 rfl (by decide) (by decide) rfl ?_
  refine x_goto 279 dL_limits_314 (by decide) ?_
  refine x_iload_n 0 dL_limits_279 rfl rfl ?_
  refine x_bipush 87 (by decide) dL_limits_280 ?_
  refine x_icmp_ge_n 317 dL_limits_282 (by decide) (by decide) ?_
  refine x_aload_n 2 dL_limits_285 rfl rfl ?_
  refine x_bipush 100 (by decide) dL_limits_286 ?_
  refine x_iload_n 0 dL_limits_288 rfl rfl ?_
  refine x_iadd dL_limits_289 ?_
  refine x_toX (st' := [.int 154, .ref h.2]) rfl ?_
  refine x_iload_n 0 dL_limits_290 rfl rfl ?_
  refine x_dom (fun hd453 => ?_)
  obtain ⟨f453, m453, e453, a453, w453⟩ := k_dd5 hN (by omega) w449 hd453 (z449.le w449 hd453) (a := 154) (b := 54) (v := 2) (S' := (k_of (k_lx 55))) (k_ck5_sp k_lz_54).1 (k_ck5_sp k_lz_54).2
  have z453 := z449.st a453
  obtain ⟨P453, w453⟩ : ∃ P, k_wd h.2 (h.2 + 70) 152 (k_of (k_lx 55)) P (fun _ => none) [] f453 := ⟨_, w453⟩
  obtain ⟨fs454, hfs454⟩ := w449.ob
  refine x_callv (As := [.int 154, .int 54]) (rest := []) 7183 404119 dL_limits_291 mi_X5_insert ml_L_47 rfl rfl (Nat.le_of_ble_eq_true rfl) ⟨by decide, by decide⟩ (by omega) (by omega) hfs454 rfl (c_X5_insert N _ _ _ _ _ e453) (x_K.some ?_) x_KX.none
  refine x_toX (st' := [.int 2]) rfl ?_
  clear hd453 e453 a453 hfs454 w449 z449
  refine x_iconst 2 (by decide) dL_limits_294 ?_
  refine x_icmp_ne_n 309 dL_limits_295 (by decide) (by decide) ?_
  refine x_aload_n 2 dL_limits_298 rfl rfl ?_
  obtain ⟨q455, St455, bf455, h455, g455⟩ := w453.ci
  have e455 : F_X5_entries N f453 h.2 = some 128 := ((q_entries (N := N) h455).trans (congrArg some tf_377))
  obtain ⟨fs456, hfs456⟩ := w453.ob
  refine x_callv (As := []) (rest := []) 7183 404119 dL_limits_299 mi_X5_entries ml_L_143 rfl rfl (Nat.le_of_ble_eq_true rfl) ⟨by decide, by decide⟩ (by omega) (by omega) hfs456 rfl (c_X5_entries N _ _ _ _ e455) (x_K.some ?_) x_KX.none
  clear h455 g455 e455 hfs456
  refine x_bipush 74 (by decide) dL_limits_302 ?_
  refine x_iload_n 0 dL_limits_304 rfl rfl ?_
  refine x_iadd dL_limits_305 ?_
  refine x_toX (st' := [.int 128, .int 128]) rfl ?_
  refine x_icmp_eq_y 311 dL_limits_306 (by decide) (by decide) ?_
  refine x_iinc 55 (lv' := [(1, .int 55), (2, .int 12), (0, .ref h.2)]) dL_limits_311 0 rfl (by decide) (by decide) rfl ?_
  refine x_goto 279 dL_limits_314 (by decide) ?_
  refine x_iload_n 0 dL_limits_279 rfl rfl ?_
  refine x_bipush 87 (by decide) dL_limits_280 ?_
  refine x_icmp_ge_n 317 dL_limits_282 (by decide) (by decide) ?_
  refine x_aload_n 2 dL_limits_285 rfl rfl ?_
  refine x_bipush 100 (by decide) dL_limits_286 ?_
  refine x_iload_n 0 dL_limits_288 rfl rfl ?_
  refine x_iadd dL_limits_289 ?_
  refine x_toX (st' := [.int 155, .ref h.2]) rfl ?_
  refine x_iload_n 0 dL_limits_290 rfl rfl ?_
  refine x_dom (fun hd457 => ?_)
  obtain ⟨f457, m457, e457, a457, w457⟩ := k_dd5 hN (by omega) w453 hd457 (z453.le w453 hd457) (a := 155) (b := 55) (v := 2) (S' := (k_of (k_lx 56))) (k_ck5_sp k_lz_55).1 (k_ck5_sp k_lz_55).2
  have z457 := z453.st a457
  obtain ⟨P457, w457⟩ : ∃ P, k_wd h.2 (h.2 + 70) 153 (k_of (k_lx 56)) P (fun _ => none) [] f457 := ⟨_, w457⟩
  obtain ⟨fs458, hfs458⟩ := w453.ob
  refine x_callv (As := [.int 155, .int 55]) (rest := []) 7149 402204 dL_limits_291 mi_X5_insert ml_L_47 rfl rfl (Nat.le_of_ble_eq_true rfl) ⟨by decide, by decide⟩ (by omega) (by omega) hfs458 rfl (c_X5_insert N _ _ _ _ _ e457) (x_K.some ?_) x_KX.none
  refine x_toX (st' := [.int 2]) rfl ?_
  clear hd457 e457 a457 hfs458 w453 z453
  refine x_iconst 2 (by decide) dL_limits_294 ?_
  refine x_icmp_ne_n 309 dL_limits_295 (by decide) (by decide) ?_
  refine x_aload_n 2 dL_limits_298 rfl rfl ?_
  obtain ⟨q459, St459, bf459, h459, g459⟩ := w457.ci
  have e459 : F_X5_entries N f457 h.2 = some 129 := ((q_entries (N := N) h459).trans (congrArg some tf_378))
  obtain ⟨fs460, hfs460⟩ := w457.ob
  refine x_callv (As := []) (rest := []) 7149 402204 dL_limits_299 mi_X5_entries ml_L_143 rfl rfl (Nat.le_of_ble_eq_true rfl) ⟨by decide, by decide⟩ (by omega) (by omega) hfs460 rfl (c_X5_entries N _ _ _ _ e459) (x_K.some ?_) x_KX.none
  clear h459 g459 e459 hfs460
  refine x_bipush 74 (by decide) dL_limits_302 ?_
  refine x_iload_n 0 dL_limits_304 rfl rfl ?_
  refine x_iadd dL_limits_305 ?_
  refine x_toX (st' := [.int 129, .int 129]) rfl ?_
  refine x_icmp_eq_y 311 dL_limits_306 (by decide) (by decide) ?_
  refine x_iinc 56 (lv' := [(1, .int 56), (2, .int 12), (0, .ref h.2)]) dL_limits_311 0 rfl (by decide) (by decide) rfl ?_
  refine x_goto 279 dL_limits_314 (by decide) ?_
  refine x_iload_n 0 dL_limits_279 rfl rfl ?_
  refine x_bipush 87 (by decide) dL_limits_280 ?_
  refine x_icmp_ge_n 317 dL_limits_282 (by decide) (by decide) ?_
  refine x_aload_n 2 dL_limits_285 rfl rfl ?_
  refine x_bipush 100 (by decide) dL_limits_286 ?_
  refine x_iload_n 0 dL_limits_288 rfl rfl ?_
  refine x_iadd dL_limits_289 ?_
  refine x_toX (st' := [.int 156, .ref h.2]) rfl ?_
  refine x_iload_n 0 dL_limits_290 rfl rfl ?_
  refine x_dom (fun hd461 => ?_)
  obtain ⟨f461, m461, e461, a461, w461⟩ := k_dd5 hN (by omega) w457 hd461 (z457.le w457 hd461) (a := 156) (b := 56) (v := 2) (S' := (k_of (k_lx 57))) (k_ck5_sp k_lz_56).1 (k_ck5_sp k_lz_56).2
  have z461 := z457.st a461
  obtain ⟨P461, w461⟩ : ∃ P, k_wd h.2 (h.2 + 70) 154 (k_of (k_lx 57)) P (fun _ => none) [] f461 := ⟨_, w461⟩
  obtain ⟨fs462, hfs462⟩ := w457.ob
  refine x_callv (As := [.int 156, .int 56]) (rest := []) 7115 400289 dL_limits_291 mi_X5_insert ml_L_47 rfl rfl (Nat.le_of_ble_eq_true rfl) ⟨by decide, by decide⟩ (by omega) (by omega) hfs462 rfl (c_X5_insert N _ _ _ _ _ e461) (x_K.some ?_) x_KX.none
  refine x_toX (st' := [.int 2]) rfl ?_
  clear hd461 e461 a461 hfs462 w457 z457
  refine x_iconst 2 (by decide) dL_limits_294 ?_
  refine x_icmp_ne_n 309 dL_limits_295 (by decide) (by decide) ?_
  refine x_aload_n 2 dL_limits_298 rfl rfl ?_
  obtain ⟨q463, St463, bf463, h463, g463⟩ := w461.ci
  have e463 : F_X5_entries N f461 h.2 = some 130 := ((q_entries (N := N) h463).trans (congrArg some tf_379))
  obtain ⟨fs464, hfs464⟩ := w461.ob
  refine x_callv (As := []) (rest := []) 7115 400289 dL_limits_299 mi_X5_entries ml_L_143 rfl rfl (Nat.le_of_ble_eq_true rfl) ⟨by decide, by decide⟩ (by omega) (by omega) hfs464 rfl (c_X5_entries N _ _ _ _ e463) (x_K.some ?_) x_KX.none
  clear h463 g463 e463 hfs464
  refine x_bipush 74 (by decide) dL_limits_302 ?_
  refine x_iload_n 0 dL_limits_304 rfl rfl ?_
  refine x_iadd dL_limits_305 ?_
  refine x_toX (st' := [.int 130, .int 130]) rfl ?_
  refine x_icmp_eq_y 311 dL_limits_306 (by decide) (by decide) ?_
  refine x_iinc 57 (lv' := [(1, .int 57), (2, .int 12), (0, .ref h.2)]) dL_limits_311 0 rfl (by decide) (by decide) rfl ?_
  refine x_goto 279 dL_limits_314 (by decide) ?_
  refine x_iload_n 0 dL_limits_279 rfl rfl ?_
  refine x_bipush 87 (by decide) dL_limits_280 ?_
  refine x_icmp_ge_n 317 dL_limits_282 (by decide) (by decide) ?_
  refine x_aload_n 2 dL_limits_285 rfl rfl ?_
  refine x_bipush 100 (by decide) dL_limits_286 ?_
  refine x_iload_n 0 dL_limits_288 rfl rfl ?_
  refine x_iadd dL_limits_289 ?_
  refine x_toX (st' := [.int 157, .ref h.2]) rfl ?_
  refine x_iload_n 0 dL_limits_290 rfl rfl ?_
  refine x_dom (fun hd465 => ?_)
  obtain ⟨f465, m465, e465, a465, w465⟩ := k_dd5 hN (by omega) w461 hd465 (z461.le w461 hd465) (a := 157) (b := 57) (v := 2) (S' := (k_of (k_lx 58))) (k_ck5_sp k_lz_57).1 (k_ck5_sp k_lz_57).2
  have z465 := z461.st a465
  obtain ⟨P465, w465⟩ : ∃ P, k_wd h.2 (h.2 + 70) 155 (k_of (k_lx 58)) P (fun _ => none) [] f465 := ⟨_, w465⟩
  obtain ⟨fs466, hfs466⟩ := w461.ob
  refine x_callv (As := [.int 157, .int 57]) (rest := []) 7081 398374 dL_limits_291 mi_X5_insert ml_L_47 rfl rfl (Nat.le_of_ble_eq_true rfl) ⟨by decide, by decide⟩ (by omega) (by omega) hfs466 rfl (c_X5_insert N _ _ _ _ _ e465) (x_K.some ?_) x_KX.none
  refine x_toX (st' := [.int 2]) rfl ?_
  clear hd465 e465 a465 hfs466 w461 z461
  refine x_iconst 2 (by decide) dL_limits_294 ?_
  refine x_icmp_ne_n 309 dL_limits_295 (by decide) (by decide) ?_
  refine x_aload_n 2 dL_limits_298 rfl rfl ?_
  obtain ⟨q467, St467, bf467, h467, g467⟩ := w465.ci
  have e467 : F_X5_entries N f465 h.2 = some 131 := ((q_entries (N := N) h467).trans (congrArg some tf_380))
  obtain ⟨fs468, hfs468⟩ := w465.ob
  refine x_callv (As := []) (rest := []) 7081 398374 dL_limits_299 mi_X5_entries ml_L_143 rfl rfl (Nat.le_of_ble_eq_true rfl) ⟨by decide, by decide⟩ (by omega) (by omega) hfs468 rfl (c_X5_entries N _ _ _ _ e467) (x_K.some ?_) x_KX.none
  clear h467 g467 e467 hfs468
  refine x_bipush 74 (by decide) dL_limits_302 ?_
  refine x_iload_n 0 dL_limits_304 rfl rfl ?_
  refine x_iadd dL_limits_305 ?_
  refine x_toX (st' := [.int 131, .int 131]) rfl ?_
  refine x_icmp_eq_y 311 dL_limits_306 (by decide) (by decide) ?_
  refine x_iinc 58 (lv' := [(1, .int 58), (2, .int 12), (0, .ref h.2)]) dL_limits_311 0 rfl (by decide) (by decide) rfl ?_
  refine x_goto 279 dL_limits_314 (by decide) ?_
  refine x_iload_n 0 dL_limits_279 rfl rfl ?_
  refine x_bipush 87 (by decide) dL_limits_280 ?_
  refine x_icmp_ge_n 317 dL_limits_282 (by decide) (by decide) ?_
  refine x_aload_n 2 dL_limits_285 rfl rfl ?_
  refine x_bipush 100 (by decide) dL_limits_286 ?_
  refine x_iload_n 0 dL_limits_288 rfl rfl ?_
  refine x_iadd dL_limits_289 ?_
  refine x_toX (st' := [.int 158, .ref h.2]) rfl ?_
  refine x_iload_n 0 dL_limits_290 rfl rfl ?_
  refine x_dom (fun hd469 => ?_)
  obtain ⟨f469, m469, e469, a469, w469⟩ := k_dd5 hN (by omega) w465 hd469 (z465.le w465 hd469) (a := 158) (b := 58) (v := 2) (S' := (k_of (k_lx 59))) (k_ck5_sp k_lz_58).1 (k_ck5_sp k_lz_58).2
  have z469 := z465.st a469
  obtain ⟨P469, w469⟩ : ∃ P, k_wd h.2 (h.2 + 70) 156 (k_of (k_lx 59)) P (fun _ => none) [] f469 := ⟨_, w469⟩
  obtain ⟨fs470, hfs470⟩ := w465.ob
  refine x_callv (As := [.int 158, .int 58]) (rest := []) 7047 396459 dL_limits_291 mi_X5_insert ml_L_47 rfl rfl (Nat.le_of_ble_eq_true rfl) ⟨by decide, by decide⟩ (by omega) (by omega) hfs470 rfl (c_X5_insert N _ _ _ _ _ e469) (x_K.some ?_) x_KX.none
  refine x_toX (st' := [.int 2]) rfl ?_
  clear hd469 e469 a469 hfs470 w465 z465
  refine x_iconst 2 (by decide) dL_limits_294 ?_
  refine x_icmp_ne_n 309 dL_limits_295 (by decide) (by decide) ?_
  refine x_aload_n 2 dL_limits_298 rfl rfl ?_
  obtain ⟨q471, St471, bf471, h471, g471⟩ := w469.ci
  have e471 : F_X5_entries N f469 h.2 = some 132 := ((q_entries (N := N) h471).trans (congrArg some tf_381))
  obtain ⟨fs472, hfs472⟩ := w469.ob
  refine x_callv (As := []) (rest := []) 7047 396459 dL_limits_299 mi_X5_entries ml_L_143 rfl rfl (Nat.le_of_ble_eq_true rfl) ⟨by decide, by decide⟩ (by omega) (by omega) hfs472 rfl (c_X5_entries N _ _ _ _ e471) (x_K.some ?_) x_KX.none
  clear h471 g471 e471 hfs472
  refine x_bipush 74 (by decide) dL_limits_302 ?_
  refine x_iload_n 0 dL_limits_304 rfl rfl ?_
  refine x_iadd dL_limits_305 ?_
  refine x_toX (st' := [.int 132, .int 132]) rfl ?_
  refine x_icmp_eq_y 311 dL_limits_306 (by decide) (by decide) ?_
  refine x_iinc 59 (lv' := [(1, .int 59), (2, .int 12), (0, .ref h.2)]) dL_limits_311 0 rfl (by decide) (by decide) rfl ?_
  refine x_goto 279 dL_limits_314 (by decide) ?_
  refine x_iload_n 0 dL_limits_279 rfl rfl ?_
  refine x_bipush 87 (by decide) dL_limits_280 ?_
  refine x_icmp_ge_n 317 dL_limits_282 (by decide) (by decide) ?_
  refine x_aload_n 2 dL_limits_285 rfl rfl ?_
  refine x_bipush 100 (by decide) dL_limits_286 ?_
  refine x_iload_n 0 dL_limits_288 rfl rfl ?_
  refine x_iadd dL_limits_289 ?_
  refine x_toX (st' := [.int 159, .ref h.2]) rfl ?_
  refine x_iload_n 0 dL_limits_290 rfl rfl ?_
  refine x_dom (fun hd473 => ?_)
  obtain ⟨f473, m473, e473, a473, w473⟩ := k_dd5 hN (by omega) w469 hd473 (z469.le w469 hd473) (a := 159) (b := 59) (v := 2) (S' := (k_of (k_lx 60))) (k_ck5_sp k_lz_59).1 (k_ck5_sp k_lz_59).2
  have z473 := z469.st a473
  obtain ⟨P473, w473⟩ : ∃ P, k_wd h.2 (h.2 + 70) 157 (k_of (k_lx 60)) P (fun _ => none) [] f473 := ⟨_, w473⟩
  obtain ⟨fs474, hfs474⟩ := w469.ob
  refine x_callv (As := [.int 159, .int 59]) (rest := []) 7013 394544 dL_limits_291 mi_X5_insert ml_L_47 rfl rfl (Nat.le_of_ble_eq_true rfl) ⟨by decide, by decide⟩ (by omega) (by omega) hfs474 rfl (c_X5_insert N _ _ _ _ _ e473) (x_K.some ?_) x_KX.none
  refine x_toX (st' := [.int 2]) rfl ?_
  clear hd473 e473 a473 hfs474 w469 z469
  refine x_iconst 2 (by decide) dL_limits_294 ?_
  refine x_icmp_ne_n 309 dL_limits_295 (by decide) (by decide) ?_
  refine x_aload_n 2 dL_limits_298 rfl rfl ?_
  obtain ⟨q475, St475, bf475, h475, g475⟩ := w473.ci
  have e475 : F_X5_entries N f473 h.2 = some 133 := ((q_entries (N := N) h475).trans (congrArg some tf_382))
  obtain ⟨fs476, hfs476⟩ := w473.ob
  refine x_callv (As := []) (rest := []) 7013 394544 dL_limits_299 mi_X5_entries ml_L_143 rfl rfl (Nat.le_of_ble_eq_true rfl) ⟨by decide, by decide⟩ (by omega) (by omega) hfs476 rfl (c_X5_entries N _ _ _ _ e475) (x_K.some ?_) x_KX.none
  clear h475 g475 e475 hfs476
  refine x_bipush 74 (by decide) dL_limits_302 ?_
  refine x_iload_n 0 dL_limits_304 rfl rfl ?_
  refine x_iadd dL_limits_305 ?_
  refine x_toX (st' := [.int 133, .int 133]) rfl ?_
  refine x_icmp_eq_y 311 dL_limits_306 (by decide) (by decide) ?_
  refine x_iinc 60 (lv' := [(1, .int 60), (2, .int 12), (0, .ref h.2)]) dL_limits_311 0 rfl (by decide) (by decide) rfl ?_
  refine x_goto 279 dL_limits_314 (by decide) ?_
  refine x_iload_n 0 dL_limits_279 rfl rfl ?_
  refine x_bipush 87 (by decide) dL_limits_280 ?_
  refine x_icmp_ge_n 317 dL_limits_282 (by decide) (by decide) ?_
  refine x_aload_n 2 dL_limits_285 rfl rfl ?_
  refine x_bipush 100 (by decide) dL_limits_286 ?_
  refine x_iload_n 0 dL_limits_288 rfl rfl ?_
  refine x_iadd dL_limits_289 ?_
  refine x_toX (st' := [.int 160, .ref h.2]) rfl ?_
  refine x_iload_n 0 dL_limits_290 rfl rfl ?_
  refine x_dom (fun hd477 => ?_)
  obtain ⟨f477, m477, e477, a477, w477⟩ := k_dd5 hN (by omega) w473 hd477 (z473.le w473 hd477) (a := 160) (b := 60) (v := 2) (S' := (k_of (k_lx 61))) (k_ck5_sp k_lz_60).1 (k_ck5_sp k_lz_60).2
  have z477 := z473.st a477
  obtain ⟨P477, w477⟩ : ∃ P, k_wd h.2 (h.2 + 70) 158 (k_of (k_lx 61)) P (fun _ => none) [] f477 := ⟨_, w477⟩
  obtain ⟨fs478, hfs478⟩ := w473.ob
  refine x_callv (As := [.int 160, .int 60]) (rest := []) 6979 392629 dL_limits_291 mi_X5_insert ml_L_47 rfl rfl (Nat.le_of_ble_eq_true rfl) ⟨by decide, by decide⟩ (by omega) (by omega) hfs478 rfl (c_X5_insert N _ _ _ _ _ e477) (x_K.some ?_) x_KX.none
  refine x_toX (st' := [.int 2]) rfl ?_
  clear hd477 e477 a477 hfs478 w473 z473
  refine x_iconst 2 (by decide) dL_limits_294 ?_
  refine x_icmp_ne_n 309 dL_limits_295 (by decide) (by decide) ?_
  refine x_aload_n 2 dL_limits_298 rfl rfl ?_
  obtain ⟨q479, St479, bf479, h479, g479⟩ := w477.ci
  have e479 : F_X5_entries N f477 h.2 = some 134 := ((q_entries (N := N) h479).trans (congrArg some tf_383))
  obtain ⟨fs480, hfs480⟩ := w477.ob
  refine x_callv (As := []) (rest := []) 6979 392629 dL_limits_299 mi_X5_entries ml_L_143 rfl rfl (Nat.le_of_ble_eq_true rfl) ⟨by decide, by decide⟩ (by omega) (by omega) hfs480 rfl (c_X5_entries N _ _ _ _ e479) (x_K.some ?_) x_KX.none
  clear h479 g479 e479 hfs480
  refine x_bipush 74 (by decide) dL_limits_302 ?_
  refine x_iload_n 0 dL_limits_304 rfl rfl ?_
  refine x_iadd dL_limits_305 ?_
  refine x_toX (st' := [.int 134, .int 134]) rfl ?_
  refine x_icmp_eq_y 311 dL_limits_306 (by decide) (by decide) ?_
  refine x_iinc 61 (lv' := [(1, .int 61), (2, .int 12), (0, .ref h.2)]) dL_limits_311 0 rfl (by decide) (by decide) rfl ?_
  refine x_goto 279 dL_limits_314 (by decide) ?_
  refine x_iload_n 0 dL_limits_279 rfl rfl ?_
  refine x_bipush 87 (by decide) dL_limits_280 ?_
  refine x_icmp_ge_n 317 dL_limits_282 (by decide) (by decide) ?_
  refine x_aload_n 2 dL_limits_285 rfl rfl ?_
  refine x_bipush 100 (by decide) dL_limits_286 ?_
  refine x_iload_n 0 dL_limits_288 rfl rfl ?_
  refine x_iadd dL_limits_289 ?_
  refine x_toX (st' := [.int 161, .ref h.2]) rfl ?_
  refine x_iload_n 0 dL_limits_290 rfl rfl ?_
  refine x_dom (fun hd481 => ?_)
  obtain ⟨f481, m481, e481, a481, w481⟩ := k_dd5 hN (by omega) w477 hd481 (z477.le w477 hd481) (a := 161) (b := 61) (v := 2) (S' := (k_of (k_lx 62))) (k_ck5_sp k_lz_61).1 (k_ck5_sp k_lz_61).2
  have z481 := z477.st a481
  obtain ⟨P481, w481⟩ : ∃ P, k_wd h.2 (h.2 + 70) 159 (k_of (k_lx 62)) P (fun _ => none) [] f481 := ⟨_, w481⟩
  obtain ⟨fs482, hfs482⟩ := w477.ob
  refine x_callv (As := [.int 161, .int 61]) (rest := []) 6945 390714 dL_limits_291 mi_X5_insert ml_L_47 rfl rfl (Nat.le_of_ble_eq_true rfl) ⟨by decide, by decide⟩ (by omega) (by omega) hfs482 rfl (c_X5_insert N _ _ _ _ _ e481) (x_K.some ?_) x_KX.none
  refine x_toX (st' := [.int 2]) rfl ?_
  clear hd481 e481 a481 hfs482 w477 z477
  refine x_iconst 2 (by decide) dL_limits_294 ?_
  refine x_icmp_ne_n 309 dL_limits_295 (by decide) (by decide) ?_
  refine x_aload_n 2 dL_limits_298 rfl rfl ?_
  obtain ⟨q483, St483, bf483, h483, g483⟩ := w481.ci
  have e483 : F_X5_entries N f481 h.2 = some 135 := ((q_entries (N := N) h483).trans (congrArg some tf_384))
  obtain ⟨fs484, hfs484⟩ := w481.ob
  refine x_callv (As := []) (rest := []) 6945 390714 dL_limits_299 mi_X5_entries ml_L_143 rfl rfl (Nat.le_of_ble_eq_true rfl) ⟨by decide, by decide⟩ (by omega) (by omega) hfs484 rfl (c_X5_entries N _ _ _ _ e483) (x_K.some ?_) x_KX.none
  clear h483 g483 e483 hfs484
  refine x_bipush 74 (by decide) dL_limits_302 ?_
  refine x_iload_n 0 dL_limits_304 rfl rfl ?_
  refine x_iadd dL_limits_305 ?_
  refine x_toX (st' := [.int 135, .int 135]) rfl ?_
  refine x_icmp_eq_y 311 dL_limits_306 (by decide) (by decide) ?_
  refine x_iinc 62 (lv' := [(1, .int 62), (2, .int 12), (0, .ref h.2)]) dL_limits_311 0 rfl (by decide) (by decide) rfl ?_
  refine x_goto 279 dL_limits_314 (by decide) ?_
  refine x_iload_n 0 dL_limits_279 rfl rfl ?_
  refine x_bipush 87 (by decide) dL_limits_280 ?_
  refine x_icmp_ge_n 317 dL_limits_282 (by decide) (by decide) ?_
  refine x_aload_n 2 dL_limits_285 rfl rfl ?_
  refine x_bipush 100 (by decide) dL_limits_286 ?_
  refine x_iload_n 0 dL_limits_288 rfl rfl ?_
  refine x_iadd dL_limits_289 ?_
  refine x_toX (st' := [.int 162, .ref h.2]) rfl ?_
  refine x_iload_n 0 dL_limits_290 rfl rfl ?_
  refine x_dom (fun hd485 => ?_)
  obtain ⟨f485, m485, e485, a485, w485⟩ := k_dd5 hN (by omega) w481 hd485 (z481.le w481 hd485) (a := 162) (b := 62) (v := 2) (S' := (k_of (k_lx 63))) (k_ck5_sp k_lz_62).1 (k_ck5_sp k_lz_62).2
  have z485 := z481.st a485
  obtain ⟨P485, w485⟩ : ∃ P, k_wd h.2 (h.2 + 70) 160 (k_of (k_lx 63)) P (fun _ => none) [] f485 := ⟨_, w485⟩
  obtain ⟨fs486, hfs486⟩ := w481.ob
  refine x_callv (As := [.int 162, .int 62]) (rest := []) 6911 388799 dL_limits_291 mi_X5_insert ml_L_47 rfl rfl (Nat.le_of_ble_eq_true rfl) ⟨by decide, by decide⟩ (by omega) (by omega) hfs486 rfl (c_X5_insert N _ _ _ _ _ e485) (x_K.some ?_) x_KX.none
  refine x_toX (st' := [.int 2]) rfl ?_
  clear hd485 e485 a485 hfs486 w481 z481
  refine x_iconst 2 (by decide) dL_limits_294 ?_
  refine x_icmp_ne_n 309 dL_limits_295 (by decide) (by decide) ?_
  refine x_aload_n 2 dL_limits_298 rfl rfl ?_
  obtain ⟨q487, St487, bf487, h487, g487⟩ := w485.ci
  have e487 : F_X5_entries N f485 h.2 = some 136 := ((q_entries (N := N) h487).trans (congrArg some tf_385))
  obtain ⟨fs488, hfs488⟩ := w485.ob
  refine x_callv (As := []) (rest := []) 6911 388799 dL_limits_299 mi_X5_entries ml_L_143 rfl rfl (Nat.le_of_ble_eq_true rfl) ⟨by decide, by decide⟩ (by omega) (by omega) hfs488 rfl (c_X5_entries N _ _ _ _ e487) (x_K.some ?_) x_KX.none
  clear h487 g487 e487 hfs488
  refine x_bipush 74 (by decide) dL_limits_302 ?_
  refine x_iload_n 0 dL_limits_304 rfl rfl ?_
  refine x_iadd dL_limits_305 ?_
  refine x_toX (st' := [.int 136, .int 136]) rfl ?_
  refine x_icmp_eq_y 311 dL_limits_306 (by decide) (by decide) ?_
  refine x_iinc 63 (lv' := [(1, .int 63), (2, .int 12), (0, .ref h.2)]) dL_limits_311 0 rfl (by decide) (by decide) rfl ?_
  refine x_goto 279 dL_limits_314 (by decide) ?_
  refine x_iload_n 0 dL_limits_279 rfl rfl ?_
  refine x_bipush 87 (by decide) dL_limits_280 ?_
  refine x_icmp_ge_n 317 dL_limits_282 (by decide) (by decide) ?_
  refine x_aload_n 2 dL_limits_285 rfl rfl ?_
  refine x_bipush 100 (by decide) dL_limits_286 ?_
  refine x_iload_n 0 dL_limits_288 rfl rfl ?_
  refine x_iadd dL_limits_289 ?_
  refine x_toX (st' := [.int 163, .ref h.2]) rfl ?_
  refine x_iload_n 0 dL_limits_290 rfl rfl ?_
  refine x_dom (fun hd489 => ?_)
  obtain ⟨f489, m489, e489, a489, w489⟩ := k_dd5 hN (by omega) w485 hd489 (z485.le w485 hd489) (a := 163) (b := 63) (v := 2) (S' := (k_of (k_lx 64))) (k_ck5_sp k_lz_63).1 (k_ck5_sp k_lz_63).2
  have z489 := z485.st a489
  obtain ⟨P489, w489⟩ : ∃ P, k_wd h.2 (h.2 + 70) 161 (k_of (k_lx 64)) P (fun _ => none) [] f489 := ⟨_, w489⟩
  obtain ⟨fs490, hfs490⟩ := w485.ob
  refine x_callv (As := [.int 163, .int 63]) (rest := []) 6877 386884 dL_limits_291 mi_X5_insert ml_L_47 rfl rfl (Nat.le_of_ble_eq_true rfl) ⟨by decide, by decide⟩ (by omega) (by omega) hfs490 rfl (c_X5_insert N _ _ _ _ _ e489) (x_K.some ?_) x_KX.none
  refine x_toX (st' := [.int 2]) rfl ?_
  clear hd489 e489 a489 hfs490 w485 z485
  refine x_iconst 2 (by decide) dL_limits_294 ?_
  refine x_icmp_ne_n 309 dL_limits_295 (by decide) (by decide) ?_
  refine x_aload_n 2 dL_limits_298 rfl rfl ?_
  obtain ⟨q491, St491, bf491, h491, g491⟩ := w489.ci
  have e491 : F_X5_entries N f489 h.2 = some 137 := ((q_entries (N := N) h491).trans (congrArg some tf_386))
  obtain ⟨fs492, hfs492⟩ := w489.ob
  refine x_callv (As := []) (rest := []) 6877 386884 dL_limits_299 mi_X5_entries ml_L_143 rfl rfl (Nat.le_of_ble_eq_true rfl) ⟨by decide, by decide⟩ (by omega) (by omega) hfs492 rfl (c_X5_entries N _ _ _ _ e491) (x_K.some ?_) x_KX.none
  clear h491 g491 e491 hfs492
  refine x_bipush 74 (by decide) dL_limits_302 ?_
  refine x_iload_n 0 dL_limits_304 rfl rfl ?_
  refine x_iadd dL_limits_305 ?_
  refine x_toX (st' := [.int 137, .int 137]) rfl ?_
  refine x_icmp_eq_y 311 dL_limits_306 (by decide) (by decide) ?_
  refine x_iinc 64 (lv' := [(1, .int 64), (2, .int 12), (0, .ref h.2)]) dL_limits_311 0 rfl (by decide) (by decide) rfl ?_
  refine x_goto 279 dL_limits_314 (by decide) ?_
  refine x_iload_n 0 dL_limits_279 rfl rfl ?_
  refine x_bipush 87 (by decide) dL_limits_280 ?_
  refine x_icmp_ge_n 317 dL_limits_282 (by decide) (by decide) ?_
  refine x_aload_n 2 dL_limits_285 rfl rfl ?_
  refine x_bipush 100 (by decide) dL_limits_286 ?_
  refine x_iload_n 0 dL_limits_288 rfl rfl ?_
  refine x_iadd dL_limits_289 ?_
  refine x_toX (st' := [.int 164, .ref h.2]) rfl ?_
  refine x_iload_n 0 dL_limits_290 rfl rfl ?_
  refine x_dom (fun hd493 => ?_)
  obtain ⟨f493, m493, e493, a493, w493⟩ := k_dd5 hN (by omega) w489 hd493 (z489.le w489 hd493) (a := 164) (b := 64) (v := 2) (S' := (k_of (k_lx 65))) (k_ck5_sp k_lz_64).1 (k_ck5_sp k_lz_64).2
  have z493 := z489.st a493
  obtain ⟨P493, w493⟩ : ∃ P, k_wd h.2 (h.2 + 70) 162 (k_of (k_lx 65)) P (fun _ => none) [] f493 := ⟨_, w493⟩
  obtain ⟨fs494, hfs494⟩ := w489.ob
  refine x_callv (As := [.int 164, .int 64]) (rest := []) 6843 384969 dL_limits_291 mi_X5_insert ml_L_47 rfl rfl (Nat.le_of_ble_eq_true rfl) ⟨by decide, by decide⟩ (by omega) (by omega) hfs494 rfl (c_X5_insert N _ _ _ _ _ e493) (x_K.some ?_) x_KX.none
  refine x_toX (st' := [.int 2]) rfl ?_
  clear hd493 e493 a493 hfs494 w489 z489
  refine x_iconst 2 (by decide) dL_limits_294 ?_
  refine x_icmp_ne_n 309 dL_limits_295 (by decide) (by decide) ?_
  refine x_aload_n 2 dL_limits_298 rfl rfl ?_
  obtain ⟨q495, St495, bf495, h495, g495⟩ := w493.ci
  have e495 : F_X5_entries N f493 h.2 = some 138 := ((q_entries (N := N) h495).trans (congrArg some tf_387))
  obtain ⟨fs496, hfs496⟩ := w493.ob
  refine x_callv (As := []) (rest := []) 6843 384969 dL_limits_299 mi_X5_entries ml_L_143 rfl rfl (Nat.le_of_ble_eq_true rfl) ⟨by decide, by decide⟩ (by omega) (by omega) hfs496 rfl (c_X5_entries N _ _ _ _ e495) (x_K.some ?_) x_KX.none
  clear h495 g495 e495 hfs496
  refine x_bipush 74 (by decide) dL_limits_302 ?_
  refine x_iload_n 0 dL_limits_304 rfl rfl ?_
  refine x_iadd dL_limits_305 ?_
  refine x_toX (st' := [.int 138, .int 138]) rfl ?_
  refine x_icmp_eq_y 311 dL_limits_306 (by decide) (by decide) ?_
  refine x_iinc 65 (lv' := [(1, .int 65), (2, .int 12), (0, .ref h.2)]) dL_limits_311 0 rfl (by decide) (by decide) rfl ?_
  refine x_goto 279 dL_limits_314 (by decide) ?_
  refine x_iload_n 0 dL_limits_279 rfl rfl ?_
  refine x_bipush 87 (by decide) dL_limits_280 ?_
  refine x_icmp_ge_n 317 dL_limits_282 (by decide) (by decide) ?_
  refine x_aload_n 2 dL_limits_285 rfl rfl ?_
  refine x_bipush 100 (by decide) dL_limits_286 ?_
  refine x_iload_n 0 dL_limits_288 rfl rfl ?_
  refine x_iadd dL_limits_289 ?_
  refine x_toX (st' := [.int 165, .ref h.2]) rfl ?_
  refine x_iload_n 0 dL_limits_290 rfl rfl ?_
  refine x_dom (fun hd497 => ?_)
  obtain ⟨f497, m497, e497, a497, w497⟩ := k_dd5 hN (by omega) w493 hd497 (z493.le w493 hd497) (a := 165) (b := 65) (v := 2) (S' := (k_of (k_lx 66))) (k_ck5_sp k_lz_65).1 (k_ck5_sp k_lz_65).2
  have z497 := z493.st a497
  obtain ⟨P497, w497⟩ : ∃ P, k_wd h.2 (h.2 + 70) 163 (k_of (k_lx 66)) P (fun _ => none) [] f497 := ⟨_, w497⟩
  obtain ⟨fs498, hfs498⟩ := w493.ob
  refine x_callv (As := [.int 165, .int 65]) (rest := []) 6809 383054 dL_limits_291 mi_X5_insert ml_L_47 rfl rfl (Nat.le_of_ble_eq_true rfl) ⟨by decide, by decide⟩ (by omega) (by omega) hfs498 rfl (c_X5_insert N _ _ _ _ _ e497) (x_K.some ?_) x_KX.none
  refine x_toX (st' := [.int 2]) rfl ?_
  clear hd497 e497 a497 hfs498 w493 z493
  refine x_iconst 2 (by decide) dL_limits_294 ?_
  refine x_icmp_ne_n 309 dL_limits_295 (by decide) (by decide) ?_
  refine x_aload_n 2 dL_limits_298 rfl rfl ?_
  obtain ⟨q499, St499, bf499, h499, g499⟩ := w497.ci
  have e499 : F_X5_entries N f497 h.2 = some 139 := ((q_entries (N := N) h499).trans (congrArg some tf_388))
  obtain ⟨fs500, hfs500⟩ := w497.ob
  refine x_callv (As := []) (rest := []) 6809 383054 dL_limits_299 mi_X5_entries ml_L_143 rfl rfl (Nat.le_of_ble_eq_true rfl) ⟨by decide, by decide⟩ (by omega) (by omega) hfs500 rfl (c_X5_entries N _ _ _ _ e499) (x_K.some ?_) x_KX.none
  clear h499 g499 e499 hfs500
  refine x_bipush 74 (by decide) dL_limits_302 ?_
  refine x_iload_n 0 dL_limits_304 rfl rfl ?_
  refine x_iadd dL_limits_305 ?_
  refine x_toX (st' := [.int 139, .int 139]) rfl ?_
  refine x_icmp_eq_y 311 dL_limits_306 (by decide) (by decide) ?_
  refine x_iinc 66 (lv' := [(1, .int 66), (2, .int 12), (0, .ref h.2)]) dL_limits_311 0 rfl (by decide) (by decide) rfl ?_
  refine x_goto 279 dL_limits_314 (by decide) ?_
  refine x_iload_n 0 dL_limits_279 rfl rfl ?_
  refine x_bipush 87 (by decide) dL_limits_280 ?_
  refine x_icmp_ge_n 317 dL_limits_282 (by decide) (by decide) ?_
  refine x_aload_n 2 dL_limits_285 rfl rfl ?_
  refine x_bipush 100 (by decide) dL_limits_286 ?_
  refine x_iload_n 0 dL_limits_288 rfl rfl ?_
  refine x_iadd dL_limits_289 ?_
  refine x_toX (st' := [.int 166, .ref h.2]) rfl ?_
  refine x_iload_n 0 dL_limits_290 rfl rfl ?_
  refine x_dom (fun hd501 => ?_)
  obtain ⟨f501, m501, e501, a501, w501⟩ := k_dd5 hN (by omega) w497 hd501 (z497.le w497 hd501) (a := 166) (b := 66) (v := 2) (S' := (k_of (k_lx 67))) (k_ck5_sp k_lz_66).1 (k_ck5_sp k_lz_66).2
  have z501 := z497.st a501
  obtain ⟨P501, w501⟩ : ∃ P, k_wd h.2 (h.2 + 70) 164 (k_of (k_lx 67)) P (fun _ => none) [] f501 := ⟨_, w501⟩
  obtain ⟨fs502, hfs502⟩ := w497.ob
  refine x_callv (As := [.int 166, .int 66]) (rest := []) 6775 381139 dL_limits_291 mi_X5_insert ml_L_47 rfl rfl (Nat.le_of_ble_eq_true rfl) ⟨by decide, by decide⟩ (by omega) (by omega) hfs502 rfl (c_X5_insert N _ _ _ _ _ e501) (x_K.some ?_) x_KX.none
  refine x_toX (st' := [.int 2]) rfl ?_
  clear hd501 e501 a501 hfs502 w497 z497
  refine x_iconst 2 (by decide) dL_limits_294 ?_
  refine x_icmp_ne_n 309 dL_limits_295 (by decide) (by decide) ?_
  refine x_aload_n 2 dL_limits_298 rfl rfl ?_
  obtain ⟨q503, St503, bf503, h503, g503⟩ := w501.ci
  have e503 : F_X5_entries N f501 h.2 = some 140 := ((q_entries (N := N) h503).trans (congrArg some tf_389))
  obtain ⟨fs504, hfs504⟩ := w501.ob
  refine x_callv (As := []) (rest := []) 6775 381139 dL_limits_299 mi_X5_entries ml_L_143 rfl rfl (Nat.le_of_ble_eq_true rfl) ⟨by decide, by decide⟩ (by omega) (by omega) hfs504 rfl (c_X5_entries N _ _ _ _ e503) (x_K.some ?_) x_KX.none
  clear h503 g503 e503 hfs504
  refine x_bipush 74 (by decide) dL_limits_302 ?_
  refine x_iload_n 0 dL_limits_304 rfl rfl ?_
  refine x_iadd dL_limits_305 ?_
  refine x_toX (st' := [.int 140, .int 140]) rfl ?_
  refine x_icmp_eq_y 311 dL_limits_306 (by decide) (by decide) ?_
  refine x_iinc 67 (lv' := [(1, .int 67), (2, .int 12), (0, .ref h.2)]) dL_limits_311 0 rfl (by decide) (by decide) rfl ?_
  refine x_goto 279 dL_limits_314 (by decide) ?_
  refine x_iload_n 0 dL_limits_279 rfl rfl ?_
  refine x_bipush 87 (by decide) dL_limits_280 ?_
  refine x_icmp_ge_n 317 dL_limits_282 (by decide) (by decide) ?_
  refine x_aload_n 2 dL_limits_285 rfl rfl ?_
  refine x_bipush 100 (by decide) dL_limits_286 ?_
  refine x_iload_n 0 dL_limits_288 rfl rfl ?_
  refine x_iadd dL_limits_289 ?_
  refine x_toX (st' := [.int 167, .ref h.2]) rfl ?_
  refine x_iload_n 0 dL_limits_290 rfl rfl ?_
  refine x_dom (fun hd505 => ?_)
  obtain ⟨f505, m505, e505, a505, w505⟩ := k_dd5 hN (by omega) w501 hd505 (z501.le w501 hd505) (a := 167) (b := 67) (v := 2) (S' := (k_of (k_lx 68))) (k_ck5_sp k_lz_67).1 (k_ck5_sp k_lz_67).2
  have z505 := z501.st a505
  obtain ⟨P505, w505⟩ : ∃ P, k_wd h.2 (h.2 + 70) 165 (k_of (k_lx 68)) P (fun _ => none) [] f505 := ⟨_, w505⟩
  obtain ⟨fs506, hfs506⟩ := w501.ob
  refine x_callv (As := [.int 167, .int 67]) (rest := []) 6741 379224 dL_limits_291 mi_X5_insert ml_L_47 rfl rfl (Nat.le_of_ble_eq_true rfl) ⟨by decide, by decide⟩ (by omega) (by omega) hfs506 rfl (c_X5_insert N _ _ _ _ _ e505) (x_K.some ?_) x_KX.none
  refine x_toX (st' := [.int 2]) rfl ?_
  clear hd505 e505 a505 hfs506 w501 z501
  refine x_iconst 2 (by decide) dL_limits_294 ?_
  refine x_icmp_ne_n 309 dL_limits_295 (by decide) (by decide) ?_
  refine x_aload_n 2 dL_limits_298 rfl rfl ?_
  obtain ⟨q507, St507, bf507, h507, g507⟩ := w505.ci
  have e507 : F_X5_entries N f505 h.2 = some 141 := ((q_entries (N := N) h507).trans (congrArg some tf_390))
  obtain ⟨fs508, hfs508⟩ := w505.ob
  refine x_callv (As := []) (rest := []) 6741 379224 dL_limits_299 mi_X5_entries ml_L_143 rfl rfl (Nat.le_of_ble_eq_true rfl) ⟨by decide, by decide⟩ (by omega) (by omega) hfs508 rfl (c_X5_entries N _ _ _ _ e507) (x_K.some ?_) x_KX.none
  clear h507 g507 e507 hfs508
  refine x_bipush 74 (by decide) dL_limits_302 ?_
  refine x_iload_n 0 dL_limits_304 rfl rfl ?_
  refine x_iadd dL_limits_305 ?_
  refine x_toX (st' := [.int 141, .int 141]) rfl ?_
  refine x_icmp_eq_y 311 dL_limits_306 (by decide) (by decide) ?_
  refine x_iinc 68 (lv' := [(1, .int 68), (2, .int 12), (0, .ref h.2)]) dL_limits_311 0 rfl (by decide) (by decide) rfl ?_
  refine x_goto 279 dL_limits_314 (by decide) ?_
  refine x_iload_n 0 dL_limits_279 rfl rfl ?_
  refine x_bipush 87 (by decide) dL_limits_280 ?_
  refine x_icmp_ge_n 317 dL_limits_282 (by decide) (by decide) ?_
  refine x_aload_n 2 dL_limits_285 rfl rfl ?_
  refine x_bipush 100 (by decide) dL_limits_286 ?_
  refine x_iload_n 0 dL_limits_288 rfl rfl ?_
  refine x_iadd dL_limits_289 ?_
  refine x_toX (st' := [.int 168, .ref h.2]) rfl ?_
  refine x_iload_n 0 dL_limits_290 rfl rfl ?_
  refine x_dom (fun hd509 => ?_)
  obtain ⟨f509, m509, e509, a509, w509⟩ := k_dd5 hN (by omega) w505 hd509 (z505.le w505 hd509) (a := 168) (b := 68) (v := 2) (S' := (k_of (k_lx 69))) (k_ck5_sp k_lz_68).1 (k_ck5_sp k_lz_68).2
  have z509 := z505.st a509
  obtain ⟨P509, w509⟩ : ∃ P, k_wd h.2 (h.2 + 70) 166 (k_of (k_lx 69)) P (fun _ => none) [] f509 := ⟨_, w509⟩
  obtain ⟨fs510, hfs510⟩ := w505.ob
  refine x_callv (As := [.int 168, .int 68]) (rest := []) 6707 377309 dL_limits_291 mi_X5_insert ml_L_47 rfl rfl (Nat.le_of_ble_eq_true rfl) ⟨by decide, by decide⟩ (by omega) (by omega) hfs510 rfl (c_X5_insert N _ _ _ _ _ e509) (x_K.some ?_) x_KX.none
  refine x_toX (st' := [.int 2]) rfl ?_
  clear hd509 e509 a509 hfs510 w505 z505
  refine x_iconst 2 (by decide) dL_limits_294 ?_
  refine x_icmp_ne_n 309 dL_limits_295 (by decide) (by decide) ?_
  refine x_aload_n 2 dL_limits_298 rfl rfl ?_
  obtain ⟨q511, St511, bf511, h511, g511⟩ := w509.ci
  have e511 : F_X5_entries N f509 h.2 = some 142 := ((q_entries (N := N) h511).trans (congrArg some tf_391))
  obtain ⟨fs512, hfs512⟩ := w509.ob
  refine x_callv (As := []) (rest := []) 6707 377309 dL_limits_299 mi_X5_entries ml_L_143 rfl rfl (Nat.le_of_ble_eq_true rfl) ⟨by decide, by decide⟩ (by omega) (by omega) hfs512 rfl (c_X5_entries N _ _ _ _ e511) (x_K.some ?_) x_KX.none
  clear h511 g511 e511 hfs512
  refine x_bipush 74 (by decide) dL_limits_302 ?_
  refine x_iload_n 0 dL_limits_304 rfl rfl ?_
  refine x_iadd dL_limits_305 ?_
  refine x_toX (st' := [.int 142, .int 142]) rfl ?_
  refine x_icmp_eq_y 311 dL_limits_306 (by decide) (by decide) ?_
  refine x_iinc 69 (lv' := [(1, .int 69), (2, .int 12), (0, .ref h.2)]) dL_limits_311 0 rfl (by decide) (by decide) rfl ?_
  refine x_goto 279 dL_limits_314 (by decide) ?_
  refine x_iload_n 0 dL_limits_279 rfl rfl ?_
  refine x_bipush 87 (by decide) dL_limits_280 ?_
  refine x_icmp_ge_n 317 dL_limits_282 (by decide) (by decide) ?_
  refine x_aload_n 2 dL_limits_285 rfl rfl ?_
  refine x_bipush 100 (by decide) dL_limits_286 ?_
  refine x_iload_n 0 dL_limits_288 rfl rfl ?_
  refine x_iadd dL_limits_289 ?_
  refine x_toX (st' := [.int 169, .ref h.2]) rfl ?_
  refine x_iload_n 0 dL_limits_290 rfl rfl ?_
  refine x_dom (fun hd513 => ?_)
  obtain ⟨f513, m513, e513, a513, w513⟩ := k_dd5 hN (by omega) w509 hd513 (z509.le w509 hd513) (a := 169) (b := 69) (v := 2) (S' := (k_of (k_lx 70))) (k_ck5_sp k_lz_69).1 (k_ck5_sp k_lz_69).2
  have z513 := z509.st a513
  obtain ⟨P513, w513⟩ : ∃ P, k_wd h.2 (h.2 + 70) 167 (k_of (k_lx 70)) P (fun _ => none) [] f513 := ⟨_, w513⟩
  obtain ⟨fs514, hfs514⟩ := w509.ob
  refine x_callv (As := [.int 169, .int 69]) (rest := []) 6673 375394 dL_limits_291 mi_X5_insert ml_L_47 rfl rfl (Nat.le_of_ble_eq_true rfl) ⟨by decide, by decide⟩ (by omega) (by omega) hfs514 rfl (c_X5_insert N _ _ _ _ _ e513) (x_K.some ?_) x_KX.none
  refine x_toX (st' := [.int 2]) rfl ?_
  clear hd513 e513 a513 hfs514 w509 z509
  refine x_iconst 2 (by decide) dL_limits_294 ?_
  refine x_icmp_ne_n 309 dL_limits_295 (by decide) (by decide) ?_
  refine x_aload_n 2 dL_limits_298 rfl rfl ?_
  obtain ⟨q515, St515, bf515, h515, g515⟩ := w513.ci
  have e515 : F_X5_entries N f513 h.2 = some 143 := ((q_entries (N := N) h515).trans (congrArg some tf_392))
  obtain ⟨fs516, hfs516⟩ := w513.ob
  refine x_callv (As := []) (rest := []) 6673 375394 dL_limits_299 mi_X5_entries ml_L_143 rfl rfl (Nat.le_of_ble_eq_true rfl) ⟨by decide, by decide⟩ (by omega) (by omega) hfs516 rfl (c_X5_entries N _ _ _ _ e515) (x_K.some ?_) x_KX.none
  clear h515 g515 e515 hfs516
  refine x_bipush 74 (by decide) dL_limits_302 ?_
  refine x_iload_n 0 dL_limits_304 rfl rfl ?_
  refine x_iadd dL_limits_305 ?_
  refine x_toX (st' := [.int 143, .int 143]) rfl ?_
  refine x_icmp_eq_y 311 dL_limits_306 (by decide) (by decide) ?_
  refine x_iinc 70 (lv' := [(1, .int 70), (2, .int 12), (0, .ref h.2)]) dL_limits_311 0 rfl (by decide) (by decide) rfl ?_
  refine x_goto 279 dL_limits_314 (by decide) ?_
  refine x_iload_n 0 dL_limits_279 rfl rfl ?_
  refine x_bipush 87 (by decide) dL_limits_280 ?_
  refine x_icmp_ge_n 317 dL_limits_282 (by decide) (by decide) ?_
  refine x_aload_n 2 dL_limits_285 rfl rfl ?_
  refine x_bipush 100 (by decide) dL_limits_286 ?_
  refine x_iload_n 0 dL_limits_288 rfl rfl ?_
  refine x_iadd dL_limits_289 ?_
  refine x_toX (st' := [.int 170, .ref h.2]) rfl ?_
  refine x_iload_n 0 dL_limits_290 rfl rfl ?_
  refine x_dom (fun hd517 => ?_)
  obtain ⟨f517, m517, e517, a517, w517⟩ := k_dd5 hN (by omega) w513 hd517 (z513.le w513 hd517) (a := 170) (b := 70) (v := 2) (S' := (k_of (k_lx 71))) (k_ck5_sp k_lz_70).1 (k_ck5_sp k_lz_70).2
  have z517 := z513.st a517
  obtain ⟨P517, w517⟩ : ∃ P, k_wd h.2 (h.2 + 70) 168 (k_of (k_lx 71)) P (fun _ => none) [] f517 := ⟨_, w517⟩
  obtain ⟨fs518, hfs518⟩ := w513.ob
  refine x_callv (As := [.int 170, .int 70]) (rest := []) 6639 373479 dL_limits_291 mi_X5_insert ml_L_47 rfl rfl (Nat.le_of_ble_eq_true rfl) ⟨by decide, by decide⟩ (by omega) (by omega) hfs518 rfl (c_X5_insert N _ _ _ _ _ e517) (x_K.some ?_) x_KX.none
  refine x_toX (st' := [.int 2]) rfl ?_
  clear hd517 e517 a517 hfs518 w513 z513
  refine x_iconst 2 (by decide) dL_limits_294 ?_
  refine x_icmp_ne_n 309 dL_limits_295 (by decide) (by decide) ?_
  refine x_aload_n 2 dL_limits_298 rfl rfl ?_
  obtain ⟨q519, St519, bf519, h519, g519⟩ := w517.ci
  have e519 : F_X5_entries N f517 h.2 = some 144 := ((q_entries (N := N) h519).trans (congrArg some tf_393))
  obtain ⟨fs520, hfs520⟩ := w517.ob
  refine x_callv (As := []) (rest := []) 6639 373479 dL_limits_299 mi_X5_entries ml_L_143 rfl rfl (Nat.le_of_ble_eq_true rfl) ⟨by decide, by decide⟩ (by omega) (by omega) hfs520 rfl (c_X5_entries N _ _ _ _ e519) (x_K.some ?_) x_KX.none
  clear h519 g519 e519 hfs520
  refine x_bipush 74 (by decide) dL_limits_302 ?_
  refine x_iload_n 0 dL_limits_304 rfl rfl ?_
  refine x_iadd dL_limits_305 ?_
  refine x_toX (st' := [.int 144, .int 144]) rfl ?_
  refine x_icmp_eq_y 311 dL_limits_306 (by decide) (by decide) ?_
  refine x_iinc 71 (lv' := [(1, .int 71), (2, .int 12), (0, .ref h.2)]) dL_limits_311 0 rfl (by decide) (by decide) rfl ?_
  refine x_goto 279 dL_limits_314 (by decide) ?_
  refine x_iload_n 0 dL_limits_279 rfl rfl ?_
  refine x_bipush 87 (by decide) dL_limits_280 ?_
  refine x_icmp_ge_n 317 dL_limits_282 (by decide) (by decide) ?_
  refine x_aload_n 2 dL_limits_285 rfl rfl ?_
  refine x_bipush 100 (by decide) dL_limits_286 ?_
  refine x_iload_n 0 dL_limits_288 rfl rfl ?_
  refine x_iadd dL_limits_289 ?_
  refine x_toX (st' := [.int 171, .ref h.2]) rfl ?_
  refine x_iload_n 0 dL_limits_290 rfl rfl ?_
  refine x_dom (fun hd521 => ?_)
  obtain ⟨f521, m521, e521, a521, w521⟩ := k_dd5 hN (by omega) w517 hd521 (z517.le w517 hd521) (a := 171) (b := 71) (v := 2) (S' := (k_of (k_lx 72))) (k_ck5_sp k_lz_71).1 (k_ck5_sp k_lz_71).2
  have z521 := z517.st a521
  obtain ⟨P521, w521⟩ : ∃ P, k_wd h.2 (h.2 + 70) 169 (k_of (k_lx 72)) P (fun _ => none) [] f521 := ⟨_, w521⟩
  obtain ⟨fs522, hfs522⟩ := w517.ob
  refine x_callv (As := [.int 171, .int 71]) (rest := []) 6605 371564 dL_limits_291 mi_X5_insert ml_L_47 rfl rfl (Nat.le_of_ble_eq_true rfl) ⟨by decide, by decide⟩ (by omega) (by omega) hfs522 rfl (c_X5_insert N _ _ _ _ _ e521) (x_K.some ?_) x_KX.none
  refine x_toX (st' := [.int 2]) rfl ?_
  clear hd521 e521 a521 hfs522 w517 z517
  refine x_iconst 2 (by decide) dL_limits_294 ?_
  refine x_icmp_ne_n 309 dL_limits_295 (by decide) (by decide) ?_
  refine x_aload_n 2 dL_limits_298 rfl rfl ?_
  obtain ⟨q523, St523, bf523, h523, g523⟩ := w521.ci
  have e523 : F_X5_entries N f521 h.2 = some 145 := ((q_entries (N := N) h523).trans (congrArg some tf_394))
  obtain ⟨fs524, hfs524⟩ := w521.ob
  refine x_callv (As := []) (rest := []) 6605 371564 dL_limits_299 mi_X5_entries ml_L_143 rfl rfl (Nat.le_of_ble_eq_true rfl) ⟨by decide, by decide⟩ (by omega) (by omega) hfs524 rfl (c_X5_entries N _ _ _ _ e523) (x_K.some ?_) x_KX.none
  clear h523 g523 e523 hfs524
  refine x_bipush 74 (by decide) dL_limits_302 ?_
  refine x_iload_n 0 dL_limits_304 rfl rfl ?_
  refine x_iadd dL_limits_305 ?_
  refine x_toX (st' := [.int 145, .int 145]) rfl ?_
  refine x_icmp_eq_y 311 dL_limits_306 (by decide) (by decide) ?_
  refine x_iinc 72 (lv' := [(1, .int 72), (2, .int 12), (0, .ref h.2)]) dL_limits_311 0 rfl (by decide) (by decide) rfl ?_
  refine x_goto 279 dL_limits_314 (by decide) ?_
  refine x_iload_n 0 dL_limits_279 rfl rfl ?_
  refine x_bipush 87 (by decide) dL_limits_280 ?_
  refine x_icmp_ge_n 317 dL_limits_282 (by decide) (by decide) ?_
  refine x_aload_n 2 dL_limits_285 rfl rfl ?_
  refine x_bipush 100 (by decide) dL_limits_286 ?_
  refine x_iload_n 0 dL_limits_288 rfl rfl ?_
  refine x_iadd dL_limits_289 ?_
  refine x_toX (st' := [.int 172, .ref h.2]) rfl ?_
  refine x_iload_n 0 dL_limits_290 rfl rfl ?_
  refine x_dom (fun hd525 => ?_)
  obtain ⟨f525, m525, e525, a525, w525⟩ := k_dd5 hN (by omega) w521 hd525 (z521.le w521 hd525) (a := 172) (b := 72) (v := 2) (S' := (k_of (k_lx 73))) (k_ck5_sp k_lz_72).1 (k_ck5_sp k_lz_72).2
  have z525 := z521.st a525
  obtain ⟨P525, w525⟩ : ∃ P, k_wd h.2 (h.2 + 70) 170 (k_of (k_lx 73)) P (fun _ => none) [] f525 := ⟨_, w525⟩
  obtain ⟨fs526, hfs526⟩ := w521.ob
  refine x_callv (As := [.int 172, .int 72]) (rest := []) 6571 369649 dL_limits_291 mi_X5_insert ml_L_47 rfl rfl (Nat.le_of_ble_eq_true rfl) ⟨by decide, by decide⟩ (by omega) (by omega) hfs526 rfl (c_X5_insert N _ _ _ _ _ e525) (x_K.some ?_) x_KX.none
  refine x_toX (st' := [.int 2]) rfl ?_
  clear hd525 e525 a525 hfs526 w521 z521
  refine x_iconst 2 (by decide) dL_limits_294 ?_
  refine x_icmp_ne_n 309 dL_limits_295 (by decide) (by decide) ?_
  refine x_aload_n 2 dL_limits_298 rfl rfl ?_
  obtain ⟨q527, St527, bf527, h527, g527⟩ := w525.ci
  have e527 : F_X5_entries N f525 h.2 = some 146 := ((q_entries (N := N) h527).trans (congrArg some tf_395))
  obtain ⟨fs528, hfs528⟩ := w525.ob
  refine x_callv (As := []) (rest := []) 6571 369649 dL_limits_299 mi_X5_entries ml_L_143 rfl rfl (Nat.le_of_ble_eq_true rfl) ⟨by decide, by decide⟩ (by omega) (by omega) hfs528 rfl (c_X5_entries N _ _ _ _ e527) (x_K.some ?_) x_KX.none
  clear h527 g527 e527 hfs528
  refine x_bipush 74 (by decide) dL_limits_302 ?_
  refine x_iload_n 0 dL_limits_304 rfl rfl ?_
  refine x_iadd dL_limits_305 ?_
  refine x_toX (st' := [.int 146, .int 146]) rfl ?_
  refine x_icmp_eq_y 311 dL_limits_306 (by decide) (by decide) ?_
  refine x_iinc 73 (lv' := [(1, .int 73), (2, .int 12), (0, .ref h.2)]) dL_limits_311 0 rfl (by decide) (by decide) rfl ?_
  refine x_goto 279 dL_limits_314 (by decide) ?_
  refine x_iload_n 0 dL_limits_279 rfl rfl ?_
  refine x_bipush 87 (by decide) dL_limits_280 ?_
  refine x_icmp_ge_n 317 dL_limits_282 (by decide) (by decide) ?_
  refine x_aload_n 2 dL_limits_285 rfl rfl ?_
  refine x_bipush 100 (by decide) dL_limits_286 ?_
  refine x_iload_n 0 dL_limits_288 rfl rfl ?_
  refine x_iadd dL_limits_289 ?_
  refine x_toX (st' := [.int 173, .ref h.2]) rfl ?_
  refine x_iload_n 0 dL_limits_290 rfl rfl ?_
  refine x_dom (fun hd529 => ?_)
  obtain ⟨f529, m529, e529, a529, w529⟩ := k_dd5 hN (by omega) w525 hd529 (z525.le w525 hd529) (a := 173) (b := 73) (v := 2) (S' := (k_of (k_lx 74))) (k_ck5_sp k_lz_73).1 (k_ck5_sp k_lz_73).2
  have z529 := z525.st a529
  obtain ⟨P529, w529⟩ : ∃ P, k_wd h.2 (h.2 + 70) 171 (k_of (k_lx 74)) P (fun _ => none) [] f529 := ⟨_, w529⟩
  obtain ⟨fs530, hfs530⟩ := w525.ob
  refine x_callv (As := [.int 173, .int 73]) (rest := []) 6537 367734 dL_limits_291 mi_X5_insert ml_L_47 rfl rfl (Nat.le_of_ble_eq_true rfl) ⟨by decide, by decide⟩ (by omega) (by omega) hfs530 rfl (c_X5_insert N _ _ _ _ _ e529) (x_K.some ?_) x_KX.none
  refine x_toX (st' := [.int 2]) rfl ?_
  clear hd529 e529 a529 hfs530 w525 z525
  refine x_iconst 2 (by decide) dL_limits_294 ?_
  refine x_icmp_ne_n 309 dL_limits_295 (by decide) (by decide) ?_
  refine x_aload_n 2 dL_limits_298 rfl rfl ?_
  obtain ⟨q531, St531, bf531, h531, g531⟩ := w529.ci
  have e531 : F_X5_entries N f529 h.2 = some 147 := ((q_entries (N := N) h531).trans (congrArg some tf_396))
  obtain ⟨fs532, hfs532⟩ := w529.ob
  refine x_callv (As := []) (rest := []) 6537 367734 dL_limits_299 mi_X5_entries ml_L_143 rfl rfl (Nat.le_of_ble_eq_true rfl) ⟨by decide, by decide⟩ (by omega) (by omega) hfs532 rfl (c_X5_entries N _ _ _ _ e531) (x_K.some ?_) x_KX.none
  clear h531 g531 e531 hfs532
  refine x_bipush 74 (by decide) dL_limits_302 ?_
  refine x_iload_n 0 dL_limits_304 rfl rfl ?_
  refine x_iadd dL_limits_305 ?_
  refine x_toX (st' := [.int 147, .int 147]) rfl ?_
  refine x_icmp_eq_y 311 dL_limits_306 (by decide) (by decide) ?_
  refine x_iinc 74 (lv' := [(1, .int 74), (2, .int 12), (0, .ref h.2)]) dL_limits_311 0 rfl (by decide) (by decide) rfl ?_
  refine x_goto 279 dL_limits_314 (by decide) ?_
  refine x_iload_n 0 dL_limits_279 rfl rfl ?_
  refine x_bipush 87 (by decide) dL_limits_280 ?_
  refine x_icmp_ge_n 317 dL_limits_282 (by decide) (by decide) ?_
  refine x_aload_n 2 dL_limits_285 rfl rfl ?_
  refine x_bipush 100 (by decide) dL_limits_286 ?_
  refine x_iload_n 0 dL_limits_288 rfl rfl ?_
  refine x_iadd dL_limits_289 ?_
  refine x_toX (st' := [.int 174, .ref h.2]) rfl ?_
  refine x_iload_n 0 dL_limits_290 rfl rfl ?_
  refine x_dom (fun hd533 => ?_)
  obtain ⟨f533, m533, e533, a533, w533⟩ := k_dd5 hN (by omega) w529 hd533 (z529.le w529 hd533) (a := 174) (b := 74) (v := 2) (S' := (k_of (k_lx 75))) (k_ck5_sp k_lz_74).1 (k_ck5_sp k_lz_74).2
  have z533 := z529.st a533
  obtain ⟨P533, w533⟩ : ∃ P, k_wd h.2 (h.2 + 70) 172 (k_of (k_lx 75)) P (fun _ => none) [] f533 := ⟨_, w533⟩
  obtain ⟨fs534, hfs534⟩ := w529.ob
  refine x_callv (As := [.int 174, .int 74]) (rest := []) 6503 365819 dL_limits_291 mi_X5_insert ml_L_47 rfl rfl (Nat.le_of_ble_eq_true rfl) ⟨by decide, by decide⟩ (by omega) (by omega) hfs534 rfl (c_X5_insert N _ _ _ _ _ e533) (x_K.some ?_) x_KX.none
  refine x_toX (st' := [.int 2]) rfl ?_
  clear hd533 e533 a533 hfs534 w529 z529
  refine x_iconst 2 (by decide) dL_limits_294 ?_
  refine x_icmp_ne_n 309 dL_limits_295 (by decide) (by decide) ?_
  refine x_aload_n 2 dL_limits_298 rfl rfl ?_
  obtain ⟨q535, St535, bf535, h535, g535⟩ := w533.ci
  have e535 : F_X5_entries N f533 h.2 = some 148 := ((q_entries (N := N) h535).trans (congrArg some tf_397))
  obtain ⟨fs536, hfs536⟩ := w533.ob
  refine x_callv (As := []) (rest := []) 6503 365819 dL_limits_299 mi_X5_entries ml_L_143 rfl rfl (Nat.le_of_ble_eq_true rfl) ⟨by decide, by decide⟩ (by omega) (by omega) hfs536 rfl (c_X5_entries N _ _ _ _ e535) (x_K.some ?_) x_KX.none
  clear h535 g535 e535 hfs536
  refine x_bipush 74 (by decide) dL_limits_302 ?_
  refine x_iload_n 0 dL_limits_304 rfl rfl ?_
  refine x_iadd dL_limits_305 ?_
  refine x_toX (st' := [.int 148, .int 148]) rfl ?_
  refine x_icmp_eq_y 311 dL_limits_306 (by decide) (by decide) ?_
  refine x_iinc 75 (lv' := [(1, .int 75), (2, .int 12), (0, .ref h.2)]) dL_limits_311 0 rfl (by decide) (by decide) rfl ?_
  refine x_goto 279 dL_limits_314 (by decide) ?_
  refine x_iload_n 0 dL_limits_279 rfl rfl ?_
  refine x_bipush 87 (by decide) dL_limits_280 ?_
  refine x_icmp_ge_n 317 dL_limits_282 (by decide) (by decide) ?_
  refine x_aload_n 2 dL_limits_285 rfl rfl ?_
  refine x_bipush 100 (by decide) dL_limits_286 ?_
  refine x_iload_n 0 dL_limits_288 rfl rfl ?_
  refine x_iadd dL_limits_289 ?_
  refine x_toX (st' := [.int 175, .ref h.2]) rfl ?_
  refine x_iload_n 0 dL_limits_290 rfl rfl ?_
  refine x_dom (fun hd537 => ?_)
  obtain ⟨f537, m537, e537, a537, w537⟩ := k_dd5 hN (by omega) w533 hd537 (z533.le w533 hd537) (a := 175) (b := 75) (v := 2) (S' := (k_of (k_lx 76))) (k_ck5_sp k_lz_75).1 (k_ck5_sp k_lz_75).2
  have z537 := z533.st a537
  obtain ⟨P537, w537⟩ : ∃ P, k_wd h.2 (h.2 + 70) 173 (k_of (k_lx 76)) P (fun _ => none) [] f537 := ⟨_, w537⟩
  obtain ⟨fs538, hfs538⟩ := w533.ob
  refine x_callv (As := [.int 175, .int 75]) (rest := []) 6469 363904 dL_limits_291 mi_X5_insert ml_L_47 rfl rfl (Nat.le_of_ble_eq_true rfl) ⟨by decide, by decide⟩ (by omega) (by omega) hfs538 rfl (c_X5_insert N _ _ _ _ _ e537) (x_K.some ?_) x_KX.none
  refine x_toX (st' := [.int 2]) rfl ?_
  clear hd537 e537 a537 hfs538 w533 z533
  refine x_iconst 2 (by decide) dL_limits_294 ?_
  refine x_icmp_ne_n 309 dL_limits_295 (by decide) (by decide) ?_
  refine x_aload_n 2 dL_limits_298 rfl rfl ?_
  obtain ⟨q539, St539, bf539, h539, g539⟩ := w537.ci
  have e539 : F_X5_entries N f537 h.2 = some 149 := ((q_entries (N := N) h539).trans (congrArg some tf_398))
  obtain ⟨fs540, hfs540⟩ := w537.ob
  refine x_callv (As := []) (rest := []) 6469 363904 dL_limits_299 mi_X5_entries ml_L_143 rfl rfl (Nat.le_of_ble_eq_true rfl) ⟨by decide, by decide⟩ (by omega) (by omega) hfs540 rfl (c_X5_entries N _ _ _ _ e539) (x_K.some ?_) x_KX.none
  clear h539 g539 e539 hfs540
  refine x_bipush 74 (by decide) dL_limits_302 ?_
  refine x_iload_n 0 dL_limits_304 rfl rfl ?_
  refine x_iadd dL_limits_305 ?_
  refine x_toX (st' := [.int 149, .int 149]) rfl ?_
  refine x_icmp_eq_y 311 dL_limits_306 (by decide) (by decide) ?_
  refine x_iinc 76 (lv' := [(1, .int 76), (2, .int 12), (0, .ref h.2)]) dL_limits_311 0 rfl (by decide) (by decide) rfl ?_
  refine x_goto 279 dL_limits_314 (by decide) ?_
  refine x_iload_n 0 dL_limits_279 rfl rfl ?_
  refine x_bipush 87 (by decide) dL_limits_280 ?_
  refine x_icmp_ge_n 317 dL_limits_282 (by decide) (by decide) ?_
  refine x_aload_n 2 dL_limits_285 rfl rfl ?_
  refine x_bipush 100 (by decide) dL_limits_286 ?_
  refine x_iload_n 0 dL_limits_288 rfl rfl ?_
  refine x_iadd dL_limits_289 ?_
  refine x_toX (st' := [.int 176, .ref h.2]) rfl ?_
  refine x_iload_n 0 dL_limits_290 rfl rfl ?_
  refine x_dom (fun hd541 => ?_)
  obtain ⟨f541, m541, e541, a541, w541⟩ := k_dd5 hN (by omega) w537 hd541 (z537.le w537 hd541) (a := 176) (b := 76) (v := 2) (S' := (k_of (k_lx 77))) (k_ck5_sp k_lz_76).1 (k_ck5_sp k_lz_76).2
  have z541 := z537.st a541
  obtain ⟨P541, w541⟩ : ∃ P, k_wd h.2 (h.2 + 70) 174 (k_of (k_lx 77)) P (fun _ => none) [] f541 := ⟨_, w541⟩
  obtain ⟨fs542, hfs542⟩ := w537.ob
  refine x_callv (As := [.int 176, .int 76]) (rest := []) 6435 361989 dL_limits_291 mi_X5_insert ml_L_47 rfl rfl (Nat.le_of_ble_eq_true rfl) ⟨by decide, by decide⟩ (by omega) (by omega) hfs542 rfl (c_X5_insert N _ _ _ _ _ e541) (x_K.some ?_) x_KX.none
  refine x_toX (st' := [.int 2]) rfl ?_
  clear hd541 e541 a541 hfs542 w537 z537
  refine x_iconst 2 (by decide) dL_limits_294 ?_
  refine x_icmp_ne_n 309 dL_limits_295 (by decide) (by decide) ?_
  refine x_aload_n 2 dL_limits_298 rfl rfl ?_
  obtain ⟨q543, St543, bf543, h543, g543⟩ := w541.ci
  have e543 : F_X5_entries N f541 h.2 = some 150 := ((q_entries (N := N) h543).trans (congrArg some tf_399))
  obtain ⟨fs544, hfs544⟩ := w541.ob
  refine x_callv (As := []) (rest := []) 6435 361989 dL_limits_299 mi_X5_entries ml_L_143 rfl rfl (Nat.le_of_ble_eq_true rfl) ⟨by decide, by decide⟩ (by omega) (by omega) hfs544 rfl (c_X5_entries N _ _ _ _ e543) (x_K.some ?_) x_KX.none
  clear h543 g543 e543 hfs544
  refine x_bipush 74 (by decide) dL_limits_302 ?_
  refine x_iload_n 0 dL_limits_304 rfl rfl ?_
  refine x_iadd dL_limits_305 ?_
  refine x_toX (st' := [.int 150, .int 150]) rfl ?_
  refine x_icmp_eq_y 311 dL_limits_306 (by decide) (by decide) ?_
  refine x_iinc 77 (lv' := [(1, .int 77), (2, .int 12), (0, .ref h.2)]) dL_limits_311 0 rfl (by decide) (by decide) rfl ?_
  refine x_goto 279 dL_limits_314 (by decide) ?_
  refine x_iload_n 0 dL_limits_279 rfl rfl ?_
  refine x_bipush 87 (by decide) dL_limits_280 ?_
  refine x_icmp_ge_n 317 dL_limits_282 (by decide) (by decide) ?_
  refine x_aload_n 2 dL_limits_285 rfl rfl ?_
  refine x_bipush 100 (by decide) dL_limits_286 ?_
  refine x_iload_n 0 dL_limits_288 rfl rfl ?_
  refine x_iadd dL_limits_289 ?_
  refine x_toX (st' := [.int 177, .ref h.2]) rfl ?_
  refine x_iload_n 0 dL_limits_290 rfl rfl ?_
  refine x_dom (fun hd545 => ?_)
  obtain ⟨f545, m545, e545, a545, w545⟩ := k_dd5 hN (by omega) w541 hd545 (z541.le w541 hd545) (a := 177) (b := 77) (v := 2) (S' := (k_of (k_lx 78))) (k_ck5_sp k_lz_77).1 (k_ck5_sp k_lz_77).2
  have z545 := z541.st a545
  obtain ⟨P545, w545⟩ : ∃ P, k_wd h.2 (h.2 + 70) 175 (k_of (k_lx 78)) P (fun _ => none) [] f545 := ⟨_, w545⟩
  obtain ⟨fs546, hfs546⟩ := w541.ob
  refine x_callv (As := [.int 177, .int 77]) (rest := []) 6401 360074 dL_limits_291 mi_X5_insert ml_L_47 rfl rfl (Nat.le_of_ble_eq_true rfl) ⟨by decide, by decide⟩ (by omega) (by omega) hfs546 rfl (c_X5_insert N _ _ _ _ _ e545) (x_K.some ?_) x_KX.none
  refine x_toX (st' := [.int 2]) rfl ?_
  clear hd545 e545 a545 hfs546 w541 z541
  refine x_iconst 2 (by decide) dL_limits_294 ?_
  refine x_icmp_ne_n 309 dL_limits_295 (by decide) (by decide) ?_
  refine x_aload_n 2 dL_limits_298 rfl rfl ?_
  obtain ⟨q547, St547, bf547, h547, g547⟩ := w545.ci
  have e547 : F_X5_entries N f545 h.2 = some 151 := ((q_entries (N := N) h547).trans (congrArg some tf_400))
  obtain ⟨fs548, hfs548⟩ := w545.ob
  refine x_callv (As := []) (rest := []) 6401 360074 dL_limits_299 mi_X5_entries ml_L_143 rfl rfl (Nat.le_of_ble_eq_true rfl) ⟨by decide, by decide⟩ (by omega) (by omega) hfs548 rfl (c_X5_entries N _ _ _ _ e547) (x_K.some ?_) x_KX.none
  clear h547 g547 e547 hfs548
  refine x_bipush 74 (by decide) dL_limits_302 ?_
  refine x_iload_n 0 dL_limits_304 rfl rfl ?_
  refine x_iadd dL_limits_305 ?_
  refine x_toX (st' := [.int 151, .int 151]) rfl ?_
  refine x_icmp_eq_y 311 dL_limits_306 (by decide) (by decide) ?_
  refine x_iinc 78 (lv' := [(1, .int 78), (2, .int 12), (0, .ref h.2)]) dL_limits_311 0 rfl (by decide) (by decide) rfl ?_
  refine x_goto 279 dL_limits_314 (by decide) ?_
  refine x_iload_n 0 dL_limits_279 rfl rfl ?_
  refine x_bipush 87 (by decide) dL_limits_280 ?_
  refine x_icmp_ge_n 317 dL_limits_282 (by decide) (by decide) ?_
  refine x_aload_n 2 dL_limits_285 rfl rfl ?_
  refine x_bipush 100 (by decide) dL_limits_286 ?_
  refine x_iload_n 0 dL_limits_288 rfl rfl ?_
  refine x_iadd dL_limits_289 ?_
  refine x_toX (st' := [.int 178, .ref h.2]) rfl ?_
  refine x_iload_n 0 dL_limits_290 rfl rfl ?_
  refine x_dom (fun hd549 => ?_)
  obtain ⟨f549, m549, e549, a549, w549⟩ := k_dd5 hN (by omega) w545 hd549 (z545.le w545 hd549) (a := 178) (b := 78) (v := 2) (S' := (k_of (k_lx 79))) (k_ck5_sp k_lz_78).1 (k_ck5_sp k_lz_78).2
  have z549 := z545.st a549
  obtain ⟨P549, w549⟩ : ∃ P, k_wd h.2 (h.2 + 70) 176 (k_of (k_lx 79)) P (fun _ => none) [] f549 := ⟨_, w549⟩
  obtain ⟨fs550, hfs550⟩ := w545.ob
  refine x_callv (As := [.int 178, .int 78]) (rest := []) 6367 358159 dL_limits_291 mi_X5_insert ml_L_47 rfl rfl (Nat.le_of_ble_eq_true rfl) ⟨by decide, by decide⟩ (by omega) (by omega) hfs550 rfl (c_X5_insert N _ _ _ _ _ e549) (x_K.some ?_) x_KX.none
  refine x_toX (st' := [.int 2]) rfl ?_
  clear hd549 e549 a549 hfs550 w545 z545
  refine x_iconst 2 (by decide) dL_limits_294 ?_
  refine x_icmp_ne_n 309 dL_limits_295 (by decide) (by decide) ?_
  refine x_aload_n 2 dL_limits_298 rfl rfl ?_
  obtain ⟨q551, St551, bf551, h551, g551⟩ := w549.ci
  have e551 : F_X5_entries N f549 h.2 = some 152 := ((q_entries (N := N) h551).trans (congrArg some tf_401))
  obtain ⟨fs552, hfs552⟩ := w549.ob
  refine x_callv (As := []) (rest := []) 6367 358159 dL_limits_299 mi_X5_entries ml_L_143 rfl rfl (Nat.le_of_ble_eq_true rfl) ⟨by decide, by decide⟩ (by omega) (by omega) hfs552 rfl (c_X5_entries N _ _ _ _ e551) (x_K.some ?_) x_KX.none
  clear h551 g551 e551 hfs552
  refine x_bipush 74 (by decide) dL_limits_302 ?_
  refine x_iload_n 0 dL_limits_304 rfl rfl ?_
  refine x_iadd dL_limits_305 ?_
  refine x_toX (st' := [.int 152, .int 152]) rfl ?_
  refine x_icmp_eq_y 311 dL_limits_306 (by decide) (by decide) ?_
  refine x_iinc 79 (lv' := [(1, .int 79), (2, .int 12), (0, .ref h.2)]) dL_limits_311 0 rfl (by decide) (by decide) rfl ?_
  refine x_goto 279 dL_limits_314 (by decide) ?_
  refine x_iload_n 0 dL_limits_279 rfl rfl ?_
  refine x_bipush 87 (by decide) dL_limits_280 ?_
  refine x_icmp_ge_n 317 dL_limits_282 (by decide) (by decide) ?_
  refine x_aload_n 2 dL_limits_285 rfl rfl ?_
  refine x_bipush 100 (by decide) dL_limits_286 ?_
  refine x_iload_n 0 dL_limits_288 rfl rfl ?_
  refine x_iadd dL_limits_289 ?_
  refine x_toX (st' := [.int 179, .ref h.2]) rfl ?_
  refine x_iload_n 0 dL_limits_290 rfl rfl ?_
  refine x_dom (fun hd553 => ?_)
  obtain ⟨f553, m553, e553, a553, w553⟩ := k_dd5 hN (by omega) w549 hd553 (z549.le w549 hd553) (a := 179) (b := 79) (v := 2) (S' := (k_of (k_lx 80))) (k_ck5_sp k_lz_79).1 (k_ck5_sp k_lz_79).2
  have z553 := z549.st a553
  obtain ⟨P553, w553⟩ : ∃ P, k_wd h.2 (h.2 + 70) 177 (k_of (k_lx 80)) P (fun _ => none) [] f553 := ⟨_, w553⟩
  obtain ⟨fs554, hfs554⟩ := w549.ob
  refine x_callv (As := [.int 179, .int 79]) (rest := []) 6333 356244 dL_limits_291 mi_X5_insert ml_L_47 rfl rfl (Nat.le_of_ble_eq_true rfl) ⟨by decide, by decide⟩ (by omega) (by omega) hfs554 rfl (c_X5_insert N _ _ _ _ _ e553) (x_K.some ?_) x_KX.none
  refine x_toX (st' := [.int 2]) rfl ?_
  clear hd553 e553 a553 hfs554 w549 z549
  refine x_iconst 2 (by decide) dL_limits_294 ?_
  refine x_icmp_ne_n 309 dL_limits_295 (by decide) (by decide) ?_
  refine x_aload_n 2 dL_limits_298 rfl rfl ?_
  obtain ⟨q555, St555, bf555, h555, g555⟩ := w553.ci
  have e555 : F_X5_entries N f553 h.2 = some 153 := ((q_entries (N := N) h555).trans (congrArg some tf_402))
  obtain ⟨fs556, hfs556⟩ := w553.ob
  refine x_callv (As := []) (rest := []) 6333 356244 dL_limits_299 mi_X5_entries ml_L_143 rfl rfl (Nat.le_of_ble_eq_true rfl) ⟨by decide, by decide⟩ (by omega) (by omega) hfs556 rfl (c_X5_entries N _ _ _ _ e555) (x_K.some ?_) x_KX.none
  clear h555 g555 e555 hfs556
  refine x_bipush 74 (by decide) dL_limits_302 ?_
  refine x_iload_n 0 dL_limits_304 rfl rfl ?_
  refine x_iadd dL_limits_305 ?_
  refine x_toX (st' := [.int 153, .int 153]) rfl ?_
  refine x_icmp_eq_y 311 dL_limits_306 (by decide) (by decide) ?_
  refine x_iinc 80 (lv' := [(1, .int 80), (2, .int 12), (0, .ref h.2)]) dL_limits_311 0 rfl (by decide) (by decide) rfl ?_
  refine x_goto 279 dL_limits_314 (by decide) ?_
  refine x_iload_n 0 dL_limits_279 rfl rfl ?_
  refine x_bipush 87 (by decide) dL_limits_280 ?_
  refine x_icmp_ge_n 317 dL_limits_282 (by decide) (by decide) ?_
  refine x_aload_n 2 dL_limits_285 rfl rfl ?_
  refine x_bipush 100 (by decide) dL_limits_286 ?_
  refine x_iload_n 0 dL_limits_288 rfl rfl ?_
  refine x_iadd dL_limits_289 ?_
  refine x_toX (st' := [.int 180, .ref h.2]) rfl ?_
  refine x_iload_n 0 dL_limits_290 rfl rfl ?_
  refine x_dom (fun hd557 => ?_)
  obtain ⟨f557, m557, e557, a557, w557⟩ := k_dd5 hN (by omega) w553 hd557 (z553.le w553 hd557) (a := 180) (b := 80) (v := 2) (S' := (k_of (k_lx 81))) (k_ck5_sp k_lz_80).1 (k_ck5_sp k_lz_80).2
  have z557 := z553.st a557
  obtain ⟨P557, w557⟩ : ∃ P, k_wd h.2 (h.2 + 70) 178 (k_of (k_lx 81)) P (fun _ => none) [] f557 := ⟨_, w557⟩
  obtain ⟨fs558, hfs558⟩ := w553.ob
  refine x_callv (As := [.int 180, .int 80]) (rest := []) 6299 354329 dL_limits_291 mi_X5_insert ml_L_47 rfl rfl (Nat.le_of_ble_eq_true rfl) ⟨by decide, by decide⟩ (by omega) (by omega) hfs558 rfl (c_X5_insert N _ _ _ _ _ e557) (x_K.some ?_) x_KX.none
  refine x_toX (st' := [.int 2]) rfl ?_
  clear hd557 e557 a557 hfs558 w553 z553
  refine x_iconst 2 (by decide) dL_limits_294 ?_
  refine x_icmp_ne_n 309 dL_limits_295 (by decide) (by decide) ?_
  refine x_aload_n 2 dL_limits_298 rfl rfl ?_
  obtain ⟨q559, St559, bf559, h559, g559⟩ := w557.ci
  have e559 : F_X5_entries N f557 h.2 = some 154 := ((q_entries (N := N) h559).trans (congrArg some tf_403))
  obtain ⟨fs560, hfs560⟩ := w557.ob
  refine x_callv (As := []) (rest := []) 6299 354329 dL_limits_299 mi_X5_entries ml_L_143 rfl rfl (Nat.le_of_ble_eq_true rfl) ⟨by decide, by decide⟩ (by omega) (by omega) hfs560 rfl (c_X5_entries N _ _ _ _ e559) (x_K.some ?_) x_KX.none
  clear h559 g559 e559 hfs560
  refine x_bipush 74 (by decide) dL_limits_302 ?_
  refine x_iload_n 0 dL_limits_304 rfl rfl ?_
  refine x_iadd dL_limits_305 ?_
  refine x_toX (st' := [.int 154, .int 154]) rfl ?_
  refine x_icmp_eq_y 311 dL_limits_306 (by decide) (by decide) ?_
  refine x_iinc 81 (lv' := [(1, .int 81), (2, .int 12), (0, .ref h.2)]) dL_limits_311 0 rfl (by decide) (by decide) rfl ?_
  refine x_goto 279 dL_limits_314 (by decide) ?_
  refine x_iload_n 0 dL_limits_279 rfl rfl ?_
  refine x_bipush 87 (by decide) dL_limits_280 ?_
  refine x_icmp_ge_n 317 dL_limits_282 (by decide) (by decide) ?_
  refine x_aload_n 2 dL_limits_285 rfl rfl ?_
  refine x_bipush 100 (by decide) dL_limits_286 ?_
  refine x_iload_n 0 dL_limits_288 rfl rfl ?_
  refine x_iadd dL_limits_289 ?_
  refine x_toX (st' := [.int 181, .ref h.2]) rfl ?_
  refine x_iload_n 0 dL_limits_290 rfl rfl ?_
  refine x_dom (fun hd561 => ?_)
  obtain ⟨f561, m561, e561, a561, w561⟩ := k_dd5 hN (by omega) w557 hd561 (z557.le w557 hd561) (a := 181) (b := 81) (v := 2) (S' := (k_of (k_lx 82))) (k_ck5_sp k_lz_81).1 (k_ck5_sp k_lz_81).2
  have z561 := z557.st a561
  obtain ⟨P561, w561⟩ : ∃ P, k_wd h.2 (h.2 + 70) 179 (k_of (k_lx 82)) P (fun _ => none) [] f561 := ⟨_, w561⟩
  obtain ⟨fs562, hfs562⟩ := w557.ob
  refine x_callv (As := [.int 181, .int 81]) (rest := []) 6265 352414 dL_limits_291 mi_X5_insert ml_L_47 rfl rfl (Nat.le_of_ble_eq_true rfl) ⟨by decide, by decide⟩ (by omega) (by omega) hfs562 rfl (c_X5_insert N _ _ _ _ _ e561) (x_K.some ?_) x_KX.none
  refine x_toX (st' := [.int 2]) rfl ?_
  clear hd561 e561 a561 hfs562 w557 z557
  refine x_iconst 2 (by decide) dL_limits_294 ?_
  refine x_icmp_ne_n 309 dL_limits_295 (by decide) (by decide) ?_
  refine x_aload_n 2 dL_limits_298 rfl rfl ?_
  obtain ⟨q563, St563, bf563, h563, g563⟩ := w561.ci
  have e563 : F_X5_entries N f561 h.2 = some 155 := ((q_entries (N := N) h563).trans (congrArg some tf_404))
  obtain ⟨fs564, hfs564⟩ := w561.ob
  refine x_callv (As := []) (rest := []) 6265 352414 dL_limits_299 mi_X5_entries ml_L_143 rfl rfl (Nat.le_of_ble_eq_true rfl) ⟨by decide, by decide⟩ (by omega) (by omega) hfs564 rfl (c_X5_entries N _ _ _ _ e563) (x_K.some ?_) x_KX.none
  clear h563 g563 e563 hfs564
  refine x_bipush 74 (by decide) dL_limits_302 ?_
  refine x_iload_n 0 dL_limits_304 rfl rfl ?_
  refine x_iadd dL_limits_305 ?_
  refine x_toX (st' := [.int 155, .int 155]) rfl ?_
  refine x_icmp_eq_y 311 dL_limits_306 (by decide) (by decide) ?_
  refine x_iinc 82 (lv' := [(1, .int 82), (2, .int 12), (0, .ref h.2)]) dL_limits_311 0 rfl (by decide) (by decide) rfl ?_
  refine x_goto 279 dL_limits_314 (by decide) ?_
  refine x_iload_n 0 dL_limits_279 rfl rfl ?_
  refine x_bipush 87 (by decide) dL_limits_280 ?_
  refine x_icmp_ge_n 317 dL_limits_282 (by decide) (by decide) ?_
  refine x_aload_n 2 dL_limits_285 rfl rfl ?_
  refine x_bipush 100 (by decide) dL_limits_286 ?_
  refine x_iload_n 0 dL_limits_288 rfl rfl ?_
  refine x_iadd dL_limits_289 ?_
  refine x_toX (st' := [.int 182, .ref h.2]) rfl ?_
  refine x_iload_n 0 dL_limits_290 rfl rfl ?_
  refine x_dom (fun hd565 => ?_)
  obtain ⟨f565, m565, e565, a565, w565⟩ := k_dd5 hN (by omega) w561 hd565 (z561.le w561 hd565) (a := 182) (b := 82) (v := 2) (S' := (k_of (k_lx 83))) (k_ck5_sp k_lz_82).1 (k_ck5_sp k_lz_82).2
  have z565 := z561.st a565
  obtain ⟨P565, w565⟩ : ∃ P, k_wd h.2 (h.2 + 70) 180 (k_of (k_lx 83)) P (fun _ => none) [] f565 := ⟨_, w565⟩
  obtain ⟨fs566, hfs566⟩ := w561.ob
  refine x_callv (As := [.int 182, .int 82]) (rest := []) 6231 350499 dL_limits_291 mi_X5_insert ml_L_47 rfl rfl (Nat.le_of_ble_eq_true rfl) ⟨by decide, by decide⟩ (by omega) (by omega) hfs566 rfl (c_X5_insert N _ _ _ _ _ e565) (x_K.some ?_) x_KX.none
  refine x_toX (st' := [.int 2]) rfl ?_
  clear hd565 e565 a565 hfs566 w561 z561
  refine x_iconst 2 (by decide) dL_limits_294 ?_
  refine x_icmp_ne_n 309 dL_limits_295 (by decide) (by decide) ?_
  refine x_aload_n 2 dL_limits_298 rfl rfl ?_
  obtain ⟨q567, St567, bf567, h567, g567⟩ := w565.ci
  have e567 : F_X5_entries N f565 h.2 = some 156 := ((q_entries (N := N) h567).trans (congrArg some tf_405))
  obtain ⟨fs568, hfs568⟩ := w565.ob
  refine x_callv (As := []) (rest := []) 6231 350499 dL_limits_299 mi_X5_entries ml_L_143 rfl rfl (Nat.le_of_ble_eq_true rfl) ⟨by decide, by decide⟩ (by omega) (by omega) hfs568 rfl (c_X5_entries N _ _ _ _ e567) (x_K.some ?_) x_KX.none
  clear h567 g567 e567 hfs568
  refine x_bipush 74 (by decide) dL_limits_302 ?_
  refine x_iload_n 0 dL_limits_304 rfl rfl ?_
  refine x_iadd dL_limits_305 ?_
  refine x_toX (st' := [.int 156, .int 156]) rfl ?_
  refine x_icmp_eq_y 311 dL_limits_306 (by decide) (by decide) ?_
  refine x_iinc 83 (lv' := [(1, .int 83), (2, .int 12), (0, .ref h.2)]) dL_limits_311 0 rfl (by decide) (by decide) rfl ?_
  refine x_goto 279 dL_limits_314 (by decide) ?_
  refine x_iload_n 0 dL_limits_279 rfl rfl ?_
  refine x_bipush 87 (by decide) dL_limits_280 ?_
  refine x_icmp_ge_n 317 dL_limits_282 (by decide) (by decide) ?_
  refine x_aload_n 2 dL_limits_285 rfl rfl ?_
  refine x_bipush 100 (by decide) dL_limits_286 ?_
  refine x_iload_n 0 dL_limits_288 rfl rfl ?_
  refine x_iadd dL_limits_289 ?_
  refine x_toX (st' := [.int 183, .ref h.2]) rfl ?_
  refine x_iload_n 0 dL_limits_290 rfl rfl ?_
  refine x_dom (fun hd569 => ?_)
  obtain ⟨f569, m569, e569, a569, w569⟩ := k_dd5 hN (by omega) w565 hd569 (z565.le w565 hd569) (a := 183) (b := 83) (v := 2) (S' := (k_of (k_lx 84))) (k_ck5_sp k_lz_83).1 (k_ck5_sp k_lz_83).2
  have z569 := z565.st a569
  obtain ⟨P569, w569⟩ : ∃ P, k_wd h.2 (h.2 + 70) 181 (k_of (k_lx 84)) P (fun _ => none) [] f569 := ⟨_, w569⟩
  obtain ⟨fs570, hfs570⟩ := w565.ob
  refine x_callv (As := [.int 183, .int 83]) (rest := []) 6197 348584 dL_limits_291 mi_X5_insert ml_L_47 rfl rfl (Nat.le_of_ble_eq_true rfl) ⟨by decide, by decide⟩ (by omega) (by omega) hfs570 rfl (c_X5_insert N _ _ _ _ _ e569) (x_K.some ?_) x_KX.none
  refine x_toX (st' := [.int 2]) rfl ?_
  clear hd569 e569 a569 hfs570 w565 z565
  refine x_iconst 2 (by decide) dL_limits_294 ?_
  refine x_icmp_ne_n 309 dL_limits_295 (by decide) (by decide) ?_
  refine x_aload_n 2 dL_limits_298 rfl rfl ?_
  obtain ⟨q571, St571, bf571, h571, g571⟩ := w569.ci
  have e571 : F_X5_entries N f569 h.2 = some 157 := ((q_entries (N := N) h571).trans (congrArg some tf_406))
  obtain ⟨fs572, hfs572⟩ := w569.ob
  refine x_callv (As := []) (rest := []) 6197 348584 dL_limits_299 mi_X5_entries ml_L_143 rfl rfl (Nat.le_of_ble_eq_true rfl) ⟨by decide, by decide⟩ (by omega) (by omega) hfs572 rfl (c_X5_entries N _ _ _ _ e571) (x_K.some ?_) x_KX.none
  clear h571 g571 e571 hfs572
  refine x_bipush 74 (by decide) dL_limits_302 ?_
  refine x_iload_n 0 dL_limits_304 rfl rfl ?_
  refine x_iadd dL_limits_305 ?_
  refine x_toX (st' := [.int 157, .int 157]) rfl ?_
  refine x_icmp_eq_y 311 dL_limits_306 (by decide) (by decide) ?_
  refine x_iinc 84 (lv' := [(1, .int 84), (2, .int 12), (0, .ref h.2)]) dL_limits_311 0 rfl (by decide) (by decide) rfl ?_
  refine x_goto 279 dL_limits_314 (by decide) ?_
  refine x_iload_n 0 dL_limits_279 rfl rfl ?_
  refine x_bipush 87 (by decide) dL_limits_280 ?_
  refine x_icmp_ge_n 317 dL_limits_282 (by decide) (by decide) ?_
  refine x_aload_n 2 dL_limits_285 rfl rfl ?_
  refine x_bipush 100 (by decide) dL_limits_286 ?_
  refine x_iload_n 0 dL_limits_288 rfl rfl ?_
  refine x_iadd dL_limits_289 ?_
  refine x_toX (st' := [.int 184, .ref h.2]) rfl ?_
  refine x_iload_n 0 dL_limits_290 rfl rfl ?_
  refine x_dom (fun hd573 => ?_)
  obtain ⟨f573, m573, e573, a573, w573⟩ := k_dd5 hN (by omega) w569 hd573 (z569.le w569 hd573) (a := 184) (b := 84) (v := 2) (S' := (k_of (k_lx 85))) (k_ck5_sp k_lz_84).1 (k_ck5_sp k_lz_84).2
  have z573 := z569.st a573
  obtain ⟨P573, w573⟩ : ∃ P, k_wd h.2 (h.2 + 70) 182 (k_of (k_lx 85)) P (fun _ => none) [] f573 := ⟨_, w573⟩
  obtain ⟨fs574, hfs574⟩ := w569.ob
  refine x_callv (As := [.int 184, .int 84]) (rest := []) 6163 346669 dL_limits_291 mi_X5_insert ml_L_47 rfl rfl (Nat.le_of_ble_eq_true rfl) ⟨by decide, by decide⟩ (by omega) (by omega) hfs574 rfl (c_X5_insert N _ _ _ _ _ e573) (x_K.some ?_) x_KX.none
  refine x_toX (st' := [.int 2]) rfl ?_
  clear hd573 e573 a573 hfs574 w569 z569
  refine x_iconst 2 (by decide) dL_limits_294 ?_
  refine x_icmp_ne_n 309 dL_limits_295 (by decide) (by decide) ?_
  refine x_aload_n 2 dL_limits_298 rfl rfl ?_
  obtain ⟨q575, St575, bf575, h575, g575⟩ := w573.ci
  have e575 : F_X5_entries N f573 h.2 = some 158 := ((q_entries (N := N) h575).trans (congrArg some tf_407))
  obtain ⟨fs576, hfs576⟩ := w573.ob
  refine x_callv (As := []) (rest := []) 6163 346669 dL_limits_299 mi_X5_entries ml_L_143 rfl rfl (Nat.le_of_ble_eq_true rfl) ⟨by decide, by decide⟩ (by omega) (by omega) hfs576 rfl (c_X5_entries N _ _ _ _ e575) (x_K.some ?_) x_KX.none
  clear h575 g575 e575 hfs576
  refine x_bipush 74 (by decide) dL_limits_302 ?_
  refine x_iload_n 0 dL_limits_304 rfl rfl ?_
  refine x_iadd dL_limits_305 ?_
  refine x_toX (st' := [.int 158, .int 158]) rfl ?_
  refine x_icmp_eq_y 311 dL_limits_306 (by decide) (by decide) ?_
  refine x_iinc 85 (lv' := [(1, .int 85), (2, .int 12), (0, .ref h.2)]) dL_limits_311 0 rfl (by decide) (by decide) rfl ?_
  refine x_goto 279 dL_limits_314 (by decide) ?_
  refine x_iload_n 0 dL_limits_279 rfl rfl ?_
  refine x_bipush 87 (by decide) dL_limits_280 ?_
  refine x_icmp_ge_n 317 dL_limits_282 (by decide) (by decide) ?_
  refine x_aload_n 2 dL_limits_285 rfl rfl ?_
  refine x_bipush 100 (by decide) dL_limits_286 ?_
  refine x_iload_n 0 dL_limits_288 rfl rfl ?_
  refine x_iadd dL_limits_289 ?_
  refine x_toX (st' := [.int 185, .ref h.2]) rfl ?_
  refine x_iload_n 0 dL_limits_290 rfl rfl ?_
  refine x_dom (fun hd577 => ?_)
  obtain ⟨f577, m577, e577, a577, w577⟩ := k_dd5 hN (by omega) w573 hd577 (z573.le w573 hd577) (a := 185) (b := 85) (v := 2) (S' := (k_of (k_lx 86))) (k_ck5_sp k_lz_85).1 (k_ck5_sp k_lz_85).2
  have z577 := z573.st a577
  obtain ⟨P577, w577⟩ : ∃ P, k_wd h.2 (h.2 + 70) 183 (k_of (k_lx 86)) P (fun _ => none) [] f577 := ⟨_, w577⟩
  obtain ⟨fs578, hfs578⟩ := w573.ob
  refine x_callv (As := [.int 185, .int 85]) (rest := []) 6129 344754 dL_limits_291 mi_X5_insert ml_L_47 rfl rfl (Nat.le_of_ble_eq_true rfl) ⟨by decide, by decide⟩ (by omega) (by omega) hfs578 rfl (c_X5_insert N _ _ _ _ _ e577) (x_K.some ?_) x_KX.none
  refine x_toX (st' := [.int 2]) rfl ?_
  clear hd577 e577 a577 hfs578 w573 z573
  refine x_iconst 2 (by decide) dL_limits_294 ?_
  refine x_icmp_ne_n 309 dL_limits_295 (by decide) (by decide) ?_
  refine x_aload_n 2 dL_limits_298 rfl rfl ?_
  obtain ⟨q579, St579, bf579, h579, g579⟩ := w577.ci
  have e579 : F_X5_entries N f577 h.2 = some 159 := ((q_entries (N := N) h579).trans (congrArg some tf_408))
  obtain ⟨fs580, hfs580⟩ := w577.ob
  refine x_callv (As := []) (rest := []) 6129 344754 dL_limits_299 mi_X5_entries ml_L_143 rfl rfl (Nat.le_of_ble_eq_true rfl) ⟨by decide, by decide⟩ (by omega) (by omega) hfs580 rfl (c_X5_entries N _ _ _ _ e579) (x_K.some ?_) x_KX.none
  clear h579 g579 e579 hfs580
  refine x_bipush 74 (by decide) dL_limits_302 ?_
  refine x_iload_n 0 dL_limits_304 rfl rfl ?_
  refine x_iadd dL_limits_305 ?_
  refine x_toX (st' := [.int 159, .int 159]) rfl ?_
  refine x_icmp_eq_y 311 dL_limits_306 (by decide) (by decide) ?_
  refine x_iinc 86 (lv' := [(1, .int 86), (2, .int 12), (0, .ref h.2)]) dL_limits_311 0 rfl (by decide) (by decide) rfl ?_
  refine x_goto 279 dL_limits_314 (by decide) ?_
  refine x_iload_n 0 dL_limits_279 rfl rfl ?_
  refine x_bipush 87 (by decide) dL_limits_280 ?_
  refine x_icmp_ge_n 317 dL_limits_282 (by decide) (by decide) ?_
  refine x_aload_n 2 dL_limits_285 rfl rfl ?_
  refine x_bipush 100 (by decide) dL_limits_286 ?_
  refine x_iload_n 0 dL_limits_288 rfl rfl ?_
  refine x_iadd dL_limits_289 ?_
  refine x_toX (st' := [.int 186, .ref h.2]) rfl ?_
  refine x_iload_n 0 dL_limits_290 rfl rfl ?_
  refine x_dom (fun hd581 => ?_)
  obtain ⟨f581, m581, e581, a581, w581⟩ := k_dd5 hN (by omega) w577 hd581 (z577.le w577 hd581) (a := 186) (b := 86) (v := 2) (S' := (k_of (k_lx 87))) (k_ck5_sp k_lz_86).1 (k_ck5_sp k_lz_86).2
  have z581 := z577.st a581
  obtain ⟨P581, w581⟩ : ∃ P, k_wd h.2 (h.2 + 70) 184 (k_of (k_lx 87)) P (fun _ => none) [] f581 := ⟨_, w581⟩
  obtain ⟨fs582, hfs582⟩ := w577.ob
  refine x_callv (As := [.int 186, .int 86]) (rest := []) 6095 342839 dL_limits_291 mi_X5_insert ml_L_47 rfl rfl (Nat.le_of_ble_eq_true rfl) ⟨by decide, by decide⟩ (by omega) (by omega) hfs582 rfl (c_X5_insert N _ _ _ _ _ e581) (x_K.some ?_) x_KX.none
  refine x_toX (st' := [.int 2]) rfl ?_
  clear hd581 e581 a581 hfs582 w577 z577
  refine x_iconst 2 (by decide) dL_limits_294 ?_
  refine x_icmp_ne_n 309 dL_limits_295 (by decide) (by decide) ?_
  refine x_aload_n 2 dL_limits_298 rfl rfl ?_
  obtain ⟨q583, St583, bf583, h583, g583⟩ := w581.ci
  have e583 : F_X5_entries N f581 h.2 = some 160 := ((q_entries (N := N) h583).trans (congrArg some tf_409))
  obtain ⟨fs584, hfs584⟩ := w581.ob
  refine x_callv (As := []) (rest := []) 6095 342839 dL_limits_299 mi_X5_entries ml_L_143 rfl rfl (Nat.le_of_ble_eq_true rfl) ⟨by decide, by decide⟩ (by omega) (by omega) hfs584 rfl (c_X5_entries N _ _ _ _ e583) (x_K.some ?_) x_KX.none
  clear h583 g583 e583 hfs584
  refine x_bipush 74 (by decide) dL_limits_302 ?_
  refine x_iload_n 0 dL_limits_304 rfl rfl ?_
  refine x_iadd dL_limits_305 ?_
  refine x_toX (st' := [.int 160, .int 160]) rfl ?_
  refine x_icmp_eq_y 311 dL_limits_306 (by decide) (by decide) ?_
  refine x_iinc 87 (lv' := [(1, .int 87), (2, .int 12), (0, .ref h.2)]) dL_limits_311 0 rfl (by decide) (by decide) rfl ?_
  refine x_goto 279 dL_limits_314 (by decide) ?_
  refine x_iload_n 0 dL_limits_279 rfl rfl ?_
  refine x_bipush 87 (by decide) dL_limits_280 ?_
  refine x_icmp_ge_y 317 dL_limits_282 (by decide) (by decide) ?_
  refine x_aload_n 2 dL_limits_317 rfl rfl ?_
  obtain ⟨q585, St585, bf585, h585, g585⟩ := w581.ci
  have e585 : F_X5_entries N f581 h.2 = some 160 := ((q_entries (N := N) h585).trans (congrArg some tf_409))
  obtain ⟨fs586, hfs586⟩ := w581.ob
  refine x_callv (As := []) (rest := []) 6095 342839 dL_limits_318 mi_X5_entries ml_L_143 rfl rfl (Nat.le_of_ble_eq_true rfl) ⟨by decide, by decide⟩ (by omega) (by omega) hfs586 rfl (c_X5_entries N _ _ _ _ e585) (x_K.some ?_) x_KX.none
  clear h585 g585 e585 hfs586
  refine x_sipush 160 (by decide) dL_limits_321 ?_
  refine x_icmp_ne_n 439 dL_limits_324 (by decide) (by decide) ?_
  refine x_aload_n 2 dL_limits_327 rfl rfl ?_
  refine x_iconst 5 (by decide) dL_limits_328 ?_
  refine x_sipush 5000 (by decide) dL_limits_329 ?_
  refine x_iconst 1 (by decide) dL_limits_332 ?_
  refine x_dom (fun hd588 => ?_)
  obtain ⟨f588, e588, a588, w588⟩ := k_rf5_1 hN (by omega) w581 hd588 (z581.le w581 hd588) (a := 5000) (b := 1) tf_410
  have z588 := z581.st a588
  refine x_callsH (As := [.ref h.2, .int 5, .int 5000, .int 1]) (rest := []) 6061 340924 dL_limits_333 mi_L_call rfl ml_L_182 rfl rfl (Nat.le_of_ble_eq_true rfl) ⟨by decide, by decide⟩ (by omega) (by omega) (c_L_call N _ _ _ _ _ _ e588) (fun n588 => ?_)
  refine x_toX (st' := [.int (-2013)]) rfl ?_
  clear hd588 e588 a588 w581 z581
  refine x_sipush (-2013) (by decide) dL_limits_336 ?_
  refine x_icmp_ne_n 439 dL_limits_339 (by decide) (by decide) ?_
  refine x_aload_n 2 dL_limits_342 rfl rfl ?_
  refine x_bipush 100 (by decide) dL_limits_343 ?_
  refine x_iconst 5 (by decide) dL_limits_345 ?_
  refine x_dom (fun hd589 => ?_)
  obtain ⟨f589, m589, e589, a589, w589⟩ := k_dd5 hN (by omega) w588 hd589 (z588.le w588 hd589) (a := 100) (b := 5) (v := 0) (S' := (k_of L_117)) tf_411 (k_eqb_sp tf_412)
  have z589 := z588.st a589
  obtain ⟨P589, w589⟩ : ∃ P, k_wd h.2 (h.2 + 70) 185 (k_of L_117) P (fun _ => none) [] f589 := ⟨_, w589⟩
  obtain ⟨fs590, hfs590⟩ := w588.ob
  refine x_callv (As := [.int 100, .int 5]) (rest := []) 6027 339009 dL_limits_346 mi_X5_insert ml_L_47 rfl rfl (Nat.le_of_ble_eq_true rfl) ⟨by decide, by decide⟩ (by omega) (by omega) hfs590 rfl (c_X5_insert N _ _ _ _ _ e589) (x_K.some ?_) x_KX.none
  refine x_toX (st' := [.int 0]) rfl ?_
  clear hd589 e589 a589 hfs590 w588 z588
  refine x_if_ne_n 439 dL_limits_349 (by decide) (by decide) ?_
  refine x_aload_n 2 dL_limits_352 rfl rfl ?_
  refine x_sipush 5000 (by decide) dL_limits_353 ?_
  refine x_iconst 1 (by decide) dL_limits_356 ?_
  refine x_dom (fun hd591 => ?_)
  obtain ⟨f591, m591, e591, a591, w591⟩ := k_dd0 hN (by omega) w589 hd591 (z589.le w589 hd591) (a := 5000) (b := 1) (v := 1) (S' := (k_of L_118)) tf_413 (k_eqb_sp tf_414)
  have z591 := z589.st a591
  obtain ⟨P591, w591⟩ : ∃ P, k_wd h.2 (h.2 + 70) 186 (k_of L_118) P (fun _ => none) [] f591 := ⟨_, w591⟩
  obtain ⟨fs592, hfs592⟩ := w589.ob
  refine x_callv (As := [.int 5000, .int 1]) (rest := []) 5993 337094 dL_limits_357 mi_X5_put ml_L_27 rfl rfl (Nat.le_of_ble_eq_true rfl) ⟨by decide, by decide⟩ (by omega) (by omega) hfs592 rfl (c_X5_put N _ _ _ _ _ e591) (x_K.some ?_) x_KX.none
  refine x_toX (st' := [.int 1]) rfl ?_
  clear hd591 e591 a591 hfs592 w589 z589
  refine x_iconst 1 (by decide) dL_limits_360 ?_
  refine x_icmp_ne_n 439 dL_limits_361 (by decide) (by decide) ?_
  refine x_aload_n 2 dL_limits_364 rfl rfl ?_
  refine x_iconst 4 (by decide) dL_limits_365 ?_
  refine x_bipush 100 (by decide) dL_limits_366 ?_
  refine x_iconst 0 (by decide) dL_limits_368 ?_
  refine x_dom (fun hd594 => ?_)
  obtain ⟨f594, e594, a594, w594⟩ := k_rf4_1 hN (by omega) w591 hd594 (z591.le w591 hd594) (a := 100) (b := 0) (k_ac4_no tf_415 tf_416)
  have z594 := z591.st a594
  refine x_callsH (As := [.ref h.2, .int 4, .int 100, .int 0]) (rest := []) 5959 335179 dL_limits_369 mi_L_call rfl ml_L_182 rfl rfl (Nat.le_of_ble_eq_true rfl) ⟨by decide, by decide⟩ (by omega) (by omega) (c_L_call N _ _ _ _ _ _ e594) (fun n594 => ?_)
  refine x_toX (st' := [.int (-2013)]) rfl ?_
  clear hd594 e594 a594 w591 z591
  refine x_sipush (-2013) (by decide) dL_limits_372 ?_
  refine x_icmp_ne_n 439 dL_limits_375 (by decide) (by decide) ?_
  refine x_aload_n 2 dL_limits_378 rfl rfl ?_
  refine x_bipush 100 (by decide) dL_limits_379 ?_
  obtain ⟨f595, e595, a595, w595⟩ := w594.q1 (G := fun f1 => qm (qa_lb (k_of L_118) 100) f1) (fun q St bf h => q_lb hN h w594.gd.1 100)
  rw [qq_lb_of tf_415 100, tf_417] at e595
  replace e595 : F_X5_leavesIfBuilt N f594 h.2 100 = some (.inl (21, f595)) := e595
  have z595 := z594.st a595
  obtain ⟨fs596, hfs596⟩ := w594.ob
  refine x_callv (As := [.int 100]) (rest := []) 5958 335173 dL_limits_381 mi_X5_leavesIfBuilt ml_L_133 rfl rfl (Nat.le_of_ble_eq_true rfl) ⟨by decide, by decide⟩ (by omega) (by omega) hfs596 rfl (c_X5_leavesIfBuilt N _ _ _ _ _ e595) (x_K.some ?_) x_KX.none
  refine x_toX (st' := [.int 21]) rfl ?_
  clear e595 a595 hfs596 w594 z594
  refine x_bipush 21 (by decide) dL_limits_384 ?_
  refine x_icmp_ne_n 439 dL_limits_386 (by decide) (by decide) ?_
  refine x_aload_n 2 dL_limits_389 rfl rfl ?_
  refine x_bipush 100 (by decide) dL_limits_390 ?_
  refine x_dom (fun hd597 => ?_)
  obtain ⟨f597, m597, e597, a597, w597⟩ := k_dd1 hN (by omega) w595 hd597 (z595.le w595 hd597) (a := 100) (b := 0) (v := 2) (S' := (k_of L_119)) tf_418 (k_eqb_sp tf_419)
  have z597 := z595.st a597
  obtain ⟨P597, w597⟩ : ∃ P, k_wd h.2 (h.2 + 70) 187 (k_of L_119) P (fun _ => none) [] f597 := ⟨_, w597⟩
  obtain ⟨fs598, hfs598⟩ := w595.ob
  refine x_callv (As := [.int 100]) (rest := []) 5925 333264 dL_limits_392 mi_X5_drop ml_L_33 rfl rfl (Nat.le_of_ble_eq_true rfl) ⟨by decide, by decide⟩ (by omega) (by omega) hfs598 rfl (c_X5_drop N _ _ _ _ e597) (x_K.some ?_) x_KX.none
  refine x_toX (st' := [.int 2]) rfl ?_
  clear hd597 e597 a597 hfs598 w595 z595
  refine x_iconst 2 (by decide) dL_limits_395 ?_
  refine x_icmp_ne_n 439 dL_limits_396 (by decide) (by decide) ?_
  refine x_aload_n 2 dL_limits_399 rfl rfl ?_
  refine x_bipush 100 (by decide) dL_limits_400 ?_
  refine x_dom (fun hd599 => ?_)
  obtain ⟨f599, m599, e599, a599, w599⟩ := k_dd4 hN (by omega) w597 hd599 (z597.le w597 hd599) (a := 100) (b := 0) (v := 20) (S' := (k_of L_120)) ((k_ac4_of (b := 0) tf_420 tf_421 tf_422 w597.gd.1).1.trans (congrArg Sum.inl tf_423)) (k_ac4_of (b := 0) tf_420 tf_421 tf_422 w597.gd.1).2
  have z599 := z597.st a599
  obtain ⟨P599, w599⟩ : ∃ P, k_wd h.2 (h.2 + 70) 188 (k_of L_120) P (fun _ => none) [] f599 := ⟨_, w599⟩
  obtain ⟨fs600, hfs600⟩ := w597.ob
  refine x_callv (As := [.int 100]) (rest := []) 5892 331355 dL_limits_402 mi_X5_build ml_L_44 rfl rfl (Nat.le_of_ble_eq_true rfl) ⟨by decide, by decide⟩ (by omega) (by omega) hfs600 rfl (c_X5_build N _ _ _ _ e599) (x_K.some ?_) x_KX.none
  refine x_toX (st' := [.int 20]) rfl ?_
  clear hd599 e599 a599 hfs600 w597 z597
  refine x_bipush 20 (by decide) dL_limits_405 ?_
  refine x_icmp_ne_n 439 dL_limits_407 (by decide) (by decide) ?_
  refine x_aload_n 2 dL_limits_410 rfl rfl ?_
  obtain ⟨q601, St601, bf601, h601, g601⟩ := w599.ci
  have e601 : F_X5_levels N f599 h.2 = some 3 := ((q_levels hN h601 g601).trans (congrArg some tf_424))
  obtain ⟨fs602, hfs602⟩ := w599.ob
  refine x_callv (As := []) (rest := []) 5892 331355 dL_limits_411 mi_X5_levels ml_L_179 rfl rfl (Nat.le_of_ble_eq_true rfl) ⟨by decide, by decide⟩ (by omega) (by omega) hfs602 rfl (c_X5_levels N _ _ _ _ e601) (x_K.some ?_) x_KX.none
  clear h601 g601 e601 hfs602
  refine x_iconst 3 (by decide) dL_limits_414 ?_
  refine x_icmp_ne_n 439 dL_limits_415 (by decide) (by decide) ?_
  refine x_aload_n 2 dL_limits_418 rfl rfl ?_
  refine x_bipush 6 (by decide) dL_limits_419 ?_
  refine x_dom (fun hd603 => ?_)
  obtain ⟨f603, m603, e603, a603, w603⟩ := k_dd8 hN (by omega) w599 hd603 (z599.le w599 hd603) (a := 6) (b := 0) (v := 3) (S' := (k_of L_121)) tf_425 (k_eqb_sp tf_426)
  have z603 := z599.st a603
  obtain ⟨P603, w603⟩ : ∃ P, k_wd h.2 (h.2 + 70) 189 (k_of L_121) P (fun _ => none) [] f603 := ⟨_, w603⟩
  obtain ⟨fs604, hfs604⟩ := w599.ob
  refine x_callv (As := [.int 6]) (rest := []) 5860 329452 dL_limits_421 mi_X5_changeFan ml_L_56 rfl rfl (Nat.le_of_ble_eq_true rfl) ⟨by decide, by decide⟩ (by omega) (by omega) hfs604 rfl (c_X5_changeFan N _ _ _ _ e603) (x_K.some ?_) x_KX.none
  refine x_toX (st' := [.int 3]) rfl ?_
  clear hd603 e603 a603 hfs604 w599 z599
  refine x_iconst 3 (by decide) dL_limits_424 ?_
  refine x_icmp_ne_n 439 dL_limits_425 (by decide) (by decide) ?_
  refine x_aload_n 2 dL_limits_428 rfl rfl ?_
  refine x_callsQ (As := [.ref h.2]) (rest := []) 0 0 dL_limits_429 mi_L_refused rfl ml_L_215 rfl rfl (Nat.le_of_ble_eq_true rfl) ⟨by decide, by decide⟩ (by omega) (by omega) (c_refused (f0 := _) hN (by omega) (f603, m603) w603 z603) (fun v605 f605 n605 hq605 => ?_)
  obtain ⟨rfl, w605, z605⟩ := hq605
  refine x_toX (st' := [.int 1]) rfl ?_
  clear w603 z603
  refine x_if_eq_n 439 dL_limits_432 (by decide) (by decide) ?_
  refine x_iconst 1 (by decide) dL_limits_435 ?_
  refine x_goto 440 dL_limits_436 (by decide) ?_
  exact x_zretq dL_limits_440 rfl (Or.inr rfl) rfl
