/-! All refusals; what a tree is. Laid by wip/p55/gen_refused.py. -/
section KRD
variable {N : Nat} {x wz c : Nat} {S : KS} {P : List KS} {K : Nat → Option KS} {T : List Int32} {f0 : XM}
set_option maxRecDepth 20000 in
set_option maxHeartbeats 4000000 in
theorem c_refused (hN : 50000 ≤ N) (hc : c < 351) (h : XH) (w0 : k_wd x wz c S P K [] h.1) (z0 : k_Zf x wz f0 h.1) : x_Cq mL_refused 11 271 5860 329452 [.ref x] h (fun v f' => v = some (.int 1) ∧ k_wd x wz c S P K [] f' ∧ k_Zf x wz f0 f') := by
  refine x_cq (by decide) rfl (Nat.le_of_ble_eq_true rfl) ?_
  show X mL_refused 11 271 _ _ 5860 329452 0 [(0, .ref x)] [] (h.1, h.2)
  refine x_aload_n 0 dL_refused_0 rfl rfl ?_
  obtain ⟨f1, e1, a1, w1⟩ := k_digs hN w0
  have z1 := z0.st a1
  obtain ⟨fs2, hfs2⟩ := w0.ob
  refine x_callv (As := []) (rest := []) 5860 329452 dL_refused_1 mi_X5_digest ml_L_192 rfl rfl (Nat.le_of_ble_eq_true rfl) ⟨by decide, by decide⟩ (by omega) (by omega) hfs2 rfl (c_X5_digest N _ _ _ _ e1) (x_K.some ?_) x_KX.none
  refine x_lstore_n (i := 1) (lv' := [(1, .long (k_dig S P K [])), (0, .ref x)]) dL_refused_4 rfl (by decide) rfl ?_
  refine x_iconst 0 (by decide) dL_refused_5 ?_
  refine x_istore_n (i := 3) (lv' := [(3, .int 0), (1, .long (k_dig S P K [])), (0, .ref x)]) dL_refused_6 rfl (by decide) rfl ?_
  refine x_iload_n 0 dL_refused_7 rfl rfl ?_
  refine x_iconst 4 (by decide) dL_refused_8 ?_
  refine x_icmp_ge_n 28 dL_refused_9 (by decide) (by decide) ?_
  refine x_aload_n 2 dL_refused_12 rfl rfl ?_
  refine x_iload_n 0 dL_refused_13 rfl rfl ?_
  refine x_callsQ (As := [.ref x, .int 0]) (rest := []) 4395 247089 dL_refused_14 mi_L_refusesOne rfl ml_L_196 rfl rfl (Nat.le_of_ble_eq_true rfl) ⟨by decide, by decide⟩ (by omega) (by omega) (c_refusesOne (f0 := f0) hN hc (f1, h.2) w1 z1) (fun v3 f3 n3 hq3 => ?_)
  obtain ⟨rfl, w3, z3⟩ := hq3
  refine x_toX (st' := [.int 1]) rfl ?_
  refine x_if_ne_y 22 dL_refused_17 (by decide) (by decide) ?_
  refine x_iinc 1 (lv' := [(3, .int 1), (1, .long (k_dig S P K [])), (0, .ref x)]) dL_refused_22 0 rfl (by decide) (by decide) rfl ?_
  refine x_goto 7 dL_refused_25 (by decide) ?_
  refine x_iload_n 0 dL_refused_7 rfl rfl ?_
  refine x_iconst 4 (by decide) dL_refused_8 ?_
  refine x_icmp_ge_n 28 dL_refused_9 (by decide) (by decide) ?_
  refine x_aload_n 2 dL_refused_12 rfl rfl ?_
  refine x_iload_n 0 dL_refused_13 rfl rfl ?_
  refine x_callsQ (As := [.ref x, .int 1]) (rest := []) 2930 164726 dL_refused_14 mi_L_refusesOne rfl ml_L_196 rfl rfl (Nat.le_of_ble_eq_true rfl) ⟨by decide, by decide⟩ (by omega) (by omega) (c_refusesOne (f0 := f0) hN hc (f3, n3) w3 z3) (fun v4 f4 n4 hq4 => ?_)
  obtain ⟨rfl, w4, z4⟩ := hq4
  refine x_toX (st' := [.int 1]) rfl ?_
  refine x_if_ne_y 22 dL_refused_17 (by decide) (by decide) ?_
  refine x_iinc 2 (lv' := [(3, .int 2), (1, .long (k_dig S P K [])), (0, .ref x)]) dL_refused_22 0 rfl (by decide) (by decide) rfl ?_
  refine x_goto 7 dL_refused_25 (by decide) ?_
  refine x_iload_n 0 dL_refused_7 rfl rfl ?_
  refine x_iconst 4 (by decide) dL_refused_8 ?_
  refine x_icmp_ge_n 28 dL_refused_9 (by decide) (by decide) ?_
  refine x_aload_n 2 dL_refused_12 rfl rfl ?_
  refine x_iload_n 0 dL_refused_13 rfl rfl ?_
  refine x_callsQ (As := [.ref x, .int 2]) (rest := []) 1465 82363 dL_refused_14 mi_L_refusesOne rfl ml_L_196 rfl rfl (Nat.le_of_ble_eq_true rfl) ⟨by decide, by decide⟩ (by omega) (by omega) (c_refusesOne (f0 := f0) hN hc (f4, n4) w4 z4) (fun v5 f5 n5 hq5 => ?_)
  obtain ⟨rfl, w5, z5⟩ := hq5
  refine x_toX (st' := [.int 1]) rfl ?_
  refine x_if_ne_y 22 dL_refused_17 (by decide) (by decide) ?_
  refine x_iinc 3 (lv' := [(3, .int 3), (1, .long (k_dig S P K [])), (0, .ref x)]) dL_refused_22 0 rfl (by decide) (by decide) rfl ?_
  refine x_goto 7 dL_refused_25 (by decide) ?_
  refine x_iload_n 0 dL_refused_7 rfl rfl ?_
  refine x_iconst 4 (by decide) dL_refused_8 ?_
  refine x_icmp_ge_n 28 dL_refused_9 (by decide) (by decide) ?_
  refine x_aload_n 2 dL_refused_12 rfl rfl ?_
  refine x_iload_n 0 dL_refused_13 rfl rfl ?_
  refine x_callsQ (As := [.ref x, .int 3]) (rest := []) 0 0 dL_refused_14 mi_L_refusesOne rfl ml_L_196 rfl rfl (Nat.le_of_ble_eq_true rfl) ⟨by decide, by decide⟩ (by omega) (by omega) (c_refusesOne (f0 := f0) hN hc (f5, n5) w5 z5) (fun v6 f6 n6 hq6 => ?_)
  obtain ⟨rfl, w6, z6⟩ := hq6
  refine x_toX (st' := [.int 1]) rfl ?_
  refine x_if_ne_y 22 dL_refused_17 (by decide) (by decide) ?_
  refine x_iinc 4 (lv' := [(3, .int 4), (1, .long (k_dig S P K [])), (0, .ref x)]) dL_refused_22 0 rfl (by decide) (by decide) rfl ?_
  refine x_goto 7 dL_refused_25 (by decide) ?_
  refine x_iload_n 0 dL_refused_7 rfl rfl ?_
  refine x_iconst 4 (by decide) dL_refused_8 ?_
  refine x_icmp_ge_y 28 dL_refused_9 (by decide) (by decide) ?_
  refine x_aload_n 2 dL_refused_28 rfl rfl ?_
  obtain ⟨f7, e7, a7, w7⟩ := k_digs hN w6
  have z7 := z6.st a7
  obtain ⟨fs8, hfs8⟩ := w6.ob
  refine x_callv (As := []) (rest := []) 0 0 dL_refused_29 mi_X5_digest ml_L_192 rfl rfl (Nat.le_of_ble_eq_true rfl) ⟨by decide, by decide⟩ (by omega) (by omega) hfs8 rfl (c_X5_digest N _ _ _ _ e7) (x_K.some ?_) x_KX.none
  refine x_lload_n 1 dL_refused_32 rfl rfl ?_
  refine x_lcmp dL_refused_33 ?_
  refine x_if_ne_n 41 dL_refused_34 (by decide) (k_lgc _) ?_
  refine x_iconst 1 (by decide) dL_refused_37 ?_
  refine x_goto 42 dL_refused_38 (by decide) ?_
  exact x_zretq dL_refused_42 rfl (Or.inr rfl) ⟨rfl, w7, z7⟩
set_option maxRecDepth 20000 in
set_option maxHeartbeats 4000000 in
theorem c_is (hN : 50000 ≤ N) (h : XH) (w0 : k_wd x wz c S P K T h.1) (z0 : k_Zf x wz f0 h.1) {p1 p2 p3 p4 p5 p6 : Int32} (hh1 : nI S.2.2.1.1.1 = p1) (hh2 : nI S.2.2.1.2.2.1 = p2) (hh3 : nI (k_tlv S.2.2.1) = p3) (hh4 : k_iv (k_as 25 S p4 0) = p5) (hh5 : k_iv (k_as 27 S p4 0) = p6) (hh6 : k_iv (k_as 28 S p4 0) = (p6 + 3) / 4) : x_Cq mL_is 10 245 102 5745 [.ref x, .int p1, .int p2, .int p3, .int p4, .int p5, .int p6] h (fun v f' => v = some (.int 1) ∧ k_wd x wz c S P K T f' ∧ k_Zf x wz f0 f') := by
  refine x_cq (by decide) rfl (Nat.le_of_ble_eq_true rfl) ?_
  show X mL_is 10 245 _ _ 102 5745 0 [(0, .ref x), (1, .int p1), (2, .int p2), (3, .int p3), (4, .int p4), (5, .int p5), (6, .int p6)] [] (h.1, h.2)
  refine x_aload_n 0 dL_is_0 rfl rfl ?_
  obtain ⟨q1, St1, bf1, h1, g1⟩ := w0.ci
  obtain ⟨fs2, hfs2⟩ := w0.ob
  refine x_callv (As := []) (rest := []) 102 5745 dL_is_1 mi_X5_entries ml_L_143 rfl rfl (Nat.le_of_ble_eq_true rfl) ⟨by decide, by decide⟩ (by omega) (by omega) hfs2 rfl (c_X5_entries N _ _ _ _ (q_entries (N := N) h1)) (x_K.some ?_) x_KX.none
  refine x_iload_n 1 dL_is_4 rfl rfl ?_
  refine x_icmp_ne_n 74 dL_is_5 (by decide) hh1 ?_
  refine x_aload_n 0 dL_is_8 rfl rfl ?_
  obtain ⟨q3, St3, bf3, h3, g3⟩ := w0.ci
  obtain ⟨fs4, hfs4⟩ := w0.ob
  refine x_callv (As := []) (rest := []) 102 5745 dL_is_9 mi_X5_leaves ml_L_146 rfl rfl (Nat.le_of_ble_eq_true rfl) ⟨by decide, by decide⟩ (by omega) (by omega) hfs4 rfl (c_X5_leaves N _ _ _ _ (q_leaves (N := N) h3)) (x_K.some ?_) x_KX.none
  refine x_iload_n 2 dL_is_12 rfl rfl ?_
  refine x_icmp_ne_n 74 dL_is_13 (by decide) hh2 ?_
  refine x_aload_n 0 dL_is_16 rfl rfl ?_
  obtain ⟨q5, St5, bf5, h5, g5⟩ := w0.ci
  obtain ⟨fs6, hfs6⟩ := w0.ob
  refine x_callv (As := []) (rest := []) 102 5745 dL_is_17 mi_X5_levels ml_L_179 rfl rfl (Nat.le_of_ble_eq_true rfl) ⟨by decide, by decide⟩ (by omega) (by omega) hfs6 rfl (c_X5_levels N _ _ _ _ (q_levels hN h5 g5)) (x_K.some ?_) x_KX.none
  refine x_iload_n 3 dL_is_20 rfl rfl ?_
  refine x_icmp_ne_n 74 dL_is_21 (by decide) hh3 ?_
  refine x_aload_n 0 dL_is_24 rfl rfl ?_
  refine x_bipush 25 (by decide) dL_is_25 ?_
  refine x_iload 4 dL_is_27 rfl ?_
  refine x_iconst 0 (by decide) dL_is_29 ?_
  refine x_dom (fun hd8 => ?_)
  obtain ⟨f8, e8, a8, w8⟩ := k_cl25 (hs := h.2) hN w0 p4 0
  have z8 := z0.st a8
  refine x_callsH (As := [.ref x, .int 25, .int p4, .int 0]) (rest := []) 68 3830 dL_is_30 mi_L_call rfl ml_L_182 rfl rfl (Nat.le_of_ble_eq_true rfl) ⟨by decide, by decide⟩ (by omega) (by omega) (c_L_call N _ _ _ _ _ _ e8) (fun n8 => ?_)
  refine x_toX (st' := [.int (k_iv (k_as 25 S p4 0))]) rfl ?_
  refine x_iload 5 dL_is_33 rfl ?_
  refine x_icmp_ne_n 74 dL_is_35 (by decide) hh4 ?_
  refine x_aload_n 0 dL_is_38 rfl rfl ?_
  refine x_bipush 27 (by decide) dL_is_39 ?_
  refine x_iload 4 dL_is_41 rfl ?_
  refine x_iconst 0 (by decide) dL_is_43 ?_
  refine x_dom (fun hd10 => ?_)
  obtain ⟨f10, e10, a10, w10⟩ := k_cl27 (hs := n8) hN w8 p4 0
  have z10 := z8.st a10
  refine x_callsH (As := [.ref x, .int 27, .int p4, .int 0]) (rest := []) 34 1915 dL_is_44 mi_L_call rfl ml_L_182 rfl rfl (Nat.le_of_ble_eq_true rfl) ⟨by decide, by decide⟩ (by omega) (by omega) (c_L_call N _ _ _ _ _ _ e10) (fun n10 => ?_)
  refine x_toX (st' := [.int (k_iv (k_as 27 S p4 0))]) rfl ?_
  refine x_iload 6 dL_is_47 rfl ?_
  refine x_icmp_ne_n 74 dL_is_49 (by decide) hh5 ?_
  refine x_aload_n 0 dL_is_52 rfl rfl ?_
  refine x_bipush 28 (by decide) dL_is_53 ?_
  refine x_iload 4 dL_is_55 rfl ?_
  refine x_iconst 0 (by decide) dL_is_57 ?_
  refine x_dom (fun hd12 => ?_)
  obtain ⟨f12, e12, a12, w12⟩ := k_cl28 (hs := n10) hN w10 p4 0
  have z12 := z10.st a12
  refine x_callsH (As := [.ref x, .int 28, .int p4, .int 0]) (rest := []) 0 0 dL_is_58 mi_L_call rfl ml_L_182 rfl rfl (Nat.le_of_ble_eq_true rfl) ⟨by decide, by decide⟩ (by omega) (by omega) (c_L_call N _ _ _ _ _ _ e12) (fun n12 => ?_)
  refine x_toX (st' := [.int (k_iv (k_as 28 S p4 0))]) rfl ?_
  refine x_iload 6 dL_is_61 rfl ?_
  refine x_iconst 3 (by decide) dL_is_63 ?_
  refine x_iadd dL_is_64 ?_
  refine x_iconst 4 (by decide) dL_is_65 ?_
  refine x_idiv (f := fun v => some v) (w := (p6 + 3) / 4) dL_is_66 (by unfold x_div; rw [if_neg (by decide)]; rfl) (fun v9 h9 => ?_)
  cases h9
  refine x_icmp_ne_n 74 dL_is_67 (by decide) hh6 ?_
  refine x_iconst 1 (by decide) dL_is_70 ?_
  refine x_goto 75 dL_is_71 (by decide) ?_
  exact x_zretq dL_is_75 rfl (Or.inr rfl) ⟨rfl, w12, z12⟩
end KRD
