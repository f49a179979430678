/-! One round of refusals, and all of them. Laid by wip/p55/gen_refone.py. -/
section KRO
variable {N : Nat} {k : Int32} {x wz c : Nat} {S : KS} {P : List KS} {K : Nat → Option KS} {f0 : XM}
set_option maxRecDepth 20000 in
set_option maxHeartbeats 4000000 in
theorem ro_532 (hN : 50000 ≤ N) (hc : c < 351) (f : XM) (n : Nat) {rc rs : Nat} (w0 : k_wd x wz c S P K [] f) (z0 : k_Zf x wz f0 f) : X mL_refusesOne 10 245 (x_endq (fun v f' => v = some (.int 1) ∧ k_wd x wz c S P K [] f' ∧ k_Zf x wz f0 f')) x_noRO (rc + 139) (rs + 7678) 532 [(0, .ref x), (1, .int k), (2, .int (k_far k 0 9999)), (3, .int (k_far k 0 (nI S.1))), (4, .int (k_far k 0 ((nI S.2.2.1.2.2.1) - 1))), (5, .int (k_far k 0 ((nI (k_tlv S.2.2.1)) - 1)))] [] (f, n) := by
  have c0 : (0 : Int32).toInt = 0 := rfl
  have c9 : (9999 : Int32).toInt = 9999 := rfl
  have c5 : (500 : Int32).toInt = 500 := rfl
  have c49 : (499 : Int32).toInt = 499 := rfl
  have hg := w0.gd.1
  have b1 := hg.1
  have b2 := hg.2.2.2.2.1.2.2.2.1
  have b3 : k_tlv S.2.2.1 ≤ 32 := k_lv_32 _ _ _
  have b4 : (k_all S).1 ≤ 532 := by
    obtain ⟨q9, St9, bf9, h9, g9⟩ := w0.ci
    exact (h9.okA (N := N) (by omega) g9).2
  have b5 : (S.2.1 (k_u 0)).1 ≤ 60 := by
    have := hg.2.2.1
    show (S.2.1 0).1 ≤ 60
    omega
  have b6 : k_own S.2.2.1 (k_u 0) ≤ 160 := Nat.le_trans (k_cnt_le _ _) hg.2.2.2.2.1.2.2.1
  have o_1 : (k_far k 0 9999).toInt < 0 ∨ 9999 < (k_far k 0 9999).toInt := k_far_o (by decide) (by decide) (by decide) (by decide)
  have o_2 : (k_far k 0 (nI S.1)).toInt < 0 ∨ (S.1 : Int) < (k_far k 0 (nI S.1)).toInt := by
    have h9 := k_far_o (k := k) (lo := 0) (hi := (nI S.1)) (by decide) (by rw [nI_toInt (by omega), c0]; omega) (by rw [nI_toInt (by omega)]; omega) (by rw [nI_toInt (by omega)]; omega)
    rw [nI_toInt (by omega), c0] at h9
    exact h9
  have o_3 : (k_far k 0 ((nI S.2.2.1.2.2.1) - 1)).toInt < 0 ∨ (S.2.2.1.2.2.1 : Int) - 1 < (k_far k 0 ((nI S.2.2.1.2.2.1) - 1)).toInt := by
    have h9 := k_far_o (k := k) (lo := 0) (hi := ((nI S.2.2.1.2.2.1) - 1)) (by decide) (by rw [k_ni1 (by omega), c0]; omega) (by rw [k_ni1 (by omega)]; omega) (by rw [k_ni1 (by omega)]; omega)
    rw [k_ni1 (by omega), c0] at h9
    exact h9
  have o_4 : (k_far k 0 ((nI (k_tlv S.2.2.1)) - 1)).toInt < 0 ∨ (k_tlv S.2.2.1 : Int) - 1 < (k_far k 0 ((nI (k_tlv S.2.2.1)) - 1)).toInt := by
    have h9 := k_far_o (k := k) (lo := 0) (hi := ((nI (k_tlv S.2.2.1)) - 1)) (by decide) (by rw [k_ni1 (by omega), c0]; omega) (by rw [k_ni1 (by omega)]; omega) (by rw [k_ni1 (by omega)]; omega)
    rw [k_ni1 (by omega), c0] at h9
    exact h9
  refine x_aload_n 0 dL_refusesOne_532 rfl rfl ?_
  refine x_bipush 32 (by decide) dL_refusesOne_533 ?_
  refine x_iload_n 2 dL_refusesOne_535 rfl rfl ?_
  refine x_iconst 0 (by decide) dL_refusesOne_536 ?_
  refine x_dom (fun hd1 => ?_)
  obtain ⟨f1, e1, a1, w1⟩ := k_cl32 (hs := n) hN w0 (k_far k 0 9999) 0
  rw [k_e32 (fun y => by obtain ⟨y1, y2⟩ := y; omega)] at e1
  have z1 := z0.st a1
  refine x_callsH (As := [.ref x, .int 32, .int (k_far k 0 9999), .int 0]) (rest := []) (rc + 105) (rs + 5763) dL_refusesOne_537 mi_L_call rfl ml_L_182 rfl rfl (Nat.le_of_ble_eq_true rfl) ⟨by decide, by decide⟩ (by omega) (by omega) (c_L_call N _ _ _ _ _ _ e1) (fun n1 => ?_)
  refine x_toX (st' := [.int (-2012)]) rfl ?_
  refine x_sipush (-2012) (by decide) dL_refusesOne_540 ?_
  refine x_icmp_ne_n 632 dL_refusesOne_543 (by decide) (by decide) ?_
  refine x_aload_n 0 dL_refusesOne_546 rfl rfl ?_
  refine x_bipush 23 (by decide) dL_refusesOne_547 ?_
  refine x_iconst 0 (by decide) dL_refusesOne_549 ?_
  refine x_iload_n 1 dL_refusesOne_550 rfl rfl ?_
  refine x_iconst 0 (by decide) dL_refusesOne_551 ?_
  refine x_aload_n 0 dL_refusesOne_552 rfl rfl ?_
  refine x_iconst 0 (by decide) dL_refusesOne_553 ?_
  obtain ⟨q2, St2, bf2, h2, g2⟩ := w1.ci
  have e2 : F_X5_sizeOf N f1 x 0 = some (.inl (nI (S.2.1 (k_u 0)).1)) := by
    rw [q_sz h2]
    unfold qa_sz
    rw [if_pos (by rw [c0]; omega)]
  obtain ⟨fs3, hfs3⟩ := w1.ob
  refine x_callv (As := [.int 0]) (rest := [.int 0, .int k, .int 0, .int 23, .ref x]) (rc + 104) (rs + 5757) dL_refusesOne_554 mi_X5_sizeOf ml_L_99 rfl rfl (Nat.le_of_ble_eq_true rfl) ⟨by decide, by decide⟩ (by omega) (by omega) hfs3 rfl (c_X5_sizeOf N _ _ _ _ _ e2) (x_K.some ?_) x_KX.none
  refine x_iconst 1 (by decide) dL_refusesOne_557 ?_
  refine x_isub dL_refusesOne_558 ?_
  have o4 : (k_far k 0 ((nI (S.2.1 (k_u 0)).1) - 1)).toInt < 0 ∨ ((S.2.1 (k_u 0)).1 : Int) - 1 < (k_far k 0 ((nI (S.2.1 (k_u 0)).1) - 1)).toInt := by
    have h9 := k_far_o (k := k) (lo := 0) (hi := ((nI (S.2.1 (k_u 0)).1) - 1)) (by decide) (by rw [k_ni1 (by omega), c0]; omega) (by rw [k_ni1 (by omega)]; omega) (by rw [k_ni1 (by omega)]; omega)
    rw [k_ni1 (by omega), c0] at h9
    exact h9
  refine x_calls (As := [.int k, .int 0, .int ((nI (S.2.1 (k_u 0)).1) - 1)]) (rest := [.int 0, .int 23, .ref x]) (rc + 104) (rs + 5757) dL_refusesOne_559 mi_L_far rfl ml_L_175 rfl rfl (Nat.le_of_ble_eq_true rfl) ⟨by decide, by decide⟩ (by omega) (by omega) (c_L_far N _ _ _ _ _ _ (k_farF k 0 ((nI (S.2.1 (k_u 0)).1) - 1))) (x_K.some ?_) x_KX.none
  refine x_dom (fun hd5 => ?_)
  obtain ⟨f5, e5, a5, w5⟩ := k_cl23 (hs := n1) hN w1 0 (k_far k 0 ((nI (S.2.1 (k_u 0)).1) - 1))
  rw [k_e23 (fun y => by omega)] at e5
  have z5 := z1.st a5
  refine x_callsH (As := [.ref x, .int 23, .int 0, .int (k_far k 0 ((nI (S.2.1 (k_u 0)).1) - 1))]) (rest := []) (rc + 70) (rs + 3842) dL_refusesOne_562 mi_L_call rfl ml_L_182 rfl rfl (Nat.le_of_ble_eq_true rfl) ⟨by decide, by decide⟩ (by omega) (by omega) (c_L_call N _ _ _ _ _ _ e5) (fun n5 => ?_)
  refine x_toX (st' := [.int (-2011)]) rfl ?_
  refine x_sipush (-2011) (by decide) dL_refusesOne_565 ?_
  refine x_icmp_ne_n 632 dL_refusesOne_568 (by decide) (by decide) ?_
  refine x_aload_n 0 dL_refusesOne_571 rfl rfl ?_
  refine x_bipush 24 (by decide) dL_refusesOne_572 ?_
  refine x_iconst 0 (by decide) dL_refusesOne_574 ?_
  refine x_iload_n 1 dL_refusesOne_575 rfl rfl ?_
  refine x_iconst 0 (by decide) dL_refusesOne_576 ?_
  refine x_aload_n 0 dL_refusesOne_577 rfl rfl ?_
  refine x_iconst 0 (by decide) dL_refusesOne_578 ?_
  obtain ⟨q6, St6, bf6, h6, g6⟩ := w5.ci
  have e6 : F_X5_sizeOf N f5 x 0 = some (.inl (nI (S.2.1 (k_u 0)).1)) := by
    rw [q_sz h6]
    unfold qa_sz
    rw [if_pos (by rw [c0]; omega)]
  obtain ⟨fs7, hfs7⟩ := w5.ob
  refine x_callv (As := [.int 0]) (rest := [.int 0, .int k, .int 0, .int 24, .ref x]) (rc + 69) (rs + 3836) dL_refusesOne_579 mi_X5_sizeOf ml_L_99 rfl rfl (Nat.le_of_ble_eq_true rfl) ⟨by decide, by decide⟩ (by omega) (by omega) hfs7 rfl (c_X5_sizeOf N _ _ _ _ _ e6) (x_K.some ?_) x_KX.none
  refine x_iconst 1 (by decide) dL_refusesOne_582 ?_
  refine x_isub dL_refusesOne_583 ?_
  have o8 : (k_far k 0 ((nI (S.2.1 (k_u 0)).1) - 1)).toInt < 0 ∨ ((S.2.1 (k_u 0)).1 : Int) - 1 < (k_far k 0 ((nI (S.2.1 (k_u 0)).1) - 1)).toInt := by
    have h9 := k_far_o (k := k) (lo := 0) (hi := ((nI (S.2.1 (k_u 0)).1) - 1)) (by decide) (by rw [k_ni1 (by omega), c0]; omega) (by rw [k_ni1 (by omega)]; omega) (by rw [k_ni1 (by omega)]; omega)
    rw [k_ni1 (by omega), c0] at h9
    exact h9
  refine x_calls (As := [.int k, .int 0, .int ((nI (S.2.1 (k_u 0)).1) - 1)]) (rest := [.int 0, .int 24, .ref x]) (rc + 69) (rs + 3836) dL_refusesOne_584 mi_L_far rfl ml_L_175 rfl rfl (Nat.le_of_ble_eq_true rfl) ⟨by decide, by decide⟩ (by omega) (by omega) (c_L_far N _ _ _ _ _ _ (k_farF k 0 ((nI (S.2.1 (k_u 0)).1) - 1))) (x_K.some ?_) x_KX.none
  refine x_dom (fun hd9 => ?_)
  obtain ⟨f9, e9, a9, w9⟩ := k_cl24 (hs := n5) hN w5 0 (k_far k 0 ((nI (S.2.1 (k_u 0)).1) - 1))
  rw [k_e24 (fun y => by omega)] at e9
  have z9 := z5.st a9
  refine x_callsH (As := [.ref x, .int 24, .int 0, .int (k_far k 0 ((nI (S.2.1 (k_u 0)).1) - 1))]) (rest := []) (rc + 35) (rs + 1921) dL_refusesOne_587 mi_L_call rfl ml_L_182 rfl rfl (Nat.le_of_ble_eq_true rfl) ⟨by decide, by decide⟩ (by omega) (by omega) (c_L_call N _ _ _ _ _ _ e9) (fun n9 => ?_)
  refine x_toX (st' := [.int (-2011)]) rfl ?_
  refine x_sipush (-2011) (by decide) dL_refusesOne_590 ?_
  refine x_icmp_ne_n 632 dL_refusesOne_593 (by decide) (by decide) ?_
  refine x_aload_n 0 dL_refusesOne_596 rfl rfl ?_
  obtain ⟨q10, St10, bf10, h10, g10⟩ := w9.ci
  obtain ⟨fs11, hfs11⟩ := w9.ob
  refine x_callv (As := []) (rest := []) (rc + 35) (rs + 1921) dL_refusesOne_597 mi_X5_leaves ml_L_146 rfl rfl (Nat.le_of_ble_eq_true rfl) ⟨by decide, by decide⟩ (by omega) (by omega) hfs11 rfl (c_X5_leaves N _ _ _ _ (q_leaves (N := N) h10)) (x_K.some ?_) x_KX.none
  by_cases hl9 : S.2.2.1.2.2.1 = 0
  · refine x_if_eq_y 628 dL_refusesOne_600 (by decide) (by rw [hl9]; rfl) ?_
    refine x_iconst 1 (by decide) dL_refusesOne_628 ?_
    refine x_goto 633 dL_refusesOne_629 (by decide) ?_
    exact x_zretq dL_refusesOne_633 rfl (Or.inr rfl) ⟨rfl, w9, z9⟩
  · refine x_if_eq_n 628 dL_refusesOne_600 (by decide) (nI_ne0 (by omega) (by omega)) ?_
    refine x_aload_n 0 dL_refusesOne_603 rfl rfl ?_
    refine x_bipush 26 (by decide) dL_refusesOne_604 ?_
    refine x_iconst 0 (by decide) dL_refusesOne_606 ?_
    refine x_iload_n 1 dL_refusesOne_607 rfl rfl ?_
    refine x_iconst 0 (by decide) dL_refusesOne_608 ?_
    refine x_aload_n 0 dL_refusesOne_609 rfl rfl ?_
    refine x_iconst 0 (by decide) dL_refusesOne_610 ?_
    obtain ⟨q612, St612, bf612, h612, g612⟩ := w9.ci
    have e612 : F_X5_entriesOf N f9 x 0 = some (.inl (nI (k_own S.2.2.1 (k_u 0)))) := by
      rw [q_own hN h612 g612]
      unfold qa_own
      rw [if_pos (by rw [c0]; omega)]
    obtain ⟨fs613, hfs613⟩ := w9.ob
    refine x_callv (As := [.int 0]) (rest := [.int 0, .int k, .int 0, .int 26, .ref x]) (rc + 34) (rs + 1915) dL_refusesOne_611 mi_X5_entriesOf ml_L_109 rfl rfl (Nat.le_of_ble_eq_true rfl) ⟨by decide, by decide⟩ (by omega) (by omega) hfs613 rfl (c_X5_entriesOf N _ _ _ _ _ e612) (x_K.some ?_) x_KX.none
    refine x_iconst 1 (by decide) dL_refusesOne_614 ?_
    refine x_isub dL_refusesOne_615 ?_
    have o614 : (k_far k 0 ((nI (k_own S.2.2.1 (k_u 0))) - 1)).toInt < 0 ∨ ((k_own S.2.2.1 (k_u 0)) : Int) - 1 < (k_far k 0 ((nI (k_own S.2.2.1 (k_u 0))) - 1)).toInt := by
      have h9 := k_far_o (k := k) (lo := 0) (hi := ((nI (k_own S.2.2.1 (k_u 0))) - 1)) (by decide) (by rw [k_ni1 (by omega), c0]; omega) (by rw [k_ni1 (by omega)]; omega) (by rw [k_ni1 (by omega)]; omega)
      rw [k_ni1 (by omega), c0] at h9
      exact h9
    refine x_calls (As := [.int k, .int 0, .int ((nI (k_own S.2.2.1 (k_u 0))) - 1)]) (rest := [.int 0, .int 26, .ref x]) (rc + 34) (rs + 1915) dL_refusesOne_616 mi_L_far rfl ml_L_175 rfl rfl (Nat.le_of_ble_eq_true rfl) ⟨by decide, by decide⟩ (by omega) (by omega) (c_L_far N _ _ _ _ _ _ (k_farF k 0 ((nI (k_own S.2.2.1 (k_u 0))) - 1))) (x_K.some ?_) x_KX.none
    refine x_dom (fun hd615 => ?_)
    obtain ⟨f615, e615, a615, w615⟩ := k_cl26 (hs := n9) hN w9 0 (k_far k 0 ((nI (k_own S.2.2.1 (k_u 0))) - 1))
    rw [k_e26 (fun y => by obtain ⟨y1, y2, y3⟩ := y; exact k_oe_gi (by omega) y3)] at e615
    have z615 := z9.st a615
    refine x_callsH (As := [.ref x, .int 26, .int 0, .int (k_far k 0 ((nI (k_own S.2.2.1 (k_u 0))) - 1))]) (rest := []) (rc + 0) (rs + 0) dL_refusesOne_619 mi_L_call rfl ml_L_182 rfl rfl (Nat.le_of_ble_eq_true rfl) ⟨by decide, by decide⟩ (by omega) (by omega) (c_L_call N _ _ _ _ _ _ e615) (fun n615 => ?_)
    refine x_toX (st' := [.int (-2011)]) rfl ?_
    refine x_sipush (-2011) (by decide) dL_refusesOne_622 ?_
    refine x_icmp_ne_n 632 dL_refusesOne_625 (by decide) (by decide) ?_
    refine x_iconst 1 (by decide) dL_refusesOne_628 ?_
    refine x_goto 633 dL_refusesOne_629 (by decide) ?_
    exact x_zretq dL_refusesOne_633 rfl (Or.inr rfl) ⟨rfl, w615, z615⟩
set_option maxRecDepth 20000 in
set_option maxHeartbeats 4000000 in
theorem ro_473 (hN : 50000 ≤ N) (hc : c < 351) (f : XM) (n : Nat) {rc rs : Nat} (w0 : k_wd x wz c S P K [] f) (z0 : k_Zf x wz f0 f) : X mL_refusesOne 10 245 (x_endq (fun v f' => v = some (.int 1) ∧ k_wd x wz c S P K [] f' ∧ k_Zf x wz f0 f')) x_noRO (rc + 209) (rs + 11520) 473 [(0, .ref x), (1, .int k), (2, .int (k_far k 0 9999)), (3, .int (k_far k 0 (nI S.1))), (4, .int (k_far k 0 ((nI S.2.2.1.2.2.1) - 1))), (5, .int (k_far k 0 ((nI (k_tlv S.2.2.1)) - 1)))] [] (f, n) := by
  have c0 : (0 : Int32).toInt = 0 := rfl
  have c9 : (9999 : Int32).toInt = 9999 := rfl
  have c5 : (500 : Int32).toInt = 500 := rfl
  have c49 : (499 : Int32).toInt = 499 := rfl
  have hg := w0.gd.1
  have b1 := hg.1
  have b2 := hg.2.2.2.2.1.2.2.2.1
  have b3 : k_tlv S.2.2.1 ≤ 32 := k_lv_32 _ _ _
  have b4 : (k_all S).1 ≤ 532 := by
    obtain ⟨q9, St9, bf9, h9, g9⟩ := w0.ci
    exact (h9.okA (N := N) (by omega) g9).2
  have b5 : (S.2.1 (k_u 0)).1 ≤ 60 := by
    have := hg.2.2.1
    show (S.2.1 0).1 ≤ 60
    omega
  have b6 : k_own S.2.2.1 (k_u 0) ≤ 160 := Nat.le_trans (k_cnt_le _ _) hg.2.2.2.2.1.2.2.1
  have o_1 : (k_far k 0 9999).toInt < 0 ∨ 9999 < (k_far k 0 9999).toInt := k_far_o (by decide) (by decide) (by decide) (by decide)
  have o_2 : (k_far k 0 (nI S.1)).toInt < 0 ∨ (S.1 : Int) < (k_far k 0 (nI S.1)).toInt := by
    have h9 := k_far_o (k := k) (lo := 0) (hi := (nI S.1)) (by decide) (by rw [nI_toInt (by omega), c0]; omega) (by rw [nI_toInt (by omega)]; omega) (by rw [nI_toInt (by omega)]; omega)
    rw [nI_toInt (by omega), c0] at h9
    exact h9
  have o_3 : (k_far k 0 ((nI S.2.2.1.2.2.1) - 1)).toInt < 0 ∨ (S.2.2.1.2.2.1 : Int) - 1 < (k_far k 0 ((nI S.2.2.1.2.2.1) - 1)).toInt := by
    have h9 := k_far_o (k := k) (lo := 0) (hi := ((nI S.2.2.1.2.2.1) - 1)) (by decide) (by rw [k_ni1 (by omega), c0]; omega) (by rw [k_ni1 (by omega)]; omega) (by rw [k_ni1 (by omega)]; omega)
    rw [k_ni1 (by omega), c0] at h9
    exact h9
  have o_4 : (k_far k 0 ((nI (k_tlv S.2.2.1)) - 1)).toInt < 0 ∨ (k_tlv S.2.2.1 : Int) - 1 < (k_far k 0 ((nI (k_tlv S.2.2.1)) - 1)).toInt := by
    have h9 := k_far_o (k := k) (lo := 0) (hi := ((nI (k_tlv S.2.2.1)) - 1)) (by decide) (by rw [k_ni1 (by omega), c0]; omega) (by rw [k_ni1 (by omega)]; omega) (by rw [k_ni1 (by omega)]; omega)
    rw [k_ni1 (by omega), c0] at h9
    exact h9
  refine x_aload_n 0 dL_refusesOne_473 rfl rfl ?_
  obtain ⟨q1, St1, bf1, h1, g1⟩ := w0.ci
  obtain ⟨fs2, hfs2⟩ := w0.ob
  refine x_callv (As := []) (rest := []) (rc + 209) (rs + 11520) dL_refusesOne_474 mi_X5_levels ml_L_179 rfl rfl (Nat.le_of_ble_eq_true rfl) ⟨by decide, by decide⟩ (by omega) (by omega) hfs2 rfl (c_X5_levels N _ _ _ _ (q_levels hN h1 g1)) (x_K.some ?_) x_KX.none
  by_cases hl9 : k_tlv S.2.2.1 = 0
  · refine x_if_le_y 532 dL_refusesOne_477 (by decide) (by rw [hl9]; decide) ?_
    refine x_sub [0, 1, 2, 3, 4, 5] rfl ?_
    exact x_less (rc' := rc + 139) (rs' := rs + 7678) (by omega) (by omega) (ro_532 hN hc f n w0 z0)
  · refine x_if_le_n 532 dL_refusesOne_477 (by decide) (fun y => by rw [k_i_le, nI_toInt (by omega), c0] at y; omega) ?_
    have b7 : k_nn2 S (k_u 0) ≤ 512 := k_nn2_le hg.2.2.2.2.1 (k_tlv_pos hg.2.2.2.2.1 (by omega)) _
    refine x_aload_n 0 dL_refusesOne_480 rfl rfl ?_
    refine x_bipush 30 (by decide) dL_refusesOne_481 ?_
    refine x_iconst 0 (by decide) dL_refusesOne_483 ?_
    refine x_iload_n 1 dL_refusesOne_484 rfl rfl ?_
    refine x_iconst 0 (by decide) dL_refusesOne_485 ?_
    refine x_aload_n 0 dL_refusesOne_486 rfl rfl ?_
    refine x_iconst 0 (by decide) dL_refusesOne_487 ?_
    obtain ⟨q603, St603, bf603, h603, g603⟩ := w0.ci
    have e603 : F_X5_nodesAt N f x 0 = some (.inl (nI (k_nn2 S (k_u 0)))) := by
      rw [q_nd hN h603 g603]
      unfold qa_nd
      rw [if_pos (by rw [c0]; omega)]
    obtain ⟨fs604, hfs604⟩ := w0.ob
    refine x_callv (As := [.int 0]) (rest := [.int 0, .int k, .int 0, .int 30, .ref x]) (rc + 208) (rs + 11514) dL_refusesOne_488 mi_X5_nodesAt ml_L_121 rfl rfl (Nat.le_of_ble_eq_true rfl) ⟨by decide, by decide⟩ (by omega) (by omega) hfs604 rfl (c_X5_nodesAt N _ _ _ _ _ e603) (x_K.some ?_) x_KX.none
    refine x_iconst 1 (by decide) dL_refusesOne_491 ?_
    refine x_isub dL_refusesOne_492 ?_
    have o605 : (k_far k 0 ((nI (k_nn2 S (k_u 0))) - 1)).toInt < 0 ∨ ((k_nn2 S (k_u 0)) : Int) - 1 < (k_far k 0 ((nI (k_nn2 S (k_u 0))) - 1)).toInt := by
      have h9 := k_far_o (k := k) (lo := 0) (hi := ((nI (k_nn2 S (k_u 0))) - 1)) (by decide) (by rw [k_ni1 (by omega), c0]; omega) (by rw [k_ni1 (by omega)]; omega) (by rw [k_ni1 (by omega)]; omega)
      rw [k_ni1 (by omega), c0] at h9
      exact h9
    refine x_calls (As := [.int k, .int 0, .int ((nI (k_nn2 S (k_u 0))) - 1)]) (rest := [.int 0, .int 30, .ref x]) (rc + 208) (rs + 11514) dL_refusesOne_493 mi_L_far rfl ml_L_175 rfl rfl (Nat.le_of_ble_eq_true rfl) ⟨by decide, by decide⟩ (by omega) (by omega) (c_L_far N _ _ _ _ _ _ (k_farF k 0 ((nI (k_nn2 S (k_u 0))) - 1))) (x_K.some ?_) x_KX.none
    refine x_dom (fun hd606 => ?_)
    obtain ⟨f606, e606, a606, w606⟩ := k_cl30 (hs := n) hN w0 0 (k_far k 0 ((nI (k_nn2 S (k_u 0))) - 1))
    rw [k_e30 (fun y => by omega)] at e606
    have z606 := z0.st a606
    refine x_callsH (As := [.ref x, .int 30, .int 0, .int (k_far k 0 ((nI (k_nn2 S (k_u 0))) - 1))]) (rest := []) (rc + 174) (rs + 9599) dL_refusesOne_496 mi_L_call rfl ml_L_182 rfl rfl (Nat.le_of_ble_eq_true rfl) ⟨by decide, by decide⟩ (by omega) (by omega) (c_L_call N _ _ _ _ _ _ e606) (fun n606 => ?_)
    refine x_toX (st' := [.int (-2011)]) rfl ?_
    refine x_sipush (-2011) (by decide) dL_refusesOne_499 ?_
    refine x_icmp_ne_n 530 dL_refusesOne_502 (by decide) (by decide) ?_
    refine x_aload_n 0 dL_refusesOne_505 rfl rfl ?_
    refine x_bipush 31 (by decide) dL_refusesOne_506 ?_
    refine x_iconst 0 (by decide) dL_refusesOne_508 ?_
    refine x_iload_n 1 dL_refusesOne_509 rfl rfl ?_
    refine x_iconst 0 (by decide) dL_refusesOne_510 ?_
    refine x_aload_n 0 dL_refusesOne_511 rfl rfl ?_
    refine x_iconst 0 (by decide) dL_refusesOne_512 ?_
    obtain ⟨q607, St607, bf607, h607, g607⟩ := w606.ci
    have e607 : F_X5_nodesAt N f606 x 0 = some (.inl (nI (k_nn2 S (k_u 0)))) := by
      rw [q_nd hN h607 g607]
      unfold qa_nd
      rw [if_pos (by rw [c0]; omega)]
    obtain ⟨fs608, hfs608⟩ := w606.ob
    refine x_callv (As := [.int 0]) (rest := [.int 0, .int k, .int 0, .int 31, .ref x]) (rc + 173) (rs + 9593) dL_refusesOne_513 mi_X5_nodesAt ml_L_121 rfl rfl (Nat.le_of_ble_eq_true rfl) ⟨by decide, by decide⟩ (by omega) (by omega) hfs608 rfl (c_X5_nodesAt N _ _ _ _ _ e607) (x_K.some ?_) x_KX.none
    refine x_iconst 1 (by decide) dL_refusesOne_516 ?_
    refine x_isub dL_refusesOne_517 ?_
    have o609 : (k_far k 0 ((nI (k_nn2 S (k_u 0))) - 1)).toInt < 0 ∨ ((k_nn2 S (k_u 0)) : Int) - 1 < (k_far k 0 ((nI (k_nn2 S (k_u 0))) - 1)).toInt := by
      have h9 := k_far_o (k := k) (lo := 0) (hi := ((nI (k_nn2 S (k_u 0))) - 1)) (by decide) (by rw [k_ni1 (by omega), c0]; omega) (by rw [k_ni1 (by omega)]; omega) (by rw [k_ni1 (by omega)]; omega)
      rw [k_ni1 (by omega), c0] at h9
      exact h9
    refine x_calls (As := [.int k, .int 0, .int ((nI (k_nn2 S (k_u 0))) - 1)]) (rest := [.int 0, .int 31, .ref x]) (rc + 173) (rs + 9593) dL_refusesOne_518 mi_L_far rfl ml_L_175 rfl rfl (Nat.le_of_ble_eq_true rfl) ⟨by decide, by decide⟩ (by omega) (by omega) (c_L_far N _ _ _ _ _ _ (k_farF k 0 ((nI (k_nn2 S (k_u 0))) - 1))) (x_K.some ?_) x_KX.none
    refine x_dom (fun hd610 => ?_)
    obtain ⟨f610, e610, a610, w610⟩ := k_cl31 (hs := n606) hN w606 0 (k_far k 0 ((nI (k_nn2 S (k_u 0))) - 1))
    rw [k_e31 (fun y => by omega)] at e610
    have z610 := z606.st a610
    refine x_callsH (As := [.ref x, .int 31, .int 0, .int (k_far k 0 ((nI (k_nn2 S (k_u 0))) - 1))]) (rest := []) (rc + 139) (rs + 7678) dL_refusesOne_521 mi_L_call rfl ml_L_182 rfl rfl (Nat.le_of_ble_eq_true rfl) ⟨by decide, by decide⟩ (by omega) (by omega) (c_L_call N _ _ _ _ _ _ e610) (fun n610 => ?_)
    refine x_toX (st' := [.int (-2011)]) rfl ?_
    refine x_sipush (-2011) (by decide) dL_refusesOne_524 ?_
    refine x_icmp_eq_y 532 dL_refusesOne_527 (by decide) (by decide) ?_
    refine x_sub [0, 1, 2, 3, 4, 5] rfl ?_
    exact x_less (rc' := rc + 139) (rs' := rs + 7678) (by omega) (by omega) (ro_532 hN hc f610 n610 w610 z610)
set_option maxRecDepth 20000 in
set_option maxHeartbeats 4000000 in
theorem ro_join (hN : 50000 ≤ N) (hc : c < 351) (f : XM) (n : Nat) {rc rs : Nat} {y0 : Int32} (hy : y0.toInt < 500 ∨ 9999 < y0.toInt) (w0 : k_wd x wz c S P K [] f) (z0 : k_Zf x wz f0 f) : X mL_refusesOne 10 245 (x_endq (fun v f' => v = some (.int 1) ∧ k_wd x wz c S P K [] f' ∧ k_Zf x wz f0 f')) x_noRO (rc + 991) (rs + 55565) 297 [(0, .ref x), (1, .int k), (2, .int (k_far k 0 9999)), (3, .int (k_far k 0 (nI S.1))), (4, .int (k_far k 0 ((nI S.2.2.1.2.2.1) - 1))), (5, .int (k_far k 0 ((nI (k_tlv S.2.2.1)) - 1)))] [.int y0, .int 500, .int 17, .ref x] (f, n) := by
  have c0 : (0 : Int32).toInt = 0 := rfl
  have c9 : (9999 : Int32).toInt = 9999 := rfl
  have c5 : (500 : Int32).toInt = 500 := rfl
  have c49 : (499 : Int32).toInt = 499 := rfl
  have hg := w0.gd.1
  have b1 := hg.1
  have b2 := hg.2.2.2.2.1.2.2.2.1
  have b3 : k_tlv S.2.2.1 ≤ 32 := k_lv_32 _ _ _
  have b4 : (k_all S).1 ≤ 532 := by
    obtain ⟨q9, St9, bf9, h9, g9⟩ := w0.ci
    exact (h9.okA (N := N) (by omega) g9).2
  have b5 : (S.2.1 (k_u 0)).1 ≤ 60 := by
    have := hg.2.2.1
    show (S.2.1 0).1 ≤ 60
    omega
  have b6 : k_own S.2.2.1 (k_u 0) ≤ 160 := Nat.le_trans (k_cnt_le _ _) hg.2.2.2.2.1.2.2.1
  have o_1 : (k_far k 0 9999).toInt < 0 ∨ 9999 < (k_far k 0 9999).toInt := k_far_o (by decide) (by decide) (by decide) (by decide)
  have o_2 : (k_far k 0 (nI S.1)).toInt < 0 ∨ (S.1 : Int) < (k_far k 0 (nI S.1)).toInt := by
    have h9 := k_far_o (k := k) (lo := 0) (hi := (nI S.1)) (by decide) (by rw [nI_toInt (by omega), c0]; omega) (by rw [nI_toInt (by omega)]; omega) (by rw [nI_toInt (by omega)]; omega)
    rw [nI_toInt (by omega), c0] at h9
    exact h9
  have o_3 : (k_far k 0 ((nI S.2.2.1.2.2.1) - 1)).toInt < 0 ∨ (S.2.2.1.2.2.1 : Int) - 1 < (k_far k 0 ((nI S.2.2.1.2.2.1) - 1)).toInt := by
    have h9 := k_far_o (k := k) (lo := 0) (hi := ((nI S.2.2.1.2.2.1) - 1)) (by decide) (by rw [k_ni1 (by omega), c0]; omega) (by rw [k_ni1 (by omega)]; omega) (by rw [k_ni1 (by omega)]; omega)
    rw [k_ni1 (by omega), c0] at h9
    exact h9
  have o_4 : (k_far k 0 ((nI (k_tlv S.2.2.1)) - 1)).toInt < 0 ∨ (k_tlv S.2.2.1 : Int) - 1 < (k_far k 0 ((nI (k_tlv S.2.2.1)) - 1)).toInt := by
    have h9 := k_far_o (k := k) (lo := 0) (hi := ((nI (k_tlv S.2.2.1)) - 1)) (by decide) (by rw [k_ni1 (by omega), c0]; omega) (by rw [k_ni1 (by omega)]; omega) (by rw [k_ni1 (by omega)]; omega)
    rw [k_ni1 (by omega), c0] at h9
    exact h9
  refine x_dom (fun hd1 => ?_)
  obtain ⟨f1, e1, a1, w1⟩ := k_cl17 (hs := n) hN w0 500 y0
  rw [k_e17 (fun y => by omega)] at e1
  have z1 := z0.st a1
  refine x_callsH (As := [.ref x, .int 17, .int 500, .int y0]) (rest := []) (rc + 957) (rs + 53650) dL_refusesOne_297 mi_L_call rfl ml_L_182 rfl rfl (Nat.le_of_ble_eq_true rfl) ⟨by decide, by decide⟩ (by omega) (by omega) (c_L_call N _ _ _ _ _ _ e1) (fun n1 => ?_)
  refine x_toX (st' := [.int (-2012)]) rfl ?_
  refine x_sipush (-2012) (by decide) dL_refusesOne_300 ?_
  refine x_icmp_ne_n 372 dL_refusesOne_303 (by decide) (by decide) ?_
  refine x_aload_n 0 dL_refusesOne_306 rfl rfl ?_
  refine x_bipush 20 (by decide) dL_refusesOne_307 ?_
  refine x_iload_n 1 dL_refusesOne_309 rfl rfl ?_
  refine x_iconst 0 (by decide) dL_refusesOne_310 ?_
  refine x_aload_n 0 dL_refusesOne_311 rfl rfl ?_
  obtain ⟨f2, e2, a2, w2⟩ := w1.q1 (G := fun f1 => (nI (k_all S).1, f1)) (fun q St bf h => q_found hN h w1.gd.1)
  have z2 := z1.st a2
  obtain ⟨fs3, hfs3⟩ := w1.ob
  refine x_callv (As := []) (rest := [.int 0, .int k, .int 20, .ref x]) (rc + 957) (rs + 53650) dL_refusesOne_312 mi_X5_found ml_L_158 rfl rfl (Nat.le_of_ble_eq_true rfl) ⟨by decide, by decide⟩ (by omega) (by omega) hfs3 rfl (c_X5_found N _ _ _ _ e2) (x_K.some ?_) x_KX.none
  refine x_iconst 1 (by decide) dL_refusesOne_315 ?_
  refine x_isub dL_refusesOne_316 ?_
  have o4 : (k_far k 0 ((nI (k_all S).1) - 1)).toInt < 0 ∨ ((k_all S).1 : Int) - 1 < (k_far k 0 ((nI (k_all S).1) - 1)).toInt := by
    have h9 := k_far_o (k := k) (lo := 0) (hi := ((nI (k_all S).1) - 1)) (by decide) (by rw [k_ni1 (by omega), c0]; omega) (by rw [k_ni1 (by omega)]; omega) (by rw [k_ni1 (by omega)]; omega)
    rw [k_ni1 (by omega), c0] at h9
    exact h9
  refine x_calls (As := [.int k, .int 0, .int ((nI (k_all S).1) - 1)]) (rest := [.int 20, .ref x]) (rc + 957) (rs + 53650) dL_refusesOne_317 mi_L_far rfl ml_L_175 rfl rfl (Nat.le_of_ble_eq_true rfl) ⟨by decide, by decide⟩ (by omega) (by omega) (c_L_far N _ _ _ _ _ _ (k_farF k 0 ((nI (k_all S).1) - 1))) (x_K.some ?_) x_KX.none
  refine x_iconst 0 (by decide) dL_refusesOne_320 ?_
  refine x_dom (fun hd5 => ?_)
  obtain ⟨f5, e5, a5, w5⟩ := k_cl20 (hs := n1) hN w2 (k_far k 0 ((nI (k_all S).1) - 1)) 0
  rw [k_e20 (fun y => by omega)] at e5
  have z5 := z2.st a5
  refine x_callsH (As := [.ref x, .int 20, .int (k_far k 0 ((nI (k_all S).1) - 1)), .int 0]) (rest := []) (rc + 923) (rs + 51735) dL_refusesOne_321 mi_L_call rfl ml_L_182 rfl rfl (Nat.le_of_ble_eq_true rfl) ⟨by decide, by decide⟩ (by omega) (by omega) (c_L_call N _ _ _ _ _ _ e5) (fun n5 => ?_)
  refine x_toX (st' := [.int (-2011)]) rfl ?_
  refine x_sipush (-2011) (by decide) dL_refusesOne_324 ?_
  refine x_icmp_ne_n 372 dL_refusesOne_327 (by decide) (by decide) ?_
  refine x_aload_n 0 dL_refusesOne_330 rfl rfl ?_
  refine x_bipush 33 (by decide) dL_refusesOne_331 ?_
  refine x_iload_n 1 dL_refusesOne_333 rfl rfl ?_
  refine x_bipush 50 (by decide) dL_refusesOne_334 ?_
  refine x_bipush 100 (by decide) dL_refusesOne_336 ?_
  have o6 : (k_far k 50 100).toInt < 50 ∨ 100 < (k_far k 50 100).toInt := k_far_o (by decide) (by decide) (by decide) (by decide)
  refine x_calls (As := [.int k, .int 50, .int 100]) (rest := [.int 33, .ref x]) (rc + 923) (rs + 51735) dL_refusesOne_338 mi_L_far rfl ml_L_175 rfl rfl (Nat.le_of_ble_eq_true rfl) ⟨by decide, by decide⟩ (by omega) (by omega) (c_L_far N _ _ _ _ _ _ (k_farF k 50 100)) (x_K.some ?_) x_KX.none
  refine x_iconst 0 (by decide) dL_refusesOne_341 ?_
  refine x_dom (fun hd7 => ?_)
  obtain ⟨f7, e7, a7, w7⟩ := k_cl33 (hs := n5) hN w5 (k_far k 50 100) 0
  rw [k_e33 (fun y => by omega)] at e7
  have z7 := z5.st a7
  refine x_callsH (As := [.ref x, .int 33, .int (k_far k 50 100), .int 0]) (rest := []) (rc + 889) (rs + 49820) dL_refusesOne_342 mi_L_call rfl ml_L_182 rfl rfl (Nat.le_of_ble_eq_true rfl) ⟨by decide, by decide⟩ (by omega) (by omega) (c_L_call N _ _ _ _ _ _ e7) (fun n7 => ?_)
  refine x_toX (st' := [.int (-2012)]) rfl ?_
  refine x_sipush (-2012) (by decide) dL_refusesOne_345 ?_
  refine x_icmp_ne_n 372 dL_refusesOne_348 (by decide) (by decide) ?_
  refine x_aload_n 0 dL_refusesOne_351 rfl rfl ?_
  refine x_bipush 34 (by decide) dL_refusesOne_352 ?_
  refine x_iload_n 1 dL_refusesOne_354 rfl rfl ?_
  refine x_bipush 50 (by decide) dL_refusesOne_355 ?_
  refine x_bipush 100 (by decide) dL_refusesOne_357 ?_
  have o8 : (k_far k 50 100).toInt < 50 ∨ 100 < (k_far k 50 100).toInt := k_far_o (by decide) (by decide) (by decide) (by decide)
  refine x_calls (As := [.int k, .int 50, .int 100]) (rest := [.int 34, .ref x]) (rc + 889) (rs + 49820) dL_refusesOne_359 mi_L_far rfl ml_L_175 rfl rfl (Nat.le_of_ble_eq_true rfl) ⟨by decide, by decide⟩ (by omega) (by omega) (c_L_far N _ _ _ _ _ _ (k_farF k 50 100)) (x_K.some ?_) x_KX.none
  refine x_iconst 0 (by decide) dL_refusesOne_362 ?_
  refine x_dom (fun hd9 => ?_)
  obtain ⟨f9, e9, a9, w9⟩ := k_cl34 (hs := n7) hN w7 (k_far k 50 100) 0
  rw [k_e34 (fun y => by omega)] at e9
  have z9 := z7.st a9
  refine x_callsH (As := [.ref x, .int 34, .int (k_far k 50 100), .int 0]) (rest := []) (rc + 855) (rs + 47905) dL_refusesOne_363 mi_L_call rfl ml_L_182 rfl rfl (Nat.le_of_ble_eq_true rfl) ⟨by decide, by decide⟩ (by omega) (by omega) (c_L_call N _ _ _ _ _ _ e9) (fun n9 => ?_)
  refine x_toX (st' := [.int (-2012)]) rfl ?_
  refine x_sipush (-2012) (by decide) dL_refusesOne_366 ?_
  refine x_icmp_eq_y 374 dL_refusesOne_369 (by decide) (by decide) ?_
  refine x_bipush 12 (by decide) dL_refusesOne_374 ?_
  refine x_istore (i := 6) (lv' := [(6, .int 12), (0, .ref x), (1, .int k), (2, .int (k_far k 0 9999)), (3, .int (k_far k 0 (nI S.1))), (4, .int (k_far k 0 ((nI S.2.2.1.2.2.1) - 1))), (5, .int (k_far k 0 ((nI (k_tlv S.2.2.1)) - 1)))]) dL_refusesOne_376 (by decide) rfl ?_
  refine x_iload 0 dL_refusesOne_378 rfl ?_
  refine x_bipush 22 (by decide) dL_refusesOne_380 ?_
  refine x_icmp_ge_n 416 dL_refusesOne_382 (by decide) (by decide) ?_
  refine x_iload 0 dL_refusesOne_385 rfl ?_
  refine x_bipush 20 (by decide) dL_refusesOne_387 ?_
  refine x_icmp_eq_n 410 dL_refusesOne_389 (by decide) (by decide) ?_
  refine x_aload_n 1 dL_refusesOne_392 rfl rfl ?_
  refine x_iload 0 dL_refusesOne_393 rfl ?_
  refine x_iload_n 3 dL_refusesOne_395 rfl rfl ?_
  refine x_sipush 9999 (by decide) dL_refusesOne_396 ?_
  refine x_dom (fun hd10 => ?_)
  obtain ⟨f10, e10, a10, w10⟩ := k_cl12 (hs := n9) hN w9 (k_far k 0 9999) 9999
  rw [k_e12 (fun y => by obtain ⟨y1, y2⟩ := y; omega)] at e10
  have z10 := z9.st a10
  refine x_callsH (As := [.ref x, .int 12, .int (k_far k 0 9999), .int 9999]) (rest := []) (rc + 821) (rs + 45990) dL_refusesOne_399 mi_L_call rfl ml_L_182 rfl rfl (Nat.le_of_ble_eq_true rfl) ⟨by decide, by decide⟩ (by omega) (by omega) (c_L_call N _ _ _ _ _ _ e10) (fun n10 => ?_)
  refine x_toX (st' := [.int (-2012)]) rfl ?_
  refine x_sipush (-2012) (by decide) dL_refusesOne_402 ?_
  refine x_icmp_eq_y 410 dL_refusesOne_405 (by decide) (by decide) ?_
  refine x_iinc 13 (lv' := [(6, .int 13), (0, .ref x), (1, .int k), (2, .int (k_far k 0 9999)), (3, .int (k_far k 0 (nI S.1))), (4, .int (k_far k 0 ((nI S.2.2.1.2.2.1) - 1))), (5, .int (k_far k 0 ((nI (k_tlv S.2.2.1)) - 1)))]) dL_refusesOne_410 0 rfl (by decide) (by decide) rfl ?_
  refine x_goto 378 dL_refusesOne_413 (by decide) ?_
  refine x_iload 0 dL_refusesOne_378 rfl ?_
  refine x_bipush 22 (by decide) dL_refusesOne_380 ?_
  refine x_icmp_ge_n 416 dL_refusesOne_382 (by decide) (by decide) ?_
  refine x_iload 0 dL_refusesOne_385 rfl ?_
  refine x_bipush 20 (by decide) dL_refusesOne_387 ?_
  refine x_icmp_eq_n 410 dL_refusesOne_389 (by decide) (by decide) ?_
  refine x_aload_n 1 dL_refusesOne_392 rfl rfl ?_
  refine x_iload 0 dL_refusesOne_393 rfl ?_
  refine x_iload_n 3 dL_refusesOne_395 rfl rfl ?_
  refine x_sipush 9999 (by decide) dL_refusesOne_396 ?_
  refine x_dom (fun hd11 => ?_)
  obtain ⟨f11, e11, a11, w11⟩ := k_cl13 (hs := n10) hN w10 (k_far k 0 9999) 9999
  rw [k_e13 (fun y => by obtain ⟨y1, y2⟩ := y; omega)] at e11
  have z11 := z10.st a11
  refine x_callsH (As := [.ref x, .int 13, .int (k_far k 0 9999), .int 9999]) (rest := []) (rc + 787) (rs + 44075) dL_refusesOne_399 mi_L_call rfl ml_L_182 rfl rfl (Nat.le_of_ble_eq_true rfl) ⟨by decide, by decide⟩ (by omega) (by omega) (c_L_call N _ _ _ _ _ _ e11) (fun n11 => ?_)
  refine x_toX (st' := [.int (-2012)]) rfl ?_
  refine x_sipush (-2012) (by decide) dL_refusesOne_402 ?_
  refine x_icmp_eq_y 410 dL_refusesOne_405 (by decide) (by decide) ?_
  refine x_iinc 14 (lv' := [(6, .int 14), (0, .ref x), (1, .int k), (2, .int (k_far k 0 9999)), (3, .int (k_far k 0 (nI S.1))), (4, .int (k_far k 0 ((nI S.2.2.1.2.2.1) - 1))), (5, .int (k_far k 0 ((nI (k_tlv S.2.2.1)) - 1)))]) dL_refusesOne_410 0 rfl (by decide) (by decide) rfl ?_
  refine x_goto 378 dL_refusesOne_413 (by decide) ?_
  refine x_iload 0 dL_refusesOne_378 rfl ?_
  refine x_bipush 22 (by decide) dL_refusesOne_380 ?_
  refine x_icmp_ge_n 416 dL_refusesOne_382 (by decide) (by decide) ?_
  refine x_iload 0 dL_refusesOne_385 rfl ?_
  refine x_bipush 20 (by decide) dL_refusesOne_387 ?_
  refine x_icmp_eq_n 410 dL_refusesOne_389 (by decide) (by decide) ?_
  refine x_aload_n 1 dL_refusesOne_392 rfl rfl ?_
  refine x_iload 0 dL_refusesOne_393 rfl ?_
  refine x_iload_n 3 dL_refusesOne_395 rfl rfl ?_
  refine x_sipush 9999 (by decide) dL_refusesOne_396 ?_
  refine x_dom (fun hd12 => ?_)
  obtain ⟨f12, e12, a12, w12⟩ := k_cl14 (hs := n11) hN w11 (k_far k 0 9999) 9999
  rw [k_e14 (fun y => by obtain ⟨y1, y2⟩ := y; omega)] at e12
  have z12 := z11.st a12
  refine x_callsH (As := [.ref x, .int 14, .int (k_far k 0 9999), .int 9999]) (rest := []) (rc + 753) (rs + 42160) dL_refusesOne_399 mi_L_call rfl ml_L_182 rfl rfl (Nat.le_of_ble_eq_true rfl) ⟨by decide, by decide⟩ (by omega) (by omega) (c_L_call N _ _ _ _ _ _ e12) (fun n12 => ?_)
  refine x_toX (st' := [.int (-2012)]) rfl ?_
  refine x_sipush (-2012) (by decide) dL_refusesOne_402 ?_
  refine x_icmp_eq_y 410 dL_refusesOne_405 (by decide) (by decide) ?_
  refine x_iinc 15 (lv' := [(6, .int 15), (0, .ref x), (1, .int k), (2, .int (k_far k 0 9999)), (3, .int (k_far k 0 (nI S.1))), (4, .int (k_far k 0 ((nI S.2.2.1.2.2.1) - 1))), (5, .int (k_far k 0 ((nI (k_tlv S.2.2.1)) - 1)))]) dL_refusesOne_410 0 rfl (by decide) (by decide) rfl ?_
  refine x_goto 378 dL_refusesOne_413 (by decide) ?_
  refine x_iload 0 dL_refusesOne_378 rfl ?_
  refine x_bipush 22 (by decide) dL_refusesOne_380 ?_
  refine x_icmp_ge_n 416 dL_refusesOne_382 (by decide) (by decide) ?_
  refine x_iload 0 dL_refusesOne_385 rfl ?_
  refine x_bipush 20 (by decide) dL_refusesOne_387 ?_
  refine x_icmp_eq_n 410 dL_refusesOne_389 (by decide) (by decide) ?_
  refine x_aload_n 1 dL_refusesOne_392 rfl rfl ?_
  refine x_iload 0 dL_refusesOne_393 rfl ?_
  refine x_iload_n 3 dL_refusesOne_395 rfl rfl ?_
  refine x_sipush 9999 (by decide) dL_refusesOne_396 ?_
  refine x_dom (fun hd13 => ?_)
  obtain ⟨f13, e13, a13, w13⟩ := k_cl15 (hs := n12) hN w12 (k_far k 0 9999) 9999
  rw [k_e15 (fun y => by obtain ⟨y1, y2⟩ := y; omega)] at e13
  have z13 := z12.st a13
  refine x_callsH (As := [.ref x, .int 15, .int (k_far k 0 9999), .int 9999]) (rest := []) (rc + 719) (rs + 40245) dL_refusesOne_399 mi_L_call rfl ml_L_182 rfl rfl (Nat.le_of_ble_eq_true rfl) ⟨by decide, by decide⟩ (by omega) (by omega) (c_L_call N _ _ _ _ _ _ e13) (fun n13 => ?_)
  refine x_toX (st' := [.int (-2012)]) rfl ?_
  refine x_sipush (-2012) (by decide) dL_refusesOne_402 ?_
  refine x_icmp_eq_y 410 dL_refusesOne_405 (by decide) (by decide) ?_
  refine x_iinc 16 (lv' := [(6, .int 16), (0, .ref x), (1, .int k), (2, .int (k_far k 0 9999)), (3, .int (k_far k 0 (nI S.1))), (4, .int (k_far k 0 ((nI S.2.2.1.2.2.1) - 1))), (5, .int (k_far k 0 ((nI (k_tlv S.2.2.1)) - 1)))]) dL_refusesOne_410 0 rfl (by decide) (by decide) rfl ?_
  refine x_goto 378 dL_refusesOne_413 (by decide) ?_
  refine x_iload 0 dL_refusesOne_378 rfl ?_
  refine x_bipush 22 (by decide) dL_refusesOne_380 ?_
  refine x_icmp_ge_n 416 dL_refusesOne_382 (by decide) (by decide) ?_
  refine x_iload 0 dL_refusesOne_385 rfl ?_
  refine x_bipush 20 (by decide) dL_refusesOne_387 ?_
  refine x_icmp_eq_n 410 dL_refusesOne_389 (by decide) (by decide) ?_
  refine x_aload_n 1 dL_refusesOne_392 rfl rfl ?_
  refine x_iload 0 dL_refusesOne_393 rfl ?_
  refine x_iload_n 3 dL_refusesOne_395 rfl rfl ?_
  refine x_sipush 9999 (by decide) dL_refusesOne_396 ?_
  refine x_dom (fun hd14 => ?_)
  obtain ⟨f14, e14, a14, w14⟩ := k_cl16 (hs := n13) hN w13 (k_far k 0 9999) 9999
  rw [k_e16 (fun y => by omega)] at e14
  have z14 := z13.st a14
  refine x_callsH (As := [.ref x, .int 16, .int (k_far k 0 9999), .int 9999]) (rest := []) (rc + 685) (rs + 38330) dL_refusesOne_399 mi_L_call rfl ml_L_182 rfl rfl (Nat.le_of_ble_eq_true rfl) ⟨by decide, by decide⟩ (by omega) (by omega) (c_L_call N _ _ _ _ _ _ e14) (fun n14 => ?_)
  refine x_toX (st' := [.int (-2012)]) rfl ?_
  refine x_sipush (-2012) (by decide) dL_refusesOne_402 ?_
  refine x_icmp_eq_y 410 dL_refusesOne_405 (by decide) (by decide) ?_
  refine x_iinc 17 (lv' := [(6, .int 17), (0, .ref x), (1, .int k), (2, .int (k_far k 0 9999)), (3, .int (k_far k 0 (nI S.1))), (4, .int (k_far k 0 ((nI S.2.2.1.2.2.1) - 1))), (5, .int (k_far k 0 ((nI (k_tlv S.2.2.1)) - 1)))]) dL_refusesOne_410 0 rfl (by decide) (by decide) rfl ?_
  refine x_goto 378 dL_refusesOne_413 (by decide) ?_
  refine x_iload 0 dL_refusesOne_378 rfl ?_
  refine x_bipush 22 (by decide) dL_refusesOne_380 ?_
  refine x_icmp_ge_n 416 dL_refusesOne_382 (by decide) (by decide) ?_
  refine x_iload 0 dL_refusesOne_385 rfl ?_
  refine x_bipush 20 (by decide) dL_refusesOne_387 ?_
  refine x_icmp_eq_n 410 dL_refusesOne_389 (by decide) (by decide) ?_
  refine x_aload_n 1 dL_refusesOne_392 rfl rfl ?_
  refine x_iload 0 dL_refusesOne_393 rfl ?_
  refine x_iload_n 3 dL_refusesOne_395 rfl rfl ?_
  refine x_sipush 9999 (by decide) dL_refusesOne_396 ?_
  refine x_dom (fun hd15 => ?_)
  obtain ⟨f15, e15, a15, w15⟩ := k_cl17 (hs := n14) hN w14 (k_far k 0 9999) 9999
  rw [k_e17 (fun y => by omega)] at e15
  have z15 := z14.st a15
  refine x_callsH (As := [.ref x, .int 17, .int (k_far k 0 9999), .int 9999]) (rest := []) (rc + 651) (rs + 36415) dL_refusesOne_399 mi_L_call rfl ml_L_182 rfl rfl (Nat.le_of_ble_eq_true rfl) ⟨by decide, by decide⟩ (by omega) (by omega) (c_L_call N _ _ _ _ _ _ e15) (fun n15 => ?_)
  refine x_toX (st' := [.int (-2012)]) rfl ?_
  refine x_sipush (-2012) (by decide) dL_refusesOne_402 ?_
  refine x_icmp_eq_y 410 dL_refusesOne_405 (by decide) (by decide) ?_
  refine x_iinc 18 (lv' := [(6, .int 18), (0, .ref x), (1, .int k), (2, .int (k_far k 0 9999)), (3, .int (k_far k 0 (nI S.1))), (4, .int (k_far k 0 ((nI S.2.2.1.2.2.1) - 1))), (5, .int (k_far k 0 ((nI (k_tlv S.2.2.1)) - 1)))]) dL_refusesOne_410 0 rfl (by decide) (by decide) rfl ?_
  refine x_goto 378 dL_refusesOne_413 (by decide) ?_
  refine x_iload 0 dL_refusesOne_378 rfl ?_
  refine x_bipush 22 (by decide) dL_refusesOne_380 ?_
  refine x_icmp_ge_n 416 dL_refusesOne_382 (by decide) (by decide) ?_
  refine x_iload 0 dL_refusesOne_385 rfl ?_
  refine x_bipush 20 (by decide) dL_refusesOne_387 ?_
  refine x_icmp_eq_n 410 dL_refusesOne_389 (by decide) (by decide) ?_
  refine x_aload_n 1 dL_refusesOne_392 rfl rfl ?_
  refine x_iload 0 dL_refusesOne_393 rfl ?_
  refine x_iload_n 3 dL_refusesOne_395 rfl rfl ?_
  refine x_sipush 9999 (by decide) dL_refusesOne_396 ?_
  refine x_dom (fun hd16 => ?_)
  obtain ⟨f16, e16, a16, w16⟩ := k_cl18 (hs := n15) hN w15 (k_far k 0 9999) 9999
  rw [k_e18 (fun y => by obtain ⟨y1, y2⟩ := y; omega)] at e16
  have z16 := z15.st a16
  refine x_callsH (As := [.ref x, .int 18, .int (k_far k 0 9999), .int 9999]) (rest := []) (rc + 617) (rs + 34500) dL_refusesOne_399 mi_L_call rfl ml_L_182 rfl rfl (Nat.le_of_ble_eq_true rfl) ⟨by decide, by decide⟩ (by omega) (by omega) (c_L_call N _ _ _ _ _ _ e16) (fun n16 => ?_)
  refine x_toX (st' := [.int (-2012)]) rfl ?_
  refine x_sipush (-2012) (by decide) dL_refusesOne_402 ?_
  refine x_icmp_eq_y 410 dL_refusesOne_405 (by decide) (by decide) ?_
  refine x_iinc 19 (lv' := [(6, .int 19), (0, .ref x), (1, .int k), (2, .int (k_far k 0 9999)), (3, .int (k_far k 0 (nI S.1))), (4, .int (k_far k 0 ((nI S.2.2.1.2.2.1) - 1))), (5, .int (k_far k 0 ((nI (k_tlv S.2.2.1)) - 1)))]) dL_refusesOne_410 0 rfl (by decide) (by decide) rfl ?_
  refine x_goto 378 dL_refusesOne_413 (by decide) ?_
  refine x_iload 0 dL_refusesOne_378 rfl ?_
  refine x_bipush 22 (by decide) dL_refusesOne_380 ?_
  refine x_icmp_ge_n 416 dL_refusesOne_382 (by decide) (by decide) ?_
  refine x_iload 0 dL_refusesOne_385 rfl ?_
  refine x_bipush 20 (by decide) dL_refusesOne_387 ?_
  refine x_icmp_eq_n 410 dL_refusesOne_389 (by decide) (by decide) ?_
  refine x_aload_n 1 dL_refusesOne_392 rfl rfl ?_
  refine x_iload 0 dL_refusesOne_393 rfl ?_
  refine x_iload_n 3 dL_refusesOne_395 rfl rfl ?_
  refine x_sipush 9999 (by decide) dL_refusesOne_396 ?_
  refine x_dom (fun hd17 => ?_)
  obtain ⟨f17, e17, a17, w17⟩ := k_cl19 (hs := n16) hN w16 (k_far k 0 9999) 9999
  rw [k_e19 (fun y => by obtain ⟨y1, y2⟩ := y; omega)] at e17
  have z17 := z16.st a17
  refine x_callsH (As := [.ref x, .int 19, .int (k_far k 0 9999), .int 9999]) (rest := []) (rc + 583) (rs + 32585) dL_refusesOne_399 mi_L_call rfl ml_L_182 rfl rfl (Nat.le_of_ble_eq_true rfl) ⟨by decide, by decide⟩ (by omega) (by omega) (c_L_call N _ _ _ _ _ _ e17) (fun n17 => ?_)
  refine x_toX (st' := [.int (-2012)]) rfl ?_
  refine x_sipush (-2012) (by decide) dL_refusesOne_402 ?_
  refine x_icmp_eq_y 410 dL_refusesOne_405 (by decide) (by decide) ?_
  refine x_iinc 20 (lv' := [(6, .int 20), (0, .ref x), (1, .int k), (2, .int (k_far k 0 9999)), (3, .int (k_far k 0 (nI S.1))), (4, .int (k_far k 0 ((nI S.2.2.1.2.2.1) - 1))), (5, .int (k_far k 0 ((nI (k_tlv S.2.2.1)) - 1)))]) dL_refusesOne_410 0 rfl (by decide) (by decide) rfl ?_
  refine x_goto 378 dL_refusesOne_413 (by decide) ?_
  refine x_iload 0 dL_refusesOne_378 rfl ?_
  refine x_bipush 22 (by decide) dL_refusesOne_380 ?_
  refine x_icmp_ge_n 416 dL_refusesOne_382 (by decide) (by decide) ?_
  refine x_iload 0 dL_refusesOne_385 rfl ?_
  refine x_bipush 20 (by decide) dL_refusesOne_387 ?_
  refine x_icmp_eq_y 410 dL_refusesOne_389 (by decide) (by decide) ?_
  refine x_iinc 21 (lv' := [(6, .int 21), (0, .ref x), (1, .int k), (2, .int (k_far k 0 9999)), (3, .int (k_far k 0 (nI S.1))), (4, .int (k_far k 0 ((nI S.2.2.1.2.2.1) - 1))), (5, .int (k_far k 0 ((nI (k_tlv S.2.2.1)) - 1)))]) dL_refusesOne_410 0 rfl (by decide) (by decide) rfl ?_
  refine x_goto 378 dL_refusesOne_413 (by decide) ?_
  refine x_iload 0 dL_refusesOne_378 rfl ?_
  refine x_bipush 22 (by decide) dL_refusesOne_380 ?_
  refine x_icmp_ge_n 416 dL_refusesOne_382 (by decide) (by decide) ?_
  refine x_iload 0 dL_refusesOne_385 rfl ?_
  refine x_bipush 20 (by decide) dL_refusesOne_387 ?_
  refine x_icmp_eq_n 410 dL_refusesOne_389 (by decide) (by decide) ?_
  refine x_aload_n 1 dL_refusesOne_392 rfl rfl ?_
  refine x_iload 0 dL_refusesOne_393 rfl ?_
  refine x_iload_n 3 dL_refusesOne_395 rfl rfl ?_
  refine x_sipush 9999 (by decide) dL_refusesOne_396 ?_
  refine x_dom (fun hd18 => ?_)
  obtain ⟨f18, e18, a18, w18⟩ := k_cl21 (hs := n17) hN w17 (k_far k 0 9999) 9999
  rw [k_e21 (fun y => by obtain ⟨y1, y2⟩ := y; omega)] at e18
  have z18 := z17.st a18
  refine x_callsH (As := [.ref x, .int 21, .int (k_far k 0 9999), .int 9999]) (rest := []) (rc + 549) (rs + 30670) dL_refusesOne_399 mi_L_call rfl ml_L_182 rfl rfl (Nat.le_of_ble_eq_true rfl) ⟨by decide, by decide⟩ (by omega) (by omega) (c_L_call N _ _ _ _ _ _ e18) (fun n18 => ?_)
  refine x_toX (st' := [.int (-2012)]) rfl ?_
  refine x_sipush (-2012) (by decide) dL_refusesOne_402 ?_
  refine x_icmp_eq_y 410 dL_refusesOne_405 (by decide) (by decide) ?_
  refine x_iinc 22 (lv' := [(6, .int 22), (0, .ref x), (1, .int k), (2, .int (k_far k 0 9999)), (3, .int (k_far k 0 (nI S.1))), (4, .int (k_far k 0 ((nI S.2.2.1.2.2.1) - 1))), (5, .int (k_far k 0 ((nI (k_tlv S.2.2.1)) - 1)))]) dL_refusesOne_410 0 rfl (by decide) (by decide) rfl ?_
  refine x_goto 378 dL_refusesOne_413 (by decide) ?_
  refine x_iload 0 dL_refusesOne_378 rfl ?_
  refine x_bipush 22 (by decide) dL_refusesOne_380 ?_
  refine x_icmp_ge_y 416 dL_refusesOne_382 (by decide) (by decide) ?_
  refine x_bipush 22 (by decide) dL_refusesOne_416 ?_
  refine x_istore (i := 6) (lv' := [(6, .int 22), (0, .ref x), (1, .int k), (2, .int (k_far k 0 9999)), (3, .int (k_far k 0 (nI S.1))), (4, .int (k_far k 0 ((nI S.2.2.1.2.2.1) - 1))), (5, .int (k_far k 0 ((nI (k_tlv S.2.2.1)) - 1)))]) dL_refusesOne_418 (by decide) rfl ?_
  refine x_iload 0 dL_refusesOne_420 rfl ?_
  refine x_bipush 32 (by decide) dL_refusesOne_422 ?_
  refine x_icmp_ge_n 473 dL_refusesOne_424 (by decide) (by decide) ?_
  refine x_aload_n 1 dL_refusesOne_427 rfl rfl ?_
  refine x_iload 0 dL_refusesOne_428 rfl ?_
  refine x_iload 0 dL_refusesOne_430 rfl ?_
  refine x_bipush 25 (by decide) dL_refusesOne_432 ?_
  refine x_icmp_ge_n 441 dL_refusesOne_434 (by decide) (by decide) ?_
  refine x_iload_n 4 dL_refusesOne_437 rfl rfl ?_
  refine x_goto 455 dL_refusesOne_438 (by decide) ?_
  refine x_iconst 0 (by decide) dL_refusesOne_455 ?_
  refine x_dom (fun hd19 => ?_)
  obtain ⟨f19, e19, a19, w19⟩ := k_cl22 (hs := n18) hN w18 (k_far k 0 (nI S.1)) 0
  rw [k_e22 (fun y => by omega)] at e19
  have z19 := z18.st a19
  refine x_callsH (As := [.ref x, .int 22, .int (k_far k 0 (nI S.1)), .int 0]) (rest := []) (rc + 515) (rs + 28755) dL_refusesOne_456 mi_L_call rfl ml_L_182 rfl rfl (Nat.le_of_ble_eq_true rfl) ⟨by decide, by decide⟩ (by omega) (by omega) (c_L_call N _ _ _ _ _ _ e19) (fun n19 => ?_)
  refine x_toX (st' := [.int (-2011)]) rfl ?_
  refine x_sipush (-2011) (by decide) dL_refusesOne_459 ?_
  refine x_icmp_eq_y 467 dL_refusesOne_462 (by decide) (by decide) ?_
  refine x_iinc 23 (lv' := [(6, .int 23), (0, .ref x), (1, .int k), (2, .int (k_far k 0 9999)), (3, .int (k_far k 0 (nI S.1))), (4, .int (k_far k 0 ((nI S.2.2.1.2.2.1) - 1))), (5, .int (k_far k 0 ((nI (k_tlv S.2.2.1)) - 1)))]) dL_refusesOne_467 0 rfl (by decide) (by decide) rfl ?_
  refine x_goto 420 dL_refusesOne_470 (by decide) ?_
  refine x_iload 0 dL_refusesOne_420 rfl ?_
  refine x_bipush 32 (by decide) dL_refusesOne_422 ?_
  refine x_icmp_ge_n 473 dL_refusesOne_424 (by decide) (by decide) ?_
  refine x_aload_n 1 dL_refusesOne_427 rfl rfl ?_
  refine x_iload 0 dL_refusesOne_428 rfl ?_
  refine x_iload 0 dL_refusesOne_430 rfl ?_
  refine x_bipush 25 (by decide) dL_refusesOne_432 ?_
  refine x_icmp_ge_n 441 dL_refusesOne_434 (by decide) (by decide) ?_
  refine x_iload_n 4 dL_refusesOne_437 rfl rfl ?_
  refine x_goto 455 dL_refusesOne_438 (by decide) ?_
  refine x_iconst 0 (by decide) dL_refusesOne_455 ?_
  refine x_dom (fun hd20 => ?_)
  obtain ⟨f20, e20, a20, w20⟩ := k_cl23 (hs := n19) hN w19 (k_far k 0 (nI S.1)) 0
  rw [k_e23 (fun y => by omega)] at e20
  have z20 := z19.st a20
  refine x_callsH (As := [.ref x, .int 23, .int (k_far k 0 (nI S.1)), .int 0]) (rest := []) (rc + 481) (rs + 26840) dL_refusesOne_456 mi_L_call rfl ml_L_182 rfl rfl (Nat.le_of_ble_eq_true rfl) ⟨by decide, by decide⟩ (by omega) (by omega) (c_L_call N _ _ _ _ _ _ e20) (fun n20 => ?_)
  refine x_toX (st' := [.int (-2011)]) rfl ?_
  refine x_sipush (-2011) (by decide) dL_refusesOne_459 ?_
  refine x_icmp_eq_y 467 dL_refusesOne_462 (by decide) (by decide) ?_
  refine x_iinc 24 (lv' := [(6, .int 24), (0, .ref x), (1, .int k), (2, .int (k_far k 0 9999)), (3, .int (k_far k 0 (nI S.1))), (4, .int (k_far k 0 ((nI S.2.2.1.2.2.1) - 1))), (5, .int (k_far k 0 ((nI (k_tlv S.2.2.1)) - 1)))]) dL_refusesOne_467 0 rfl (by decide) (by decide) rfl ?_
  refine x_goto 420 dL_refusesOne_470 (by decide) ?_
  refine x_iload 0 dL_refusesOne_420 rfl ?_
  refine x_bipush 32 (by decide) dL_refusesOne_422 ?_
  refine x_icmp_ge_n 473 dL_refusesOne_424 (by decide) (by decide) ?_
  refine x_aload_n 1 dL_refusesOne_427 rfl rfl ?_
  refine x_iload 0 dL_refusesOne_428 rfl ?_
  refine x_iload 0 dL_refusesOne_430 rfl ?_
  refine x_bipush 25 (by decide) dL_refusesOne_432 ?_
  refine x_icmp_ge_n 441 dL_refusesOne_434 (by decide) (by decide) ?_
  refine x_iload_n 4 dL_refusesOne_437 rfl rfl ?_
  refine x_goto 455 dL_refusesOne_438 (by decide) ?_
  refine x_iconst 0 (by decide) dL_refusesOne_455 ?_
  refine x_dom (fun hd21 => ?_)
  obtain ⟨f21, e21, a21, w21⟩ := k_cl24 (hs := n20) hN w20 (k_far k 0 (nI S.1)) 0
  rw [k_e24 (fun y => by omega)] at e21
  have z21 := z20.st a21
  refine x_callsH (As := [.ref x, .int 24, .int (k_far k 0 (nI S.1)), .int 0]) (rest := []) (rc + 447) (rs + 24925) dL_refusesOne_456 mi_L_call rfl ml_L_182 rfl rfl (Nat.le_of_ble_eq_true rfl) ⟨by decide, by decide⟩ (by omega) (by omega) (c_L_call N _ _ _ _ _ _ e21) (fun n21 => ?_)
  refine x_toX (st' := [.int (-2011)]) rfl ?_
  refine x_sipush (-2011) (by decide) dL_refusesOne_459 ?_
  refine x_icmp_eq_y 467 dL_refusesOne_462 (by decide) (by decide) ?_
  refine x_iinc 25 (lv' := [(6, .int 25), (0, .ref x), (1, .int k), (2, .int (k_far k 0 9999)), (3, .int (k_far k 0 (nI S.1))), (4, .int (k_far k 0 ((nI S.2.2.1.2.2.1) - 1))), (5, .int (k_far k 0 ((nI (k_tlv S.2.2.1)) - 1)))]) dL_refusesOne_467 0 rfl (by decide) (by decide) rfl ?_
  refine x_goto 420 dL_refusesOne_470 (by decide) ?_
  refine x_iload 0 dL_refusesOne_420 rfl ?_
  refine x_bipush 32 (by decide) dL_refusesOne_422 ?_
  refine x_icmp_ge_n 473 dL_refusesOne_424 (by decide) (by decide) ?_
  refine x_aload_n 1 dL_refusesOne_427 rfl rfl ?_
  refine x_iload 0 dL_refusesOne_428 rfl ?_
  refine x_iload 0 dL_refusesOne_430 rfl ?_
  refine x_bipush 25 (by decide) dL_refusesOne_432 ?_
  refine x_icmp_ge_y 441 dL_refusesOne_434 (by decide) (by decide) ?_
  refine x_iload 0 dL_refusesOne_441 rfl ?_
  refine x_bipush 29 (by decide) dL_refusesOne_443 ?_
  refine x_icmp_ge_n 453 dL_refusesOne_445 (by decide) (by decide) ?_
  refine x_iload 5 dL_refusesOne_448 rfl ?_
  refine x_goto 455 dL_refusesOne_450 (by decide) ?_
  refine x_iconst 0 (by decide) dL_refusesOne_455 ?_
  refine x_dom (fun hd22 => ?_)
  obtain ⟨f22, e22, a22, w22⟩ := k_cl25 (hs := n21) hN w21 (k_far k 0 ((nI S.2.2.1.2.2.1) - 1)) 0
  rw [k_e25 (fun y => by omega)] at e22
  have z22 := z21.st a22
  refine x_callsH (As := [.ref x, .int 25, .int (k_far k 0 ((nI S.2.2.1.2.2.1) - 1)), .int 0]) (rest := []) (rc + 413) (rs + 23010) dL_refusesOne_456 mi_L_call rfl ml_L_182 rfl rfl (Nat.le_of_ble_eq_true rfl) ⟨by decide, by decide⟩ (by omega) (by omega) (c_L_call N _ _ _ _ _ _ e22) (fun n22 => ?_)
  refine x_toX (st' := [.int (-2011)]) rfl ?_
  refine x_sipush (-2011) (by decide) dL_refusesOne_459 ?_
  refine x_icmp_eq_y 467 dL_refusesOne_462 (by decide) (by decide) ?_
  refine x_iinc 26 (lv' := [(6, .int 26), (0, .ref x), (1, .int k), (2, .int (k_far k 0 9999)), (3, .int (k_far k 0 (nI S.1))), (4, .int (k_far k 0 ((nI S.2.2.1.2.2.1) - 1))), (5, .int (k_far k 0 ((nI (k_tlv S.2.2.1)) - 1)))]) dL_refusesOne_467 0 rfl (by decide) (by decide) rfl ?_
  refine x_goto 420 dL_refusesOne_470 (by decide) ?_
  refine x_iload 0 dL_refusesOne_420 rfl ?_
  refine x_bipush 32 (by decide) dL_refusesOne_422 ?_
  refine x_icmp_ge_n 473 dL_refusesOne_424 (by decide) (by decide) ?_
  refine x_aload_n 1 dL_refusesOne_427 rfl rfl ?_
  refine x_iload 0 dL_refusesOne_428 rfl ?_
  refine x_iload 0 dL_refusesOne_430 rfl ?_
  refine x_bipush 25 (by decide) dL_refusesOne_432 ?_
  refine x_icmp_ge_y 441 dL_refusesOne_434 (by decide) (by decide) ?_
  refine x_iload 0 dL_refusesOne_441 rfl ?_
  refine x_bipush 29 (by decide) dL_refusesOne_443 ?_
  refine x_icmp_ge_n 453 dL_refusesOne_445 (by decide) (by decide) ?_
  refine x_iload 5 dL_refusesOne_448 rfl ?_
  refine x_goto 455 dL_refusesOne_450 (by decide) ?_
  refine x_iconst 0 (by decide) dL_refusesOne_455 ?_
  refine x_dom (fun hd23 => ?_)
  obtain ⟨f23, e23, a23, w23⟩ := k_cl26 (hs := n22) hN w22 (k_far k 0 ((nI S.2.2.1.2.2.1) - 1)) 0
  rw [k_e26 (fun y => by omega)] at e23
  have z23 := z22.st a23
  refine x_callsH (As := [.ref x, .int 26, .int (k_far k 0 ((nI S.2.2.1.2.2.1) - 1)), .int 0]) (rest := []) (rc + 379) (rs + 21095) dL_refusesOne_456 mi_L_call rfl ml_L_182 rfl rfl (Nat.le_of_ble_eq_true rfl) ⟨by decide, by decide⟩ (by omega) (by omega) (c_L_call N _ _ _ _ _ _ e23) (fun n23 => ?_)
  refine x_toX (st' := [.int (-2011)]) rfl ?_
  refine x_sipush (-2011) (by decide) dL_refusesOne_459 ?_
  refine x_icmp_eq_y 467 dL_refusesOne_462 (by decide) (by decide) ?_
  refine x_iinc 27 (lv' := [(6, .int 27), (0, .ref x), (1, .int k), (2, .int (k_far k 0 9999)), (3, .int (k_far k 0 (nI S.1))), (4, .int (k_far k 0 ((nI S.2.2.1.2.2.1) - 1))), (5, .int (k_far k 0 ((nI (k_tlv S.2.2.1)) - 1)))]) dL_refusesOne_467 0 rfl (by decide) (by decide) rfl ?_
  refine x_goto 420 dL_refusesOne_470 (by decide) ?_
  refine x_iload 0 dL_refusesOne_420 rfl ?_
  refine x_bipush 32 (by decide) dL_refusesOne_422 ?_
  refine x_icmp_ge_n 473 dL_refusesOne_424 (by decide) (by decide) ?_
  refine x_aload_n 1 dL_refusesOne_427 rfl rfl ?_
  refine x_iload 0 dL_refusesOne_428 rfl ?_
  refine x_iload 0 dL_refusesOne_430 rfl ?_
  refine x_bipush 25 (by decide) dL_refusesOne_432 ?_
  refine x_icmp_ge_y 441 dL_refusesOne_434 (by decide) (by decide) ?_
  refine x_iload 0 dL_refusesOne_441 rfl ?_
  refine x_bipush 29 (by decide) dL_refusesOne_443 ?_
  refine x_icmp_ge_n 453 dL_refusesOne_445 (by decide) (by decide) ?_
  refine x_iload 5 dL_refusesOne_448 rfl ?_
  refine x_goto 455 dL_refusesOne_450 (by decide) ?_
  refine x_iconst 0 (by decide) dL_refusesOne_455 ?_
  refine x_dom (fun hd24 => ?_)
  obtain ⟨f24, e24, a24, w24⟩ := k_cl27 (hs := n23) hN w23 (k_far k 0 ((nI S.2.2.1.2.2.1) - 1)) 0
  rw [k_e27 (fun y => by omega)] at e24
  have z24 := z23.st a24
  refine x_callsH (As := [.ref x, .int 27, .int (k_far k 0 ((nI S.2.2.1.2.2.1) - 1)), .int 0]) (rest := []) (rc + 345) (rs + 19180) dL_refusesOne_456 mi_L_call rfl ml_L_182 rfl rfl (Nat.le_of_ble_eq_true rfl) ⟨by decide, by decide⟩ (by omega) (by omega) (c_L_call N _ _ _ _ _ _ e24) (fun n24 => ?_)
  refine x_toX (st' := [.int (-2011)]) rfl ?_
  refine x_sipush (-2011) (by decide) dL_refusesOne_459 ?_
  refine x_icmp_eq_y 467 dL_refusesOne_462 (by decide) (by decide) ?_
  refine x_iinc 28 (lv' := [(6, .int 28), (0, .ref x), (1, .int k), (2, .int (k_far k 0 9999)), (3, .int (k_far k 0 (nI S.1))), (4, .int (k_far k 0 ((nI S.2.2.1.2.2.1) - 1))), (5, .int (k_far k 0 ((nI (k_tlv S.2.2.1)) - 1)))]) dL_refusesOne_467 0 rfl (by decide) (by decide) rfl ?_
  refine x_goto 420 dL_refusesOne_470 (by decide) ?_
  refine x_iload 0 dL_refusesOne_420 rfl ?_
  refine x_bipush 32 (by decide) dL_refusesOne_422 ?_
  refine x_icmp_ge_n 473 dL_refusesOne_424 (by decide) (by decide) ?_
  refine x_aload_n 1 dL_refusesOne_427 rfl rfl ?_
  refine x_iload 0 dL_refusesOne_428 rfl ?_
  refine x_iload 0 dL_refusesOne_430 rfl ?_
  refine x_bipush 25 (by decide) dL_refusesOne_432 ?_
  refine x_icmp_ge_y 441 dL_refusesOne_434 (by decide) (by decide) ?_
  refine x_iload 0 dL_refusesOne_441 rfl ?_
  refine x_bipush 29 (by decide) dL_refusesOne_443 ?_
  refine x_icmp_ge_n 453 dL_refusesOne_445 (by decide) (by decide) ?_
  refine x_iload 5 dL_refusesOne_448 rfl ?_
  refine x_goto 455 dL_refusesOne_450 (by decide) ?_
  refine x_iconst 0 (by decide) dL_refusesOne_455 ?_
  refine x_dom (fun hd25 => ?_)
  obtain ⟨f25, e25, a25, w25⟩ := k_cl28 (hs := n24) hN w24 (k_far k 0 ((nI S.2.2.1.2.2.1) - 1)) 0
  rw [k_e28 (fun y => by omega)] at e25
  have z25 := z24.st a25
  refine x_callsH (As := [.ref x, .int 28, .int (k_far k 0 ((nI S.2.2.1.2.2.1) - 1)), .int 0]) (rest := []) (rc + 311) (rs + 17265) dL_refusesOne_456 mi_L_call rfl ml_L_182 rfl rfl (Nat.le_of_ble_eq_true rfl) ⟨by decide, by decide⟩ (by omega) (by omega) (c_L_call N _ _ _ _ _ _ e25) (fun n25 => ?_)
  refine x_toX (st' := [.int (-2011)]) rfl ?_
  refine x_sipush (-2011) (by decide) dL_refusesOne_459 ?_
  refine x_icmp_eq_y 467 dL_refusesOne_462 (by decide) (by decide) ?_
  refine x_iinc 29 (lv' := [(6, .int 29), (0, .ref x), (1, .int k), (2, .int (k_far k 0 9999)), (3, .int (k_far k 0 (nI S.1))), (4, .int (k_far k 0 ((nI S.2.2.1.2.2.1) - 1))), (5, .int (k_far k 0 ((nI (k_tlv S.2.2.1)) - 1)))]) dL_refusesOne_467 0 rfl (by decide) (by decide) rfl ?_
  refine x_goto 420 dL_refusesOne_470 (by decide) ?_
  refine x_iload 0 dL_refusesOne_420 rfl ?_
  refine x_bipush 32 (by decide) dL_refusesOne_422 ?_
  refine x_icmp_ge_n 473 dL_refusesOne_424 (by decide) (by decide) ?_
  refine x_aload_n 1 dL_refusesOne_427 rfl rfl ?_
  refine x_iload 0 dL_refusesOne_428 rfl ?_
  refine x_iload 0 dL_refusesOne_430 rfl ?_
  refine x_bipush 25 (by decide) dL_refusesOne_432 ?_
  refine x_icmp_ge_y 441 dL_refusesOne_434 (by decide) (by decide) ?_
  refine x_iload 0 dL_refusesOne_441 rfl ?_
  refine x_bipush 29 (by decide) dL_refusesOne_443 ?_
  refine x_icmp_ge_y 453 dL_refusesOne_445 (by decide) (by decide) ?_
  refine x_iload 6 dL_refusesOne_453 rfl ?_
  refine x_iconst 0 (by decide) dL_refusesOne_455 ?_
  refine x_dom (fun hd26 => ?_)
  obtain ⟨f26, e26, a26, w26⟩ := k_cl29 (hs := n25) hN w25 (k_far k 0 ((nI (k_tlv S.2.2.1)) - 1)) 0
  rw [k_e29 (fun y => by omega)] at e26
  have z26 := z25.st a26
  refine x_callsH (As := [.ref x, .int 29, .int (k_far k 0 ((nI (k_tlv S.2.2.1)) - 1)), .int 0]) (rest := []) (rc + 277) (rs + 15350) dL_refusesOne_456 mi_L_call rfl ml_L_182 rfl rfl (Nat.le_of_ble_eq_true rfl) ⟨by decide, by decide⟩ (by omega) (by omega) (c_L_call N _ _ _ _ _ _ e26) (fun n26 => ?_)
  refine x_toX (st' := [.int (-2011)]) rfl ?_
  refine x_sipush (-2011) (by decide) dL_refusesOne_459 ?_
  refine x_icmp_eq_y 467 dL_refusesOne_462 (by decide) (by decide) ?_
  refine x_iinc 30 (lv' := [(6, .int 30), (0, .ref x), (1, .int k), (2, .int (k_far k 0 9999)), (3, .int (k_far k 0 (nI S.1))), (4, .int (k_far k 0 ((nI S.2.2.1.2.2.1) - 1))), (5, .int (k_far k 0 ((nI (k_tlv S.2.2.1)) - 1)))]) dL_refusesOne_467 0 rfl (by decide) (by decide) rfl ?_
  refine x_goto 420 dL_refusesOne_470 (by decide) ?_
  refine x_iload 0 dL_refusesOne_420 rfl ?_
  refine x_bipush 32 (by decide) dL_refusesOne_422 ?_
  refine x_icmp_ge_n 473 dL_refusesOne_424 (by decide) (by decide) ?_
  refine x_aload_n 1 dL_refusesOne_427 rfl rfl ?_
  refine x_iload 0 dL_refusesOne_428 rfl ?_
  refine x_iload 0 dL_refusesOne_430 rfl ?_
  refine x_bipush 25 (by decide) dL_refusesOne_432 ?_
  refine x_icmp_ge_y 441 dL_refusesOne_434 (by decide) (by decide) ?_
  refine x_iload 0 dL_refusesOne_441 rfl ?_
  refine x_bipush 29 (by decide) dL_refusesOne_443 ?_
  refine x_icmp_ge_y 453 dL_refusesOne_445 (by decide) (by decide) ?_
  refine x_iload 6 dL_refusesOne_453 rfl ?_
  refine x_iconst 0 (by decide) dL_refusesOne_455 ?_
  refine x_dom (fun hd27 => ?_)
  obtain ⟨f27, e27, a27, w27⟩ := k_cl30 (hs := n26) hN w26 (k_far k 0 ((nI (k_tlv S.2.2.1)) - 1)) 0
  rw [k_e30 (fun y => by omega)] at e27
  have z27 := z26.st a27
  refine x_callsH (As := [.ref x, .int 30, .int (k_far k 0 ((nI (k_tlv S.2.2.1)) - 1)), .int 0]) (rest := []) (rc + 243) (rs + 13435) dL_refusesOne_456 mi_L_call rfl ml_L_182 rfl rfl (Nat.le_of_ble_eq_true rfl) ⟨by decide, by decide⟩ (by omega) (by omega) (c_L_call N _ _ _ _ _ _ e27) (fun n27 => ?_)
  refine x_toX (st' := [.int (-2011)]) rfl ?_
  refine x_sipush (-2011) (by decide) dL_refusesOne_459 ?_
  refine x_icmp_eq_y 467 dL_refusesOne_462 (by decide) (by decide) ?_
  refine x_iinc 31 (lv' := [(6, .int 31), (0, .ref x), (1, .int k), (2, .int (k_far k 0 9999)), (3, .int (k_far k 0 (nI S.1))), (4, .int (k_far k 0 ((nI S.2.2.1.2.2.1) - 1))), (5, .int (k_far k 0 ((nI (k_tlv S.2.2.1)) - 1)))]) dL_refusesOne_467 0 rfl (by decide) (by decide) rfl ?_
  refine x_goto 420 dL_refusesOne_470 (by decide) ?_
  refine x_iload 0 dL_refusesOne_420 rfl ?_
  refine x_bipush 32 (by decide) dL_refusesOne_422 ?_
  refine x_icmp_ge_n 473 dL_refusesOne_424 (by decide) (by decide) ?_
  refine x_aload_n 1 dL_refusesOne_427 rfl rfl ?_
  refine x_iload 0 dL_refusesOne_428 rfl ?_
  refine x_iload 0 dL_refusesOne_430 rfl ?_
  refine x_bipush 25 (by decide) dL_refusesOne_432 ?_
  refine x_icmp_ge_y 441 dL_refusesOne_434 (by decide) (by decide) ?_
  refine x_iload 0 dL_refusesOne_441 rfl ?_
  refine x_bipush 29 (by decide) dL_refusesOne_443 ?_
  refine x_icmp_ge_y 453 dL_refusesOne_445 (by decide) (by decide) ?_
  refine x_iload 6 dL_refusesOne_453 rfl ?_
  refine x_iconst 0 (by decide) dL_refusesOne_455 ?_
  refine x_dom (fun hd28 => ?_)
  obtain ⟨f28, e28, a28, w28⟩ := k_cl31 (hs := n27) hN w27 (k_far k 0 ((nI (k_tlv S.2.2.1)) - 1)) 0
  rw [k_e31 (fun y => by omega)] at e28
  have z28 := z27.st a28
  refine x_callsH (As := [.ref x, .int 31, .int (k_far k 0 ((nI (k_tlv S.2.2.1)) - 1)), .int 0]) (rest := []) (rc + 209) (rs + 11520) dL_refusesOne_456 mi_L_call rfl ml_L_182 rfl rfl (Nat.le_of_ble_eq_true rfl) ⟨by decide, by decide⟩ (by omega) (by omega) (c_L_call N _ _ _ _ _ _ e28) (fun n28 => ?_)
  refine x_toX (st' := [.int (-2011)]) rfl ?_
  refine x_sipush (-2011) (by decide) dL_refusesOne_459 ?_
  refine x_icmp_eq_y 467 dL_refusesOne_462 (by decide) (by decide) ?_
  refine x_iinc 32 (lv' := [(6, .int 32), (0, .ref x), (1, .int k), (2, .int (k_far k 0 9999)), (3, .int (k_far k 0 (nI S.1))), (4, .int (k_far k 0 ((nI S.2.2.1.2.2.1) - 1))), (5, .int (k_far k 0 ((nI (k_tlv S.2.2.1)) - 1)))]) dL_refusesOne_467 0 rfl (by decide) (by decide) rfl ?_
  refine x_goto 420 dL_refusesOne_470 (by decide) ?_
  refine x_iload 0 dL_refusesOne_420 rfl ?_
  refine x_bipush 32 (by decide) dL_refusesOne_422 ?_
  refine x_icmp_ge_y 473 dL_refusesOne_424 (by decide) (by decide) ?_
  refine x_sub [1, 2, 3, 4, 5, 6] rfl ?_
  exact x_less (rc' := rc + 209) (rs' := rs + 11520) (by omega) (by omega) (ro_473 hN hc f28 n28 w28 z28)
set_option maxRecDepth 20000 in
set_option maxHeartbeats 4000000 in
theorem ro_0 (hN : 50000 ≤ N) (hc : c < 351) (f : XM) (n : Nat) {rc rs : Nat} (w0 : k_wd x wz c S P K [] f) (z0 : k_Zf x wz f0 f) : X mL_refusesOne 10 245 (x_endq (fun v f' => v = some (.int 1) ∧ k_wd x wz c S P K [] f' ∧ k_Zf x wz f0 f')) x_noRO (rc + 1465) (rs + 82363) 0 [(0, .ref x), (1, .int k)] [] (f, n) := by
  have c0 : (0 : Int32).toInt = 0 := rfl
  have c9 : (9999 : Int32).toInt = 9999 := rfl
  have c5 : (500 : Int32).toInt = 500 := rfl
  have c49 : (499 : Int32).toInt = 499 := rfl
  have hg := w0.gd.1
  have b1 := hg.1
  have b2 := hg.2.2.2.2.1.2.2.2.1
  have b3 : k_tlv S.2.2.1 ≤ 32 := k_lv_32 _ _ _
  have b4 : (k_all S).1 ≤ 532 := by
    obtain ⟨q9, St9, bf9, h9, g9⟩ := w0.ci
    exact (h9.okA (N := N) (by omega) g9).2
  have b5 : (S.2.1 (k_u 0)).1 ≤ 60 := by
    have := hg.2.2.1
    show (S.2.1 0).1 ≤ 60
    omega
  have b6 : k_own S.2.2.1 (k_u 0) ≤ 160 := Nat.le_trans (k_cnt_le _ _) hg.2.2.2.2.1.2.2.1
  refine x_iload_n 1 dL_refusesOne_0 rfl rfl ?_
  refine x_iconst 0 (by decide) dL_refusesOne_1 ?_
  refine x_sipush 9999 (by decide) dL_refusesOne_2 ?_
  have o1 : (k_far k 0 9999).toInt < 0 ∨ 9999 < (k_far k 0 9999).toInt := k_far_o (by decide) (by decide) (by decide) (by decide)
  refine x_calls (As := [.int k, .int 0, .int 9999]) (rest := []) (rc + 1465) (rs + 82363) dL_refusesOne_5 mi_L_far rfl ml_L_175 rfl rfl (Nat.le_of_ble_eq_true rfl) ⟨by decide, by decide⟩ (by omega) (by omega) (c_L_far N _ _ _ _ _ _ (k_farF k 0 9999)) (x_K.some ?_) x_KX.none
  refine x_istore_n (i := 2) (lv' := [(2, .int (k_far k 0 9999)), (0, .ref x), (1, .int k)]) dL_refusesOne_8 rfl (by decide) rfl ?_
  refine x_iload_n 2 dL_refusesOne_9 rfl rfl ?_
  refine x_iconst 0 (by decide) dL_refusesOne_10 ?_
  refine x_aload_n 1 dL_refusesOne_11 rfl rfl ?_
  obtain ⟨q2, St2, bf2, h2, g2⟩ := w0.ci
  obtain ⟨fs3, hfs3⟩ := w0.ob
  refine x_callv (As := []) (rest := [.int 0, .int k]) (rc + 1465) (rs + 82363) dL_refusesOne_12 mi_X5_runs ml_L_155 rfl rfl (Nat.le_of_ble_eq_true rfl) ⟨by decide, by decide⟩ (by omega) (by omega) hfs3 rfl (c_X5_runs N _ _ _ _ (q_runs (N := N) h2)) (x_K.some ?_) x_KX.none
  have o4 : (k_far k 0 (nI S.1)).toInt < 0 ∨ (S.1 : Int) < (k_far k 0 (nI S.1)).toInt := by
    have h9 := k_far_o (k := k) (lo := 0) (hi := (nI S.1)) (by decide) (by rw [nI_toInt (by omega), c0]; omega) (by rw [nI_toInt (by omega)]; omega) (by rw [nI_toInt (by omega)]; omega)
    rw [nI_toInt (by omega), c0] at h9
    exact h9
  refine x_calls (As := [.int k, .int 0, .int (nI S.1)]) (rest := []) (rc + 1465) (rs + 82363) dL_refusesOne_15 mi_L_far rfl ml_L_175 rfl rfl (Nat.le_of_ble_eq_true rfl) ⟨by decide, by decide⟩ (by omega) (by omega) (c_L_far N _ _ _ _ _ _ (k_farF k 0 (nI S.1))) (x_K.some ?_) x_KX.none
  refine x_istore_n (i := 3) (lv' := [(3, .int (k_far k 0 (nI S.1))), (2, .int (k_far k 0 9999)), (0, .ref x), (1, .int k)]) dL_refusesOne_18 rfl (by decide) rfl ?_
  refine x_iload_n 3 dL_refusesOne_19 rfl rfl ?_
  refine x_iconst 0 (by decide) dL_refusesOne_20 ?_
  refine x_aload_n 2 dL_refusesOne_21 rfl rfl ?_
  obtain ⟨q5, St5, bf5, h5, g5⟩ := w0.ci
  obtain ⟨fs6, hfs6⟩ := w0.ob
  refine x_callv (As := []) (rest := [.int 0, .int k]) (rc + 1465) (rs + 82363) dL_refusesOne_22 mi_X5_leaves ml_L_146 rfl rfl (Nat.le_of_ble_eq_true rfl) ⟨by decide, by decide⟩ (by omega) (by omega) hfs6 rfl (c_X5_leaves N _ _ _ _ (q_leaves (N := N) h5)) (x_K.some ?_) x_KX.none
  refine x_iconst 1 (by decide) dL_refusesOne_25 ?_
  refine x_isub dL_refusesOne_26 ?_
  have o7 : (k_far k 0 ((nI S.2.2.1.2.2.1) - 1)).toInt < 0 ∨ (S.2.2.1.2.2.1 : Int) - 1 < (k_far k 0 ((nI S.2.2.1.2.2.1) - 1)).toInt := by
    have h9 := k_far_o (k := k) (lo := 0) (hi := ((nI S.2.2.1.2.2.1) - 1)) (by decide) (by rw [k_ni1 (by omega), c0]; omega) (by rw [k_ni1 (by omega)]; omega) (by rw [k_ni1 (by omega)]; omega)
    rw [k_ni1 (by omega), c0] at h9
    exact h9
  refine x_calls (As := [.int k, .int 0, .int ((nI S.2.2.1.2.2.1) - 1)]) (rest := []) (rc + 1465) (rs + 82363) dL_refusesOne_27 mi_L_far rfl ml_L_175 rfl rfl (Nat.le_of_ble_eq_true rfl) ⟨by decide, by decide⟩ (by omega) (by omega) (c_L_far N _ _ _ _ _ _ (k_farF k 0 ((nI S.2.2.1.2.2.1) - 1))) (x_K.some ?_) x_KX.none
  refine x_istore (i := 4) (lv' := [(4, .int (k_far k 0 ((nI S.2.2.1.2.2.1) - 1))), (3, .int (k_far k 0 (nI S.1))), (2, .int (k_far k 0 9999)), (0, .ref x), (1, .int k)]) dL_refusesOne_30 (by decide) rfl ?_
  refine x_iload_n 4 dL_refusesOne_32 rfl rfl ?_
  refine x_iconst 0 (by decide) dL_refusesOne_33 ?_
  refine x_aload_n 3 dL_refusesOne_34 rfl rfl ?_
  obtain ⟨q8, St8, bf8, h8, g8⟩ := w0.ci
  obtain ⟨fs9, hfs9⟩ := w0.ob
  refine x_callv (As := []) (rest := [.int 0, .int k]) (rc + 1465) (rs + 82363) dL_refusesOne_35 mi_X5_levels ml_L_179 rfl rfl (Nat.le_of_ble_eq_true rfl) ⟨by decide, by decide⟩ (by omega) (by omega) hfs9 rfl (c_X5_levels N _ _ _ _ (q_levels hN h8 g8)) (x_K.some ?_) x_KX.none
  refine x_iconst 1 (by decide) dL_refusesOne_38 ?_
  refine x_isub dL_refusesOne_39 ?_
  have o10 : (k_far k 0 ((nI (k_tlv S.2.2.1)) - 1)).toInt < 0 ∨ ((k_tlv S.2.2.1) : Int) - 1 < (k_far k 0 ((nI (k_tlv S.2.2.1)) - 1)).toInt := by
    have h9 := k_far_o (k := k) (lo := 0) (hi := ((nI (k_tlv S.2.2.1)) - 1)) (by decide) (by rw [k_ni1 (by omega), c0]; omega) (by rw [k_ni1 (by omega)]; omega) (by rw [k_ni1 (by omega)]; omega)
    rw [k_ni1 (by omega), c0] at h9
    exact h9
  refine x_calls (As := [.int k, .int 0, .int ((nI (k_tlv S.2.2.1)) - 1)]) (rest := []) (rc + 1465) (rs + 82363) dL_refusesOne_40 mi_L_far rfl ml_L_175 rfl rfl (Nat.le_of_ble_eq_true rfl) ⟨by decide, by decide⟩ (by omega) (by omega) (c_L_far N _ _ _ _ _ _ (k_farF k 0 ((nI (k_tlv S.2.2.1)) - 1))) (x_K.some ?_) x_KX.none
  refine x_istore (i := 5) (lv' := [(5, .int (k_far k 0 ((nI (k_tlv S.2.2.1)) - 1))), (4, .int (k_far k 0 ((nI S.2.2.1.2.2.1) - 1))), (3, .int (k_far k 0 (nI S.1))), (2, .int (k_far k 0 9999)), (0, .ref x), (1, .int k)]) dL_refusesOne_43 (by decide) rfl ?_
  refine x_aload_n 4 dL_refusesOne_45 rfl rfl ?_
  refine x_iconst 0 (by decide) dL_refusesOne_46 ?_
  refine x_iload_n 3 dL_refusesOne_47 rfl rfl ?_
  refine x_iconst 0 (by decide) dL_refusesOne_48 ?_
  refine x_dom (fun hd11 => ?_)
  obtain ⟨f11, e11, a11, w11⟩ := k_rf0_0 hN hc w0 hd11 (z0.le w0 hd11) (a := (k_far k 0 9999)) (b := 0) (k_e0 (fun y => by omega))
  have z11 := z0.st a11
  refine x_callsH (As := [.ref x, .int 0, .int (k_far k 0 9999), .int 0]) (rest := []) (rc + 1431) (rs + 80448) dL_refusesOne_49 mi_L_call rfl ml_L_182 rfl rfl (Nat.le_of_ble_eq_true rfl) ⟨by decide, by decide⟩ (by omega) (by omega) (c_L_call N _ _ _ _ _ _ e11) (fun n11 => ?_)
  refine x_toX (st' := [.int (-2012)]) rfl ?_
  refine x_sipush (-2012) (by decide) dL_refusesOne_52 ?_
  refine x_icmp_ne_n 372 dL_refusesOne_55 (by decide) (by decide) ?_
  refine x_aload_n 4 dL_refusesOne_58 rfl rfl ?_
  refine x_iconst 0 (by decide) dL_refusesOne_59 ?_
  refine x_sipush 9999 (by decide) dL_refusesOne_60 ?_
  refine x_iload_n 5 dL_refusesOne_63 rfl rfl ?_
  refine x_iconst 0 (by decide) dL_refusesOne_64 ?_
  refine x_bipush 99 (by decide) dL_refusesOne_65 ?_
  have o12 : (k_far k 0 99).toInt < 0 ∨ 99 < (k_far k 0 99).toInt := k_far_o (by decide) (by decide) (by decide) (by decide)
  refine x_calls (As := [.int k, .int 0, .int 99]) (rest := [.int 9999, .int 0, .ref x]) (rc + 1431) (rs + 80448) dL_refusesOne_67 mi_L_far rfl ml_L_175 rfl rfl (Nat.le_of_ble_eq_true rfl) ⟨by decide, by decide⟩ (by omega) (by omega) (c_L_far N _ _ _ _ _ _ (k_farF k 0 99)) (x_K.some ?_) x_KX.none
  refine x_dom (fun hd13 => ?_)
  obtain ⟨f13, e13, a13, w13⟩ := k_rf0_0 hN hc w11 hd13 (z11.le w11 hd13) (a := 9999) (b := (k_far k 0 99)) (k_e0 (fun y => by omega))
  have z13 := z11.st a13
  refine x_callsH (As := [.ref x, .int 0, .int 9999, .int (k_far k 0 99)]) (rest := []) (rc + 1397) (rs + 78533) dL_refusesOne_70 mi_L_call rfl ml_L_182 rfl rfl (Nat.le_of_ble_eq_true rfl) ⟨by decide, by decide⟩ (by omega) (by omega) (c_L_call N _ _ _ _ _ _ e13) (fun n13 => ?_)
  refine x_toX (st' := [.int (-2012)]) rfl ?_
  refine x_sipush (-2012) (by decide) dL_refusesOne_73 ?_
  refine x_icmp_ne_n 372 dL_refusesOne_76 (by decide) (by decide) ?_
  refine x_aload_n 4 dL_refusesOne_79 rfl rfl ?_
  refine x_iconst 1 (by decide) dL_refusesOne_80 ?_
  refine x_iload_n 3 dL_refusesOne_81 rfl rfl ?_
  refine x_iconst 0 (by decide) dL_refusesOne_82 ?_
  refine x_dom (fun hd14 => ?_)
  obtain ⟨f14, e14, a14, w14⟩ := k_rf1_0 hN hc w13 hd14 (z13.le w13 hd14) (a := (k_far k 0 9999)) (b := 0) (k_e1 (fun y => by obtain ⟨y1, y2⟩ := y; omega))
  have z14 := z13.st a14
  refine x_callsH (As := [.ref x, .int 1, .int (k_far k 0 9999), .int 0]) (rest := []) (rc + 1363) (rs + 76618) dL_refusesOne_83 mi_L_call rfl ml_L_182 rfl rfl (Nat.le_of_ble_eq_true rfl) ⟨by decide, by decide⟩ (by omega) (by omega) (c_L_call N _ _ _ _ _ _ e14) (fun n14 => ?_)
  refine x_toX (st' := [.int (-2012)]) rfl ?_
  refine x_sipush (-2012) (by decide) dL_refusesOne_86 ?_
  refine x_icmp_ne_n 372 dL_refusesOne_89 (by decide) (by decide) ?_
  refine x_aload_n 4 dL_refusesOne_92 rfl rfl ?_
  refine x_iconst 4 (by decide) dL_refusesOne_93 ?_
  refine x_iload_n 5 dL_refusesOne_94 rfl rfl ?_
  refine x_bipush 50 (by decide) dL_refusesOne_95 ?_
  refine x_bipush 100 (by decide) dL_refusesOne_97 ?_
  have o15 : (k_far k 50 100).toInt < 50 ∨ 100 < (k_far k 50 100).toInt := k_far_o (by decide) (by decide) (by decide) (by decide)
  refine x_calls (As := [.int k, .int 50, .int 100]) (rest := [.int 4, .ref x]) (rc + 1363) (rs + 76618) dL_refusesOne_99 mi_L_far rfl ml_L_175 rfl rfl (Nat.le_of_ble_eq_true rfl) ⟨by decide, by decide⟩ (by omega) (by omega) (c_L_far N _ _ _ _ _ _ (k_farF k 50 100)) (x_K.some ?_) x_KX.none
  refine x_iconst 0 (by decide) dL_refusesOne_102 ?_
  refine x_dom (fun hd16 => ?_)
  obtain ⟨f16, e16, a16, w16⟩ := k_rf4_0 hN hc w14 hd16 (z14.le w14 hd16) (a := (k_far k 50 100)) (b := 0) (k_e4 (fun y => by omega))
  have z16 := z14.st a16
  refine x_callsH (As := [.ref x, .int 4, .int (k_far k 50 100), .int 0]) (rest := []) (rc + 1329) (rs + 74703) dL_refusesOne_103 mi_L_call rfl ml_L_182 rfl rfl (Nat.le_of_ble_eq_true rfl) ⟨by decide, by decide⟩ (by omega) (by omega) (c_L_call N _ _ _ _ _ _ e16) (fun n16 => ?_)
  refine x_toX (st' := [.int (-2012)]) rfl ?_
  refine x_sipush (-2012) (by decide) dL_refusesOne_106 ?_
  refine x_icmp_ne_n 372 dL_refusesOne_109 (by decide) (by decide) ?_
  refine x_aload_n 4 dL_refusesOne_112 rfl rfl ?_
  refine x_iconst 5 (by decide) dL_refusesOne_113 ?_
  refine x_iload_n 3 dL_refusesOne_114 rfl rfl ?_
  refine x_iconst 0 (by decide) dL_refusesOne_115 ?_
  refine x_dom (fun hd17 => ?_)
  obtain ⟨f17, e17, a17, w17⟩ := k_rf5_0 hN hc w16 hd17 (z16.le w16 hd17) (a := (k_far k 0 9999)) (b := 0) (k_e5 (fun y => by omega))
  have z17 := z16.st a17
  refine x_callsH (As := [.ref x, .int 5, .int (k_far k 0 9999), .int 0]) (rest := []) (rc + 1295) (rs + 72788) dL_refusesOne_116 mi_L_call rfl ml_L_182 rfl rfl (Nat.le_of_ble_eq_true rfl) ⟨by decide, by decide⟩ (by omega) (by omega) (c_L_call N _ _ _ _ _ _ e17) (fun n17 => ?_)
  refine x_toX (st' := [.int (-2012)]) rfl ?_
  refine x_sipush (-2012) (by decide) dL_refusesOne_119 ?_
  refine x_icmp_ne_n 372 dL_refusesOne_122 (by decide) (by decide) ?_
  refine x_aload_n 4 dL_refusesOne_125 rfl rfl ?_
  refine x_iconst 5 (by decide) dL_refusesOne_126 ?_
  refine x_iconst 0 (by decide) dL_refusesOne_127 ?_
  refine x_iload_n 5 dL_refusesOne_128 rfl rfl ?_
  refine x_iconst 0 (by decide) dL_refusesOne_129 ?_
  refine x_bipush 99 (by decide) dL_refusesOne_130 ?_
  have o18 : (k_far k 0 99).toInt < 0 ∨ 99 < (k_far k 0 99).toInt := k_far_o (by decide) (by decide) (by decide) (by decide)
  refine x_calls (As := [.int k, .int 0, .int 99]) (rest := [.int 0, .int 5, .ref x]) (rc + 1295) (rs + 72788) dL_refusesOne_132 mi_L_far rfl ml_L_175 rfl rfl (Nat.le_of_ble_eq_true rfl) ⟨by decide, by decide⟩ (by omega) (by omega) (c_L_far N _ _ _ _ _ _ (k_farF k 0 99)) (x_K.some ?_) x_KX.none
  refine x_dom (fun hd19 => ?_)
  obtain ⟨f19, e19, a19, w19⟩ := k_rf5_0 hN hc w17 hd19 (z17.le w17 hd19) (a := 0) (b := (k_far k 0 99)) (k_e5 (fun y => by omega))
  have z19 := z17.st a19
  refine x_callsH (As := [.ref x, .int 5, .int 0, .int (k_far k 0 99)]) (rest := []) (rc + 1261) (rs + 70873) dL_refusesOne_135 mi_L_call rfl ml_L_182 rfl rfl (Nat.le_of_ble_eq_true rfl) ⟨by decide, by decide⟩ (by omega) (by omega) (c_L_call N _ _ _ _ _ _ e19) (fun n19 => ?_)
  refine x_toX (st' := [.int (-2012)]) rfl ?_
  refine x_sipush (-2012) (by decide) dL_refusesOne_138 ?_
  refine x_icmp_ne_n 372 dL_refusesOne_141 (by decide) (by decide) ?_
  refine x_aload_n 4 dL_refusesOne_144 rfl rfl ?_
  refine x_bipush 6 (by decide) dL_refusesOne_145 ?_
  refine x_iload_n 3 dL_refusesOne_147 rfl rfl ?_
  refine x_iconst 0 (by decide) dL_refusesOne_148 ?_
  refine x_dom (fun hd20 => ?_)
  obtain ⟨f20, e20, a20, w20⟩ := k_rf6_0 hN hc w19 hd20 (z19.le w19 hd20) (a := (k_far k 0 9999)) (b := 0) (k_e6 (fun y => by obtain ⟨y1, y2⟩ := y; omega))
  have z20 := z19.st a20
  refine x_callsH (As := [.ref x, .int 6, .int (k_far k 0 9999), .int 0]) (rest := []) (rc + 1227) (rs + 68958) dL_refusesOne_149 mi_L_call rfl ml_L_182 rfl rfl (Nat.le_of_ble_eq_true rfl) ⟨by decide, by decide⟩ (by omega) (by omega) (c_L_call N _ _ _ _ _ _ e20) (fun n20 => ?_)
  refine x_toX (st' := [.int (-2012)]) rfl ?_
  refine x_sipush (-2012) (by decide) dL_refusesOne_152 ?_
  refine x_icmp_ne_n 372 dL_refusesOne_155 (by decide) (by decide) ?_
  refine x_aload_n 4 dL_refusesOne_158 rfl rfl ?_
  refine x_bipush 7 (by decide) dL_refusesOne_159 ?_
  refine x_iload_n 5 dL_refusesOne_161 rfl rfl ?_
  refine x_iconst 2 (by decide) dL_refusesOne_162 ?_
  refine x_bipush 8 (by decide) dL_refusesOne_163 ?_
  have o21 : (k_far k 2 8).toInt < 2 ∨ 8 < (k_far k 2 8).toInt := k_far_o (by decide) (by decide) (by decide) (by decide)
  refine x_calls (As := [.int k, .int 2, .int 8]) (rest := [.int 7, .ref x]) (rc + 1227) (rs + 68958) dL_refusesOne_165 mi_L_far rfl ml_L_175 rfl rfl (Nat.le_of_ble_eq_true rfl) ⟨by decide, by decide⟩ (by omega) (by omega) (c_L_far N _ _ _ _ _ _ (k_farF k 2 8)) (x_K.some ?_) x_KX.none
  refine x_iconst 0 (by decide) dL_refusesOne_168 ?_
  refine x_dom (fun hd22 => ?_)
  obtain ⟨f22, e22, a22, w22⟩ := k_rf7_0 hN hc w20 hd22 (z20.le w20 hd22) (a := (k_far k 2 8)) (b := 0) (k_e7 (fun y => by omega))
  have z22 := z20.st a22
  refine x_callsH (As := [.ref x, .int 7, .int (k_far k 2 8), .int 0]) (rest := []) (rc + 1193) (rs + 67043) dL_refusesOne_169 mi_L_call rfl ml_L_182 rfl rfl (Nat.le_of_ble_eq_true rfl) ⟨by decide, by decide⟩ (by omega) (by omega) (c_L_call N _ _ _ _ _ _ e22) (fun n22 => ?_)
  refine x_toX (st' := [.int (-2012)]) rfl ?_
  refine x_sipush (-2012) (by decide) dL_refusesOne_172 ?_
  refine x_icmp_ne_n 372 dL_refusesOne_175 (by decide) (by decide) ?_
  refine x_aload_n 4 dL_refusesOne_178 rfl rfl ?_
  refine x_bipush 8 (by decide) dL_refusesOne_179 ?_
  refine x_iload_n 5 dL_refusesOne_181 rfl rfl ?_
  refine x_iconst 2 (by decide) dL_refusesOne_182 ?_
  refine x_bipush 6 (by decide) dL_refusesOne_183 ?_
  have o23 : (k_far k 2 6).toInt < 2 ∨ 6 < (k_far k 2 6).toInt := k_far_o (by decide) (by decide) (by decide) (by decide)
  refine x_calls (As := [.int k, .int 2, .int 6]) (rest := [.int 8, .ref x]) (rc + 1193) (rs + 67043) dL_refusesOne_185 mi_L_far rfl ml_L_175 rfl rfl (Nat.le_of_ble_eq_true rfl) ⟨by decide, by decide⟩ (by omega) (by omega) (c_L_far N _ _ _ _ _ _ (k_farF k 2 6)) (x_K.some ?_) x_KX.none
  refine x_iconst 0 (by decide) dL_refusesOne_188 ?_
  refine x_dom (fun hd24 => ?_)
  obtain ⟨f24, e24, a24, w24⟩ := k_rf8_0 hN hc w22 hd24 (z22.le w22 hd24) (a := (k_far k 2 6)) (b := 0) (k_e8 (fun y => by omega))
  have z24 := z22.st a24
  refine x_callsH (As := [.ref x, .int 8, .int (k_far k 2 6), .int 0]) (rest := []) (rc + 1159) (rs + 65128) dL_refusesOne_189 mi_L_call rfl ml_L_182 rfl rfl (Nat.le_of_ble_eq_true rfl) ⟨by decide, by decide⟩ (by omega) (by omega) (c_L_call N _ _ _ _ _ _ e24) (fun n24 => ?_)
  refine x_toX (st' := [.int (-2012)]) rfl ?_
  refine x_sipush (-2012) (by decide) dL_refusesOne_192 ?_
  refine x_icmp_ne_n 372 dL_refusesOne_195 (by decide) (by decide) ?_
  refine x_aload_n 4 dL_refusesOne_198 rfl rfl ?_
  refine x_bipush 9 (by decide) dL_refusesOne_199 ?_
  refine x_iload_n 5 dL_refusesOne_201 rfl rfl ?_
  refine x_bipush 33 (by decide) dL_refusesOne_202 ?_
  refine x_bipush 126 (by decide) dL_refusesOne_204 ?_
  have o25 : (k_far k 33 126).toInt < 33 ∨ 126 < (k_far k 33 126).toInt := k_far_o (by decide) (by decide) (by decide) (by decide)
  refine x_calls (As := [.int k, .int 33, .int 126]) (rest := [.int 9, .ref x]) (rc + 1159) (rs + 65128) dL_refusesOne_206 mi_L_far rfl ml_L_175 rfl rfl (Nat.le_of_ble_eq_true rfl) ⟨by decide, by decide⟩ (by omega) (by omega) (c_L_far N _ _ _ _ _ _ (k_farF k 33 126)) (x_K.some ?_) x_KX.none
  refine x_iconst 0 (by decide) dL_refusesOne_209 ?_
  refine x_dom (fun hd26 => ?_)
  obtain ⟨f26, e26, a26, w26⟩ := k_rf9 (N := N) (hs := n24) w24 (a := (k_far k 33 126)) (b := 0) (k_e9 (fun y => by omega))
  have z26 := z24.st a26
  refine x_callsH (As := [.ref x, .int 9, .int (k_far k 33 126), .int 0]) (rest := []) (rc + 1125) (rs + 63213) dL_refusesOne_210 mi_L_call rfl ml_L_182 rfl rfl (Nat.le_of_ble_eq_true rfl) ⟨by decide, by decide⟩ (by omega) (by omega) (c_L_call N _ _ _ _ _ _ e26) (fun n26 => ?_)
  refine x_toX (st' := [.int (-2012)]) rfl ?_
  refine x_sipush (-2012) (by decide) dL_refusesOne_213 ?_
  refine x_icmp_ne_n 372 dL_refusesOne_216 (by decide) (by decide) ?_
  refine x_aload_n 4 dL_refusesOne_219 rfl rfl ?_
  refine x_bipush 10 (by decide) dL_refusesOne_220 ?_
  refine x_iconst 0 (by decide) dL_refusesOne_222 ?_
  refine x_iconst 0 (by decide) dL_refusesOne_223 ?_
  refine x_dom (fun hd27 => ?_)
  obtain ⟨f27, e27, a27, w27⟩ := k_rf10 (hs := n26) hN w26 (fun y => absurd y.2 (by decide)) 0 0
  have z27 := z26.st a27
  refine x_callsH (As := [.ref x, .int 10, .int 0, .int 0]) (rest := []) (rc + 1091) (rs + 61298) dL_refusesOne_224 mi_L_call rfl ml_L_182 rfl rfl (Nat.le_of_ble_eq_true rfl) ⟨by decide, by decide⟩ (by omega) (by omega) (c_L_call N _ _ _ _ _ _ e27) (fun n27 => ?_)
  refine x_toX (st' := [.int (-2012)]) rfl ?_
  refine x_sipush (-2012) (by decide) dL_refusesOne_227 ?_
  refine x_icmp_ne_n 372 dL_refusesOne_230 (by decide) (by decide) ?_
  refine x_aload_n 4 dL_refusesOne_233 rfl rfl ?_
  refine x_iload_n 5 dL_refusesOne_234 rfl rfl ?_
  refine x_iconst 0 (by decide) dL_refusesOne_235 ?_
  refine x_iconst 1 (by decide) dL_refusesOne_236 ?_
  have o28 : (k_far k 0 1).toInt < 0 ∨ 1 < (k_far k 0 1).toInt := k_far_o (by decide) (by decide) (by decide) (by decide)
  refine x_calls (As := [.int k, .int 0, .int 1]) (rest := [.ref x]) (rc + 1091) (rs + 61298) dL_refusesOne_237 mi_L_far rfl ml_L_175 rfl rfl (Nat.le_of_ble_eq_true rfl) ⟨by decide, by decide⟩ (by omega) (by omega) (c_L_far N _ _ _ _ _ _ (k_farF k 0 1)) (x_K.some ?_) x_KX.none
  refine x_dom (fun hd29 => ?_)
  obtain ⟨f29, e29, a29, w29⟩ := k_rfk hN w27 hd29 (z27.le w27 hd29) (a := (k_far k 0 1)) (k_ek (fun y => by omega))
  have z29 := z27.st a29
  refine x_callsH (As := [.ref x, .int (k_far k 0 1)]) (rest := []) (rc + 1058) (rs + 59389) dL_refusesOne_240 mi_L_keeps rfl ml_L_185 rfl rfl (Nat.le_of_ble_eq_true rfl) ⟨by decide, by decide⟩ (by omega) (by omega) (c_L_keeps N _ _ _ _ e29) (fun n29 => ?_)
  refine x_toX (st' := [.int (-2012)]) rfl ?_
  refine x_sipush (-2012) (by decide) dL_refusesOne_243 ?_
  refine x_icmp_ne_n 372 dL_refusesOne_246 (by decide) (by decide) ?_
  refine x_aload_n 4 dL_refusesOne_249 rfl rfl ?_
  refine x_iload_n 5 dL_refusesOne_250 rfl rfl ?_
  refine x_iconst 0 (by decide) dL_refusesOne_251 ?_
  refine x_iconst 1 (by decide) dL_refusesOne_252 ?_
  have o30 : (k_far k 0 1).toInt < 0 ∨ 1 < (k_far k 0 1).toInt := k_far_o (by decide) (by decide) (by decide) (by decide)
  refine x_calls (As := [.int k, .int 0, .int 1]) (rest := [.ref x]) (rc + 1058) (rs + 59389) dL_refusesOne_253 mi_L_far rfl ml_L_175 rfl rfl (Nat.le_of_ble_eq_true rfl) ⟨by decide, by decide⟩ (by omega) (by omega) (c_L_far N _ _ _ _ _ _ (k_farF k 0 1)) (x_K.some ?_) x_KX.none
  refine x_dom (fun hd31 => ?_)
  obtain ⟨f31, e31, a31, w31⟩ := k_rfb hN w29 hd31 (z29.le w29 hd31) (a := (k_far k 0 1)) (k_eb (fun y => by omega))
  have z31 := z29.st a31
  refine x_callsH (As := [.ref x, .int (k_far k 0 1)]) (rest := []) (rc + 1025) (rs + 57480) dL_refusesOne_256 mi_L_back rfl ml_L_189 rfl rfl (Nat.le_of_ble_eq_true rfl) ⟨by decide, by decide⟩ (by omega) (by omega) (c_L_back N _ _ _ _ e31) (fun n31 => ?_)
  refine x_toX (st' := [.int (-2012)]) rfl ?_
  refine x_sipush (-2012) (by decide) dL_refusesOne_259 ?_
  refine x_icmp_ne_n 372 dL_refusesOne_262 (by decide) (by decide) ?_
  refine x_aload_n 4 dL_refusesOne_265 rfl rfl ?_
  refine x_bipush 16 (by decide) dL_refusesOne_266 ?_
  refine x_iconst 0 (by decide) dL_refusesOne_268 ?_
  refine x_iload_n 3 dL_refusesOne_269 rfl rfl ?_
  refine x_dom (fun hd32 => ?_)
  obtain ⟨f32, e32, a32, w32⟩ := k_cl16 (hs := n31) hN w31 0 (k_far k 0 9999)
  rw [k_e16 (fun y => by omega)] at e32
  have z32 := z31.st a32
  refine x_callsH (As := [.ref x, .int 16, .int 0, .int (k_far k 0 9999)]) (rest := []) (rc + 991) (rs + 55565) dL_refusesOne_270 mi_L_call rfl ml_L_182 rfl rfl (Nat.le_of_ble_eq_true rfl) ⟨by decide, by decide⟩ (by omega) (by omega) (c_L_call N _ _ _ _ _ _ e32) (fun n32 => ?_)
  refine x_toX (st' := [.int (-2012)]) rfl ?_
  refine x_sipush (-2012) (by decide) dL_refusesOne_273 ?_
  refine x_icmp_ne_n 372 dL_refusesOne_276 (by decide) (by decide) ?_
  refine x_aload_n 4 dL_refusesOne_279 rfl rfl ?_
  refine x_bipush 17 (by decide) dL_refusesOne_280 ?_
  refine x_sipush 500 (by decide) dL_refusesOne_282 ?_
  refine x_iload_n 5 dL_refusesOne_285 rfl rfl ?_
  refine x_iconst 2 (by decide) dL_refusesOne_286 ?_
  by_cases hk2 : k < 2
  · refine x_icmp_ge_n 296 dL_refusesOne_287 (by decide) (fun z => by rw [k_i_lt] at hk2; rw [k_i_le] at z; omega) ?_
    refine x_sipush 499 (by decide) dL_refusesOne_290 ?_
    refine x_goto 297 dL_refusesOne_293 (by decide) ?_
    refine x_sub [4, 5, 3, 2, 1, 0] rfl ?_
    exact x_less (rc' := rc + 991) (rs' := rs + 55565) (by omega) (by omega) (ro_join hN hc f32 n32 (Or.inl (by decide)) w32 z32)
  · refine x_icmp_ge_y 296 dL_refusesOne_287 (by decide) (by rw [k_i_lt] at hk2; rw [k_i_le]; omega) ?_
    refine x_iload_n 3 dL_refusesOne_296 rfl rfl ?_
    refine x_sub [4, 5, 3, 2, 1, 0] rfl ?_
    exact x_less (rc' := rc + 991) (rs' := rs + 55565) (by omega) (by omega) (ro_join hN hc f32 n32 (by omega) w32 z32)
theorem c_refusesOne (hN : 50000 ≤ N) (hc : c < 351) (h : XH) (w0 : k_wd x wz c S P K [] h.1) (z0 : k_Zf x wz f0 h.1) : x_Cq mL_refusesOne 10 245 1465 82363 [.ref x, .int k] h (fun v f' => v = some (.int 1) ∧ k_wd x wz c S P K [] f' ∧ k_Zf x wz f0 f') := x_cq (by decide) rfl (Nat.le_of_ble_eq_true rfl) (x_less (rc' := 0 + 1465) (rs' := 0 + 82363) (by omega) (by omega) (ro_0 hN hc h.1 h.2 w0 z0))
end KRO
