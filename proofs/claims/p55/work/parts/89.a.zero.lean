/-! Contracts without cost: of calls that throw nothing. Laid by wip/p55/gen_law.py. -/
set_option maxRecDepth 20000 in
set_option maxHeartbeats 4000000 in
theorem c0_X5_requireFill (N : Nat) (f : XM) (p0 : Int32) (n : Nat) (r : (Unit)) (hF : F_X5_requireFill N f p0 = some (.inl r)) : x_Ct mX5_requireFill 6 90 0 0 [.int p0] (f, n) (xr_vpt (.inl r) (f, n)) := by
  unfold F_X5_requireFill at hF
  refine x_ct (by decide) rfl (Nat.le_of_ble_eq_true rfl) ?_
  show X mX5_requireFill 6 90 _ _ 0 0 0 [(0, .int p0)] [] (f, n)
  refine x_iload_n 0 dX5_requireFill_0 rfl rfl ?_
  refine x_bipush 50 (by decide) dX5_requireFill_1 ?_
  refine x_icmp_lt 12 dX5_requireFill_3 (by decide) hF (fun hF => ?_) (fun hF => ?_)
  · cases hF
  · refine x_iload_n 0 dX5_requireFill_6 rfl rfl ?_
    refine x_bipush 100 (by decide) dX5_requireFill_7 ?_
    refine x_icmp_le 23 dX5_requireFill_9 (by decide) hF (fun hF => ?_) (fun hF => ?_)
    · exact x_vret dX5_requireFill_23 rfl (by cases hF; rfl)
    · cases hF
set_option maxRecDepth 20000 in
set_option maxHeartbeats 4000000 in
theorem c0_X5_leavesIfBuilt (N : Nat) (f : XM) (this : Nat) (p0 : Int32) (n : Nat) (r : (Int32 × XM)) (hF : F_X5_leavesIfBuilt N f this p0 = some (.inl r)) : x_Ct mX5_leavesIfBuilt 7 114 0 0 [.ref this, .int p0] (f, n) (xr_imt (.inl r) n) := by
  unfold F_X5_leavesIfBuilt at hF
  refine x_ct (by decide) rfl (Nat.le_of_ble_eq_true rfl) ?_
  show X mX5_leavesIfBuilt 7 114 _ _ 0 0 0 [(0, .ref this), (1, .int p0)] [] (f, n)
  refine x_iload_n 1 dX5_leavesIfBuilt_0 rfl rfl ?_
  obtain ⟨z1, hzz1, hF⟩ := x_bind hF
  rcases z1 with w2 | e3
  · have hF := x_sel hF
    refine x_calls (As := [.int p0]) (rest := []) 0 0 dX5_leavesIfBuilt_1 mi_X5_requireFill rfl ml_X5_71 rfl rfl (Nat.le_of_ble_eq_true rfl) ⟨by decide, by decide⟩ (by omega) (by omega) (c0_X5_requireFill N _ _ _ _ hzz1) (x_K.none ?_) x_KX.none
    refine x_aload_n 0 dX5_leavesIfBuilt_4 rfl rfl ?_
    refine x_getr_r dX5_leavesIfBuilt_5 fl_X5_12 hF (fun v4 hF => ?_)
    refine x_aload_n 0 dX5_leavesIfBuilt_8 rfl rfl ?_
    refine x_getr_r dX5_leavesIfBuilt_9 fl_X5_40 hF (fun v5 hF => ?_)
    refine x_aload_n 0 dX5_leavesIfBuilt_12 rfl rfl ?_
    refine x_getr_r dX5_leavesIfBuilt_13 fl_X5_12 hF (fun v6 hF => ?_)
    refine x_nn hF (fun a7 ha7 hF => ?_)
    rw [ha7]
    refine x_nn hF (fun a8 ha8 hF => ?_)
    rw [ha8]
    obtain ⟨z9, hzz9, hF⟩ := x_bind hF
    obtain ⟨⟨fsz9, hbz9⟩, hzz9⟩ := x_cv_sp hzz9
    refine x_callv (As := [.ref a7]) (rest := [va_rf v4]) 0 0 dX5_leavesIfBuilt_16 mi_X0_gather ml_X5_129 rfl rfl (by simp only [List.map_cons, List.map_nil, x_rfc]; exact Nat.le_of_ble_eq_true rfl) ⟨by decide, by decide⟩ (by omega) (by omega) hbz9 rfl (c_X0_gather N _ _ _ _ _ hzz9) (x_K.some ?_) x_KX.none
    refine x_nn hF (fun a10 ha10 hF => ?_)
    rw [ha10]
    refine x_geti_r dX5_leavesIfBuilt_19 fl_X5_133 hF (fun v11 hF => ?_)
    refine x_iload_n 1 dX5_leavesIfBuilt_22 rfl rfl ?_
    refine x_nn hF (fun a12 ha12 hF => ?_)
    rw [ha12]
    obtain ⟨z13, hzz13, hF⟩ := x_bind hF
    obtain ⟨⟨fsz13, hbz13⟩, hzz13⟩ := x_cv_sp hzz13
    refine x_callv (As := [.int v11, .int p0]) (rest := []) 0 0 dX5_leavesIfBuilt_23 mi_X3_leavesOutOf ml_X5_293 rfl rfl (Nat.le_of_ble_eq_true rfl) ⟨by decide, by decide⟩ (by omega) (by omega) hbz13 rfl (c_X3_leavesOutOf N _ _ _ _ _ _ hzz13) (x_K.some ?_) x_KX.none
    exact x_iret dX5_leavesIfBuilt_26 rfl (by cases hF; rfl)
  · have hF := x_ser hF
    cases hF
set_option maxRecDepth 20000 in
set_option maxHeartbeats 4000000 in
theorem c0_X5_levelsIfBuilt (N : Nat) (f : XM) (this : Nat) (p0 : Int32) (n : Nat) (r : (Int32 × XM)) (hF : F_X5_levelsIfBuilt N f this p0 = some (.inl r)) : x_Ct mX5_levelsIfBuilt 7 114 0 0 [.ref this, .int p0] (f, n) (xr_imt (.inl r) n) := by
  unfold F_X5_levelsIfBuilt at hF
  refine x_ct (by decide) rfl (Nat.le_of_ble_eq_true rfl) ?_
  show X mX5_levelsIfBuilt 7 114 _ _ 0 0 0 [(0, .ref this), (1, .int p0)] [] (f, n)
  refine x_iload_n 1 dX5_levelsIfBuilt_0 rfl rfl ?_
  obtain ⟨z1, hzz1, hF⟩ := x_bind hF
  rcases z1 with w2 | e3
  · have hF := x_sel hF
    refine x_calls (As := [.int p0]) (rest := []) 0 0 dX5_levelsIfBuilt_1 mi_X5_requireFill rfl ml_X5_71 rfl rfl (Nat.le_of_ble_eq_true rfl) ⟨by decide, by decide⟩ (by omega) (by omega) (c0_X5_requireFill N _ _ _ _ hzz1) (x_K.none ?_) x_KX.none
    refine x_aload_n 0 dX5_levelsIfBuilt_4 rfl rfl ?_
    refine x_getr_r dX5_levelsIfBuilt_5 fl_X5_12 hF (fun v4 hF => ?_)
    refine x_aload_n 0 dX5_levelsIfBuilt_8 rfl rfl ?_
    refine x_getr_r dX5_levelsIfBuilt_9 fl_X5_40 hF (fun v5 hF => ?_)
    refine x_aload_n 0 dX5_levelsIfBuilt_12 rfl rfl ?_
    refine x_getr_r dX5_levelsIfBuilt_13 fl_X5_12 hF (fun v6 hF => ?_)
    refine x_nn hF (fun a7 ha7 hF => ?_)
    rw [ha7]
    refine x_nn hF (fun a8 ha8 hF => ?_)
    rw [ha8]
    obtain ⟨z9, hzz9, hF⟩ := x_bind hF
    obtain ⟨⟨fsz9, hbz9⟩, hzz9⟩ := x_cv_sp hzz9
    refine x_callv (As := [.ref a7]) (rest := [va_rf v4]) 0 0 dX5_levelsIfBuilt_16 mi_X0_gather ml_X5_129 rfl rfl (by simp only [List.map_cons, List.map_nil, x_rfc]; exact Nat.le_of_ble_eq_true rfl) ⟨by decide, by decide⟩ (by omega) (by omega) hbz9 rfl (c_X0_gather N _ _ _ _ _ hzz9) (x_K.some ?_) x_KX.none
    refine x_nn hF (fun a10 ha10 hF => ?_)
    rw [ha10]
    refine x_geti_r dX5_levelsIfBuilt_19 fl_X5_133 hF (fun v11 hF => ?_)
    refine x_iload_n 1 dX5_levelsIfBuilt_22 rfl rfl ?_
    refine x_nn hF (fun a12 ha12 hF => ?_)
    rw [ha12]
    obtain ⟨z13, hzz13, hF⟩ := x_bind hF
    obtain ⟨⟨fsz13, hbz13⟩, hzz13⟩ := x_cv_sp hzz13
    refine x_callv (As := [.int v11, .int p0]) (rest := []) 0 0 dX5_levelsIfBuilt_23 mi_X3_levelsOutOf ml_X5_296 rfl rfl (Nat.le_of_ble_eq_true rfl) ⟨by decide, by decide⟩ (by omega) (by omega) hbz13 rfl (c_X3_levelsOutOf N _ _ _ _ _ _ hzz13) (x_K.some ?_) x_KX.none
    exact x_iret dX5_levelsIfBuilt_26 rfl (by cases hF; rfl)
  · have hF := x_ser hF
    cases hF
set_option maxRecDepth 20000 in
set_option maxHeartbeats 4000000 in
theorem c0_X5_sizeOf (N : Nat) (f : XM) (this : Nat) (p0 : Int32) (n : Nat) (r : (Int32)) (hF : F_X5_sizeOf N f this p0 = some (.inl r)) : x_Ct mX5_sizeOf 6 90 0 0 [.ref this, .int p0] (f, n) (xr_ipt (.inl r) (f, n)) := by
  unfold F_X5_sizeOf at hF
  refine x_ct (by decide) rfl (Nat.le_of_ble_eq_true rfl) ?_
  show X mX5_sizeOf 6 90 _ _ 0 0 0 [(0, .ref this), (1, .int p0)] [] (f, n)
  refine x_aload_n 0 dX5_sizeOf_0 rfl rfl ?_
  refine x_getr_r dX5_sizeOf_1 fl_X5_12 hF (fun v1 hF => ?_)
  refine x_iload_n 1 dX5_sizeOf_4 rfl rfl ?_
  refine x_nn hF (fun a2 ha2 hF => ?_)
  rw [ha2]
  obtain ⟨z3, hzz3, hF⟩ := x_bind hF
  obtain ⟨⟨fsz3, hbz3⟩, hzz3⟩ := x_cv_sp hzz3
  refine x_callv (As := [.int p0]) (rest := []) 0 0 dX5_sizeOf_5 mi_X3_runOn ml_X5_200 rfl rfl (Nat.le_of_ble_eq_true rfl) ⟨by decide, by decide⟩ (by omega) (by omega) hbz3 rfl (c_X3_runOn N _ _ _ _ _ hzz3) (x_K.some ?_) x_KX.none
  refine x_astore_nq (i := 2) (lv' := [(2, va_rf z3), (0, .ref this), (1, .int p0)]) dX5_sizeOf_8 rfl (by decide) rfl ?_
  refine x_aload_nq 0 dX5_sizeOf_9 rfl rfl ?_
  refine x_ifnonnull 23 dX5_sizeOf_10 (by decide) hF (fun _ hF => ?_) (fun a4 ha4 hF => ?_)
  · cases hF
  · (try rw [ha4])
    refine x_aload_n 0 dX5_sizeOf_23 rfl rfl ?_
    refine x_geti_r dX5_sizeOf_24 fl_X5_133 hF (fun v5 hF => ?_)
    exact x_iret dX5_sizeOf_27 rfl (by cases hF; rfl)
set_option maxRecDepth 20000 in
set_option maxHeartbeats 4000000 in
theorem c0_X5_keyIn (N : Nat) (f : XM) (this : Nat) (p0 : Int32) (p1 : Int32) (n : Nat) (r : (Int32)) (hF : F_X5_keyIn N f this p0 p1 = some (.inl r)) : x_Ct mX5_keyIn 6 90 0 0 [.ref this, .int p0, .int p1] (f, n) (xr_ipt (.inl r) (f, n)) := by
  unfold F_X5_keyIn at hF
  refine x_ct (by decide) rfl (Nat.le_of_ble_eq_true rfl) ?_
  show X mX5_keyIn 6 90 _ _ 0 0 0 [(0, .ref this), (1, .int p0), (2, .int p1)] [] (f, n)
  refine x_aload_n 0 dX5_keyIn_0 rfl rfl ?_
  refine x_getr_r dX5_keyIn_1 fl_X5_12 hF (fun v1 hF => ?_)
  refine x_iload_n 1 dX5_keyIn_4 rfl rfl ?_
  refine x_nn hF (fun a2 ha2 hF => ?_)
  rw [ha2]
  obtain ⟨z3, hzz3, hF⟩ := x_bind hF
  obtain ⟨⟨fsz3, hbz3⟩, hzz3⟩ := x_cv_sp hzz3
  refine x_callv (As := [.int p0]) (rest := []) 0 0 dX5_keyIn_5 mi_X3_runOn ml_X5_200 rfl rfl (Nat.le_of_ble_eq_true rfl) ⟨by decide, by decide⟩ (by omega) (by omega) hbz3 rfl (c_X3_runOn N _ _ _ _ _ hzz3) (x_K.some ?_) x_KX.none
  refine x_astore_nq (i := 3) (lv' := [(3, va_rf z3), (0, .ref this), (1, .int p0), (2, .int p1)]) dX5_keyIn_8 rfl (by decide) rfl ?_
  refine x_aload_nq 0 dX5_keyIn_9 rfl rfl ?_
  refine x_ifnull 21 dX5_keyIn_10 (by decide) hF (fun _ hF => ?_) (fun a4 ha4 hF => ?_)
  · cases hF
  · (try rw [ha4])
    refine x_aload_n 0 dX5_keyIn_13 rfl rfl ?_
    refine x_iload_n 3 dX5_keyIn_14 rfl rfl ?_
    obtain ⟨z5, hzz5, hF⟩ := x_bind hF
    obtain ⟨⟨fsz5, hbz5⟩, hzz5⟩ := x_cv_sp hzz5
    refine x_callv (As := [.int p1]) (rest := []) 0 0 dX5_keyIn_15 mi_X2_has ml_X5_206 rfl rfl (Nat.le_of_ble_eq_true rfl) ⟨by decide, by decide⟩ (by omega) (by omega) hbz5 rfl (c_X2_has N _ _ _ _ _ hzz5) (x_K.some ?_) x_KX.none
    refine x_if_ne 31 dX5_keyIn_18 (by decide) hF (fun hF => ?_) (fun hF => ?_)
    · refine x_aload_n 0 dX5_keyIn_31 rfl rfl ?_
      refine x_iload_n 3 dX5_keyIn_32 rfl rfl ?_
      obtain ⟨z6, hzz6, hF⟩ := x_bind hF
      obtain ⟨⟨fsz6, hbz6⟩, hzz6⟩ := x_cv_sp hzz6
      refine x_callv (As := [.int p1]) (rest := []) 0 0 dX5_keyIn_33 mi_X2_keyOn ml_X5_185 rfl rfl (Nat.le_of_ble_eq_true rfl) ⟨by decide, by decide⟩ (by omega) (by omega) hbz6 rfl (c_X2_keyOn N _ _ _ _ _ hzz6) (x_K.some ?_) x_KX.none
      exact x_iret dX5_keyIn_36 rfl (by cases hF; rfl)
    · cases hF
set_option maxRecDepth 20000 in
set_option maxHeartbeats 4000000 in
theorem c0_X5_isGoneIn (N : Nat) (f : XM) (this : Nat) (p0 : Int32) (p1 : Int32) (n : Nat) (r : (Bool)) (hF : F_X5_isGoneIn N f this p0 p1 = some (.inl r)) : x_Ct mX5_isGoneIn 6 90 0 0 [.ref this, .int p0, .int p1] (f, n) (xr_zpt (.inl r) (f, n)) := by
  unfold F_X5_isGoneIn at hF
  refine x_ct (by decide) rfl (Nat.le_of_ble_eq_true rfl) ?_
  show X mX5_isGoneIn 6 90 _ _ 0 0 0 [(0, .ref this), (1, .int p0), (2, .int p1)] [] (f, n)
  refine x_aload_n 0 dX5_isGoneIn_0 rfl rfl ?_
  refine x_getr_r dX5_isGoneIn_1 fl_X5_12 hF (fun v1 hF => ?_)
  refine x_iload_n 1 dX5_isGoneIn_4 rfl rfl ?_
  refine x_nn hF (fun a2 ha2 hF => ?_)
  rw [ha2]
  obtain ⟨z3, hzz3, hF⟩ := x_bind hF
  obtain ⟨⟨fsz3, hbz3⟩, hzz3⟩ := x_cv_sp hzz3
  refine x_callv (As := [.int p0]) (rest := []) 0 0 dX5_isGoneIn_5 mi_X3_runOn ml_X5_200 rfl rfl (Nat.le_of_ble_eq_true rfl) ⟨by decide, by decide⟩ (by omega) (by omega) hbz3 rfl (c_X3_runOn N _ _ _ _ _ hzz3) (x_K.some ?_) x_KX.none
  refine x_astore_nq (i := 3) (lv' := [(3, va_rf z3), (0, .ref this), (1, .int p0), (2, .int p1)]) dX5_isGoneIn_8 rfl (by decide) rfl ?_
  refine x_aload_nq 0 dX5_isGoneIn_9 rfl rfl ?_
  refine x_ifnull 21 dX5_isGoneIn_10 (by decide) hF (fun _ hF => ?_) (fun a4 ha4 hF => ?_)
  · cases hF
  · (try rw [ha4])
    refine x_aload_n 0 dX5_isGoneIn_13 rfl rfl ?_
    refine x_iload_n 3 dX5_isGoneIn_14 rfl rfl ?_
    obtain ⟨z5, hzz5, hF⟩ := x_bind hF
    obtain ⟨⟨fsz5, hbz5⟩, hzz5⟩ := x_cv_sp hzz5
    refine x_callv (As := [.int p1]) (rest := []) 0 0 dX5_isGoneIn_15 mi_X2_has ml_X5_206 rfl rfl (Nat.le_of_ble_eq_true rfl) ⟨by decide, by decide⟩ (by omega) (by omega) hbz5 rfl (c_X2_has N _ _ _ _ _ hzz5) (x_K.some ?_) x_KX.none
    refine x_if_ne 31 dX5_isGoneIn_18 (by decide) hF (fun hF => ?_) (fun hF => ?_)
    · refine x_aload_n 0 dX5_isGoneIn_31 rfl rfl ?_
      refine x_iload_n 3 dX5_isGoneIn_32 rfl rfl ?_
      obtain ⟨z6, hzz6, hF⟩ := x_bind hF
      obtain ⟨⟨fsz6, hbz6⟩, hzz6⟩ := x_cv_sp hzz6
      refine x_callv (As := [.int p1]) (rest := []) 0 0 dX5_isGoneIn_33 mi_X2_valueOn ml_X5_211 rfl rfl (Nat.le_of_ble_eq_true rfl) ⟨by decide, by decide⟩ (by omega) (by omega) hbz6 rfl (c_X2_valueOn N _ _ _ _ _ hzz6) (x_K.some ?_) x_KX.none
      refine x_iconst (-1) (by decide) dX5_isGoneIn_36 ?_
      refine x_icmp_ne 44 dX5_isGoneIn_37 (by decide) hF (fun hF => ?_) (fun hF => ?_)
      · refine x_iconst 0 (by decide) dX5_isGoneIn_44 ?_
        exact x_zret dX5_isGoneIn_45 rfl (Or.inl rfl) (by cases hF; rfl)
      · refine x_iconst 1 (by decide) dX5_isGoneIn_40 ?_
        refine x_goto 45 dX5_isGoneIn_41 (by decide) ?_
        exact x_zret dX5_isGoneIn_45 rfl (Or.inr rfl) (by cases hF; rfl)
    · cases hF
set_option maxRecDepth 20000 in
set_option maxHeartbeats 4000000 in
theorem c0_X5_requireLeaf (N : Nat) (f : XM) (this : Nat) (p0 : Int32) (n : Nat) (r : (Unit)) (hF : F_X5_requireLeaf N f this p0 = some (.inl r)) : x_Ct mX5_requireLeaf 6 90 0 0 [.ref this, .int p0] (f, n) (xr_vpt (.inl r) (f, n)) := by
  unfold F_X5_requireLeaf at hF
  refine x_ct (by decide) rfl (Nat.le_of_ble_eq_true rfl) ?_
  show X mX5_requireLeaf 6 90 _ _ 0 0 0 [(0, .ref this), (1, .int p0)] [] (f, n)
  refine x_iload_n 1 dX5_requireLeaf_0 rfl rfl ?_
  refine x_if_lt 18 dX5_requireLeaf_1 (by decide) hF (fun hF => ?_) (fun hF => ?_)
  · cases hF
  · refine x_iload_n 1 dX5_requireLeaf_4 rfl rfl ?_
    refine x_aload_n 0 dX5_requireLeaf_5 rfl rfl ?_
    refine x_getr_r dX5_requireLeaf_6 fl_X5_12 hF (fun v1 hF => ?_)
    refine x_nn hF (fun a2 ha2 hF => ?_)
    rw [ha2]
    refine x_getr_r dX5_requireLeaf_9 fl_X5_219 hF (fun v3 hF => ?_)
    refine x_nn hF (fun a4 ha4 hF => ?_)
    rw [ha4]
    refine x_geti_r dX5_requireLeaf_12 fl_X5_229 hF (fun v5 hF => ?_)
    refine x_icmp_lt 29 dX5_requireLeaf_15 (by decide) hF (fun hF => ?_) (fun hF => ?_)
    · exact x_vret dX5_requireLeaf_29 rfl (by cases hF; rfl)
    · cases hF
set_option maxRecDepth 20000 in
set_option maxHeartbeats 4000000 in
theorem c0_X5_entriesOf (N : Nat) (f : XM) (this : Nat) (p0 : Int32) (n : Nat) (r : (Int32)) (hF : F_X5_entriesOf N f this p0 = some (.inl r)) : x_Ct mX5_entriesOf 7 111 0 0 [.ref this, .int p0] (f, n) (xr_ipt (.inl r) (f, n)) := by
  unfold F_X5_entriesOf at hF
  refine x_ct (by decide) rfl (Nat.le_of_ble_eq_true rfl) ?_
  show X mX5_entriesOf 7 111 _ _ 0 0 0 [(0, .ref this), (1, .int p0)] [] (f, n)
  refine x_aload_n 0 dX5_entriesOf_0 rfl rfl ?_
  refine x_iload_n 1 dX5_entriesOf_1 rfl rfl ?_
  obtain ⟨z1, hzz1, hF⟩ := x_bind hF
  obtain ⟨⟨fsz1, hbz1⟩, hzz1⟩ := x_cv_sp hzz1
  rcases z1 with w2 | e3
  · have hF := x_sel hF
    refine x_callv (As := [.int p0]) (rest := []) 0 0 dX5_entriesOf_2 mi_X5_requireLeaf ml_X5_232 rfl rfl (Nat.le_of_ble_eq_true rfl) ⟨by decide, by decide⟩ (by omega) (by omega) hbz1 rfl (c0_X5_requireLeaf N _ _ _ _ _ hzz1) (x_K.none ?_) x_KX.none
    refine x_aload_n 0 dX5_entriesOf_5 rfl rfl ?_
    refine x_getr_r dX5_entriesOf_6 fl_X5_12 hF (fun v4 hF => ?_)
    refine x_nn hF (fun a5 ha5 hF => ?_)
    rw [ha5]
    refine x_getr_r dX5_entriesOf_9 fl_X5_219 hF (fun v6 hF => ?_)
    refine x_iload_n 1 dX5_entriesOf_12 rfl rfl ?_
    refine x_nn hF (fun a7 ha7 hF => ?_)
    rw [ha7]
    obtain ⟨z8, hzz8, hF⟩ := x_bind hF
    obtain ⟨⟨fsz8, hbz8⟩, hzz8⟩ := x_cv_sp hzz8
    refine x_callv (As := [.int p0]) (rest := []) 0 0 dX5_entriesOf_13 mi_X4_ownCount ml_X5_235 rfl rfl (Nat.le_of_ble_eq_true rfl) ⟨by decide, by decide⟩ (by omega) (by omega) hbz8 rfl (c_X4_ownCount N _ _ _ _ _ hzz8) (x_K.some ?_) x_KX.none
    exact x_iret dX5_entriesOf_16 rfl (by cases hF; rfl)
  · have hF := x_ser hF
    cases hF
set_option maxRecDepth 20000 in
set_option maxHeartbeats 4000000 in
theorem c0_X5_overflowOf (N : Nat) (f : XM) (this : Nat) (p0 : Int32) (n : Nat) (r : (Int32)) (hF : F_X5_overflowOf N f this p0 = some (.inl r)) : x_Ct mX5_overflowOf 7 111 0 0 [.ref this, .int p0] (f, n) (xr_ipt (.inl r) (f, n)) := by
  unfold F_X5_overflowOf at hF
  refine x_ct (by decide) rfl (Nat.le_of_ble_eq_true rfl) ?_
  show X mX5_overflowOf 7 111 _ _ 0 0 0 [(0, .ref this), (1, .int p0)] [] (f, n)
  refine x_aload_n 0 dX5_overflowOf_0 rfl rfl ?_
  refine x_iload_n 1 dX5_overflowOf_1 rfl rfl ?_
  obtain ⟨z1, hzz1, hF⟩ := x_bind hF
  obtain ⟨⟨fsz1, hbz1⟩, hzz1⟩ := x_cv_sp hzz1
  rcases z1 with w2 | e3
  · have hF := x_sel hF
    refine x_callv (As := [.int p0]) (rest := []) 0 0 dX5_overflowOf_2 mi_X5_requireLeaf ml_X5_232 rfl rfl (Nat.le_of_ble_eq_true rfl) ⟨by decide, by decide⟩ (by omega) (by omega) hbz1 rfl (c0_X5_requireLeaf N _ _ _ _ _ hzz1) (x_K.none ?_) x_KX.none
    refine x_aload_n 0 dX5_overflowOf_5 rfl rfl ?_
    refine x_getr_r dX5_overflowOf_6 fl_X5_12 hF (fun v4 hF => ?_)
    refine x_nn hF (fun a5 ha5 hF => ?_)
    rw [ha5]
    refine x_getr_r dX5_overflowOf_9 fl_X5_219 hF (fun v6 hF => ?_)
    refine x_iload_n 1 dX5_overflowOf_12 rfl rfl ?_
    refine x_nn hF (fun a7 ha7 hF => ?_)
    rw [ha7]
    obtain ⟨z8, hzz8, hF⟩ := x_bind hF
    obtain ⟨⟨fsz8, hbz8⟩, hzz8⟩ := x_cv_sp hzz8
    refine x_callv (As := [.int p0]) (rest := []) 0 0 dX5_overflowOf_13 mi_X4_overflowCount ml_X5_243 rfl rfl (Nat.le_of_ble_eq_true rfl) ⟨by decide, by decide⟩ (by omega) (by omega) hbz8 rfl (c_X4_overflowCount N _ _ _ _ _ hzz8) (x_K.some ?_) x_KX.none
    exact x_iret dX5_overflowOf_16 rfl (by cases hF; rfl)
  · have hF := x_ser hF
    cases hF
set_option maxRecDepth 20000 in
set_option maxHeartbeats 4000000 in
theorem c0_X5_overflowLeaves (N : Nat) (f : XM) (this : Nat) (p0 : Int32) (n : Nat) (r : (Int32)) (hF : F_X5_overflowLeaves N f this p0 = some (.inl r)) : x_Ct mX5_overflowLeaves 7 111 0 0 [.ref this, .int p0] (f, n) (xr_ipt (.inl r) (f, n)) := by
  unfold F_X5_overflowLeaves at hF
  refine x_ct (by decide) rfl (Nat.le_of_ble_eq_true rfl) ?_
  show X mX5_overflowLeaves 7 111 _ _ 0 0 0 [(0, .ref this), (1, .int p0)] [] (f, n)
  refine x_aload_n 0 dX5_overflowLeaves_0 rfl rfl ?_
  refine x_iload_n 1 dX5_overflowLeaves_1 rfl rfl ?_
  obtain ⟨z1, hzz1, hF⟩ := x_bind hF
  obtain ⟨⟨fsz1, hbz1⟩, hzz1⟩ := x_cv_sp hzz1
  rcases z1 with w2 | e3
  · have hF := x_sel hF
    refine x_callv (As := [.int p0]) (rest := []) 0 0 dX5_overflowLeaves_2 mi_X5_requireLeaf ml_X5_232 rfl rfl (Nat.le_of_ble_eq_true rfl) ⟨by decide, by decide⟩ (by omega) (by omega) hbz1 rfl (c0_X5_requireLeaf N _ _ _ _ _ hzz1) (x_K.none ?_) x_KX.none
    refine x_aload_n 0 dX5_overflowLeaves_5 rfl rfl ?_
    refine x_getr_r dX5_overflowLeaves_6 fl_X5_12 hF (fun v4 hF => ?_)
    refine x_nn hF (fun a5 ha5 hF => ?_)
    rw [ha5]
    refine x_getr_r dX5_overflowLeaves_9 fl_X5_219 hF (fun v6 hF => ?_)
    refine x_iload_n 1 dX5_overflowLeaves_12 rfl rfl ?_
    refine x_nn hF (fun a7 ha7 hF => ?_)
    rw [ha7]
    obtain ⟨z8, hzz8, hF⟩ := x_bind hF
    obtain ⟨⟨fsz8, hbz8⟩, hzz8⟩ := x_cv_sp hzz8
    refine x_callv (As := [.int p0]) (rest := []) 0 0 dX5_overflowLeaves_13 mi_X4_overflowLeafCount ml_X5_246 rfl rfl (Nat.le_of_ble_eq_true rfl) ⟨by decide, by decide⟩ (by omega) (by omega) hbz8 rfl (c_X4_overflowLeafCount N _ _ _ _ _ hzz8) (x_K.some ?_) x_KX.none
    exact x_iret dX5_overflowLeaves_16 rfl (by cases hF; rfl)
  · have hF := x_ser hF
    cases hF
set_option maxRecDepth 20000 in
set_option maxHeartbeats 4000000 in
theorem c0_X5_leafKey (N : Nat) (f : XM) (this : Nat) (p0 : Int32) (p1 : Int32) (n : Nat) (r : (Int32)) (hF : F_X5_leafKey N f this p0 p1 = some (.inl r)) : x_Ct mX5_leafKey 7 111 0 0 [.ref this, .int p0, .int p1] (f, n) (xr_ipt (.inl r) (f, n)) := by
  unfold F_X5_leafKey at hF
  refine x_ct (by decide) rfl (Nat.le_of_ble_eq_true rfl) ?_
  show X mX5_leafKey 7 111 _ _ 0 0 0 [(0, .ref this), (1, .int p0), (2, .int p1)] [] (f, n)
  refine x_aload_n 0 dX5_leafKey_0 rfl rfl ?_
  refine x_iload_n 1 dX5_leafKey_1 rfl rfl ?_
  obtain ⟨z1, hzz1, hF⟩ := x_bind hF
  obtain ⟨⟨fsz1, hbz1⟩, hzz1⟩ := x_cv_sp hzz1
  rcases z1 with w2 | e3
  · have hF := x_sel hF
    refine x_callv (As := [.int p0]) (rest := []) 0 0 dX5_leafKey_2 mi_X5_requireLeaf ml_X5_232 rfl rfl (Nat.le_of_ble_eq_true rfl) ⟨by decide, by decide⟩ (by omega) (by omega) hbz1 rfl (c0_X5_requireLeaf N _ _ _ _ _ hzz1) (x_K.none ?_) x_KX.none
    refine x_aload_n 0 dX5_leafKey_5 rfl rfl ?_
    refine x_getr_r dX5_leafKey_6 fl_X5_12 hF (fun v4 hF => ?_)
    refine x_nn hF (fun a5 ha5 hF => ?_)
    rw [ha5]
    refine x_getr_r dX5_leafKey_9 fl_X5_219 hF (fun v6 hF => ?_)
    refine x_iload_n 1 dX5_leafKey_12 rfl rfl ?_
    refine x_iload_n 2 dX5_leafKey_13 rfl rfl ?_
    refine x_nn hF (fun a7 ha7 hF => ?_)
    rw [ha7]
    obtain ⟨z8, hzz8, hF⟩ := x_bind hF
    obtain ⟨⟨fsz8, hbz8⟩, hzz8⟩ := x_cv_sp hzz8
    refine x_callv (As := [.int p0, .int p1]) (rest := []) 0 0 dX5_leafKey_14 mi_X4_ownEntry ml_X5_238 rfl rfl (Nat.le_of_ble_eq_true rfl) ⟨by decide, by decide⟩ (by omega) (by omega) hbz8 rfl (c_X4_ownEntry N _ _ _ _ _ _ hzz8) (x_K.some ?_) x_KX.none
    refine x_istore_n (i := 3) (lv' := [(3, .int z8), (0, .ref this), (1, .int p0), (2, .int p1)]) dX5_leafKey_17 rfl (by decide) rfl ?_
    refine x_iload_n 0 dX5_leafKey_18 rfl rfl ?_
    refine x_iconst (-1) (by decide) dX5_leafKey_19 ?_
    refine x_icmp_ne 33 dX5_leafKey_20 (by decide) hF (fun hF => ?_) (fun hF => ?_)
    · refine x_aload_n 1 dX5_leafKey_33 rfl rfl ?_
      refine x_getr_r dX5_leafKey_34 fl_X5_12 hF (fun v9 hF => ?_)
      refine x_nn hF (fun a10 ha10 hF => ?_)
      rw [ha10]
      refine x_getr_r dX5_leafKey_37 fl_X5_219 hF (fun v11 hF => ?_)
      refine x_nn hF (fun a12 ha12 hF => ?_)
      rw [ha12]
      refine x_getr_r dX5_leafKey_40 fl_X5_223 hF (fun v13 hF => ?_)
      refine x_iload_n 0 dX5_leafKey_43 rfl rfl ?_
      refine x_nn hF (fun a14 ha14 hF => ?_)
      rw [ha14]
      obtain ⟨z15, hzz15, hF⟩ := x_bind hF
      obtain ⟨⟨fsz15, hbz15⟩, hzz15⟩ := x_cv_sp hzz15
      refine x_callv (As := [.int z8]) (rest := []) 0 0 dX5_leafKey_44 mi_X2_keyOn ml_X5_185 rfl rfl (Nat.le_of_ble_eq_true rfl) ⟨by decide, by decide⟩ (by omega) (by omega) hbz15 rfl (c_X2_keyOn N _ _ _ _ _ hzz15) (x_K.some ?_) x_KX.none
      exact x_iret dX5_leafKey_47 rfl (by cases hF; rfl)
    · cases hF
  · have hF := x_ser hF
    cases hF
set_option maxRecDepth 20000 in
set_option maxHeartbeats 4000000 in
theorem c0_X5_keyAt (N : Nat) (f : XM) (this : Nat) (p0 : Int32) (n : Nat) (r : (Int32 × XM)) (hF : F_X5_keyAt N f this p0 = some (.inl r)) : x_Ct mX5_keyAt 6 114 0 0 [.ref this, .int p0] (f, n) (xr_imt (.inl r) n) := by
  unfold F_X5_keyAt at hF
  refine x_ct (by decide) rfl (Nat.le_of_ble_eq_true rfl) ?_
  show X mX5_keyAt 6 114 _ _ 0 0 0 [(0, .ref this), (1, .int p0)] [] (f, n)
  refine x_aload_n 0 dX5_keyAt_0 rfl rfl ?_
  refine x_getr_r dX5_keyAt_1 fl_X5_40 hF (fun v1 hF => ?_)
  refine x_aload_n 0 dX5_keyAt_4 rfl rfl ?_
  refine x_getr_r dX5_keyAt_5 fl_X5_12 hF (fun v2 hF => ?_)
  refine x_nn hF (fun a3 ha3 hF => ?_)
  rw [ha3]
  refine x_nn hF (fun a4 ha4 hF => ?_)
  rw [ha4]
  obtain ⟨z5, hzz5, hF⟩ := x_bind hF
  obtain ⟨⟨fsz5, hbz5⟩, hzz5⟩ := x_cv_sp hzz5
  refine x_callv (As := [.ref a3]) (rest := []) 0 0 dX5_keyAt_8 mi_X0_gather ml_X5_129 rfl rfl (Nat.le_of_ble_eq_true rfl) ⟨by decide, by decide⟩ (by omega) (by omega) hbz5 rfl (c_X0_gather N _ _ _ _ _ hzz5) (x_K.some ?_) x_KX.none
  refine x_iload_n 1 dX5_keyAt_11 rfl rfl ?_
  refine x_nn hF (fun a6 ha6 hF => ?_)
  rw [ha6]
  obtain ⟨z7, hzz7, hF⟩ := x_bind hF
  obtain ⟨⟨fsz7, hbz7⟩, hzz7⟩ := x_cv_sp hzz7
  refine x_callv (As := [.int p0]) (rest := []) 0 0 dX5_keyAt_12 mi_X2_keyOn ml_X5_185 rfl rfl (Nat.le_of_ble_eq_true rfl) ⟨by decide, by decide⟩ (by omega) (by omega) hbz7 rfl (c_X2_keyOn N _ _ _ _ _ hzz7) (x_K.some ?_) x_KX.none
  refine x_istore_n (i := 2) (lv' := [(2, .int z7), (0, .ref this), (1, .int p0)]) dX5_keyAt_15 rfl (by decide) rfl ?_
  refine x_iload_n 0 dX5_keyAt_16 rfl rfl ?_
  refine x_iconst (-1) (by decide) dX5_keyAt_17 ?_
  refine x_icmp_ne 31 dX5_keyAt_18 (by decide) hF (fun hF => ?_) (fun hF => ?_)
  · refine x_iload_n 0 dX5_keyAt_31 rfl rfl ?_
    exact x_iret dX5_keyAt_32 rfl (by cases hF; rfl)
  · cases hF
set_option maxRecDepth 20000 in
set_option maxHeartbeats 4000000 in
theorem c0_X5_requireKey (N : Nat) (f : XM) (p0 : Int32) (n : Nat) (r : (Unit)) (hF : F_X5_requireKey N f p0 = some (.inl r)) : x_Ct mX5_requireKey 6 90 0 0 [.int p0] (f, n) (xr_vpt (.inl r) (f, n)) := by
  unfold F_X5_requireKey at hF
  refine x_ct (by decide) rfl (Nat.le_of_ble_eq_true rfl) ?_
  show X mX5_requireKey 6 90 _ _ 0 0 0 [(0, .int p0)] [] (f, n)
  refine x_iload_n 0 dX5_requireKey_0 rfl rfl ?_
  refine x_if_lt 11 dX5_requireKey_1 (by decide) hF (fun hF => ?_) (fun hF => ?_)
  · cases hF
  · refine x_iload_n 0 dX5_requireKey_4 rfl rfl ?_
    refine x_sipush 9999 (by decide) dX5_requireKey_5 ?_
    refine x_icmp_le 22 dX5_requireKey_8 (by decide) hF (fun hF => ?_) (fun hF => ?_)
    · exact x_vret dX5_requireKey_22 rfl (by cases hF; rfl)
    · cases hF
set_option maxRecDepth 20000 in
set_option maxHeartbeats 4000000 in
theorem c0_X5_valueOf (N : Nat) (f : XM) (this : Nat) (p0 : Int32) (n : Nat) (r : (Int32)) (hF : F_X5_valueOf N f this p0 = some (.inl r)) : x_Ct mX5_valueOf 7 110 0 0 [.ref this, .int p0] (f, n) (xr_ipt (.inl r) (f, n)) := by
  unfold F_X5_valueOf at hF
  refine x_ct (by decide) rfl (Nat.le_of_ble_eq_true rfl) ?_
  show X mX5_valueOf 7 110 _ _ 0 0 0 [(0, .ref this), (1, .int p0)] [] (f, n)
  refine x_iload_n 1 dX5_valueOf_0 rfl rfl ?_
  obtain ⟨z1, hzz1, hF⟩ := x_bind hF
  rcases z1 with w2 | e3
  · have hF := x_sel hF
    refine x_calls (As := [.int p0]) (rest := []) 0 0 dX5_valueOf_1 mi_X5_requireKey rfl ml_X5_44 rfl rfl (Nat.le_of_ble_eq_true rfl) ⟨by decide, by decide⟩ (by omega) (by omega) (c0_X5_requireKey N _ _ _ _ hzz1) (x_K.none ?_) x_KX.none
    refine x_aload_n 0 dX5_valueOf_4 rfl rfl ?_
    refine x_getr_r dX5_valueOf_5 fl_X5_12 hF (fun v4 hF => ?_)
    refine x_iload_n 1 dX5_valueOf_8 rfl rfl ?_
    refine x_nn hF (fun a5 ha5 hF => ?_)
    rw [ha5]
    obtain ⟨z6, hzz6, hF⟩ := x_bind hF
    obtain ⟨⟨fsz6, hbz6⟩, hzz6⟩ := x_cv_sp hzz6
    refine x_callv (As := [.int p0]) (rest := []) 0 0 dX5_valueOf_9 mi_X3_standingValue ml_X5_160 rfl rfl (Nat.le_of_ble_eq_true rfl) ⟨by decide, by decide⟩ (by omega) (by omega) hbz6 rfl (c_X3_standingValue N _ _ _ _ _ hzz6) (x_K.some ?_) x_KX.none
    refine x_istore_n (i := 2) (lv' := [(2, .int z6), (0, .ref this), (1, .int p0)]) dX5_valueOf_12 rfl (by decide) rfl ?_
    refine x_iload_n 0 dX5_valueOf_13 rfl rfl ?_
    refine x_iconst (-1) (by decide) dX5_valueOf_14 ?_
    refine x_icmp_ne 28 dX5_valueOf_15 (by decide) hF (fun hF => ?_) (fun hF => ?_)
    · refine x_iload_n 0 dX5_valueOf_28 rfl rfl ?_
      exact x_iret dX5_valueOf_29 rfl (by cases hF; rfl)
    · cases hF
  · have hF := x_ser hF
    cases hF
set_option maxRecDepth 20000 in
set_option maxHeartbeats 4000000 in
theorem c0_X5_pagesFor (N : Nat) (f : XM) (this : Nat) (p0 : Int32) (n : Nat) (r : (Int32)) (hF : F_X5_pagesFor N f this p0 = some (.inl r)) : x_Ct mX5_pagesFor 7 110 0 0 [.ref this, .int p0] (f, n) (xr_ipt (.inl r) (f, n)) := by
  unfold F_X5_pagesFor at hF
  refine x_ct (by decide) rfl (Nat.le_of_ble_eq_true rfl) ?_
  show X mX5_pagesFor 7 110 _ _ 0 0 0 [(0, .ref this), (1, .int p0)] [] (f, n)
  refine x_iload_n 1 dX5_pagesFor_0 rfl rfl ?_
  obtain ⟨z1, hzz1, hF⟩ := x_bind hF
  rcases z1 with w2 | e3
  · have hF := x_sel hF
    refine x_calls (As := [.int p0]) (rest := []) 0 0 dX5_pagesFor_1 mi_X5_requireKey rfl ml_X5_44 rfl rfl (Nat.le_of_ble_eq_true rfl) ⟨by decide, by decide⟩ (by omega) (by omega) (c0_X5_requireKey N _ _ _ _ hzz1) (x_K.none ?_) x_KX.none
    refine x_aload_n 0 dX5_pagesFor_4 rfl rfl ?_
    refine x_getr_r dX5_pagesFor_5 fl_X5_12 hF (fun v4 hF => ?_)
    refine x_iload_n 1 dX5_pagesFor_8 rfl rfl ?_
    refine x_nn hF (fun a5 ha5 hF => ?_)
    rw [ha5]
    obtain ⟨z6, hzz6, hF⟩ := x_bind hF
    obtain ⟨⟨fsz6, hbz6⟩, hzz6⟩ := x_cv_sp hzz6
    refine x_callv (As := [.int p0]) (rest := []) 0 0 dX5_pagesFor_9 mi_X3_pagesRead ml_X5_169 rfl rfl (Nat.le_of_ble_eq_true rfl) ⟨by decide, by decide⟩ (by omega) (by omega) hbz6 rfl (c_X3_pagesRead N _ _ _ _ _ hzz6) (x_K.some ?_) x_KX.none
    exact x_iret dX5_pagesFor_12 rfl (by cases hF; rfl)
  · have hF := x_ser hF
    cases hF
set_option maxRecDepth 20000 in
set_option maxHeartbeats 4000000 in
theorem c0_X5_append (N : Nat) (f : XM) (this : Nat) (p0 : Int32) (n : Nat) (r : (Int32 × XM)) (hF : F_X5_append N f this p0 = some (.inl r)) : x_Ct mX5_append 6 90 0 0 [.ref this, .int p0] (f, n) (xr_imt (.inl r) n) := by
  unfold F_X5_append at hF
  refine x_ct (by decide) rfl (Nat.le_of_ble_eq_true rfl) ?_
  show X mX5_append 6 90 _ _ 0 0 0 [(0, .ref this), (1, .int p0)] [] (f, n)
  refine x_iload_n 1 dX5_append_0 rfl rfl ?_
  refine x_bipush 33 (by decide) dX5_append_1 ?_
  refine x_icmp_lt 12 dX5_append_3 (by decide) hF (fun hF => ?_) (fun hF => ?_)
  · cases hF
  · refine x_iload_n 1 dX5_append_6 rfl rfl ?_
    refine x_bipush 126 (by decide) dX5_append_7 ?_
    refine x_icmp_le 22 dX5_append_9 (by decide) hF (fun hF => ?_) (fun hF => ?_)
    · refine x_aload_n 0 dX5_append_22 rfl rfl ?_
      refine x_geti_r dX5_append_23 fl_X5_105 hF (fun v1 hF => ?_)
      refine x_if_lt 41 dX5_append_26 (by decide) hF (fun hF => ?_) (fun hF => ?_)
      · cases hF
      · refine x_aload_n 0 dX5_append_29 rfl rfl ?_
        refine x_geti_r dX5_append_30 fl_X5_105 hF (fun v2 hF => ?_)
        refine x_aload_n 0 dX5_append_33 rfl rfl ?_
        refine x_getr_r dX5_append_34 fl_X5_26 hF (fun v3 hF => ?_)
        refine x_nn hF (fun a4 ha4 hF => ?_)
        rw [ha4]
        refine x_alen_r dX5_append_37 hF (fun v5 hF => ?_)
        refine x_icmp_lt 51 dX5_append_38 (by decide) hF (fun hF => ?_) (fun hF => ?_)
        · refine x_aload_n 0 dX5_append_51 rfl rfl ?_
          refine x_getr_r dX5_append_52 fl_X5_26 hF (fun v6 hF => ?_)
          refine x_aload_n 0 dX5_append_55 rfl rfl ?_
          refine x_geti_r dX5_append_56 fl_X5_105 hF (fun v7 hF => ?_)
          refine x_iload_n 1 dX5_append_59 rfl rfl ?_
          refine x_nn hF (fun a8 ha8 hF => ?_)
          rw [ha8]
          refine x_ast_r dX5_append_60 hF (fun f9 hF => ?_)
          refine x_aload_n 0 dX5_append_61 rfl rfl ?_
          refine x_dupr dX5_append_62 ?_
          refine x_geti_r dX5_append_63 fl_X5_105 hF (fun v10 hF => ?_)
          refine x_iconst 1 (by decide) dX5_append_66 ?_
          refine x_iadd dX5_append_67 ?_
          refine x_puti_r dX5_append_68 fl_X5_105 (fun h9 => by cases h9) hF (fun f11 hF => ?_)
          refine x_aload_n 0 dX5_append_71 rfl rfl ?_
          refine x_geti_r dX5_append_72 fl_X5_105 hF (fun v12 hF => ?_)
          exact x_iret dX5_append_75 rfl (by cases hF; rfl)
        · cases hF
    · cases hF
