def F_X5_append (N : Nat) (f : XM) (this : Nat) (p0 : Int32) : Option ((Int32 × XM) ⊕ (Nat × XM)) :=
  if p0 < 33 then
    some (.inr (0, f))
  else
    if p0 ≤ 126 then
      (x_geti f 5 this 6).bind fun v1 =>
      if v1 < 0 then
        some (.inr (1, f))
      else
        (x_geti f 5 this 6).bind fun v2 =>
        (x_getr f 5 this 5).bind fun v3 =>
        Option.bind v3 fun a4 =>
        (x_alen f a4).bind fun v5 =>
        if v2 < v5 then
          (x_getr f 5 this 5).bind fun v6 =>
          (x_geti f 5 this 6).bind fun v7 =>
          Option.bind v6 fun a8 =>
          (x_ast f a8 v7 p0).bind fun f9 =>
          (x_geti f9 5 this 6).bind fun v10 =>
          (x_puti f9 5 this 6 (v10 + 1)).bind fun f11 =>
          (x_geti f11 5 this 6).bind fun v12 =>
          some (.inl (v12, f11))
        else
          some (.inr (1, f))
    else
      some (.inr (0, f))
set_option maxRecDepth 20000 in
set_option maxHeartbeats 4000000 in
theorem c_X5_append (N : Nat) (f : XM) (this : Nat) (p0 : Int32) (n : Nat) (r : ((Int32 × XM) ⊕ (Nat × XM))) (hF : F_X5_append N f this p0 = some r) : x_Ct mX5_append 6 90 1 6 [.ref this, .int p0] (f, n) (xr_imt r n) := by
  unfold F_X5_append at hF
  refine x_ct (by decide) rfl (Nat.le_of_ble_eq_true rfl) ?_
  show X mX5_append 6 90 _ _ 1 6 0 [(0, .ref this), (1, .int p0)] [] (f, n)
  refine x_iload_n 1 dX5_append_0 rfl rfl ?_
  refine x_bipush 33 (by decide) dX5_append_1 ?_
  refine x_icmp_lt 12 dX5_append_3 (by decide) hF (fun hF => ?_) (fun hF => ?_)
  · exact x_throwS dX5_append_12 dX5_append_15 dX5_append_16 dX5_append_18 dX5_append_21 rfl tl_IAE sr_X5_103 (by decide) (by decide) (by omega) (by omega) (Nat.le_of_ble_eq_true rfl) (by cases hF; rfl)
  · refine x_iload_n 1 dX5_append_6 rfl rfl ?_
    refine x_bipush 126 (by decide) dX5_append_7 ?_
    refine x_icmp_le 22 dX5_append_9 (by decide) hF (fun hF => ?_) (fun hF => ?_)
    · refine x_aload_n 0 dX5_append_22 rfl rfl ?_
      refine x_geti_r dX5_append_23 fl_X5_105 hF (fun v1 hF => ?_)
      refine x_if_lt 41 dX5_append_26 (by decide) hF (fun hF => ?_) (fun hF => ?_)
      · exact x_throwS dX5_append_41 dX5_append_44 dX5_append_45 dX5_append_47 dX5_append_50 rfl tl_ISE sr_X5_110 (by decide) (by decide) (by omega) (by omega) (Nat.le_of_ble_eq_true rfl) (by cases hF; rfl)
      · refine x_aload_n 0 dX5_append_29 rfl rfl ?_
        refine x_geti_r dX5_append_30 fl_X5_105 hF (fun v2 hF => ?_)
        refine x_aload_n 0 dX5_append_33 rfl rfl ?_
        refine x_getr_r dX5_append_34 fl_X5_26 hF (fun v3 hF => ?_)
        refine x_nn hF (fun a4 ha4 hF => ?_)
        rw [ha4]
        refine x_alen_r dX5_append_37 hF (fun v5 hF => ?_)
        refine x_icmp_lt 51 dX5_append_38 (by decide) hF (fun hF => ?_) (fun hF => ?_)
        · refine x_aload_n 0 dX5_append_51 rfl rfl ?_
          refine x_getr_r dX5_append_52 fl_X5_26 hF (fun v6 hF => ?_)
          refine x_aload_n 0 dX5_append_55 rfl rfl ?_
          refine x_geti_r dX5_append_56 fl_X5_105 hF (fun v7 hF => ?_)
          refine x_iload_n 1 dX5_append_59 rfl rfl ?_
          refine x_nn hF (fun a8 ha8 hF => ?_)
          rw [ha8]
          refine x_ast_r dX5_append_60 hF (fun f9 hF => ?_)
          refine x_aload_n 0 dX5_append_61 rfl rfl ?_
          refine x_dupr dX5_append_62 ?_
          refine x_geti_r dX5_append_63 fl_X5_105 hF (fun v10 hF => ?_)
          refine x_iconst 1 (by decide) dX5_append_66 ?_
          refine x_iadd dX5_append_67 ?_
          refine x_puti_r dX5_append_68 fl_X5_105 (fun h9 => by cases h9) hF (fun f11 hF => ?_)
          refine x_aload_n 0 dX5_append_71 rfl rfl ?_
          refine x_geti_r dX5_append_72 fl_X5_105 hF (fun v12 hF => ?_)
          exact x_iret dX5_append_75 rfl (by cases hF; rfl)
        · exact x_throwS dX5_append_41 dX5_append_44 dX5_append_45 dX5_append_47 dX5_append_50 rfl tl_ISE sr_X5_110 (by decide) (by decide) (by omega) (by omega) (Nat.le_of_ble_eq_true rfl) (by cases hF; rfl)
    · exact x_throwS dX5_append_12 dX5_append_15 dX5_append_16 dX5_append_18 dX5_append_21 rfl tl_IAE sr_X5_103 (by decide) (by decide) (by omega) (by omega) (Nat.le_of_ble_eq_true rfl) (by cases hF; rfl)
def F_X5_requireLevel (N : Nat) (f : XM) (this : Nat) (p0 : Int32) : Option ((Unit) ⊕ (Nat)) :=
  if p0 < 0 then
    some (.inr 2)
  else
    (x_getr f 5 this 0).bind fun v1 =>
    Option.bind v1 fun a2 =>
    (x_getr f 3 a2 3).bind fun v3 =>
    Option.bind v3 fun a4 =>
    (x_cv f 4 a4 (F_X4_levelCount N f a4)).bind fun z5 =>
    if p0 < z5 then
      some (.inl ())
    else
      some (.inr 2)
set_option maxRecDepth 20000 in
set_option maxHeartbeats 4000000 in
theorem c_X5_requireLevel (N : Nat) (f : XM) (this : Nat) (p0 : Int32) (n : Nat) (r : ((Unit) ⊕ (Nat))) (hF : F_X5_requireLevel N f this p0 = some r) : x_Ct mX5_requireLevel 6 90 1 6 [.ref this, .int p0] (f, n) (xr_vpt r (f, n)) := by
  unfold F_X5_requireLevel at hF
  refine x_ct (by decide) rfl (Nat.le_of_ble_eq_true rfl) ?_
  show X mX5_requireLevel 6 90 _ _ 1 6 0 [(0, .ref this), (1, .int p0)] [] (f, n)
  refine x_iload_n 1 dX5_requireLevel_0 rfl rfl ?_
  refine x_if_lt 18 dX5_requireLevel_1 (by decide) hF (fun hF => ?_) (fun hF => ?_)
  · exact x_throwSW dX5_requireLevel_18 dX5_requireLevel_21 dX5_requireLevel_22 dX5_requireLevel_25 dX5_requireLevel_28 rfl tl_IOE sr_X5_336 (by decide) (by decide) (by omega) (by omega) (Nat.le_of_ble_eq_true rfl) (by cases hF; rfl)
  · refine x_iload_n 1 dX5_requireLevel_4 rfl rfl ?_
    refine x_aload_n 0 dX5_requireLevel_5 rfl rfl ?_
    refine x_getr_r dX5_requireLevel_6 fl_X5_12 hF (fun v1 hF => ?_)
    refine x_nn hF (fun a2 ha2 hF => ?_)
    rw [ha2]
    refine x_getr_r dX5_requireLevel_9 fl_X5_219 hF (fun v3 hF => ?_)
    refine x_nn hF (fun a4 ha4 hF => ?_)
    rw [ha4]
    obtain ⟨z5, hzz5, hF⟩ := x_bind hF
    obtain ⟨⟨fsz5, hbz5⟩, hzz5⟩ := x_cv_sp hzz5
    refine x_callv (As := []) (rest := [.int p0]) 1 6 dX5_requireLevel_12 mi_X4_levelCount ml_X5_249 rfl rfl (Nat.le_of_ble_eq_true rfl) ⟨by decide, by decide⟩ (by omega) (by omega) hbz5 rfl (c_X4_levelCount N _ _ _ _ hzz5) (x_K.some ?_) x_KX.none
    refine x_icmp_lt 29 dX5_requireLevel_15 (by decide) hF (fun hF => ?_) (fun hF => ?_)
    · exact x_vret dX5_requireLevel_29 rfl (by cases hF; rfl)
    · exact x_throwSW dX5_requireLevel_18 dX5_requireLevel_21 dX5_requireLevel_22 dX5_requireLevel_25 dX5_requireLevel_28 rfl tl_IOE sr_X5_336 (by decide) (by decide) (by omega) (by omega) (Nat.le_of_ble_eq_true rfl) (by cases hF; rfl)
def F_X5_requireNode (N : Nat) (f : XM) (this : Nat) (p0 : Int32) (p1 : Int32) : Option ((Unit) ⊕ (Nat)) :=
  if p1 < 0 then
    some (.inr 2)
  else
    (x_getr f 5 this 0).bind fun v1 =>
    Option.bind v1 fun a2 =>
    (x_getr f 3 a2 3).bind fun v3 =>
    Option.bind v3 fun a4 =>
    (x_cv f 4 a4 (F_X4_nodeCount N f a4 p0)).bind fun z5 =>
    if p1 < z5 then
      some (.inl ())
    else
      some (.inr 2)
set_option maxRecDepth 20000 in
set_option maxHeartbeats 4000000 in
theorem c_X5_requireNode (N : Nat) (f : XM) (this : Nat) (p0 : Int32) (p1 : Int32) (n : Nat) (r : ((Unit) ⊕ (Nat))) (hF : F_X5_requireNode N f this p0 p1 = some r) : x_Ct mX5_requireNode 6 90 1 6 [.ref this, .int p0, .int p1] (f, n) (xr_vpt r (f, n)) := by
  unfold F_X5_requireNode at hF
  refine x_ct (by decide) rfl (Nat.le_of_ble_eq_true rfl) ?_
  show X mX5_requireNode 6 90 _ _ 1 6 0 [(0, .ref this), (1, .int p0), (2, .int p1)] [] (f, n)
  refine x_iload_n 2 dX5_requireNode_0 rfl rfl ?_
  refine x_if_lt 19 dX5_requireNode_1 (by decide) hF (fun hF => ?_) (fun hF => ?_)
  · exact x_throwSW dX5_requireNode_19 dX5_requireNode_22 dX5_requireNode_23 dX5_requireNode_26 dX5_requireNode_29 rfl tl_IOE sr_X5_338 (by decide) (by decide) (by omega) (by omega) (Nat.le_of_ble_eq_true rfl) (by cases hF; rfl)
  · refine x_iload_n 2 dX5_requireNode_4 rfl rfl ?_
    refine x_aload_n 0 dX5_requireNode_5 rfl rfl ?_
    refine x_getr_r dX5_requireNode_6 fl_X5_12 hF (fun v1 hF => ?_)
    refine x_nn hF (fun a2 ha2 hF => ?_)
    rw [ha2]
    refine x_getr_r dX5_requireNode_9 fl_X5_219 hF (fun v3 hF => ?_)
    refine x_iload_n 1 dX5_requireNode_12 rfl rfl ?_
    refine x_nn hF (fun a4 ha4 hF => ?_)
    rw [ha4]
    obtain ⟨z5, hzz5, hF⟩ := x_bind hF
    obtain ⟨⟨fsz5, hbz5⟩, hzz5⟩ := x_cv_sp hzz5
    refine x_callv (As := [.int p0]) (rest := [.int p1]) 1 6 dX5_requireNode_13 mi_X4_nodeCount ml_X5_255 rfl rfl (Nat.le_of_ble_eq_true rfl) ⟨by decide, by decide⟩ (by omega) (by omega) hbz5 rfl (c_X4_nodeCount N _ _ _ _ _ hzz5) (x_K.some ?_) x_KX.none
    refine x_icmp_lt 30 dX5_requireNode_16 (by decide) hF (fun hF => ?_) (fun hF => ?_)
    · exact x_vret dX5_requireNode_30 rfl (by cases hF; rfl)
    · exact x_throwSW dX5_requireNode_19 dX5_requireNode_22 dX5_requireNode_23 dX5_requireNode_26 dX5_requireNode_29 rfl tl_IOE sr_X5_338 (by decide) (by decide) (by omega) (by omega) (Nat.le_of_ble_eq_true rfl) (by cases hF; rfl)
def F_X5_boundOf (N : Nat) (f : XM) (this : Nat) (p0 : Int32) (p1 : Int32) : Option ((Int32) ⊕ (Nat)) :=
  (x_cv f 5 this (F_X5_requireLevel N f this p0)).bind fun z1 =>
  x_se z1 (fun w2 =>
    (x_cv f 5 this (F_X5_requireNode N f this p0 p1)).bind fun z4 =>
    x_se z4 (fun w5 =>
      (x_getr f 5 this 0).bind fun v7 =>
      Option.bind v7 fun a8 =>
      (x_getr f 3 a8 3).bind fun v9 =>
      Option.bind v9 fun a10 =>
      (x_cv f 4 a10 (F_X4_nodeBound N f a10 p0 p1)).bind fun z11 =>
      some (.inl z11))
      (fun e6 => some (.inr e6)))
    (fun e3 => some (.inr e3))
set_option maxRecDepth 20000 in
set_option maxHeartbeats 4000000 in
theorem c_X5_boundOf (N : Nat) (f : XM) (this : Nat) (p0 : Int32) (p1 : Int32) (n : Nat) (r : ((Int32) ⊕ (Nat))) (hF : F_X5_boundOf N f this p0 p1 = some r) : x_Ct mX5_boundOf 7 112 2 12 [.ref this, .int p0, .int p1] (f, n) (xr_ipt r (f, n)) := by
  unfold F_X5_boundOf at hF
  refine x_ct (by decide) rfl (Nat.le_of_ble_eq_true rfl) ?_
  show X mX5_boundOf 7 112 _ _ 2 12 0 [(0, .ref this), (1, .int p0), (2, .int p1)] [] (f, n)
  refine x_aload_n 0 dX5_boundOf_0 rfl rfl ?_
  refine x_iload_n 1 dX5_boundOf_1 rfl rfl ?_
  obtain ⟨z1, hzz1, hF⟩ := x_bind hF
  obtain ⟨⟨fsz1, hbz1⟩, hzz1⟩ := x_cv_sp hzz1
  rcases z1 with w2 | e3
  · have hF := x_sel hF
    refine x_callv (As := [.int p0]) (rest := []) 1 6 dX5_boundOf_2 mi_X5_requireLevel ml_X5_252 rfl rfl (Nat.le_of_ble_eq_true rfl) ⟨by decide, by decide⟩ (by omega) (by omega) hbz1 rfl (c_X5_requireLevel N _ _ _ _ _ hzz1) (x_K.none ?_) x_KX.none
    refine x_aload_n 0 dX5_boundOf_5 rfl rfl ?_
    refine x_iload_n 1 dX5_boundOf_6 rfl rfl ?_
    refine x_iload_n 2 dX5_boundOf_7 rfl rfl ?_
    obtain ⟨z4, hzz4, hF⟩ := x_bind hF
    obtain ⟨⟨fsz4, hbz4⟩, hzz4⟩ := x_cv_sp hzz4
    rcases z4 with w5 | e6
    · have hF := x_sel hF
      refine x_callv (As := [.int p0, .int p1]) (rest := []) 0 0 dX5_boundOf_8 mi_X5_requireNode ml_X5_258 rfl rfl (Nat.le_of_ble_eq_true rfl) ⟨by decide, by decide⟩ (by omega) (by omega) hbz4 rfl (c_X5_requireNode N _ _ _ _ _ _ hzz4) (x_K.none ?_) x_KX.none
      refine x_aload_n 0 dX5_boundOf_11 rfl rfl ?_
      refine x_getr_r dX5_boundOf_12 fl_X5_12 hF (fun v7 hF => ?_)
      refine x_nn hF (fun a8 ha8 hF => ?_)
      rw [ha8]
      refine x_getr_r dX5_boundOf_15 fl_X5_219 hF (fun v9 hF => ?_)
      refine x_iload_n 1 dX5_boundOf_18 rfl rfl ?_
      refine x_iload_n 2 dX5_boundOf_19 rfl rfl ?_
      refine x_nn hF (fun a10 ha10 hF => ?_)
      rw [ha10]
      obtain ⟨z11, hzz11, hF⟩ := x_bind hF
      obtain ⟨⟨fsz11, hbz11⟩, hzz11⟩ := x_cv_sp hzz11
      refine x_callv (As := [.int p0, .int p1]) (rest := []) 0 0 dX5_boundOf_20 mi_X4_nodeBound ml_X5_264 rfl rfl (Nat.le_of_ble_eq_true rfl) ⟨by decide, by decide⟩ (by omega) (by omega) hbz11 rfl (c_X4_nodeBound N _ _ _ _ _ _ hzz11) (x_K.some ?_) x_KX.none
      exact x_iret dX5_boundOf_23 rfl (by cases hF; rfl)
    · have hF := x_ser hF
      exact x_callv (As := [.int p0, .int p1]) (rest := []) 0 0 dX5_boundOf_8 mi_X5_requireNode ml_X5_258 rfl rfl (Nat.le_of_ble_eq_true rfl) ⟨by decide, by decide⟩ (by omega) (by omega) hbz4 rfl (c_X5_requireNode N _ _ _ _ _ _ hzz4) x_K.inr (x_KX.out rfl (fun E hm hq => by cases hq; cases hF; rfl))
  · have hF := x_ser hF
    exact x_callv (As := [.int p0]) (rest := []) 1 6 dX5_boundOf_2 mi_X5_requireLevel ml_X5_252 rfl rfl (Nat.le_of_ble_eq_true rfl) ⟨by decide, by decide⟩ (by omega) (by omega) hbz1 rfl (c_X5_requireLevel N _ _ _ _ _ hzz1) x_K.inr (x_KX.out rfl (fun E hm hq => by cases hq; cases hF; rfl))
def F_X5_requireFill (N : Nat) (f : XM) (p0 : Int32) : Option ((Unit) ⊕ (Nat)) :=
  if p0 < 50 then
    some (.inr 0)
  else
    if p0 ≤ 100 then
      some (.inl ())
    else
      some (.inr 0)
set_option maxRecDepth 20000 in
set_option maxHeartbeats 4000000 in
theorem c_X5_requireFill (N : Nat) (f : XM) (p0 : Int32) (n : Nat) (r : ((Unit) ⊕ (Nat))) (hF : F_X5_requireFill N f p0 = some r) : x_Ct mX5_requireFill 6 90 1 6 [.int p0] (f, n) (xr_vpt r (f, n)) := by
  unfold F_X5_requireFill at hF
  refine x_ct (by decide) rfl (Nat.le_of_ble_eq_true rfl) ?_
  show X mX5_requireFill 6 90 _ _ 1 6 0 [(0, .int p0)] [] (f, n)
  refine x_iload_n 0 dX5_requireFill_0 rfl rfl ?_
  refine x_bipush 50 (by decide) dX5_requireFill_1 ?_
  refine x_icmp_lt 12 dX5_requireFill_3 (by decide) hF (fun hF => ?_) (fun hF => ?_)
  · exact x_throwSW dX5_requireFill_12 dX5_requireFill_15 dX5_requireFill_16 dX5_requireFill_19 dX5_requireFill_22 rfl tl_IAE sr_X5_328 (by decide) (by decide) (by omega) (by omega) (Nat.le_of_ble_eq_true rfl) (by cases hF; rfl)
  · refine x_iload_n 0 dX5_requireFill_6 rfl rfl ?_
    refine x_bipush 100 (by decide) dX5_requireFill_7 ?_
    refine x_icmp_le 23 dX5_requireFill_9 (by decide) hF (fun hF => ?_) (fun hF => ?_)
    · exact x_vret dX5_requireFill_23 rfl (by cases hF; rfl)
    · exact x_throwSW dX5_requireFill_12 dX5_requireFill_15 dX5_requireFill_16 dX5_requireFill_19 dX5_requireFill_22 rfl tl_IAE sr_X5_328 (by decide) (by decide) (by omega) (by omega) (Nat.le_of_ble_eq_true rfl) (by cases hF; rfl)
def F_X5_moveOldestBehind_L18 (N : Nat) (c0 : Nat) (c1 : Option Nat) (K : Int32 → XM → Option XM) : Nat → Int32 → XM → Option XM
  | 0, _, _ => none
  | k + 1, x2, f =>
    (x_getr f 5 c0 2).bind fun v8 =>
    Option.bind v8 fun a9 =>
    (x_alen f a9).bind fun v10 =>
    if v10 ≤ x2 then
      K x2 f
    else
      (x_getr f 5 c0 2).bind fun v11 =>
      (x_getr f 5 c0 2).bind fun v12 =>
      Option.bind v12 fun a13 =>
      (x_aldr f 3 a13 x2).bind fun v14 =>
      Option.bind v11 fun a15 =>
      (x_astr f 3 a15 (x2 - 1) v14).bind fun f16 =>
      F_X5_moveOldestBehind_L18 N c0 c1 K k (x2 + 1) f16
def F_X5_moveOldestBehind (N : Nat) (f : XM) (this : Nat) : Option XM :=
  (x_getr f 5 this 2).bind fun v1 =>
  Option.bind v1 fun a2 =>
  (x_alen f a2).bind fun v3 =>
  if v3 = 0 then
    some f
  else
    (x_getr f 5 this 2).bind fun v4 =>
    Option.bind v4 fun a5 =>
    (x_aldr f 3 a5 0).bind fun v6 =>
    F_X5_moveOldestBehind_L18 N this v6 (fun y2_17 g17 =>
    (x_getr g17 5 this 2).bind fun v18 =>
    (x_getr g17 5 this 2).bind fun v19 =>
    Option.bind v19 fun a20 =>
    (x_alen g17 a20).bind fun v21 =>
    Option.bind v18 fun a22 =>
    (x_astr g17 3 a22 (v21 - 1) v6).bind fun f23 =>
    (x_getr f23 5 this 2).bind fun v24 =>
    Option.bind v24 fun a25 =>
    (x_alen f23 a25).bind fun v26 =>
    (x_puti f23 5 this 3 (v26 - 1)).bind fun f27 =>
    some f27) N 1 f
set_option maxRecDepth 20000 in
set_option maxHeartbeats 4000000 in
theorem w_X5_moveOldestBehind_L18 (N : Nat) (c0 : Nat) (c1 : Option Nat) (K : Int32 → XM → Option XM) (n : Nat) (r : XM) {rc rs : Nat} : ∀ (k : Nat) (x2 : Int32) (f : XM), F_X5_moveOldestBehind_L18 N c0 c1 K k x2 f = some r → (∀ (x2 : Int32) (f : XM), K x2 f = some r → X mX5_moveOldestBehind 0 0 (x_end (xr_vm r n)) x_noRO rc rs 47 [(0, .ref c0), (1, va_rf c1), (2, .int x2)] [] (f, n)) → X mX5_moveOldestBehind 0 0 (x_end (xr_vm r n)) x_noRO rc rs 18 [(0, .ref c0), (1, va_rf c1), (2, .int x2)] [] (f, n) := by
  intro k
  induction k with
  | zero =>
    intro x2 f hF
    exact absurd hF (by intro h9; cases h9)
  | succ k ih =>
    intro x2 f hF hK
    have ih := fun x2 f hF => ih x2 f hF hK
    rw [F_X5_moveOldestBehind_L18] at hF
    refine x_iload_n 2 dX5_moveOldestBehind_18 rfl rfl ?_
    refine x_aload_n 0 dX5_moveOldestBehind_19 rfl rfl ?_
    refine x_getr_r dX5_moveOldestBehind_20 fl_X5_19 hF (fun v8 hF => ?_)
    refine x_nn hF (fun a9 ha9 hF => ?_)
    rw [ha9]
    refine x_alen_r dX5_moveOldestBehind_23 hF (fun v10 hF => ?_)
    refine x_icmp_ge 47 dX5_moveOldestBehind_24 (by decide) hF (fun hF => ?_) (fun hF => ?_)
    · refine x_sub [0, 1, 2] rfl ?_
      exact hK _ _ hF
    · refine x_aload_n 0 dX5_moveOldestBehind_27 rfl rfl ?_
      refine x_getr_r dX5_moveOldestBehind_28 fl_X5_19 hF (fun v11 hF => ?_)
      refine x_iload_n 2 dX5_moveOldestBehind_31 rfl rfl ?_
      refine x_iconst 1 (by decide) dX5_moveOldestBehind_32 ?_
      refine x_isub dX5_moveOldestBehind_33 ?_
      refine x_aload_n 0 dX5_moveOldestBehind_34 rfl rfl ?_
      refine x_getr_r dX5_moveOldestBehind_35 fl_X5_19 hF (fun v12 hF => ?_)
      refine x_iload_n 2 dX5_moveOldestBehind_38 rfl rfl ?_
      refine x_nn hF (fun a13 ha13 hF => ?_)
      rw [ha13]
      refine x_aldr_r 3 dX5_moveOldestBehind_39 hF (fun v14 hF => ?_)
      refine x_nn hF (fun a15 ha15 hF => ?_)
      rw [ha15]
      refine x_astr_r (r := v14) 3 dX5_moveOldestBehind_40 hF (fun f16 hF => ?_)
      refine x_iinc (x2 + 1) (lv' := [(2, .int (x2 + 1)), (0, .ref c0), (1, va_rf c1)]) dX5_moveOldestBehind_41 2 rfl (by rfl) (by decide) (by simp [x_rfc, List.filter]) ?_
      refine x_goto 18 dX5_moveOldestBehind_44 (by decide) ?_
      refine x_sub [1, 2, 0] rfl ?_
      exact ih _ _ hF
set_option maxRecDepth 20000 in
set_option maxHeartbeats 4000000 in
theorem c_X5_moveOldestBehind (N : Nat) (f : XM) (this : Nat) (n : Nat) (r : XM) (hF : F_X5_moveOldestBehind N f this = some r) : x_Ct mX5_moveOldestBehind 0 0 0 0 [.ref this] (f, n) (xr_vm r n) := by
  unfold F_X5_moveOldestBehind at hF
  refine x_ct (by decide) rfl (Nat.le_of_ble_eq_true rfl) ?_
  show X mX5_moveOldestBehind 0 0 _ _ 0 0 0 [(0, .ref this)] [] (f, n)
  refine x_aload_n 0 dX5_moveOldestBehind_0 rfl rfl ?_
  refine x_getr_r dX5_moveOldestBehind_1 fl_X5_19 hF (fun v1 hF => ?_)
  refine x_nn hF (fun a2 ha2 hF => ?_)
  rw [ha2]
  refine x_alen_r dX5_moveOldestBehind_4 hF (fun v3 hF => ?_)
  refine x_if_ne 9 dX5_moveOldestBehind_5 (by decide) hF (fun hF => ?_) (fun hF => ?_)
  · refine x_aload_n 0 dX5_moveOldestBehind_9 rfl rfl ?_
    refine x_getr_r dX5_moveOldestBehind_10 fl_X5_19 hF (fun v4 hF => ?_)
    refine x_iconst 0 (by decide) dX5_moveOldestBehind_13 ?_
    refine x_nn hF (fun a5 ha5 hF => ?_)
    rw [ha5]
    refine x_aldr_r 3 dX5_moveOldestBehind_14 hF (fun v6 hF => ?_)
    refine x_astore_nq (i := 1) (lv' := [(1, va_rf v6), (0, .ref this)]) dX5_moveOldestBehind_15 rfl (by decide) rfl ?_
    refine x_iconst 1 (by decide) dX5_moveOldestBehind_16 ?_
    refine x_istore_n (i := 2) (lv' := [(2, .int 1), (1, va_rf v6), (0, .ref this)]) dX5_moveOldestBehind_17 rfl (by decide) (by simp [x_rfc, List.filter]) ?_
    refine x_sub [2, 1, 0] rfl ?_
    refine w_X5_moveOldestBehind_L18 N _ _ _ _ r _ _ _ hF (fun y2_17 g17 hF => ?_)
    refine x_aload_n 0 dX5_moveOldestBehind_47 rfl rfl ?_
    refine x_getr_r dX5_moveOldestBehind_48 fl_X5_19 hF (fun v18 hF => ?_)
    refine x_aload_n 0 dX5_moveOldestBehind_51 rfl rfl ?_
    refine x_getr_r dX5_moveOldestBehind_52 fl_X5_19 hF (fun v19 hF => ?_)
    refine x_nn hF (fun a20 ha20 hF => ?_)
    rw [ha20]
    refine x_alen_r dX5_moveOldestBehind_55 hF (fun v21 hF => ?_)
    refine x_iconst 1 (by decide) dX5_moveOldestBehind_56 ?_
    refine x_isub dX5_moveOldestBehind_57 ?_
    refine x_aload_nq 1 dX5_moveOldestBehind_58 rfl rfl ?_
    refine x_nn hF (fun a22 ha22 hF => ?_)
    rw [ha22]
    refine x_astr_r (r := v6) 3 dX5_moveOldestBehind_59 hF (fun f23 hF => ?_)
    refine x_aload_n 0 dX5_moveOldestBehind_60 rfl rfl ?_
    refine x_aload_n 0 dX5_moveOldestBehind_61 rfl rfl ?_
    refine x_getr_r dX5_moveOldestBehind_62 fl_X5_19 hF (fun v24 hF => ?_)
    refine x_nn hF (fun a25 ha25 hF => ?_)
    rw [ha25]
    refine x_alen_r dX5_moveOldestBehind_65 hF (fun v26 hF => ?_)
    refine x_iconst 1 (by decide) dX5_moveOldestBehind_66 ?_
    refine x_isub dX5_moveOldestBehind_67 ?_
    refine x_puti_r dX5_moveOldestBehind_68 fl_X5_157 (fun h9 => by cases h9) hF (fun f27 hF => ?_)
    exact x_vret dX5_moveOldestBehind_71 rfl (by cases hF; rfl)
  · exact x_vret dX5_moveOldestBehind_8 rfl (by cases hF; rfl)
def F_X5_saveSpare (N : Nat) (h : XH) (this : Nat) : Option XH :=
  (x_geti h.1 5 this 3).bind fun v1 =>
  (x_getr h.1 5 this 2).bind fun v2 =>
  Option.bind v2 fun a3 =>
  (x_alen h.1 a3).bind fun v4 =>
  if v1 < v4 then
    (x_geti h.1 5 this 3).bind fun v5 =>
    if v5 < 0 then
      some (h.1, h.2)
    else
      (x_geti h.1 5 this 3).bind fun v6 =>
      (x_getr h.1 5 this 2).bind fun v7 =>
      Option.bind v7 fun a8 =>
      (x_alen h.1 a8).bind fun v9 =>
      if v6 < v9 then
        (x_getr h.1 5 this 2).bind fun v10 =>
        (x_geti h.1 5 this 3).bind fun v11 =>
        Option.bind v10 fun a12 =>
        (x_aldr h.1 3 a12 v11).bind fun v13 =>
        (x_getr h.1 5 this 2).bind fun v14 =>
        (x_geti h.1 5 this 3).bind fun v15 =>
        (x_getr h.1 5 this 1).bind fun v16 =>
        Option.bind v14 fun a17 =>
        (x_astr h.1 3 a17 v15 v16).bind fun f18 =>
        (x_geti f18 5 this 3).bind fun v19 =>
        (x_puti f18 5 this 3 (v19 + 1)).bind fun f20 =>
        Option.elim v13
          ((x_new (f20, h.2) 3 [.null, .null, .int 0, .null, .int 0, .int 0, .int 0, .int 0]).bind fun z22 =>
          (F_X3_init N (z22.2.1, z22.2.2) z22.1).bind fun z23 =>
          (x_putr z23.1 5 this 1 (some z22.1)).bind fun f24 =>
          some (f24, z23.2))
          (fun a21 => (x_putr f20 5 this 1 (some a21)).bind fun f25 =>
          some (f25, h.2))
      else
        some (h.1, h.2)
  else
    (x_cv h.1 5 this (F_X5_moveOldestBehind N h.1 this)).bind fun z26 =>
    (x_geti z26 5 this 3).bind fun v27 =>
    if v27 < 0 then
      some (z26, h.2)
    else
      (x_geti z26 5 this 3).bind fun v28 =>
      (x_getr z26 5 this 2).bind fun v29 =>
      Option.bind v29 fun a30 =>
      (x_alen z26 a30).bind fun v31 =>
      if v28 < v31 then
        (x_getr z26 5 this 2).bind fun v32 =>
        (x_geti z26 5 this 3).bind fun v33 =>
        Option.bind v32 fun a34 =>
        (x_aldr z26 3 a34 v33).bind fun v35 =>
        (x_getr z26 5 this 2).bind fun v36 =>
        (x_geti z26 5 this 3).bind fun v37 =>
        (x_getr z26 5 this 1).bind fun v38 =>
        Option.bind v36 fun a39 =>
        (x_astr z26 3 a39 v37 v38).bind fun f40 =>
        (x_geti f40 5 this 3).bind fun v41 =>
        (x_puti f40 5 this 3 (v41 + 1)).bind fun f42 =>
        Option.elim v35
          ((x_new (f42, h.2) 3 [.null, .null, .int 0, .null, .int 0, .int 0, .int 0, .int 0]).bind fun z44 =>
          (F_X3_init N (z44.2.1, z44.2.2) z44.1).bind fun z45 =>
          (x_putr z45.1 5 this 1 (some z44.1)).bind fun f46 =>
          some (f46, z45.2))
          (fun a43 => (x_putr f42 5 this 1 (some a43)).bind fun f47 =>
          some (f47, h.2))
      else
        some (z26, h.2)
set_option maxRecDepth 20000 in
set_option maxHeartbeats 4000000 in
theorem c_X5_saveSpare (N : Nat) (h : XH) (this : Nat) (r : XH) (hF : F_X5_saveSpare N h this = some r) : x_Ct mX5_saveSpare 4 83 32 1903 [.ref this] h (xr_va r) := by
  unfold F_X5_saveSpare at hF
  refine x_ct (by decide) rfl (Nat.le_of_ble_eq_true rfl) ?_
  show X mX5_saveSpare 4 83 _ _ 32 1903 0 [(0, .ref this)] [] h
  refine x_aload_n 0 dX5_saveSpare_0 rfl rfl ?_
  refine x_geti_r dX5_saveSpare_1 fl_X5_157 hF (fun v1 hF => ?_)
  refine x_aload_n 0 dX5_saveSpare_4 rfl rfl ?_
  refine x_getr_r dX5_saveSpare_5 fl_X5_19 hF (fun v2 hF => ?_)
  refine x_nn hF (fun a3 ha3 hF => ?_)
  rw [ha3]
  refine x_alen_r dX5_saveSpare_8 hF (fun v4 hF => ?_)
  refine x_icmp_lt 16 dX5_saveSpare_9 (by decide) hF (fun hF => ?_) (fun hF => ?_)
  · refine x_aload_n 0 dX5_saveSpare_16 rfl rfl ?_
    refine x_geti_r dX5_saveSpare_17 fl_X5_157 hF (fun v5 hF => ?_)
    refine x_if_lt 35 dX5_saveSpare_20 (by decide) hF (fun hF => ?_) (fun hF => ?_)
    · exact x_vret dX5_saveSpare_35 rfl (by cases hF; rfl)
    · refine x_aload_n 0 dX5_saveSpare_23 rfl rfl ?_
      refine x_geti_r dX5_saveSpare_24 fl_X5_157 hF (fun v6 hF => ?_)
      refine x_aload_n 0 dX5_saveSpare_27 rfl rfl ?_
      refine x_getr_r dX5_saveSpare_28 fl_X5_19 hF (fun v7 hF => ?_)
      refine x_nn hF (fun a8 ha8 hF => ?_)
      rw [ha8]
      refine x_alen_r dX5_saveSpare_31 hF (fun v9 hF => ?_)
      refine x_icmp_lt 36 dX5_saveSpare_32 (by decide) hF (fun hF => ?_) (fun hF => ?_)
      · refine x_aload_n 0 dX5_saveSpare_36 rfl rfl ?_
        refine x_getr_r dX5_saveSpare_37 fl_X5_19 hF (fun v10 hF => ?_)
        refine x_aload_n 0 dX5_saveSpare_40 rfl rfl ?_
        refine x_geti_r dX5_saveSpare_41 fl_X5_157 hF (fun v11 hF => ?_)
        refine x_nn hF (fun a12 ha12 hF => ?_)
        rw [ha12]
        refine x_aldr_r 3 dX5_saveSpare_44 hF (fun v13 hF => ?_)
        refine x_astore_nq (i := 1) (lv' := [(1, va_rf v13), (0, .ref this)]) dX5_saveSpare_45 rfl (by decide) rfl ?_
        refine x_aload_n 1 dX5_saveSpare_46 rfl rfl ?_
        refine x_getr_r dX5_saveSpare_47 fl_X5_19 hF (fun v14 hF => ?_)
        refine x_aload_n 1 dX5_saveSpare_50 rfl rfl ?_
        refine x_geti_r dX5_saveSpare_51 fl_X5_157 hF (fun v15 hF => ?_)
        refine x_aload_n 1 dX5_saveSpare_54 rfl rfl ?_
        refine x_getr_r dX5_saveSpare_55 fl_X5_16 hF (fun v16 hF => ?_)
        refine x_nn hF (fun a17 ha17 hF => ?_)
        rw [ha17]
        refine x_astr_r (r := v16) 3 dX5_saveSpare_58 hF (fun f18 hF => ?_)
        refine x_aload_n 1 dX5_saveSpare_59 rfl rfl ?_
        refine x_dupr dX5_saveSpare_60 ?_
        refine x_geti_r dX5_saveSpare_61 fl_X5_157 hF (fun v19 hF => ?_)
        refine x_iconst 1 (by decide) dX5_saveSpare_64 ?_
        refine x_iadd dX5_saveSpare_65 ?_
        refine x_puti_r dX5_saveSpare_66 fl_X5_157 (fun h9 => by cases h9) hF (fun f20 hF => ?_)
        refine x_aload_n 1 dX5_saveSpare_69 rfl rfl ?_
        refine x_aload_nq 0 dX5_saveSpare_70 rfl rfl ?_
        refine x_ifnonnull 84 dX5_saveSpare_71 (by decide) hF (fun _ hF => ?_) (fun a21 ha21 hF => ?_)
        · refine x_new_r 31 1895 dX5_saveSpare_74 cl_X5_9 (by omega) (by omega) hF (fun z22 hF => ?_)
          refine x_dupr dX5_saveSpare_77 ?_
          obtain ⟨z23, hzz23, hF⟩ := x_bind hF
          refine x_calli (As := []) (rest := [.ref z22.1, .ref this]) 0 0 dX5_saveSpare_78 mi_X3_init ml_X5_11 rfl rfl (Nat.le_of_ble_eq_true rfl) ⟨by decide, by decide⟩ (by omega) (by omega) (c_X3_init N _ _ _ hzz23) ?_
          refine x_toX (st' := [.ref z22.1, .ref this]) rfl ?_
          refine x_goto 85 dX5_saveSpare_81 (by decide) ?_
          refine x_putr_r (v := (some z22.1)) dX5_saveSpare_85 fl_X5_16 rfl (fun h9 => by cases h9) hF (fun f24 hF => ?_)
          exact x_vret dX5_saveSpare_88 rfl (by cases hF; rfl)
        · (try rw [ha21])
          refine x_aload_n 0 dX5_saveSpare_84 rfl rfl ?_
          refine x_putr_r (v := (some a21)) dX5_saveSpare_85 fl_X5_16 rfl (fun h9 => by cases h9) hF (fun f25 hF => ?_)
          exact x_vret dX5_saveSpare_88 rfl (by cases hF; rfl)
      · exact x_vret dX5_saveSpare_35 rfl (by cases hF; rfl)
  · refine x_aload_n 0 dX5_saveSpare_12 rfl rfl ?_
    obtain ⟨z26, hzz26, hF⟩ := x_bind hF
    obtain ⟨⟨fsz26, hbz26⟩, hzz26⟩ := x_cv_sp hzz26
    refine x_callv (As := []) (rest := []) 32 1903 dX5_saveSpare_13 mi_X5_moveOldestBehind ml_X5_342 rfl rfl (Nat.le_of_ble_eq_true rfl) ⟨by decide, by decide⟩ (by omega) (by omega) hbz26 rfl (c_X5_moveOldestBehind N _ _ _ _ hzz26) (x_K.none ?_) x_KX.none
    refine x_aload_n 0 dX5_saveSpare_16 rfl rfl ?_
    refine x_geti_r dX5_saveSpare_17 fl_X5_157 hF (fun v27 hF => ?_)
    refine x_if_lt 35 dX5_saveSpare_20 (by decide) hF (fun hF => ?_) (fun hF => ?_)
    · exact x_vret dX5_saveSpare_35 rfl (by cases hF; rfl)
    · refine x_aload_n 0 dX5_saveSpare_23 rfl rfl ?_
      refine x_geti_r dX5_saveSpare_24 fl_X5_157 hF (fun v28 hF => ?_)
      refine x_aload_n 0 dX5_saveSpare_27 rfl rfl ?_
      refine x_getr_r dX5_saveSpare_28 fl_X5_19 hF (fun v29 hF => ?_)
      refine x_nn hF (fun a30 ha30 hF => ?_)
      rw [ha30]
      refine x_alen_r dX5_saveSpare_31 hF (fun v31 hF => ?_)
      refine x_icmp_lt 36 dX5_saveSpare_32 (by decide) hF (fun hF => ?_) (fun hF => ?_)
      · refine x_aload_n 0 dX5_saveSpare_36 rfl rfl ?_
        refine x_getr_r dX5_saveSpare_37 fl_X5_19 hF (fun v32 hF => ?_)
        refine x_aload_n 0 dX5_saveSpare_40 rfl rfl ?_
        refine x_geti_r dX5_saveSpare_41 fl_X5_157 hF (fun v33 hF => ?_)
        refine x_nn hF (fun a34 ha34 hF => ?_)
        rw [ha34]
        refine x_aldr_r 3 dX5_saveSpare_44 hF (fun v35 hF => ?_)
        refine x_astore_nq (i := 1) (lv' := [(1, va_rf v35), (0, .ref this)]) dX5_saveSpare_45 rfl (by decide) rfl ?_
        refine x_aload_n 1 dX5_saveSpare_46 rfl rfl ?_
        refine x_getr_r dX5_saveSpare_47 fl_X5_19 hF (fun v36 hF => ?_)
        refine x_aload_n 1 dX5_saveSpare_50 rfl rfl ?_
        refine x_geti_r dX5_saveSpare_51 fl_X5_157 hF (fun v37 hF => ?_)
        refine x_aload_n 1 dX5_saveSpare_54 rfl rfl ?_
        refine x_getr_r dX5_saveSpare_55 fl_X5_16 hF (fun v38 hF => ?_)
        refine x_nn hF (fun a39 ha39 hF => ?_)
        rw [ha39]
        refine x_astr_r (r := v38) 3 dX5_saveSpare_58 hF (fun f40 hF => ?_)
        refine x_aload_n 1 dX5_saveSpare_59 rfl rfl ?_
        refine x_dupr dX5_saveSpare_60 ?_
        refine x_geti_r dX5_saveSpare_61 fl_X5_157 hF (fun v41 hF => ?_)
        refine x_iconst 1 (by decide) dX5_saveSpare_64 ?_
        refine x_iadd dX5_saveSpare_65 ?_
        refine x_puti_r dX5_saveSpare_66 fl_X5_157 (fun h9 => by cases h9) hF (fun f42 hF => ?_)
        refine x_aload_n 1 dX5_saveSpare_69 rfl rfl ?_
        refine x_aload_nq 0 dX5_saveSpare_70 rfl rfl ?_
        refine x_ifnonnull 84 dX5_saveSpare_71 (by decide) hF (fun _ hF => ?_) (fun a43 ha43 hF => ?_)
        · refine x_new_r 31 1895 dX5_saveSpare_74 cl_X5_9 (by omega) (by omega) hF (fun z44 hF => ?_)
          refine x_dupr dX5_saveSpare_77 ?_
          obtain ⟨z45, hzz45, hF⟩ := x_bind hF
          refine x_calli (As := []) (rest := [.ref z44.1, .ref this]) 0 0 dX5_saveSpare_78 mi_X3_init ml_X5_11 rfl rfl (Nat.le_of_ble_eq_true rfl) ⟨by decide, by decide⟩ (by omega) (by omega) (c_X3_init N _ _ _ hzz45) ?_
          refine x_toX (st' := [.ref z44.1, .ref this]) rfl ?_
          refine x_goto 85 dX5_saveSpare_81 (by decide) ?_
          refine x_putr_r (v := (some z44.1)) dX5_saveSpare_85 fl_X5_16 rfl (fun h9 => by cases h9) hF (fun f46 hF => ?_)
          exact x_vret dX5_saveSpare_88 rfl (by cases hF; rfl)
        · (try rw [ha43])
          refine x_aload_n 0 dX5_saveSpare_84 rfl rfl ?_
          refine x_putr_r (v := (some a43)) dX5_saveSpare_85 fl_X5_16 rfl (fun h9 => by cases h9) hF (fun f47 hF => ?_)
          exact x_vret dX5_saveSpare_88 rfl (by cases hF; rfl)
      · exact x_vret dX5_saveSpare_35 rfl (by cases hF; rfl)
def F_X5_saveUnlessRefused (N : Nat) (h : XH) (this : Nat) (p0 : Int32) : Option ((Int32 × XH) ⊕ (Nat × XM)) :=
  if p0 = (-1) then
    some (.inr (1, h.1))
  else
    (x_cv h.1 5 this (F_X5_saveSpare N (h.1, h.2) this)).bind fun z1 =>
    some (.inl (p0, (z1.1, z1.2)))
set_option maxRecDepth 20000 in
set_option maxHeartbeats 4000000 in
theorem c_X5_saveUnlessRefused (N : Nat) (h : XH) (this : Nat) (p0 : Int32) (r : ((Int32 × XH) ⊕ (Nat × XM))) (hF : F_X5_saveUnlessRefused N h this p0 = some r) : x_Ct mX5_saveUnlessRefused 6 104 32 1903 [.ref this, .int p0] h (xr_iat r) := by
  unfold F_X5_saveUnlessRefused at hF
  refine x_ct (by decide) rfl (Nat.le_of_ble_eq_true rfl) ?_
  show X mX5_saveUnlessRefused 6 104 _ _ 32 1903 0 [(0, .ref this), (1, .int p0)] [] h
  refine x_iload_n 1 dX5_saveUnlessRefused_0 rfl rfl ?_
  refine x_iconst (-1) (by decide) dX5_saveUnlessRefused_1 ?_
  refine x_icmp_ne 16 dX5_saveUnlessRefused_2 (by decide) hF (fun hF => ?_) (fun hF => ?_)
  · refine x_aload_n 0 dX5_saveUnlessRefused_16 rfl rfl ?_
    obtain ⟨z1, hzz1, hF⟩ := x_bind hF
    obtain ⟨⟨fsz1, hbz1⟩, hzz1⟩ := x_cv_sp hzz1
    refine x_callv (As := []) (rest := []) 0 0 dX5_saveUnlessRefused_17 mi_X5_saveSpare ml_X5_95 rfl rfl (Nat.le_of_ble_eq_true rfl) ⟨by decide, by decide⟩ (by omega) (by omega) hbz1 rfl (c_X5_saveSpare N _ _ _ hzz1) (x_K.none ?_) x_KX.none
    refine x_iload_n 1 dX5_saveUnlessRefused_20 rfl rfl ?_
    exact x_iret dX5_saveUnlessRefused_21 rfl (by cases hF; rfl)
  · exact x_throwSW dX5_saveUnlessRefused_5 dX5_saveUnlessRefused_8 dX5_saveUnlessRefused_9 dX5_saveUnlessRefused_12 dX5_saveUnlessRefused_15 rfl tl_ISE sr_X5_340 (by decide) (by decide) (by omega) (by omega) (Nat.le_of_ble_eq_true rfl) (by cases hF; rfl)
def F_X5_build (N : Nat) (h : XH) (this : Nat) (p0 : Int32) : Option ((Int32 × XH) ⊕ (Nat × XM)) :=
  (F_X5_requireFill N h.1 p0).bind fun z1 =>
  x_se z1 (fun w2 =>
    (x_getr h.1 5 this 1).bind fun v4 =>
    (x_getr h.1 5 this 0).bind fun v5 =>
    Option.bind v5 fun a6 =>
    Option.bind v4 fun a7 =>
    (x_cv h.1 3 a7 (F_X3_copyFrom N h.1 a7 a6)).bind fun z8 =>
    (x_getr z8 5 this 0).bind fun v9 =>
    (x_getr z8 5 this 8).bind fun v10 =>
    Option.bind v10 fun a11 =>
    Option.bind v9 fun a12 =>
    (x_cv z8 3 a12 (F_X3_rebuild N z8 a12 p0 a11)).bind fun z13 =>
    (x_cv z13.2 5 this (F_X5_saveUnlessRefused N (z13.2, h.2) this z13.1)).bind fun z14 =>
    x_se z14 (fun w15 =>
      some (.inl (w15.1, (w15.2.1, w15.2.2))))
      (fun e16 => some (.inr (e16.1, e16.2))))
    (fun e3 => some (.inr (e3, h.1)))
set_option maxRecDepth 20000 in
set_option maxHeartbeats 4000000 in
theorem c_X5_build (N : Nat) (h : XH) (this : Nat) (p0 : Int32) (r : ((Int32 × XH) ⊕ (Nat × XM))) (hF : F_X5_build N h this p0 = some r) : x_Ct mX5_build 7 137 33 1909 [.ref this, .int p0] h (xr_iat r) := by
  unfold F_X5_build at hF
  refine x_ct (by decide) rfl (Nat.le_of_ble_eq_true rfl) ?_
  show X mX5_build 7 137 _ _ 33 1909 0 [(0, .ref this), (1, .int p0)] [] h
  refine x_iload_n 1 dX5_build_0 rfl rfl ?_
  obtain ⟨z1, hzz1, hF⟩ := x_bind hF
  rcases z1 with w2 | e3
  · have hF := x_sel hF
    refine x_calls (As := [.int p0]) (rest := []) 32 1903 dX5_build_1 mi_X5_requireFill rfl ml_X5_71 rfl rfl (Nat.le_of_ble_eq_true rfl) ⟨by decide, by decide⟩ (by omega) (by omega) (c_X5_requireFill N _ _ _ _ hzz1) (x_K.none ?_) x_KX.none
    refine x_aload_n 0 dX5_build_4 rfl rfl ?_
    refine x_getr_r dX5_build_5 fl_X5_16 hF (fun v4 hF => ?_)
    refine x_aload_n 0 dX5_build_8 rfl rfl ?_
    refine x_getr_r dX5_build_9 fl_X5_12 hF (fun v5 hF => ?_)
    refine x_nn hF (fun a6 ha6 hF => ?_)
    rw [ha6]
    refine x_nn hF (fun a7 ha7 hF => ?_)
    rw [ha7]
    obtain ⟨z8, hzz8, hF⟩ := x_bind hF
    obtain ⟨⟨fsz8, hbz8⟩, hzz8⟩ := x_cv_sp hzz8
    refine x_callv (As := [.ref a6]) (rest := []) 32 1903 dX5_build_12 mi_X3_copyFrom ml_X5_51 rfl rfl (Nat.le_of_ble_eq_true rfl) ⟨by decide, by decide⟩ (by omega) (by omega) hbz8 rfl (c_X3_copyFrom N _ _ _ _ _ hzz8) (x_K.none ?_) x_KX.none
    refine x_aload_n 0 dX5_build_15 rfl rfl ?_
    refine x_aload_n 0 dX5_build_16 rfl rfl ?_
    refine x_getr_r dX5_build_17 fl_X5_12 hF (fun v9 hF => ?_)
    refine x_iload_n 1 dX5_build_20 rfl rfl ?_
    refine x_aload_n 0 dX5_build_21 rfl rfl ?_
    refine x_getr_r dX5_build_22 fl_X5_40 hF (fun v10 hF => ?_)
    refine x_nn hF (fun a11 ha11 hF => ?_)
    rw [ha11]
    refine x_nn hF (fun a12 ha12 hF => ?_)
    rw [ha12]
    obtain ⟨z13, hzz13, hF⟩ := x_bind hF
    obtain ⟨⟨fsz13, hbz13⟩, hzz13⟩ := x_cv_sp hzz13
    refine x_callv (As := [.int p0, .ref a11]) (rest := [.ref this]) 32 1903 dX5_build_25 mi_X3_rebuild ml_X5_74 rfl rfl (Nat.le_of_ble_eq_true rfl) ⟨by decide, by decide⟩ (by omega) (by omega) hbz13 rfl (c_X3_rebuild N _ _ _ _ _ _ hzz13) (x_K.some ?_) x_KX.none
    obtain ⟨z14, hzz14, hF⟩ := x_bind hF
    obtain ⟨⟨fsz14, hbz14⟩, hzz14⟩ := x_cv_sp hzz14
    rcases z14 with w15 | e16
    · have hF := x_sel hF
      refine x_callv (As := [.int z13.1]) (rest := []) 0 0 dX5_build_28 mi_X5_saveUnlessRefused ml_X5_59 rfl rfl (Nat.le_of_ble_eq_true rfl) ⟨by decide, by decide⟩ (by omega) (by omega) hbz14 rfl (c_X5_saveUnlessRefused N _ _ _ _ hzz14) (x_K.some ?_) x_KX.none
      exact x_iret dX5_build_31 rfl (by cases hF; rfl)
    · have hF := x_ser hF
      exact x_callv (As := [.int z13.1]) (rest := []) 0 0 dX5_build_28 mi_X5_saveUnlessRefused ml_X5_59 rfl rfl (Nat.le_of_ble_eq_true rfl) ⟨by decide, by decide⟩ (by omega) (by omega) hbz14 rfl (c_X5_saveUnlessRefused N _ _ _ _ hzz14) x_K.inr (x_KX.out rfl (fun E hm hq => by cases hq; cases hF; rfl))
  · have hF := x_ser hF
    exact x_calls (As := [.int p0]) (rest := []) 32 1903 dX5_build_1 mi_X5_requireFill rfl ml_X5_71 rfl rfl (Nat.le_of_ble_eq_true rfl) ⟨by decide, by decide⟩ (by omega) (by omega) (c_X5_requireFill N _ _ _ _ hzz1) x_K.inr (x_KX.out rfl (fun E hm hq => by cases hq; cases hF; rfl))
def F_X5_changeFan (N : Nat) (h : XH) (this : Nat) (p0 : Int32) : Option ((Int32 × XH) ⊕ (Nat × XM)) :=
  if p0 < 2 then
    some (.inr (0, h.1))
  else
    if p0 ≤ 6 then
      (x_getr h.1 5 this 1).bind fun v1 =>
      (x_getr h.1 5 this 0).bind fun v2 =>
      Option.bind v2 fun a3 =>
      Option.bind v1 fun a4 =>
      (x_cv h.1 3 a4 (F_X3_copyFrom N h.1 a4 a3)).bind fun z5 =>
      (x_getr z5 5 this 0).bind fun v6 =>
      Option.bind v6 fun a7 =>
      (x_geti z5 3 a7 5).bind fun v8 =>
      (x_getr z5 5 this 0).bind fun v9 =>
      Option.bind v9 fun a10 =>
      (x_puti z5 3 a10 5 p0).bind fun f11 =>
      (x_cv f11 5 this (F_X5_saveSpare N (f11, h.2) this)).bind fun z12 =>
      some (.inl (v8, (z12.1, z12.2)))
    else
      some (.inr (0, h.1))
set_option maxRecDepth 20000 in
set_option maxHeartbeats 4000000 in
theorem c_X5_changeFan (N : Nat) (h : XH) (this : Nat) (p0 : Int32) (r : ((Int32 × XH) ⊕ (Nat × XM))) (hF : F_X5_changeFan N h this p0 = some r) : x_Ct mX5_changeFan 6 135 32 1903 [.ref this, .int p0] h (xr_iat r) := by
  unfold F_X5_changeFan at hF
  refine x_ct (by decide) rfl (Nat.le_of_ble_eq_true rfl) ?_
  show X mX5_changeFan 6 135 _ _ 32 1903 0 [(0, .ref this), (1, .int p0)] [] h
  refine x_iload_n 1 dX5_changeFan_0 rfl rfl ?_
  refine x_iconst 2 (by decide) dX5_changeFan_1 ?_
  refine x_icmp_lt 11 dX5_changeFan_2 (by decide) hF (fun hF => ?_) (fun hF => ?_)
  · exact x_throwS dX5_changeFan_11 dX5_changeFan_14 dX5_changeFan_15 dX5_changeFan_17 dX5_changeFan_20 rfl tl_IAE sr_X5_98 (by decide) (by decide) (by omega) (by omega) (Nat.le_of_ble_eq_true rfl) (by cases hF; rfl)
  · refine x_iload_n 1 dX5_changeFan_5 rfl rfl ?_
    refine x_bipush 6 (by decide) dX5_changeFan_6 ?_
    refine x_icmp_le 21 dX5_changeFan_8 (by decide) hF (fun hF => ?_) (fun hF => ?_)
    · refine x_aload_n 0 dX5_changeFan_21 rfl rfl ?_
      refine x_getr_r dX5_changeFan_22 fl_X5_16 hF (fun v1 hF => ?_)
      refine x_aload_n 0 dX5_changeFan_25 rfl rfl ?_
      refine x_getr_r dX5_changeFan_26 fl_X5_12 hF (fun v2 hF => ?_)
      refine x_nn hF (fun a3 ha3 hF => ?_)
      rw [ha3]
      refine x_nn hF (fun a4 ha4 hF => ?_)
      rw [ha4]
      obtain ⟨z5, hzz5, hF⟩ := x_bind hF
      obtain ⟨⟨fsz5, hbz5⟩, hzz5⟩ := x_cv_sp hzz5
      refine x_callv (As := [.ref a3]) (rest := []) 32 1903 dX5_changeFan_29 mi_X3_copyFrom ml_X5_51 rfl rfl (Nat.le_of_ble_eq_true rfl) ⟨by decide, by decide⟩ (by omega) (by omega) hbz5 rfl (c_X3_copyFrom N _ _ _ _ _ hzz5) (x_K.none ?_) x_KX.none
      refine x_aload_n 0 dX5_changeFan_32 rfl rfl ?_
      refine x_getr_r dX5_changeFan_33 fl_X5_12 hF (fun v6 hF => ?_)
      refine x_nn hF (fun a7 ha7 hF => ?_)
      rw [ha7]
      refine x_geti_r dX5_changeFan_36 fl_X5_100 hF (fun v8 hF => ?_)
      refine x_istore_n (i := 2) (lv' := [(2, .int v8), (0, .ref this), (1, .int p0)]) dX5_changeFan_39 rfl (by decide) rfl ?_
      refine x_aload_n 1 dX5_changeFan_40 rfl rfl ?_
      refine x_getr_r dX5_changeFan_41 fl_X5_12 hF (fun v9 hF => ?_)
      refine x_iload_n 2 dX5_changeFan_44 rfl rfl ?_
      refine x_nn hF (fun a10 ha10 hF => ?_)
      rw [ha10]
      refine x_puti_r dX5_changeFan_45 fl_X5_100 (fun h9 => by cases h9) hF (fun f11 hF => ?_)
      refine x_aload_n 1 dX5_changeFan_48 rfl rfl ?_
      obtain ⟨z12, hzz12, hF⟩ := x_bind hF
      obtain ⟨⟨fsz12, hbz12⟩, hzz12⟩ := x_cv_sp hzz12
      refine x_callv (As := []) (rest := []) 0 0 dX5_changeFan_49 mi_X5_saveSpare ml_X5_95 rfl rfl (Nat.le_of_ble_eq_true rfl) ⟨by decide, by decide⟩ (by omega) (by omega) hbz12 rfl (c_X5_saveSpare N _ _ _ hzz12) (x_K.none ?_) x_KX.none
      refine x_iload_n 0 dX5_changeFan_52 rfl rfl ?_
      exact x_iret dX5_changeFan_53 rfl (by cases hF; rfl)
    · exact x_throwS dX5_changeFan_11 dX5_changeFan_14 dX5_changeFan_15 dX5_changeFan_17 dX5_changeFan_20 rfl tl_IAE sr_X5_98 (by decide) (by decide) (by omega) (by omega) (Nat.le_of_ble_eq_true rfl) (by cases hF; rfl)
def F_X5_changeLeaf (N : Nat) (h : XH) (this : Nat) (p0 : Int32) : Option ((Int32 × XH) ⊕ (Nat × XM)) :=
  if p0 < 2 then
    some (.inr (0, h.1))
  else
    if p0 ≤ 8 then
      (x_getr h.1 5 this 1).bind fun v1 =>
      (x_getr h.1 5 this 0).bind fun v2 =>
      Option.bind v2 fun a3 =>
      Option.bind v1 fun a4 =>
      (x_cv h.1 3 a4 (F_X3_copyFrom N h.1 a4 a3)).bind fun z5 =>
      (x_getr z5 5 this 0).bind fun v6 =>
      Option.bind v6 fun a7 =>
      (x_geti z5 3 a7 4).bind fun v8 =>
      (x_getr z5 5 this 0).bind fun v9 =>
      Option.bind v9 fun a10 =>
      (x_puti z5 3 a10 4 p0).bind fun f11 =>
      (x_cv f11 5 this (F_X5_saveSpare N (f11, h.2) this)).bind fun z12 =>
      some (.inl (v8, (z12.1, z12.2)))
    else
      some (.inr (0, h.1))
set_option maxRecDepth 20000 in
set_option maxHeartbeats 4000000 in
theorem c_X5_changeLeaf (N : Nat) (h : XH) (this : Nat) (p0 : Int32) (r : ((Int32 × XH) ⊕ (Nat × XM))) (hF : F_X5_changeLeaf N h this p0 = some r) : x_Ct mX5_changeLeaf 6 135 32 1903 [.ref this, .int p0] h (xr_iat r) := by
  unfold F_X5_changeLeaf at hF
  refine x_ct (by decide) rfl (Nat.le_of_ble_eq_true rfl) ?_
  show X mX5_changeLeaf 6 135 _ _ 32 1903 0 [(0, .ref this), (1, .int p0)] [] h
  refine x_iload_n 1 dX5_changeLeaf_0 rfl rfl ?_
  refine x_iconst 2 (by decide) dX5_changeLeaf_1 ?_
  refine x_icmp_lt 11 dX5_changeLeaf_2 (by decide) hF (fun hF => ?_) (fun hF => ?_)
  · exact x_throwS dX5_changeLeaf_11 dX5_changeLeaf_14 dX5_changeLeaf_15 dX5_changeLeaf_17 dX5_changeLeaf_20 rfl tl_IAE sr_X5_86 (by decide) (by decide) (by omega) (by omega) (Nat.le_of_ble_eq_true rfl) (by cases hF; rfl)
  · refine x_iload_n 1 dX5_changeLeaf_5 rfl rfl ?_
    refine x_bipush 8 (by decide) dX5_changeLeaf_6 ?_
    refine x_icmp_le 21 dX5_changeLeaf_8 (by decide) hF (fun hF => ?_) (fun hF => ?_)
    · refine x_aload_n 0 dX5_changeLeaf_21 rfl rfl ?_
      refine x_getr_r dX5_changeLeaf_22 fl_X5_16 hF (fun v1 hF => ?_)
      refine x_aload_n 0 dX5_changeLeaf_25 rfl rfl ?_
      refine x_getr_r dX5_changeLeaf_26 fl_X5_12 hF (fun v2 hF => ?_)
      refine x_nn hF (fun a3 ha3 hF => ?_)
      rw [ha3]
      refine x_nn hF (fun a4 ha4 hF => ?_)
      rw [ha4]
      obtain ⟨z5, hzz5, hF⟩ := x_bind hF
      obtain ⟨⟨fsz5, hbz5⟩, hzz5⟩ := x_cv_sp hzz5
      refine x_callv (As := [.ref a3]) (rest := []) 32 1903 dX5_changeLeaf_29 mi_X3_copyFrom ml_X5_51 rfl rfl (Nat.le_of_ble_eq_true rfl) ⟨by decide, by decide⟩ (by omega) (by omega) hbz5 rfl (c_X3_copyFrom N _ _ _ _ _ hzz5) (x_K.none ?_) x_KX.none
      refine x_aload_n 0 dX5_changeLeaf_32 rfl rfl ?_
      refine x_getr_r dX5_changeLeaf_33 fl_X5_12 hF (fun v6 hF => ?_)
      refine x_nn hF (fun a7 ha7 hF => ?_)
      rw [ha7]
      refine x_geti_r dX5_changeLeaf_36 fl_X5_91 hF (fun v8 hF => ?_)
      refine x_istore_n (i := 2) (lv' := [(2, .int v8), (0, .ref this), (1, .int p0)]) dX5_changeLeaf_39 rfl (by decide) rfl ?_
      refine x_aload_n 1 dX5_changeLeaf_40 rfl rfl ?_
      refine x_getr_r dX5_changeLeaf_41 fl_X5_12 hF (fun v9 hF => ?_)
      refine x_iload_n 2 dX5_changeLeaf_44 rfl rfl ?_
      refine x_nn hF (fun a10 ha10 hF => ?_)
      rw [ha10]
      refine x_puti_r dX5_changeLeaf_45 fl_X5_91 (fun h9 => by cases h9) hF (fun f11 hF => ?_)
      refine x_aload_n 1 dX5_changeLeaf_48 rfl rfl ?_
      obtain ⟨z12, hzz12, hF⟩ := x_bind hF
      obtain ⟨⟨fsz12, hbz12⟩, hzz12⟩ := x_cv_sp hzz12
      refine x_callv (As := []) (rest := []) 0 0 dX5_changeLeaf_49 mi_X5_saveSpare ml_X5_95 rfl rfl (Nat.le_of_ble_eq_true rfl) ⟨by decide, by decide⟩ (by omega) (by omega) hbz12 rfl (c_X5_saveSpare N _ _ _ hzz12) (x_K.none ?_) x_KX.none
      refine x_iload_n 0 dX5_changeLeaf_52 rfl rfl ?_
      exact x_iret dX5_changeLeaf_53 rfl (by cases hF; rfl)
    · exact x_throwS dX5_changeLeaf_11 dX5_changeLeaf_14 dX5_changeLeaf_15 dX5_changeLeaf_17 dX5_changeLeaf_20 rfl tl_IAE sr_X5_86 (by decide) (by decide) (by omega) (by omega) (Nat.le_of_ble_eq_true rfl) (by cases hF; rfl)
def F_X5_childrenOf (N : Nat) (f : XM) (this : Nat) (p0 : Int32) (p1 : Int32) : Option ((Int32) ⊕ (Nat)) :=
  (x_cv f 5 this (F_X5_requireLevel N f this p0)).bind fun z1 =>
  x_se z1 (fun w2 =>
    (x_cv f 5 this (F_X5_requireNode N f this p0 p1)).bind fun z4 =>
    x_se z4 (fun w5 =>
      (x_getr f 5 this 0).bind fun v7 =>
      Option.bind v7 fun a8 =>
      (x_getr f 3 a8 3).bind fun v9 =>
      Option.bind v9 fun a10 =>
      (x_cv f 4 a10 (F_X4_childCount N f a10 p0 p1)).bind fun z11 =>
      some (.inl z11))
      (fun e6 => some (.inr e6)))
    (fun e3 => some (.inr e3))
set_option maxRecDepth 20000 in
set_option maxHeartbeats 4000000 in
theorem c_X5_childrenOf (N : Nat) (f : XM) (this : Nat) (p0 : Int32) (p1 : Int32) (n : Nat) (r : ((Int32) ⊕ (Nat))) (hF : F_X5_childrenOf N f this p0 p1 = some r) : x_Ct mX5_childrenOf 7 112 2 12 [.ref this, .int p0, .int p1] (f, n) (xr_ipt r (f, n)) := by
  unfold F_X5_childrenOf at hF
  refine x_ct (by decide) rfl (Nat.le_of_ble_eq_true rfl) ?_
  show X mX5_childrenOf 7 112 _ _ 2 12 0 [(0, .ref this), (1, .int p0), (2, .int p1)] [] (f, n)
  refine x_aload_n 0 dX5_childrenOf_0 rfl rfl ?_
  refine x_iload_n 1 dX5_childrenOf_1 rfl rfl ?_
  obtain ⟨z1, hzz1, hF⟩ := x_bind hF
  obtain ⟨⟨fsz1, hbz1⟩, hzz1⟩ := x_cv_sp hzz1
  rcases z1 with w2 | e3
  · have hF := x_sel hF
    refine x_callv (As := [.int p0]) (rest := []) 1 6 dX5_childrenOf_2 mi_X5_requireLevel ml_X5_252 rfl rfl (Nat.le_of_ble_eq_true rfl) ⟨by decide, by decide⟩ (by omega) (by omega) hbz1 rfl (c_X5_requireLevel N _ _ _ _ _ hzz1) (x_K.none ?_) x_KX.none
    refine x_aload_n 0 dX5_childrenOf_5 rfl rfl ?_
    refine x_iload_n 1 dX5_childrenOf_6 rfl rfl ?_
    refine x_iload_n 2 dX5_childrenOf_7 rfl rfl ?_
    obtain ⟨z4, hzz4, hF⟩ := x_bind hF
    obtain ⟨⟨fsz4, hbz4⟩, hzz4⟩ := x_cv_sp hzz4
    rcases z4 with w5 | e6
    · have hF := x_sel hF
      refine x_callv (As := [.int p0, .int p1]) (rest := []) 0 0 dX5_childrenOf_8 mi_X5_requireNode ml_X5_258 rfl rfl (Nat.le_of_ble_eq_true rfl) ⟨by decide, by decide⟩ (by omega) (by omega) hbz4 rfl (c_X5_requireNode N _ _ _ _ _ _ hzz4) (x_K.none ?_) x_KX.none
      refine x_aload_n 0 dX5_childrenOf_11 rfl rfl ?_
      refine x_getr_r dX5_childrenOf_12 fl_X5_12 hF (fun v7 hF => ?_)
      refine x_nn hF (fun a8 ha8 hF => ?_)
      rw [ha8]
      refine x_getr_r dX5_childrenOf_15 fl_X5_219 hF (fun v9 hF => ?_)
      refine x_iload_n 1 dX5_childrenOf_18 rfl rfl ?_
      refine x_iload_n 2 dX5_childrenOf_19 rfl rfl ?_
      refine x_nn hF (fun a10 ha10 hF => ?_)
      rw [ha10]
      obtain ⟨z11, hzz11, hF⟩ := x_bind hF
      obtain ⟨⟨fsz11, hbz11⟩, hzz11⟩ := x_cv_sp hzz11
      refine x_callv (As := [.int p0, .int p1]) (rest := []) 0 0 dX5_childrenOf_20 mi_X4_childCount ml_X5_261 rfl rfl (Nat.le_of_ble_eq_true rfl) ⟨by decide, by decide⟩ (by omega) (by omega) hbz11 rfl (c_X4_childCount N _ _ _ _ _ _ hzz11) (x_K.some ?_) x_KX.none
      exact x_iret dX5_childrenOf_23 rfl (by cases hF; rfl)
    · have hF := x_ser hF
      exact x_callv (As := [.int p0, .int p1]) (rest := []) 0 0 dX5_childrenOf_8 mi_X5_requireNode ml_X5_258 rfl rfl (Nat.le_of_ble_eq_true rfl) ⟨by decide, by decide⟩ (by omega) (by omega) hbz4 rfl (c_X5_requireNode N _ _ _ _ _ _ hzz4) x_K.inr (x_KX.out rfl (fun E hm hq => by cases hq; cases hF; rfl))
  · have hF := x_ser hF
    exact x_callv (As := [.int p0]) (rest := []) 1 6 dX5_childrenOf_2 mi_X5_requireLevel ml_X5_252 rfl rfl (Nat.le_of_ble_eq_true rfl) ⟨by decide, by decide⟩ (by omega) (by omega) hbz1 rfl (c_X5_requireLevel N _ _ _ _ _ hzz1) x_K.inr (x_KX.out rfl (fun E hm hq => by cases hq; cases hF; rfl))
def F_X5_closeRun (N : Nat) (h : XH) (this : Nat) : Option ((Int32 × XH) ⊕ (Nat × XM)) :=
  (x_getr h.1 5 this 1).bind fun v1 =>
  (x_getr h.1 5 this 0).bind fun v2 =>
  Option.bind v2 fun a3 =>
  Option.bind v1 fun a4 =>
  (x_cv h.1 3 a4 (F_X3_copyFrom N h.1 a4 a3)).bind fun z5 =>
  (x_getr z5 5 this 0).bind fun v6 =>
  Option.bind v6 fun a7 =>
  (x_cv z5 3 a7 (F_X3_closeOpen N z5 a7)).bind fun z8 =>
  (x_cv z8.2 5 this (F_X5_saveUnlessRefused N (z8.2, h.2) this z8.1)).bind fun z9 =>
  x_se z9 (fun w10 =>
    some (.inl (w10.1, (w10.2.1, w10.2.2))))
    (fun e11 => some (.inr (e11.1, e11.2)))
set_option maxRecDepth 20000 in
set_option maxHeartbeats 4000000 in
theorem c_X5_closeRun (N : Nat) (h : XH) (this : Nat) (r : ((Int32 × XH) ⊕ (Nat × XM))) (hF : F_X5_closeRun N h this = some r) : x_Ct mX5_closeRun 7 135 32 1903 [.ref this] h (xr_iat r) := by
  unfold F_X5_closeRun at hF
  refine x_ct (by decide) rfl (Nat.le_of_ble_eq_true rfl) ?_
  show X mX5_closeRun 7 135 _ _ 32 1903 0 [(0, .ref this)] [] h
  refine x_aload_n 0 dX5_closeRun_0 rfl rfl ?_
  refine x_getr_r dX5_closeRun_1 fl_X5_16 hF (fun v1 hF => ?_)
  refine x_aload_n 0 dX5_closeRun_4 rfl rfl ?_
  refine x_getr_r dX5_closeRun_5 fl_X5_12 hF (fun v2 hF => ?_)
  refine x_nn hF (fun a3 ha3 hF => ?_)
  rw [ha3]
  refine x_nn hF (fun a4 ha4 hF => ?_)
  rw [ha4]
  obtain ⟨z5, hzz5, hF⟩ := x_bind hF
  obtain ⟨⟨fsz5, hbz5⟩, hzz5⟩ := x_cv_sp hzz5
  refine x_callv (As := [.ref a3]) (rest := []) 32 1903 dX5_closeRun_8 mi_X3_copyFrom ml_X5_51 rfl rfl (Nat.le_of_ble_eq_true rfl) ⟨by decide, by decide⟩ (by omega) (by omega) hbz5 rfl (c_X3_copyFrom N _ _ _ _ _ hzz5) (x_K.none ?_) x_KX.none
  refine x_aload_n 0 dX5_closeRun_11 rfl rfl ?_
  refine x_aload_n 0 dX5_closeRun_12 rfl rfl ?_
  refine x_getr_r dX5_closeRun_13 fl_X5_12 hF (fun v6 hF => ?_)
  refine x_nn hF (fun a7 ha7 hF => ?_)
  rw [ha7]
  obtain ⟨z8, hzz8, hF⟩ := x_bind hF
  obtain ⟨⟨fsz8, hbz8⟩, hzz8⟩ := x_cv_sp hzz8
  refine x_callv (As := []) (rest := [.ref this]) 32 1903 dX5_closeRun_16 mi_X3_closeOpen ml_X5_63 rfl rfl (Nat.le_of_ble_eq_true rfl) ⟨by decide, by decide⟩ (by omega) (by omega) hbz8 rfl (c_X3_closeOpen N _ _ _ _ hzz8) (x_K.some ?_) x_KX.none
  obtain ⟨z9, hzz9, hF⟩ := x_bind hF
  obtain ⟨⟨fsz9, hbz9⟩, hzz9⟩ := x_cv_sp hzz9
  rcases z9 with w10 | e11
  · have hF := x_sel hF
    refine x_callv (As := [.int z8.1]) (rest := []) 0 0 dX5_closeRun_19 mi_X5_saveUnlessRefused ml_X5_59 rfl rfl (Nat.le_of_ble_eq_true rfl) ⟨by decide, by decide⟩ (by omega) (by omega) hbz9 rfl (c_X5_saveUnlessRefused N _ _ _ _ hzz9) (x_K.some ?_) x_KX.none
    exact x_iret dX5_closeRun_22 rfl (by cases hF; rfl)
  · have hF := x_ser hF
    exact x_callv (As := [.int z8.1]) (rest := []) 0 0 dX5_closeRun_19 mi_X5_saveUnlessRefused ml_X5_59 rfl rfl (Nat.le_of_ble_eq_true rfl) ⟨by decide, by decide⟩ (by omega) (by omega) hbz9 rfl (c_X5_saveUnlessRefused N _ _ _ _ hzz9) x_K.inr (x_KX.out rfl (fun E hm hq => by cases hq; cases hF; rfl))
def F_X5_requireRange (N : Nat) (f : XM) (p0 : Int32) (p1 : Int32) : Option ((Unit) ⊕ (Nat)) :=
  if p0 < 0 then
    some (.inr 0)
  else
    if 9999 < p0 then
      some (.inr 0)
    else
      if p1 < p0 then
        some (.inr 0)
      else
        if p1 ≤ 9999 then
          some (.inl ())
        else
          some (.inr 0)
set_option maxRecDepth 20000 in
set_option maxHeartbeats 4000000 in
theorem c_X5_requireRange (N : Nat) (f : XM) (p0 : Int32) (p1 : Int32) (n : Nat) (r : ((Unit) ⊕ (Nat))) (hF : F_X5_requireRange N f p0 p1 = some r) : x_Ct mX5_requireRange 6 90 1 6 [.int p0, .int p1] (f, n) (xr_vpt r (f, n)) := by
  unfold F_X5_requireRange at hF
  refine x_ct (by decide) rfl (Nat.le_of_ble_eq_true rfl) ?_
  show X mX5_requireRange 6 90 _ _ 1 6 0 [(0, .int p0), (1, .int p1)] [] (f, n)
  refine x_iload_n 0 dX5_requireRange_0 rfl rfl ?_
  refine x_if_lt 23 dX5_requireRange_1 (by decide) hF (fun hF => ?_) (fun hF => ?_)
  · exact x_throwSW dX5_requireRange_23 dX5_requireRange_26 dX5_requireRange_27 dX5_requireRange_30 dX5_requireRange_33 rfl tl_IAE sr_X5_330 (by decide) (by decide) (by omega) (by omega) (Nat.le_of_ble_eq_true rfl) (by cases hF; rfl)
  · refine x_iload_n 0 dX5_requireRange_4 rfl rfl ?_
    refine x_sipush 9999 (by decide) dX5_requireRange_5 ?_
    refine x_icmp_gt 23 dX5_requireRange_8 (by decide) hF (fun hF => ?_) (fun hF => ?_)
    · exact x_throwSW dX5_requireRange_23 dX5_requireRange_26 dX5_requireRange_27 dX5_requireRange_30 dX5_requireRange_33 rfl tl_IAE sr_X5_330 (by decide) (by decide) (by omega) (by omega) (Nat.le_of_ble_eq_true rfl) (by cases hF; rfl)
    · refine x_iload_n 1 dX5_requireRange_11 rfl rfl ?_
      refine x_iload_n 0 dX5_requireRange_12 rfl rfl ?_
      refine x_icmp_lt 23 dX5_requireRange_13 (by decide) hF (fun hF => ?_) (fun hF => ?_)
      · exact x_throwSW dX5_requireRange_23 dX5_requireRange_26 dX5_requireRange_27 dX5_requireRange_30 dX5_requireRange_33 rfl tl_IAE sr_X5_330 (by decide) (by decide) (by omega) (by omega) (Nat.le_of_ble_eq_true rfl) (by cases hF; rfl)
      · refine x_iload_n 1 dX5_requireRange_16 rfl rfl ?_
        refine x_sipush 9999 (by decide) dX5_requireRange_17 ?_
        refine x_icmp_le 34 dX5_requireRange_20 (by decide) hF (fun hF => ?_) (fun hF => ?_)
        · exact x_vret dX5_requireRange_34 rfl (by cases hF; rfl)
        · exact x_throwSW dX5_requireRange_23 dX5_requireRange_26 dX5_requireRange_27 dX5_requireRange_30 dX5_requireRange_33 rfl tl_IAE sr_X5_330 (by decide) (by decide) (by omega) (by omega) (Nat.le_of_ble_eq_true rfl) (by cases hF; rfl)
def F_X5_countByLeaves (N : Nat) (f : XM) (this : Nat) (p0 : Int32) (p1 : Int32) : Option ((Int32) ⊕ (Nat)) :=
  (F_X5_requireRange N f p0 p1).bind fun z1 =>
  x_se z1 (fun w2 =>
    (x_getr f 5 this 0).bind fun v4 =>
    Option.bind v4 fun a5 =>
    (x_cv f 3 a5 (F_X3_countStanding N f a5 p0 p1)).bind fun z6 =>
    some (.inl z6))
    (fun e3 => some (.inr e3))
set_option maxRecDepth 20000 in
set_option maxHeartbeats 4000000 in
theorem c_X5_countByLeaves (N : Nat) (f : XM) (this : Nat) (p0 : Int32) (p1 : Int32) (n : Nat) (r : ((Int32) ⊕ (Nat))) (hF : F_X5_countByLeaves N f this p0 p1 = some r) : x_Ct mX5_countByLeaves 7 124 1 6 [.ref this, .int p0, .int p1] (f, n) (xr_ipt r (f, n)) := by
  unfold F_X5_countByLeaves at hF
  refine x_ct (by decide) rfl (Nat.le_of_ble_eq_true rfl) ?_
  show X mX5_countByLeaves 7 124 _ _ 1 6 0 [(0, .ref this), (1, .int p0), (2, .int p1)] [] (f, n)
  refine x_iload_n 1 dX5_countByLeaves_0 rfl rfl ?_
  refine x_iload_n 2 dX5_countByLeaves_1 rfl rfl ?_
  obtain ⟨z1, hzz1, hF⟩ := x_bind hF
  rcases z1 with w2 | e3
  · have hF := x_sel hF
    refine x_calls (As := [.int p0, .int p1]) (rest := []) 0 0 dX5_countByLeaves_2 mi_X5_requireRange rfl ml_X5_172 rfl rfl (Nat.le_of_ble_eq_true rfl) ⟨by decide, by decide⟩ (by omega) (by omega) (c_X5_requireRange N _ _ _ _ _ hzz1) (x_K.none ?_) x_KX.none
    refine x_aload_n 0 dX5_countByLeaves_5 rfl rfl ?_
    refine x_getr_r dX5_countByLeaves_6 fl_X5_12 hF (fun v4 hF => ?_)
    refine x_iload_n 1 dX5_countByLeaves_9 rfl rfl ?_
    refine x_iload_n 2 dX5_countByLeaves_10 rfl rfl ?_
    refine x_nn hF (fun a5 ha5 hF => ?_)
    rw [ha5]
    obtain ⟨z6, hzz6, hF⟩ := x_bind hF
    obtain ⟨⟨fsz6, hbz6⟩, hzz6⟩ := x_cv_sp hzz6
    refine x_callv (As := [.int p0, .int p1]) (rest := []) 0 0 dX5_countByLeaves_11 mi_X3_countStanding ml_X5_176 rfl rfl (Nat.le_of_ble_eq_true rfl) ⟨by decide, by decide⟩ (by omega) (by omega) hbz6 rfl (c_X3_countStanding N _ _ _ _ _ _ hzz6) (x_K.some ?_) x_KX.none
    exact x_iret dX5_countByLeaves_14 rfl (by cases hF; rfl)
  · have hF := x_ser hF
    exact x_calls (As := [.int p0, .int p1]) (rest := []) 0 0 dX5_countByLeaves_2 mi_X5_requireRange rfl ml_X5_172 rfl rfl (Nat.le_of_ble_eq_true rfl) ⟨by decide, by decide⟩ (by omega) (by omega) (c_X5_requireRange N _ _ _ _ _ hzz1) x_K.inr (x_KX.out rfl (fun E hm hq => by cases hq; cases hF; rfl))
def F_X5_countByNext (N : Nat) (f : XM) (this : Nat) (p0 : Int32) (p1 : Int32) : Option ((Int32 × XM) ⊕ (Nat × XM)) :=
  (F_X5_requireRange N f p0 p1).bind fun z1 =>
  x_se z1 (fun w2 =>
    (x_getr f 5 this 8).bind fun v4 =>
    (x_getr f 5 this 0).bind fun v5 =>
    Option.bind v5 fun a6 =>
    Option.bind v4 fun a7 =>
    (x_cv f 0 a7 (F_X0_gather N f a7 a6)).bind fun z8 =>
    Option.bind z8.1 fun a9 =>
    (x_cv z8.2 2 a9 (F_X2_countFrom N z8.2 a9 p0 p1)).bind fun z10 =>
    some (.inl (z10, z8.2)))
    (fun e3 => some (.inr (e3, f)))
set_option maxRecDepth 20000 in
set_option maxHeartbeats 4000000 in
theorem c_X5_countByNext (N : Nat) (f : XM) (this : Nat) (p0 : Int32) (p1 : Int32) (n : Nat) (r : ((Int32 × XM) ⊕ (Nat × XM))) (hF : F_X5_countByNext N f this p0 p1 = some r) : x_Ct mX5_countByNext 7 114 1 6 [.ref this, .int p0, .int p1] (f, n) (xr_imt r n) := by
  unfold F_X5_countByNext at hF
  refine x_ct (by decide) rfl (Nat.le_of_ble_eq_true rfl) ?_
  show X mX5_countByNext 7 114 _ _ 1 6 0 [(0, .ref this), (1, .int p0), (2, .int p1)] [] (f, n)
  refine x_iload_n 1 dX5_countByNext_0 rfl rfl ?_
  refine x_iload_n 2 dX5_countByNext_1 rfl rfl ?_
  obtain ⟨z1, hzz1, hF⟩ := x_bind hF
  rcases z1 with w2 | e3
  · have hF := x_sel hF
    refine x_calls (As := [.int p0, .int p1]) (rest := []) 0 0 dX5_countByNext_2 mi_X5_requireRange rfl ml_X5_172 rfl rfl (Nat.le_of_ble_eq_true rfl) ⟨by decide, by decide⟩ (by omega) (by omega) (c_X5_requireRange N _ _ _ _ _ hzz1) (x_K.none ?_) x_KX.none
    refine x_aload_n 0 dX5_countByNext_5 rfl rfl ?_
    refine x_getr_r dX5_countByNext_6 fl_X5_40 hF (fun v4 hF => ?_)
    refine x_aload_n 0 dX5_countByNext_9 rfl rfl ?_
    refine x_getr_r dX5_countByNext_10 fl_X5_12 hF (fun v5 hF => ?_)
    refine x_nn hF (fun a6 ha6 hF => ?_)
    rw [ha6]
    refine x_nn hF (fun a7 ha7 hF => ?_)
    rw [ha7]
    obtain ⟨z8, hzz8, hF⟩ := x_bind hF
    obtain ⟨⟨fsz8, hbz8⟩, hzz8⟩ := x_cv_sp hzz8
    refine x_callv (As := [.ref a6]) (rest := []) 0 0 dX5_countByNext_13 mi_X0_gather ml_X5_129 rfl rfl (Nat.le_of_ble_eq_true rfl) ⟨by decide, by decide⟩ (by omega) (by omega) hbz8 rfl (c_X0_gather N _ _ _ _ _ hzz8) (x_K.some ?_) x_KX.none
    refine x_iload_n 1 dX5_countByNext_16 rfl rfl ?_
    refine x_iload_n 2 dX5_countByNext_17 rfl rfl ?_
    refine x_nn hF (fun a9 ha9 hF => ?_)
    rw [ha9]
    obtain ⟨z10, hzz10, hF⟩ := x_bind hF
    obtain ⟨⟨fsz10, hbz10⟩, hzz10⟩ := x_cv_sp hzz10
    refine x_callv (As := [.int p0, .int p1]) (rest := []) 0 0 dX5_countByNext_18 mi_X2_countFrom ml_X5_179 rfl rfl (Nat.le_of_ble_eq_true rfl) ⟨by decide, by decide⟩ (by omega) (by omega) hbz10 rfl (c_X2_countFrom N _ _ _ _ _ _ hzz10) (x_K.some ?_) x_KX.none
    exact x_iret dX5_countByNext_21 rfl (by cases hF; rfl)
  · have hF := x_ser hF
    exact x_calls (As := [.int p0, .int p1]) (rest := []) 0 0 dX5_countByNext_2 mi_X5_requireRange rfl ml_X5_172 rfl rfl (Nat.le_of_ble_eq_true rfl) ⟨by decide, by decide⟩ (by omega) (by omega) (c_X5_requireRange N _ _ _ _ _ hzz1) x_K.inr (x_KX.out rfl (fun E hm hq => by cases hq; cases hF; rfl))
def F_X5_requireKey (N : Nat) (f : XM) (p0 : Int32) : Option ((Unit) ⊕ (Nat)) :=
  if p0 < 0 then
    some (.inr 0)
  else
    if p0 ≤ 9999 then
      some (.inl ())
    else
      some (.inr 0)
set_option maxRecDepth 20000 in
set_option maxHeartbeats 4000000 in
theorem c_X5_requireKey (N : Nat) (f : XM) (p0 : Int32) (n : Nat) (r : ((Unit) ⊕ (Nat))) (hF : F_X5_requireKey N f p0 = some r) : x_Ct mX5_requireKey 6 90 1 6 [.int p0] (f, n) (xr_vpt r (f, n)) := by
  unfold F_X5_requireKey at hF
  refine x_ct (by decide) rfl (Nat.le_of_ble_eq_true rfl) ?_
  show X mX5_requireKey 6 90 _ _ 1 6 0 [(0, .int p0)] [] (f, n)
  refine x_iload_n 0 dX5_requireKey_0 rfl rfl ?_
  refine x_if_lt 11 dX5_requireKey_1 (by decide) hF (fun hF => ?_) (fun hF => ?_)
  · exact x_throwSW dX5_requireKey_11 dX5_requireKey_14 dX5_requireKey_15 dX5_requireKey_18 dX5_requireKey_21 rfl tl_IAE sr_X5_324 (by decide) (by decide) (by omega) (by omega) (Nat.le_of_ble_eq_true rfl) (by cases hF; rfl)
  · refine x_iload_n 0 dX5_requireKey_4 rfl rfl ?_
    refine x_sipush 9999 (by decide) dX5_requireKey_5 ?_
    refine x_icmp_le 22 dX5_requireKey_8 (by decide) hF (fun hF => ?_) (fun hF => ?_)
    · exact x_vret dX5_requireKey_22 rfl (by cases hF; rfl)
    · exact x_throwSW dX5_requireKey_11 dX5_requireKey_14 dX5_requireKey_15 dX5_requireKey_18 dX5_requireKey_21 rfl tl_IAE sr_X5_324 (by decide) (by decide) (by omega) (by omega) (Nat.le_of_ble_eq_true rfl) (by cases hF; rfl)
def F_X5_drop (N : Nat) (h : XH) (this : Nat) (p0 : Int32) : Option ((Int32 × XH) ⊕ (Nat × XM)) :=
  (F_X5_requireKey N h.1 p0).bind fun z1 =>
  x_se z1 (fun w2 =>
    (x_getr h.1 5 this 1).bind fun v4 =>
    (x_getr h.1 5 this 0).bind fun v5 =>
    Option.bind v5 fun a6 =>
    Option.bind v4 fun a7 =>
    (x_cv h.1 3 a7 (F_X3_copyFrom N h.1 a7 a6)).bind fun z8 =>
    (x_getr z8 5 this 0).bind fun v9 =>
    Option.bind v9 fun a10 =>
    (x_cv z8 3 a10 (F_X3_tell N z8 a10 p0 (-1))).bind fun z11 =>
    (x_cv z11.2 5 this (F_X5_saveUnlessRefused N (z11.2, h.2) this z11.1)).bind fun z12 =>
    x_se z12 (fun w13 =>
      some (.inl (w13.1, (w13.2.1, w13.2.2))))
      (fun e14 => some (.inr (e14.1, e14.2))))
    (fun e3 => some (.inr (e3, h.1)))
set_option maxRecDepth 20000 in
set_option maxHeartbeats 4000000 in
theorem c_X5_drop (N : Nat) (h : XH) (this : Nat) (p0 : Int32) (r : ((Int32 × XH) ⊕ (Nat × XM))) (hF : F_X5_drop N h this p0 = some r) : x_Ct mX5_drop 7 135 33 1909 [.ref this, .int p0] h (xr_iat r) := by
  unfold F_X5_drop at hF
  refine x_ct (by decide) rfl (Nat.le_of_ble_eq_true rfl) ?_
  show X mX5_drop 7 135 _ _ 33 1909 0 [(0, .ref this), (1, .int p0)] [] h
  refine x_iload_n 1 dX5_drop_0 rfl rfl ?_
  obtain ⟨z1, hzz1, hF⟩ := x_bind hF
  rcases z1 with w2 | e3
  · have hF := x_sel hF
    refine x_calls (As := [.int p0]) (rest := []) 32 1903 dX5_drop_1 mi_X5_requireKey rfl ml_X5_44 rfl rfl (Nat.le_of_ble_eq_true rfl) ⟨by decide, by decide⟩ (by omega) (by omega) (c_X5_requireKey N _ _ _ _ hzz1) (x_K.none ?_) x_KX.none
    refine x_aload_n 0 dX5_drop_4 rfl rfl ?_
    refine x_getr_r dX5_drop_5 fl_X5_16 hF (fun v4 hF => ?_)
    refine x_aload_n 0 dX5_drop_8 rfl rfl ?_
    refine x_getr_r dX5_drop_9 fl_X5_12 hF (fun v5 hF => ?_)
    refine x_nn hF (fun a6 ha6 hF => ?_)
    rw [ha6]
    refine x_nn hF (fun a7 ha7 hF => ?_)
    rw [ha7]
    obtain ⟨z8, hzz8, hF⟩ := x_bind hF
    obtain ⟨⟨fsz8, hbz8⟩, hzz8⟩ := x_cv_sp hzz8
    refine x_callv (As := [.ref a6]) (rest := []) 32 1903 dX5_drop_12 mi_X3_copyFrom ml_X5_51 rfl rfl (Nat.le_of_ble_eq_true rfl) ⟨by decide, by decide⟩ (by omega) (by omega) hbz8 rfl (c_X3_copyFrom N _ _ _ _ _ hzz8) (x_K.none ?_) x_KX.none
    refine x_aload_n 0 dX5_drop_15 rfl rfl ?_
    refine x_aload_n 0 dX5_drop_16 rfl rfl ?_
    refine x_getr_r dX5_drop_17 fl_X5_12 hF (fun v9 hF => ?_)
    refine x_iload_n 1 dX5_drop_20 rfl rfl ?_
    refine x_iconst (-1) (by decide) dX5_drop_21 ?_
    refine x_nn hF (fun a10 ha10 hF => ?_)
    rw [ha10]
    obtain ⟨z11, hzz11, hF⟩ := x_bind hF
    obtain ⟨⟨fsz11, hbz11⟩, hzz11⟩ := x_cv_sp hzz11
    refine x_callv (As := [.int p0, .int (-1)]) (rest := [.ref this]) 32 1903 dX5_drop_22 mi_X3_tell ml_X5_55 rfl rfl (Nat.le_of_ble_eq_true rfl) ⟨by decide, by decide⟩ (by omega) (by omega) hbz11 rfl (c_X3_tell N _ _ _ _ _ _ hzz11) (x_K.some ?_) x_KX.none
    obtain ⟨z12, hzz12, hF⟩ := x_bind hF
    obtain ⟨⟨fsz12, hbz12⟩, hzz12⟩ := x_cv_sp hzz12
    rcases z12 with w13 | e14
    · have hF := x_sel hF
      refine x_callv (As := [.int z11.1]) (rest := []) 0 0 dX5_drop_25 mi_X5_saveUnlessRefused ml_X5_59 rfl rfl (Nat.le_of_ble_eq_true rfl) ⟨by decide, by decide⟩ (by omega) (by omega) hbz12 rfl (c_X5_saveUnlessRefused N _ _ _ _ hzz12) (x_K.some ?_) x_KX.none
      exact x_iret dX5_drop_28 rfl (by cases hF; rfl)
    · have hF := x_ser hF
      exact x_callv (As := [.int z11.1]) (rest := []) 0 0 dX5_drop_25 mi_X5_saveUnlessRefused ml_X5_59 rfl rfl (Nat.le_of_ble_eq_true rfl) ⟨by decide, by decide⟩ (by omega) (by omega) hbz12 rfl (c_X5_saveUnlessRefused N _ _ _ _ hzz12) x_K.inr (x_KX.out rfl (fun E hm hq => by cases hq; cases hF; rfl))
  · have hF := x_ser hF
    exact x_calls (As := [.int p0]) (rest := []) 32 1903 dX5_drop_1 mi_X5_requireKey rfl ml_X5_44 rfl rfl (Nat.le_of_ble_eq_true rfl) ⟨by decide, by decide⟩ (by omega) (by omega) (c_X5_requireKey N _ _ _ _ hzz1) x_K.inr (x_KX.out rfl (fun E hm hq => by cases hq; cases hF; rfl))
def F_X5_requireLeaf (N : Nat) (f : XM) (this : Nat) (p0 : Int32) : Option ((Unit) ⊕ (Nat)) :=
  if p0 < 0 then
    some (.inr 2)
  else
    (x_getr f 5 this 0).bind fun v1 =>
    Option.bind v1 fun a2 =>
    (x_getr f 3 a2 3).bind fun v3 =>
    Option.bind v3 fun a4 =>
    (x_geti f 4 a4 3).bind fun v5 =>
    if p0 < v5 then
      some (.inl ())
    else
      some (.inr 2)
set_option maxRecDepth 20000 in
set_option maxHeartbeats 4000000 in
theorem c_X5_requireLeaf (N : Nat) (f : XM) (this : Nat) (p0 : Int32) (n : Nat) (r : ((Unit) ⊕ (Nat))) (hF : F_X5_requireLeaf N f this p0 = some r) : x_Ct mX5_requireLeaf 6 90 1 6 [.ref this, .int p0] (f, n) (xr_vpt r (f, n)) := by
  unfold F_X5_requireLeaf at hF
  refine x_ct (by decide) rfl (Nat.le_of_ble_eq_true rfl) ?_
  show X mX5_requireLeaf 6 90 _ _ 1 6 0 [(0, .ref this), (1, .int p0)] [] (f, n)
  refine x_iload_n 1 dX5_requireLeaf_0 rfl rfl ?_
  refine x_if_lt 18 dX5_requireLeaf_1 (by decide) hF (fun hF => ?_) (fun hF => ?_)
  · exact x_throwSW dX5_requireLeaf_18 dX5_requireLeaf_21 dX5_requireLeaf_22 dX5_requireLeaf_25 dX5_requireLeaf_28 rfl tl_IOE sr_X5_334 (by decide) (by decide) (by omega) (by omega) (Nat.le_of_ble_eq_true rfl) (by cases hF; rfl)
  · refine x_iload_n 1 dX5_requireLeaf_4 rfl rfl ?_
    refine x_aload_n 0 dX5_requireLeaf_5 rfl rfl ?_
    refine x_getr_r dX5_requireLeaf_6 fl_X5_12 hF (fun v1 hF => ?_)
    refine x_nn hF (fun a2 ha2 hF => ?_)
    rw [ha2]
    refine x_getr_r dX5_requireLeaf_9 fl_X5_219 hF (fun v3 hF => ?_)
    refine x_nn hF (fun a4 ha4 hF => ?_)
    rw [ha4]
    refine x_geti_r dX5_requireLeaf_12 fl_X5_229 hF (fun v5 hF => ?_)
    refine x_icmp_lt 29 dX5_requireLeaf_15 (by decide) hF (fun hF => ?_) (fun hF => ?_)
    · exact x_vret dX5_requireLeaf_29 rfl (by cases hF; rfl)
    · exact x_throwSW dX5_requireLeaf_18 dX5_requireLeaf_21 dX5_requireLeaf_22 dX5_requireLeaf_25 dX5_requireLeaf_28 rfl tl_IOE sr_X5_334 (by decide) (by decide) (by omega) (by omega) (Nat.le_of_ble_eq_true rfl) (by cases hF; rfl)
def F_X5_entriesOf (N : Nat) (f : XM) (this : Nat) (p0 : Int32) : Option ((Int32) ⊕ (Nat)) :=
  (x_cv f 5 this (F_X5_requireLeaf N f this p0)).bind fun z1 =>
  x_se z1 (fun w2 =>
    (x_getr f 5 this 0).bind fun v4 =>
    Option.bind v4 fun a5 =>
    (x_getr f 3 a5 3).bind fun v6 =>
    Option.bind v6 fun a7 =>
    (x_cv f 4 a7 (F_X4_ownCount N f a7 p0)).bind fun z8 =>
    some (.inl z8))
    (fun e3 => some (.inr e3))
set_option maxRecDepth 20000 in
set_option maxHeartbeats 4000000 in
theorem c_X5_entriesOf (N : Nat) (f : XM) (this : Nat) (p0 : Int32) (n : Nat) (r : ((Int32) ⊕ (Nat))) (hF : F_X5_entriesOf N f this p0 = some r) : x_Ct mX5_entriesOf 7 111 1 6 [.ref this, .int p0] (f, n) (xr_ipt r (f, n)) := by
  unfold F_X5_entriesOf at hF
  refine x_ct (by decide) rfl (Nat.le_of_ble_eq_true rfl) ?_
  show X mX5_entriesOf 7 111 _ _ 1 6 0 [(0, .ref this), (1, .int p0)] [] (f, n)
  refine x_aload_n 0 dX5_entriesOf_0 rfl rfl ?_
  refine x_iload_n 1 dX5_entriesOf_1 rfl rfl ?_
  obtain ⟨z1, hzz1, hF⟩ := x_bind hF
  obtain ⟨⟨fsz1, hbz1⟩, hzz1⟩ := x_cv_sp hzz1
  rcases z1 with w2 | e3
  · have hF := x_sel hF
    refine x_callv (As := [.int p0]) (rest := []) 0 0 dX5_entriesOf_2 mi_X5_requireLeaf ml_X5_232 rfl rfl (Nat.le_of_ble_eq_true rfl) ⟨by decide, by decide⟩ (by omega) (by omega) hbz1 rfl (c_X5_requireLeaf N _ _ _ _ _ hzz1) (x_K.none ?_) x_KX.none
    refine x_aload_n 0 dX5_entriesOf_5 rfl rfl ?_
    refine x_getr_r dX5_entriesOf_6 fl_X5_12 hF (fun v4 hF => ?_)
    refine x_nn hF (fun a5 ha5 hF => ?_)
    rw [ha5]
    refine x_getr_r dX5_entriesOf_9 fl_X5_219 hF (fun v6 hF => ?_)
    refine x_iload_n 1 dX5_entriesOf_12 rfl rfl ?_
    refine x_nn hF (fun a7 ha7 hF => ?_)
    rw [ha7]
    obtain ⟨z8, hzz8, hF⟩ := x_bind hF
    obtain ⟨⟨fsz8, hbz8⟩, hzz8⟩ := x_cv_sp hzz8
    refine x_callv (As := [.int p0]) (rest := []) 0 0 dX5_entriesOf_13 mi_X4_ownCount ml_X5_235 rfl rfl (Nat.le_of_ble_eq_true rfl) ⟨by decide, by decide⟩ (by omega) (by omega) hbz8 rfl (c_X4_ownCount N _ _ _ _ _ hzz8) (x_K.some ?_) x_KX.none
    exact x_iret dX5_entriesOf_16 rfl (by cases hF; rfl)
  · have hF := x_ser hF
    exact x_callv (As := [.int p0]) (rest := []) 0 0 dX5_entriesOf_2 mi_X5_requireLeaf ml_X5_232 rfl rfl (Nat.le_of_ble_eq_true rfl) ⟨by decide, by decide⟩ (by omega) (by omega) hbz1 rfl (c_X5_requireLeaf N _ _ _ _ _ hzz1) x_K.inr (x_KX.out rfl (fun E hm hq => by cases hq; cases hF; rfl))
def F_X5_erase (N : Nat) (h : XH) (this : Nat) (p0 : Int32) : Option ((Int32 × XH) ⊕ (Nat × XM)) :=
  (F_X5_requireKey N h.1 p0).bind fun z1 =>
  x_se z1 (fun w2 =>
    (x_getr h.1 5 this 1).bind fun v4 =>
    (x_getr h.1 5 this 0).bind fun v5 =>
    Option.bind v5 fun a6 =>
    Option.bind v4 fun a7 =>
    (x_cv h.1 3 a7 (F_X3_copyFrom N h.1 a7 a6)).bind fun z8 =>
    (x_getr z8 5 this 0).bind fun v9 =>
    Option.bind v9 fun a10 =>
    (x_cv z8 3 a10 (F_X3_eraseEntry N z8 a10 p0)).bind fun z11 =>
    (x_cv z11.2 5 this (F_X5_saveUnlessRefused N (z11.2, h.2) this z11.1)).bind fun z12 =>
    x_se z12 (fun w13 =>
      some (.inl (w13.1, (w13.2.1, w13.2.2))))
      (fun e14 => some (.inr (e14.1, e14.2))))
    (fun e3 => some (.inr (e3, h.1)))
set_option maxRecDepth 20000 in
set_option maxHeartbeats 4000000 in
theorem c_X5_erase (N : Nat) (h : XH) (this : Nat) (p0 : Int32) (r : ((Int32 × XH) ⊕ (Nat × XM))) (hF : F_X5_erase N h this p0 = some r) : x_Ct mX5_erase 7 135 33 1909 [.ref this, .int p0] h (xr_iat r) := by
  unfold F_X5_erase at hF
  refine x_ct (by decide) rfl (Nat.le_of_ble_eq_true rfl) ?_
  show X mX5_erase 7 135 _ _ 33 1909 0 [(0, .ref this), (1, .int p0)] [] h
  refine x_iload_n 1 dX5_erase_0 rfl rfl ?_
  obtain ⟨z1, hzz1, hF⟩ := x_bind hF
  rcases z1 with w2 | e3
  · have hF := x_sel hF
    refine x_calls (As := [.int p0]) (rest := []) 32 1903 dX5_erase_1 mi_X5_requireKey rfl ml_X5_44 rfl rfl (Nat.le_of_ble_eq_true rfl) ⟨by decide, by decide⟩ (by omega) (by omega) (c_X5_requireKey N _ _ _ _ hzz1) (x_K.none ?_) x_KX.none
    refine x_aload_n 0 dX5_erase_4 rfl rfl ?_
    refine x_getr_r dX5_erase_5 fl_X5_16 hF (fun v4 hF => ?_)
    refine x_aload_n 0 dX5_erase_8 rfl rfl ?_
    refine x_getr_r dX5_erase_9 fl_X5_12 hF (fun v5 hF => ?_)
    refine x_nn hF (fun a6 ha6 hF => ?_)
    rw [ha6]
    refine x_nn hF (fun a7 ha7 hF => ?_)
    rw [ha7]
    obtain ⟨z8, hzz8, hF⟩ := x_bind hF
    obtain ⟨⟨fsz8, hbz8⟩, hzz8⟩ := x_cv_sp hzz8
    refine x_callv (As := [.ref a6]) (rest := []) 32 1903 dX5_erase_12 mi_X3_copyFrom ml_X5_51 rfl rfl (Nat.le_of_ble_eq_true rfl) ⟨by decide, by decide⟩ (by omega) (by omega) hbz8 rfl (c_X3_copyFrom N _ _ _ _ _ hzz8) (x_K.none ?_) x_KX.none
    refine x_aload_n 0 dX5_erase_15 rfl rfl ?_
    refine x_aload_n 0 dX5_erase_16 rfl rfl ?_
    refine x_getr_r dX5_erase_17 fl_X5_12 hF (fun v9 hF => ?_)
    refine x_iload_n 1 dX5_erase_20 rfl rfl ?_
    refine x_nn hF (fun a10 ha10 hF => ?_)
    rw [ha10]
    obtain ⟨z11, hzz11, hF⟩ := x_bind hF
    obtain ⟨⟨fsz11, hbz11⟩, hzz11⟩ := x_cv_sp hzz11
    refine x_callv (As := [.int p0]) (rest := [.ref this]) 32 1903 dX5_erase_21 mi_X3_eraseEntry ml_X5_81 rfl rfl (Nat.le_of_ble_eq_true rfl) ⟨by decide, by decide⟩ (by omega) (by omega) hbz11 rfl (c_X3_eraseEntry N _ _ _ _ _ hzz11) (x_K.some ?_) x_KX.none
    obtain ⟨z12, hzz12, hF⟩ := x_bind hF
    obtain ⟨⟨fsz12, hbz12⟩, hzz12⟩ := x_cv_sp hzz12
    rcases z12 with w13 | e14
    · have hF := x_sel hF
      refine x_callv (As := [.int z11.1]) (rest := []) 0 0 dX5_erase_24 mi_X5_saveUnlessRefused ml_X5_59 rfl rfl (Nat.le_of_ble_eq_true rfl) ⟨by decide, by decide⟩ (by omega) (by omega) hbz12 rfl (c_X5_saveUnlessRefused N _ _ _ _ hzz12) (x_K.some ?_) x_KX.none
      exact x_iret dX5_erase_27 rfl (by cases hF; rfl)
    · have hF := x_ser hF
      exact x_callv (As := [.int z11.1]) (rest := []) 0 0 dX5_erase_24 mi_X5_saveUnlessRefused ml_X5_59 rfl rfl (Nat.le_of_ble_eq_true rfl) ⟨by decide, by decide⟩ (by omega) (by omega) hbz12 rfl (c_X5_saveUnlessRefused N _ _ _ _ hzz12) x_K.inr (x_KX.out rfl (fun E hm hq => by cases hq; cases hF; rfl))
  · have hF := x_ser hF
    exact x_calls (As := [.int p0]) (rest := []) 32 1903 dX5_erase_1 mi_X5_requireKey rfl ml_X5_44 rfl rfl (Nat.le_of_ble_eq_true rfl) ⟨by decide, by decide⟩ (by omega) (by omega) (c_X5_requireKey N _ _ _ _ hzz1) x_K.inr (x_KX.out rfl (fun E hm hq => by cases hq; cases hF; rfl))
def F_X5_carryOut (N : Nat) (f : XM) (this : Nat) : Option (Bool × XM) :=
  (x_getr f 5 this 7).bind fun v1 =>
  Option.bind v1 fun a2 =>
  (x_geti f 1 a2 1).bind fun v3 =>
  if v3 = 98 then
    (x_getr f 5 this 0).bind fun v4 =>
    (x_getr f 5 this 7).bind fun v5 =>
    Option.bind v5 fun a6 =>
    (x_geti f 1 a6 2).bind fun v7 =>
    (x_getr f 5 this 8).bind fun v8 =>
    Option.bind v8 fun a9 =>
    Option.bind v4 fun a10 =>
    (x_cv f 3 a10 (F_X3_rebuild N f a10 v7 a9)).bind fun z11 =>
    if z11.1 = (-1) then
      some (false, z11.2)
    else
      some (true, z11.2)
  else if v3 = 99 then
    (x_getr f 5 this 0).bind fun v12 =>
    Option.bind v12 fun a13 =>
    (x_cv f 3 a13 (F_X3_closeOpen N f a13)).bind fun z14 =>
    if z14.1 = (-1) then
      some (false, z14.2)
    else
      some (true, z14.2)
  else if v3 = 100 then
    (x_getr f 5 this 0).bind fun v15 =>
    (x_getr f 5 this 7).bind fun v16 =>
    Option.bind v16 fun a17 =>
    (x_geti f 1 a17 2).bind fun v18 =>
    Option.bind v15 fun a19 =>
    (x_cv f 3 a19 (F_X3_tell N f a19 v18 (-1))).bind fun z20 =>
    if z20.1 = (-1) then
      some (false, z20.2)
    else
      some (true, z20.2)
  else if v3 = 101 then
    (x_getr f 5 this 0).bind fun v21 =>
    (x_getr f 5 this 7).bind fun v22 =>
    Option.bind v22 fun a23 =>
    (x_geti f 1 a23 2).bind fun v24 =>
    Option.bind v21 fun a25 =>
    (x_cv f 3 a25 (F_X3_eraseEntry N f a25 v24)).bind fun z26 =>
    if z26.1 = (-1) then
      some (false, z26.2)
    else
      some (true, z26.2)
  else if v3 = 105 then
    (x_getr f 5 this 0).bind fun v27 =>
    (x_getr f 5 this 7).bind fun v28 =>
    Option.bind v28 fun a29 =>
    (x_geti f 1 a29 2).bind fun v30 =>
    (x_getr f 5 this 7).bind fun v31 =>
    Option.bind v31 fun a32 =>
    (x_geti f 1 a32 3).bind fun v33 =>
    Option.bind v27 fun a34 =>
    (x_cv f 3 a34 (F_X3_writeEntry N f a34 v30 v33)).bind fun z35 =>
    if z35.1 = (-1) then
      some (false, z35.2)
    else
      some (true, z35.2)
  else if v3 = 112 then
    (x_getr f 5 this 0).bind fun v36 =>
    (x_getr f 5 this 7).bind fun v37 =>
    Option.bind v37 fun a38 =>
    (x_geti f 1 a38 2).bind fun v39 =>
    (x_getr f 5 this 7).bind fun v40 =>
    Option.bind v40 fun a41 =>
    (x_geti f 1 a41 3).bind fun v42 =>
    Option.bind v36 fun a43 =>
    (x_cv f 3 a43 (F_X3_tell N f a43 v39 v42)).bind fun z44 =>
    if z44.1 = (-1) then
      some (false, z44.2)
    else
      some (true, z44.2)
  else 
  some (false, f)
set_option maxRecDepth 20000 in
set_option maxHeartbeats 4000000 in
theorem c_X5_carryOut (N : Nat) (f : XM) (this : Nat) (n : Nat) (r : (Bool × XM)) (hF : F_X5_carryOut N f this = some r) : x_Ct mX5_carryOut 5 137 0 0 [.ref this] (f, n) (xr_zm r n) := by
  unfold F_X5_carryOut at hF
  refine x_ct (by decide) rfl (Nat.le_of_ble_eq_true rfl) ?_
  show X mX5_carryOut 5 137 _ _ 0 0 0 [(0, .ref this)] [] (f, n)
  refine x_aload_n 0 dX5_carryOut_0 rfl rfl ?_
  refine x_getr_r dX5_carryOut_1 fl_X5_33 hF (fun v1 hF => ?_)
  refine x_nn hF (fun a2 ha2 hF => ?_)
  rw [ha2]
  refine x_geti_r dX5_carryOut_4 fl_X5_368 hF (fun v3 hF => ?_)
  refine x_swc 98 153 dX5_carryOut_7 (by decide) rfl (by decide) hF (fun hF => ?_) (fun e98 hF => ?_)
  · refine x_aload_n 0 dX5_carryOut_153 rfl rfl ?_
    refine x_getr_r dX5_carryOut_154 fl_X5_12 hF (fun v4 hF => ?_)
    refine x_aload_n 0 dX5_carryOut_157 rfl rfl ?_
    refine x_getr_r dX5_carryOut_158 fl_X5_33 hF (fun v5 hF => ?_)
    refine x_nn hF (fun a6 ha6 hF => ?_)
    rw [ha6]
    refine x_geti_r dX5_carryOut_161 fl_X5_371 hF (fun v7 hF => ?_)
    refine x_aload_n 0 dX5_carryOut_164 rfl rfl ?_
    refine x_getr_r dX5_carryOut_165 fl_X5_40 hF (fun v8 hF => ?_)
    refine x_nn hF (fun a9 ha9 hF => ?_)
    rw [ha9]
    refine x_nn hF (fun a10 ha10 hF => ?_)
    rw [ha10]
    obtain ⟨z11, hzz11, hF⟩ := x_bind hF
    obtain ⟨⟨fsz11, hbz11⟩, hzz11⟩ := x_cv_sp hzz11
    refine x_callv (As := [.int v7, .ref a9]) (rest := []) 0 0 dX5_carryOut_168 mi_X3_rebuild ml_X5_74 rfl rfl (Nat.le_of_ble_eq_true rfl) ⟨by decide, by decide⟩ (by omega) (by omega) hbz11 rfl (c_X3_rebuild N _ _ _ _ _ _ hzz11) (x_K.some ?_) x_KX.none
    refine x_iconst (-1) (by decide) dX5_carryOut_171 ?_
    refine x_icmp_eq 179 dX5_carryOut_172 (by decide) hF (fun hF => ?_) (fun hF => ?_)
    · refine x_iconst 0 (by decide) dX5_carryOut_179 ?_
      exact x_zret dX5_carryOut_180 rfl (Or.inl rfl) (by cases hF; rfl)
    · refine x_iconst 1 (by decide) dX5_carryOut_175 ?_
      refine x_goto 180 dX5_carryOut_176 (by decide) ?_
      exact x_zret dX5_carryOut_180 rfl (Or.inr rfl) (by cases hF; rfl)
  refine x_swc 99 136 dX5_carryOut_7 (by decide) rfl (by decide) hF (fun hF => ?_) (fun e99 hF => ?_)
  · refine x_aload_n 0 dX5_carryOut_136 rfl rfl ?_
    refine x_getr_r dX5_carryOut_137 fl_X5_12 hF (fun v12 hF => ?_)
    refine x_nn hF (fun a13 ha13 hF => ?_)
    rw [ha13]
    obtain ⟨z14, hzz14, hF⟩ := x_bind hF
    obtain ⟨⟨fsz14, hbz14⟩, hzz14⟩ := x_cv_sp hzz14
    refine x_callv (As := []) (rest := []) 0 0 dX5_carryOut_140 mi_X3_closeOpen ml_X5_63 rfl rfl (Nat.le_of_ble_eq_true rfl) ⟨by decide, by decide⟩ (by omega) (by omega) hbz14 rfl (c_X3_closeOpen N _ _ _ _ hzz14) (x_K.some ?_) x_KX.none
    refine x_iconst (-1) (by decide) dX5_carryOut_143 ?_
    refine x_icmp_eq 151 dX5_carryOut_144 (by decide) hF (fun hF => ?_) (fun hF => ?_)
    · refine x_iconst 0 (by decide) dX5_carryOut_151 ?_
      exact x_zret dX5_carryOut_152 rfl (Or.inl rfl) (by cases hF; rfl)
    · refine x_iconst 1 (by decide) dX5_carryOut_147 ?_
      refine x_goto 152 dX5_carryOut_148 (by decide) ?_
      exact x_zret dX5_carryOut_152 rfl (Or.inr rfl) (by cases hF; rfl)
  refine x_swc 100 111 dX5_carryOut_7 (by decide) rfl (by decide) hF (fun hF => ?_) (fun e100 hF => ?_)
  · refine x_aload_n 0 dX5_carryOut_111 rfl rfl ?_
    refine x_getr_r dX5_carryOut_112 fl_X5_12 hF (fun v15 hF => ?_)
    refine x_aload_n 0 dX5_carryOut_115 rfl rfl ?_
    refine x_getr_r dX5_carryOut_116 fl_X5_33 hF (fun v16 hF => ?_)
    refine x_nn hF (fun a17 ha17 hF => ?_)
    rw [ha17]
    refine x_geti_r dX5_carryOut_119 fl_X5_371 hF (fun v18 hF => ?_)
    refine x_iconst (-1) (by decide) dX5_carryOut_122 ?_
    refine x_nn hF (fun a19 ha19 hF => ?_)
    rw [ha19]
    obtain ⟨z20, hzz20, hF⟩ := x_bind hF
    obtain ⟨⟨fsz20, hbz20⟩, hzz20⟩ := x_cv_sp hzz20
    refine x_callv (As := [.int v18, .int (-1)]) (rest := []) 0 0 dX5_carryOut_123 mi_X3_tell ml_X5_55 rfl rfl (Nat.le_of_ble_eq_true rfl) ⟨by decide, by decide⟩ (by omega) (by omega) hbz20 rfl (c_X3_tell N _ _ _ _ _ _ hzz20) (x_K.some ?_) x_KX.none
    refine x_iconst (-1) (by decide) dX5_carryOut_126 ?_
    refine x_icmp_eq 134 dX5_carryOut_127 (by decide) hF (fun hF => ?_) (fun hF => ?_)
    · refine x_iconst 0 (by decide) dX5_carryOut_134 ?_
      exact x_zret dX5_carryOut_135 rfl (Or.inl rfl) (by cases hF; rfl)
    · refine x_iconst 1 (by decide) dX5_carryOut_130 ?_
      refine x_goto 135 dX5_carryOut_131 (by decide) ?_
      exact x_zret dX5_carryOut_135 rfl (Or.inr rfl) (by cases hF; rfl)
  refine x_swc 101 212 dX5_carryOut_7 (by decide) rfl (by decide) hF (fun hF => ?_) (fun e101 hF => ?_)
  · refine x_aload_n 0 dX5_carryOut_212 rfl rfl ?_
    refine x_getr_r dX5_carryOut_213 fl_X5_12 hF (fun v21 hF => ?_)
    refine x_aload_n 0 dX5_carryOut_216 rfl rfl ?_
    refine x_getr_r dX5_carryOut_217 fl_X5_33 hF (fun v22 hF => ?_)
    refine x_nn hF (fun a23 ha23 hF => ?_)
    rw [ha23]
    refine x_geti_r dX5_carryOut_220 fl_X5_371 hF (fun v24 hF => ?_)
    refine x_nn hF (fun a25 ha25 hF => ?_)
    rw [ha25]
    obtain ⟨z26, hzz26, hF⟩ := x_bind hF
    obtain ⟨⟨fsz26, hbz26⟩, hzz26⟩ := x_cv_sp hzz26
    refine x_callv (As := [.int v24]) (rest := []) 0 0 dX5_carryOut_223 mi_X3_eraseEntry ml_X5_81 rfl rfl (Nat.le_of_ble_eq_true rfl) ⟨by decide, by decide⟩ (by omega) (by omega) hbz26 rfl (c_X3_eraseEntry N _ _ _ _ _ hzz26) (x_K.some ?_) x_KX.none
    refine x_iconst (-1) (by decide) dX5_carryOut_226 ?_
    refine x_icmp_eq 234 dX5_carryOut_227 (by decide) hF (fun hF => ?_) (fun hF => ?_)
    · refine x_iconst 0 (by decide) dX5_carryOut_234 ?_
      exact x_zret dX5_carryOut_235 rfl (Or.inl rfl) (by cases hF; rfl)
    · refine x_iconst 1 (by decide) dX5_carryOut_230 ?_
      refine x_goto 235 dX5_carryOut_231 (by decide) ?_
      exact x_zret dX5_carryOut_235 rfl (Or.inr rfl) (by cases hF; rfl)
  refine x_swc 105 181 dX5_carryOut_7 (by decide) rfl (by decide) hF (fun hF => ?_) (fun e105 hF => ?_)
  · refine x_aload_n 0 dX5_carryOut_181 rfl rfl ?_
    refine x_getr_r dX5_carryOut_182 fl_X5_12 hF (fun v27 hF => ?_)
    refine x_aload_n 0 dX5_carryOut_185 rfl rfl ?_
    refine x_getr_r dX5_carryOut_186 fl_X5_33 hF (fun v28 hF => ?_)
    refine x_nn hF (fun a29 ha29 hF => ?_)
    rw [ha29]
    refine x_geti_r dX5_carryOut_189 fl_X5_371 hF (fun v30 hF => ?_)
    refine x_aload_n 0 dX5_carryOut_192 rfl rfl ?_
    refine x_getr_r dX5_carryOut_193 fl_X5_33 hF (fun v31 hF => ?_)
    refine x_nn hF (fun a32 ha32 hF => ?_)
    rw [ha32]
    refine x_geti_r dX5_carryOut_196 fl_X5_374 hF (fun v33 hF => ?_)
    refine x_nn hF (fun a34 ha34 hF => ?_)
    rw [ha34]
    obtain ⟨z35, hzz35, hF⟩ := x_bind hF
    obtain ⟨⟨fsz35, hbz35⟩, hzz35⟩ := x_cv_sp hzz35
    refine x_callv (As := [.int v30, .int v33]) (rest := []) 0 0 dX5_carryOut_199 mi_X3_writeEntry ml_X5_78 rfl rfl (Nat.le_of_ble_eq_true rfl) ⟨by decide, by decide⟩ (by omega) (by omega) hbz35 rfl (c_X3_writeEntry N _ _ _ _ _ _ hzz35) (x_K.some ?_) x_KX.none
    refine x_iconst (-1) (by decide) dX5_carryOut_202 ?_
    refine x_icmp_eq 210 dX5_carryOut_203 (by decide) hF (fun hF => ?_) (fun hF => ?_)
    · refine x_iconst 0 (by decide) dX5_carryOut_210 ?_
      exact x_zret dX5_carryOut_211 rfl (Or.inl rfl) (by cases hF; rfl)
    · refine x_iconst 1 (by decide) dX5_carryOut_206 ?_
      refine x_goto 211 dX5_carryOut_207 (by decide) ?_
      exact x_zret dX5_carryOut_211 rfl (Or.inr rfl) (by cases hF; rfl)
  refine x_swc 112 80 dX5_carryOut_7 (by decide) rfl (by decide) hF (fun hF => ?_) (fun e112 hF => ?_)
  · refine x_aload_n 0 dX5_carryOut_80 rfl rfl ?_
    refine x_getr_r dX5_carryOut_81 fl_X5_12 hF (fun v36 hF => ?_)
    refine x_aload_n 0 dX5_carryOut_84 rfl rfl ?_
    refine x_getr_r dX5_carryOut_85 fl_X5_33 hF (fun v37 hF => ?_)
    refine x_nn hF (fun a38 ha38 hF => ?_)
    rw [ha38]
    refine x_geti_r dX5_carryOut_88 fl_X5_371 hF (fun v39 hF => ?_)
    refine x_aload_n 0 dX5_carryOut_91 rfl rfl ?_
    refine x_getr_r dX5_carryOut_92 fl_X5_33 hF (fun v40 hF => ?_)
    refine x_nn hF (fun a41 ha41 hF => ?_)
    rw [ha41]
    refine x_geti_r dX5_carryOut_95 fl_X5_374 hF (fun v42 hF => ?_)
    refine x_nn hF (fun a43 ha43 hF => ?_)
    rw [ha43]
    obtain ⟨z44, hzz44, hF⟩ := x_bind hF
    obtain ⟨⟨fsz44, hbz44⟩, hzz44⟩ := x_cv_sp hzz44
    refine x_callv (As := [.int v39, .int v42]) (rest := []) 0 0 dX5_carryOut_98 mi_X3_tell ml_X5_55 rfl rfl (Nat.le_of_ble_eq_true rfl) ⟨by decide, by decide⟩ (by omega) (by omega) hbz44 rfl (c_X3_tell N _ _ _ _ _ _ hzz44) (x_K.some ?_) x_KX.none
    refine x_iconst (-1) (by decide) dX5_carryOut_101 ?_
    refine x_icmp_eq 109 dX5_carryOut_102 (by decide) hF (fun hF => ?_) (fun hF => ?_)
    · refine x_iconst 0 (by decide) dX5_carryOut_109 ?_
      exact x_zret dX5_carryOut_110 rfl (Or.inl rfl) (by cases hF; rfl)
    · refine x_iconst 1 (by decide) dX5_carryOut_105 ?_
      refine x_goto 110 dX5_carryOut_106 (by decide) ?_
      exact x_zret dX5_carryOut_110 rfl (Or.inr rfl) (by cases hF; rfl)
  refine x_swd 236 dX5_carryOut_7 (by decide) ?_ ?_
  · intro i hi
    match i, hi with
    | 0, _ => exact Or.inr (fun h9 => e98 (x_toInt h9))
    | 1, _ => exact Or.inr (fun h9 => e99 (x_toInt h9))
    | 2, _ => exact Or.inr (fun h9 => e100 (x_toInt h9))
    | 3, _ => exact Or.inr (fun h9 => e101 (x_toInt h9))
    | 4, _ => exact Or.inl rfl
    | 5, _ => exact Or.inl rfl
    | 6, _ => exact Or.inl rfl
    | 7, _ => exact Or.inr (fun h9 => e105 (x_toInt h9))
    | 8, _ => exact Or.inl rfl
    | 9, _ => exact Or.inl rfl
    | 10, _ => exact Or.inl rfl
    | 11, _ => exact Or.inl rfl
    | 12, _ => exact Or.inl rfl
    | 13, _ => exact Or.inl rfl
    | 14, _ => exact Or.inr (fun h9 => e112 (x_toInt h9))
    | i + 15, hi => exact absurd hi (by show ¬ i + 15 < 15; omega)
  refine ⟨by decide, ?_⟩
  refine x_iconst 0 (by decide) dX5_carryOut_236 ?_
  exact x_zret dX5_carryOut_237 rfl (Or.inl rfl) (by cases hF; rfl)
def F_X5_carryOutAll_L9 (N : Nat) (c0 : Nat) (K : Int32 → XM → Option (Bool × XM)) : Nat → Int32 → XM → Option (Bool × XM)
  | 0, _, _ => none
  | k + 1, x1, f =>
    (x_geti f 5 c0 6).bind fun v5 =>
    if v5 ≤ x1 then
      K x1 f
    else
      (x_getr f 5 c0 5).bind fun v6 =>
      Option.bind v6 fun a7 =>
      (x_alen f a7).bind fun v8 =>
      if v8 ≤ x1 then
        K x1 f
      else
        (x_getr f 5 c0 5).bind fun v9 =>
        Option.bind v9 fun a10 =>
        (x_ald f a10 x1).bind fun v11 =>
        if v11 = 59 then
          (x_cv f 5 c0 (F_X5_carryOut N f c0)).bind fun z18 =>
          if (x_b z18.1) = 0 then
            some (false, z18.2)
          else
            (x_getr z18.2 5 c0 7).bind fun v19 =>
            (x_getr z18.2 5 c0 5).bind fun v20 =>
            Option.bind v20 fun a21 =>
            (x_ald z18.2 a21 x1).bind fun v22 =>
            Option.bind v19 fun a23 =>
            (x_cv z18.2 1 a23 (F_X1_accepts N z18.2 a23 v22)).bind fun z24 =>
            F_X5_carryOutAll_L9 N c0 K k (x1 + 1) z24.2
        else
          (x_getr f 5 c0 7).bind fun v12 =>
          (x_getr f 5 c0 5).bind fun v13 =>
          Option.bind v13 fun a14 =>
          (x_ald f a14 x1).bind fun v15 =>
          Option.bind v12 fun a16 =>
          (x_cv f 1 a16 (F_X1_accepts N f a16 v15)).bind fun z17 =>
          F_X5_carryOutAll_L9 N c0 K k (x1 + 1) z17.2
def F_X5_carryOutAll (N : Nat) (f : XM) (this : Nat) : Option (Bool × XM) :=
  (x_getr f 5 this 7).bind fun v1 =>
  Option.bind v1 fun a2 =>
  (x_cv f 1 a2 (F_X1_begin N f a2)).bind fun z3 =>
  F_X5_carryOutAll_L9 N this (fun y1_25 g25 =>
  (x_cv g25 5 this (F_X5_carryOut N g25 this)).bind fun z26 =>
  some (z26.1, z26.2)) N 0 z3
set_option maxRecDepth 20000 in
set_option maxHeartbeats 4000000 in
theorem w_X5_carryOutAll_L9 (N : Nat) (c0 : Nat) (K : Int32 → XM → Option (Bool × XM)) (n : Nat) (r : (Bool × XM)) {rc rs : Nat} : ∀ (k : Nat) (x1 : Int32) (f : XM), F_X5_carryOutAll_L9 N c0 K k x1 f = some r → (∀ (x1 : Int32) (f : XM), K x1 f = some r → X mX5_carryOutAll 6 157 (x_end (xr_zm r n)) x_noRO rc rs 66 [(0, .ref c0), (1, .int x1)] [] (f, n)) → X mX5_carryOutAll 6 157 (x_end (xr_zm r n)) x_noRO rc rs 9 [(0, .ref c0), (1, .int x1)] [] (f, n) := by
  intro k
  induction k with
  | zero =>
    intro x1 f hF
    exact absurd hF (by intro h9; cases h9)
  | succ k ih =>
    intro x1 f hF hK
    have ih := fun x1 f hF => ih x1 f hF hK
    rw [F_X5_carryOutAll_L9] at hF
    refine x_iload_n 1 dX5_carryOutAll_9 rfl rfl ?_
    refine x_aload_n 0 dX5_carryOutAll_10 rfl rfl ?_
    refine x_geti_r dX5_carryOutAll_11 fl_X5_105 hF (fun v5 hF => ?_)
    refine x_icmp_ge 66 dX5_carryOutAll_14 (by decide) hF (fun hF => ?_) (fun hF => ?_)
    · refine x_sub [0, 1] rfl ?_
      exact hK _ _ hF
    · refine x_iload_n 1 dX5_carryOutAll_17 rfl rfl ?_
      refine x_aload_n 0 dX5_carryOutAll_18 rfl rfl ?_
      refine x_getr_r dX5_carryOutAll_19 fl_X5_26 hF (fun v6 hF => ?_)
      refine x_nn hF (fun a7 ha7 hF => ?_)
      rw [ha7]
      refine x_alen_r dX5_carryOutAll_22 hF (fun v8 hF => ?_)
      refine x_icmp_ge 66 dX5_carryOutAll_23 (by decide) hF (fun hF => ?_) (fun hF => ?_)
      · refine x_sub [0, 1] rfl ?_
        exact hK _ _ hF
      · refine x_aload_n 0 dX5_carryOutAll_26 rfl rfl ?_
        refine x_getr_r dX5_carryOutAll_27 fl_X5_26 hF (fun v9 hF => ?_)
        refine x_iload_n 1 dX5_carryOutAll_30 rfl rfl ?_
        refine x_nn hF (fun a10 ha10 hF => ?_)
        rw [ha10]
        refine x_ald_r dX5_carryOutAll_31 hF (fun v11 hF => ?_)
        refine x_bipush 59 (by decide) dX5_carryOutAll_32 ?_
        refine x_icmp_ne 46 dX5_carryOutAll_34 (by decide) hF (fun hF => ?_) (fun hF => ?_)
        · refine x_aload_n 0 dX5_carryOutAll_46 rfl rfl ?_
          refine x_getr_r dX5_carryOutAll_47 fl_X5_33 hF (fun v12 hF => ?_)
          refine x_aload_n 0 dX5_carryOutAll_50 rfl rfl ?_
          refine x_getr_r dX5_carryOutAll_51 fl_X5_26 hF (fun v13 hF => ?_)
          refine x_iload_n 1 dX5_carryOutAll_54 rfl rfl ?_
          refine x_nn hF (fun a14 ha14 hF => ?_)
          rw [ha14]
          refine x_ald_r dX5_carryOutAll_55 hF (fun v15 hF => ?_)
          refine x_nn hF (fun a16 ha16 hF => ?_)
          rw [ha16]
          obtain ⟨z17, hzz17, hF⟩ := x_bind hF
          obtain ⟨⟨fsz17, hbz17⟩, hzz17⟩ := x_cv_sp hzz17
          refine x_callv (As := [.int v15]) (rest := []) (rc + 0) (rs + 0) dX5_carryOutAll_56 mi_X1_accepts ml_X5_365 rfl rfl (Nat.le_of_ble_eq_true rfl) ⟨by decide, by decide⟩ (by omega) (by omega) hbz17 rfl (c_X1_accepts N _ _ _ _ _ hzz17) (x_K.some ?_) x_KX.none
          refine x_popi dX5_carryOutAll_59 ?_
          refine x_iinc (x1 + 1) (lv' := [(1, .int (x1 + 1)), (0, .ref c0)]) dX5_carryOutAll_60 1 rfl (by rfl) (by decide) rfl ?_
          refine x_goto 9 dX5_carryOutAll_63 (by decide) ?_
          refine x_sub [1, 0] rfl ?_
          exact ih _ _ hF
        · refine x_aload_n 0 dX5_carryOutAll_37 rfl rfl ?_
          obtain ⟨z18, hzz18, hF⟩ := x_bind hF
          obtain ⟨⟨fsz18, hbz18⟩, hzz18⟩ := x_cv_sp hzz18
          refine x_callv (As := []) (rest := []) (rc + 0) (rs + 0) dX5_carryOutAll_38 mi_X5_carryOut ml_X5_362 rfl rfl (Nat.le_of_ble_eq_true rfl) ⟨by decide, by decide⟩ (by omega) (by omega) hbz18 rfl (c_X5_carryOut N _ _ _ _ hzz18) (x_K.some ?_) x_KX.none
          refine x_if_ne 46 dX5_carryOutAll_41 (by decide) hF (fun hF => ?_) (fun hF => ?_)
          · refine x_aload_n 0 dX5_carryOutAll_46 rfl rfl ?_
            refine x_getr_r dX5_carryOutAll_47 fl_X5_33 hF (fun v19 hF => ?_)
            refine x_aload_n 0 dX5_carryOutAll_50 rfl rfl ?_
            refine x_getr_r dX5_carryOutAll_51 fl_X5_26 hF (fun v20 hF => ?_)
            refine x_iload_n 1 dX5_carryOutAll_54 rfl rfl ?_
            refine x_nn hF (fun a21 ha21 hF => ?_)
            rw [ha21]
            refine x_ald_r dX5_carryOutAll_55 hF (fun v22 hF => ?_)
            refine x_nn hF (fun a23 ha23 hF => ?_)
            rw [ha23]
            obtain ⟨z24, hzz24, hF⟩ := x_bind hF
            obtain ⟨⟨fsz24, hbz24⟩, hzz24⟩ := x_cv_sp hzz24
            refine x_callv (As := [.int v22]) (rest := []) (rc + 0) (rs + 0) dX5_carryOutAll_56 mi_X1_accepts ml_X5_365 rfl rfl (Nat.le_of_ble_eq_true rfl) ⟨by decide, by decide⟩ (by omega) (by omega) hbz24 rfl (c_X1_accepts N _ _ _ _ _ hzz24) (x_K.some ?_) x_KX.none
            refine x_popi dX5_carryOutAll_59 ?_
            refine x_iinc (x1 + 1) (lv' := [(1, .int (x1 + 1)), (0, .ref c0)]) dX5_carryOutAll_60 1 rfl (by rfl) (by decide) rfl ?_
            refine x_goto 9 dX5_carryOutAll_63 (by decide) ?_
            refine x_sub [1, 0] rfl ?_
            exact ih _ _ hF
          · refine x_iconst 0 (by decide) dX5_carryOutAll_44 ?_
            exact x_zret dX5_carryOutAll_45 rfl (Or.inl rfl) (by cases hF; rfl)
set_option maxRecDepth 20000 in
set_option maxHeartbeats 4000000 in
theorem c_X5_carryOutAll (N : Nat) (f : XM) (this : Nat) (n : Nat) (r : (Bool × XM)) (hF : F_X5_carryOutAll N f this = some r) : x_Ct mX5_carryOutAll 6 157 0 0 [.ref this] (f, n) (xr_zm r n) := by
  unfold F_X5_carryOutAll at hF
  refine x_ct (by decide) rfl (Nat.le_of_ble_eq_true rfl) ?_
  show X mX5_carryOutAll 6 157 _ _ 0 0 0 [(0, .ref this)] [] (f, n)
  refine x_aload_n 0 dX5_carryOutAll_0 rfl rfl ?_
  refine x_getr_r dX5_carryOutAll_1 fl_X5_33 hF (fun v1 hF => ?_)
  refine x_nn hF (fun a2 ha2 hF => ?_)
  rw [ha2]
  obtain ⟨z3, hzz3, hF⟩ := x_bind hF
  obtain ⟨⟨fsz3, hbz3⟩, hzz3⟩ := x_cv_sp hzz3
  refine x_callv (As := []) (rest := []) 0 0 dX5_carryOutAll_4 mi_X1_begin ml_X5_359 rfl rfl (Nat.le_of_ble_eq_true rfl) ⟨by decide, by decide⟩ (by omega) (by omega) hbz3 rfl (c_X1_begin N _ _ _ _ hzz3) (x_K.none ?_) x_KX.none
  refine x_iconst 0 (by decide) dX5_carryOutAll_7 ?_
  refine x_istore_n (i := 1) (lv' := [(1, .int 0), (0, .ref this)]) dX5_carryOutAll_8 rfl (by decide) rfl ?_
  refine x_sub [1, 0] rfl ?_
  refine w_X5_carryOutAll_L9 N _ _ _ r _ _ _ hF (fun y1_25 g25 hF => ?_)
  refine x_aload_n 0 dX5_carryOutAll_66 rfl rfl ?_
  obtain ⟨z26, hzz26, hF⟩ := x_bind hF
  obtain ⟨⟨fsz26, hbz26⟩, hzz26⟩ := x_cv_sp hzz26
  refine x_callv (As := []) (rest := []) 0 0 dX5_carryOutAll_67 mi_X5_carryOut ml_X5_362 rfl rfl (Nat.le_of_ble_eq_true rfl) ⟨by decide, by decide⟩ (by omega) (by omega) hbz26 rfl (c_X5_carryOut N _ _ _ _ hzz26) (x_K.some ?_) x_KX.none
  exact x_zret dX5_carryOutAll_70 rfl (x_b_01 z26.1) (by cases hF; rfl)
def F_X5_follow (N : Nat) (h : XH) (this : Nat) : Option ((Int32 × XH) ⊕ (Nat × XM)) :=
  (x_getr h.1 5 this 7).bind fun v1 =>
  (x_getr h.1 5 this 5).bind fun v2 =>
  (x_geti h.1 5 this 6).bind fun v3 =>
  Option.bind v2 fun a4 =>
  Option.bind v1 fun a5 =>
  (x_cv h.1 1 a5 (F_X1_tellsOrders N h.1 a5 a4 v3)).bind fun z6 =>
  if (x_b z6.1) = 0 then
    some (.inr (0, z6.2))
  else
    (x_getr z6.2 5 this 1).bind fun v7 =>
    (x_getr z6.2 5 this 0).bind fun v8 =>
    Option.bind v8 fun a9 =>
    Option.bind v7 fun a10 =>
    (x_cv z6.2 3 a10 (F_X3_copyFrom N z6.2 a10 a9)).bind fun z11 =>
    (x_cv z11 5 this (F_X5_carryOutAll N z11 this)).bind fun z12 =>
    if (x_b z12.1) = 0 then
      (x_getr z12.2 5 this 0).bind fun v22 =>
      (x_getr z12.2 5 this 1).bind fun v23 =>
      Option.bind v23 fun a24 =>
      Option.bind v22 fun a25 =>
      (x_cv z12.2 3 a25 (F_X3_copyFrom N z12.2 a25 a24)).bind fun z26 =>
      some (.inr (1, z26))
    else
      (x_cv z12.2 5 this (F_X5_saveSpare N (z12.2, h.2) this)).bind fun z13 =>
      (x_puti z13.1 5 this 6 0).bind fun f14 =>
      (x_getr f14 5 this 8).bind fun v15 =>
      (x_getr f14 5 this 0).bind fun v16 =>
      Option.bind v16 fun a17 =>
      Option.bind v15 fun a18 =>
      (x_cv f14 0 a18 (F_X0_gather N f14 a18 a17)).bind fun z19 =>
      Option.bind z19.1 fun a20 =>
      (x_geti z19.2 2 a20 2).bind fun v21 =>
      some (.inl (v21, (z19.2, z13.2)))
set_option maxRecDepth 20000 in
set_option maxHeartbeats 4000000 in
theorem c_X5_follow (N : Nat) (h : XH) (this : Nat) (r : ((Int32 × XH) ⊕ (Nat × XM))) (hF : F_X5_follow N h this = some r) : x_Ct mX5_follow 7 178 32 1903 [.ref this] h (xr_iat r) := by
  unfold F_X5_follow at hF
  refine x_ct (by decide) rfl (Nat.le_of_ble_eq_true rfl) ?_
  show X mX5_follow 7 178 _ _ 32 1903 0 [(0, .ref this)] [] h
  refine x_aload_n 0 dX5_follow_0 rfl rfl ?_
  refine x_getr_r dX5_follow_1 fl_X5_33 hF (fun v1 hF => ?_)
  refine x_aload_n 0 dX5_follow_4 rfl rfl ?_
  refine x_getr_r dX5_follow_5 fl_X5_26 hF (fun v2 hF => ?_)
  refine x_aload_n 0 dX5_follow_8 rfl rfl ?_
  refine x_geti_r dX5_follow_9 fl_X5_105 hF (fun v3 hF => ?_)
  refine x_nn hF (fun a4 ha4 hF => ?_)
  rw [ha4]
  refine x_nn hF (fun a5 ha5 hF => ?_)
  rw [ha5]
  obtain ⟨z6, hzz6, hF⟩ := x_bind hF
  obtain ⟨⟨fsz6, hbz6⟩, hzz6⟩ := x_cv_sp hzz6
  refine x_callv (As := [.ref a4, .int v3]) (rest := []) 32 1903 dX5_follow_12 mi_X1_tellsOrders ml_X5_117 rfl rfl (Nat.le_of_ble_eq_true rfl) ⟨by decide, by decide⟩ (by omega) (by omega) hbz6 rfl (c_X1_tellsOrders N _ _ _ _ _ _ hzz6) (x_K.some ?_) x_KX.none
  refine x_if_ne 28 dX5_follow_15 (by decide) hF (fun hF => ?_) (fun hF => ?_)
  · refine x_aload_n 0 dX5_follow_28 rfl rfl ?_
    refine x_getr_r dX5_follow_29 fl_X5_16 hF (fun v7 hF => ?_)
    refine x_aload_n 0 dX5_follow_32 rfl rfl ?_
    refine x_getr_r dX5_follow_33 fl_X5_12 hF (fun v8 hF => ?_)
    refine x_nn hF (fun a9 ha9 hF => ?_)
    rw [ha9]
    refine x_nn hF (fun a10 ha10 hF => ?_)
    rw [ha10]
    obtain ⟨z11, hzz11, hF⟩ := x_bind hF
    obtain ⟨⟨fsz11, hbz11⟩, hzz11⟩ := x_cv_sp hzz11
    refine x_callv (As := [.ref a9]) (rest := []) 32 1903 dX5_follow_36 mi_X3_copyFrom ml_X5_51 rfl rfl (Nat.le_of_ble_eq_true rfl) ⟨by decide, by decide⟩ (by omega) (by omega) hbz11 rfl (c_X3_copyFrom N _ _ _ _ _ hzz11) (x_K.none ?_) x_KX.none
    refine x_aload_n 0 dX5_follow_39 rfl rfl ?_
    obtain ⟨z12, hzz12, hF⟩ := x_bind hF
    obtain ⟨⟨fsz12, hbz12⟩, hzz12⟩ := x_cv_sp hzz12
    refine x_callv (As := []) (rest := []) 32 1903 dX5_follow_40 mi_X5_carryOutAll ml_X5_123 rfl rfl (Nat.le_of_ble_eq_true rfl) ⟨by decide, by decide⟩ (by omega) (by omega) hbz12 rfl (c_X5_carryOutAll N _ _ _ _ hzz12) (x_K.some ?_) x_KX.none
    refine x_if_ne 67 dX5_follow_43 (by decide) hF (fun hF => ?_) (fun hF => ?_)
    · refine x_aload_n 0 dX5_follow_67 rfl rfl ?_
      obtain ⟨z13, hzz13, hF⟩ := x_bind hF
      obtain ⟨⟨fsz13, hbz13⟩, hzz13⟩ := x_cv_sp hzz13
      refine x_callv (As := []) (rest := []) 0 0 dX5_follow_68 mi_X5_saveSpare ml_X5_95 rfl rfl (Nat.le_of_ble_eq_true rfl) ⟨by decide, by decide⟩ (by omega) (by omega) hbz13 rfl (c_X5_saveSpare N _ _ _ hzz13) (x_K.none ?_) x_KX.none
      refine x_aload_n 0 dX5_follow_71 rfl rfl ?_
      refine x_iconst 0 (by decide) dX5_follow_72 ?_
      refine x_puti_r dX5_follow_73 fl_X5_105 (fun h9 => by cases h9) hF (fun f14 hF => ?_)
      refine x_aload_n 0 dX5_follow_76 rfl rfl ?_
      refine x_getr_r dX5_follow_77 fl_X5_40 hF (fun v15 hF => ?_)
      refine x_aload_n 0 dX5_follow_80 rfl rfl ?_
      refine x_getr_r dX5_follow_81 fl_X5_12 hF (fun v16 hF => ?_)
      refine x_nn hF (fun a17 ha17 hF => ?_)
      rw [ha17]
      refine x_nn hF (fun a18 ha18 hF => ?_)
      rw [ha18]
      obtain ⟨z19, hzz19, hF⟩ := x_bind hF
      obtain ⟨⟨fsz19, hbz19⟩, hzz19⟩ := x_cv_sp hzz19
      refine x_callv (As := [.ref a17]) (rest := []) 0 0 dX5_follow_84 mi_X0_gather ml_X5_129 rfl rfl (Nat.le_of_ble_eq_true rfl) ⟨by decide, by decide⟩ (by omega) (by omega) hbz19 rfl (c_X0_gather N _ _ _ _ _ hzz19) (x_K.some ?_) x_KX.none
      refine x_nn hF (fun a20 ha20 hF => ?_)
      rw [ha20]
      refine x_geti_r dX5_follow_87 fl_X5_133 hF (fun v21 hF => ?_)
      exact x_iret dX5_follow_90 rfl (by cases hF; rfl)
    · refine x_aload_n 0 dX5_follow_46 rfl rfl ?_
      refine x_getr_r dX5_follow_47 fl_X5_12 hF (fun v22 hF => ?_)
      refine x_aload_n 0 dX5_follow_50 rfl rfl ?_
      refine x_getr_r dX5_follow_51 fl_X5_16 hF (fun v23 hF => ?_)
      refine x_nn hF (fun a24 ha24 hF => ?_)
      rw [ha24]
      refine x_nn hF (fun a25 ha25 hF => ?_)
      rw [ha25]
      obtain ⟨z26, hzz26, hF⟩ := x_bind hF
      obtain ⟨⟨fsz26, hbz26⟩, hzz26⟩ := x_cv_sp hzz26
      refine x_callv (As := [.ref a24]) (rest := []) 32 1903 dX5_follow_54 mi_X3_copyFrom ml_X5_51 rfl rfl (Nat.le_of_ble_eq_true rfl) ⟨by decide, by decide⟩ (by omega) (by omega) hbz26 rfl (c_X3_copyFrom N _ _ _ _ _ hzz26) (x_K.none ?_) x_KX.none
      exact x_throwS dX5_follow_57 dX5_follow_60 dX5_follow_61 dX5_follow_63 dX5_follow_66 rfl tl_ISE sr_X5_127 (by decide) (by decide) (by omega) (by omega) (Nat.le_of_ble_eq_true rfl) (by cases hF; rfl)
  · exact x_throwS dX5_follow_18 dX5_follow_21 dX5_follow_22 dX5_follow_24 dX5_follow_27 rfl tl_IAE sr_X5_121 (by decide) (by decide) (by omega) (by omega) (Nat.le_of_ble_eq_true rfl) (by cases hF; rfl)
def F_X5_requireSlot (N : Nat) (f : XM) (p0 : Int32) : Option ((Unit) ⊕ (Nat)) :=
  if p0 < 0 then
    some (.inr 0)
  else
    if p0 < 2 then
      some (.inl ())
    else
      some (.inr 0)
set_option maxRecDepth 20000 in
set_option maxHeartbeats 4000000 in
theorem c_X5_requireSlot (N : Nat) (f : XM) (p0 : Int32) (n : Nat) (r : ((Unit) ⊕ (Nat))) (hF : F_X5_requireSlot N f p0 = some r) : x_Ct mX5_requireSlot 6 90 1 6 [.int p0] (f, n) (xr_vpt r (f, n)) := by
  unfold F_X5_requireSlot at hF
  refine x_ct (by decide) rfl (Nat.le_of_ble_eq_true rfl) ?_
  show X mX5_requireSlot 6 90 _ _ 1 6 0 [(0, .int p0)] [] (f, n)
  refine x_iload_n 0 dX5_requireSlot_0 rfl rfl ?_
  refine x_if_lt 9 dX5_requireSlot_1 (by decide) hF (fun hF => ?_) (fun hF => ?_)
  · exact x_throwSW dX5_requireSlot_9 dX5_requireSlot_12 dX5_requireSlot_13 dX5_requireSlot_16 dX5_requireSlot_19 rfl tl_IAE sr_X5_332 (by decide) (by decide) (by omega) (by omega) (Nat.le_of_ble_eq_true rfl) (by cases hF; rfl)
  · refine x_iload_n 0 dX5_requireSlot_4 rfl rfl ?_
    refine x_iconst 2 (by decide) dX5_requireSlot_5 ?_
    refine x_icmp_lt 20 dX5_requireSlot_6 (by decide) hF (fun hF => ?_) (fun hF => ?_)
    · exact x_vret dX5_requireSlot_20 rfl (by cases hF; rfl)
    · exact x_throwSW dX5_requireSlot_9 dX5_requireSlot_12 dX5_requireSlot_13 dX5_requireSlot_16 dX5_requireSlot_19 rfl tl_IAE sr_X5_332 (by decide) (by decide) (by omega) (by omega) (Nat.le_of_ble_eq_true rfl) (by cases hF; rfl)
def F_X5_slotAt (N : Nat) (f : XM) (this : Nat) (p0 : Int32) : Option (Option Nat) :=
  if p0 < 0 then
    some none
  else
    (x_getr f 5 this 4).bind fun v1 =>
    Option.bind v1 fun a2 =>
    (x_alen f a2).bind fun v3 =>
    if p0 < v3 then
      (x_getr f 5 this 4).bind fun v4 =>
      Option.bind v4 fun a5 =>
      (x_aldr f 3 a5 p0).bind fun v6 =>
      some v6
    else
      some none
set_option maxRecDepth 20000 in
set_option maxHeartbeats 4000000 in
theorem c_X5_slotAt (N : Nat) (f : XM) (this : Nat) (p0 : Int32) (n : Nat) (r : (Option Nat)) (hF : F_X5_slotAt N f this p0 = some r) : x_Ct mX5_slotAt 0 0 0 0 [.ref this, .int p0] (f, n) (xr_qp r (f, n)) := by
  unfold F_X5_slotAt at hF
  refine x_ct (by decide) rfl (Nat.le_of_ble_eq_true rfl) ?_
  show X mX5_slotAt 0 0 _ _ 0 0 0 [(0, .ref this), (1, .int p0)] [] (f, n)
  refine x_iload_n 1 dX5_slotAt_0 rfl rfl ?_
  refine x_if_lt 13 dX5_slotAt_1 (by decide) hF (fun hF => ?_) (fun hF => ?_)
  · refine x_null dX5_slotAt_13 ?_
    refine x_goto 23 dX5_slotAt_14 (by decide) ?_
    exact x_aret (r := none) dX5_slotAt_23 rfl (by cases hF; rfl)
  · refine x_iload_n 1 dX5_slotAt_4 rfl rfl ?_
    refine x_aload_n 0 dX5_slotAt_5 rfl rfl ?_
    refine x_getr_r dX5_slotAt_6 fl_X5_23 hF (fun v1 hF => ?_)
    refine x_nn hF (fun a2 ha2 hF => ?_)
    rw [ha2]
    refine x_alen_r dX5_slotAt_9 hF (fun v3 hF => ?_)
    refine x_icmp_lt 17 dX5_slotAt_10 (by decide) hF (fun hF => ?_) (fun hF => ?_)
    · refine x_aload_n 0 dX5_slotAt_17 rfl rfl ?_
      refine x_getr_r dX5_slotAt_18 fl_X5_23 hF (fun v4 hF => ?_)
      refine x_iload_n 1 dX5_slotAt_21 rfl rfl ?_
      refine x_nn hF (fun a5 ha5 hF => ?_)
      rw [ha5]
      refine x_aldr_r 3 dX5_slotAt_22 hF (fun v6 hF => ?_)
      exact x_aret (r := v6) dX5_slotAt_23 rfl (by cases hF; rfl)
    · refine x_null dX5_slotAt_13 ?_
      refine x_goto 23 dX5_slotAt_14 (by decide) ?_
      exact x_aret (r := none) dX5_slotAt_23 rfl (by cases hF; rfl)
def F_X5_goBack (N : Nat) (h : XH) (this : Nat) (p0 : Int32) : Option ((XH) ⊕ (Nat × XM)) :=
  (F_X5_requireSlot N h.1 p0).bind fun z1 =>
  x_se z1 (fun w2 =>
    (x_cv h.1 5 this (F_X5_slotAt N h.1 this p0)).bind fun z4 =>
    Option.elim z4
      (some (.inr (1, h.1)))
      (fun a5 => (x_getr h.1 5 this 1).bind fun v6 =>
      (x_getr h.1 5 this 0).bind fun v7 =>
      Option.bind v7 fun a8 =>
      Option.bind v6 fun a9 =>
      (x_cv h.1 3 a9 (F_X3_copyFrom N h.1 a9 a8)).bind fun z10 =>
      (x_getr z10 5 this 0).bind fun v11 =>
      Option.bind v11 fun a12 =>
      (x_cv z10 3 a12 (F_X3_copyFrom N z10 a12 a5)).bind fun z13 =>
      (x_cv z13 5 this (F_X5_saveSpare N (z13, h.2) this)).bind fun z14 =>
      some (.inl (z14.1, z14.2))))
    (fun e3 => some (.inr (e3, h.1)))
set_option maxRecDepth 20000 in
set_option maxHeartbeats 4000000 in
theorem c_X5_goBack (N : Nat) (h : XH) (this : Nat) (p0 : Int32) (r : ((XH) ⊕ (Nat × XM))) (hF : F_X5_goBack N h this p0 = some r) : x_Ct mX5_goBack 7 135 33 1909 [.ref this, .int p0] h (xr_vat r) := by
  unfold F_X5_goBack at hF
  refine x_ct (by decide) rfl (Nat.le_of_ble_eq_true rfl) ?_
  show X mX5_goBack 7 135 _ _ 33 1909 0 [(0, .ref this), (1, .int p0)] [] h
  refine x_iload_n 1 dX5_goBack_0 rfl rfl ?_
  obtain ⟨z1, hzz1, hF⟩ := x_bind hF
  rcases z1 with w2 | e3
  · have hF := x_sel hF
    refine x_calls (As := [.int p0]) (rest := []) 32 1903 dX5_goBack_1 mi_X5_requireSlot rfl ml_X5_138 rfl rfl (Nat.le_of_ble_eq_true rfl) ⟨by decide, by decide⟩ (by omega) (by omega) (c_X5_requireSlot N _ _ _ _ hzz1) (x_K.none ?_) x_KX.none
    refine x_aload_n 0 dX5_goBack_4 rfl rfl ?_
    refine x_iload_n 1 dX5_goBack_5 rfl rfl ?_
    obtain ⟨z4, hzz4, hF⟩ := x_bind hF
    obtain ⟨⟨fsz4, hbz4⟩, hzz4⟩ := x_cv_sp hzz4
    refine x_callv (As := [.int p0]) (rest := []) 32 1903 dX5_goBack_6 mi_X5_slotAt ml_X5_141 rfl rfl (Nat.le_of_ble_eq_true rfl) ⟨by decide, by decide⟩ (by omega) (by omega) hbz4 rfl (c_X5_slotAt N _ _ _ _ _ hzz4) (x_K.some ?_) x_KX.none
    refine x_astore_nq (i := 2) (lv' := [(2, va_rf z4), (0, .ref this), (1, .int p0)]) dX5_goBack_9 rfl (by decide) rfl ?_
    refine x_aload_nq 0 dX5_goBack_10 rfl rfl ?_
    refine x_ifnonnull 24 dX5_goBack_11 (by decide) hF (fun _ hF => ?_) (fun a5 ha5 hF => ?_)
    · exact x_throwS dX5_goBack_14 dX5_goBack_17 dX5_goBack_18 dX5_goBack_20 dX5_goBack_23 rfl tl_ISE sr_X5_149 (by decide) (by decide) (by omega) (by omega) (Nat.le_of_ble_eq_true rfl) (by cases hF; rfl)
    · (try rw [ha5])
      refine x_aload_n 1 dX5_goBack_24 rfl rfl ?_
      refine x_getr_r dX5_goBack_25 fl_X5_16 hF (fun v6 hF => ?_)
      refine x_aload_n 1 dX5_goBack_28 rfl rfl ?_
      refine x_getr_r dX5_goBack_29 fl_X5_12 hF (fun v7 hF => ?_)
      refine x_nn hF (fun a8 ha8 hF => ?_)
      rw [ha8]
      refine x_nn hF (fun a9 ha9 hF => ?_)
      rw [ha9]
      obtain ⟨z10, hzz10, hF⟩ := x_bind hF
      obtain ⟨⟨fsz10, hbz10⟩, hzz10⟩ := x_cv_sp hzz10
      refine x_callv (As := [.ref a8]) (rest := []) 32 1903 dX5_goBack_32 mi_X3_copyFrom ml_X5_51 rfl rfl (Nat.le_of_ble_eq_true rfl) ⟨by decide, by decide⟩ (by omega) (by omega) hbz10 rfl (c_X3_copyFrom N _ _ _ _ _ hzz10) (x_K.none ?_) x_KX.none
      refine x_aload_n 1 dX5_goBack_35 rfl rfl ?_
      refine x_getr_r dX5_goBack_36 fl_X5_12 hF (fun v11 hF => ?_)
      refine x_aload_n 0 dX5_goBack_39 rfl rfl ?_
      refine x_nn hF (fun a12 ha12 hF => ?_)
      rw [ha12]
      obtain ⟨z13, hzz13, hF⟩ := x_bind hF
      obtain ⟨⟨fsz13, hbz13⟩, hzz13⟩ := x_cv_sp hzz13
      refine x_callv (As := [.ref a5]) (rest := []) 32 1903 dX5_goBack_40 mi_X3_copyFrom ml_X5_51 rfl rfl (Nat.le_of_ble_eq_true rfl) ⟨by decide, by decide⟩ (by omega) (by omega) hbz13 rfl (c_X3_copyFrom N _ _ _ _ _ hzz13) (x_K.none ?_) x_KX.none
      refine x_aload_n 1 dX5_goBack_43 rfl rfl ?_
      obtain ⟨z14, hzz14, hF⟩ := x_bind hF
      obtain ⟨⟨fsz14, hbz14⟩, hzz14⟩ := x_cv_sp hzz14
      refine x_callv (As := []) (rest := []) 0 0 dX5_goBack_44 mi_X5_saveSpare ml_X5_95 rfl rfl (Nat.le_of_ble_eq_true rfl) ⟨by decide, by decide⟩ (by omega) (by omega) hbz14 rfl (c_X5_saveSpare N _ _ _ hzz14) (x_K.none ?_) x_KX.none
      exact x_vret dX5_goBack_47 rfl (by cases hF; rfl)
  · have hF := x_ser hF
    exact x_calls (As := [.int p0]) (rest := []) 32 1903 dX5_goBack_1 mi_X5_requireSlot rfl ml_X5_138 rfl rfl (Nat.le_of_ble_eq_true rfl) ⟨by decide, by decide⟩ (by omega) (by omega) (c_X5_requireSlot N _ _ _ _ hzz1) x_K.inr (x_KX.out rfl (fun E hm hq => by cases hq; cases hF; rfl))
def F_X5_requireValue (N : Nat) (f : XM) (p0 : Int32) : Option ((Unit) ⊕ (Nat)) :=
  if p0 < 0 then
    some (.inr 0)
  else
    if p0 ≤ 99 then
      some (.inl ())
    else
      some (.inr 0)
set_option maxRecDepth 20000 in
set_option maxHeartbeats 4000000 in
theorem c_X5_requireValue (N : Nat) (f : XM) (p0 : Int32) (n : Nat) (r : ((Unit) ⊕ (Nat))) (hF : F_X5_requireValue N f p0 = some r) : x_Ct mX5_requireValue 6 90 1 6 [.int p0] (f, n) (xr_vpt r (f, n)) := by
  unfold F_X5_requireValue at hF
  refine x_ct (by decide) rfl (Nat.le_of_ble_eq_true rfl) ?_
  show X mX5_requireValue 6 90 _ _ 1 6 0 [(0, .int p0)] [] (f, n)
  refine x_iload_n 0 dX5_requireValue_0 rfl rfl ?_
  refine x_if_lt 10 dX5_requireValue_1 (by decide) hF (fun hF => ?_) (fun hF => ?_)
  · exact x_throwSW dX5_requireValue_10 dX5_requireValue_13 dX5_requireValue_14 dX5_requireValue_17 dX5_requireValue_20 rfl tl_IAE sr_X5_326 (by decide) (by decide) (by omega) (by omega) (Nat.le_of_ble_eq_true rfl) (by cases hF; rfl)
  · refine x_iload_n 0 dX5_requireValue_4 rfl rfl ?_
    refine x_bipush 99 (by decide) dX5_requireValue_5 ?_
    refine x_icmp_le 21 dX5_requireValue_7 (by decide) hF (fun hF => ?_) (fun hF => ?_)
    · exact x_vret dX5_requireValue_21 rfl (by cases hF; rfl)
    · exact x_throwSW dX5_requireValue_10 dX5_requireValue_13 dX5_requireValue_14 dX5_requireValue_17 dX5_requireValue_20 rfl tl_IAE sr_X5_326 (by decide) (by decide) (by omega) (by omega) (Nat.le_of_ble_eq_true rfl) (by cases hF; rfl)
def F_X5_insert (N : Nat) (h : XH) (this : Nat) (p0 : Int32) (p1 : Int32) : Option ((Int32 × XH) ⊕ (Nat × XM)) :=
  (F_X5_requireKey N h.1 p0).bind fun z1 =>
  x_se z1 (fun w2 =>
    (F_X5_requireValue N h.1 p1).bind fun z4 =>
    x_se z4 (fun w5 =>
      (x_getr h.1 5 this 1).bind fun v7 =>
      (x_getr h.1 5 this 0).bind fun v8 =>
      Option.bind v8 fun a9 =>
      Option.bind v7 fun a10 =>
      (x_cv h.1 3 a10 (F_X3_copyFrom N h.1 a10 a9)).bind fun z11 =>
      (x_getr z11 5 this 0).bind fun v12 =>
      Option.bind v12 fun a13 =>
      (x_cv z11 3 a13 (F_X3_writeEntry N z11 a13 p0 p1)).bind fun z14 =>
      (x_cv z14.2 5 this (F_X5_saveUnlessRefused N (z14.2, h.2) this z14.1)).bind fun z15 =>
      x_se z15 (fun w16 =>
        some (.inl (w16.1, (w16.2.1, w16.2.2))))
        (fun e17 => some (.inr (e17.1, e17.2))))
      (fun e6 => some (.inr (e6, h.1))))
    (fun e3 => some (.inr (e3, h.1)))
set_option maxRecDepth 20000 in
set_option maxHeartbeats 4000000 in
theorem c_X5_insert (N : Nat) (h : XH) (this : Nat) (p0 : Int32) (p1 : Int32) (r : ((Int32 × XH) ⊕ (Nat × XM))) (hF : F_X5_insert N h this p0 p1 = some r) : x_Ct mX5_insert 7 135 34 1915 [.ref this, .int p0, .int p1] h (xr_iat r) := by
  unfold F_X5_insert at hF
  refine x_ct (by decide) rfl (Nat.le_of_ble_eq_true rfl) ?_
  show X mX5_insert 7 135 _ _ 34 1915 0 [(0, .ref this), (1, .int p0), (2, .int p1)] [] h
  refine x_iload_n 1 dX5_insert_0 rfl rfl ?_
  obtain ⟨z1, hzz1, hF⟩ := x_bind hF
  rcases z1 with w2 | e3
  · have hF := x_sel hF
    refine x_calls (As := [.int p0]) (rest := []) 33 1909 dX5_insert_1 mi_X5_requireKey rfl ml_X5_44 rfl rfl (Nat.le_of_ble_eq_true rfl) ⟨by decide, by decide⟩ (by omega) (by omega) (c_X5_requireKey N _ _ _ _ hzz1) (x_K.none ?_) x_KX.none
    refine x_iload_n 2 dX5_insert_4 rfl rfl ?_
    obtain ⟨z4, hzz4, hF⟩ := x_bind hF
    rcases z4 with w5 | e6
    · have hF := x_sel hF
      refine x_calls (As := [.int p1]) (rest := []) 32 1903 dX5_insert_5 mi_X5_requireValue rfl ml_X5_48 rfl rfl (Nat.le_of_ble_eq_true rfl) ⟨by decide, by decide⟩ (by omega) (by omega) (c_X5_requireValue N _ _ _ _ hzz4) (x_K.none ?_) x_KX.none
      refine x_aload_n 0 dX5_insert_8 rfl rfl ?_
      refine x_getr_r dX5_insert_9 fl_X5_16 hF (fun v7 hF => ?_)
      refine x_aload_n 0 dX5_insert_12 rfl rfl ?_
      refine x_getr_r dX5_insert_13 fl_X5_12 hF (fun v8 hF => ?_)
      refine x_nn hF (fun a9 ha9 hF => ?_)
      rw [ha9]
      refine x_nn hF (fun a10 ha10 hF => ?_)
      rw [ha10]
      obtain ⟨z11, hzz11, hF⟩ := x_bind hF
      obtain ⟨⟨fsz11, hbz11⟩, hzz11⟩ := x_cv_sp hzz11
      refine x_callv (As := [.ref a9]) (rest := []) 32 1903 dX5_insert_16 mi_X3_copyFrom ml_X5_51 rfl rfl (Nat.le_of_ble_eq_true rfl) ⟨by decide, by decide⟩ (by omega) (by omega) hbz11 rfl (c_X3_copyFrom N _ _ _ _ _ hzz11) (x_K.none ?_) x_KX.none
      refine x_aload_n 0 dX5_insert_19 rfl rfl ?_
      refine x_aload_n 0 dX5_insert_20 rfl rfl ?_
      refine x_getr_r dX5_insert_21 fl_X5_12 hF (fun v12 hF => ?_)
      refine x_iload_n 1 dX5_insert_24 rfl rfl ?_
      refine x_iload_n 2 dX5_insert_25 rfl rfl ?_
      refine x_nn hF (fun a13 ha13 hF => ?_)
      rw [ha13]
      obtain ⟨z14, hzz14, hF⟩ := x_bind hF
      obtain ⟨⟨fsz14, hbz14⟩, hzz14⟩ := x_cv_sp hzz14
      refine x_callv (As := [.int p0, .int p1]) (rest := [.ref this]) 32 1903 dX5_insert_26 mi_X3_writeEntry ml_X5_78 rfl rfl (Nat.le_of_ble_eq_true rfl) ⟨by decide, by decide⟩ (by omega) (by omega) hbz14 rfl (c_X3_writeEntry N _ _ _ _ _ _ hzz14) (x_K.some ?_) x_KX.none
      obtain ⟨z15, hzz15, hF⟩ := x_bind hF
      obtain ⟨⟨fsz15, hbz15⟩, hzz15⟩ := x_cv_sp hzz15
      rcases z15 with w16 | e17
      · have hF := x_sel hF
        refine x_callv (As := [.int z14.1]) (rest := []) 0 0 dX5_insert_29 mi_X5_saveUnlessRefused ml_X5_59 rfl rfl (Nat.le_of_ble_eq_true rfl) ⟨by decide, by decide⟩ (by omega) (by omega) hbz15 rfl (c_X5_saveUnlessRefused N _ _ _ _ hzz15) (x_K.some ?_) x_KX.none
        exact x_iret dX5_insert_32 rfl (by cases hF; rfl)
      · have hF := x_ser hF
        exact x_callv (As := [.int z14.1]) (rest := []) 0 0 dX5_insert_29 mi_X5_saveUnlessRefused ml_X5_59 rfl rfl (Nat.le_of_ble_eq_true rfl) ⟨by decide, by decide⟩ (by omega) (by omega) hbz15 rfl (c_X5_saveUnlessRefused N _ _ _ _ hzz15) x_K.inr (x_KX.out rfl (fun E hm hq => by cases hq; cases hF; rfl))
    · have hF := x_ser hF
      exact x_calls (As := [.int p1]) (rest := []) 32 1903 dX5_insert_5 mi_X5_requireValue rfl ml_X5_48 rfl rfl (Nat.le_of_ble_eq_true rfl) ⟨by decide, by decide⟩ (by omega) (by omega) (c_X5_requireValue N _ _ _ _ hzz4) x_K.inr (x_KX.out rfl (fun E hm hq => by cases hq; cases hF; rfl))
  · have hF := x_ser hF
    exact x_calls (As := [.int p0]) (rest := []) 33 1909 dX5_insert_1 mi_X5_requireKey rfl ml_X5_44 rfl rfl (Nat.le_of_ble_eq_true rfl) ⟨by decide, by decide⟩ (by omega) (by omega) (c_X5_requireKey N _ _ _ _ hzz1) x_K.inr (x_KX.out rfl (fun E hm hq => by cases hq; cases hF; rfl))
def F_X5_isFoundByGoing (N : Nat) (f : XM) (this : Nat) (p0 : Int32) : Option ((Bool) ⊕ (Nat)) :=
  (F_X5_requireKey N f p0).bind fun z1 =>
  x_se z1 (fun w2 =>
    (x_getr f 5 this 0).bind fun v4 =>
    Option.bind v4 fun a5 =>
    (x_cv f 3 a5 (F_X3_standsByGoing N f a5 p0)).bind fun z6 =>
    some (.inl z6))
    (fun e3 => some (.inr e3))
set_option maxRecDepth 20000 in
set_option maxHeartbeats 4000000 in
theorem c_X5_isFoundByGoing (N : Nat) (f : XM) (this : Nat) (p0 : Int32) (n : Nat) (r : ((Bool) ⊕ (Nat))) (hF : F_X5_isFoundByGoing N f this p0 = some r) : x_Ct mX5_isFoundByGoing 7 110 1 6 [.ref this, .int p0] (f, n) (xr_zpt r (f, n)) := by
  unfold F_X5_isFoundByGoing at hF
  refine x_ct (by decide) rfl (Nat.le_of_ble_eq_true rfl) ?_
  show X mX5_isFoundByGoing 7 110 _ _ 1 6 0 [(0, .ref this), (1, .int p0)] [] (f, n)
  refine x_iload_n 1 dX5_isFoundByGoing_0 rfl rfl ?_
  obtain ⟨z1, hzz1, hF⟩ := x_bind hF
  rcases z1 with w2 | e3
  · have hF := x_sel hF
    refine x_calls (As := [.int p0]) (rest := []) 0 0 dX5_isFoundByGoing_1 mi_X5_requireKey rfl ml_X5_44 rfl rfl (Nat.le_of_ble_eq_true rfl) ⟨by decide, by decide⟩ (by omega) (by omega) (c_X5_requireKey N _ _ _ _ hzz1) (x_K.none ?_) x_KX.none
    refine x_aload_n 0 dX5_isFoundByGoing_4 rfl rfl ?_
    refine x_getr_r dX5_isFoundByGoing_5 fl_X5_12 hF (fun v4 hF => ?_)
    refine x_iload_n 1 dX5_isFoundByGoing_8 rfl rfl ?_
    refine x_nn hF (fun a5 ha5 hF => ?_)
    rw [ha5]
    obtain ⟨z6, hzz6, hF⟩ := x_bind hF
    obtain ⟨⟨fsz6, hbz6⟩, hzz6⟩ := x_cv_sp hzz6
    refine x_callv (As := [.int p0]) (rest := []) 0 0 dX5_isFoundByGoing_9 mi_X3_standsByGoing ml_X5_163 rfl rfl (Nat.le_of_ble_eq_true rfl) ⟨by decide, by decide⟩ (by omega) (by omega) hbz6 rfl (c_X3_standsByGoing N _ _ _ _ _ hzz6) (x_K.some ?_) x_KX.none
    exact x_zret dX5_isFoundByGoing_12 rfl (x_b_01 z6) (by cases hF; rfl)
  · have hF := x_ser hF
    exact x_calls (As := [.int p0]) (rest := []) 0 0 dX5_isFoundByGoing_1 mi_X5_requireKey rfl ml_X5_44 rfl rfl (Nat.le_of_ble_eq_true rfl) ⟨by decide, by decide⟩ (by omega) (by omega) (c_X5_requireKey N _ _ _ _ hzz1) x_K.inr (x_KX.out rfl (fun E hm hq => by cases hq; cases hF; rfl))
def F_X5_isFoundByTree (N : Nat) (f : XM) (this : Nat) (p0 : Int32) : Option ((Bool) ⊕ (Nat)) :=
  (F_X5_requireKey N f p0).bind fun z1 =>
  x_se z1 (fun w2 =>
    (x_getr f 5 this 0).bind fun v4 =>
    Option.bind v4 fun a5 =>
    (x_cv f 3 a5 (F_X3_standingValue N f a5 p0)).bind fun z6 =>
    if z6 = (-1) then
      some (.inl false)
    else
      some (.inl true))
    (fun e3 => some (.inr e3))
set_option maxRecDepth 20000 in
set_option maxHeartbeats 4000000 in
theorem c_X5_isFoundByTree (N : Nat) (f : XM) (this : Nat) (p0 : Int32) (n : Nat) (r : ((Bool) ⊕ (Nat))) (hF : F_X5_isFoundByTree N f this p0 = some r) : x_Ct mX5_isFoundByTree 7 110 1 6 [.ref this, .int p0] (f, n) (xr_zpt r (f, n)) := by
  unfold F_X5_isFoundByTree at hF
  refine x_ct (by decide) rfl (Nat.le_of_ble_eq_true rfl) ?_
  show X mX5_isFoundByTree 7 110 _ _ 1 6 0 [(0, .ref this), (1, .int p0)] [] (f, n)
  refine x_iload_n 1 dX5_isFoundByTree_0 rfl rfl ?_
  obtain ⟨z1, hzz1, hF⟩ := x_bind hF
  rcases z1 with w2 | e3
  · have hF := x_sel hF
    refine x_calls (As := [.int p0]) (rest := []) 0 0 dX5_isFoundByTree_1 mi_X5_requireKey rfl ml_X5_44 rfl rfl (Nat.le_of_ble_eq_true rfl) ⟨by decide, by decide⟩ (by omega) (by omega) (c_X5_requireKey N _ _ _ _ hzz1) (x_K.none ?_) x_KX.none
    refine x_aload_n 0 dX5_isFoundByTree_4 rfl rfl ?_
    refine x_getr_r dX5_isFoundByTree_5 fl_X5_12 hF (fun v4 hF => ?_)
    refine x_iload_n 1 dX5_isFoundByTree_8 rfl rfl ?_
    refine x_nn hF (fun a5 ha5 hF => ?_)
    rw [ha5]
    obtain ⟨z6, hzz6, hF⟩ := x_bind hF
    obtain ⟨⟨fsz6, hbz6⟩, hzz6⟩ := x_cv_sp hzz6
    refine x_callv (As := [.int p0]) (rest := []) 0 0 dX5_isFoundByTree_9 mi_X3_standingValue ml_X5_160 rfl rfl (Nat.le_of_ble_eq_true rfl) ⟨by decide, by decide⟩ (by omega) (by omega) hbz6 rfl (c_X3_standingValue N _ _ _ _ _ hzz6) (x_K.some ?_) x_KX.none
    refine x_iconst (-1) (by decide) dX5_isFoundByTree_12 ?_
    refine x_icmp_eq 20 dX5_isFoundByTree_13 (by decide) hF (fun hF => ?_) (fun hF => ?_)
    · refine x_iconst 0 (by decide) dX5_isFoundByTree_20 ?_
      exact x_zret dX5_isFoundByTree_21 rfl (Or.inl rfl) (by cases hF; rfl)
    · refine x_iconst 1 (by decide) dX5_isFoundByTree_16 ?_
      refine x_goto 21 dX5_isFoundByTree_17 (by decide) ?_
      exact x_zret dX5_isFoundByTree_21 rfl (Or.inr rfl) (by cases hF; rfl)
  · have hF := x_ser hF
    exact x_calls (As := [.int p0]) (rest := []) 0 0 dX5_isFoundByTree_1 mi_X5_requireKey rfl ml_X5_44 rfl rfl (Nat.le_of_ble_eq_true rfl) ⟨by decide, by decide⟩ (by omega) (by omega) (c_X5_requireKey N _ _ _ _ hzz1) x_K.inr (x_KX.out rfl (fun E hm hq => by cases hq; cases hF; rfl))
def F_X5_isGoneIn (N : Nat) (f : XM) (this : Nat) (p0 : Int32) (p1 : Int32) : Option ((Bool) ⊕ (Nat)) :=
  (x_getr f 5 this 0).bind fun v1 =>
  Option.bind v1 fun a2 =>
  (x_cv f 3 a2 (F_X3_runOn N f a2 p0)).bind fun z3 =>
  Option.elim z3
    (some (.inr 2))
    (fun a4 => (x_cv f 2 a4 (F_X2_has N f a4 p1)).bind fun z5 =>
    if (x_b z5) = 0 then
      some (.inr 2)
    else
      (x_cv f 2 a4 (F_X2_valueOn N f a4 p1)).bind fun z6 =>
      if z6 = (-1) then
        some (.inl true)
      else
        some (.inl false))
set_option maxRecDepth 20000 in
set_option maxHeartbeats 4000000 in
theorem c_X5_isGoneIn (N : Nat) (f : XM) (this : Nat) (p0 : Int32) (p1 : Int32) (n : Nat) (r : ((Bool) ⊕ (Nat))) (hF : F_X5_isGoneIn N f this p0 p1 = some r) : x_Ct mX5_isGoneIn 6 90 1 6 [.ref this, .int p0, .int p1] (f, n) (xr_zpt r (f, n)) := by
  unfold F_X5_isGoneIn at hF
  refine x_ct (by decide) rfl (Nat.le_of_ble_eq_true rfl) ?_
  show X mX5_isGoneIn 6 90 _ _ 1 6 0 [(0, .ref this), (1, .int p0), (2, .int p1)] [] (f, n)
  refine x_aload_n 0 dX5_isGoneIn_0 rfl rfl ?_
  refine x_getr_r dX5_isGoneIn_1 fl_X5_12 hF (fun v1 hF => ?_)
  refine x_iload_n 1 dX5_isGoneIn_4 rfl rfl ?_
  refine x_nn hF (fun a2 ha2 hF => ?_)
  rw [ha2]
  obtain ⟨z3, hzz3, hF⟩ := x_bind hF
  obtain ⟨⟨fsz3, hbz3⟩, hzz3⟩ := x_cv_sp hzz3
  refine x_callv (As := [.int p0]) (rest := []) 1 6 dX5_isGoneIn_5 mi_X3_runOn ml_X5_200 rfl rfl (Nat.le_of_ble_eq_true rfl) ⟨by decide, by decide⟩ (by omega) (by omega) hbz3 rfl (c_X3_runOn N _ _ _ _ _ hzz3) (x_K.some ?_) x_KX.none
  refine x_astore_nq (i := 3) (lv' := [(3, va_rf z3), (0, .ref this), (1, .int p0), (2, .int p1)]) dX5_isGoneIn_8 rfl (by decide) rfl ?_
  refine x_aload_nq 0 dX5_isGoneIn_9 rfl rfl ?_
  refine x_ifnull 21 dX5_isGoneIn_10 (by decide) hF (fun _ hF => ?_) (fun a4 ha4 hF => ?_)
  · exact x_throwS dX5_isGoneIn_21 dX5_isGoneIn_24 dX5_isGoneIn_25 dX5_isGoneIn_27 dX5_isGoneIn_30 rfl tl_IOE sr_X5_209 (by decide) (by decide) (by omega) (by omega) (Nat.le_of_ble_eq_true rfl) (by cases hF; rfl)
  · (try rw [ha4])
    refine x_aload_n 0 dX5_isGoneIn_13 rfl rfl ?_
    refine x_iload_n 3 dX5_isGoneIn_14 rfl rfl ?_
    obtain ⟨z5, hzz5, hF⟩ := x_bind hF
    obtain ⟨⟨fsz5, hbz5⟩, hzz5⟩ := x_cv_sp hzz5
    refine x_callv (As := [.int p1]) (rest := []) 1 6 dX5_isGoneIn_15 mi_X2_has ml_X5_206 rfl rfl (Nat.le_of_ble_eq_true rfl) ⟨by decide, by decide⟩ (by omega) (by omega) hbz5 rfl (c_X2_has N _ _ _ _ _ hzz5) (x_K.some ?_) x_KX.none
    refine x_if_ne 31 dX5_isGoneIn_18 (by decide) hF (fun hF => ?_) (fun hF => ?_)
    · refine x_aload_n 0 dX5_isGoneIn_31 rfl rfl ?_
      refine x_iload_n 3 dX5_isGoneIn_32 rfl rfl ?_
      obtain ⟨z6, hzz6, hF⟩ := x_bind hF
      obtain ⟨⟨fsz6, hbz6⟩, hzz6⟩ := x_cv_sp hzz6
      refine x_callv (As := [.int p1]) (rest := []) 1 6 dX5_isGoneIn_33 mi_X2_valueOn ml_X5_211 rfl rfl (Nat.le_of_ble_eq_true rfl) ⟨by decide, by decide⟩ (by omega) (by omega) hbz6 rfl (c_X2_valueOn N _ _ _ _ _ hzz6) (x_K.some ?_) x_KX.none
      refine x_iconst (-1) (by decide) dX5_isGoneIn_36 ?_
      refine x_icmp_ne 44 dX5_isGoneIn_37 (by decide) hF (fun hF => ?_) (fun hF => ?_)
      · refine x_iconst 0 (by decide) dX5_isGoneIn_44 ?_
        exact x_zret dX5_isGoneIn_45 rfl (Or.inl rfl) (by cases hF; rfl)
      · refine x_iconst 1 (by decide) dX5_isGoneIn_40 ?_
        refine x_goto 45 dX5_isGoneIn_41 (by decide) ?_
        exact x_zret dX5_isGoneIn_45 rfl (Or.inr rfl) (by cases hF; rfl)
    · exact x_throwS dX5_isGoneIn_21 dX5_isGoneIn_24 dX5_isGoneIn_25 dX5_isGoneIn_27 dX5_isGoneIn_30 rfl tl_IOE sr_X5_209 (by decide) (by decide) (by omega) (by omega) (Nat.le_of_ble_eq_true rfl) (by cases hF; rfl)
def F_X5_fillSlot (N : Nat) (f : XM) (this : Nat) (p0 : Int32) (p1 : Nat) : Option XM :=
  if p0 < 0 then
    some f
  else
    (x_getr f 5 this 4).bind fun v1 =>
    Option.bind v1 fun a2 =>
    (x_alen f a2).bind fun v3 =>
    if v3 ≤ p0 then
      some f
    else
      (x_getr f 5 this 4).bind fun v4 =>
      Option.bind v4 fun a5 =>
      (x_astr f 3 a5 p0 (some p1)).bind fun f6 =>
      some f6
set_option maxRecDepth 20000 in
set_option maxHeartbeats 4000000 in
theorem c_X5_fillSlot (N : Nat) (f : XM) (this : Nat) (p0 : Int32) (p1 : Nat) (n : Nat) (r : XM) (hF : F_X5_fillSlot N f this p0 p1 = some r) : x_Ct mX5_fillSlot 0 0 0 0 [.ref this, .int p0, .ref p1] (f, n) (xr_vm r n) := by
  unfold F_X5_fillSlot at hF
  refine x_ct (by decide) rfl (Nat.le_of_ble_eq_true rfl) ?_
  show X mX5_fillSlot 0 0 _ _ 0 0 0 [(0, .ref this), (1, .int p0), (2, .ref p1)] [] (f, n)
  refine x_iload_n 1 dX5_fillSlot_0 rfl rfl ?_
  refine x_if_lt 20 dX5_fillSlot_1 (by decide) hF (fun hF => ?_) (fun hF => ?_)
  · exact x_vret dX5_fillSlot_20 rfl (by cases hF; rfl)
  · refine x_iload_n 1 dX5_fillSlot_4 rfl rfl ?_
    refine x_aload_n 0 dX5_fillSlot_5 rfl rfl ?_
    refine x_getr_r dX5_fillSlot_6 fl_X5_23 hF (fun v1 hF => ?_)
    refine x_nn hF (fun a2 ha2 hF => ?_)
    rw [ha2]
    refine x_alen_r dX5_fillSlot_9 hF (fun v3 hF => ?_)
    refine x_icmp_ge 20 dX5_fillSlot_10 (by decide) hF (fun hF => ?_) (fun hF => ?_)
    · exact x_vret dX5_fillSlot_20 rfl (by cases hF; rfl)
    · refine x_aload_n 0 dX5_fillSlot_13 rfl rfl ?_
      refine x_getr_r dX5_fillSlot_14 fl_X5_23 hF (fun v4 hF => ?_)
      refine x_iload_n 1 dX5_fillSlot_17 rfl rfl ?_
      refine x_aload_n 2 dX5_fillSlot_18 rfl rfl ?_
      refine x_nn hF (fun a5 ha5 hF => ?_)
      rw [ha5]
      refine x_astr_r (r := (some p1)) 3 dX5_fillSlot_19 hF (fun f6 hF => ?_)
      exact x_vret dX5_fillSlot_20 rfl (by cases hF; rfl)
def F_X5_keep (N : Nat) (h : XH) (this : Nat) (p0 : Int32) : Option ((XH) ⊕ (Nat × XM)) :=
  (F_X5_requireSlot N h.1 p0).bind fun z1 =>
  x_se z1 (fun w2 =>
    (x_cv h.1 5 this (F_X5_slotAt N h.1 this p0)).bind fun z4 =>
    Option.elim z4
      ((x_new (h.1, h.2) 3 [.null, .null, .int 0, .null, .int 0, .int 0, .int 0, .int 0]).bind fun z6 =>
      (F_X3_init N (z6.2.1, z6.2.2) z6.1).bind fun z7 =>
      (x_cv z7.1 5 this (F_X5_fillSlot N z7.1 this p0 z6.1)).bind fun z8 =>
      (x_getr z8 5 this 0).bind fun v9 =>
      Option.bind v9 fun a10 =>
      (x_cv z8 3 z6.1 (F_X3_copyFrom N z8 z6.1 a10)).bind fun z11 =>
      some (.inl (z11, z7.2)))
      (fun a5 => (x_getr h.1 5 this 0).bind fun v12 =>
      Option.bind v12 fun a13 =>
      (x_cv h.1 3 a5 (F_X3_copyFrom N h.1 a5 a13)).bind fun z14 =>
      some (.inl (z14, h.2))))
    (fun e3 => some (.inr (e3, h.1)))
set_option maxRecDepth 20000 in
set_option maxHeartbeats 4000000 in
theorem c_X5_keep (N : Nat) (h : XH) (this : Nat) (p0 : Int32) (r : ((XH) ⊕ (Nat × XM))) (hF : F_X5_keep N h this p0 = some r) : x_Ct mX5_keep 7 135 33 1909 [.ref this, .int p0] h (xr_vat r) := by
  unfold F_X5_keep at hF
  refine x_ct (by decide) rfl (Nat.le_of_ble_eq_true rfl) ?_
  show X mX5_keep 7 135 _ _ 33 1909 0 [(0, .ref this), (1, .int p0)] [] h
  refine x_iload_n 1 dX5_keep_0 rfl rfl ?_
  obtain ⟨z1, hzz1, hF⟩ := x_bind hF
  rcases z1 with w2 | e3
  · have hF := x_sel hF
    refine x_calls (As := [.int p0]) (rest := []) 32 1903 dX5_keep_1 mi_X5_requireSlot rfl ml_X5_138 rfl rfl (Nat.le_of_ble_eq_true rfl) ⟨by decide, by decide⟩ (by omega) (by omega) (c_X5_requireSlot N _ _ _ _ hzz1) (x_K.none ?_) x_KX.none
    refine x_aload_n 0 dX5_keep_4 rfl rfl ?_
    refine x_iload_n 1 dX5_keep_5 rfl rfl ?_
    obtain ⟨z4, hzz4, hF⟩ := x_bind hF
    obtain ⟨⟨fsz4, hbz4⟩, hzz4⟩ := x_cv_sp hzz4
    refine x_callv (As := [.int p0]) (rest := []) 32 1903 dX5_keep_6 mi_X5_slotAt ml_X5_141 rfl rfl (Nat.le_of_ble_eq_true rfl) ⟨by decide, by decide⟩ (by omega) (by omega) hbz4 rfl (c_X5_slotAt N _ _ _ _ _ hzz4) (x_K.some ?_) x_KX.none
    refine x_astore_nq (i := 2) (lv' := [(2, va_rf z4), (0, .ref this), (1, .int p0)]) dX5_keep_9 rfl (by decide) rfl ?_
    refine x_aload_nq 0 dX5_keep_10 rfl rfl ?_
    refine x_ifnonnull 28 dX5_keep_11 (by decide) hF (fun _ hF => ?_) (fun a5 ha5 hF => ?_)
    · refine x_new_r 31 1895 dX5_keep_14 cl_X5_9 (by omega) (by omega) hF (fun z6 hF => ?_)
      refine x_dupr dX5_keep_17 ?_
      obtain ⟨z7, hzz7, hF⟩ := x_bind hF
      refine x_calli (As := []) (rest := [.ref z6.1]) 0 0 dX5_keep_18 mi_X3_init ml_X5_11 rfl rfl (Nat.le_of_ble_eq_true rfl) ⟨by decide, by decide⟩ (by omega) (by omega) (c_X3_init N _ _ _ hzz7) ?_
      refine x_toX (st' := [.ref z6.1]) rfl ?_
      refine x_astore_n (i := 2) (lv' := [(2, .ref z6.1), (0, .ref this), (1, .int p0)]) dX5_keep_21 rfl (by decide) rfl ?_
      refine x_aload_n 1 dX5_keep_22 rfl rfl ?_
      refine x_iload_n 2 dX5_keep_23 rfl rfl ?_
      refine x_aload_n 0 dX5_keep_24 rfl rfl ?_
      obtain ⟨z8, hzz8, hF⟩ := x_bind hF
      obtain ⟨⟨fsz8, hbz8⟩, hzz8⟩ := x_cv_sp hzz8
      refine x_callv (As := [.int p0, .ref z6.1]) (rest := []) 0 0 dX5_keep_25 mi_X5_fillSlot ml_X5_145 rfl rfl (Nat.le_of_ble_eq_true rfl) ⟨by decide, by decide⟩ (by omega) (by omega) hbz8 rfl (c_X5_fillSlot N _ _ _ _ _ _ hzz8) (x_K.none ?_) x_KX.none
      refine x_aload_n 0 dX5_keep_28 rfl rfl ?_
      refine x_aload_n 1 dX5_keep_29 rfl rfl ?_
      refine x_getr_r dX5_keep_30 fl_X5_12 hF (fun v9 hF => ?_)
      refine x_nn hF (fun a10 ha10 hF => ?_)
      rw [ha10]
      obtain ⟨z11, hzz11, hF⟩ := x_bind hF
      obtain ⟨⟨fsz11, hbz11⟩, hzz11⟩ := x_cv_sp hzz11
      refine x_callv (As := [.ref a10]) (rest := []) 0 0 dX5_keep_33 mi_X3_copyFrom ml_X5_51 rfl rfl (Nat.le_of_ble_eq_true rfl) ⟨by decide, by decide⟩ (by omega) (by omega) hbz11 rfl (c_X3_copyFrom N _ _ _ _ _ hzz11) (x_K.none ?_) x_KX.none
      exact x_vret dX5_keep_36 rfl (by cases hF; rfl)
    · (try rw [ha5])
      refine x_aload_n 0 dX5_keep_28 rfl rfl ?_
      refine x_aload_n 1 dX5_keep_29 rfl rfl ?_
      refine x_getr_r dX5_keep_30 fl_X5_12 hF (fun v12 hF => ?_)
      refine x_nn hF (fun a13 ha13 hF => ?_)
      rw [ha13]
      obtain ⟨z14, hzz14, hF⟩ := x_bind hF
      obtain ⟨⟨fsz14, hbz14⟩, hzz14⟩ := x_cv_sp hzz14
      refine x_callv (As := [.ref a13]) (rest := []) 32 1903 dX5_keep_33 mi_X3_copyFrom ml_X5_51 rfl rfl (Nat.le_of_ble_eq_true rfl) ⟨by decide, by decide⟩ (by omega) (by omega) hbz14 rfl (c_X3_copyFrom N _ _ _ _ _ hzz14) (x_K.none ?_) x_KX.none
      exact x_vret dX5_keep_36 rfl (by cases hF; rfl)
  · have hF := x_ser hF
    exact x_calls (As := [.int p0]) (rest := []) 32 1903 dX5_keep_1 mi_X5_requireSlot rfl ml_X5_138 rfl rfl (Nat.le_of_ble_eq_true rfl) ⟨by decide, by decide⟩ (by omega) (by omega) (c_X5_requireSlot N _ _ _ _ hzz1) x_K.inr (x_KX.out rfl (fun E hm hq => by cases hq; cases hF; rfl))
def F_X5_keyAt (N : Nat) (f : XM) (this : Nat) (p0 : Int32) : Option ((Int32 × XM) ⊕ (Nat × XM)) :=
  (x_getr f 5 this 8).bind fun v1 =>
  (x_getr f 5 this 0).bind fun v2 =>
  Option.bind v2 fun a3 =>
  Option.bind v1 fun a4 =>
  (x_cv f 0 a4 (F_X0_gather N f a4 a3)).bind fun z5 =>
  Option.bind z5.1 fun a6 =>
  (x_cv z5.2 2 a6 (F_X2_keyOn N z5.2 a6 p0)).bind fun z7 =>
  if z7 = (-1) then
    some (.inr (2, z5.2))
  else
    some (.inl (z7, z5.2))
set_option maxRecDepth 20000 in
set_option maxHeartbeats 4000000 in
theorem c_X5_keyAt (N : Nat) (f : XM) (this : Nat) (p0 : Int32) (n : Nat) (r : ((Int32 × XM) ⊕ (Nat × XM))) (hF : F_X5_keyAt N f this p0 = some r) : x_Ct mX5_keyAt 6 114 1 6 [.ref this, .int p0] (f, n) (xr_imt r n) := by
  unfold F_X5_keyAt at hF
  refine x_ct (by decide) rfl (Nat.le_of_ble_eq_true rfl) ?_
  show X mX5_keyAt 6 114 _ _ 1 6 0 [(0, .ref this), (1, .int p0)] [] (f, n)
  refine x_aload_n 0 dX5_keyAt_0 rfl rfl ?_
  refine x_getr_r dX5_keyAt_1 fl_X5_40 hF (fun v1 hF => ?_)
  refine x_aload_n 0 dX5_keyAt_4 rfl rfl ?_
  refine x_getr_r dX5_keyAt_5 fl_X5_12 hF (fun v2 hF => ?_)
  refine x_nn hF (fun a3 ha3 hF => ?_)
  rw [ha3]
  refine x_nn hF (fun a4 ha4 hF => ?_)
  rw [ha4]
  obtain ⟨z5, hzz5, hF⟩ := x_bind hF
  obtain ⟨⟨fsz5, hbz5⟩, hzz5⟩ := x_cv_sp hzz5
  refine x_callv (As := [.ref a3]) (rest := []) 1 6 dX5_keyAt_8 mi_X0_gather ml_X5_129 rfl rfl (Nat.le_of_ble_eq_true rfl) ⟨by decide, by decide⟩ (by omega) (by omega) hbz5 rfl (c_X0_gather N _ _ _ _ _ hzz5) (x_K.some ?_) x_KX.none
  refine x_iload_n 1 dX5_keyAt_11 rfl rfl ?_
  refine x_nn hF (fun a6 ha6 hF => ?_)
  rw [ha6]
  obtain ⟨z7, hzz7, hF⟩ := x_bind hF
  obtain ⟨⟨fsz7, hbz7⟩, hzz7⟩ := x_cv_sp hzz7
  refine x_callv (As := [.int p0]) (rest := []) 1 6 dX5_keyAt_12 mi_X2_keyOn ml_X5_185 rfl rfl (Nat.le_of_ble_eq_true rfl) ⟨by decide, by decide⟩ (by omega) (by omega) hbz7 rfl (c_X2_keyOn N _ _ _ _ _ hzz7) (x_K.some ?_) x_KX.none
  refine x_istore_n (i := 2) (lv' := [(2, .int z7), (0, .ref this), (1, .int p0)]) dX5_keyAt_15 rfl (by decide) rfl ?_
  refine x_iload_n 0 dX5_keyAt_16 rfl rfl ?_
  refine x_iconst (-1) (by decide) dX5_keyAt_17 ?_
  refine x_icmp_ne 31 dX5_keyAt_18 (by decide) hF (fun hF => ?_) (fun hF => ?_)
  · refine x_iload_n 0 dX5_keyAt_31 rfl rfl ?_
    exact x_iret dX5_keyAt_32 rfl (by cases hF; rfl)
  · exact x_throwS dX5_keyAt_21 dX5_keyAt_24 dX5_keyAt_25 dX5_keyAt_27 dX5_keyAt_30 rfl tl_IOE sr_X5_194 (by decide) (by decide) (by omega) (by omega) (Nat.le_of_ble_eq_true rfl) (by cases hF; rfl)
def F_X5_keyBefore (N : Nat) (f : XM) (this : Nat) (p0 : Int32) : Option ((Int32 × XM) ⊕ (Nat × XM)) :=
  (F_X5_requireKey N f p0).bind fun z1 =>
  x_se z1 (fun w2 =>
    (x_getr f 5 this 8).bind fun v4 =>
    (x_getr f 5 this 0).bind fun v5 =>
    Option.bind v5 fun a6 =>
    Option.bind v4 fun a7 =>
    (x_cv f 0 a7 (F_X0_gather N f a7 a6)).bind fun z8 =>
    Option.bind z8.1 fun a9 =>
    (x_cv z8.2 2 a9 (F_X2_firstFrom N z8.2 a9 p0)).bind fun z10 =>
    (x_cv z8.2 2 a9 (F_X2_keyOn N z8.2 a9 (z10 - 1))).bind fun z11 =>
    if z11 = (-1) then
      some (.inr (1, z8.2))
    else
      some (.inl (z11, z8.2)))
    (fun e3 => some (.inr (e3, f)))
set_option maxRecDepth 20000 in
set_option maxHeartbeats 4000000 in
theorem c_X5_keyBefore (N : Nat) (f : XM) (this : Nat) (p0 : Int32) (n : Nat) (r : ((Int32 × XM) ⊕ (Nat × XM))) (hF : F_X5_keyBefore N f this p0 = some r) : x_Ct mX5_keyBefore 7 114 2 12 [.ref this, .int p0] (f, n) (xr_imt r n) := by
  unfold F_X5_keyBefore at hF
  refine x_ct (by decide) rfl (Nat.le_of_ble_eq_true rfl) ?_
  show X mX5_keyBefore 7 114 _ _ 2 12 0 [(0, .ref this), (1, .int p0)] [] (f, n)
  refine x_iload_n 1 dX5_keyBefore_0 rfl rfl ?_
  obtain ⟨z1, hzz1, hF⟩ := x_bind hF
  rcases z1 with w2 | e3
  · have hF := x_sel hF
    refine x_calls (As := [.int p0]) (rest := []) 1 6 dX5_keyBefore_1 mi_X5_requireKey rfl ml_X5_44 rfl rfl (Nat.le_of_ble_eq_true rfl) ⟨by decide, by decide⟩ (by omega) (by omega) (c_X5_requireKey N _ _ _ _ hzz1) (x_K.none ?_) x_KX.none
    refine x_aload_n 0 dX5_keyBefore_4 rfl rfl ?_
    refine x_getr_r dX5_keyBefore_5 fl_X5_40 hF (fun v4 hF => ?_)
    refine x_aload_n 0 dX5_keyBefore_8 rfl rfl ?_
    refine x_getr_r dX5_keyBefore_9 fl_X5_12 hF (fun v5 hF => ?_)
    refine x_nn hF (fun a6 ha6 hF => ?_)
    rw [ha6]
    refine x_nn hF (fun a7 ha7 hF => ?_)
    rw [ha7]
    obtain ⟨z8, hzz8, hF⟩ := x_bind hF
    obtain ⟨⟨fsz8, hbz8⟩, hzz8⟩ := x_cv_sp hzz8
    refine x_callv (As := [.ref a6]) (rest := []) 1 6 dX5_keyBefore_12 mi_X0_gather ml_X5_129 rfl rfl (Nat.le_of_ble_eq_true rfl) ⟨by decide, by decide⟩ (by omega) (by omega) hbz8 rfl (c_X0_gather N _ _ _ _ _ hzz8) (x_K.some ?_) x_KX.none
    refine x_astore_nq (i := 2) (lv' := [(2, va_rf z8.1), (0, .ref this), (1, .int p0)]) dX5_keyBefore_15 rfl (by decide) rfl ?_
    refine x_aload_nq 0 dX5_keyBefore_16 rfl rfl ?_
    refine x_aload_nq 0 dX5_keyBefore_17 rfl rfl ?_
    refine x_iload_n 2 dX5_keyBefore_18 rfl rfl ?_
    refine x_nn hF (fun a9 ha9 hF => ?_)
    rw [ha9]
    obtain ⟨z10, hzz10, hF⟩ := x_bind hF
    obtain ⟨⟨fsz10, hbz10⟩, hzz10⟩ := x_cv_sp hzz10
    refine x_callv (As := [.int p0]) (rest := [.ref a9]) 1 6 dX5_keyBefore_19 mi_X2_firstFrom ml_X5_182 rfl rfl (Nat.le_of_ble_eq_true rfl) ⟨by decide, by decide⟩ (by omega) (by omega) hbz10 rfl (c_X2_firstFrom N _ _ _ _ _ hzz10) (x_K.some ?_) x_KX.none
    refine x_iconst 1 (by decide) dX5_keyBefore_22 ?_
    refine x_isub dX5_keyBefore_23 ?_
    obtain ⟨z11, hzz11, hF⟩ := x_bind hF
    obtain ⟨⟨fsz11, hbz11⟩, hzz11⟩ := x_cv_sp hzz11
    refine x_callv (As := [.int (z10 - 1)]) (rest := []) 1 6 dX5_keyBefore_24 mi_X2_keyOn ml_X5_185 rfl rfl (Nat.le_of_ble_eq_true rfl) ⟨by decide, by decide⟩ (by omega) (by omega) hbz11 rfl (c_X2_keyOn N _ _ _ _ _ hzz11) (x_K.some ?_) x_KX.none
    refine x_istore_n (i := 3) (lv' := [(3, .int z11), (2, .ref a9), (0, .ref this), (1, .int p0)]) dX5_keyBefore_27 rfl (by decide) rfl ?_
    refine x_iload_n 0 dX5_keyBefore_28 rfl rfl ?_
    refine x_iconst (-1) (by decide) dX5_keyBefore_29 ?_
    refine x_icmp_ne 43 dX5_keyBefore_30 (by decide) hF (fun hF => ?_) (fun hF => ?_)
    · refine x_iload_n 0 dX5_keyBefore_43 rfl rfl ?_
      exact x_iret dX5_keyBefore_44 rfl (by cases hF; rfl)
    · exact x_throwS dX5_keyBefore_33 dX5_keyBefore_36 dX5_keyBefore_37 dX5_keyBefore_39 dX5_keyBefore_42 rfl tl_ISE sr_X5_190 (by decide) (by decide) (by omega) (by omega) (Nat.le_of_ble_eq_true rfl) (by cases hF; rfl)
  · have hF := x_ser hF
    exact x_calls (As := [.int p0]) (rest := []) 1 6 dX5_keyBefore_1 mi_X5_requireKey rfl ml_X5_44 rfl rfl (Nat.le_of_ble_eq_true rfl) ⟨by decide, by decide⟩ (by omega) (by omega) (c_X5_requireKey N _ _ _ _ hzz1) x_K.inr (x_KX.out rfl (fun E hm hq => by cases hq; cases hF; rfl))
def F_X5_keyIn (N : Nat) (f : XM) (this : Nat) (p0 : Int32) (p1 : Int32) : Option ((Int32) ⊕ (Nat)) :=
  (x_getr f 5 this 0).bind fun v1 =>
  Option.bind v1 fun a2 =>
  (x_cv f 3 a2 (F_X3_runOn N f a2 p0)).bind fun z3 =>
  Option.elim z3
    (some (.inr 2))
    (fun a4 => (x_cv f 2 a4 (F_X2_has N f a4 p1)).bind fun z5 =>
    if (x_b z5) = 0 then
      some (.inr 2)
    else
      (x_cv f 2 a4 (F_X2_keyOn N f a4 p1)).bind fun z6 =>
      some (.inl z6))
set_option maxRecDepth 20000 in
set_option maxHeartbeats 4000000 in
theorem c_X5_keyIn (N : Nat) (f : XM) (this : Nat) (p0 : Int32) (p1 : Int32) (n : Nat) (r : ((Int32) ⊕ (Nat))) (hF : F_X5_keyIn N f this p0 p1 = some r) : x_Ct mX5_keyIn 6 90 1 6 [.ref this, .int p0, .int p1] (f, n) (xr_ipt r (f, n)) := by
  unfold F_X5_keyIn at hF
  refine x_ct (by decide) rfl (Nat.le_of_ble_eq_true rfl) ?_
  show X mX5_keyIn 6 90 _ _ 1 6 0 [(0, .ref this), (1, .int p0), (2, .int p1)] [] (f, n)
  refine x_aload_n 0 dX5_keyIn_0 rfl rfl ?_
  refine x_getr_r dX5_keyIn_1 fl_X5_12 hF (fun v1 hF => ?_)
  refine x_iload_n 1 dX5_keyIn_4 rfl rfl ?_
  refine x_nn hF (fun a2 ha2 hF => ?_)
  rw [ha2]
  obtain ⟨z3, hzz3, hF⟩ := x_bind hF
  obtain ⟨⟨fsz3, hbz3⟩, hzz3⟩ := x_cv_sp hzz3
  refine x_callv (As := [.int p0]) (rest := []) 1 6 dX5_keyIn_5 mi_X3_runOn ml_X5_200 rfl rfl (Nat.le_of_ble_eq_true rfl) ⟨by decide, by decide⟩ (by omega) (by omega) hbz3 rfl (c_X3_runOn N _ _ _ _ _ hzz3) (x_K.some ?_) x_KX.none
  refine x_astore_nq (i := 3) (lv' := [(3, va_rf z3), (0, .ref this), (1, .int p0), (2, .int p1)]) dX5_keyIn_8 rfl (by decide) rfl ?_
  refine x_aload_nq 0 dX5_keyIn_9 rfl rfl ?_
  refine x_ifnull 21 dX5_keyIn_10 (by decide) hF (fun _ hF => ?_) (fun a4 ha4 hF => ?_)
  · exact x_throwS dX5_keyIn_21 dX5_keyIn_24 dX5_keyIn_25 dX5_keyIn_27 dX5_keyIn_30 rfl tl_IOE sr_X5_209 (by decide) (by decide) (by omega) (by omega) (Nat.le_of_ble_eq_true rfl) (by cases hF; rfl)
  · (try rw [ha4])
    refine x_aload_n 0 dX5_keyIn_13 rfl rfl ?_
    refine x_iload_n 3 dX5_keyIn_14 rfl rfl ?_
    obtain ⟨z5, hzz5, hF⟩ := x_bind hF
    obtain ⟨⟨fsz5, hbz5⟩, hzz5⟩ := x_cv_sp hzz5
    refine x_callv (As := [.int p1]) (rest := []) 1 6 dX5_keyIn_15 mi_X2_has ml_X5_206 rfl rfl (Nat.le_of_ble_eq_true rfl) ⟨by decide, by decide⟩ (by omega) (by omega) hbz5 rfl (c_X2_has N _ _ _ _ _ hzz5) (x_K.some ?_) x_KX.none
    refine x_if_ne 31 dX5_keyIn_18 (by decide) hF (fun hF => ?_) (fun hF => ?_)
    · refine x_aload_n 0 dX5_keyIn_31 rfl rfl ?_
      refine x_iload_n 3 dX5_keyIn_32 rfl rfl ?_
      obtain ⟨z6, hzz6, hF⟩ := x_bind hF
      obtain ⟨⟨fsz6, hbz6⟩, hzz6⟩ := x_cv_sp hzz6
      refine x_callv (As := [.int p1]) (rest := []) 1 6 dX5_keyIn_33 mi_X2_keyOn ml_X5_185 rfl rfl (Nat.le_of_ble_eq_true rfl) ⟨by decide, by decide⟩ (by omega) (by omega) hbz6 rfl (c_X2_keyOn N _ _ _ _ _ hzz6) (x_K.some ?_) x_KX.none
      exact x_iret dX5_keyIn_36 rfl (by cases hF; rfl)
    · exact x_throwS dX5_keyIn_21 dX5_keyIn_24 dX5_keyIn_25 dX5_keyIn_27 dX5_keyIn_30 rfl tl_IOE sr_X5_209 (by decide) (by decide) (by omega) (by omega) (Nat.le_of_ble_eq_true rfl) (by cases hF; rfl)
def F_X5_leafFor (N : Nat) (f : XM) (this : Nat) (p0 : Int32) : Option ((Int32) ⊕ (Nat)) :=
  (F_X5_requireKey N f p0).bind fun z1 =>
  x_se z1 (fun w2 =>
    (x_getr f 5 this 0).bind fun v4 =>
    Option.bind v4 fun a5 =>
    (x_getr f 3 a5 3).bind fun v6 =>
    Option.bind v6 fun a7 =>
    (x_cv f 4 a7 (F_X4_leafOfKey N f a7 p0)).bind fun z8 =>
    if z8 = (-1) then
      some (.inr 1)
    else
      some (.inl z8))
    (fun e3 => some (.inr e3))
set_option maxRecDepth 20000 in
set_option maxHeartbeats 4000000 in
theorem c_X5_leafFor (N : Nat) (f : XM) (this : Nat) (p0 : Int32) (n : Nat) (r : ((Int32) ⊕ (Nat))) (hF : F_X5_leafFor N f this p0 = some r) : x_Ct mX5_leafFor 7 110 2 12 [.ref this, .int p0] (f, n) (xr_ipt r (f, n)) := by
  unfold F_X5_leafFor at hF
  refine x_ct (by decide) rfl (Nat.le_of_ble_eq_true rfl) ?_
  show X mX5_leafFor 7 110 _ _ 2 12 0 [(0, .ref this), (1, .int p0)] [] (f, n)
  refine x_iload_n 1 dX5_leafFor_0 rfl rfl ?_
  obtain ⟨z1, hzz1, hF⟩ := x_bind hF
  rcases z1 with w2 | e3
  · have hF := x_sel hF
    refine x_calls (As := [.int p0]) (rest := []) 1 6 dX5_leafFor_1 mi_X5_requireKey rfl ml_X5_44 rfl rfl (Nat.le_of_ble_eq_true rfl) ⟨by decide, by decide⟩ (by omega) (by omega) (c_X5_requireKey N _ _ _ _ hzz1) (x_K.none ?_) x_KX.none
    refine x_aload_n 0 dX5_leafFor_4 rfl rfl ?_
    refine x_getr_r dX5_leafFor_5 fl_X5_12 hF (fun v4 hF => ?_)
    refine x_nn hF (fun a5 ha5 hF => ?_)
    rw [ha5]
    refine x_getr_r dX5_leafFor_8 fl_X5_219 hF (fun v6 hF => ?_)
    refine x_iload_n 1 dX5_leafFor_11 rfl rfl ?_
    refine x_nn hF (fun a7 ha7 hF => ?_)
    rw [ha7]
    obtain ⟨z8, hzz8, hF⟩ := x_bind hF
    obtain ⟨⟨fsz8, hbz8⟩, hzz8⟩ := x_cv_sp hzz8
    refine x_callv (As := [.int p0]) (rest := []) 1 6 dX5_leafFor_12 mi_X4_leafOfKey ml_X5_267 rfl rfl (Nat.le_of_ble_eq_true rfl) ⟨by decide, by decide⟩ (by omega) (by omega) hbz8 rfl (c_X4_leafOfKey N _ _ _ _ _ hzz8) (x_K.some ?_) x_KX.none
    refine x_istore_n (i := 2) (lv' := [(2, .int z8), (0, .ref this), (1, .int p0)]) dX5_leafFor_15 rfl (by decide) rfl ?_
    refine x_iload_n 0 dX5_leafFor_16 rfl rfl ?_
    refine x_iconst (-1) (by decide) dX5_leafFor_17 ?_
    refine x_icmp_ne 32 dX5_leafFor_18 (by decide) hF (fun hF => ?_) (fun hF => ?_)
    · refine x_iload_n 0 dX5_leafFor_32 rfl rfl ?_
      exact x_iret dX5_leafFor_33 rfl (by cases hF; rfl)
    · exact x_throwSW dX5_leafFor_21 dX5_leafFor_24 dX5_leafFor_25 dX5_leafFor_28 dX5_leafFor_31 rfl tl_ISE sr_X5_270 (by decide) (by decide) (by omega) (by omega) (Nat.le_of_ble_eq_true rfl) (by cases hF; rfl)
  · have hF := x_ser hF
    exact x_calls (As := [.int p0]) (rest := []) 1 6 dX5_leafFor_1 mi_X5_requireKey rfl ml_X5_44 rfl rfl (Nat.le_of_ble_eq_true rfl) ⟨by decide, by decide⟩ (by omega) (by omega) (c_X5_requireKey N _ _ _ _ hzz1) x_K.inr (x_KX.out rfl (fun E hm hq => by cases hq; cases hF; rfl))
def F_X5_leafKey (N : Nat) (f : XM) (this : Nat) (p0 : Int32) (p1 : Int32) : Option ((Int32) ⊕ (Nat)) :=
  (x_cv f 5 this (F_X5_requireLeaf N f this p0)).bind fun z1 =>
  x_se z1 (fun w2 =>
    (x_getr f 5 this 0).bind fun v4 =>
    Option.bind v4 fun a5 =>
    (x_getr f 3 a5 3).bind fun v6 =>
    Option.bind v6 fun a7 =>
    (x_cv f 4 a7 (F_X4_ownEntry N f a7 p0 p1)).bind fun z8 =>
    if z8 = (-1) then
      some (.inr 2)
    else
      (x_getr f 5 this 0).bind fun v9 =>
      Option.bind v9 fun a10 =>
      (x_getr f 3 a10 3).bind fun v11 =>
      Option.bind v11 fun a12 =>
      (x_getr f 4 a12 0).bind fun v13 =>
      Option.bind v13 fun a14 =>
      (x_cv f 2 a14 (F_X2_keyOn N f a14 z8)).bind fun z15 =>
      some (.inl z15))
    (fun e3 => some (.inr e3))
set_option maxRecDepth 20000 in
set_option maxHeartbeats 4000000 in
theorem c_X5_leafKey (N : Nat) (f : XM) (this : Nat) (p0 : Int32) (p1 : Int32) (n : Nat) (r : ((Int32) ⊕ (Nat))) (hF : F_X5_leafKey N f this p0 p1 = some r) : x_Ct mX5_leafKey 7 111 2 12 [.ref this, .int p0, .int p1] (f, n) (xr_ipt r (f, n)) := by
  unfold F_X5_leafKey at hF
  refine x_ct (by decide) rfl (Nat.le_of_ble_eq_true rfl) ?_
  show X mX5_leafKey 7 111 _ _ 2 12 0 [(0, .ref this), (1, .int p0), (2, .int p1)] [] (f, n)
  refine x_aload_n 0 dX5_leafKey_0 rfl rfl ?_
  refine x_iload_n 1 dX5_leafKey_1 rfl rfl ?_
  obtain ⟨z1, hzz1, hF⟩ := x_bind hF
  obtain ⟨⟨fsz1, hbz1⟩, hzz1⟩ := x_cv_sp hzz1
  rcases z1 with w2 | e3
  · have hF := x_sel hF
    refine x_callv (As := [.int p0]) (rest := []) 1 6 dX5_leafKey_2 mi_X5_requireLeaf ml_X5_232 rfl rfl (Nat.le_of_ble_eq_true rfl) ⟨by decide, by decide⟩ (by omega) (by omega) hbz1 rfl (c_X5_requireLeaf N _ _ _ _ _ hzz1) (x_K.none ?_) x_KX.none
    refine x_aload_n 0 dX5_leafKey_5 rfl rfl ?_
    refine x_getr_r dX5_leafKey_6 fl_X5_12 hF (fun v4 hF => ?_)
    refine x_nn hF (fun a5 ha5 hF => ?_)
    rw [ha5]
    refine x_getr_r dX5_leafKey_9 fl_X5_219 hF (fun v6 hF => ?_)
    refine x_iload_n 1 dX5_leafKey_12 rfl rfl ?_
    refine x_iload_n 2 dX5_leafKey_13 rfl rfl ?_
    refine x_nn hF (fun a7 ha7 hF => ?_)
    rw [ha7]
    obtain ⟨z8, hzz8, hF⟩ := x_bind hF
    obtain ⟨⟨fsz8, hbz8⟩, hzz8⟩ := x_cv_sp hzz8
    refine x_callv (As := [.int p0, .int p1]) (rest := []) 1 6 dX5_leafKey_14 mi_X4_ownEntry ml_X5_238 rfl rfl (Nat.le_of_ble_eq_true rfl) ⟨by decide, by decide⟩ (by omega) (by omega) hbz8 rfl (c_X4_ownEntry N _ _ _ _ _ _ hzz8) (x_K.some ?_) x_KX.none
    refine x_istore_n (i := 3) (lv' := [(3, .int z8), (0, .ref this), (1, .int p0), (2, .int p1)]) dX5_leafKey_17 rfl (by decide) rfl ?_
    refine x_iload_n 0 dX5_leafKey_18 rfl rfl ?_
    refine x_iconst (-1) (by decide) dX5_leafKey_19 ?_
    refine x_icmp_ne 33 dX5_leafKey_20 (by decide) hF (fun hF => ?_) (fun hF => ?_)
    · refine x_aload_n 1 dX5_leafKey_33 rfl rfl ?_
      refine x_getr_r dX5_leafKey_34 fl_X5_12 hF (fun v9 hF => ?_)
      refine x_nn hF (fun a10 ha10 hF => ?_)
      rw [ha10]
      refine x_getr_r dX5_leafKey_37 fl_X5_219 hF (fun v11 hF => ?_)
      refine x_nn hF (fun a12 ha12 hF => ?_)
      rw [ha12]
      refine x_getr_r dX5_leafKey_40 fl_X5_223 hF (fun v13 hF => ?_)
      refine x_iload_n 0 dX5_leafKey_43 rfl rfl ?_
      refine x_nn hF (fun a14 ha14 hF => ?_)
      rw [ha14]
      obtain ⟨z15, hzz15, hF⟩ := x_bind hF
      obtain ⟨⟨fsz15, hbz15⟩, hzz15⟩ := x_cv_sp hzz15
      refine x_callv (As := [.int z8]) (rest := []) 1 6 dX5_leafKey_44 mi_X2_keyOn ml_X5_185 rfl rfl (Nat.le_of_ble_eq_true rfl) ⟨by decide, by decide⟩ (by omega) (by omega) hbz15 rfl (c_X2_keyOn N _ _ _ _ _ hzz15) (x_K.some ?_) x_KX.none
      exact x_iret dX5_leafKey_47 rfl (by cases hF; rfl)
    · exact x_throwS dX5_leafKey_23 dX5_leafKey_26 dX5_leafKey_27 dX5_leafKey_29 dX5_leafKey_32 rfl tl_IOE sr_X5_241 (by decide) (by decide) (by omega) (by omega) (Nat.le_of_ble_eq_true rfl) (by cases hF; rfl)
  · have hF := x_ser hF
    exact x_callv (As := [.int p0]) (rest := []) 1 6 dX5_leafKey_2 mi_X5_requireLeaf ml_X5_232 rfl rfl (Nat.le_of_ble_eq_true rfl) ⟨by decide, by decide⟩ (by omega) (by omega) hbz1 rfl (c_X5_requireLeaf N _ _ _ _ _ hzz1) x_K.inr (x_KX.out rfl (fun E hm hq => by cases hq; cases hF; rfl))
def F_X5_leavesIfBuilt (N : Nat) (f : XM) (this : Nat) (p0 : Int32) : Option ((Int32 × XM) ⊕ (Nat × XM)) :=
  (F_X5_requireFill N f p0).bind fun z1 =>
  x_se z1 (fun w2 =>
    (x_getr f 5 this 0).bind fun v4 =>
    (x_getr f 5 this 8).bind fun v5 =>
    (x_getr f 5 this 0).bind fun v6 =>
    Option.bind v6 fun a7 =>
    Option.bind v5 fun a8 =>
    (x_cv f 0 a8 (F_X0_gather N f a8 a7)).bind fun z9 =>
    Option.bind z9.1 fun a10 =>
    (x_geti z9.2 2 a10 2).bind fun v11 =>
    Option.bind v4 fun a12 =>
    (x_cv z9.2 3 a12 (F_X3_leavesOutOf N z9.2 a12 v11 p0)).bind fun z13 =>
    some (.inl (z13, z9.2)))
    (fun e3 => some (.inr (e3, f)))
set_option maxRecDepth 20000 in
set_option maxHeartbeats 4000000 in
theorem c_X5_leavesIfBuilt (N : Nat) (f : XM) (this : Nat) (p0 : Int32) (n : Nat) (r : ((Int32 × XM) ⊕ (Nat × XM))) (hF : F_X5_leavesIfBuilt N f this p0 = some r) : x_Ct mX5_leavesIfBuilt 7 114 1 6 [.ref this, .int p0] (f, n) (xr_imt r n) := by
  unfold F_X5_leavesIfBuilt at hF
  refine x_ct (by decide) rfl (Nat.le_of_ble_eq_true rfl) ?_
  show X mX5_leavesIfBuilt 7 114 _ _ 1 6 0 [(0, .ref this), (1, .int p0)] [] (f, n)
  refine x_iload_n 1 dX5_leavesIfBuilt_0 rfl rfl ?_
  obtain ⟨z1, hzz1, hF⟩ := x_bind hF
  rcases z1 with w2 | e3
  · have hF := x_sel hF
    refine x_calls (As := [.int p0]) (rest := []) 0 0 dX5_leavesIfBuilt_1 mi_X5_requireFill rfl ml_X5_71 rfl rfl (Nat.le_of_ble_eq_true rfl) ⟨by decide, by decide⟩ (by omega) (by omega) (c_X5_requireFill N _ _ _ _ hzz1) (x_K.none ?_) x_KX.none
    refine x_aload_n 0 dX5_leavesIfBuilt_4 rfl rfl ?_
    refine x_getr_r dX5_leavesIfBuilt_5 fl_X5_12 hF (fun v4 hF => ?_)
    refine x_aload_n 0 dX5_leavesIfBuilt_8 rfl rfl ?_
    refine x_getr_r dX5_leavesIfBuilt_9 fl_X5_40 hF (fun v5 hF => ?_)
    refine x_aload_n 0 dX5_leavesIfBuilt_12 rfl rfl ?_
    refine x_getr_r dX5_leavesIfBuilt_13 fl_X5_12 hF (fun v6 hF => ?_)
    refine x_nn hF (fun a7 ha7 hF => ?_)
    rw [ha7]
    refine x_nn hF (fun a8 ha8 hF => ?_)
    rw [ha8]
    obtain ⟨z9, hzz9, hF⟩ := x_bind hF
    obtain ⟨⟨fsz9, hbz9⟩, hzz9⟩ := x_cv_sp hzz9
    refine x_callv (As := [.ref a7]) (rest := [va_rf v4]) 0 0 dX5_leavesIfBuilt_16 mi_X0_gather ml_X5_129 rfl rfl (by simp only [List.map_cons, List.map_nil, x_rfc]; exact Nat.le_of_ble_eq_true rfl) ⟨by decide, by decide⟩ (by omega) (by omega) hbz9 rfl (c_X0_gather N _ _ _ _ _ hzz9) (x_K.some ?_) x_KX.none
    refine x_nn hF (fun a10 ha10 hF => ?_)
    rw [ha10]
    refine x_geti_r dX5_leavesIfBuilt_19 fl_X5_133 hF (fun v11 hF => ?_)
    refine x_iload_n 1 dX5_leavesIfBuilt_22 rfl rfl ?_
    refine x_nn hF (fun a12 ha12 hF => ?_)
    rw [ha12]
    obtain ⟨z13, hzz13, hF⟩ := x_bind hF
    obtain ⟨⟨fsz13, hbz13⟩, hzz13⟩ := x_cv_sp hzz13
    refine x_callv (As := [.int v11, .int p0]) (rest := []) 0 0 dX5_leavesIfBuilt_23 mi_X3_leavesOutOf ml_X5_293 rfl rfl (Nat.le_of_ble_eq_true rfl) ⟨by decide, by decide⟩ (by omega) (by omega) hbz13 rfl (c_X3_leavesOutOf N _ _ _ _ _ _ hzz13) (x_K.some ?_) x_KX.none
    exact x_iret dX5_leavesIfBuilt_26 rfl (by cases hF; rfl)
  · have hF := x_ser hF
    exact x_calls (As := [.int p0]) (rest := []) 0 0 dX5_leavesIfBuilt_1 mi_X5_requireFill rfl ml_X5_71 rfl rfl (Nat.le_of_ble_eq_true rfl) ⟨by decide, by decide⟩ (by omega) (by omega) (c_X5_requireFill N _ _ _ _ hzz1) x_K.inr (x_KX.out rfl (fun E hm hq => by cases hq; cases hF; rfl))
def F_X5_levelsIfBuilt (N : Nat) (f : XM) (this : Nat) (p0 : Int32) : Option ((Int32 × XM) ⊕ (Nat × XM)) :=
  (F_X5_requireFill N f p0).bind fun z1 =>
  x_se z1 (fun w2 =>
    (x_getr f 5 this 0).bind fun v4 =>
    (x_getr f 5 this 8).bind fun v5 =>
    (x_getr f 5 this 0).bind fun v6 =>
    Option.bind v6 fun a7 =>
    Option.bind v5 fun a8 =>
    (x_cv f 0 a8 (F_X0_gather N f a8 a7)).bind fun z9 =>
    Option.bind z9.1 fun a10 =>
    (x_geti z9.2 2 a10 2).bind fun v11 =>
    Option.bind v4 fun a12 =>
    (x_cv z9.2 3 a12 (F_X3_levelsOutOf N z9.2 a12 v11 p0)).bind fun z13 =>
    some (.inl (z13, z9.2)))
    (fun e3 => some (.inr (e3, f)))
set_option maxRecDepth 20000 in
set_option maxHeartbeats 4000000 in
theorem c_X5_levelsIfBuilt (N : Nat) (f : XM) (this : Nat) (p0 : Int32) (n : Nat) (r : ((Int32 × XM) ⊕ (Nat × XM))) (hF : F_X5_levelsIfBuilt N f this p0 = some r) : x_Ct mX5_levelsIfBuilt 7 114 1 6 [.ref this, .int p0] (f, n) (xr_imt r n) := by
  unfold F_X5_levelsIfBuilt at hF
  refine x_ct (by decide) rfl (Nat.le_of_ble_eq_true rfl) ?_
  show X mX5_levelsIfBuilt 7 114 _ _ 1 6 0 [(0, .ref this), (1, .int p0)] [] (f, n)
  refine x_iload_n 1 dX5_levelsIfBuilt_0 rfl rfl ?_
  obtain ⟨z1, hzz1, hF⟩ := x_bind hF
  rcases z1 with w2 | e3
  · have hF := x_sel hF
    refine x_calls (As := [.int p0]) (rest := []) 0 0 dX5_levelsIfBuilt_1 mi_X5_requireFill rfl ml_X5_71 rfl rfl (Nat.le_of_ble_eq_true rfl) ⟨by decide, by decide⟩ (by omega) (by omega) (c_X5_requireFill N _ _ _ _ hzz1) (x_K.none ?_) x_KX.none
    refine x_aload_n 0 dX5_levelsIfBuilt_4 rfl rfl ?_
    refine x_getr_r dX5_levelsIfBuilt_5 fl_X5_12 hF (fun v4 hF => ?_)
    refine x_aload_n 0 dX5_levelsIfBuilt_8 rfl rfl ?_
    refine x_getr_r dX5_levelsIfBuilt_9 fl_X5_40 hF (fun v5 hF => ?_)
    refine x_aload_n 0 dX5_levelsIfBuilt_12 rfl rfl ?_
    refine x_getr_r dX5_levelsIfBuilt_13 fl_X5_12 hF (fun v6 hF => ?_)
    refine x_nn hF (fun a7 ha7 hF => ?_)
    rw [ha7]
    refine x_nn hF (fun a8 ha8 hF => ?_)
    rw [ha8]
    obtain ⟨z9, hzz9, hF⟩ := x_bind hF
    obtain ⟨⟨fsz9, hbz9⟩, hzz9⟩ := x_cv_sp hzz9
    refine x_callv (As := [.ref a7]) (rest := [va_rf v4]) 0 0 dX5_levelsIfBuilt_16 mi_X0_gather ml_X5_129 rfl rfl (by simp only [List.map_cons, List.map_nil, x_rfc]; exact Nat.le_of_ble_eq_true rfl) ⟨by decide, by decide⟩ (by omega) (by omega) hbz9 rfl (c_X0_gather N _ _ _ _ _ hzz9) (x_K.some ?_) x_KX.none
    refine x_nn hF (fun a10 ha10 hF => ?_)
    rw [ha10]
    refine x_geti_r dX5_levelsIfBuilt_19 fl_X5_133 hF (fun v11 hF => ?_)
    refine x_iload_n 1 dX5_levelsIfBuilt_22 rfl rfl ?_
    refine x_nn hF (fun a12 ha12 hF => ?_)
    rw [ha12]
    obtain ⟨z13, hzz13, hF⟩ := x_bind hF
    obtain ⟨⟨fsz13, hbz13⟩, hzz13⟩ := x_cv_sp hzz13
    refine x_callv (As := [.int v11, .int p0]) (rest := []) 0 0 dX5_levelsIfBuilt_23 mi_X3_levelsOutOf ml_X5_296 rfl rfl (Nat.le_of_ble_eq_true rfl) ⟨by decide, by decide⟩ (by omega) (by omega) hbz13 rfl (c_X3_levelsOutOf N _ _ _ _ _ _ hzz13) (x_K.some ?_) x_KX.none
    exact x_iret dX5_levelsIfBuilt_26 rfl (by cases hF; rfl)
  · have hF := x_ser hF
    exact x_calls (As := [.int p0]) (rest := []) 0 0 dX5_levelsIfBuilt_1 mi_X5_requireFill rfl ml_X5_71 rfl rfl (Nat.le_of_ble_eq_true rfl) ⟨by decide, by decide⟩ (by omega) (by omega) (c_X5_requireFill N _ _ _ _ hzz1) x_K.inr (x_KX.out rfl (fun E hm hq => by cases hq; cases hF; rfl))
def F_X5_mergeRuns (N : Nat) (h : XH) (this : Nat) : Option ((Int32 × XH) ⊕ (Nat × XM)) :=
  (x_getr h.1 5 this 1).bind fun v1 =>
  (x_getr h.1 5 this 0).bind fun v2 =>
  Option.bind v2 fun a3 =>
  Option.bind v1 fun a4 =>
  (x_cv h.1 3 a4 (F_X3_copyFrom N h.1 a4 a3)).bind fun z5 =>
  (x_getr z5 5 this 0).bind fun v6 =>
  (x_getr z5 5 this 8).bind fun v7 =>
  Option.bind v7 fun a8 =>
  Option.bind v6 fun a9 =>
  (x_cv z5 3 a9 (F_X3_mergeOldest N z5 a9 a8)).bind fun z10 =>
  (x_cv z10.2 5 this (F_X5_saveUnlessRefused N (z10.2, h.2) this z10.1)).bind fun z11 =>
  x_se z11 (fun w12 =>
    some (.inl (w12.1, (w12.2.1, w12.2.2))))
    (fun e13 => some (.inr (e13.1, e13.2)))
set_option maxRecDepth 20000 in
set_option maxHeartbeats 4000000 in
theorem c_X5_mergeRuns (N : Nat) (h : XH) (this : Nat) (r : ((Int32 × XH) ⊕ (Nat × XM))) (hF : F_X5_mergeRuns N h this = some r) : x_Ct mX5_mergeRuns 7 135 32 1903 [.ref this] h (xr_iat r) := by
  unfold F_X5_mergeRuns at hF
  refine x_ct (by decide) rfl (Nat.le_of_ble_eq_true rfl) ?_
  show X mX5_mergeRuns 7 135 _ _ 32 1903 0 [(0, .ref this)] [] h
  refine x_aload_n 0 dX5_mergeRuns_0 rfl rfl ?_
  refine x_getr_r dX5_mergeRuns_1 fl_X5_16 hF (fun v1 hF => ?_)
  refine x_aload_n 0 dX5_mergeRuns_4 rfl rfl ?_
  refine x_getr_r dX5_mergeRuns_5 fl_X5_12 hF (fun v2 hF => ?_)
  refine x_nn hF (fun a3 ha3 hF => ?_)
  rw [ha3]
  refine x_nn hF (fun a4 ha4 hF => ?_)
  rw [ha4]
  obtain ⟨z5, hzz5, hF⟩ := x_bind hF
  obtain ⟨⟨fsz5, hbz5⟩, hzz5⟩ := x_cv_sp hzz5
  refine x_callv (As := [.ref a3]) (rest := []) 32 1903 dX5_mergeRuns_8 mi_X3_copyFrom ml_X5_51 rfl rfl (Nat.le_of_ble_eq_true rfl) ⟨by decide, by decide⟩ (by omega) (by omega) hbz5 rfl (c_X3_copyFrom N _ _ _ _ _ hzz5) (x_K.none ?_) x_KX.none
  refine x_aload_n 0 dX5_mergeRuns_11 rfl rfl ?_
  refine x_aload_n 0 dX5_mergeRuns_12 rfl rfl ?_
  refine x_getr_r dX5_mergeRuns_13 fl_X5_12 hF (fun v6 hF => ?_)
  refine x_aload_n 0 dX5_mergeRuns_16 rfl rfl ?_
  refine x_getr_r dX5_mergeRuns_17 fl_X5_40 hF (fun v7 hF => ?_)
  refine x_nn hF (fun a8 ha8 hF => ?_)
  rw [ha8]
  refine x_nn hF (fun a9 ha9 hF => ?_)
  rw [ha9]
  obtain ⟨z10, hzz10, hF⟩ := x_bind hF
  obtain ⟨⟨fsz10, hbz10⟩, hzz10⟩ := x_cv_sp hzz10
  refine x_callv (As := [.ref a8]) (rest := [.ref this]) 32 1903 dX5_mergeRuns_20 mi_X3_mergeOldest ml_X5_67 rfl rfl (Nat.le_of_ble_eq_true rfl) ⟨by decide, by decide⟩ (by omega) (by omega) hbz10 rfl (c_X3_mergeOldest N _ _ _ _ _ hzz10) (x_K.some ?_) x_KX.none
  obtain ⟨z11, hzz11, hF⟩ := x_bind hF
  obtain ⟨⟨fsz11, hbz11⟩, hzz11⟩ := x_cv_sp hzz11
  rcases z11 with w12 | e13
  · have hF := x_sel hF
    refine x_callv (As := [.int z10.1]) (rest := []) 0 0 dX5_mergeRuns_23 mi_X5_saveUnlessRefused ml_X5_59 rfl rfl (Nat.le_of_ble_eq_true rfl) ⟨by decide, by decide⟩ (by omega) (by omega) hbz11 rfl (c_X5_saveUnlessRefused N _ _ _ _ hzz11) (x_K.some ?_) x_KX.none
    exact x_iret dX5_mergeRuns_26 rfl (by cases hF; rfl)
  · have hF := x_ser hF
    exact x_callv (As := [.int z10.1]) (rest := []) 0 0 dX5_mergeRuns_23 mi_X5_saveUnlessRefused ml_X5_59 rfl rfl (Nat.le_of_ble_eq_true rfl) ⟨by decide, by decide⟩ (by omega) (by omega) hbz11 rfl (c_X5_saveUnlessRefused N _ _ _ _ hzz11) x_K.inr (x_KX.out rfl (fun E hm hq => by cases hq; cases hF; rfl))
def F_X5_nextKey (N : Nat) (f : XM) (this : Nat) (p0 : Int32) : Option ((Int32 × XM) ⊕ (Nat × XM)) :=
  (F_X5_requireKey N f p0).bind fun z1 =>
  x_se z1 (fun w2 =>
    (x_getr f 5 this 8).bind fun v4 =>
    (x_getr f 5 this 0).bind fun v5 =>
    Option.bind v5 fun a6 =>
    Option.bind v4 fun a7 =>
    (x_cv f 0 a7 (F_X0_gather N f a7 a6)).bind fun z8 =>
    Option.bind z8.1 fun a9 =>
    (x_cv z8.2 2 a9 (F_X2_firstFrom N z8.2 a9 (p0 + 1))).bind fun z10 =>
    (x_cv z8.2 2 a9 (F_X2_keyOn N z8.2 a9 z10)).bind fun z11 =>
    if z11 = (-1) then
      some (.inr (1, z8.2))
    else
      some (.inl (z11, z8.2)))
    (fun e3 => some (.inr (e3, f)))
set_option maxRecDepth 20000 in
set_option maxHeartbeats 4000000 in
theorem c_X5_nextKey (N : Nat) (f : XM) (this : Nat) (p0 : Int32) (n : Nat) (r : ((Int32 × XM) ⊕ (Nat × XM))) (hF : F_X5_nextKey N f this p0 = some r) : x_Ct mX5_nextKey 7 114 2 12 [.ref this, .int p0] (f, n) (xr_imt r n) := by
  unfold F_X5_nextKey at hF
  refine x_ct (by decide) rfl (Nat.le_of_ble_eq_true rfl) ?_
  show X mX5_nextKey 7 114 _ _ 2 12 0 [(0, .ref this), (1, .int p0)] [] (f, n)
  refine x_iload_n 1 dX5_nextKey_0 rfl rfl ?_
  obtain ⟨z1, hzz1, hF⟩ := x_bind hF
  rcases z1 with w2 | e3
  · have hF := x_sel hF
    refine x_calls (As := [.int p0]) (rest := []) 1 6 dX5_nextKey_1 mi_X5_requireKey rfl ml_X5_44 rfl rfl (Nat.le_of_ble_eq_true rfl) ⟨by decide, by decide⟩ (by omega) (by omega) (c_X5_requireKey N _ _ _ _ hzz1) (x_K.none ?_) x_KX.none
    refine x_aload_n 0 dX5_nextKey_4 rfl rfl ?_
    refine x_getr_r dX5_nextKey_5 fl_X5_40 hF (fun v4 hF => ?_)
    refine x_aload_n 0 dX5_nextKey_8 rfl rfl ?_
    refine x_getr_r dX5_nextKey_9 fl_X5_12 hF (fun v5 hF => ?_)
    refine x_nn hF (fun a6 ha6 hF => ?_)
    rw [ha6]
    refine x_nn hF (fun a7 ha7 hF => ?_)
    rw [ha7]
    obtain ⟨z8, hzz8, hF⟩ := x_bind hF
    obtain ⟨⟨fsz8, hbz8⟩, hzz8⟩ := x_cv_sp hzz8
    refine x_callv (As := [.ref a6]) (rest := []) 1 6 dX5_nextKey_12 mi_X0_gather ml_X5_129 rfl rfl (Nat.le_of_ble_eq_true rfl) ⟨by decide, by decide⟩ (by omega) (by omega) hbz8 rfl (c_X0_gather N _ _ _ _ _ hzz8) (x_K.some ?_) x_KX.none
    refine x_astore_nq (i := 2) (lv' := [(2, va_rf z8.1), (0, .ref this), (1, .int p0)]) dX5_nextKey_15 rfl (by decide) rfl ?_
    refine x_aload_nq 0 dX5_nextKey_16 rfl rfl ?_
    refine x_aload_nq 0 dX5_nextKey_17 rfl rfl ?_
    refine x_iload_n 2 dX5_nextKey_18 rfl rfl ?_
    refine x_iconst 1 (by decide) dX5_nextKey_19 ?_
    refine x_iadd dX5_nextKey_20 ?_
    refine x_nn hF (fun a9 ha9 hF => ?_)
    rw [ha9]
    obtain ⟨z10, hzz10, hF⟩ := x_bind hF
    obtain ⟨⟨fsz10, hbz10⟩, hzz10⟩ := x_cv_sp hzz10
    refine x_callv (As := [.int (p0 + 1)]) (rest := [.ref a9]) 1 6 dX5_nextKey_21 mi_X2_firstFrom ml_X5_182 rfl rfl (Nat.le_of_ble_eq_true rfl) ⟨by decide, by decide⟩ (by omega) (by omega) hbz10 rfl (c_X2_firstFrom N _ _ _ _ _ hzz10) (x_K.some ?_) x_KX.none
    obtain ⟨z11, hzz11, hF⟩ := x_bind hF
    obtain ⟨⟨fsz11, hbz11⟩, hzz11⟩ := x_cv_sp hzz11
    refine x_callv (As := [.int z10]) (rest := []) 1 6 dX5_nextKey_24 mi_X2_keyOn ml_X5_185 rfl rfl (Nat.le_of_ble_eq_true rfl) ⟨by decide, by decide⟩ (by omega) (by omega) hbz11 rfl (c_X2_keyOn N _ _ _ _ _ hzz11) (x_K.some ?_) x_KX.none
    refine x_istore_n (i := 3) (lv' := [(3, .int z11), (2, .ref a9), (0, .ref this), (1, .int p0)]) dX5_nextKey_27 rfl (by decide) rfl ?_
    refine x_iload_n 0 dX5_nextKey_28 rfl rfl ?_
    refine x_iconst (-1) (by decide) dX5_nextKey_29 ?_
    refine x_icmp_ne 43 dX5_nextKey_30 (by decide) hF (fun hF => ?_) (fun hF => ?_)
    · refine x_iload_n 0 dX5_nextKey_43 rfl rfl ?_
      exact x_iret dX5_nextKey_44 rfl (by cases hF; rfl)
    · exact x_throwS dX5_nextKey_33 dX5_nextKey_36 dX5_nextKey_37 dX5_nextKey_39 dX5_nextKey_42 rfl tl_ISE sr_X5_188 (by decide) (by decide) (by omega) (by omega) (Nat.le_of_ble_eq_true rfl) (by cases hF; rfl)
  · have hF := x_ser hF
    exact x_calls (As := [.int p0]) (rest := []) 1 6 dX5_nextKey_1 mi_X5_requireKey rfl ml_X5_44 rfl rfl (Nat.le_of_ble_eq_true rfl) ⟨by decide, by decide⟩ (by omega) (by omega) (c_X5_requireKey N _ _ _ _ hzz1) x_K.inr (x_KX.out rfl (fun E hm hq => by cases hq; cases hF; rfl))
def F_X5_nodesAt (N : Nat) (f : XM) (this : Nat) (p0 : Int32) : Option ((Int32) ⊕ (Nat)) :=
  (x_cv f 5 this (F_X5_requireLevel N f this p0)).bind fun z1 =>
  x_se z1 (fun w2 =>
    (x_getr f 5 this 0).bind fun v4 =>
    Option.bind v4 fun a5 =>
    (x_getr f 3 a5 3).bind fun v6 =>
    Option.bind v6 fun a7 =>
    (x_cv f 4 a7 (F_X4_nodeCount N f a7 p0)).bind fun z8 =>
    some (.inl z8))
    (fun e3 => some (.inr e3))
set_option maxRecDepth 20000 in
set_option maxHeartbeats 4000000 in
theorem c_X5_nodesAt (N : Nat) (f : XM) (this : Nat) (p0 : Int32) (n : Nat) (r : ((Int32) ⊕ (Nat))) (hF : F_X5_nodesAt N f this p0 = some r) : x_Ct mX5_nodesAt 7 111 1 6 [.ref this, .int p0] (f, n) (xr_ipt r (f, n)) := by
  unfold F_X5_nodesAt at hF
  refine x_ct (by decide) rfl (Nat.le_of_ble_eq_true rfl) ?_
  show X mX5_nodesAt 7 111 _ _ 1 6 0 [(0, .ref this), (1, .int p0)] [] (f, n)
  refine x_aload_n 0 dX5_nodesAt_0 rfl rfl ?_
  refine x_iload_n 1 dX5_nodesAt_1 rfl rfl ?_
  obtain ⟨z1, hzz1, hF⟩ := x_bind hF
  obtain ⟨⟨fsz1, hbz1⟩, hzz1⟩ := x_cv_sp hzz1
  rcases z1 with w2 | e3
  · have hF := x_sel hF
    refine x_callv (As := [.int p0]) (rest := []) 0 0 dX5_nodesAt_2 mi_X5_requireLevel ml_X5_252 rfl rfl (Nat.le_of_ble_eq_true rfl) ⟨by decide, by decide⟩ (by omega) (by omega) hbz1 rfl (c_X5_requireLevel N _ _ _ _ _ hzz1) (x_K.none ?_) x_KX.none
    refine x_aload_n 0 dX5_nodesAt_5 rfl rfl ?_
    refine x_getr_r dX5_nodesAt_6 fl_X5_12 hF (fun v4 hF => ?_)
    refine x_nn hF (fun a5 ha5 hF => ?_)
    rw [ha5]
    refine x_getr_r dX5_nodesAt_9 fl_X5_219 hF (fun v6 hF => ?_)
    refine x_iload_n 1 dX5_nodesAt_12 rfl rfl ?_
    refine x_nn hF (fun a7 ha7 hF => ?_)
    rw [ha7]
    obtain ⟨z8, hzz8, hF⟩ := x_bind hF
    obtain ⟨⟨fsz8, hbz8⟩, hzz8⟩ := x_cv_sp hzz8
    refine x_callv (As := [.int p0]) (rest := []) 0 0 dX5_nodesAt_13 mi_X4_nodeCount ml_X5_255 rfl rfl (Nat.le_of_ble_eq_true rfl) ⟨by decide, by decide⟩ (by omega) (by omega) hbz8 rfl (c_X4_nodeCount N _ _ _ _ _ hzz8) (x_K.some ?_) x_KX.none
    exact x_iret dX5_nodesAt_16 rfl (by cases hF; rfl)
  · have hF := x_ser hF
    exact x_callv (As := [.int p0]) (rest := []) 0 0 dX5_nodesAt_2 mi_X5_requireLevel ml_X5_252 rfl rfl (Nat.le_of_ble_eq_true rfl) ⟨by decide, by decide⟩ (by omega) (by omega) hbz1 rfl (c_X5_requireLevel N _ _ _ _ _ hzz1) x_K.inr (x_KX.out rfl (fun E hm hq => by cases hq; cases hF; rfl))
def F_X5_overflowLeaves (N : Nat) (f : XM) (this : Nat) (p0 : Int32) : Option ((Int32) ⊕ (Nat)) :=
  (x_cv f 5 this (F_X5_requireLeaf N f this p0)).bind fun z1 =>
  x_se z1 (fun w2 =>
    (x_getr f 5 this 0).bind fun v4 =>
    Option.bind v4 fun a5 =>
    (x_getr f 3 a5 3).bind fun v6 =>
    Option.bind v6 fun a7 =>
    (x_cv f 4 a7 (F_X4_overflowLeafCount N f a7 p0)).bind fun z8 =>
    some (.inl z8))
    (fun e3 => some (.inr e3))
set_option maxRecDepth 20000 in
set_option maxHeartbeats 4000000 in
theorem c_X5_overflowLeaves (N : Nat) (f : XM) (this : Nat) (p0 : Int32) (n : Nat) (r : ((Int32) ⊕ (Nat))) (hF : F_X5_overflowLeaves N f this p0 = some r) : x_Ct mX5_overflowLeaves 7 111 1 6 [.ref this, .int p0] (f, n) (xr_ipt r (f, n)) := by
  unfold F_X5_overflowLeaves at hF
  refine x_ct (by decide) rfl (Nat.le_of_ble_eq_true rfl) ?_
  show X mX5_overflowLeaves 7 111 _ _ 1 6 0 [(0, .ref this), (1, .int p0)] [] (f, n)
  refine x_aload_n 0 dX5_overflowLeaves_0 rfl rfl ?_
  refine x_iload_n 1 dX5_overflowLeaves_1 rfl rfl ?_
  obtain ⟨z1, hzz1, hF⟩ := x_bind hF
  obtain ⟨⟨fsz1, hbz1⟩, hzz1⟩ := x_cv_sp hzz1
  rcases z1 with w2 | e3
  · have hF := x_sel hF
    refine x_callv (As := [.int p0]) (rest := []) 0 0 dX5_overflowLeaves_2 mi_X5_requireLeaf ml_X5_232 rfl rfl (Nat.le_of_ble_eq_true rfl) ⟨by decide, by decide⟩ (by omega) (by omega) hbz1 rfl (c_X5_requireLeaf N _ _ _ _ _ hzz1) (x_K.none ?_) x_KX.none
    refine x_aload_n 0 dX5_overflowLeaves_5 rfl rfl ?_
    refine x_getr_r dX5_overflowLeaves_6 fl_X5_12 hF (fun v4 hF => ?_)
    refine x_nn hF (fun a5 ha5 hF => ?_)
    rw [ha5]
    refine x_getr_r dX5_overflowLeaves_9 fl_X5_219 hF (fun v6 hF => ?_)
    refine x_iload_n 1 dX5_overflowLeaves_12 rfl rfl ?_
    refine x_nn hF (fun a7 ha7 hF => ?_)
    rw [ha7]
    obtain ⟨z8, hzz8, hF⟩ := x_bind hF
    obtain ⟨⟨fsz8, hbz8⟩, hzz8⟩ := x_cv_sp hzz8
    refine x_callv (As := [.int p0]) (rest := []) 0 0 dX5_overflowLeaves_13 mi_X4_overflowLeafCount ml_X5_246 rfl rfl (Nat.le_of_ble_eq_true rfl) ⟨by decide, by decide⟩ (by omega) (by omega) hbz8 rfl (c_X4_overflowLeafCount N _ _ _ _ _ hzz8) (x_K.some ?_) x_KX.none
    exact x_iret dX5_overflowLeaves_16 rfl (by cases hF; rfl)
  · have hF := x_ser hF
    exact x_callv (As := [.int p0]) (rest := []) 0 0 dX5_overflowLeaves_2 mi_X5_requireLeaf ml_X5_232 rfl rfl (Nat.le_of_ble_eq_true rfl) ⟨by decide, by decide⟩ (by omega) (by omega) hbz1 rfl (c_X5_requireLeaf N _ _ _ _ _ hzz1) x_K.inr (x_KX.out rfl (fun E hm hq => by cases hq; cases hF; rfl))
def F_X5_overflowOf (N : Nat) (f : XM) (this : Nat) (p0 : Int32) : Option ((Int32) ⊕ (Nat)) :=
  (x_cv f 5 this (F_X5_requireLeaf N f this p0)).bind fun z1 =>
  x_se z1 (fun w2 =>
    (x_getr f 5 this 0).bind fun v4 =>
    Option.bind v4 fun a5 =>
    (x_getr f 3 a5 3).bind fun v6 =>
    Option.bind v6 fun a7 =>
    (x_cv f 4 a7 (F_X4_overflowCount N f a7 p0)).bind fun z8 =>
    some (.inl z8))
    (fun e3 => some (.inr e3))
set_option maxRecDepth 20000 in
set_option maxHeartbeats 4000000 in
theorem c_X5_overflowOf (N : Nat) (f : XM) (this : Nat) (p0 : Int32) (n : Nat) (r : ((Int32) ⊕ (Nat))) (hF : F_X5_overflowOf N f this p0 = some r) : x_Ct mX5_overflowOf 7 111 1 6 [.ref this, .int p0] (f, n) (xr_ipt r (f, n)) := by
  unfold F_X5_overflowOf at hF
  refine x_ct (by decide) rfl (Nat.le_of_ble_eq_true rfl) ?_
  show X mX5_overflowOf 7 111 _ _ 1 6 0 [(0, .ref this), (1, .int p0)] [] (f, n)
  refine x_aload_n 0 dX5_overflowOf_0 rfl rfl ?_
  refine x_iload_n 1 dX5_overflowOf_1 rfl rfl ?_
  obtain ⟨z1, hzz1, hF⟩ := x_bind hF
  obtain ⟨⟨fsz1, hbz1⟩, hzz1⟩ := x_cv_sp hzz1
  rcases z1 with w2 | e3
  · have hF := x_sel hF
    refine x_callv (As := [.int p0]) (rest := []) 0 0 dX5_overflowOf_2 mi_X5_requireLeaf ml_X5_232 rfl rfl (Nat.le_of_ble_eq_true rfl) ⟨by decide, by decide⟩ (by omega) (by omega) hbz1 rfl (c_X5_requireLeaf N _ _ _ _ _ hzz1) (x_K.none ?_) x_KX.none
    refine x_aload_n 0 dX5_overflowOf_5 rfl rfl ?_
    refine x_getr_r dX5_overflowOf_6 fl_X5_12 hF (fun v4 hF => ?_)
    refine x_nn hF (fun a5 ha5 hF => ?_)
    rw [ha5]
    refine x_getr_r dX5_overflowOf_9 fl_X5_219 hF (fun v6 hF => ?_)
    refine x_iload_n 1 dX5_overflowOf_12 rfl rfl ?_
    refine x_nn hF (fun a7 ha7 hF => ?_)
    rw [ha7]
    obtain ⟨z8, hzz8, hF⟩ := x_bind hF
    obtain ⟨⟨fsz8, hbz8⟩, hzz8⟩ := x_cv_sp hzz8
    refine x_callv (As := [.int p0]) (rest := []) 0 0 dX5_overflowOf_13 mi_X4_overflowCount ml_X5_243 rfl rfl (Nat.le_of_ble_eq_true rfl) ⟨by decide, by decide⟩ (by omega) (by omega) hbz8 rfl (c_X4_overflowCount N _ _ _ _ _ hzz8) (x_K.some ?_) x_KX.none
    exact x_iret dX5_overflowOf_16 rfl (by cases hF; rfl)
  · have hF := x_ser hF
    exact x_callv (As := [.int p0]) (rest := []) 0 0 dX5_overflowOf_2 mi_X5_requireLeaf ml_X5_232 rfl rfl (Nat.le_of_ble_eq_true rfl) ⟨by decide, by decide⟩ (by omega) (by omega) hbz1 rfl (c_X5_requireLeaf N _ _ _ _ _ hzz1) x_K.inr (x_KX.out rfl (fun E hm hq => by cases hq; cases hF; rfl))
def F_X5_pagesFor (N : Nat) (f : XM) (this : Nat) (p0 : Int32) : Option ((Int32) ⊕ (Nat)) :=
  (F_X5_requireKey N f p0).bind fun z1 =>
  x_se z1 (fun w2 =>
    (x_getr f 5 this 0).bind fun v4 =>
    Option.bind v4 fun a5 =>
    (x_cv f 3 a5 (F_X3_pagesRead N f a5 p0)).bind fun z6 =>
    some (.inl z6))
    (fun e3 => some (.inr e3))
set_option maxRecDepth 20000 in
set_option maxHeartbeats 4000000 in
theorem c_X5_pagesFor (N : Nat) (f : XM) (this : Nat) (p0 : Int32) (n : Nat) (r : ((Int32) ⊕ (Nat))) (hF : F_X5_pagesFor N f this p0 = some r) : x_Ct mX5_pagesFor 7 110 1 6 [.ref this, .int p0] (f, n) (xr_ipt r (f, n)) := by
  unfold F_X5_pagesFor at hF
  refine x_ct (by decide) rfl (Nat.le_of_ble_eq_true rfl) ?_
  show X mX5_pagesFor 7 110 _ _ 1 6 0 [(0, .ref this), (1, .int p0)] [] (f, n)
  refine x_iload_n 1 dX5_pagesFor_0 rfl rfl ?_
  obtain ⟨z1, hzz1, hF⟩ := x_bind hF
  rcases z1 with w2 | e3
  · have hF := x_sel hF
    refine x_calls (As := [.int p0]) (rest := []) 0 0 dX5_pagesFor_1 mi_X5_requireKey rfl ml_X5_44 rfl rfl (Nat.le_of_ble_eq_true rfl) ⟨by decide, by decide⟩ (by omega) (by omega) (c_X5_requireKey N _ _ _ _ hzz1) (x_K.none ?_) x_KX.none
    refine x_aload_n 0 dX5_pagesFor_4 rfl rfl ?_
    refine x_getr_r dX5_pagesFor_5 fl_X5_12 hF (fun v4 hF => ?_)
    refine x_iload_n 1 dX5_pagesFor_8 rfl rfl ?_
    refine x_nn hF (fun a5 ha5 hF => ?_)
    rw [ha5]
    obtain ⟨z6, hzz6, hF⟩ := x_bind hF
    obtain ⟨⟨fsz6, hbz6⟩, hzz6⟩ := x_cv_sp hzz6
    refine x_callv (As := [.int p0]) (rest := []) 0 0 dX5_pagesFor_9 mi_X3_pagesRead ml_X5_169 rfl rfl (Nat.le_of_ble_eq_true rfl) ⟨by decide, by decide⟩ (by omega) (by omega) hbz6 rfl (c_X3_pagesRead N _ _ _ _ _ hzz6) (x_K.some ?_) x_KX.none
    exact x_iret dX5_pagesFor_12 rfl (by cases hF; rfl)
  · have hF := x_ser hF
    exact x_calls (As := [.int p0]) (rest := []) 0 0 dX5_pagesFor_1 mi_X5_requireKey rfl ml_X5_44 rfl rfl (Nat.le_of_ble_eq_true rfl) ⟨by decide, by decide⟩ (by omega) (by omega) (c_X5_requireKey N _ _ _ _ hzz1) x_K.inr (x_KX.out rfl (fun E hm hq => by cases hq; cases hF; rfl))
def F_X5_put (N : Nat) (h : XH) (this : Nat) (p0 : Int32) (p1 : Int32) : Option ((Int32 × XH) ⊕ (Nat × XM)) :=
  (F_X5_requireKey N h.1 p0).bind fun z1 =>
  x_se z1 (fun w2 =>
    (F_X5_requireValue N h.1 p1).bind fun z4 =>
    x_se z4 (fun w5 =>
      (x_getr h.1 5 this 1).bind fun v7 =>
      (x_getr h.1 5 this 0).bind fun v8 =>
      Option.bind v8 fun a9 =>
      Option.bind v7 fun a10 =>
      (x_cv h.1 3 a10 (F_X3_copyFrom N h.1 a10 a9)).bind fun z11 =>
      (x_getr z11 5 this 0).bind fun v12 =>
      Option.bind v12 fun a13 =>
      (x_cv z11 3 a13 (F_X3_tell N z11 a13 p0 p1)).bind fun z14 =>
      (x_cv z14.2 5 this (F_X5_saveUnlessRefused N (z14.2, h.2) this z14.1)).bind fun z15 =>
      x_se z15 (fun w16 =>
        some (.inl (w16.1, (w16.2.1, w16.2.2))))
        (fun e17 => some (.inr (e17.1, e17.2))))
      (fun e6 => some (.inr (e6, h.1))))
    (fun e3 => some (.inr (e3, h.1)))
set_option maxRecDepth 20000 in
set_option maxHeartbeats 4000000 in
theorem c_X5_put (N : Nat) (h : XH) (this : Nat) (p0 : Int32) (p1 : Int32) (r : ((Int32 × XH) ⊕ (Nat × XM))) (hF : F_X5_put N h this p0 p1 = some r) : x_Ct mX5_put 7 135 34 1915 [.ref this, .int p0, .int p1] h (xr_iat r) := by
  unfold F_X5_put at hF
  refine x_ct (by decide) rfl (Nat.le_of_ble_eq_true rfl) ?_
  show X mX5_put 7 135 _ _ 34 1915 0 [(0, .ref this), (1, .int p0), (2, .int p1)] [] h
  refine x_iload_n 1 dX5_put_0 rfl rfl ?_
  obtain ⟨z1, hzz1, hF⟩ := x_bind hF
  rcases z1 with w2 | e3
  · have hF := x_sel hF
    refine x_calls (As := [.int p0]) (rest := []) 33 1909 dX5_put_1 mi_X5_requireKey rfl ml_X5_44 rfl rfl (Nat.le_of_ble_eq_true rfl) ⟨by decide, by decide⟩ (by omega) (by omega) (c_X5_requireKey N _ _ _ _ hzz1) (x_K.none ?_) x_KX.none
    refine x_iload_n 2 dX5_put_4 rfl rfl ?_
    obtain ⟨z4, hzz4, hF⟩ := x_bind hF
    rcases z4 with w5 | e6
    · have hF := x_sel hF
      refine x_calls (As := [.int p1]) (rest := []) 32 1903 dX5_put_5 mi_X5_requireValue rfl ml_X5_48 rfl rfl (Nat.le_of_ble_eq_true rfl) ⟨by decide, by decide⟩ (by omega) (by omega) (c_X5_requireValue N _ _ _ _ hzz4) (x_K.none ?_) x_KX.none
      refine x_aload_n 0 dX5_put_8 rfl rfl ?_
      refine x_getr_r dX5_put_9 fl_X5_16 hF (fun v7 hF => ?_)
      refine x_aload_n 0 dX5_put_12 rfl rfl ?_
      refine x_getr_r dX5_put_13 fl_X5_12 hF (fun v8 hF => ?_)
      refine x_nn hF (fun a9 ha9 hF => ?_)
      rw [ha9]
      refine x_nn hF (fun a10 ha10 hF => ?_)
      rw [ha10]
      obtain ⟨z11, hzz11, hF⟩ := x_bind hF
      obtain ⟨⟨fsz11, hbz11⟩, hzz11⟩ := x_cv_sp hzz11
      refine x_callv (As := [.ref a9]) (rest := []) 32 1903 dX5_put_16 mi_X3_copyFrom ml_X5_51 rfl rfl (Nat.le_of_ble_eq_true rfl) ⟨by decide, by decide⟩ (by omega) (by omega) hbz11 rfl (c_X3_copyFrom N _ _ _ _ _ hzz11) (x_K.none ?_) x_KX.none
      refine x_aload_n 0 dX5_put_19 rfl rfl ?_
      refine x_aload_n 0 dX5_put_20 rfl rfl ?_
      refine x_getr_r dX5_put_21 fl_X5_12 hF (fun v12 hF => ?_)
      refine x_iload_n 1 dX5_put_24 rfl rfl ?_
      refine x_iload_n 2 dX5_put_25 rfl rfl ?_
      refine x_nn hF (fun a13 ha13 hF => ?_)
      rw [ha13]
      obtain ⟨z14, hzz14, hF⟩ := x_bind hF
      obtain ⟨⟨fsz14, hbz14⟩, hzz14⟩ := x_cv_sp hzz14
      refine x_callv (As := [.int p0, .int p1]) (rest := [.ref this]) 32 1903 dX5_put_26 mi_X3_tell ml_X5_55 rfl rfl (Nat.le_of_ble_eq_true rfl) ⟨by decide, by decide⟩ (by omega) (by omega) hbz14 rfl (c_X3_tell N _ _ _ _ _ _ hzz14) (x_K.some ?_) x_KX.none
      obtain ⟨z15, hzz15, hF⟩ := x_bind hF
      obtain ⟨⟨fsz15, hbz15⟩, hzz15⟩ := x_cv_sp hzz15
      rcases z15 with w16 | e17
      · have hF := x_sel hF
        refine x_callv (As := [.int z14.1]) (rest := []) 0 0 dX5_put_29 mi_X5_saveUnlessRefused ml_X5_59 rfl rfl (Nat.le_of_ble_eq_true rfl) ⟨by decide, by decide⟩ (by omega) (by omega) hbz15 rfl (c_X5_saveUnlessRefused N _ _ _ _ hzz15) (x_K.some ?_) x_KX.none
        exact x_iret dX5_put_32 rfl (by cases hF; rfl)
      · have hF := x_ser hF
        exact x_callv (As := [.int z14.1]) (rest := []) 0 0 dX5_put_29 mi_X5_saveUnlessRefused ml_X5_59 rfl rfl (Nat.le_of_ble_eq_true rfl) ⟨by decide, by decide⟩ (by omega) (by omega) hbz15 rfl (c_X5_saveUnlessRefused N _ _ _ _ hzz15) x_K.inr (x_KX.out rfl (fun E hm hq => by cases hq; cases hF; rfl))
    · have hF := x_ser hF
      exact x_calls (As := [.int p1]) (rest := []) 32 1903 dX5_put_5 mi_X5_requireValue rfl ml_X5_48 rfl rfl (Nat.le_of_ble_eq_true rfl) ⟨by decide, by decide⟩ (by omega) (by omega) (c_X5_requireValue N _ _ _ _ hzz4) x_K.inr (x_KX.out rfl (fun E hm hq => by cases hq; cases hF; rfl))
  · have hF := x_ser hF
    exact x_calls (As := [.int p0]) (rest := []) 33 1909 dX5_put_1 mi_X5_requireKey rfl ml_X5_44 rfl rfl (Nat.le_of_ble_eq_true rfl) ⟨by decide, by decide⟩ (by omega) (by omega) (c_X5_requireKey N _ _ _ _ hzz1) x_K.inr (x_KX.out rfl (fun E hm hq => by cases hq; cases hF; rfl))
def F_X5_runOf (N : Nat) (f : XM) (this : Nat) (p0 : Int32) : Option ((Int32) ⊕ (Nat)) :=
  (F_X5_requireKey N f p0).bind fun z1 =>
  x_se z1 (fun w2 =>
    (x_getr f 5 this 0).bind fun v4 =>
    Option.bind v4 fun a5 =>
    (x_cv f 3 a5 (F_X3_runTelling N f a5 p0)).bind fun z6 =>
    if z6 = (-1) then
      some (.inr 1)
    else
      some (.inl z6))
    (fun e3 => some (.inr e3))
set_option maxRecDepth 20000 in
set_option maxHeartbeats 4000000 in
theorem c_X5_runOf (N : Nat) (f : XM) (this : Nat) (p0 : Int32) (n : Nat) (r : ((Int32) ⊕ (Nat))) (hF : F_X5_runOf N f this p0 = some r) : x_Ct mX5_runOf 7 110 2 12 [.ref this, .int p0] (f, n) (xr_ipt r (f, n)) := by
  unfold F_X5_runOf at hF
  refine x_ct (by decide) rfl (Nat.le_of_ble_eq_true rfl) ?_
  show X mX5_runOf 7 110 _ _ 2 12 0 [(0, .ref this), (1, .int p0)] [] (f, n)
  refine x_iload_n 1 dX5_runOf_0 rfl rfl ?_
  obtain ⟨z1, hzz1, hF⟩ := x_bind hF
  rcases z1 with w2 | e3
  · have hF := x_sel hF
    refine x_calls (As := [.int p0]) (rest := []) 1 6 dX5_runOf_1 mi_X5_requireKey rfl ml_X5_44 rfl rfl (Nat.le_of_ble_eq_true rfl) ⟨by decide, by decide⟩ (by omega) (by omega) (c_X5_requireKey N _ _ _ _ hzz1) (x_K.none ?_) x_KX.none
    refine x_aload_n 0 dX5_runOf_4 rfl rfl ?_
    refine x_getr_r dX5_runOf_5 fl_X5_12 hF (fun v4 hF => ?_)
    refine x_iload_n 1 dX5_runOf_8 rfl rfl ?_
    refine x_nn hF (fun a5 ha5 hF => ?_)
    rw [ha5]
    obtain ⟨z6, hzz6, hF⟩ := x_bind hF
    obtain ⟨⟨fsz6, hbz6⟩, hzz6⟩ := x_cv_sp hzz6
    refine x_callv (As := [.int p0]) (rest := []) 1 6 dX5_runOf_9 mi_X3_runTelling ml_X5_214 rfl rfl (Nat.le_of_ble_eq_true rfl) ⟨by decide, by decide⟩ (by omega) (by omega) hbz6 rfl (c_X3_runTelling N _ _ _ _ _ hzz6) (x_K.some ?_) x_KX.none
    refine x_istore_n (i := 2) (lv' := [(2, .int z6), (0, .ref this), (1, .int p0)]) dX5_runOf_12 rfl (by decide) rfl ?_
    refine x_iload_n 0 dX5_runOf_13 rfl rfl ?_
    refine x_iconst (-1) (by decide) dX5_runOf_14 ?_
    refine x_icmp_ne 28 dX5_runOf_15 (by decide) hF (fun hF => ?_) (fun hF => ?_)
    · refine x_iload_n 0 dX5_runOf_28 rfl rfl ?_
      exact x_iret dX5_runOf_29 rfl (by cases hF; rfl)
    · exact x_throwS dX5_runOf_18 dX5_runOf_21 dX5_runOf_22 dX5_runOf_24 dX5_runOf_27 rfl tl_ISE sr_X5_217 (by decide) (by decide) (by omega) (by omega) (Nat.le_of_ble_eq_true rfl) (by cases hF; rfl)
  · have hF := x_ser hF
    exact x_calls (As := [.int p0]) (rest := []) 1 6 dX5_runOf_1 mi_X5_requireKey rfl ml_X5_44 rfl rfl (Nat.le_of_ble_eq_true rfl) ⟨by decide, by decide⟩ (by omega) (by omega) (c_X5_requireKey N _ _ _ _ hzz1) x_K.inr (x_KX.out rfl (fun E hm hq => by cases hq; cases hF; rfl))
def F_X5_sizeOf (N : Nat) (f : XM) (this : Nat) (p0 : Int32) : Option ((Int32) ⊕ (Nat)) :=
  (x_getr f 5 this 0).bind fun v1 =>
  Option.bind v1 fun a2 =>
  (x_cv f 3 a2 (F_X3_runOn N f a2 p0)).bind fun z3 =>
  Option.elim z3
    (some (.inr 2))
    (fun a4 => (x_geti f 2 a4 2).bind fun v5 =>
    some (.inl v5))
set_option maxRecDepth 20000 in
set_option maxHeartbeats 4000000 in
theorem c_X5_sizeOf (N : Nat) (f : XM) (this : Nat) (p0 : Int32) (n : Nat) (r : ((Int32) ⊕ (Nat))) (hF : F_X5_sizeOf N f this p0 = some r) : x_Ct mX5_sizeOf 6 90 1 6 [.ref this, .int p0] (f, n) (xr_ipt r (f, n)) := by
  unfold F_X5_sizeOf at hF
  refine x_ct (by decide) rfl (Nat.le_of_ble_eq_true rfl) ?_
  show X mX5_sizeOf 6 90 _ _ 1 6 0 [(0, .ref this), (1, .int p0)] [] (f, n)
  refine x_aload_n 0 dX5_sizeOf_0 rfl rfl ?_
  refine x_getr_r dX5_sizeOf_1 fl_X5_12 hF (fun v1 hF => ?_)
  refine x_iload_n 1 dX5_sizeOf_4 rfl rfl ?_
  refine x_nn hF (fun a2 ha2 hF => ?_)
  rw [ha2]
  obtain ⟨z3, hzz3, hF⟩ := x_bind hF
  obtain ⟨⟨fsz3, hbz3⟩, hzz3⟩ := x_cv_sp hzz3
  refine x_callv (As := [.int p0]) (rest := []) 1 6 dX5_sizeOf_5 mi_X3_runOn ml_X5_200 rfl rfl (Nat.le_of_ble_eq_true rfl) ⟨by decide, by decide⟩ (by omega) (by omega) hbz3 rfl (c_X3_runOn N _ _ _ _ _ hzz3) (x_K.some ?_) x_KX.none
  refine x_astore_nq (i := 2) (lv' := [(2, va_rf z3), (0, .ref this), (1, .int p0)]) dX5_sizeOf_8 rfl (by decide) rfl ?_
  refine x_aload_nq 0 dX5_sizeOf_9 rfl rfl ?_
  refine x_ifnonnull 23 dX5_sizeOf_10 (by decide) hF (fun _ hF => ?_) (fun a4 ha4 hF => ?_)
  · exact x_throwS dX5_sizeOf_13 dX5_sizeOf_16 dX5_sizeOf_17 dX5_sizeOf_19 dX5_sizeOf_22 rfl tl_IOE sr_X5_204 (by decide) (by decide) (by omega) (by omega) (Nat.le_of_ble_eq_true rfl) (by cases hF; rfl)
  · (try rw [ha4])
    refine x_aload_n 0 dX5_sizeOf_23 rfl rfl ?_
    refine x_geti_r dX5_sizeOf_24 fl_X5_133 hF (fun v5 hF => ?_)
    exact x_iret dX5_sizeOf_27 rfl (by cases hF; rfl)
def F_X5_latestSaved (N : Nat) (f : XM) (this : Nat) : Option (Option Nat) :=
  (x_geti f 5 this 3).bind fun v1 =>
  if (v1 - 1) < 0 then
    some none
  else
    (x_getr f 5 this 2).bind fun v2 =>
    Option.bind v2 fun a3 =>
    (x_alen f a3).bind fun v4 =>
    if (v1 - 1) < v4 then
      (x_getr f 5 this 2).bind fun v5 =>
      Option.bind v5 fun a6 =>
      (x_aldr f 3 a6 (v1 - 1)).bind fun v7 =>
      some v7
    else
      some none
set_option maxRecDepth 20000 in
set_option maxHeartbeats 4000000 in
theorem c_X5_latestSaved (N : Nat) (f : XM) (this : Nat) (n : Nat) (r : (Option Nat)) (hF : F_X5_latestSaved N f this = some r) : x_Ct mX5_latestSaved 0 0 0 0 [.ref this] (f, n) (xr_qp r (f, n)) := by
  unfold F_X5_latestSaved at hF
  refine x_ct (by decide) rfl (Nat.le_of_ble_eq_true rfl) ?_
  show X mX5_latestSaved 0 0 _ _ 0 0 0 [(0, .ref this)] [] (f, n)
  refine x_aload_n 0 dX5_latestSaved_0 rfl rfl ?_
  refine x_geti_r dX5_latestSaved_1 fl_X5_157 hF (fun v1 hF => ?_)
  refine x_iconst 1 (by decide) dX5_latestSaved_4 ?_
  refine x_isub dX5_latestSaved_5 ?_
  refine x_istore_n (i := 1) (lv' := [(1, .int (v1 - 1)), (0, .ref this)]) dX5_latestSaved_6 rfl (by decide) rfl ?_
  refine x_iload_n 0 dX5_latestSaved_7 rfl rfl ?_
  refine x_if_lt 20 dX5_latestSaved_8 (by decide) hF (fun hF => ?_) (fun hF => ?_)
  · refine x_null dX5_latestSaved_20 ?_
    refine x_goto 30 dX5_latestSaved_21 (by decide) ?_
    exact x_aret (r := none) dX5_latestSaved_30 rfl (by cases hF; rfl)
  · refine x_iload_n 0 dX5_latestSaved_11 rfl rfl ?_
    refine x_aload_n 1 dX5_latestSaved_12 rfl rfl ?_
    refine x_getr_r dX5_latestSaved_13 fl_X5_19 hF (fun v2 hF => ?_)
    refine x_nn hF (fun a3 ha3 hF => ?_)
    rw [ha3]
    refine x_alen_r dX5_latestSaved_16 hF (fun v4 hF => ?_)
    refine x_icmp_lt 24 dX5_latestSaved_17 (by decide) hF (fun hF => ?_) (fun hF => ?_)
    · refine x_aload_n 1 dX5_latestSaved_24 rfl rfl ?_
      refine x_getr_r dX5_latestSaved_25 fl_X5_19 hF (fun v5 hF => ?_)
      refine x_iload_n 0 dX5_latestSaved_28 rfl rfl ?_
      refine x_nn hF (fun a6 ha6 hF => ?_)
      rw [ha6]
      refine x_aldr_r 3 dX5_latestSaved_29 hF (fun v7 hF => ?_)
      exact x_aret (r := v7) dX5_latestSaved_30 rfl (by cases hF; rfl)
    · refine x_null dX5_latestSaved_20 ?_
      refine x_goto 30 dX5_latestSaved_21 (by decide) ?_
      exact x_aret (r := none) dX5_latestSaved_30 rfl (by cases hF; rfl)
def F_X5_undo (N : Nat) (f : XM) (this : Nat) : Option ((XM) ⊕ (Nat × XM)) :=
  (x_cv f 5 this (F_X5_latestSaved N f this)).bind fun z1 =>
  Option.elim z1
    (some (.inr (1, f)))
    (fun a2 => (x_getr f 5 this 0).bind fun v3 =>
    Option.bind v3 fun a4 =>
    (x_cv f 3 a4 (F_X3_copyFrom N f a4 a2)).bind fun z5 =>
    (x_geti z5 5 this 3).bind fun v6 =>
    (x_puti z5 5 this 3 (v6 - 1)).bind fun f7 =>
    some (.inl f7))
set_option maxRecDepth 20000 in
set_option maxHeartbeats 4000000 in
theorem c_X5_undo (N : Nat) (f : XM) (this : Nat) (n : Nat) (r : ((XM) ⊕ (Nat × XM))) (hF : F_X5_undo N f this = some r) : x_Ct mX5_undo 6 135 1 6 [.ref this] (f, n) (xr_vmt r n) := by
  unfold F_X5_undo at hF
  refine x_ct (by decide) rfl (Nat.le_of_ble_eq_true rfl) ?_
  show X mX5_undo 6 135 _ _ 1 6 0 [(0, .ref this)] [] (f, n)
  refine x_aload_n 0 dX5_undo_0 rfl rfl ?_
  obtain ⟨z1, hzz1, hF⟩ := x_bind hF
  obtain ⟨⟨fsz1, hbz1⟩, hzz1⟩ := x_cv_sp hzz1
  refine x_callv (As := []) (rest := []) 1 6 dX5_undo_1 mi_X5_latestSaved ml_X5_151 rfl rfl (Nat.le_of_ble_eq_true rfl) ⟨by decide, by decide⟩ (by omega) (by omega) hbz1 rfl (c_X5_latestSaved N _ _ _ _ hzz1) (x_K.some ?_) x_KX.none
  refine x_astore_nq (i := 1) (lv' := [(1, va_rf z1), (0, .ref this)]) dX5_undo_4 rfl (by decide) rfl ?_
  refine x_aload_nq 0 dX5_undo_5 rfl rfl ?_
  refine x_ifnonnull 19 dX5_undo_6 (by decide) hF (fun _ hF => ?_) (fun a2 ha2 hF => ?_)
  · exact x_throwS dX5_undo_9 dX5_undo_12 dX5_undo_13 dX5_undo_15 dX5_undo_18 rfl tl_ISE sr_X5_155 (by decide) (by decide) (by omega) (by omega) (Nat.le_of_ble_eq_true rfl) (by cases hF; rfl)
  · (try rw [ha2])
    refine x_aload_n 1 dX5_undo_19 rfl rfl ?_
    refine x_getr_r dX5_undo_20 fl_X5_12 hF (fun v3 hF => ?_)
    refine x_aload_n 0 dX5_undo_23 rfl rfl ?_
    refine x_nn hF (fun a4 ha4 hF => ?_)
    rw [ha4]
    obtain ⟨z5, hzz5, hF⟩ := x_bind hF
    obtain ⟨⟨fsz5, hbz5⟩, hzz5⟩ := x_cv_sp hzz5
    refine x_callv (As := [.ref a2]) (rest := []) 1 6 dX5_undo_24 mi_X3_copyFrom ml_X5_51 rfl rfl (Nat.le_of_ble_eq_true rfl) ⟨by decide, by decide⟩ (by omega) (by omega) hbz5 rfl (c_X3_copyFrom N _ _ _ _ _ hzz5) (x_K.none ?_) x_KX.none
    refine x_aload_n 1 dX5_undo_27 rfl rfl ?_
    refine x_dupr dX5_undo_28 ?_
    refine x_geti_r dX5_undo_29 fl_X5_157 hF (fun v6 hF => ?_)
    refine x_iconst 1 (by decide) dX5_undo_32 ?_
    refine x_isub dX5_undo_33 ?_
    refine x_puti_r dX5_undo_34 fl_X5_157 (fun h9 => by cases h9) hF (fun f7 hF => ?_)
    exact x_vret dX5_undo_37 rfl (by cases hF; rfl)
def F_X5_valueOf (N : Nat) (f : XM) (this : Nat) (p0 : Int32) : Option ((Int32) ⊕ (Nat)) :=
  (F_X5_requireKey N f p0).bind fun z1 =>
  x_se z1 (fun w2 =>
    (x_getr f 5 this 0).bind fun v4 =>
    Option.bind v4 fun a5 =>
    (x_cv f 3 a5 (F_X3_standingValue N f a5 p0)).bind fun z6 =>
    if z6 = (-1) then
      some (.inr 1)
    else
      some (.inl z6))
    (fun e3 => some (.inr e3))
set_option maxRecDepth 20000 in
set_option maxHeartbeats 4000000 in
theorem c_X5_valueOf (N : Nat) (f : XM) (this : Nat) (p0 : Int32) (n : Nat) (r : ((Int32) ⊕ (Nat))) (hF : F_X5_valueOf N f this p0 = some r) : x_Ct mX5_valueOf 7 110 2 12 [.ref this, .int p0] (f, n) (xr_ipt r (f, n)) := by
  unfold F_X5_valueOf at hF
  refine x_ct (by decide) rfl (Nat.le_of_ble_eq_true rfl) ?_
  show X mX5_valueOf 7 110 _ _ 2 12 0 [(0, .ref this), (1, .int p0)] [] (f, n)
  refine x_iload_n 1 dX5_valueOf_0 rfl rfl ?_
  obtain ⟨z1, hzz1, hF⟩ := x_bind hF
  rcases z1 with w2 | e3
  · have hF := x_sel hF
    refine x_calls (As := [.int p0]) (rest := []) 1 6 dX5_valueOf_1 mi_X5_requireKey rfl ml_X5_44 rfl rfl (Nat.le_of_ble_eq_true rfl) ⟨by decide, by decide⟩ (by omega) (by omega) (c_X5_requireKey N _ _ _ _ hzz1) (x_K.none ?_) x_KX.none
    refine x_aload_n 0 dX5_valueOf_4 rfl rfl ?_
    refine x_getr_r dX5_valueOf_5 fl_X5_12 hF (fun v4 hF => ?_)
    refine x_iload_n 1 dX5_valueOf_8 rfl rfl ?_
    refine x_nn hF (fun a5 ha5 hF => ?_)
    rw [ha5]
    obtain ⟨z6, hzz6, hF⟩ := x_bind hF
    obtain ⟨⟨fsz6, hbz6⟩, hzz6⟩ := x_cv_sp hzz6
    refine x_callv (As := [.int p0]) (rest := []) 1 6 dX5_valueOf_9 mi_X3_standingValue ml_X5_160 rfl rfl (Nat.le_of_ble_eq_true rfl) ⟨by decide, by decide⟩ (by omega) (by omega) hbz6 rfl (c_X3_standingValue N _ _ _ _ _ hzz6) (x_K.some ?_) x_KX.none
    refine x_istore_n (i := 2) (lv' := [(2, .int z6), (0, .ref this), (1, .int p0)]) dX5_valueOf_12 rfl (by decide) rfl ?_
    refine x_iload_n 0 dX5_valueOf_13 rfl rfl ?_
    refine x_iconst (-1) (by decide) dX5_valueOf_14 ?_
    refine x_icmp_ne 28 dX5_valueOf_15 (by decide) hF (fun hF => ?_) (fun hF => ?_)
    · refine x_iload_n 0 dX5_valueOf_28 rfl rfl ?_
      exact x_iret dX5_valueOf_29 rfl (by cases hF; rfl)
    · exact x_throwS dX5_valueOf_18 dX5_valueOf_21 dX5_valueOf_22 dX5_valueOf_24 dX5_valueOf_27 rfl tl_ISE sr_X5_167 (by decide) (by decide) (by omega) (by omega) (Nat.le_of_ble_eq_true rfl) (by cases hF; rfl)
  · have hF := x_ser hF
    exact x_calls (As := [.int p0]) (rest := []) 1 6 dX5_valueOf_1 mi_X5_requireKey rfl ml_X5_44 rfl rfl (Nat.le_of_ble_eq_true rfl) ⟨by decide, by decide⟩ (by omega) (by omega) (c_X5_requireKey N _ _ _ _ hzz1) x_K.inr (x_KX.out rfl (fun E hm hq => by cases hq; cases hF; rfl))
def F_X5_bitsOf_L18 (N : Nat) (f : XM) (K : UInt64 → Int64 → Int32 → Option Int64) : Nat → UInt64 → Int64 → Int32 → Option Int64
  | 0, _, _, _ => none
  | k + 1, x2, x4, x6 =>
    if 1023 ≤ x6 then
      K x2 x4 x6
    else
      if (Op.cmpValue (FP.dcmp x2 (4611686018427387904 : UInt64)) CmpOp.l) < 0 then
        K x2 x4 x6
      else
        (x_dn (FP.dmul x2 (4602678819172646912 : UInt64))).bind fun v2 =>
        F_X5_bitsOf_L18 N f K k v2 (x4 + (1 : Int64)) (x6 + 1)
def F_X5_bitsOf_L55 (N : Nat) (f : XM) (K : UInt64 → Int64 → Int32 → Option Int64) : Nat → UInt64 → Int64 → Int32 → Option Int64
  | 0, _, _, _ => none
  | k + 1, x2, x4, x6 =>
    if 1022 ≤ x6 then
      K x2 x4 x6
    else
      if 0 ≤ (Op.cmpValue (FP.dcmp x2 FP.dconst1) CmpOp.g) then
        K x2 x4 x6
      else
        (x_dn (FP.dmul x2 (4611686018427387904 : UInt64))).bind fun v5 =>
        F_X5_bitsOf_L55 N f K k v5 (x4 - (1 : Int64)) (x6 + 1)
def F_X5_bitsOf (N : Nat) (f : XM) (p0 : UInt64) : Option Int64 :=
  if 0 < (Op.cmpValue (FP.dcmp p0 FP.dconst0) CmpOp.l) then
    F_X5_bitsOf_L18 N f (fun y2_3 y4_3 y6_3 =>
    F_X5_bitsOf_L55 N f (fun y2_6 y4_6 y6_6 =>
    (x_dn (FP.dsub y2_6 FP.dconst1)).bind fun v7 =>
    (x_dn (FP.dmul v7 (4841369599423283200 : UInt64))).bind fun v8 =>
    some (((y4_6) <<< ((52 : Int32).toInt64 &&& 63)) + (FP.d2l v8))) N y2_3 y4_3 0) N p0 (1023 : Int64) 0
  else
    some (0 : Int64)
set_option maxRecDepth 20000 in
set_option maxHeartbeats 4000000 in
theorem w_X5_bitsOf_L18 (N : Nat) (f : XM) (K : UInt64 → Int64 → Int32 → Option Int64) (n : Nat) (r : Int64) {rc rs : Nat} : ∀ (k : Nat) (x2 : UInt64) (x4 : Int64) (x6 : Int32), F_X5_bitsOf_L18 N f K k x2 x4 x6 = some r → (∀ (x2 : UInt64) (x4 : Int64) (x6 : Int32), K x2 x4 x6 = some r → X mX5_bitsOf 0 0 (x_end (xr_lp r (f, n))) x_noRO rc rs 52 [(2, .double x2), (4, .long x4), (6, .int x6)] [] (f, n)) → X mX5_bitsOf 0 0 (x_end (xr_lp r (f, n))) x_noRO rc rs 18 [(2, .double x2), (4, .long x4), (6, .int x6)] [] (f, n) := by
  intro k
  induction k with
  | zero =>
    intro x2 x4 x6 hF
    exact absurd hF (by intro h9; cases h9)
  | succ k ih =>
    intro x2 x4 x6 hF hK
    have ih := fun x2 x4 x6 hF => ih x2 x4 x6 hF hK
    rw [F_X5_bitsOf_L18] at hF
    refine x_iload 2 dX5_bitsOf_18 rfl ?_
    refine x_sipush 1023 (by decide) dX5_bitsOf_20 ?_
    refine x_icmp_ge 52 dX5_bitsOf_23 (by decide) hF (fun hF => ?_) (fun hF => ?_)
    · refine x_sub [0, 1, 2] rfl ?_
      exact hK _ _ _ hF
    · refine x_dload_n 0 dX5_bitsOf_26 rfl rfl ?_
      refine x_ldc2d kc_X5_399 dX5_bitsOf_27 ?_
      refine x_dcmp dX5_bitsOf_30 ?_
      refine x_if_lt 52 dX5_bitsOf_31 (by decide) hF (fun hF => ?_) (fun hF => ?_)
      · refine x_sub [0, 1, 2] rfl ?_
        exact hK _ _ _ hF
      · refine x_dload_n 0 dX5_bitsOf_34 rfl rfl ?_
        refine x_ldc2d kc_X5_401 dX5_bitsOf_35 ?_
        refine x_dmul dX5_bitsOf_38 hF (fun v2 hF => ?_)
        refine x_dstore_n (i := 2) (lv' := [(2, .double v2), (4, .long x4), (6, .int x6)]) dX5_bitsOf_39 rfl (by decide) rfl ?_
        refine x_lload 1 dX5_bitsOf_40 rfl ?_
        refine x_lconst 1 (by decide) dX5_bitsOf_42 ?_
        refine x_ladd dX5_bitsOf_43 ?_
        refine x_lstore (i := 4) (lv' := [(4, .long (x4 + (1 : Int64))), (2, .double v2), (6, .int x6)]) dX5_bitsOf_44 (by decide) rfl ?_
        refine x_iinc (x6 + 1) (lv' := [(6, .int (x6 + 1)), (4, .long (x4 + (1 : Int64))), (2, .double v2)]) dX5_bitsOf_46 2 rfl (by rfl) (by decide) rfl ?_
        refine x_goto 18 dX5_bitsOf_49 (by decide) ?_
        refine x_sub [2, 1, 0] rfl ?_
        exact ih _ _ _ hF
set_option maxRecDepth 20000 in
set_option maxHeartbeats 4000000 in
theorem w_X5_bitsOf_L55 (N : Nat) (f : XM) (K : UInt64 → Int64 → Int32 → Option Int64) (n : Nat) (r : Int64) {rc rs : Nat} : ∀ (k : Nat) (x2 : UInt64) (x4 : Int64) (x6 : Int32), F_X5_bitsOf_L55 N f K k x2 x4 x6 = some r → (∀ (x2 : UInt64) (x4 : Int64) (x6 : Int32), K x2 x4 x6 = some r → X mX5_bitsOf 0 0 (x_end (xr_lp r (f, n))) x_noRO rc rs 87 [(2, .double x2), (4, .long x4), (6, .int x6)] [] (f, n)) → X mX5_bitsOf 0 0 (x_end (xr_lp r (f, n))) x_noRO rc rs 55 [(2, .double x2), (4, .long x4), (6, .int x6)] [] (f, n) := by
  intro k
  induction k with
  | zero =>
    intro x2 x4 x6 hF
    exact absurd hF (by intro h9; cases h9)
  | succ k ih =>
    intro x2 x4 x6 hF hK
    have ih := fun x2 x4 x6 hF => ih x2 x4 x6 hF hK
    rw [F_X5_bitsOf_L55] at hF
    refine x_iload 2 dX5_bitsOf_55 rfl ?_
    refine x_sipush 1022 (by decide) dX5_bitsOf_57 ?_
    refine x_icmp_ge 87 dX5_bitsOf_60 (by decide) hF (fun hF => ?_) (fun hF => ?_)
    · refine x_sub [0, 1, 2] rfl ?_
      exact hK _ _ _ hF
    · refine x_dload_n 0 dX5_bitsOf_63 rfl rfl ?_
      refine x_dconst1 dX5_bitsOf_64 ?_
      refine x_dcmp dX5_bitsOf_65 ?_
      refine x_if_ge 87 dX5_bitsOf_66 (by decide) hF (fun hF => ?_) (fun hF => ?_)
      · refine x_sub [0, 1, 2] rfl ?_
        exact hK _ _ _ hF
      · refine x_dload_n 0 dX5_bitsOf_69 rfl rfl ?_
        refine x_ldc2d kc_X5_399 dX5_bitsOf_70 ?_
        refine x_dmul dX5_bitsOf_73 hF (fun v5 hF => ?_)
        refine x_dstore_n (i := 2) (lv' := [(2, .double v5), (4, .long x4), (6, .int x6)]) dX5_bitsOf_74 rfl (by decide) rfl ?_
        refine x_lload 1 dX5_bitsOf_75 rfl ?_
        refine x_lconst 1 (by decide) dX5_bitsOf_77 ?_
        refine x_lsub dX5_bitsOf_78 ?_
        refine x_lstore (i := 4) (lv' := [(4, .long (x4 - (1 : Int64))), (2, .double v5), (6, .int x6)]) dX5_bitsOf_79 (by decide) rfl ?_
        refine x_iinc (x6 + 1) (lv' := [(6, .int (x6 + 1)), (4, .long (x4 - (1 : Int64))), (2, .double v5)]) dX5_bitsOf_81 2 rfl (by rfl) (by decide) rfl ?_
        refine x_goto 55 dX5_bitsOf_84 (by decide) ?_
        refine x_sub [2, 1, 0] rfl ?_
        exact ih _ _ _ hF
set_option maxRecDepth 20000 in
set_option maxHeartbeats 4000000 in
theorem c_X5_bitsOf (N : Nat) (f : XM) (p0 : UInt64) (n : Nat) (r : Int64) (hF : F_X5_bitsOf N f p0 = some r) : x_Ct mX5_bitsOf 0 0 0 0 [.double p0] (f, n) (xr_lp r (f, n)) := by
  unfold F_X5_bitsOf at hF
  refine x_ct (by decide) rfl (Nat.le_of_ble_eq_true rfl) ?_
  show X mX5_bitsOf 0 0 _ _ 0 0 0 [(0, .double p0)] [] (f, n)
  refine x_dload_n 0 dX5_bitsOf_0 rfl rfl ?_
  refine x_dconst0 dX5_bitsOf_1 ?_
  refine x_dcmp dX5_bitsOf_2 ?_
  refine x_if_gt 8 dX5_bitsOf_3 (by decide) hF (fun hF => ?_) (fun hF => ?_)
  · refine x_dload_n 0 dX5_bitsOf_8 rfl rfl ?_
    refine x_dstore_n (i := 2) (lv' := [(2, .double p0), (0, .double p0)]) dX5_bitsOf_9 rfl (by decide) rfl ?_
    refine x_ldc2 kc_X5_397 dX5_bitsOf_10 ?_
    refine x_lstore (i := 4) (lv' := [(4, .long (1023 : Int64)), (2, .double p0), (0, .double p0)]) dX5_bitsOf_13 (by decide) rfl ?_
    refine x_iconst 0 (by decide) dX5_bitsOf_15 ?_
    refine x_istore (i := 6) (lv' := [(6, .int 0), (4, .long (1023 : Int64)), (2, .double p0), (0, .double p0)]) dX5_bitsOf_16 (by decide) rfl ?_
    refine x_sub [2, 1, 0] rfl ?_
    refine w_X5_bitsOf_L18 N _ _ _ r _ _ _ _ hF (fun y2_3 y4_3 y6_3 hF => ?_)
    refine x_iconst 0 (by decide) dX5_bitsOf_52 ?_
    refine x_istore (i := 6) (lv' := [(6, .int 0), (2, .double y2_3), (4, .long y4_3)]) dX5_bitsOf_53 (by decide) rfl ?_
    refine x_sub [1, 2, 0] rfl ?_
    refine w_X5_bitsOf_L55 N _ _ _ r _ _ _ _ hF (fun y2_6 y4_6 y6_6 hF => ?_)
    refine x_lload 1 dX5_bitsOf_87 rfl ?_
    refine x_bipush 52 (by decide) dX5_bitsOf_89 ?_
    refine x_lshl dX5_bitsOf_91 ?_
    refine x_dload_n 0 dX5_bitsOf_92 rfl rfl ?_
    refine x_dconst1 dX5_bitsOf_93 ?_
    refine x_dsub dX5_bitsOf_94 hF (fun v7 hF => ?_)
    refine x_ldc2d kc_X5_403 dX5_bitsOf_95 ?_
    refine x_dmul dX5_bitsOf_98 hF (fun v8 hF => ?_)
    refine x_d2l dX5_bitsOf_99 ?_
    refine x_ladd dX5_bitsOf_100 ?_
    exact x_lret dX5_bitsOf_101 rfl (by cases hF; rfl)
  · refine x_lconst 0 (by decide) dX5_bitsOf_6 ?_
    exact x_lret dX5_bitsOf_7 rfl (by cases hF; rfl)
def F_X5_builds (N : Nat) (f : XM) (this : Nat) : Option Int32 :=
  (x_getr f 5 this 0).bind fun v1 =>
  Option.bind v1 fun a2 =>
  (x_geti f 3 a2 6).bind fun v3 =>
  some v3
set_option maxRecDepth 20000 in
set_option maxHeartbeats 4000000 in
theorem c_X5_builds (N : Nat) (f : XM) (this : Nat) (n : Nat) (r : Int32) (hF : F_X5_builds N f this = some r) : x_Ct mX5_builds 0 0 0 0 [.ref this] (f, n) (xr_ip r (f, n)) := by
  unfold F_X5_builds at hF
  refine x_ct (by decide) rfl (Nat.le_of_ble_eq_true rfl) ?_
  show X mX5_builds 0 0 _ _ 0 0 0 [(0, .ref this)] [] (f, n)
  refine x_aload_n 0 dX5_builds_0 rfl rfl ?_
  refine x_getr_r dX5_builds_1 fl_X5_12 hF (fun v1 hF => ?_)
  refine x_nn hF (fun a2 ha2 hF => ?_)
  rw [ha2]
  refine x_geti_r dX5_builds_4 fl_X5_272 hF (fun v3 hF => ?_)
  exact x_iret dX5_builds_7 rfl (by cases hF; rfl)
def F_X5_clearBuffer (N : Nat) (f : XM) (this : Nat) : Option (Int32 × XM) :=
  (x_geti f 5 this 6).bind fun v1 =>
  (x_puti f 5 this 6 0).bind fun f2 =>
  some (v1, f2)
set_option maxRecDepth 20000 in
set_option maxHeartbeats 4000000 in
theorem c_X5_clearBuffer (N : Nat) (f : XM) (this : Nat) (n : Nat) (r : (Int32 × XM)) (hF : F_X5_clearBuffer N f this = some r) : x_Ct mX5_clearBuffer 0 0 0 0 [.ref this] (f, n) (xr_im r n) := by
  unfold F_X5_clearBuffer at hF
  refine x_ct (by decide) rfl (Nat.le_of_ble_eq_true rfl) ?_
  show X mX5_clearBuffer 0 0 _ _ 0 0 0 [(0, .ref this)] [] (f, n)
  refine x_aload_n 0 dX5_clearBuffer_0 rfl rfl ?_
  refine x_geti_r dX5_clearBuffer_1 fl_X5_105 hF (fun v1 hF => ?_)
  refine x_istore_n (i := 1) (lv' := [(1, .int v1), (0, .ref this)]) dX5_clearBuffer_4 rfl (by decide) rfl ?_
  refine x_aload_n 1 dX5_clearBuffer_5 rfl rfl ?_
  refine x_iconst 0 (by decide) dX5_clearBuffer_6 ?_
  refine x_puti_r dX5_clearBuffer_7 fl_X5_105 (fun h9 => by cases h9) hF (fun f2 hF => ?_)
  refine x_iload_n 0 dX5_clearBuffer_10 rfl rfl ?_
  exact x_iret dX5_clearBuffer_11 rfl (by cases hF; rfl)
def F_X5_mix (N : Nat) (f : XM) (p0 : Int64) (p1 : Int64) : Option Int64 :=
  some (((31 : Int64) * p0) + p1)
set_option maxRecDepth 20000 in
set_option maxHeartbeats 4000000 in
theorem c_X5_mix (N : Nat) (f : XM) (p0 : Int64) (p1 : Int64) (n : Nat) (r : Int64) (hF : F_X5_mix N f p0 p1 = some r) : x_Ct mX5_mix 0 0 0 0 [.long p0, .long p1] (f, n) (xr_lp r (f, n)) := by
  unfold F_X5_mix at hF
  refine x_ct (by decide) rfl (Nat.le_of_ble_eq_true rfl) ?_
  show X mX5_mix 0 0 _ _ 0 0 0 [(0, .long p0), (2, .long p1)] [] (f, n)
  refine x_ldc2 kc_X5_377 dX5_mix_0 ?_
  refine x_lload_n 0 dX5_mix_3 rfl rfl ?_
  refine x_lmul dX5_mix_4 ?_
  refine x_lload_n 1 dX5_mix_5 rfl rfl ?_
  refine x_ladd dX5_mix_6 ?_
  exact x_lret dX5_mix_7 rfl (by cases hF; rfl)
def F_X5_mixFlag (N : Nat) (f : XM) (p0 : Int64) (p1 : Bool) : Option Int64 :=
  if (x_b p1) = 0 then
    (F_X5_mix N f p0 (0 : Int64)).bind fun z1 =>
    some z1
  else
    (F_X5_mix N f p0 (1 : Int64)).bind fun z2 =>
    some z2
set_option maxRecDepth 20000 in
set_option maxHeartbeats 4000000 in
theorem c_X5_mixFlag (N : Nat) (f : XM) (p0 : Int64) (p1 : Bool) (n : Nat) (r : Int64) (hF : F_X5_mixFlag N f p0 p1 = some r) : x_Ct mX5_mixFlag 1 23 0 0 [.long p0, .int (x_b p1)] (f, n) (xr_lp r (f, n)) := by
  unfold F_X5_mixFlag at hF
  refine x_ct (by decide) rfl (Nat.le_of_ble_eq_true rfl) ?_
  show X mX5_mixFlag 1 23 _ _ 0 0 0 [(0, .long p0), (2, .int (x_b p1))] [] (f, n)
  refine x_lload_n 0 dX5_mixFlag_0 rfl rfl ?_
  refine x_iload_n 1 dX5_mixFlag_1 rfl rfl ?_
  refine x_if_eq 9 dX5_mixFlag_2 (by decide) hF (fun hF => ?_) (fun hF => ?_)
  · refine x_lconst 0 (by decide) dX5_mixFlag_9 ?_
    obtain ⟨z1, hzz1, hF⟩ := x_bind hF
    refine x_calls (As := [.long p0, .long (0 : Int64)]) (rest := []) 0 0 dX5_mixFlag_10 mi_X5_mix rfl ml_X5_379 rfl rfl (Nat.le_of_ble_eq_true rfl) ⟨by decide, by decide⟩ (by omega) (by omega) (c_X5_mix N _ _ _ _ _ hzz1) (x_K.some ?_) x_KX.none
    exact x_lret dX5_mixFlag_13 rfl (by cases hF; rfl)
  · refine x_lconst 1 (by decide) dX5_mixFlag_5 ?_
    refine x_goto 10 dX5_mixFlag_6 (by decide) ?_
    obtain ⟨z2, hzz2, hF⟩ := x_bind hF
    refine x_calls (As := [.long p0, .long (1 : Int64)]) (rest := []) 0 0 dX5_mixFlag_10 mi_X5_mix rfl ml_X5_379 rfl rfl (Nat.le_of_ble_eq_true rfl) ⟨by decide, by decide⟩ (by omega) (by omega) (c_X5_mix N _ _ _ _ _ hzz2) (x_K.some ?_) x_KX.none
    exact x_lret dX5_mixFlag_13 rfl (by cases hF; rfl)
def F_X5_hashOfRuns_L61 (N : Nat) (f : XM) (c0 : Nat) (c5 : Int32) (c6 : Nat) (K : Int64 → Int32 → Option Int64) : Nat → Int64 → Int32 → Option Int64
  | 0, _, _ => none
  | k + 1, x3, x7 =>
    (x_geti f 2 c6 2).bind fun v16 =>
    if v16 ≤ x7 then
      K x3 x7
    else
      (x_cv f 2 c6 (F_X2_keyOn N f c6 x7)).bind fun z17 =>
      (F_X5_mix N f x3 ((z17 : Int32).toInt64)).bind fun z18 =>
      (x_cv f 2 c6 (F_X2_valueOn N f c6 x7)).bind fun z19 =>
      if z19 = (-1) then
        (F_X5_mixFlag N f z18 true).bind fun z21 =>
        F_X5_hashOfRuns_L61 N f c0 c5 c6 K k z21 (x7 + 1)
      else
        (F_X5_mixFlag N f z18 false).bind fun z20 =>
        F_X5_hashOfRuns_L61 N f c0 c5 c6 K k z20 (x7 + 1)
def F_X5_hashOfRuns_L16 (N : Nat) (f : XM) (c0 : Nat) (K : Int64 → Int32 → Option Int64) : Nat → Int64 → Int32 → Option Int64
  | 0, _, _ => none
  | k + 1, x3, x5 =>
    (x_getr f 5 c0 0).bind fun v6 =>
    Option.bind v6 fun a7 =>
    (x_geti f 3 a7 2).bind fun v8 =>
    if v8 < x5 then
      K x3 x5
    else
      (x_getr f 5 c0 0).bind fun v9 =>
      Option.bind v9 fun a10 =>
      (x_cv f 3 a10 (F_X3_runOn N f a10 x5)).bind fun z11 =>
      Option.elim z11
        (F_X5_hashOfRuns_L16 N f c0 K k x3 (x5 + 1))
        (fun a12 => (x_geti f 2 a12 2).bind fun v13 =>
        (F_X5_mix N f x3 ((v13 : Int32).toInt64)).bind fun z14 =>
        F_X5_hashOfRuns_L61 N f c0 x5 a12 (fun y3_22 y7_22 =>
        F_X5_hashOfRuns_L16 N f c0 K k y3_22 (x5 + 1)) N z14 0)
def F_X5_hashOfRuns (N : Nat) (f : XM) (this : Nat) (p0 : Int64) : Option Int64 :=
  (x_getr f 5 this 0).bind fun v1 =>
  Option.bind v1 fun a2 =>
  (x_geti f 3 a2 2).bind fun v3 =>
  (F_X5_mix N f p0 ((v3 : Int32).toInt64)).bind fun z4 =>
  F_X5_hashOfRuns_L16 N f this (fun y3_23 y5_23 =>
  some y3_23) N z4 0
set_option maxRecDepth 20000 in
set_option maxHeartbeats 4000000 in
theorem w_X5_hashOfRuns_L61 (N : Nat) (f : XM) (c0 : Nat) (c5 : Int32) (c6 : Nat) (K : Int64 → Int32 → Option Int64) (n : Nat) (r : Int64) {rc rs : Nat} : ∀ (k : Nat) (x3 : Int64) (x7 : Int32), F_X5_hashOfRuns_L61 N f c0 c5 c6 K k x3 x7 = some r → (∀ (x3 : Int64) (x7 : Int32), K x3 x7 = some r → X mX5_hashOfRuns 2 45 (x_end (xr_lp r (f, n))) x_noRO rc rs 111 [(0, .ref c0), (3, .long x3), (5, .int c5), (6, .ref c6), (7, .int x7)] [] (f, n)) → X mX5_hashOfRuns 2 45 (x_end (xr_lp r (f, n))) x_noRO rc rs 61 [(0, .ref c0), (3, .long x3), (5, .int c5), (6, .ref c6), (7, .int x7)] [] (f, n) := by
  intro k
  induction k with
  | zero =>
    intro x3 x7 hF
    exact absurd hF (by intro h9; cases h9)
  | succ k ih =>
    intro x3 x7 hF hK
    have ih := fun x3 x7 hF => ih x3 x7 hF hK
    rw [F_X5_hashOfRuns_L61] at hF
    refine x_iload 4 dX5_hashOfRuns_61 rfl ?_
    refine x_aload 3 dX5_hashOfRuns_63 rfl ?_
    refine x_geti_r dX5_hashOfRuns_65 fl_X5_133 hF (fun v16 hF => ?_)
    refine x_icmp_ge 111 dX5_hashOfRuns_68 (by decide) hF (fun hF => ?_) (fun hF => ?_)
    · refine x_sub [0, 1, 2, 3, 4] rfl ?_
      exact hK _ _ hF
    · refine x_lload_n 1 dX5_hashOfRuns_71 rfl rfl ?_
      refine x_aload 3 dX5_hashOfRuns_72 rfl ?_
      refine x_iload 4 dX5_hashOfRuns_74 rfl ?_
      obtain ⟨z17, hzz17, hF⟩ := x_bind hF
      obtain ⟨⟨fsz17, hbz17⟩, hzz17⟩ := x_cv_sp hzz17
      refine x_callv (As := [.int x7]) (rest := [.long x3]) (rc + 0) (rs + 0) dX5_hashOfRuns_76 mi_X2_keyOn ml_X5_185 rfl rfl (Nat.le_of_ble_eq_true rfl) ⟨by decide, by decide⟩ (by omega) (by omega) hbz17 rfl (c_X2_keyOn N _ _ _ _ _ hzz17) (x_K.some ?_) x_KX.none
      refine x_i2l dX5_hashOfRuns_79 ?_
      obtain ⟨z18, hzz18, hF⟩ := x_bind hF
      refine x_calls (As := [.long x3, .long ((z17 : Int32).toInt64)]) (rest := []) (rc + 0) (rs + 0) dX5_hashOfRuns_80 mi_X5_mix rfl ml_X5_379 rfl rfl (Nat.le_of_ble_eq_true rfl) ⟨by decide, by decide⟩ (by omega) (by omega) (c_X5_mix N _ _ _ _ _ hzz18) (x_K.some ?_) x_KX.none
      refine x_lstore_n (i := 3) (lv' := [(3, .long z18), (0, .ref c0), (5, .int c5), (6, .ref c6), (7, .int x7)]) dX5_hashOfRuns_83 rfl (by decide) rfl ?_
      refine x_lload_n 0 dX5_hashOfRuns_84 rfl rfl ?_
      refine x_aload 3 dX5_hashOfRuns_85 rfl ?_
      refine x_iload 4 dX5_hashOfRuns_87 rfl ?_
      obtain ⟨z19, hzz19, hF⟩ := x_bind hF
      obtain ⟨⟨fsz19, hbz19⟩, hzz19⟩ := x_cv_sp hzz19
      refine x_callv (As := [.int x7]) (rest := [.long z18]) (rc + 0) (rs + 0) dX5_hashOfRuns_89 mi_X2_valueOn ml_X5_211 rfl rfl (Nat.le_of_ble_eq_true rfl) ⟨by decide, by decide⟩ (by omega) (by omega) hbz19 rfl (c_X2_valueOn N _ _ _ _ _ hzz19) (x_K.some ?_) x_KX.none
      refine x_iconst (-1) (by decide) dX5_hashOfRuns_92 ?_
      refine x_icmp_ne 100 dX5_hashOfRuns_93 (by decide) hF (fun hF => ?_) (fun hF => ?_)
      · refine x_iconst 0 (by decide) dX5_hashOfRuns_100 ?_
        obtain ⟨z20, hzz20, hF⟩ := x_bind hF
        refine x_calls (As := [.long z18, .int (x_b false)]) (rest := []) (rc + 0) (rs + 0) dX5_hashOfRuns_101 mi_X5_mixFlag rfl ml_X5_383 rfl rfl (Nat.le_of_ble_eq_true rfl) ⟨by decide, by decide⟩ (by omega) (by omega) (c_X5_mixFlag N _ _ _ _ _ hzz20) (x_K.some ?_) x_KX.none
        refine x_lstore_n (i := 3) (lv' := [(3, .long z20), (0, .ref c0), (5, .int c5), (6, .ref c6), (7, .int x7)]) dX5_hashOfRuns_104 rfl (by decide) rfl ?_
        refine x_iinc (x7 + 1) (lv' := [(7, .int (x7 + 1)), (3, .long z20), (0, .ref c0), (5, .int c5), (6, .ref c6)]) dX5_hashOfRuns_105 4 rfl (by rfl) (by decide) rfl ?_
        refine x_goto 61 dX5_hashOfRuns_108 (by decide) ?_
        refine x_sub [2, 1, 3, 4, 0] rfl ?_
        exact ih _ _ hF
      · refine x_iconst 1 (by decide) dX5_hashOfRuns_96 ?_
        refine x_goto 101 dX5_hashOfRuns_97 (by decide) ?_
        obtain ⟨z21, hzz21, hF⟩ := x_bind hF
        refine x_calls (As := [.long z18, .int (x_b true)]) (rest := []) (rc + 0) (rs + 0) dX5_hashOfRuns_101 mi_X5_mixFlag rfl ml_X5_383 rfl rfl (Nat.le_of_ble_eq_true rfl) ⟨by decide, by decide⟩ (by omega) (by omega) (c_X5_mixFlag N _ _ _ _ _ hzz21) (x_K.some ?_) x_KX.none
        refine x_lstore_n (i := 3) (lv' := [(3, .long z21), (0, .ref c0), (5, .int c5), (6, .ref c6), (7, .int x7)]) dX5_hashOfRuns_104 rfl (by decide) rfl ?_
        refine x_iinc (x7 + 1) (lv' := [(7, .int (x7 + 1)), (3, .long z21), (0, .ref c0), (5, .int c5), (6, .ref c6)]) dX5_hashOfRuns_105 4 rfl (by rfl) (by decide) rfl ?_
        refine x_goto 61 dX5_hashOfRuns_108 (by decide) ?_
        refine x_sub [2, 1, 3, 4, 0] rfl ?_
        exact ih _ _ hF
set_option maxRecDepth 20000 in
set_option maxHeartbeats 4000000 in
theorem w_X5_hashOfRuns_L16 (N : Nat) (f : XM) (c0 : Nat) (K : Int64 → Int32 → Option Int64) (n : Nat) (r : Int64) {rc rs : Nat} : ∀ (k : Nat) (x3 : Int64) (x5 : Int32), F_X5_hashOfRuns_L16 N f c0 K k x3 x5 = some r → (∀ (x3 : Int64) (x5 : Int32), K x3 x5 = some r → X mX5_hashOfRuns 2 45 (x_end (xr_lp r (f, n))) x_noRO rc rs 117 [(0, .ref c0), (3, .long x3), (5, .int x5)] [] (f, n)) → X mX5_hashOfRuns 2 45 (x_end (xr_lp r (f, n))) x_noRO rc rs 16 [(0, .ref c0), (3, .long x3), (5, .int x5)] [] (f, n) := by
  intro k
  induction k with
  | zero =>
    intro x3 x5 hF
    exact absurd hF (by intro h9; cases h9)
  | succ k ih =>
    intro x3 x5 hF hK
    have ih := fun x3 x5 hF => ih x3 x5 hF hK
    rw [F_X5_hashOfRuns_L16] at hF
    refine x_iload 2 dX5_hashOfRuns_16 rfl ?_
    refine x_aload_n 0 dX5_hashOfRuns_18 rfl rfl ?_
    refine x_getr_r dX5_hashOfRuns_19 fl_X5_12 hF (fun v6 hF => ?_)
    refine x_nn hF (fun a7 ha7 hF => ?_)
    rw [ha7]
    refine x_geti_r dX5_hashOfRuns_22 fl_X5_197 hF (fun v8 hF => ?_)
    refine x_icmp_gt 117 dX5_hashOfRuns_25 (by decide) hF (fun hF => ?_) (fun hF => ?_)
    · refine x_sub [0, 1, 2] rfl ?_
      exact hK _ _ hF
    · refine x_aload_n 0 dX5_hashOfRuns_28 rfl rfl ?_
      refine x_getr_r dX5_hashOfRuns_29 fl_X5_12 hF (fun v9 hF => ?_)
      refine x_iload 2 dX5_hashOfRuns_32 rfl ?_
      refine x_nn hF (fun a10 ha10 hF => ?_)
      rw [ha10]
      obtain ⟨z11, hzz11, hF⟩ := x_bind hF
      obtain ⟨⟨fsz11, hbz11⟩, hzz11⟩ := x_cv_sp hzz11
      refine x_callv (As := [.int x5]) (rest := []) (rc + 0) (rs + 0) dX5_hashOfRuns_34 mi_X3_runOn ml_X5_200 rfl rfl (Nat.le_of_ble_eq_true rfl) ⟨by decide, by decide⟩ (by omega) (by omega) hbz11 rfl (c_X3_runOn N _ _ _ _ _ hzz11) (x_K.some ?_) x_KX.none
      refine x_astoreq (i := 6) (lv' := [(6, va_rf z11), (0, .ref c0), (3, .long x3), (5, .int x5)]) dX5_hashOfRuns_37 (by decide) rfl ?_
      refine x_aloadq 0 dX5_hashOfRuns_39 rfl ?_
      refine x_ifnonnull 47 dX5_hashOfRuns_41 (by decide) hF (fun _ hF => ?_) (fun a12 ha12 hF => ?_)
      · refine x_goto 111 dX5_hashOfRuns_44 (by decide) ?_
        refine x_iinc (x5 + 1) (lv' := [(5, .int (x5 + 1)), (6, va_rf z11), (0, .ref c0), (3, .long x3)]) dX5_hashOfRuns_111 3 rfl (by rfl) (by decide) rfl ?_
        refine x_goto 16 dX5_hashOfRuns_114 (by decide) ?_
        refine x_sub [2, 3, 0] rfl ?_
        exact ih _ _ hF
      · (try rw [ha12])
        refine x_lload_n 2 dX5_hashOfRuns_47 rfl rfl ?_
        refine x_aload 0 dX5_hashOfRuns_48 rfl ?_
        refine x_geti_r dX5_hashOfRuns_50 fl_X5_133 hF (fun v13 hF => ?_)
        refine x_i2l dX5_hashOfRuns_53 ?_
        obtain ⟨z14, hzz14, hF⟩ := x_bind hF
        refine x_calls (As := [.long x3, .long ((v13 : Int32).toInt64)]) (rest := []) (rc + 0) (rs + 0) dX5_hashOfRuns_54 mi_X5_mix rfl ml_X5_379 rfl rfl (Nat.le_of_ble_eq_true rfl) ⟨by decide, by decide⟩ (by omega) (by omega) (c_X5_mix N _ _ _ _ _ hzz14) (x_K.some ?_) x_KX.none
        refine x_lstore_n (i := 3) (lv' := [(3, .long z14), (6, .ref a12), (0, .ref c0), (5, .int x5)]) dX5_hashOfRuns_57 rfl (by decide) rfl ?_
        refine x_iconst 0 (by decide) dX5_hashOfRuns_58 ?_
        refine x_istore (i := 7) (lv' := [(7, .int 0), (3, .long z14), (6, .ref a12), (0, .ref c0), (5, .int x5)]) dX5_hashOfRuns_59 (by decide) rfl ?_
        refine x_sub [3, 1, 4, 2, 0] rfl ?_
        refine w_X5_hashOfRuns_L61 N _ _ _ _ _ _ r _ _ _ hF (fun y3_22 y7_22 hF => ?_)
        refine x_iinc (x5 + 1) (lv' := [(5, .int (x5 + 1)), (0, .ref c0), (3, .long y3_22), (6, .ref a12), (7, .int y7_22)]) dX5_hashOfRuns_111 2 rfl (by rfl) (by decide) rfl ?_
        refine x_goto 16 dX5_hashOfRuns_114 (by decide) ?_
        refine x_sub [1, 2, 0] rfl ?_
        exact ih _ _ hF
set_option maxRecDepth 20000 in
set_option maxHeartbeats 4000000 in
theorem c_X5_hashOfRuns (N : Nat) (f : XM) (this : Nat) (p0 : Int64) (n : Nat) (r : Int64) (hF : F_X5_hashOfRuns N f this p0 = some r) : x_Ct mX5_hashOfRuns 2 45 0 0 [.ref this, .long p0] (f, n) (xr_lp r (f, n)) := by
  unfold F_X5_hashOfRuns at hF
  refine x_ct (by decide) rfl (Nat.le_of_ble_eq_true rfl) ?_
  show X mX5_hashOfRuns 2 45 _ _ 0 0 0 [(0, .ref this), (1, .long p0)] [] (f, n)
  refine x_lload_n 1 dX5_hashOfRuns_0 rfl rfl ?_
  refine x_aload_n 0 dX5_hashOfRuns_1 rfl rfl ?_
  refine x_getr_r dX5_hashOfRuns_2 fl_X5_12 hF (fun v1 hF => ?_)
  refine x_nn hF (fun a2 ha2 hF => ?_)
  rw [ha2]
  refine x_geti_r dX5_hashOfRuns_5 fl_X5_197 hF (fun v3 hF => ?_)
  refine x_i2l dX5_hashOfRuns_8 ?_
  obtain ⟨z4, hzz4, hF⟩ := x_bind hF
  refine x_calls (As := [.long p0, .long ((v3 : Int32).toInt64)]) (rest := []) 0 0 dX5_hashOfRuns_9 mi_X5_mix rfl ml_X5_379 rfl rfl (Nat.le_of_ble_eq_true rfl) ⟨by decide, by decide⟩ (by omega) (by omega) (c_X5_mix N _ _ _ _ _ hzz4) (x_K.some ?_) x_KX.none
  refine x_lstore_n (i := 3) (lv' := [(3, .long z4), (0, .ref this), (1, .long p0)]) dX5_hashOfRuns_12 rfl (by decide) rfl ?_
  refine x_iconst 0 (by decide) dX5_hashOfRuns_13 ?_
  refine x_istore (i := 5) (lv' := [(5, .int 0), (3, .long z4), (0, .ref this), (1, .long p0)]) dX5_hashOfRuns_14 (by decide) rfl ?_
  refine x_sub [2, 1, 0] rfl ?_
  refine w_X5_hashOfRuns_L16 N _ _ _ _ r _ _ _ hF (fun y3_23 y5_23 hF => ?_)
  refine x_lload_n 1 dX5_hashOfRuns_117 rfl rfl ?_
  exact x_lret dX5_hashOfRuns_118 rfl (by cases hF; rfl)
def F_X5_hashOfLeaves_L78 (N : Nat) (f : XM) (c3 : Nat) (c6 : Int32) (c7 : Int32) (K : Int64 → Int32 → Option Int64) : Nat → Int64 → Int32 → Option Int64
  | 0, _, _ => none
  | k + 1, x4, x8 =>
    if c7 ≤ x8 then
      K x4 x8
    else
      (x_cv f 4 c3 (F_X4_placeOn N f c3 x8)).bind fun z18 =>
      if z18 = 0 then
        (x_getr f 4 c3 0).bind fun v19 =>
        Option.bind v19 fun a20 =>
        (x_cv f 2 a20 (F_X2_keyOn N f a20 x8)).bind fun z21 =>
        (F_X5_mix N f x4 ((z21 : Int32).toInt64)).bind fun z22 =>
        (x_getr f 4 c3 0).bind fun v23 =>
        Option.bind v23 fun a24 =>
        (x_cv f 2 a24 (F_X2_valueOn N f a24 x8)).bind fun z25 =>
        (F_X5_mix N f z22 ((z25 : Int32).toInt64)).bind fun z26 =>
        F_X5_hashOfLeaves_L78 N f c3 c6 c7 K k z26 (x8 + 1)
      else
        F_X5_hashOfLeaves_L78 N f c3 c6 c7 K k x4 (x8 + 1)
def F_X5_hashOfLeaves_L37 (N : Nat) (f : XM) (c3 : Nat) (K : Int64 → Int32 → Option Int64) : Nat → Int64 → Int32 → Option Int64
  | 0, _, _ => none
  | k + 1, x4, x6 =>
    (x_geti f 4 c3 3).bind fun v12 =>
    if v12 ≤ x6 then
      K x4 x6
    else
      (x_cv f 4 c3 (F_X4_ownCount N f c3 x6)).bind fun z13 =>
      (F_X5_mix N f x4 ((z13 : Int32).toInt64)).bind fun z14 =>
      (x_cv f 4 c3 (F_X4_firstEntry N f c3 (x6 + 1))).bind fun z15 =>
      (x_cv f 4 c3 (F_X4_firstEntry N f c3 x6)).bind fun z16 =>
      F_X5_hashOfLeaves_L78 N f c3 x6 z15 (fun y4_27 y8_27 =>
      (x_cv f 4 c3 (F_X4_overflowCount N f c3 x6)).bind fun z28 =>
      (F_X5_mix N f y4_27 ((z28 : Int32).toInt64)).bind fun z29 =>
      (x_cv f 4 c3 (F_X4_overflowLeafCount N f c3 x6)).bind fun z30 =>
      (F_X5_mix N f z29 ((z30 : Int32).toInt64)).bind fun z31 =>
      F_X5_hashOfLeaves_L37 N f c3 K k z31 (x6 + 1)) N z14 z16
def F_X5_hashOfLeaves (N : Nat) (f : XM) (this : Nat) (p0 : Int64) : Option Int64 :=
  (x_getr f 5 this 0).bind fun v1 =>
  Option.bind v1 fun a2 =>
  (x_getr f 3 a2 3).bind fun v3 =>
  Option.bind v3 fun a4 =>
  (x_getr f 4 a4 0).bind fun v5 =>
  Option.bind v5 fun a6 =>
  (x_geti f 2 a6 2).bind fun v7 =>
  (F_X5_mix N f p0 ((v7 : Int32).toInt64)).bind fun z8 =>
  (x_geti f 4 a4 3).bind fun v9 =>
  (F_X5_mix N f z8 ((v9 : Int32).toInt64)).bind fun z10 =>
  F_X5_hashOfLeaves_L37 N f a4 (fun y4_32 y6_32 =>
  some y4_32) N z10 0
set_option maxRecDepth 20000 in
set_option maxHeartbeats 4000000 in
theorem w_X5_hashOfLeaves_L78 (N : Nat) (f : XM) (c3 : Nat) (c6 : Int32) (c7 : Int32) (K : Int64 → Int32 → Option Int64) (n : Nat) (r : Int64) {rc rs : Nat} : ∀ (k : Nat) (x4 : Int64) (x8 : Int32), F_X5_hashOfLeaves_L78 N f c3 c6 c7 K k x4 x8 = some r → (∀ (x4 : Int64) (x8 : Int32), K x4 x8 = some r → X mX5_hashOfLeaves 3 70 (x_end (xr_lp r (f, n))) x_noRO rc rs 134 [(3, .ref c3), (4, .long x4), (6, .int c6), (7, .int c7), (8, .int x8)] [] (f, n)) → X mX5_hashOfLeaves 3 70 (x_end (xr_lp r (f, n))) x_noRO rc rs 78 [(3, .ref c3), (4, .long x4), (6, .int c6), (7, .int c7), (8, .int x8)] [] (f, n) := by
  intro k
  induction k with
  | zero =>
    intro x4 x8 hF
    exact absurd hF (by intro h9; cases h9)
  | succ k ih =>
    intro x4 x8 hF hK
    have ih := fun x4 x8 hF => ih x4 x8 hF hK
    rw [F_X5_hashOfLeaves_L78] at hF
    refine x_iload 4 dX5_hashOfLeaves_78 rfl ?_
    refine x_iload 3 dX5_hashOfLeaves_80 rfl ?_
    refine x_icmp_ge 134 dX5_hashOfLeaves_82 (by decide) hF (fun hF => ?_) (fun hF => ?_)
    · refine x_sub [0, 1, 2, 3, 4] rfl ?_
      exact hK _ _ hF
    · refine x_aload_n 0 dX5_hashOfLeaves_85 rfl rfl ?_
      refine x_iload 4 dX5_hashOfLeaves_86 rfl ?_
      obtain ⟨z18, hzz18, hF⟩ := x_bind hF
      obtain ⟨⟨fsz18, hbz18⟩, hzz18⟩ := x_cv_sp hzz18
      refine x_callv (As := [.int x8]) (rest := []) (rc + 0) (rs + 0) dX5_hashOfLeaves_88 mi_X4_placeOn ml_X5_390 rfl rfl (Nat.le_of_ble_eq_true rfl) ⟨by decide, by decide⟩ (by omega) (by omega) hbz18 rfl (c_X4_placeOn N _ _ _ _ _ hzz18) (x_K.some ?_) x_KX.none
      refine x_if_ne 128 dX5_hashOfLeaves_91 (by decide) hF (fun hF => ?_) (fun hF => ?_)
      · refine x_iinc (x8 + 1) (lv' := [(8, .int (x8 + 1)), (3, .ref c3), (4, .long x4), (6, .int c6), (7, .int c7)]) dX5_hashOfLeaves_128 4 rfl (by rfl) (by decide) rfl ?_
        refine x_goto 78 dX5_hashOfLeaves_131 (by decide) ?_
        refine x_sub [1, 2, 3, 4, 0] rfl ?_
        exact ih _ _ hF
      · refine x_lload 1 dX5_hashOfLeaves_94 rfl ?_
        refine x_aload_n 0 dX5_hashOfLeaves_96 rfl rfl ?_
        refine x_getr_r dX5_hashOfLeaves_97 fl_X5_223 hF (fun v19 hF => ?_)
        refine x_iload 4 dX5_hashOfLeaves_100 rfl ?_
        refine x_nn hF (fun a20 ha20 hF => ?_)
        rw [ha20]
        obtain ⟨z21, hzz21, hF⟩ := x_bind hF
        obtain ⟨⟨fsz21, hbz21⟩, hzz21⟩ := x_cv_sp hzz21
        refine x_callv (As := [.int x8]) (rest := [.long x4]) (rc + 0) (rs + 0) dX5_hashOfLeaves_102 mi_X2_keyOn ml_X5_185 rfl rfl (Nat.le_of_ble_eq_true rfl) ⟨by decide, by decide⟩ (by omega) (by omega) hbz21 rfl (c_X2_keyOn N _ _ _ _ _ hzz21) (x_K.some ?_) x_KX.none
        refine x_i2l dX5_hashOfLeaves_105 ?_
        obtain ⟨z22, hzz22, hF⟩ := x_bind hF
        refine x_calls (As := [.long x4, .long ((z21 : Int32).toInt64)]) (rest := []) (rc + 0) (rs + 0) dX5_hashOfLeaves_106 mi_X5_mix rfl ml_X5_379 rfl rfl (Nat.le_of_ble_eq_true rfl) ⟨by decide, by decide⟩ (by omega) (by omega) (c_X5_mix N _ _ _ _ _ hzz22) (x_K.some ?_) x_KX.none
        refine x_lstore (i := 4) (lv' := [(4, .long z22), (3, .ref c3), (6, .int c6), (7, .int c7), (8, .int x8)]) dX5_hashOfLeaves_109 (by decide) rfl ?_
        refine x_lload 0 dX5_hashOfLeaves_111 rfl ?_
        refine x_aload_n 1 dX5_hashOfLeaves_113 rfl rfl ?_
        refine x_getr_r dX5_hashOfLeaves_114 fl_X5_223 hF (fun v23 hF => ?_)
        refine x_iload 4 dX5_hashOfLeaves_117 rfl ?_
        refine x_nn hF (fun a24 ha24 hF => ?_)
        rw [ha24]
        obtain ⟨z25, hzz25, hF⟩ := x_bind hF
        obtain ⟨⟨fsz25, hbz25⟩, hzz25⟩ := x_cv_sp hzz25
        refine x_callv (As := [.int x8]) (rest := [.long z22]) (rc + 0) (rs + 0) dX5_hashOfLeaves_119 mi_X2_valueOn ml_X5_211 rfl rfl (Nat.le_of_ble_eq_true rfl) ⟨by decide, by decide⟩ (by omega) (by omega) hbz25 rfl (c_X2_valueOn N _ _ _ _ _ hzz25) (x_K.some ?_) x_KX.none
        refine x_i2l dX5_hashOfLeaves_122 ?_
        obtain ⟨z26, hzz26, hF⟩ := x_bind hF
        refine x_calls (As := [.long z22, .long ((z25 : Int32).toInt64)]) (rest := []) (rc + 0) (rs + 0) dX5_hashOfLeaves_123 mi_X5_mix rfl ml_X5_379 rfl rfl (Nat.le_of_ble_eq_true rfl) ⟨by decide, by decide⟩ (by omega) (by omega) (c_X5_mix N _ _ _ _ _ hzz26) (x_K.some ?_) x_KX.none
        refine x_lstore (i := 4) (lv' := [(4, .long z26), (3, .ref c3), (6, .int c6), (7, .int c7), (8, .int x8)]) dX5_hashOfLeaves_126 (by decide) rfl ?_
        refine x_iinc (x8 + 1) (lv' := [(8, .int (x8 + 1)), (4, .long z26), (3, .ref c3), (6, .int c6), (7, .int c7)]) dX5_hashOfLeaves_128 4 rfl (by rfl) (by decide) rfl ?_
        refine x_goto 78 dX5_hashOfLeaves_131 (by decide) ?_
        refine x_sub [2, 1, 3, 4, 0] rfl ?_
        exact ih _ _ hF
set_option maxRecDepth 20000 in
set_option maxHeartbeats 4000000 in
theorem w_X5_hashOfLeaves_L37 (N : Nat) (f : XM) (c3 : Nat) (K : Int64 → Int32 → Option Int64) (n : Nat) (r : Int64) {rc rs : Nat} : ∀ (k : Nat) (x4 : Int64) (x6 : Int32), F_X5_hashOfLeaves_L37 N f c3 K k x4 x6 = some r → (∀ (x4 : Int64) (x6 : Int32), K x4 x6 = some r → X mX5_hashOfLeaves 3 70 (x_end (xr_lp r (f, n))) x_noRO rc rs 168 [(3, .ref c3), (4, .long x4), (6, .int x6)] [] (f, n)) → X mX5_hashOfLeaves 3 70 (x_end (xr_lp r (f, n))) x_noRO rc rs 37 [(3, .ref c3), (4, .long x4), (6, .int x6)] [] (f, n) := by
  intro k
  induction k with
  | zero =>
    intro x4 x6 hF
    exact absurd hF (by intro h9; cases h9)
  | succ k ih =>
    intro x4 x6 hF hK
    have ih := fun x4 x6 hF => ih x4 x6 hF hK
    rw [F_X5_hashOfLeaves_L37] at hF
    refine x_iload 2 dX5_hashOfLeaves_37 rfl ?_
    refine x_aload_n 0 dX5_hashOfLeaves_39 rfl rfl ?_
    refine x_geti_r dX5_hashOfLeaves_40 fl_X5_229 hF (fun v12 hF => ?_)
    refine x_icmp_ge 168 dX5_hashOfLeaves_43 (by decide) hF (fun hF => ?_) (fun hF => ?_)
    · refine x_sub [0, 1, 2] rfl ?_
      exact hK _ _ hF
    · refine x_lload 1 dX5_hashOfLeaves_46 rfl ?_
      refine x_aload_n 0 dX5_hashOfLeaves_48 rfl rfl ?_
      refine x_iload 2 dX5_hashOfLeaves_49 rfl ?_
      obtain ⟨z13, hzz13, hF⟩ := x_bind hF
      obtain ⟨⟨fsz13, hbz13⟩, hzz13⟩ := x_cv_sp hzz13
      refine x_callv (As := [.int x6]) (rest := [.long x4]) (rc + 0) (rs + 0) dX5_hashOfLeaves_51 mi_X4_ownCount ml_X5_235 rfl rfl (Nat.le_of_ble_eq_true rfl) ⟨by decide, by decide⟩ (by omega) (by omega) hbz13 rfl (c_X4_ownCount N _ _ _ _ _ hzz13) (x_K.some ?_) x_KX.none
      refine x_i2l dX5_hashOfLeaves_54 ?_
      obtain ⟨z14, hzz14, hF⟩ := x_bind hF
      refine x_calls (As := [.long x4, .long ((z13 : Int32).toInt64)]) (rest := []) (rc + 0) (rs + 0) dX5_hashOfLeaves_55 mi_X5_mix rfl ml_X5_379 rfl rfl (Nat.le_of_ble_eq_true rfl) ⟨by decide, by decide⟩ (by omega) (by omega) (c_X5_mix N _ _ _ _ _ hzz14) (x_K.some ?_) x_KX.none
      refine x_lstore (i := 4) (lv' := [(4, .long z14), (3, .ref c3), (6, .int x6)]) dX5_hashOfLeaves_58 (by decide) rfl ?_
      refine x_aload_n 1 dX5_hashOfLeaves_60 rfl rfl ?_
      refine x_iload 2 dX5_hashOfLeaves_61 rfl ?_
      refine x_iconst 1 (by decide) dX5_hashOfLeaves_63 ?_
      refine x_iadd dX5_hashOfLeaves_64 ?_
      obtain ⟨z15, hzz15, hF⟩ := x_bind hF
      obtain ⟨⟨fsz15, hbz15⟩, hzz15⟩ := x_cv_sp hzz15
      refine x_callv (As := [.int (x6 + 1)]) (rest := []) (rc + 0) (rs + 0) dX5_hashOfLeaves_65 mi_X4_firstEntry ml_X5_387 rfl rfl (Nat.le_of_ble_eq_true rfl) ⟨by decide, by decide⟩ (by omega) (by omega) hbz15 rfl (c_X4_firstEntry N _ _ _ _ _ hzz15) (x_K.some ?_) x_KX.none
      refine x_istore (i := 7) (lv' := [(7, .int z15), (4, .long z14), (3, .ref c3), (6, .int x6)]) dX5_hashOfLeaves_68 (by decide) rfl ?_
      refine x_aload_n 2 dX5_hashOfLeaves_70 rfl rfl ?_
      refine x_iload 3 dX5_hashOfLeaves_71 rfl ?_
      obtain ⟨z16, hzz16, hF⟩ := x_bind hF
      obtain ⟨⟨fsz16, hbz16⟩, hzz16⟩ := x_cv_sp hzz16
      refine x_callv (As := [.int x6]) (rest := []) (rc + 0) (rs + 0) dX5_hashOfLeaves_73 mi_X4_firstEntry ml_X5_387 rfl rfl (Nat.le_of_ble_eq_true rfl) ⟨by decide, by decide⟩ (by omega) (by omega) hbz16 rfl (c_X4_firstEntry N _ _ _ _ _ hzz16) (x_K.some ?_) x_KX.none
      refine x_istore (i := 8) (lv' := [(8, .int z16), (7, .int z15), (4, .long z14), (3, .ref c3), (6, .int x6)]) dX5_hashOfLeaves_76 (by decide) rfl ?_
      refine x_sub [3, 2, 4, 1, 0] rfl ?_
      refine w_X5_hashOfLeaves_L78 N _ _ _ _ _ _ r _ _ _ hF (fun y4_27 y8_27 hF => ?_)
      refine x_lload 1 dX5_hashOfLeaves_134 rfl ?_
      refine x_aload_n 0 dX5_hashOfLeaves_136 rfl rfl ?_
      refine x_iload 2 dX5_hashOfLeaves_137 rfl ?_
      obtain ⟨z28, hzz28, hF⟩ := x_bind hF
      obtain ⟨⟨fsz28, hbz28⟩, hzz28⟩ := x_cv_sp hzz28
      refine x_callv (As := [.int x6]) (rest := [.long y4_27]) (rc + 0) (rs + 0) dX5_hashOfLeaves_139 mi_X4_overflowCount ml_X5_243 rfl rfl (Nat.le_of_ble_eq_true rfl) ⟨by decide, by decide⟩ (by omega) (by omega) hbz28 rfl (c_X4_overflowCount N _ _ _ _ _ hzz28) (x_K.some ?_) x_KX.none
      refine x_i2l dX5_hashOfLeaves_142 ?_
      obtain ⟨z29, hzz29, hF⟩ := x_bind hF
      refine x_calls (As := [.long y4_27, .long ((z28 : Int32).toInt64)]) (rest := []) (rc + 0) (rs + 0) dX5_hashOfLeaves_143 mi_X5_mix rfl ml_X5_379 rfl rfl (Nat.le_of_ble_eq_true rfl) ⟨by decide, by decide⟩ (by omega) (by omega) (c_X5_mix N _ _ _ _ _ hzz29) (x_K.some ?_) x_KX.none
      refine x_lstore (i := 4) (lv' := [(4, .long z29), (3, .ref c3), (6, .int x6), (7, .int z15), (8, .int y8_27)]) dX5_hashOfLeaves_146 (by decide) rfl ?_
      refine x_lload 0 dX5_hashOfLeaves_148 rfl ?_
      refine x_aload_n 1 dX5_hashOfLeaves_150 rfl rfl ?_
      refine x_iload 2 dX5_hashOfLeaves_151 rfl ?_
      obtain ⟨z30, hzz30, hF⟩ := x_bind hF
      obtain ⟨⟨fsz30, hbz30⟩, hzz30⟩ := x_cv_sp hzz30
      refine x_callv (As := [.int x6]) (rest := [.long z29]) (rc + 0) (rs + 0) dX5_hashOfLeaves_153 mi_X4_overflowLeafCount ml_X5_246 rfl rfl (Nat.le_of_ble_eq_true rfl) ⟨by decide, by decide⟩ (by omega) (by omega) hbz30 rfl (c_X4_overflowLeafCount N _ _ _ _ _ hzz30) (x_K.some ?_) x_KX.none
      refine x_i2l dX5_hashOfLeaves_156 ?_
      obtain ⟨z31, hzz31, hF⟩ := x_bind hF
      refine x_calls (As := [.long z29, .long ((z30 : Int32).toInt64)]) (rest := []) (rc + 0) (rs + 0) dX5_hashOfLeaves_157 mi_X5_mix rfl ml_X5_379 rfl rfl (Nat.le_of_ble_eq_true rfl) ⟨by decide, by decide⟩ (by omega) (by omega) (c_X5_mix N _ _ _ _ _ hzz31) (x_K.some ?_) x_KX.none
      refine x_lstore (i := 4) (lv' := [(4, .long z31), (3, .ref c3), (6, .int x6), (7, .int z15), (8, .int y8_27)]) dX5_hashOfLeaves_160 (by decide) rfl ?_
      refine x_iinc (x6 + 1) (lv' := [(6, .int (x6 + 1)), (4, .long z31), (3, .ref c3), (7, .int z15), (8, .int y8_27)]) dX5_hashOfLeaves_162 2 rfl (by rfl) (by decide) rfl ?_
      refine x_goto 37 dX5_hashOfLeaves_165 (by decide) ?_
      refine x_sub [2, 1, 0] rfl ?_
      exact ih _ _ hF
set_option maxRecDepth 20000 in
set_option maxHeartbeats 4000000 in
theorem c_X5_hashOfLeaves (N : Nat) (f : XM) (this : Nat) (p0 : Int64) (n : Nat) (r : Int64) (hF : F_X5_hashOfLeaves N f this p0 = some r) : x_Ct mX5_hashOfLeaves 3 70 0 0 [.ref this, .long p0] (f, n) (xr_lp r (f, n)) := by
  unfold F_X5_hashOfLeaves at hF
  refine x_ct (by decide) rfl (Nat.le_of_ble_eq_true rfl) ?_
  show X mX5_hashOfLeaves 3 70 _ _ 0 0 0 [(0, .ref this), (1, .long p0)] [] (f, n)
  refine x_aload_n 0 dX5_hashOfLeaves_0 rfl rfl ?_
  refine x_getr_r dX5_hashOfLeaves_1 fl_X5_12 hF (fun v1 hF => ?_)
  refine x_nn hF (fun a2 ha2 hF => ?_)
  rw [ha2]
  refine x_getr_r dX5_hashOfLeaves_4 fl_X5_219 hF (fun v3 hF => ?_)
  refine x_astore_nq (i := 3) (lv' := [(3, va_rf v3), (0, .ref this), (1, .long p0)]) dX5_hashOfLeaves_7 rfl (by decide) rfl ?_
  refine x_lload_n 2 dX5_hashOfLeaves_8 rfl rfl ?_
  refine x_aload_nq 0 dX5_hashOfLeaves_9 rfl rfl ?_
  refine x_nn hF (fun a4 ha4 hF => ?_)
  rw [ha4]
  refine x_getr_r dX5_hashOfLeaves_10 fl_X5_223 hF (fun v5 hF => ?_)
  refine x_nn hF (fun a6 ha6 hF => ?_)
  rw [ha6]
  refine x_geti_r dX5_hashOfLeaves_13 fl_X5_133 hF (fun v7 hF => ?_)
  refine x_i2l dX5_hashOfLeaves_16 ?_
  obtain ⟨z8, hzz8, hF⟩ := x_bind hF
  refine x_calls (As := [.long p0, .long ((v7 : Int32).toInt64)]) (rest := []) 0 0 dX5_hashOfLeaves_17 mi_X5_mix rfl ml_X5_379 rfl rfl (Nat.le_of_ble_eq_true rfl) ⟨by decide, by decide⟩ (by omega) (by omega) (c_X5_mix N _ _ _ _ _ hzz8) (x_K.some ?_) x_KX.none
  refine x_lstore (i := 4) (lv' := [(4, .long z8), (3, .ref a4), (0, .ref this), (1, .long p0)]) dX5_hashOfLeaves_20 (by decide) rfl ?_
  refine x_lload 0 dX5_hashOfLeaves_22 rfl ?_
  refine x_aload_n 1 dX5_hashOfLeaves_24 rfl rfl ?_
  refine x_geti_r dX5_hashOfLeaves_25 fl_X5_229 hF (fun v9 hF => ?_)
  refine x_i2l dX5_hashOfLeaves_28 ?_
  obtain ⟨z10, hzz10, hF⟩ := x_bind hF
  refine x_calls (As := [.long z8, .long ((v9 : Int32).toInt64)]) (rest := []) 0 0 dX5_hashOfLeaves_29 mi_X5_mix rfl ml_X5_379 rfl rfl (Nat.le_of_ble_eq_true rfl) ⟨by decide, by decide⟩ (by omega) (by omega) (c_X5_mix N _ _ _ _ _ hzz10) (x_K.some ?_) x_KX.none
  refine x_lstore (i := 4) (lv' := [(4, .long z10), (3, .ref a4), (0, .ref this), (1, .long p0)]) dX5_hashOfLeaves_32 (by decide) rfl ?_
  refine x_iconst 0 (by decide) dX5_hashOfLeaves_34 ?_
  refine x_istore (i := 6) (lv' := [(6, .int 0), (4, .long z10), (3, .ref a4), (0, .ref this), (1, .long p0)]) dX5_hashOfLeaves_35 (by decide) rfl ?_
  refine x_sub [2, 1, 0] rfl ?_
  refine w_X5_hashOfLeaves_L37 N _ _ _ _ r _ _ _ hF (fun y4_32 y6_32 hF => ?_)
  refine x_lload 1 dX5_hashOfLeaves_168 rfl ?_
  exact x_lret dX5_hashOfLeaves_170 rfl (by cases hF; rfl)
def F_X5_hashOfNodes_L54 (N : Nat) (f : XM) (c3 : Nat) (c4 : Int32) (c7 : Int32) (c8 : Int32) (K : Int64 → Int32 → Option Int64) : Nat → Int64 → Int32 → Option Int64
  | 0, _, _ => none
  | k + 1, x5, x9 =>
    if c8 ≤ x9 then
      K x5 x9
    else
      (x_cv f 4 c3 (F_X4_childCount N f c3 c7 x9)).bind fun z11 =>
      (F_X5_mix N f x5 ((z11 : Int32).toInt64)).bind fun z12 =>
      (x_cv f 4 c3 (F_X4_nodeBound N f c3 c7 x9)).bind fun z13 =>
      (F_X5_mix N f z12 ((z13 : Int32).toInt64)).bind fun z14 =>
      F_X5_hashOfNodes_L54 N f c3 c4 c7 c8 K k z14 (x9 + 1)
def F_X5_hashOfNodes_L26 (N : Nat) (f : XM) (c3 : Nat) (c4 : Int32) (K : Int64 → Int32 → Option Int64) : Nat → Int64 → Int32 → Option Int64
  | 0, _, _ => none
  | k + 1, x5, x7 =>
    if c4 ≤ x7 then
      K x5 x7
    else
      (x_cv f 4 c3 (F_X4_nodeCount N f c3 x7)).bind fun z8 =>
      (F_X5_mix N f x5 ((z8 : Int32).toInt64)).bind fun z9 =>
      F_X5_hashOfNodes_L54 N f c3 c4 x7 z8 (fun y5_15 y9_15 =>
      F_X5_hashOfNodes_L26 N f c3 c4 K k y5_15 (x7 + 1)) N z9 0
def F_X5_hashOfNodes (N : Nat) (f : XM) (this : Nat) (p0 : Int64) : Option Int64 :=
  (x_getr f 5 this 0).bind fun v1 =>
  Option.bind v1 fun a2 =>
  (x_getr f 3 a2 3).bind fun v3 =>
  Option.bind v3 fun a4 =>
  (x_cv f 4 a4 (F_X4_levelCount N f a4)).bind fun z5 =>
  (F_X5_mix N f p0 ((z5 : Int32).toInt64)).bind fun z6 =>
  F_X5_hashOfNodes_L26 N f a4 z5 (fun y5_16 y7_16 =>
  some y5_16) N z6 0
set_option maxRecDepth 20000 in
set_option maxHeartbeats 4000000 in
theorem w_X5_hashOfNodes_L54 (N : Nat) (f : XM) (c3 : Nat) (c4 : Int32) (c7 : Int32) (c8 : Int32) (K : Int64 → Int32 → Option Int64) (n : Nat) (r : Int64) {rc rs : Nat} : ∀ (k : Nat) (x5 : Int64) (x9 : Int32), F_X5_hashOfNodes_L54 N f c3 c4 c7 c8 K k x5 x9 = some r → (∀ (x5 : Int64) (x9 : Int32), K x5 x9 = some r → X mX5_hashOfNodes 3 66 (x_end (xr_lp r (f, n))) x_noRO rc rs 99 [(3, .ref c3), (4, .int c4), (5, .long x5), (7, .int c7), (8, .int c8), (9, .int x9)] [] (f, n)) → X mX5_hashOfNodes 3 66 (x_end (xr_lp r (f, n))) x_noRO rc rs 54 [(3, .ref c3), (4, .int c4), (5, .long x5), (7, .int c7), (8, .int c8), (9, .int x9)] [] (f, n) := by
  intro k
  induction k with
  | zero =>
    intro x5 x9 hF
    exact absurd hF (by intro h9; cases h9)
  | succ k ih =>
    intro x5 x9 hF hK
    have ih := fun x5 x9 hF => ih x5 x9 hF hK
    rw [F_X5_hashOfNodes_L54] at hF
    refine x_iload 5 dX5_hashOfNodes_54 rfl ?_
    refine x_iload 4 dX5_hashOfNodes_56 rfl ?_
    refine x_icmp_ge 99 dX5_hashOfNodes_58 (by decide) hF (fun hF => ?_) (fun hF => ?_)
    · refine x_sub [0, 1, 2, 3, 4, 5] rfl ?_
      exact hK _ _ hF
    · refine x_lload 2 dX5_hashOfNodes_61 rfl ?_
      refine x_aload_n 0 dX5_hashOfNodes_63 rfl rfl ?_
      refine x_iload 3 dX5_hashOfNodes_64 rfl ?_
      refine x_iload 5 dX5_hashOfNodes_66 rfl ?_
      obtain ⟨z11, hzz11, hF⟩ := x_bind hF
      obtain ⟨⟨fsz11, hbz11⟩, hzz11⟩ := x_cv_sp hzz11
      refine x_callv (As := [.int c7, .int x9]) (rest := [.long x5]) (rc + 0) (rs + 0) dX5_hashOfNodes_68 mi_X4_childCount ml_X5_261 rfl rfl (Nat.le_of_ble_eq_true rfl) ⟨by decide, by decide⟩ (by omega) (by omega) hbz11 rfl (c_X4_childCount N _ _ _ _ _ _ hzz11) (x_K.some ?_) x_KX.none
      refine x_i2l dX5_hashOfNodes_71 ?_
      obtain ⟨z12, hzz12, hF⟩ := x_bind hF
      refine x_calls (As := [.long x5, .long ((z11 : Int32).toInt64)]) (rest := []) (rc + 0) (rs + 0) dX5_hashOfNodes_72 mi_X5_mix rfl ml_X5_379 rfl rfl (Nat.le_of_ble_eq_true rfl) ⟨by decide, by decide⟩ (by omega) (by omega) (c_X5_mix N _ _ _ _ _ hzz12) (x_K.some ?_) x_KX.none
      refine x_lstore (i := 5) (lv' := [(5, .long z12), (3, .ref c3), (4, .int c4), (7, .int c7), (8, .int c8), (9, .int x9)]) dX5_hashOfNodes_75 (by decide) rfl ?_
      refine x_lload 0 dX5_hashOfNodes_77 rfl ?_
      refine x_aload_n 1 dX5_hashOfNodes_79 rfl rfl ?_
      refine x_iload 3 dX5_hashOfNodes_80 rfl ?_
      refine x_iload 5 dX5_hashOfNodes_82 rfl ?_
      obtain ⟨z13, hzz13, hF⟩ := x_bind hF
      obtain ⟨⟨fsz13, hbz13⟩, hzz13⟩ := x_cv_sp hzz13
      refine x_callv (As := [.int c7, .int x9]) (rest := [.long z12]) (rc + 0) (rs + 0) dX5_hashOfNodes_84 mi_X4_nodeBound ml_X5_264 rfl rfl (Nat.le_of_ble_eq_true rfl) ⟨by decide, by decide⟩ (by omega) (by omega) hbz13 rfl (c_X4_nodeBound N _ _ _ _ _ _ hzz13) (x_K.some ?_) x_KX.none
      refine x_i2l dX5_hashOfNodes_87 ?_
      obtain ⟨z14, hzz14, hF⟩ := x_bind hF
      refine x_calls (As := [.long z12, .long ((z13 : Int32).toInt64)]) (rest := []) (rc + 0) (rs + 0) dX5_hashOfNodes_88 mi_X5_mix rfl ml_X5_379 rfl rfl (Nat.le_of_ble_eq_true rfl) ⟨by decide, by decide⟩ (by omega) (by omega) (c_X5_mix N _ _ _ _ _ hzz14) (x_K.some ?_) x_KX.none
      refine x_lstore (i := 5) (lv' := [(5, .long z14), (3, .ref c3), (4, .int c4), (7, .int c7), (8, .int c8), (9, .int x9)]) dX5_hashOfNodes_91 (by decide) rfl ?_
      refine x_iinc (x9 + 1) (lv' := [(9, .int (x9 + 1)), (5, .long z14), (3, .ref c3), (4, .int c4), (7, .int c7), (8, .int c8)]) dX5_hashOfNodes_93 5 rfl (by rfl) (by decide) rfl ?_
      refine x_goto 54 dX5_hashOfNodes_96 (by decide) ?_
      refine x_sub [2, 3, 1, 4, 5, 0] rfl ?_
      exact ih _ _ hF
set_option maxRecDepth 20000 in
set_option maxHeartbeats 4000000 in
theorem w_X5_hashOfNodes_L26 (N : Nat) (f : XM) (c3 : Nat) (c4 : Int32) (K : Int64 → Int32 → Option Int64) (n : Nat) (r : Int64) {rc rs : Nat} : ∀ (k : Nat) (x5 : Int64) (x7 : Int32), F_X5_hashOfNodes_L26 N f c3 c4 K k x5 x7 = some r → (∀ (x5 : Int64) (x7 : Int32), K x5 x7 = some r → X mX5_hashOfNodes 3 66 (x_end (xr_lp r (f, n))) x_noRO rc rs 105 [(3, .ref c3), (4, .int c4), (5, .long x5), (7, .int x7)] [] (f, n)) → X mX5_hashOfNodes 3 66 (x_end (xr_lp r (f, n))) x_noRO rc rs 26 [(3, .ref c3), (4, .int c4), (5, .long x5), (7, .int x7)] [] (f, n) := by
  intro k
  induction k with
  | zero =>
    intro x5 x7 hF
    exact absurd hF (by intro h9; cases h9)
  | succ k ih =>
    intro x5 x7 hF hK
    have ih := fun x5 x7 hF => ih x5 x7 hF hK
    rw [F_X5_hashOfNodes_L26] at hF
    refine x_iload 3 dX5_hashOfNodes_26 rfl ?_
    refine x_iload 1 dX5_hashOfNodes_28 rfl ?_
    refine x_icmp_ge 105 dX5_hashOfNodes_30 (by decide) hF (fun hF => ?_) (fun hF => ?_)
    · refine x_sub [0, 1, 2, 3] rfl ?_
      exact hK _ _ hF
    · refine x_aload_n 0 dX5_hashOfNodes_33 rfl rfl ?_
      refine x_iload 3 dX5_hashOfNodes_34 rfl ?_
      obtain ⟨z8, hzz8, hF⟩ := x_bind hF
      obtain ⟨⟨fsz8, hbz8⟩, hzz8⟩ := x_cv_sp hzz8
      refine x_callv (As := [.int x7]) (rest := []) (rc + 0) (rs + 0) dX5_hashOfNodes_36 mi_X4_nodeCount ml_X5_255 rfl rfl (Nat.le_of_ble_eq_true rfl) ⟨by decide, by decide⟩ (by omega) (by omega) hbz8 rfl (c_X4_nodeCount N _ _ _ _ _ hzz8) (x_K.some ?_) x_KX.none
      refine x_istore (i := 8) (lv' := [(8, .int z8), (3, .ref c3), (4, .int c4), (5, .long x5), (7, .int x7)]) dX5_hashOfNodes_39 (by decide) rfl ?_
      refine x_lload 3 dX5_hashOfNodes_41 rfl ?_
      refine x_iload 0 dX5_hashOfNodes_43 rfl ?_
      refine x_i2l dX5_hashOfNodes_45 ?_
      obtain ⟨z9, hzz9, hF⟩ := x_bind hF
      refine x_calls (As := [.long x5, .long ((z8 : Int32).toInt64)]) (rest := []) (rc + 0) (rs + 0) dX5_hashOfNodes_46 mi_X5_mix rfl ml_X5_379 rfl rfl (Nat.le_of_ble_eq_true rfl) ⟨by decide, by decide⟩ (by omega) (by omega) (c_X5_mix N _ _ _ _ _ hzz9) (x_K.some ?_) x_KX.none
      refine x_lstore (i := 5) (lv' := [(5, .long z9), (8, .int z8), (3, .ref c3), (4, .int c4), (7, .int x7)]) dX5_hashOfNodes_49 (by decide) rfl ?_
      refine x_iconst 0 (by decide) dX5_hashOfNodes_51 ?_
      refine x_istore (i := 9) (lv' := [(9, .int 0), (5, .long z9), (8, .int z8), (3, .ref c3), (4, .int c4), (7, .int x7)]) dX5_hashOfNodes_52 (by decide) rfl ?_
      refine x_sub [3, 4, 1, 5, 2, 0] rfl ?_
      refine w_X5_hashOfNodes_L54 N _ _ _ _ _ _ _ r _ _ _ hF (fun y5_15 y9_15 hF => ?_)
      refine x_iinc (x7 + 1) (lv' := [(7, .int (x7 + 1)), (3, .ref c3), (4, .int c4), (5, .long y5_15), (8, .int z8), (9, .int y9_15)]) dX5_hashOfNodes_99 3 rfl (by rfl) (by decide) rfl ?_
      refine x_goto 26 dX5_hashOfNodes_102 (by decide) ?_
      refine x_sub [1, 2, 3, 0] rfl ?_
      exact ih _ _ hF
set_option maxRecDepth 20000 in
set_option maxHeartbeats 4000000 in
theorem c_X5_hashOfNodes (N : Nat) (f : XM) (this : Nat) (p0 : Int64) (n : Nat) (r : Int64) (hF : F_X5_hashOfNodes N f this p0 = some r) : x_Ct mX5_hashOfNodes 3 66 0 0 [.ref this, .long p0] (f, n) (xr_lp r (f, n)) := by
  unfold F_X5_hashOfNodes at hF
  refine x_ct (by decide) rfl (Nat.le_of_ble_eq_true rfl) ?_
  show X mX5_hashOfNodes 3 66 _ _ 0 0 0 [(0, .ref this), (1, .long p0)] [] (f, n)
  refine x_aload_n 0 dX5_hashOfNodes_0 rfl rfl ?_
  refine x_getr_r dX5_hashOfNodes_1 fl_X5_12 hF (fun v1 hF => ?_)
  refine x_nn hF (fun a2 ha2 hF => ?_)
  rw [ha2]
  refine x_getr_r dX5_hashOfNodes_4 fl_X5_219 hF (fun v3 hF => ?_)
  refine x_astore_nq (i := 3) (lv' := [(3, va_rf v3), (0, .ref this), (1, .long p0)]) dX5_hashOfNodes_7 rfl (by decide) rfl ?_
  refine x_aload_nq 0 dX5_hashOfNodes_8 rfl rfl ?_
  refine x_nn hF (fun a4 ha4 hF => ?_)
  rw [ha4]
  obtain ⟨z5, hzz5, hF⟩ := x_bind hF
  obtain ⟨⟨fsz5, hbz5⟩, hzz5⟩ := x_cv_sp hzz5
  refine x_callv (As := []) (rest := []) 0 0 dX5_hashOfNodes_9 mi_X4_levelCount ml_X5_249 rfl rfl (Nat.le_of_ble_eq_true rfl) ⟨by decide, by decide⟩ (by omega) (by omega) hbz5 rfl (c_X4_levelCount N _ _ _ _ hzz5) (x_K.some ?_) x_KX.none
  refine x_istore (i := 4) (lv' := [(4, .int z5), (3, .ref a4), (0, .ref this), (1, .long p0)]) dX5_hashOfNodes_12 (by decide) rfl ?_
  refine x_lload_n 3 dX5_hashOfNodes_14 rfl rfl ?_
  refine x_iload 0 dX5_hashOfNodes_15 rfl ?_
  refine x_i2l dX5_hashOfNodes_17 ?_
  obtain ⟨z6, hzz6, hF⟩ := x_bind hF
  refine x_calls (As := [.long p0, .long ((z5 : Int32).toInt64)]) (rest := []) 0 0 dX5_hashOfNodes_18 mi_X5_mix rfl ml_X5_379 rfl rfl (Nat.le_of_ble_eq_true rfl) ⟨by decide, by decide⟩ (by omega) (by omega) (c_X5_mix N _ _ _ _ _ hzz6) (x_K.some ?_) x_KX.none
  refine x_lstore (i := 5) (lv' := [(5, .long z6), (4, .int z5), (3, .ref a4), (0, .ref this), (1, .long p0)]) dX5_hashOfNodes_21 (by decide) rfl ?_
  refine x_iconst 0 (by decide) dX5_hashOfNodes_23 ?_
  refine x_istore (i := 7) (lv' := [(7, .int 0), (5, .long z6), (4, .int z5), (3, .ref a4), (0, .ref this), (1, .long p0)]) dX5_hashOfNodes_24 (by decide) rfl ?_
  refine x_sub [3, 2, 1, 0] rfl ?_
  refine w_X5_hashOfNodes_L26 N _ _ _ _ _ r _ _ _ hF (fun y5_16 y7_16 hF => ?_)
  refine x_lload 2 dX5_hashOfNodes_105 rfl ?_
  exact x_lret dX5_hashOfNodes_107 rfl (by cases hF; rfl)
def F_X5_hashOfFound_L14 (N : Nat) (f : XM) (c0 : Nat) (c3 : Nat) (K : Int64 → Int32 → Option Int64) : Nat → Int64 → Int32 → Option Int64
  | 0, _, _ => none
  | k + 1, x4, x6 =>
    (x_geti f 2 c3 2).bind fun v4 =>
    if v4 ≤ x6 then
      K x4 x6
    else
      (x_cv f 2 c3 (F_X2_keyOn N f c3 x6)).bind fun z5 =>
      (F_X5_mix N f x4 ((z5 : Int32).toInt64)).bind fun z6 =>
      (x_getr f 5 c0 0).bind fun v7 =>
      Option.bind v7 fun a8 =>
      (x_cv f 3 a8 (F_X3_standingValue N f a8 z5)).bind fun z9 =>
      (F_X5_mix N f z6 ((z9 : Int32).toInt64)).bind fun z10 =>
      (x_getr f 5 c0 0).bind fun v11 =>
      Option.bind v11 fun a12 =>
      (x_cv f 3 a12 (F_X3_pagesRead N f a12 z5)).bind fun z13 =>
      (F_X5_mix N f z10 ((z13 : Int32).toInt64)).bind fun z14 =>
      (x_getr f 5 c0 0).bind fun v15 =>
      Option.bind v15 fun a16 =>
      (x_cv f 3 a16 (F_X3_standsByGoing N f a16 z5)).bind fun z17 =>
      (F_X5_mixFlag N f z14 z17).bind fun z18 =>
      F_X5_hashOfFound_L14 N f c0 c3 K k z18 (x6 + 1)
def F_X5_hashOfFound (N : Nat) (f : XM) (this : Nat) (p0 : Int64) (p1 : Nat) : Option Int64 :=
  (x_geti f 2 p1 2).bind fun v1 =>
  (F_X5_mix N f p0 ((v1 : Int32).toInt64)).bind fun z2 =>
  F_X5_hashOfFound_L14 N f this p1 (fun y4_19 y6_19 =>
  some y4_19) N z2 0
set_option maxRecDepth 20000 in
set_option maxHeartbeats 4000000 in
theorem w_X5_hashOfFound_L14 (N : Nat) (f : XM) (c0 : Nat) (c3 : Nat) (K : Int64 → Int32 → Option Int64) (n : Nat) (r : Int64) {rc rs : Nat} : ∀ (k : Nat) (x4 : Int64) (x6 : Int32), F_X5_hashOfFound_L14 N f c0 c3 K k x4 x6 = some r → (∀ (x4 : Int64) (x6 : Int32), K x4 x6 = some r → X mX5_hashOfFound 4 97 (x_end (xr_lp r (f, n))) x_noRO rc rs 97 [(0, .ref c0), (3, .ref c3), (4, .long x4), (6, .int x6)] [] (f, n)) → X mX5_hashOfFound 4 97 (x_end (xr_lp r (f, n))) x_noRO rc rs 14 [(0, .ref c0), (3, .ref c3), (4, .long x4), (6, .int x6)] [] (f, n) := by
  intro k
  induction k with
  | zero =>
    intro x4 x6 hF
    exact absurd hF (by intro h9; cases h9)
  | succ k ih =>
    intro x4 x6 hF hK
    have ih := fun x4 x6 hF => ih x4 x6 hF hK
    rw [F_X5_hashOfFound_L14] at hF
    refine x_iload 3 dX5_hashOfFound_14 rfl ?_
    refine x_aload_n 1 dX5_hashOfFound_16 rfl rfl ?_
    refine x_geti_r dX5_hashOfFound_17 fl_X5_133 hF (fun v4 hF => ?_)
    refine x_icmp_ge 97 dX5_hashOfFound_20 (by decide) hF (fun hF => ?_) (fun hF => ?_)
    · refine x_sub [0, 1, 2, 3] rfl ?_
      exact hK _ _ hF
    · refine x_aload_n 1 dX5_hashOfFound_23 rfl rfl ?_
      refine x_iload 3 dX5_hashOfFound_24 rfl ?_
      obtain ⟨z5, hzz5, hF⟩ := x_bind hF
      obtain ⟨⟨fsz5, hbz5⟩, hzz5⟩ := x_cv_sp hzz5
      refine x_callv (As := [.int x6]) (rest := []) (rc + 0) (rs + 0) dX5_hashOfFound_26 mi_X2_keyOn ml_X5_185 rfl rfl (Nat.le_of_ble_eq_true rfl) ⟨by decide, by decide⟩ (by omega) (by omega) hbz5 rfl (c_X2_keyOn N _ _ _ _ _ hzz5) (x_K.some ?_) x_KX.none
      refine x_istore (i := 7) (lv' := [(7, .int z5), (0, .ref c0), (3, .ref c3), (4, .long x4), (6, .int x6)]) dX5_hashOfFound_29 (by decide) rfl ?_
      refine x_lload 3 dX5_hashOfFound_31 rfl ?_
      refine x_iload 0 dX5_hashOfFound_33 rfl ?_
      refine x_i2l dX5_hashOfFound_35 ?_
      obtain ⟨z6, hzz6, hF⟩ := x_bind hF
      refine x_calls (As := [.long x4, .long ((z5 : Int32).toInt64)]) (rest := []) (rc + 0) (rs + 0) dX5_hashOfFound_36 mi_X5_mix rfl ml_X5_379 rfl rfl (Nat.le_of_ble_eq_true rfl) ⟨by decide, by decide⟩ (by omega) (by omega) (c_X5_mix N _ _ _ _ _ hzz6) (x_K.some ?_) x_KX.none
      refine x_lstore (i := 4) (lv' := [(4, .long z6), (7, .int z5), (0, .ref c0), (3, .ref c3), (6, .int x6)]) dX5_hashOfFound_39 (by decide) rfl ?_
      refine x_lload 0 dX5_hashOfFound_41 rfl ?_
      refine x_aload_n 2 dX5_hashOfFound_43 rfl rfl ?_
      refine x_getr_r dX5_hashOfFound_44 fl_X5_12 hF (fun v7 hF => ?_)
      refine x_iload 1 dX5_hashOfFound_47 rfl ?_
      refine x_nn hF (fun a8 ha8 hF => ?_)
      rw [ha8]
      obtain ⟨z9, hzz9, hF⟩ := x_bind hF
      obtain ⟨⟨fsz9, hbz9⟩, hzz9⟩ := x_cv_sp hzz9
      refine x_callv (As := [.int z5]) (rest := [.long z6]) (rc + 0) (rs + 0) dX5_hashOfFound_49 mi_X3_standingValue ml_X5_160 rfl rfl (Nat.le_of_ble_eq_true rfl) ⟨by decide, by decide⟩ (by omega) (by omega) hbz9 rfl (c_X3_standingValue N _ _ _ _ _ hzz9) (x_K.some ?_) x_KX.none
      refine x_i2l dX5_hashOfFound_52 ?_
      obtain ⟨z10, hzz10, hF⟩ := x_bind hF
      refine x_calls (As := [.long z6, .long ((z9 : Int32).toInt64)]) (rest := []) (rc + 0) (rs + 0) dX5_hashOfFound_53 mi_X5_mix rfl ml_X5_379 rfl rfl (Nat.le_of_ble_eq_true rfl) ⟨by decide, by decide⟩ (by omega) (by omega) (c_X5_mix N _ _ _ _ _ hzz10) (x_K.some ?_) x_KX.none
      refine x_lstore (i := 4) (lv' := [(4, .long z10), (7, .int z5), (0, .ref c0), (3, .ref c3), (6, .int x6)]) dX5_hashOfFound_56 (by decide) rfl ?_
      refine x_lload 0 dX5_hashOfFound_58 rfl ?_
      refine x_aload_n 2 dX5_hashOfFound_60 rfl rfl ?_
      refine x_getr_r dX5_hashOfFound_61 fl_X5_12 hF (fun v11 hF => ?_)
      refine x_iload 1 dX5_hashOfFound_64 rfl ?_
      refine x_nn hF (fun a12 ha12 hF => ?_)
      rw [ha12]
      obtain ⟨z13, hzz13, hF⟩ := x_bind hF
      obtain ⟨⟨fsz13, hbz13⟩, hzz13⟩ := x_cv_sp hzz13
      refine x_callv (As := [.int z5]) (rest := [.long z10]) (rc + 0) (rs + 0) dX5_hashOfFound_66 mi_X3_pagesRead ml_X5_169 rfl rfl (Nat.le_of_ble_eq_true rfl) ⟨by decide, by decide⟩ (by omega) (by omega) hbz13 rfl (c_X3_pagesRead N _ _ _ _ _ hzz13) (x_K.some ?_) x_KX.none
      refine x_i2l dX5_hashOfFound_69 ?_
      obtain ⟨z14, hzz14, hF⟩ := x_bind hF
      refine x_calls (As := [.long z10, .long ((z13 : Int32).toInt64)]) (rest := []) (rc + 0) (rs + 0) dX5_hashOfFound_70 mi_X5_mix rfl ml_X5_379 rfl rfl (Nat.le_of_ble_eq_true rfl) ⟨by decide, by decide⟩ (by omega) (by omega) (c_X5_mix N _ _ _ _ _ hzz14) (x_K.some ?_) x_KX.none
      refine x_lstore (i := 4) (lv' := [(4, .long z14), (7, .int z5), (0, .ref c0), (3, .ref c3), (6, .int x6)]) dX5_hashOfFound_73 (by decide) rfl ?_
      refine x_lload 0 dX5_hashOfFound_75 rfl ?_
      refine x_aload_n 2 dX5_hashOfFound_77 rfl rfl ?_
      refine x_getr_r dX5_hashOfFound_78 fl_X5_12 hF (fun v15 hF => ?_)
      refine x_iload 1 dX5_hashOfFound_81 rfl ?_
      refine x_nn hF (fun a16 ha16 hF => ?_)
      rw [ha16]
      obtain ⟨z17, hzz17, hF⟩ := x_bind hF
      obtain ⟨⟨fsz17, hbz17⟩, hzz17⟩ := x_cv_sp hzz17
      refine x_callv (As := [.int z5]) (rest := [.long z14]) (rc + 0) (rs + 0) dX5_hashOfFound_83 mi_X3_standsByGoing ml_X5_163 rfl rfl (Nat.le_of_ble_eq_true rfl) ⟨by decide, by decide⟩ (by omega) (by omega) hbz17 rfl (c_X3_standsByGoing N _ _ _ _ _ hzz17) (x_K.some ?_) x_KX.none
      obtain ⟨z18, hzz18, hF⟩ := x_bind hF
      refine x_calls (As := [.long z14, .int (x_b z17)]) (rest := []) (rc + 0) (rs + 0) dX5_hashOfFound_86 mi_X5_mixFlag rfl ml_X5_383 rfl rfl (Nat.le_of_ble_eq_true rfl) ⟨by decide, by decide⟩ (by omega) (by omega) (c_X5_mixFlag N _ _ _ _ _ hzz18) (x_K.some ?_) x_KX.none
      refine x_lstore (i := 4) (lv' := [(4, .long z18), (7, .int z5), (0, .ref c0), (3, .ref c3), (6, .int x6)]) dX5_hashOfFound_89 (by decide) rfl ?_
      refine x_iinc (x6 + 1) (lv' := [(6, .int (x6 + 1)), (4, .long z18), (7, .int z5), (0, .ref c0), (3, .ref c3)]) dX5_hashOfFound_91 4 rfl (by rfl) (by decide) rfl ?_
      refine x_goto 14 dX5_hashOfFound_94 (by decide) ?_
      refine x_sub [3, 4, 1, 0] rfl ?_
      exact ih _ _ hF
set_option maxRecDepth 20000 in
set_option maxHeartbeats 4000000 in
theorem c_X5_hashOfFound (N : Nat) (f : XM) (this : Nat) (p0 : Int64) (p1 : Nat) (n : Nat) (r : Int64) (hF : F_X5_hashOfFound N f this p0 p1 = some r) : x_Ct mX5_hashOfFound 4 97 0 0 [.ref this, .long p0, .ref p1] (f, n) (xr_lp r (f, n)) := by
  unfold F_X5_hashOfFound at hF
  refine x_ct (by decide) rfl (Nat.le_of_ble_eq_true rfl) ?_
  show X mX5_hashOfFound 4 97 _ _ 0 0 0 [(0, .ref this), (1, .long p0), (3, .ref p1)] [] (f, n)
  refine x_lload_n 1 dX5_hashOfFound_0 rfl rfl ?_
  refine x_aload_n 2 dX5_hashOfFound_1 rfl rfl ?_
  refine x_geti_r dX5_hashOfFound_2 fl_X5_133 hF (fun v1 hF => ?_)
  refine x_i2l dX5_hashOfFound_5 ?_
  obtain ⟨z2, hzz2, hF⟩ := x_bind hF
  refine x_calls (As := [.long p0, .long ((v1 : Int32).toInt64)]) (rest := []) 0 0 dX5_hashOfFound_6 mi_X5_mix rfl ml_X5_379 rfl rfl (Nat.le_of_ble_eq_true rfl) ⟨by decide, by decide⟩ (by omega) (by omega) (c_X5_mix N _ _ _ _ _ hzz2) (x_K.some ?_) x_KX.none
  refine x_lstore (i := 4) (lv' := [(4, .long z2), (0, .ref this), (1, .long p0), (3, .ref p1)]) dX5_hashOfFound_9 (by decide) rfl ?_
  refine x_iconst 0 (by decide) dX5_hashOfFound_11 ?_
  refine x_istore (i := 6) (lv' := [(6, .int 0), (4, .long z2), (0, .ref this), (1, .long p0), (3, .ref p1)]) dX5_hashOfFound_12 (by decide) rfl ?_
  refine x_sub [2, 4, 1, 0] rfl ?_
  refine w_X5_hashOfFound_L14 N _ _ _ _ _ r _ _ _ hF (fun y4_19 y6_19 hF => ?_)
  refine x_lload 2 dX5_hashOfFound_97 rfl ?_
  exact x_lret dX5_hashOfFound_99 rfl (by cases hF; rfl)
def F_X5_hashOfCounts (N : Nat) (f : XM) (this : Nat) (p0 : Int64) (p1 : Nat) : Option Int64 :=
  (x_getr f 5 this 0).bind fun v1 =>
  Option.bind v1 fun a2 =>
  (x_cv f 3 a2 (F_X3_countStanding N f a2 0 9999)).bind fun z3 =>
  (F_X5_mix N f p0 ((z3 : Int32).toInt64)).bind fun z4 =>
  (x_cv f 2 p1 (F_X2_countFrom N f p1 0 9999)).bind fun z5 =>
  (F_X5_mix N f z4 ((z5 : Int32).toInt64)).bind fun z6 =>
  (x_getr f 5 this 0).bind fun v7 =>
  Option.bind v7 fun a8 =>
  (x_cv f 3 a8 (F_X3_countStanding N f a8 100 500)).bind fun z9 =>
  (F_X5_mix N f z6 ((z9 : Int32).toInt64)).bind fun z10 =>
  (x_cv f 2 p1 (F_X2_countFrom N f p1 100 500)).bind fun z11 =>
  (F_X5_mix N f z10 ((z11 : Int32).toInt64)).bind fun z12 =>
  some z12
set_option maxRecDepth 20000 in
set_option maxHeartbeats 4000000 in
theorem c_X5_hashOfCounts (N : Nat) (f : XM) (this : Nat) (p0 : Int64) (p1 : Nat) (n : Nat) (r : Int64) (hF : F_X5_hashOfCounts N f this p0 p1 = some r) : x_Ct mX5_hashOfCounts 5 124 0 0 [.ref this, .long p0, .ref p1] (f, n) (xr_lp r (f, n)) := by
  unfold F_X5_hashOfCounts at hF
  refine x_ct (by decide) rfl (Nat.le_of_ble_eq_true rfl) ?_
  show X mX5_hashOfCounts 5 124 _ _ 0 0 0 [(0, .ref this), (1, .long p0), (3, .ref p1)] [] (f, n)
  refine x_lload_n 1 dX5_hashOfCounts_0 rfl rfl ?_
  refine x_aload_n 0 dX5_hashOfCounts_1 rfl rfl ?_
  refine x_getr_r dX5_hashOfCounts_2 fl_X5_12 hF (fun v1 hF => ?_)
  refine x_iconst 0 (by decide) dX5_hashOfCounts_5 ?_
  refine x_sipush 9999 (by decide) dX5_hashOfCounts_6 ?_
  refine x_nn hF (fun a2 ha2 hF => ?_)
  rw [ha2]
  obtain ⟨z3, hzz3, hF⟩ := x_bind hF
  obtain ⟨⟨fsz3, hbz3⟩, hzz3⟩ := x_cv_sp hzz3
  refine x_callv (As := [.int 0, .int 9999]) (rest := [.long p0]) 0 0 dX5_hashOfCounts_9 mi_X3_countStanding ml_X5_176 rfl rfl (Nat.le_of_ble_eq_true rfl) ⟨by decide, by decide⟩ (by omega) (by omega) hbz3 rfl (c_X3_countStanding N _ _ _ _ _ _ hzz3) (x_K.some ?_) x_KX.none
  refine x_i2l dX5_hashOfCounts_12 ?_
  obtain ⟨z4, hzz4, hF⟩ := x_bind hF
  refine x_calls (As := [.long p0, .long ((z3 : Int32).toInt64)]) (rest := []) 0 0 dX5_hashOfCounts_13 mi_X5_mix rfl ml_X5_379 rfl rfl (Nat.le_of_ble_eq_true rfl) ⟨by decide, by decide⟩ (by omega) (by omega) (c_X5_mix N _ _ _ _ _ hzz4) (x_K.some ?_) x_KX.none
  refine x_lstore (i := 4) (lv' := [(4, .long z4), (0, .ref this), (1, .long p0), (3, .ref p1)]) dX5_hashOfCounts_16 (by decide) rfl ?_
  refine x_lload 0 dX5_hashOfCounts_18 rfl ?_
  refine x_aload_n 3 dX5_hashOfCounts_20 rfl rfl ?_
  refine x_iconst 0 (by decide) dX5_hashOfCounts_21 ?_
  refine x_sipush 9999 (by decide) dX5_hashOfCounts_22 ?_
  obtain ⟨z5, hzz5, hF⟩ := x_bind hF
  obtain ⟨⟨fsz5, hbz5⟩, hzz5⟩ := x_cv_sp hzz5
  refine x_callv (As := [.int 0, .int 9999]) (rest := [.long z4]) 0 0 dX5_hashOfCounts_25 mi_X2_countFrom ml_X5_179 rfl rfl (Nat.le_of_ble_eq_true rfl) ⟨by decide, by decide⟩ (by omega) (by omega) hbz5 rfl (c_X2_countFrom N _ _ _ _ _ _ hzz5) (x_K.some ?_) x_KX.none
  refine x_i2l dX5_hashOfCounts_28 ?_
  obtain ⟨z6, hzz6, hF⟩ := x_bind hF
  refine x_calls (As := [.long z4, .long ((z5 : Int32).toInt64)]) (rest := []) 0 0 dX5_hashOfCounts_29 mi_X5_mix rfl ml_X5_379 rfl rfl (Nat.le_of_ble_eq_true rfl) ⟨by decide, by decide⟩ (by omega) (by omega) (c_X5_mix N _ _ _ _ _ hzz6) (x_K.some ?_) x_KX.none
  refine x_lstore (i := 4) (lv' := [(4, .long z6), (0, .ref this), (1, .long p0), (3, .ref p1)]) dX5_hashOfCounts_32 (by decide) rfl ?_
  refine x_lload 0 dX5_hashOfCounts_34 rfl ?_
  refine x_aload_n 1 dX5_hashOfCounts_36 rfl rfl ?_
  refine x_getr_r dX5_hashOfCounts_37 fl_X5_12 hF (fun v7 hF => ?_)
  refine x_bipush 100 (by decide) dX5_hashOfCounts_40 ?_
  refine x_sipush 500 (by decide) dX5_hashOfCounts_42 ?_
  refine x_nn hF (fun a8 ha8 hF => ?_)
  rw [ha8]
  obtain ⟨z9, hzz9, hF⟩ := x_bind hF
  obtain ⟨⟨fsz9, hbz9⟩, hzz9⟩ := x_cv_sp hzz9
  refine x_callv (As := [.int 100, .int 500]) (rest := [.long z6]) 0 0 dX5_hashOfCounts_45 mi_X3_countStanding ml_X5_176 rfl rfl (Nat.le_of_ble_eq_true rfl) ⟨by decide, by decide⟩ (by omega) (by omega) hbz9 rfl (c_X3_countStanding N _ _ _ _ _ _ hzz9) (x_K.some ?_) x_KX.none
  refine x_i2l dX5_hashOfCounts_48 ?_
  obtain ⟨z10, hzz10, hF⟩ := x_bind hF
  refine x_calls (As := [.long z6, .long ((z9 : Int32).toInt64)]) (rest := []) 0 0 dX5_hashOfCounts_49 mi_X5_mix rfl ml_X5_379 rfl rfl (Nat.le_of_ble_eq_true rfl) ⟨by decide, by decide⟩ (by omega) (by omega) (c_X5_mix N _ _ _ _ _ hzz10) (x_K.some ?_) x_KX.none
  refine x_lstore (i := 4) (lv' := [(4, .long z10), (0, .ref this), (1, .long p0), (3, .ref p1)]) dX5_hashOfCounts_52 (by decide) rfl ?_
  refine x_lload 0 dX5_hashOfCounts_54 rfl ?_
  refine x_aload_n 3 dX5_hashOfCounts_56 rfl rfl ?_
  refine x_bipush 100 (by decide) dX5_hashOfCounts_57 ?_
  refine x_sipush 500 (by decide) dX5_hashOfCounts_59 ?_
  obtain ⟨z11, hzz11, hF⟩ := x_bind hF
  obtain ⟨⟨fsz11, hbz11⟩, hzz11⟩ := x_cv_sp hzz11
  refine x_callv (As := [.int 100, .int 500]) (rest := [.long z10]) 0 0 dX5_hashOfCounts_62 mi_X2_countFrom ml_X5_179 rfl rfl (Nat.le_of_ble_eq_true rfl) ⟨by decide, by decide⟩ (by omega) (by omega) hbz11 rfl (c_X2_countFrom N _ _ _ _ _ _ hzz11) (x_K.some ?_) x_KX.none
  refine x_i2l dX5_hashOfCounts_65 ?_
  obtain ⟨z12, hzz12, hF⟩ := x_bind hF
  refine x_calls (As := [.long z10, .long ((z11 : Int32).toInt64)]) (rest := []) 0 0 dX5_hashOfCounts_66 mi_X5_mix rfl ml_X5_379 rfl rfl (Nat.le_of_ble_eq_true rfl) ⟨by decide, by decide⟩ (by omega) (by omega) (c_X5_mix N _ _ _ _ _ hzz12) (x_K.some ?_) x_KX.none
  exact x_lret dX5_hashOfCounts_69 rfl (by cases hF; rfl)
def F_X5_mostPagesOf_L4 (N : Nat) (f : XM) (c0 : Nat) (c1 : Nat) (K : Int32 → Int32 → Option Int32) : Nat → Int32 → Int32 → Option Int32
  | 0, _, _ => none
  | k + 1, x2, x3 =>
    (x_geti f 2 c1 2).bind fun v2 =>
    if v2 ≤ x3 then
      K x2 x3
    else
      (x_getr f 5 c0 0).bind fun v3 =>
      (x_cv f 2 c1 (F_X2_keyOn N f c1 x3)).bind fun z4 =>
      Option.bind v3 fun a5 =>
      (x_cv f 3 a5 (F_X3_pagesRead N f a5 z4)).bind fun z6 =>
      F_X5_mostPagesOf_L4 N f c0 c1 K k (x_imax x2 z6) (x3 + 1)
def F_X5_mostPagesOf (N : Nat) (f : XM) (this : Nat) (p0 : Nat) : Option Int32 :=
  F_X5_mostPagesOf_L4 N f this p0 (fun y2_7 y3_7 =>
  some y2_7) N 0 0
set_option maxRecDepth 20000 in
set_option maxHeartbeats 4000000 in
theorem w_X5_mostPagesOf_L4 (N : Nat) (f : XM) (c0 : Nat) (c1 : Nat) (K : Int32 → Int32 → Option Int32) (n : Nat) (r : Int32) {rc rs : Nat} : ∀ (k : Nat) (x2 : Int32) (x3 : Int32), F_X5_mostPagesOf_L4 N f c0 c1 K k x2 x3 = some r → (∀ (x2 : Int32) (x3 : Int32), K x2 x3 = some r → X mX5_mostPagesOf 4 97 (x_end (xr_ip r (f, n))) x_noRO rc rs 35 [(0, .ref c0), (1, .ref c1), (2, .int x2), (3, .int x3)] [] (f, n)) → X mX5_mostPagesOf 4 97 (x_end (xr_ip r (f, n))) x_noRO rc rs 4 [(0, .ref c0), (1, .ref c1), (2, .int x2), (3, .int x3)] [] (f, n) := by
  intro k
  induction k with
  | zero =>
    intro x2 x3 hF
    exact absurd hF (by intro h9; cases h9)
  | succ k ih =>
    intro x2 x3 hF hK
    have ih := fun x2 x3 hF => ih x2 x3 hF hK
    rw [F_X5_mostPagesOf_L4] at hF
    refine x_iload_n 3 dX5_mostPagesOf_4 rfl rfl ?_
    refine x_aload_n 1 dX5_mostPagesOf_5 rfl rfl ?_
    refine x_geti_r dX5_mostPagesOf_6 fl_X5_133 hF (fun v2 hF => ?_)
    refine x_icmp_ge 35 dX5_mostPagesOf_9 (by decide) hF (fun hF => ?_) (fun hF => ?_)
    · refine x_sub [0, 1, 2, 3] rfl ?_
      exact hK _ _ hF
    · refine x_iload_n 2 dX5_mostPagesOf_12 rfl rfl ?_
      refine x_aload_n 0 dX5_mostPagesOf_13 rfl rfl ?_
      refine x_getr_r dX5_mostPagesOf_14 fl_X5_12 hF (fun v3 hF => ?_)
      refine x_aload_n 1 dX5_mostPagesOf_17 rfl rfl ?_
      refine x_iload_n 3 dX5_mostPagesOf_18 rfl rfl ?_
      obtain ⟨z4, hzz4, hF⟩ := x_bind hF
      obtain ⟨⟨fsz4, hbz4⟩, hzz4⟩ := x_cv_sp hzz4
      refine x_callv (As := [.int x3]) (rest := [va_rf v3, .int x2]) (rc + 0) (rs + 0) dX5_mostPagesOf_19 mi_X2_keyOn ml_X5_185 rfl rfl (by simp only [List.map_cons, List.map_nil, x_rfc]; exact Nat.le_of_ble_eq_true rfl) ⟨by decide, by decide⟩ (by omega) (by omega) hbz4 rfl (c_X2_keyOn N _ _ _ _ _ hzz4) (x_K.some ?_) x_KX.none
      refine x_nn hF (fun a5 ha5 hF => ?_)
      rw [ha5]
      obtain ⟨z6, hzz6, hF⟩ := x_bind hF
      obtain ⟨⟨fsz6, hbz6⟩, hzz6⟩ := x_cv_sp hzz6
      refine x_callv (As := [.int z4]) (rest := [.int x2]) (rc + 0) (rs + 0) dX5_mostPagesOf_22 mi_X3_pagesRead ml_X5_169 rfl rfl (Nat.le_of_ble_eq_true rfl) ⟨by decide, by decide⟩ (by omega) (by omega) hbz6 rfl (c_X3_pagesRead N _ _ _ _ _ hzz6) (x_K.some ?_) x_KX.none
      refine x_mmax dX5_mostPagesOf_25 ml_X5_350 jd_maxs jd_mi jd_maxc (by decide) (by decide) (Nat.le_of_ble_eq_true rfl) ?_
      refine x_istore_n (i := 2) (lv' := [(2, .int (x_imax x2 z6)), (0, .ref c0), (1, .ref c1), (3, .int x3)]) dX5_mostPagesOf_28 rfl (by decide) rfl ?_
      refine x_iinc (x3 + 1) (lv' := [(3, .int (x3 + 1)), (2, .int (x_imax x2 z6)), (0, .ref c0), (1, .ref c1)]) dX5_mostPagesOf_29 3 rfl (by rfl) (by decide) rfl ?_
      refine x_goto 4 dX5_mostPagesOf_32 (by decide) ?_
      refine x_sub [2, 3, 1, 0] rfl ?_
      exact ih _ _ hF
set_option maxRecDepth 20000 in
set_option maxHeartbeats 4000000 in
theorem c_X5_mostPagesOf (N : Nat) (f : XM) (this : Nat) (p0 : Nat) (n : Nat) (r : Int32) (hF : F_X5_mostPagesOf N f this p0 = some r) : x_Ct mX5_mostPagesOf 4 97 0 0 [.ref this, .ref p0] (f, n) (xr_ip r (f, n)) := by
  unfold F_X5_mostPagesOf at hF
  refine x_ct (by decide) rfl (Nat.le_of_ble_eq_true rfl) ?_
  show X mX5_mostPagesOf 4 97 _ _ 0 0 0 [(0, .ref this), (1, .ref p0)] [] (f, n)
  refine x_iconst 0 (by decide) dX5_mostPagesOf_0 ?_
  refine x_istore_n (i := 2) (lv' := [(2, .int 0), (0, .ref this), (1, .ref p0)]) dX5_mostPagesOf_1 rfl (by decide) rfl ?_
  refine x_iconst 0 (by decide) dX5_mostPagesOf_2 ?_
  refine x_istore_n (i := 3) (lv' := [(3, .int 0), (2, .int 0), (0, .ref this), (1, .ref p0)]) dX5_mostPagesOf_3 rfl (by decide) rfl ?_
  refine x_sub [2, 3, 1, 0] rfl ?_
  refine w_X5_mostPagesOf_L4 N _ _ _ _ _ r _ _ _ hF (fun y2_7 y3_7 hF => ?_)
  refine x_iload_n 2 dX5_mostPagesOf_35 rfl rfl ?_
  exact x_iret dX5_mostPagesOf_36 rfl (by cases hF; rfl)
def F_X5_meanPagesOf_L4 (N : Nat) (f : XM) (c0 : Nat) (c1 : Nat) (K : Int32 → Int32 → Option UInt64) : Nat → Int32 → Int32 → Option UInt64
  | 0, _, _ => none
  | k + 1, x2, x3 =>
    (x_geti f 2 c1 2).bind fun v2 =>
    if v2 ≤ x3 then
      K x2 x3
    else
      (x_getr f 5 c0 0).bind fun v3 =>
      (x_cv f 2 c1 (F_X2_keyOn N f c1 x3)).bind fun z4 =>
      Option.bind v3 fun a5 =>
      (x_cv f 3 a5 (F_X3_pagesRead N f a5 z4)).bind fun z6 =>
      F_X5_meanPagesOf_L4 N f c0 c1 K k (x2 + z6) (x3 + 1)
def F_X5_meanPagesOf (N : Nat) (f : XM) (this : Nat) (p0 : Nat) : Option UInt64 :=
  F_X5_meanPagesOf_L4 N f this p0 (fun y2_7 y3_7 =>
  (x_geti f 2 p0 2).bind fun v8 =>
  if 0 < v8 then
    (x_geti f 2 p0 2).bind fun v9 =>
    (x_dn (FP.ddiv (FP.i2d y2_7) (FP.i2d v9))).bind fun v10 =>
    some v10
  else
    some FP.dconst0) N 0 0
set_option maxRecDepth 20000 in
set_option maxHeartbeats 4000000 in
theorem w_X5_meanPagesOf_L4 (N : Nat) (f : XM) (c0 : Nat) (c1 : Nat) (K : Int32 → Int32 → Option UInt64) (n : Nat) (r : UInt64) {rc rs : Nat} : ∀ (k : Nat) (x2 : Int32) (x3 : Int32), F_X5_meanPagesOf_L4 N f c0 c1 K k x2 x3 = some r → (∀ (x2 : Int32) (x3 : Int32), K x2 x3 = some r → X mX5_meanPagesOf 4 97 (x_end (xr_dp r (f, n))) x_noRO rc rs 33 [(0, .ref c0), (1, .ref c1), (2, .int x2), (3, .int x3)] [] (f, n)) → X mX5_meanPagesOf 4 97 (x_end (xr_dp r (f, n))) x_noRO rc rs 4 [(0, .ref c0), (1, .ref c1), (2, .int x2), (3, .int x3)] [] (f, n) := by
  intro k
  induction k with
  | zero =>
    intro x2 x3 hF
    exact absurd hF (by intro h9; cases h9)
  | succ k ih =>
    intro x2 x3 hF hK
    have ih := fun x2 x3 hF => ih x2 x3 hF hK
    rw [F_X5_meanPagesOf_L4] at hF
    refine x_iload_n 3 dX5_meanPagesOf_4 rfl rfl ?_
    refine x_aload_n 1 dX5_meanPagesOf_5 rfl rfl ?_
    refine x_geti_r dX5_meanPagesOf_6 fl_X5_133 hF (fun v2 hF => ?_)
    refine x_icmp_ge 33 dX5_meanPagesOf_9 (by decide) hF (fun hF => ?_) (fun hF => ?_)
    · refine x_sub [0, 1, 2, 3] rfl ?_
      exact hK _ _ hF
    · refine x_iload_n 2 dX5_meanPagesOf_12 rfl rfl ?_
      refine x_aload_n 0 dX5_meanPagesOf_13 rfl rfl ?_
      refine x_getr_r dX5_meanPagesOf_14 fl_X5_12 hF (fun v3 hF => ?_)
      refine x_aload_n 1 dX5_meanPagesOf_17 rfl rfl ?_
      refine x_iload_n 3 dX5_meanPagesOf_18 rfl rfl ?_
      obtain ⟨z4, hzz4, hF⟩ := x_bind hF
      obtain ⟨⟨fsz4, hbz4⟩, hzz4⟩ := x_cv_sp hzz4
      refine x_callv (As := [.int x3]) (rest := [va_rf v3, .int x2]) (rc + 0) (rs + 0) dX5_meanPagesOf_19 mi_X2_keyOn ml_X5_185 rfl rfl (by simp only [List.map_cons, List.map_nil, x_rfc]; exact Nat.le_of_ble_eq_true rfl) ⟨by decide, by decide⟩ (by omega) (by omega) hbz4 rfl (c_X2_keyOn N _ _ _ _ _ hzz4) (x_K.some ?_) x_KX.none
      refine x_nn hF (fun a5 ha5 hF => ?_)
      rw [ha5]
      obtain ⟨z6, hzz6, hF⟩ := x_bind hF
      obtain ⟨⟨fsz6, hbz6⟩, hzz6⟩ := x_cv_sp hzz6
      refine x_callv (As := [.int z4]) (rest := [.int x2]) (rc + 0) (rs + 0) dX5_meanPagesOf_22 mi_X3_pagesRead ml_X5_169 rfl rfl (Nat.le_of_ble_eq_true rfl) ⟨by decide, by decide⟩ (by omega) (by omega) hbz6 rfl (c_X3_pagesRead N _ _ _ _ _ hzz6) (x_K.some ?_) x_KX.none
      refine x_iadd dX5_meanPagesOf_25 ?_
      refine x_istore_n (i := 2) (lv' := [(2, .int (x2 + z6)), (0, .ref c0), (1, .ref c1), (3, .int x3)]) dX5_meanPagesOf_26 rfl (by decide) rfl ?_
      refine x_iinc (x3 + 1) (lv' := [(3, .int (x3 + 1)), (2, .int (x2 + z6)), (0, .ref c0), (1, .ref c1)]) dX5_meanPagesOf_27 3 rfl (by rfl) (by decide) rfl ?_
      refine x_goto 4 dX5_meanPagesOf_30 (by decide) ?_
      refine x_sub [2, 3, 1, 0] rfl ?_
      exact ih _ _ hF
set_option maxRecDepth 20000 in
set_option maxHeartbeats 4000000 in
theorem c_X5_meanPagesOf (N : Nat) (f : XM) (this : Nat) (p0 : Nat) (n : Nat) (r : UInt64) (hF : F_X5_meanPagesOf N f this p0 = some r) : x_Ct mX5_meanPagesOf 4 97 0 0 [.ref this, .ref p0] (f, n) (xr_dp r (f, n)) := by
  unfold F_X5_meanPagesOf at hF
  refine x_ct (by decide) rfl (Nat.le_of_ble_eq_true rfl) ?_
  show X mX5_meanPagesOf 4 97 _ _ 0 0 0 [(0, .ref this), (1, .ref p0)] [] (f, n)
  refine x_iconst 0 (by decide) dX5_meanPagesOf_0 ?_
  refine x_istore_n (i := 2) (lv' := [(2, .int 0), (0, .ref this), (1, .ref p0)]) dX5_meanPagesOf_1 rfl (by decide) rfl ?_
  refine x_iconst 0 (by decide) dX5_meanPagesOf_2 ?_
  refine x_istore_n (i := 3) (lv' := [(3, .int 0), (2, .int 0), (0, .ref this), (1, .ref p0)]) dX5_meanPagesOf_3 rfl (by decide) rfl ?_
  refine x_sub [2, 3, 1, 0] rfl ?_
  refine w_X5_meanPagesOf_L4 N _ _ _ _ _ r _ _ _ hF (fun y2_7 y3_7 hF => ?_)
  refine x_aload_n 1 dX5_meanPagesOf_33 rfl rfl ?_
  refine x_geti_r dX5_meanPagesOf_34 fl_X5_133 hF (fun v8 hF => ?_)
  refine x_if_gt 44 dX5_meanPagesOf_37 (by decide) hF (fun hF => ?_) (fun hF => ?_)
  · refine x_iload_n 2 dX5_meanPagesOf_44 rfl rfl ?_
    refine x_i2d dX5_meanPagesOf_45 ?_
    refine x_aload_n 1 dX5_meanPagesOf_46 rfl rfl ?_
    refine x_geti_r dX5_meanPagesOf_47 fl_X5_133 hF (fun v9 hF => ?_)
    refine x_i2d dX5_meanPagesOf_50 ?_
    refine x_ddiv dX5_meanPagesOf_51 hF (fun v10 hF => ?_)
    exact x_dret dX5_meanPagesOf_52 rfl (by cases hF; rfl)
  · refine x_dconst0 dX5_meanPagesOf_40 ?_
    refine x_goto 52 dX5_meanPagesOf_41 (by decide) ?_
    exact x_dret dX5_meanPagesOf_52 rfl (by cases hF; rfl)
def F_X5_hashOfAccounts (N : Nat) (f : XM) (this : Nat) (p0 : Int64) (p1 : Nat) : Option Int64 :=
  (x_getr f 5 this 0).bind fun v1 =>
  Option.bind v1 fun a2 =>
  (x_geti f 3 a2 6).bind fun v3 =>
  (F_X5_mix N f p0 ((v3 : Int32).toInt64)).bind fun z4 =>
  (x_getr f 5 this 0).bind fun v5 =>
  Option.bind v5 fun a6 =>
  (x_geti f 3 a6 7).bind fun v7 =>
  (F_X5_mix N f z4 ((v7 : Int32).toInt64)).bind fun z8 =>
  (x_getr f 5 this 0).bind fun v9 =>
  Option.bind v9 fun a10 =>
  (x_cv f 3 a10 (F_X3_toldCount N f a10)).bind fun z11 =>
  (F_X5_mix N f z8 ((z11 : Int32).toInt64)).bind fun z12 =>
  (x_cv f 5 this (F_X5_mostPagesOf N f this p1)).bind fun z13 =>
  (F_X5_mix N f z12 ((z13 : Int32).toInt64)).bind fun z14 =>
  (x_getr f 5 this 0).bind fun v15 =>
  (x_geti f 2 p1 2).bind fun v16 =>
  Option.bind v15 fun a17 =>
  (x_cv f 3 a17 (F_X3_leavesOutOf N f a17 v16 50)).bind fun z18 =>
  (F_X5_mix N f z14 ((z18 : Int32).toInt64)).bind fun z19 =>
  (x_getr f 5 this 0).bind fun v20 =>
  (x_geti f 2 p1 2).bind fun v21 =>
  Option.bind v20 fun a22 =>
  (x_cv f 3 a22 (F_X3_levelsOutOf N f a22 v21 50)).bind fun z23 =>
  (F_X5_mix N f z19 ((z23 : Int32).toInt64)).bind fun z24 =>
  (x_getr f 5 this 0).bind fun v25 =>
  (x_geti f 2 p1 2).bind fun v26 =>
  Option.bind v25 fun a27 =>
  (x_cv f 3 a27 (F_X3_leavesOutOf N f a27 v26 100)).bind fun z28 =>
  (F_X5_mix N f z24 ((z28 : Int32).toInt64)).bind fun z29 =>
  (x_getr f 5 this 0).bind fun v30 =>
  (x_geti f 2 p1 2).bind fun v31 =>
  Option.bind v30 fun a32 =>
  (x_cv f 3 a32 (F_X3_levelsOutOf N f a32 v31 100)).bind fun z33 =>
  (F_X5_mix N f z29 ((z33 : Int32).toInt64)).bind fun z34 =>
  (x_geti f 5 this 3).bind fun v35 =>
  (F_X5_mix N f z34 ((v35 : Int32).toInt64)).bind fun z36 =>
  (x_getr f 5 this 0).bind fun v37 =>
  Option.bind v37 fun a38 =>
  (x_getr f 3 a38 3).bind fun v39 =>
  Option.bind v39 fun a40 =>
  (x_cv f 4 a40 (F_X4_shareInOverflow N f a40)).bind fun z41 =>
  (F_X5_bitsOf N f z41).bind fun z42 =>
  (F_X5_mix N f z36 z42).bind fun z43 =>
  (x_cv f 5 this (F_X5_meanPagesOf N f this p1)).bind fun z44 =>
  (F_X5_bitsOf N f z44).bind fun z45 =>
  (F_X5_mix N f z43 z45).bind fun z46 =>
  some z46
set_option maxRecDepth 20000 in
set_option maxHeartbeats 4000000 in
theorem c_X5_hashOfAccounts (N : Nat) (f : XM) (this : Nat) (p0 : Int64) (p1 : Nat) (n : Nat) (r : Int64) (hF : F_X5_hashOfAccounts N f this p0 p1 = some r) : x_Ct mX5_hashOfAccounts 5 120 0 0 [.ref this, .long p0, .ref p1] (f, n) (xr_lp r (f, n)) := by
  unfold F_X5_hashOfAccounts at hF
  refine x_ct (by decide) rfl (Nat.le_of_ble_eq_true rfl) ?_
  show X mX5_hashOfAccounts 5 120 _ _ 0 0 0 [(0, .ref this), (1, .long p0), (3, .ref p1)] [] (f, n)
  refine x_lload_n 1 dX5_hashOfAccounts_0 rfl rfl ?_
  refine x_aload_n 0 dX5_hashOfAccounts_1 rfl rfl ?_
  refine x_getr_r dX5_hashOfAccounts_2 fl_X5_12 hF (fun v1 hF => ?_)
  refine x_nn hF (fun a2 ha2 hF => ?_)
  rw [ha2]
  refine x_geti_r dX5_hashOfAccounts_5 fl_X5_272 hF (fun v3 hF => ?_)
  refine x_i2l dX5_hashOfAccounts_8 ?_
  obtain ⟨z4, hzz4, hF⟩ := x_bind hF
  refine x_calls (As := [.long p0, .long ((v3 : Int32).toInt64)]) (rest := []) 0 0 dX5_hashOfAccounts_9 mi_X5_mix rfl ml_X5_379 rfl rfl (Nat.le_of_ble_eq_true rfl) ⟨by decide, by decide⟩ (by omega) (by omega) (c_X5_mix N _ _ _ _ _ hzz4) (x_K.some ?_) x_KX.none
  refine x_lstore (i := 4) (lv' := [(4, .long z4), (0, .ref this), (1, .long p0), (3, .ref p1)]) dX5_hashOfAccounts_12 (by decide) rfl ?_
  refine x_lload 0 dX5_hashOfAccounts_14 rfl ?_
  refine x_aload_n 1 dX5_hashOfAccounts_16 rfl rfl ?_
  refine x_getr_r dX5_hashOfAccounts_17 fl_X5_12 hF (fun v5 hF => ?_)
  refine x_nn hF (fun a6 ha6 hF => ?_)
  rw [ha6]
  refine x_geti_r dX5_hashOfAccounts_20 fl_X5_275 hF (fun v7 hF => ?_)
  refine x_i2l dX5_hashOfAccounts_23 ?_
  obtain ⟨z8, hzz8, hF⟩ := x_bind hF
  refine x_calls (As := [.long z4, .long ((v7 : Int32).toInt64)]) (rest := []) 0 0 dX5_hashOfAccounts_24 mi_X5_mix rfl ml_X5_379 rfl rfl (Nat.le_of_ble_eq_true rfl) ⟨by decide, by decide⟩ (by omega) (by omega) (c_X5_mix N _ _ _ _ _ hzz8) (x_K.some ?_) x_KX.none
  refine x_lstore (i := 4) (lv' := [(4, .long z8), (0, .ref this), (1, .long p0), (3, .ref p1)]) dX5_hashOfAccounts_27 (by decide) rfl ?_
  refine x_lload 0 dX5_hashOfAccounts_29 rfl ?_
  refine x_aload_n 1 dX5_hashOfAccounts_31 rfl rfl ?_
  refine x_getr_r dX5_hashOfAccounts_32 fl_X5_12 hF (fun v9 hF => ?_)
  refine x_nn hF (fun a10 ha10 hF => ?_)
  rw [ha10]
  obtain ⟨z11, hzz11, hF⟩ := x_bind hF
  obtain ⟨⟨fsz11, hbz11⟩, hzz11⟩ := x_cv_sp hzz11
  refine x_callv (As := []) (rest := [.long z8]) 0 0 dX5_hashOfAccounts_35 mi_X3_toldCount ml_X5_278 rfl rfl (Nat.le_of_ble_eq_true rfl) ⟨by decide, by decide⟩ (by omega) (by omega) hbz11 rfl (c_X3_toldCount N _ _ _ _ hzz11) (x_K.some ?_) x_KX.none
  refine x_i2l dX5_hashOfAccounts_38 ?_
  obtain ⟨z12, hzz12, hF⟩ := x_bind hF
  refine x_calls (As := [.long z8, .long ((z11 : Int32).toInt64)]) (rest := []) 0 0 dX5_hashOfAccounts_39 mi_X5_mix rfl ml_X5_379 rfl rfl (Nat.le_of_ble_eq_true rfl) ⟨by decide, by decide⟩ (by omega) (by omega) (c_X5_mix N _ _ _ _ _ hzz12) (x_K.some ?_) x_KX.none
  refine x_lstore (i := 4) (lv' := [(4, .long z12), (0, .ref this), (1, .long p0), (3, .ref p1)]) dX5_hashOfAccounts_42 (by decide) rfl ?_
  refine x_lload 0 dX5_hashOfAccounts_44 rfl ?_
  refine x_aload_n 1 dX5_hashOfAccounts_46 rfl rfl ?_
  refine x_aload_n 3 dX5_hashOfAccounts_47 rfl rfl ?_
  obtain ⟨z13, hzz13, hF⟩ := x_bind hF
  obtain ⟨⟨fsz13, hbz13⟩, hzz13⟩ := x_cv_sp hzz13
  refine x_callv (As := [.ref p1]) (rest := [.long z12]) 0 0 dX5_hashOfAccounts_48 mi_X5_mostPagesOf ml_X5_289 rfl rfl (Nat.le_of_ble_eq_true rfl) ⟨by decide, by decide⟩ (by omega) (by omega) hbz13 rfl (c_X5_mostPagesOf N _ _ _ _ _ hzz13) (x_K.some ?_) x_KX.none
  refine x_i2l dX5_hashOfAccounts_51 ?_
  obtain ⟨z14, hzz14, hF⟩ := x_bind hF
  refine x_calls (As := [.long z12, .long ((z13 : Int32).toInt64)]) (rest := []) 0 0 dX5_hashOfAccounts_52 mi_X5_mix rfl ml_X5_379 rfl rfl (Nat.le_of_ble_eq_true rfl) ⟨by decide, by decide⟩ (by omega) (by omega) (c_X5_mix N _ _ _ _ _ hzz14) (x_K.some ?_) x_KX.none
  refine x_lstore (i := 4) (lv' := [(4, .long z14), (0, .ref this), (1, .long p0), (3, .ref p1)]) dX5_hashOfAccounts_55 (by decide) rfl ?_
  refine x_lload 0 dX5_hashOfAccounts_57 rfl ?_
  refine x_aload_n 1 dX5_hashOfAccounts_59 rfl rfl ?_
  refine x_getr_r dX5_hashOfAccounts_60 fl_X5_12 hF (fun v15 hF => ?_)
  refine x_aload_n 3 dX5_hashOfAccounts_63 rfl rfl ?_
  refine x_geti_r dX5_hashOfAccounts_64 fl_X5_133 hF (fun v16 hF => ?_)
  refine x_bipush 50 (by decide) dX5_hashOfAccounts_67 ?_
  refine x_nn hF (fun a17 ha17 hF => ?_)
  rw [ha17]
  obtain ⟨z18, hzz18, hF⟩ := x_bind hF
  obtain ⟨⟨fsz18, hbz18⟩, hzz18⟩ := x_cv_sp hzz18
  refine x_callv (As := [.int v16, .int 50]) (rest := [.long z14]) 0 0 dX5_hashOfAccounts_69 mi_X3_leavesOutOf ml_X5_293 rfl rfl (Nat.le_of_ble_eq_true rfl) ⟨by decide, by decide⟩ (by omega) (by omega) hbz18 rfl (c_X3_leavesOutOf N _ _ _ _ _ _ hzz18) (x_K.some ?_) x_KX.none
  refine x_i2l dX5_hashOfAccounts_72 ?_
  obtain ⟨z19, hzz19, hF⟩ := x_bind hF
  refine x_calls (As := [.long z14, .long ((z18 : Int32).toInt64)]) (rest := []) 0 0 dX5_hashOfAccounts_73 mi_X5_mix rfl ml_X5_379 rfl rfl (Nat.le_of_ble_eq_true rfl) ⟨by decide, by decide⟩ (by omega) (by omega) (c_X5_mix N _ _ _ _ _ hzz19) (x_K.some ?_) x_KX.none
  refine x_lstore (i := 4) (lv' := [(4, .long z19), (0, .ref this), (1, .long p0), (3, .ref p1)]) dX5_hashOfAccounts_76 (by decide) rfl ?_
  refine x_lload 0 dX5_hashOfAccounts_78 rfl ?_
  refine x_aload_n 1 dX5_hashOfAccounts_80 rfl rfl ?_
  refine x_getr_r dX5_hashOfAccounts_81 fl_X5_12 hF (fun v20 hF => ?_)
  refine x_aload_n 3 dX5_hashOfAccounts_84 rfl rfl ?_
  refine x_geti_r dX5_hashOfAccounts_85 fl_X5_133 hF (fun v21 hF => ?_)
  refine x_bipush 50 (by decide) dX5_hashOfAccounts_88 ?_
  refine x_nn hF (fun a22 ha22 hF => ?_)
  rw [ha22]
  obtain ⟨z23, hzz23, hF⟩ := x_bind hF
  obtain ⟨⟨fsz23, hbz23⟩, hzz23⟩ := x_cv_sp hzz23
  refine x_callv (As := [.int v21, .int 50]) (rest := [.long z19]) 0 0 dX5_hashOfAccounts_90 mi_X3_levelsOutOf ml_X5_296 rfl rfl (Nat.le_of_ble_eq_true rfl) ⟨by decide, by decide⟩ (by omega) (by omega) hbz23 rfl (c_X3_levelsOutOf N _ _ _ _ _ _ hzz23) (x_K.some ?_) x_KX.none
  refine x_i2l dX5_hashOfAccounts_93 ?_
  obtain ⟨z24, hzz24, hF⟩ := x_bind hF
  refine x_calls (As := [.long z19, .long ((z23 : Int32).toInt64)]) (rest := []) 0 0 dX5_hashOfAccounts_94 mi_X5_mix rfl ml_X5_379 rfl rfl (Nat.le_of_ble_eq_true rfl) ⟨by decide, by decide⟩ (by omega) (by omega) (c_X5_mix N _ _ _ _ _ hzz24) (x_K.some ?_) x_KX.none
  refine x_lstore (i := 4) (lv' := [(4, .long z24), (0, .ref this), (1, .long p0), (3, .ref p1)]) dX5_hashOfAccounts_97 (by decide) rfl ?_
  refine x_lload 0 dX5_hashOfAccounts_99 rfl ?_
  refine x_aload_n 1 dX5_hashOfAccounts_101 rfl rfl ?_
  refine x_getr_r dX5_hashOfAccounts_102 fl_X5_12 hF (fun v25 hF => ?_)
  refine x_aload_n 3 dX5_hashOfAccounts_105 rfl rfl ?_
  refine x_geti_r dX5_hashOfAccounts_106 fl_X5_133 hF (fun v26 hF => ?_)
  refine x_bipush 100 (by decide) dX5_hashOfAccounts_109 ?_
  refine x_nn hF (fun a27 ha27 hF => ?_)
  rw [ha27]
  obtain ⟨z28, hzz28, hF⟩ := x_bind hF
  obtain ⟨⟨fsz28, hbz28⟩, hzz28⟩ := x_cv_sp hzz28
  refine x_callv (As := [.int v26, .int 100]) (rest := [.long z24]) 0 0 dX5_hashOfAccounts_111 mi_X3_leavesOutOf ml_X5_293 rfl rfl (Nat.le_of_ble_eq_true rfl) ⟨by decide, by decide⟩ (by omega) (by omega) hbz28 rfl (c_X3_leavesOutOf N _ _ _ _ _ _ hzz28) (x_K.some ?_) x_KX.none
  refine x_i2l dX5_hashOfAccounts_114 ?_
  obtain ⟨z29, hzz29, hF⟩ := x_bind hF
  refine x_calls (As := [.long z24, .long ((z28 : Int32).toInt64)]) (rest := []) 0 0 dX5_hashOfAccounts_115 mi_X5_mix rfl ml_X5_379 rfl rfl (Nat.le_of_ble_eq_true rfl) ⟨by decide, by decide⟩ (by omega) (by omega) (c_X5_mix N _ _ _ _ _ hzz29) (x_K.some ?_) x_KX.none
  refine x_lstore (i := 4) (lv' := [(4, .long z29), (0, .ref this), (1, .long p0), (3, .ref p1)]) dX5_hashOfAccounts_118 (by decide) rfl ?_
  refine x_lload 0 dX5_hashOfAccounts_120 rfl ?_
  refine x_aload_n 1 dX5_hashOfAccounts_122 rfl rfl ?_
  refine x_getr_r dX5_hashOfAccounts_123 fl_X5_12 hF (fun v30 hF => ?_)
  refine x_aload_n 3 dX5_hashOfAccounts_126 rfl rfl ?_
  refine x_geti_r dX5_hashOfAccounts_127 fl_X5_133 hF (fun v31 hF => ?_)
  refine x_bipush 100 (by decide) dX5_hashOfAccounts_130 ?_
  refine x_nn hF (fun a32 ha32 hF => ?_)
  rw [ha32]
  obtain ⟨z33, hzz33, hF⟩ := x_bind hF
  obtain ⟨⟨fsz33, hbz33⟩, hzz33⟩ := x_cv_sp hzz33
  refine x_callv (As := [.int v31, .int 100]) (rest := [.long z29]) 0 0 dX5_hashOfAccounts_132 mi_X3_levelsOutOf ml_X5_296 rfl rfl (Nat.le_of_ble_eq_true rfl) ⟨by decide, by decide⟩ (by omega) (by omega) hbz33 rfl (c_X3_levelsOutOf N _ _ _ _ _ _ hzz33) (x_K.some ?_) x_KX.none
  refine x_i2l dX5_hashOfAccounts_135 ?_
  obtain ⟨z34, hzz34, hF⟩ := x_bind hF
  refine x_calls (As := [.long z29, .long ((z33 : Int32).toInt64)]) (rest := []) 0 0 dX5_hashOfAccounts_136 mi_X5_mix rfl ml_X5_379 rfl rfl (Nat.le_of_ble_eq_true rfl) ⟨by decide, by decide⟩ (by omega) (by omega) (c_X5_mix N _ _ _ _ _ hzz34) (x_K.some ?_) x_KX.none
  refine x_lstore (i := 4) (lv' := [(4, .long z34), (0, .ref this), (1, .long p0), (3, .ref p1)]) dX5_hashOfAccounts_139 (by decide) rfl ?_
  refine x_lload 0 dX5_hashOfAccounts_141 rfl ?_
  refine x_aload_n 1 dX5_hashOfAccounts_143 rfl rfl ?_
  refine x_geti_r dX5_hashOfAccounts_144 fl_X5_157 hF (fun v35 hF => ?_)
  refine x_i2l dX5_hashOfAccounts_147 ?_
  obtain ⟨z36, hzz36, hF⟩ := x_bind hF
  refine x_calls (As := [.long z34, .long ((v35 : Int32).toInt64)]) (rest := []) 0 0 dX5_hashOfAccounts_148 mi_X5_mix rfl ml_X5_379 rfl rfl (Nat.le_of_ble_eq_true rfl) ⟨by decide, by decide⟩ (by omega) (by omega) (c_X5_mix N _ _ _ _ _ hzz36) (x_K.some ?_) x_KX.none
  refine x_lstore (i := 4) (lv' := [(4, .long z36), (0, .ref this), (1, .long p0), (3, .ref p1)]) dX5_hashOfAccounts_151 (by decide) rfl ?_
  refine x_lload 0 dX5_hashOfAccounts_153 rfl ?_
  refine x_aload_n 1 dX5_hashOfAccounts_155 rfl rfl ?_
  refine x_getr_r dX5_hashOfAccounts_156 fl_X5_12 hF (fun v37 hF => ?_)
  refine x_nn hF (fun a38 ha38 hF => ?_)
  rw [ha38]
  refine x_getr_r dX5_hashOfAccounts_159 fl_X5_219 hF (fun v39 hF => ?_)
  refine x_nn hF (fun a40 ha40 hF => ?_)
  rw [ha40]
  obtain ⟨z41, hzz41, hF⟩ := x_bind hF
  obtain ⟨⟨fsz41, hbz41⟩, hzz41⟩ := x_cv_sp hzz41
  refine x_callv (As := []) (rest := [.long z36]) 0 0 dX5_hashOfAccounts_162 mi_X4_shareInOverflow ml_X5_281 rfl rfl (Nat.le_of_ble_eq_true rfl) ⟨by decide, by decide⟩ (by omega) (by omega) hbz41 rfl (c_X4_shareInOverflow N _ _ _ _ hzz41) (x_K.some ?_) x_KX.none
  obtain ⟨z42, hzz42, hF⟩ := x_bind hF
  refine x_calls (As := [.double z41]) (rest := [.long z36]) 0 0 dX5_hashOfAccounts_165 mi_X5_bitsOf rfl ml_X5_393 rfl rfl (Nat.le_of_ble_eq_true rfl) ⟨by decide, by decide⟩ (by omega) (by omega) (c_X5_bitsOf N _ _ _ _ hzz42) (x_K.some ?_) x_KX.none
  obtain ⟨z43, hzz43, hF⟩ := x_bind hF
  refine x_calls (As := [.long z36, .long z42]) (rest := []) 0 0 dX5_hashOfAccounts_168 mi_X5_mix rfl ml_X5_379 rfl rfl (Nat.le_of_ble_eq_true rfl) ⟨by decide, by decide⟩ (by omega) (by omega) (c_X5_mix N _ _ _ _ _ hzz43) (x_K.some ?_) x_KX.none
  refine x_lstore (i := 4) (lv' := [(4, .long z43), (0, .ref this), (1, .long p0), (3, .ref p1)]) dX5_hashOfAccounts_171 (by decide) rfl ?_
  refine x_lload 0 dX5_hashOfAccounts_173 rfl ?_
  refine x_aload_n 1 dX5_hashOfAccounts_175 rfl rfl ?_
  refine x_aload_n 3 dX5_hashOfAccounts_176 rfl rfl ?_
  obtain ⟨z44, hzz44, hF⟩ := x_bind hF
  obtain ⟨⟨fsz44, hbz44⟩, hzz44⟩ := x_cv_sp hzz44
  refine x_callv (As := [.ref p1]) (rest := [.long z43]) 0 0 dX5_hashOfAccounts_177 mi_X5_meanPagesOf ml_X5_285 rfl rfl (Nat.le_of_ble_eq_true rfl) ⟨by decide, by decide⟩ (by omega) (by omega) hbz44 rfl (c_X5_meanPagesOf N _ _ _ _ _ hzz44) (x_K.some ?_) x_KX.none
  obtain ⟨z45, hzz45, hF⟩ := x_bind hF
  refine x_calls (As := [.double z44]) (rest := [.long z43]) 0 0 dX5_hashOfAccounts_180 mi_X5_bitsOf rfl ml_X5_393 rfl rfl (Nat.le_of_ble_eq_true rfl) ⟨by decide, by decide⟩ (by omega) (by omega) (c_X5_bitsOf N _ _ _ _ hzz45) (x_K.some ?_) x_KX.none
  obtain ⟨z46, hzz46, hF⟩ := x_bind hF
  refine x_calls (As := [.long z43, .long z45]) (rest := []) 0 0 dX5_hashOfAccounts_183 mi_X5_mix rfl ml_X5_379 rfl rfl (Nat.le_of_ble_eq_true rfl) ⟨by decide, by decide⟩ (by omega) (by omega) (c_X5_mix N _ _ _ _ _ hzz46) (x_K.some ?_) x_KX.none
  exact x_lret dX5_hashOfAccounts_186 rfl (by cases hF; rfl)
def F_X5_hashOfTexts_L5 (N : Nat) (f : XM) (c0 : Nat) (K : Int64 → Int32 → Option Int64) : Nat → Int64 → Int32 → Option Int64
  | 0, _, _ => none
  | k + 1, x3, x5 =>
    if 2 ≤ x5 then
      K x3 x5
    else
      (x_cv f 5 c0 (F_X5_slotAt N f c0 x5)).bind fun z2 =>
      Option.elim z2
        ((F_X5_mixFlag N f x3 false).bind fun z4 =>
        F_X5_hashOfTexts_L5 N f c0 K k z4 (x5 + 1))
        (fun a3 => (F_X5_mixFlag N f x3 true).bind fun z5 =>
        F_X5_hashOfTexts_L5 N f c0 K k z5 (x5 + 1))
def F_X5_hashOfTexts_L49 (N : Nat) (f : XM) (c0 : Nat) (K : Int64 → Int32 → Option Int64) : Nat → Int64 → Int32 → Option Int64
  | 0, _, _ => none
  | k + 1, x3, x5 =>
    (x_geti f 5 c0 6).bind fun v10 =>
    if v10 ≤ x5 then
      K x3 x5
    else
      (x_getr f 5 c0 5).bind fun v11 =>
      Option.bind v11 fun a12 =>
      (x_alen f a12).bind fun v13 =>
      if v13 ≤ x5 then
        K x3 x5
      else
        (x_getr f 5 c0 5).bind fun v14 =>
        Option.bind v14 fun a15 =>
        (x_ald f a15 x5).bind fun v16 =>
        (F_X5_mix N f x3 ((v16 : Int32).toInt64)).bind fun z17 =>
        F_X5_hashOfTexts_L49 N f c0 K k z17 (x5 + 1)
def F_X5_hashOfTexts (N : Nat) (f : XM) (this : Nat) (p0 : Int64) : Option Int64 :=
  F_X5_hashOfTexts_L5 N f this (fun y3_6 y5_6 =>
  (x_geti f 5 this 6).bind fun v7 =>
  (F_X5_mix N f y3_6 ((v7 : Int32).toInt64)).bind fun z8 =>
  F_X5_hashOfTexts_L49 N f this (fun y3_18 y5_18 =>
  some y3_18) N z8 0) N p0 0
set_option maxRecDepth 20000 in
set_option maxHeartbeats 4000000 in
theorem w_X5_hashOfTexts_L5 (N : Nat) (f : XM) (c0 : Nat) (K : Int64 → Int32 → Option Int64) (n : Nat) (r : Int64) {rc rs : Nat} : ∀ (k : Nat) (x3 : Int64) (x5 : Int32), F_X5_hashOfTexts_L5 N f c0 K k x3 x5 = some r → (∀ (x3 : Int64) (x5 : Int32), K x3 x5 = some r → X mX5_hashOfTexts 2 45 (x_end (xr_lp r (f, n))) x_noRO rc rs 36 [(0, .ref c0), (3, .long x3), (5, .int x5)] [] (f, n)) → X mX5_hashOfTexts 2 45 (x_end (xr_lp r (f, n))) x_noRO rc rs 5 [(0, .ref c0), (3, .long x3), (5, .int x5)] [] (f, n) := by
  intro k
  induction k with
  | zero =>
    intro x3 x5 hF
    exact absurd hF (by intro h9; cases h9)
  | succ k ih =>
    intro x3 x5 hF hK
    have ih := fun x3 x5 hF => ih x3 x5 hF hK
    rw [F_X5_hashOfTexts_L5] at hF
    refine x_iload 2 dX5_hashOfTexts_5 rfl ?_
    refine x_iconst 2 (by decide) dX5_hashOfTexts_7 ?_
    refine x_icmp_ge 36 dX5_hashOfTexts_8 (by decide) hF (fun hF => ?_) (fun hF => ?_)
    · refine x_sub [0, 1, 2] rfl ?_
      exact hK _ _ hF
    · refine x_lload_n 1 dX5_hashOfTexts_11 rfl rfl ?_
      refine x_aload_n 0 dX5_hashOfTexts_12 rfl rfl ?_
      refine x_iload 2 dX5_hashOfTexts_13 rfl ?_
      obtain ⟨z2, hzz2, hF⟩ := x_bind hF
      obtain ⟨⟨fsz2, hbz2⟩, hzz2⟩ := x_cv_sp hzz2
      refine x_callv (As := [.int x5]) (rest := [.long x3]) (rc + 0) (rs + 0) dX5_hashOfTexts_15 mi_X5_slotAt ml_X5_141 rfl rfl (Nat.le_of_ble_eq_true rfl) ⟨by decide, by decide⟩ (by omega) (by omega) hbz2 rfl (c_X5_slotAt N _ _ _ _ _ hzz2) (x_K.some ?_) x_KX.none
      refine x_ifnull 25 dX5_hashOfTexts_18 (by decide) hF (fun _ hF => ?_) (fun a3 ha3 hF => ?_)
      · refine x_iconst 0 (by decide) dX5_hashOfTexts_25 ?_
        obtain ⟨z4, hzz4, hF⟩ := x_bind hF
        refine x_calls (As := [.long x3, .int (x_b false)]) (rest := []) (rc + 0) (rs + 0) dX5_hashOfTexts_26 mi_X5_mixFlag rfl ml_X5_383 rfl rfl (Nat.le_of_ble_eq_true rfl) ⟨by decide, by decide⟩ (by omega) (by omega) (c_X5_mixFlag N _ _ _ _ _ hzz4) (x_K.some ?_) x_KX.none
        refine x_lstore_n (i := 3) (lv' := [(3, .long z4), (0, .ref c0), (5, .int x5)]) dX5_hashOfTexts_29 rfl (by decide) rfl ?_
        refine x_iinc (x5 + 1) (lv' := [(5, .int (x5 + 1)), (3, .long z4), (0, .ref c0)]) dX5_hashOfTexts_30 2 rfl (by rfl) (by decide) rfl ?_
        refine x_goto 5 dX5_hashOfTexts_33 (by decide) ?_
        refine x_sub [2, 1, 0] rfl ?_
        exact ih _ _ hF
      · refine x_iconst 1 (by decide) dX5_hashOfTexts_21 ?_
        refine x_goto 26 dX5_hashOfTexts_22 (by decide) ?_
        obtain ⟨z5, hzz5, hF⟩ := x_bind hF
        refine x_calls (As := [.long x3, .int (x_b true)]) (rest := []) (rc + 0) (rs + 0) dX5_hashOfTexts_26 mi_X5_mixFlag rfl ml_X5_383 rfl rfl (Nat.le_of_ble_eq_true rfl) ⟨by decide, by decide⟩ (by omega) (by omega) (c_X5_mixFlag N _ _ _ _ _ hzz5) (x_K.some ?_) x_KX.none
        refine x_lstore_n (i := 3) (lv' := [(3, .long z5), (0, .ref c0), (5, .int x5)]) dX5_hashOfTexts_29 rfl (by decide) rfl ?_
        refine x_iinc (x5 + 1) (lv' := [(5, .int (x5 + 1)), (3, .long z5), (0, .ref c0)]) dX5_hashOfTexts_30 2 rfl (by rfl) (by decide) rfl ?_
        refine x_goto 5 dX5_hashOfTexts_33 (by decide) ?_
        refine x_sub [2, 1, 0] rfl ?_
        exact ih _ _ hF
set_option maxRecDepth 20000 in
set_option maxHeartbeats 4000000 in
theorem w_X5_hashOfTexts_L49 (N : Nat) (f : XM) (c0 : Nat) (K : Int64 → Int32 → Option Int64) (n : Nat) (r : Int64) {rc rs : Nat} : ∀ (k : Nat) (x3 : Int64) (x5 : Int32), F_X5_hashOfTexts_L49 N f c0 K k x3 x5 = some r → (∀ (x3 : Int64) (x5 : Int32), K x3 x5 = some r → X mX5_hashOfTexts 2 45 (x_end (xr_lp r (f, n))) x_noRO rc rs 87 [(0, .ref c0), (3, .long x3), (5, .int x5)] [] (f, n)) → X mX5_hashOfTexts 2 45 (x_end (xr_lp r (f, n))) x_noRO rc rs 49 [(0, .ref c0), (3, .long x3), (5, .int x5)] [] (f, n) := by
  intro k
  induction k with
  | zero =>
    intro x3 x5 hF
    exact absurd hF (by intro h9; cases h9)
  | succ k ih =>
    intro x3 x5 hF hK
    have ih := fun x3 x5 hF => ih x3 x5 hF hK
    rw [F_X5_hashOfTexts_L49] at hF
    refine x_iload 2 dX5_hashOfTexts_49 rfl ?_
    refine x_aload_n 0 dX5_hashOfTexts_51 rfl rfl ?_
    refine x_geti_r dX5_hashOfTexts_52 fl_X5_105 hF (fun v10 hF => ?_)
    refine x_icmp_ge 87 dX5_hashOfTexts_55 (by decide) hF (fun hF => ?_) (fun hF => ?_)
    · refine x_sub [0, 1, 2] rfl ?_
      exact hK _ _ hF
    · refine x_iload 2 dX5_hashOfTexts_58 rfl ?_
      refine x_aload_n 0 dX5_hashOfTexts_60 rfl rfl ?_
      refine x_getr_r dX5_hashOfTexts_61 fl_X5_26 hF (fun v11 hF => ?_)
      refine x_nn hF (fun a12 ha12 hF => ?_)
      rw [ha12]
      refine x_alen_r dX5_hashOfTexts_64 hF (fun v13 hF => ?_)
      refine x_icmp_ge 87 dX5_hashOfTexts_65 (by decide) hF (fun hF => ?_) (fun hF => ?_)
      · refine x_sub [0, 1, 2] rfl ?_
        exact hK _ _ hF
      · refine x_lload_n 1 dX5_hashOfTexts_68 rfl rfl ?_
        refine x_aload_n 0 dX5_hashOfTexts_69 rfl rfl ?_
        refine x_getr_r dX5_hashOfTexts_70 fl_X5_26 hF (fun v14 hF => ?_)
        refine x_iload 2 dX5_hashOfTexts_73 rfl ?_
        refine x_nn hF (fun a15 ha15 hF => ?_)
        rw [ha15]
        refine x_ald_r dX5_hashOfTexts_75 hF (fun v16 hF => ?_)
        refine x_i2l dX5_hashOfTexts_76 ?_
        obtain ⟨z17, hzz17, hF⟩ := x_bind hF
        refine x_calls (As := [.long x3, .long ((v16 : Int32).toInt64)]) (rest := []) (rc + 0) (rs + 0) dX5_hashOfTexts_77 mi_X5_mix rfl ml_X5_379 rfl rfl (Nat.le_of_ble_eq_true rfl) ⟨by decide, by decide⟩ (by omega) (by omega) (c_X5_mix N _ _ _ _ _ hzz17) (x_K.some ?_) x_KX.none
        refine x_lstore_n (i := 3) (lv' := [(3, .long z17), (0, .ref c0), (5, .int x5)]) dX5_hashOfTexts_80 rfl (by decide) rfl ?_
        refine x_iinc (x5 + 1) (lv' := [(5, .int (x5 + 1)), (3, .long z17), (0, .ref c0)]) dX5_hashOfTexts_81 2 rfl (by rfl) (by decide) rfl ?_
        refine x_goto 49 dX5_hashOfTexts_84 (by decide) ?_
        refine x_sub [2, 1, 0] rfl ?_
        exact ih _ _ hF
set_option maxRecDepth 20000 in
set_option maxHeartbeats 4000000 in
theorem c_X5_hashOfTexts (N : Nat) (f : XM) (this : Nat) (p0 : Int64) (n : Nat) (r : Int64) (hF : F_X5_hashOfTexts N f this p0 = some r) : x_Ct mX5_hashOfTexts 2 45 0 0 [.ref this, .long p0] (f, n) (xr_lp r (f, n)) := by
  unfold F_X5_hashOfTexts at hF
  refine x_ct (by decide) rfl (Nat.le_of_ble_eq_true rfl) ?_
  show X mX5_hashOfTexts 2 45 _ _ 0 0 0 [(0, .ref this), (1, .long p0)] [] (f, n)
  refine x_lload_n 1 dX5_hashOfTexts_0 rfl rfl ?_
  refine x_lstore_n (i := 3) (lv' := [(3, .long p0), (0, .ref this), (1, .long p0)]) dX5_hashOfTexts_1 rfl (by decide) rfl ?_
  refine x_iconst 0 (by decide) dX5_hashOfTexts_2 ?_
  refine x_istore (i := 5) (lv' := [(5, .int 0), (3, .long p0), (0, .ref this), (1, .long p0)]) dX5_hashOfTexts_3 (by decide) rfl ?_
  refine x_sub [2, 1, 0] rfl ?_
  refine w_X5_hashOfTexts_L5 N _ _ _ _ r _ _ _ hF (fun y3_6 y5_6 hF => ?_)
  refine x_lload_n 1 dX5_hashOfTexts_36 rfl rfl ?_
  refine x_aload_n 0 dX5_hashOfTexts_37 rfl rfl ?_
  refine x_geti_r dX5_hashOfTexts_38 fl_X5_105 hF (fun v7 hF => ?_)
  refine x_i2l dX5_hashOfTexts_41 ?_
  obtain ⟨z8, hzz8, hF⟩ := x_bind hF
  refine x_calls (As := [.long y3_6, .long ((v7 : Int32).toInt64)]) (rest := []) 0 0 dX5_hashOfTexts_42 mi_X5_mix rfl ml_X5_379 rfl rfl (Nat.le_of_ble_eq_true rfl) ⟨by decide, by decide⟩ (by omega) (by omega) (c_X5_mix N _ _ _ _ _ hzz8) (x_K.some ?_) x_KX.none
  refine x_lstore_n (i := 3) (lv' := [(3, .long z8), (0, .ref this), (5, .int y5_6)]) dX5_hashOfTexts_45 rfl (by decide) rfl ?_
  refine x_iconst 0 (by decide) dX5_hashOfTexts_46 ?_
  refine x_istore (i := 5) (lv' := [(5, .int 0), (3, .long z8), (0, .ref this)]) dX5_hashOfTexts_47 (by decide) rfl ?_
  refine x_sub [2, 1, 0] rfl ?_
  refine w_X5_hashOfTexts_L49 N _ _ _ _ r _ _ _ hF (fun y3_18 y5_18 hF => ?_)
  refine x_lload_n 1 dX5_hashOfTexts_87 rfl rfl ?_
  exact x_lret dX5_hashOfTexts_88 rfl (by cases hF; rfl)
def F_X5_digest (N : Nat) (f : XM) (this : Nat) : Option (Int64 × XM) :=
  (x_getr f 5 this 8).bind fun v1 =>
  (x_getr f 5 this 0).bind fun v2 =>
  Option.bind v2 fun a3 =>
  Option.bind v1 fun a4 =>
  (x_cv f 0 a4 (F_X0_gather N f a4 a3)).bind fun z5 =>
  (x_cv z5.2 5 this (F_X5_hashOfRuns N z5.2 this (4391 : Int64))).bind fun z6 =>
  (x_cv z5.2 5 this (F_X5_hashOfLeaves N z5.2 this z6)).bind fun z7 =>
  (x_cv z5.2 5 this (F_X5_hashOfNodes N z5.2 this z7)).bind fun z8 =>
  Option.bind z5.1 fun a9 =>
  (x_cv z5.2 5 this (F_X5_hashOfFound N z5.2 this z8 a9)).bind fun z10 =>
  (x_cv z5.2 5 this (F_X5_hashOfCounts N z5.2 this z10 a9)).bind fun z11 =>
  (x_cv z5.2 5 this (F_X5_hashOfAccounts N z5.2 this z11 a9)).bind fun z12 =>
  (x_cv z5.2 5 this (F_X5_hashOfTexts N z5.2 this z12)).bind fun z13 =>
  some (z13, z5.2)
set_option maxRecDepth 20000 in
set_option maxHeartbeats 4000000 in
theorem c_X5_digest (N : Nat) (f : XM) (this : Nat) (n : Nat) (r : (Int64 × XM)) (hF : F_X5_digest N f this = some r) : x_Ct mX5_digest 6 149 0 0 [.ref this] (f, n) (xr_lm r n) := by
  unfold F_X5_digest at hF
  refine x_ct (by decide) rfl (Nat.le_of_ble_eq_true rfl) ?_
  show X mX5_digest 6 149 _ _ 0 0 0 [(0, .ref this)] [] (f, n)
  refine x_aload_n 0 dX5_digest_0 rfl rfl ?_
  refine x_getr_r dX5_digest_1 fl_X5_40 hF (fun v1 hF => ?_)
  refine x_aload_n 0 dX5_digest_4 rfl rfl ?_
  refine x_getr_r dX5_digest_5 fl_X5_12 hF (fun v2 hF => ?_)
  refine x_nn hF (fun a3 ha3 hF => ?_)
  rw [ha3]
  refine x_nn hF (fun a4 ha4 hF => ?_)
  rw [ha4]
  obtain ⟨z5, hzz5, hF⟩ := x_bind hF
  obtain ⟨⟨fsz5, hbz5⟩, hzz5⟩ := x_cv_sp hzz5
  refine x_callv (As := [.ref a3]) (rest := []) 0 0 dX5_digest_8 mi_X0_gather ml_X5_129 rfl rfl (Nat.le_of_ble_eq_true rfl) ⟨by decide, by decide⟩ (by omega) (by omega) hbz5 rfl (c_X0_gather N _ _ _ _ _ hzz5) (x_K.some ?_) x_KX.none
  refine x_astore_nq (i := 1) (lv' := [(1, va_rf z5.1), (0, .ref this)]) dX5_digest_11 rfl (by decide) rfl ?_
  refine x_aload_n 1 dX5_digest_12 rfl rfl ?_
  refine x_ldc2 kc_X5_299 dX5_digest_13 ?_
  obtain ⟨z6, hzz6, hF⟩ := x_bind hF
  obtain ⟨⟨fsz6, hbz6⟩, hzz6⟩ := x_cv_sp hzz6
  refine x_callv (As := [.long (4391 : Int64)]) (rest := []) 0 0 dX5_digest_16 mi_X5_hashOfRuns ml_X5_301 rfl rfl (Nat.le_of_ble_eq_true rfl) ⟨by decide, by decide⟩ (by omega) (by omega) hbz6 rfl (c_X5_hashOfRuns N _ _ _ _ _ hzz6) (x_K.some ?_) x_KX.none
  refine x_lstore_n (i := 2) (lv' := [(2, .long z6), (1, va_rf z5.1), (0, .ref this)]) dX5_digest_19 rfl (by decide) (by simp [x_rfc, List.filter]) ?_
  refine x_aload_n 2 dX5_digest_20 rfl rfl ?_
  refine x_lload_n 0 dX5_digest_21 rfl rfl ?_
  obtain ⟨z7, hzz7, hF⟩ := x_bind hF
  obtain ⟨⟨fsz7, hbz7⟩, hzz7⟩ := x_cv_sp hzz7
  refine x_callv (As := [.long z6]) (rest := []) 0 0 dX5_digest_22 mi_X5_hashOfLeaves ml_X5_305 rfl rfl (Nat.le_of_ble_eq_true rfl) ⟨by decide, by decide⟩ (by omega) (by omega) hbz7 rfl (c_X5_hashOfLeaves N _ _ _ _ _ hzz7) (x_K.some ?_) x_KX.none
  refine x_lstore_n (i := 2) (lv' := [(2, .long z7), (1, va_rf z5.1), (0, .ref this)]) dX5_digest_25 rfl (by decide) (by simp [x_rfc, List.filter]) ?_
  refine x_aload_n 2 dX5_digest_26 rfl rfl ?_
  refine x_lload_n 0 dX5_digest_27 rfl rfl ?_
  obtain ⟨z8, hzz8, hF⟩ := x_bind hF
  obtain ⟨⟨fsz8, hbz8⟩, hzz8⟩ := x_cv_sp hzz8
  refine x_callv (As := [.long z7]) (rest := []) 0 0 dX5_digest_28 mi_X5_hashOfNodes ml_X5_308 rfl rfl (Nat.le_of_ble_eq_true rfl) ⟨by decide, by decide⟩ (by omega) (by omega) hbz8 rfl (c_X5_hashOfNodes N _ _ _ _ _ hzz8) (x_K.some ?_) x_KX.none
  refine x_lstore_n (i := 2) (lv' := [(2, .long z8), (1, va_rf z5.1), (0, .ref this)]) dX5_digest_31 rfl (by decide) (by simp [x_rfc, List.filter]) ?_
  refine x_aload_n 2 dX5_digest_32 rfl rfl ?_
  refine x_lload_n 0 dX5_digest_33 rfl rfl ?_
  refine x_aload_nq 1 dX5_digest_34 rfl rfl ?_
  refine x_nn hF (fun a9 ha9 hF => ?_)
  rw [ha9]
  obtain ⟨z10, hzz10, hF⟩ := x_bind hF
  obtain ⟨⟨fsz10, hbz10⟩, hzz10⟩ := x_cv_sp hzz10
  refine x_callv (As := [.long z8, .ref a9]) (rest := []) 0 0 dX5_digest_35 mi_X5_hashOfFound ml_X5_311 rfl rfl (Nat.le_of_ble_eq_true rfl) ⟨by decide, by decide⟩ (by omega) (by omega) hbz10 rfl (c_X5_hashOfFound N _ _ _ _ _ _ hzz10) (x_K.some ?_) x_KX.none
  refine x_lstore_n (i := 2) (lv' := [(2, .long z10), (1, .ref a9), (0, .ref this)]) dX5_digest_38 rfl (by decide) rfl ?_
  refine x_aload_n 2 dX5_digest_39 rfl rfl ?_
  refine x_lload_n 0 dX5_digest_40 rfl rfl ?_
  refine x_aload_n 1 dX5_digest_41 rfl rfl ?_
  obtain ⟨z11, hzz11, hF⟩ := x_bind hF
  obtain ⟨⟨fsz11, hbz11⟩, hzz11⟩ := x_cv_sp hzz11
  refine x_callv (As := [.long z10, .ref a9]) (rest := []) 0 0 dX5_digest_42 mi_X5_hashOfCounts ml_X5_315 rfl rfl (Nat.le_of_ble_eq_true rfl) ⟨by decide, by decide⟩ (by omega) (by omega) hbz11 rfl (c_X5_hashOfCounts N _ _ _ _ _ _ hzz11) (x_K.some ?_) x_KX.none
  refine x_lstore_n (i := 2) (lv' := [(2, .long z11), (1, .ref a9), (0, .ref this)]) dX5_digest_45 rfl (by decide) rfl ?_
  refine x_aload_n 2 dX5_digest_46 rfl rfl ?_
  refine x_lload_n 0 dX5_digest_47 rfl rfl ?_
  refine x_aload_n 1 dX5_digest_48 rfl rfl ?_
  obtain ⟨z12, hzz12, hF⟩ := x_bind hF
  obtain ⟨⟨fsz12, hbz12⟩, hzz12⟩ := x_cv_sp hzz12
  refine x_callv (As := [.long z11, .ref a9]) (rest := []) 0 0 dX5_digest_49 mi_X5_hashOfAccounts ml_X5_318 rfl rfl (Nat.le_of_ble_eq_true rfl) ⟨by decide, by decide⟩ (by omega) (by omega) hbz12 rfl (c_X5_hashOfAccounts N _ _ _ _ _ _ hzz12) (x_K.some ?_) x_KX.none
  refine x_lstore_n (i := 2) (lv' := [(2, .long z12), (1, .ref a9), (0, .ref this)]) dX5_digest_52 rfl (by decide) rfl ?_
  refine x_aload_n 2 dX5_digest_53 rfl rfl ?_
  refine x_lload_n 0 dX5_digest_54 rfl rfl ?_
  obtain ⟨z13, hzz13, hF⟩ := x_bind hF
  obtain ⟨⟨fsz13, hbz13⟩, hzz13⟩ := x_cv_sp hzz13
  refine x_callv (As := [.long z12]) (rest := []) 0 0 dX5_digest_55 mi_X5_hashOfTexts ml_X5_321 rfl rfl (Nat.le_of_ble_eq_true rfl) ⟨by decide, by decide⟩ (by omega) (by omega) hbz13 rfl (c_X5_hashOfTexts N _ _ _ _ _ hzz13) (x_K.some ?_) x_KX.none
  exact x_lret dX5_digest_58 rfl (by cases hF; rfl)
def F_X5_entries (N : Nat) (f : XM) (this : Nat) : Option Int32 :=
  (x_getr f 5 this 0).bind fun v1 =>
  Option.bind v1 fun a2 =>
  (x_getr f 3 a2 3).bind fun v3 =>
  Option.bind v3 fun a4 =>
  (x_getr f 4 a4 0).bind fun v5 =>
  Option.bind v5 fun a6 =>
  (x_geti f 2 a6 2).bind fun v7 =>
  some v7
set_option maxRecDepth 20000 in
set_option maxHeartbeats 4000000 in
theorem c_X5_entries (N : Nat) (f : XM) (this : Nat) (n : Nat) (r : Int32) (hF : F_X5_entries N f this = some r) : x_Ct mX5_entries 0 0 0 0 [.ref this] (f, n) (xr_ip r (f, n)) := by
  unfold F_X5_entries at hF
  refine x_ct (by decide) rfl (Nat.le_of_ble_eq_true rfl) ?_
  show X mX5_entries 0 0 _ _ 0 0 0 [(0, .ref this)] [] (f, n)
  refine x_aload_n 0 dX5_entries_0 rfl rfl ?_
  refine x_getr_r dX5_entries_1 fl_X5_12 hF (fun v1 hF => ?_)
  refine x_nn hF (fun a2 ha2 hF => ?_)
  rw [ha2]
  refine x_getr_r dX5_entries_4 fl_X5_219 hF (fun v3 hF => ?_)
  refine x_nn hF (fun a4 ha4 hF => ?_)
  rw [ha4]
  refine x_getr_r dX5_entries_7 fl_X5_223 hF (fun v5 hF => ?_)
  refine x_nn hF (fun a6 ha6 hF => ?_)
  rw [ha6]
  refine x_geti_r dX5_entries_10 fl_X5_133 hF (fun v7 hF => ?_)
  exact x_iret dX5_entries_13 rfl (by cases hF; rfl)
def F_X5_firstError (N : Nat) (f : XM) (this : Nat) : Option (Int32 × XM) :=
  (x_getr f 5 this 7).bind fun v1 =>
  (x_getr f 5 this 5).bind fun v2 =>
  (x_geti f 5 this 6).bind fun v3 =>
  Option.bind v2 fun a4 =>
  Option.bind v1 fun a5 =>
  (x_cv f 1 a5 (F_X1_errorIn N f a5 a4 v3)).bind fun z6 =>
  some (z6.1, z6.2)
set_option maxRecDepth 20000 in
set_option maxHeartbeats 4000000 in
theorem c_X5_firstError (N : Nat) (f : XM) (this : Nat) (n : Nat) (r : (Int32 × XM)) (hF : F_X5_firstError N f this = some r) : x_Ct mX5_firstError 5 106 0 0 [.ref this] (f, n) (xr_im r n) := by
  unfold F_X5_firstError at hF
  refine x_ct (by decide) rfl (Nat.le_of_ble_eq_true rfl) ?_
  show X mX5_firstError 5 106 _ _ 0 0 0 [(0, .ref this)] [] (f, n)
  refine x_aload_n 0 dX5_firstError_0 rfl rfl ?_
  refine x_getr_r dX5_firstError_1 fl_X5_33 hF (fun v1 hF => ?_)
  refine x_aload_n 0 dX5_firstError_4 rfl rfl ?_
  refine x_getr_r dX5_firstError_5 fl_X5_26 hF (fun v2 hF => ?_)
  refine x_aload_n 0 dX5_firstError_8 rfl rfl ?_
  refine x_geti_r dX5_firstError_9 fl_X5_105 hF (fun v3 hF => ?_)
  refine x_nn hF (fun a4 ha4 hF => ?_)
  rw [ha4]
  refine x_nn hF (fun a5 ha5 hF => ?_)
  rw [ha5]
  obtain ⟨z6, hzz6, hF⟩ := x_bind hF
  obtain ⟨⟨fsz6, hbz6⟩, hzz6⟩ := x_cv_sp hzz6
  refine x_callv (As := [.ref a4, .int v3]) (rest := []) 0 0 dX5_firstError_12 mi_X1_errorIn ml_X5_113 rfl rfl (Nat.le_of_ble_eq_true rfl) ⟨by decide, by decide⟩ (by omega) (by omega) hbz6 rfl (c_X1_errorIn N _ _ _ _ _ _ hzz6) (x_K.some ?_) x_KX.none
  exact x_iret dX5_firstError_15 rfl (by cases hF; rfl)
def F_X5_found (N : Nat) (f : XM) (this : Nat) : Option (Int32 × XM) :=
  (x_getr f 5 this 8).bind fun v1 =>
  (x_getr f 5 this 0).bind fun v2 =>
  Option.bind v2 fun a3 =>
  Option.bind v1 fun a4 =>
  (x_cv f 0 a4 (F_X0_gather N f a4 a3)).bind fun z5 =>
  Option.bind z5.1 fun a6 =>
  (x_geti z5.2 2 a6 2).bind fun v7 =>
  some (v7, z5.2)
set_option maxRecDepth 20000 in
set_option maxHeartbeats 4000000 in
theorem c_X5_found (N : Nat) (f : XM) (this : Nat) (n : Nat) (r : (Int32 × XM)) (hF : F_X5_found N f this = some r) : x_Ct mX5_found 4 114 0 0 [.ref this] (f, n) (xr_im r n) := by
  unfold F_X5_found at hF
  refine x_ct (by decide) rfl (Nat.le_of_ble_eq_true rfl) ?_
  show X mX5_found 4 114 _ _ 0 0 0 [(0, .ref this)] [] (f, n)
  refine x_aload_n 0 dX5_found_0 rfl rfl ?_
  refine x_getr_r dX5_found_1 fl_X5_40 hF (fun v1 hF => ?_)
  refine x_aload_n 0 dX5_found_4 rfl rfl ?_
  refine x_getr_r dX5_found_5 fl_X5_12 hF (fun v2 hF => ?_)
  refine x_nn hF (fun a3 ha3 hF => ?_)
  rw [ha3]
  refine x_nn hF (fun a4 ha4 hF => ?_)
  rw [ha4]
  obtain ⟨z5, hzz5, hF⟩ := x_bind hF
  obtain ⟨⟨fsz5, hbz5⟩, hzz5⟩ := x_cv_sp hzz5
  refine x_callv (As := [.ref a3]) (rest := []) 0 0 dX5_found_8 mi_X0_gather ml_X5_129 rfl rfl (Nat.le_of_ble_eq_true rfl) ⟨by decide, by decide⟩ (by omega) (by omega) hbz5 rfl (c_X0_gather N _ _ _ _ _ hzz5) (x_K.some ?_) x_KX.none
  refine x_nn hF (fun a6 ha6 hF => ?_)
  rw [ha6]
  refine x_geti_r dX5_found_11 fl_X5_133 hF (fun v7 hF => ?_)
  exact x_iret dX5_found_14 rfl (by cases hF; rfl)
def F_X5_init (N : Nat) (h : XH) (this : Nat) : Option XH :=
  (x_new (h.1, h.2) 3 [.null, .null, .int 0, .null, .int 0, .int 0, .int 0, .int 0]).bind fun z1 =>
  (F_X3_init N (z1.2.1, z1.2.2) z1.1).bind fun z2 =>
  (x_putr z2.1 5 this 0 (some z1.1)).bind fun f3 =>
  (x_new (f3, z2.2) 3 [.null, .null, .int 0, .null, .int 0, .int 0, .int 0, .int 0]).bind fun z4 =>
  (F_X3_init N (z4.2.1, z4.2.2) z4.1).bind fun z5 =>
  (x_putr z5.1 5 this 1 (some z4.1)).bind fun f6 =>
  (x_newr (f6, z5.2) 3 6).bind fun z7 =>
  (x_putr z7.2.1 5 this 2 (some z7.1)).bind fun f8 =>
  (x_newr (f8, z7.2.2) 3 2).bind fun z9 =>
  (x_putr z9.2.1 5 this 4 (some z9.1)).bind fun f10 =>
  (x_newi (f10, z9.2.2) 60).bind fun z11 =>
  (x_putr z11.2.1 5 this 5 (some z11.1)).bind fun f12 =>
  (x_new (f12, z11.2.2) 1 [.int 0, .int 0, .int 0, .int 0]).bind fun z13 =>
  (F_X1_init N z13.2.1 z13.1).bind fun z14 =>
  (x_putr z13.2.1 5 this 7 (some z13.1)).bind fun f15 =>
  (x_new (f15, z13.2.2) 0 [.null, .null]).bind fun z16 =>
  (F_X0_init N (z16.2.1, z16.2.2) z16.1).bind fun z17 =>
  (x_putr z17.1 5 this 8 (some z16.1)).bind fun f18 =>
  some (f18, z17.2)
set_option maxRecDepth 20000 in
set_option maxHeartbeats 4000000 in
theorem c_X5_init (N : Nat) (h : XH) (this : Nat) (r : XH) (hF : F_X5_init N h this = some r) : x_Ct mX5_init 4 83 75 6014 [.ref this] h (xr_va r) := by
  unfold F_X5_init at hF
  refine x_ct (by decide) rfl (Nat.le_of_ble_eq_true rfl) ?_
  show X mX5_init 4 83 _ _ 75 6014 0 [(0, .ref this)] [] h
  refine x_aload_n 0 dX5_init_0 rfl rfl ?_
  refine x_oinit dX5_init_1 ml_X5_3 jd_oi jd_oc (by decide) (by decide) (Nat.le_of_ble_eq_true rfl) ?_
  refine x_aload_n 0 dX5_init_4 rfl rfl ?_
  refine x_new_r 74 6006 dX5_init_5 cl_X5_9 (by omega) (by omega) hF (fun z1 hF => ?_)
  refine x_dupr dX5_init_8 ?_
  obtain ⟨z2, hzz2, hF⟩ := x_bind hF
  refine x_calli (As := []) (rest := [.ref z1.1, .ref this]) 43 4111 dX5_init_9 mi_X3_init ml_X5_11 rfl rfl (Nat.le_of_ble_eq_true rfl) ⟨by decide, by decide⟩ (by omega) (by omega) (c_X3_init N _ _ _ hzz2) ?_
  refine x_toX (st' := [.ref z1.1, .ref this]) rfl ?_
  refine x_putr_r (v := (some z1.1)) dX5_init_12 fl_X5_12 rfl (fun h9 => ⟨rfl, rfl⟩) hF (fun f3 hF => ?_)
  refine x_aload_n 0 dX5_init_15 rfl rfl ?_
  refine x_new_r 42 4103 dX5_init_16 cl_X5_9 (by omega) (by omega) hF (fun z4 hF => ?_)
  refine x_dupr dX5_init_19 ?_
  obtain ⟨z5, hzz5, hF⟩ := x_bind hF
  refine x_calli (As := []) (rest := [.ref z4.1, .ref this]) 11 2208 dX5_init_20 mi_X3_init ml_X5_11 rfl rfl (Nat.le_of_ble_eq_true rfl) ⟨by decide, by decide⟩ (by omega) (by omega) (c_X3_init N _ _ _ hzz5) ?_
  refine x_toX (st' := [.ref z4.1, .ref this]) rfl ?_
  refine x_putr_r (v := (some z4.1)) dX5_init_23 fl_X5_16 rfl (fun h9 => by cases h9) hF (fun f6 hF => ?_)
  refine x_aload_n 0 dX5_init_26 rfl rfl ?_
  refine x_bipush 6 (by decide) dX5_init_27 ?_
  refine x_newr_r 3 10 2202 dX5_init_29 cl_X5_9w ao_X3 (by omega) (by show 2202 + 6 ≤ 2208; omega) hF (fun z7 hF => ?_)
  refine x_putr_r (v := (some z7.1)) dX5_init_32 fl_X5_19 rfl (fun h9 => ⟨rfl, rfl⟩) hF (fun f8 hF => ?_)
  refine x_aload_n 0 dX5_init_35 rfl rfl ?_
  refine x_iconst 2 (by decide) dX5_init_36 ?_
  refine x_newr_r 3 9 2200 dX5_init_37 cl_X5_9w ao_X3 (by omega) (by show 2200 + 2 ≤ 2202; omega) hF (fun z9 hF => ?_)
  refine x_putr_r (v := (some z9.1)) dX5_init_40 fl_X5_23 rfl (fun h9 => ⟨rfl, rfl⟩) hF (fun f10 hF => ?_)
  refine x_aload_n 0 dX5_init_43 rfl rfl ?_
  refine x_bipush 60 (by decide) dX5_init_44 ?_
  refine x_newi_r 8 2140 dX5_init_46 ac_int (by omega) (by show 2140 + 60 ≤ 2200; omega) hF (fun z11 hF => ?_)
  refine x_putr_r (v := (some z11.1)) dX5_init_48 fl_X5_26 rfl (fun h9 => ⟨rfl, rfl⟩) hF (fun f12 hF => ?_)
  refine x_aload_n 0 dX5_init_51 rfl rfl ?_
  refine x_new_r 7 2136 dX5_init_52 cl_X5_30 (by omega) (by omega) hF (fun z13 hF => ?_)
  refine x_dupr dX5_init_55 ?_
  obtain ⟨z14, hzz14, hF⟩ := x_bind hF
  refine x_calliN (As := []) (rest := [.ref z13.1, .ref this]) 7 2136 dX5_init_56 mi_X1_init ml_X5_32 rfl rfl (Nat.le_of_ble_eq_true rfl) ⟨by decide, by decide⟩ (by omega) (by omega) (c_X1_init N _ _ _ _ hzz14) ?_
  refine x_toX (st' := [.ref z13.1, .ref this]) rfl ?_
  refine x_putr_r (v := (some z13.1)) dX5_init_59 fl_X5_33 rfl (fun h9 => ⟨rfl, rfl⟩) hF (fun f15 hF => ?_)
  refine x_aload_n 0 dX5_init_62 rfl rfl ?_
  refine x_new_r 6 2134 dX5_init_63 cl_X5_37 (by omega) (by omega) hF (fun z16 hF => ?_)
  refine x_dupr dX5_init_66 ?_
  obtain ⟨z17, hzz17, hF⟩ := x_bind hF
  refine x_calliN (As := []) (rest := [.ref z16.1, .ref this]) 0 0 dX5_init_67 mi_X0_init ml_X5_39 rfl rfl (Nat.le_of_ble_eq_true rfl) ⟨by decide, by decide⟩ (by omega) (by omega) (c_X0_init N _ _ _ hzz17) ?_
  refine x_toX (st' := [.ref z16.1, .ref this]) rfl ?_
  refine x_putr_r (v := (some z16.1)) dX5_init_70 fl_X5_40 rfl (fun h9 => ⟨rfl, rfl⟩) hF (fun f18 hF => ?_)
  exact x_vret dX5_init_73 rfl (by cases hF; rfl)
def F_X5_leaves (N : Nat) (f : XM) (this : Nat) : Option Int32 :=
  (x_getr f 5 this 0).bind fun v1 =>
  Option.bind v1 fun a2 =>
  (x_getr f 3 a2 3).bind fun v3 =>
  Option.bind v3 fun a4 =>
  (x_geti f 4 a4 3).bind fun v5 =>
  some v5
set_option maxRecDepth 20000 in
set_option maxHeartbeats 4000000 in
theorem c_X5_leaves (N : Nat) (f : XM) (this : Nat) (n : Nat) (r : Int32) (hF : F_X5_leaves N f this = some r) : x_Ct mX5_leaves 0 0 0 0 [.ref this] (f, n) (xr_ip r (f, n)) := by
  unfold F_X5_leaves at hF
  refine x_ct (by decide) rfl (Nat.le_of_ble_eq_true rfl) ?_
  show X mX5_leaves 0 0 _ _ 0 0 0 [(0, .ref this)] [] (f, n)
  refine x_aload_n 0 dX5_leaves_0 rfl rfl ?_
  refine x_getr_r dX5_leaves_1 fl_X5_12 hF (fun v1 hF => ?_)
  refine x_nn hF (fun a2 ha2 hF => ?_)
  rw [ha2]
  refine x_getr_r dX5_leaves_4 fl_X5_219 hF (fun v3 hF => ?_)
  refine x_nn hF (fun a4 ha4 hF => ?_)
  rw [ha4]
  refine x_geti_r dX5_leaves_7 fl_X5_229 hF (fun v5 hF => ?_)
  exact x_iret dX5_leaves_10 rfl (by cases hF; rfl)
def F_X5_levels (N : Nat) (f : XM) (this : Nat) : Option Int32 :=
  (x_getr f 5 this 0).bind fun v1 =>
  Option.bind v1 fun a2 =>
  (x_getr f 3 a2 3).bind fun v3 =>
  Option.bind v3 fun a4 =>
  (x_cv f 4 a4 (F_X4_levelCount N f a4)).bind fun z5 =>
  some z5
set_option maxRecDepth 20000 in
set_option maxHeartbeats 4000000 in
theorem c_X5_levels (N : Nat) (f : XM) (this : Nat) (n : Nat) (r : Int32) (hF : F_X5_levels N f this = some r) : x_Ct mX5_levels 2 44 0 0 [.ref this] (f, n) (xr_ip r (f, n)) := by
  unfold F_X5_levels at hF
  refine x_ct (by decide) rfl (Nat.le_of_ble_eq_true rfl) ?_
  show X mX5_levels 2 44 _ _ 0 0 0 [(0, .ref this)] [] (f, n)
  refine x_aload_n 0 dX5_levels_0 rfl rfl ?_
  refine x_getr_r dX5_levels_1 fl_X5_12 hF (fun v1 hF => ?_)
  refine x_nn hF (fun a2 ha2 hF => ?_)
  rw [ha2]
  refine x_getr_r dX5_levels_4 fl_X5_219 hF (fun v3 hF => ?_)
  refine x_nn hF (fun a4 ha4 hF => ?_)
  rw [ha4]
  obtain ⟨z5, hzz5, hF⟩ := x_bind hF
  obtain ⟨⟨fsz5, hbz5⟩, hzz5⟩ := x_cv_sp hzz5
  refine x_callv (As := []) (rest := []) 0 0 dX5_levels_7 mi_X4_levelCount ml_X5_249 rfl rfl (Nat.le_of_ble_eq_true rfl) ⟨by decide, by decide⟩ (by omega) (by omega) hbz5 rfl (c_X4_levelCount N _ _ _ _ hzz5) (x_K.some ?_) x_KX.none
  exact x_iret dX5_levels_10 rfl (by cases hF; rfl)
def F_X5_meanPages (N : Nat) (f : XM) (this : Nat) : Option (UInt64 × XM) :=
  (x_getr f 5 this 8).bind fun v1 =>
  (x_getr f 5 this 0).bind fun v2 =>
  Option.bind v2 fun a3 =>
  Option.bind v1 fun a4 =>
  (x_cv f 0 a4 (F_X0_gather N f a4 a3)).bind fun z5 =>
  Option.bind z5.1 fun a6 =>
  (x_cv z5.2 5 this (F_X5_meanPagesOf N z5.2 this a6)).bind fun z7 =>
  some (z7, z5.2)
set_option maxRecDepth 20000 in
set_option maxHeartbeats 4000000 in
theorem c_X5_meanPages (N : Nat) (f : XM) (this : Nat) (n : Nat) (r : (UInt64 × XM)) (hF : F_X5_meanPages N f this = some r) : x_Ct mX5_meanPages 5 120 0 0 [.ref this] (f, n) (xr_dm r n) := by
  unfold F_X5_meanPages at hF
  refine x_ct (by decide) rfl (Nat.le_of_ble_eq_true rfl) ?_
  show X mX5_meanPages 5 120 _ _ 0 0 0 [(0, .ref this)] [] (f, n)
  refine x_aload_n 0 dX5_meanPages_0 rfl rfl ?_
  refine x_aload_n 0 dX5_meanPages_1 rfl rfl ?_
  refine x_getr_r dX5_meanPages_2 fl_X5_40 hF (fun v1 hF => ?_)
  refine x_aload_n 0 dX5_meanPages_5 rfl rfl ?_
  refine x_getr_r dX5_meanPages_6 fl_X5_12 hF (fun v2 hF => ?_)
  refine x_nn hF (fun a3 ha3 hF => ?_)
  rw [ha3]
  refine x_nn hF (fun a4 ha4 hF => ?_)
  rw [ha4]
  obtain ⟨z5, hzz5, hF⟩ := x_bind hF
  obtain ⟨⟨fsz5, hbz5⟩, hzz5⟩ := x_cv_sp hzz5
  refine x_callv (As := [.ref a3]) (rest := [.ref this]) 0 0 dX5_meanPages_9 mi_X0_gather ml_X5_129 rfl rfl (Nat.le_of_ble_eq_true rfl) ⟨by decide, by decide⟩ (by omega) (by omega) hbz5 rfl (c_X0_gather N _ _ _ _ _ hzz5) (x_K.some ?_) x_KX.none
  refine x_nn hF (fun a6 ha6 hF => ?_)
  rw [ha6]
  obtain ⟨z7, hzz7, hF⟩ := x_bind hF
  obtain ⟨⟨fsz7, hbz7⟩, hzz7⟩ := x_cv_sp hzz7
  refine x_callv (As := [.ref a6]) (rest := []) 0 0 dX5_meanPages_12 mi_X5_meanPagesOf ml_X5_285 rfl rfl (Nat.le_of_ble_eq_true rfl) ⟨by decide, by decide⟩ (by omega) (by omega) hbz7 rfl (c_X5_meanPagesOf N _ _ _ _ _ hzz7) (x_K.some ?_) x_KX.none
  exact x_dret dX5_meanPages_15 rfl (by cases hF; rfl)
def F_X5_overflowShare (N : Nat) (f : XM) (this : Nat) : Option UInt64 :=
  (x_getr f 5 this 0).bind fun v1 =>
  Option.bind v1 fun a2 =>
  (x_getr f 3 a2 3).bind fun v3 =>
  Option.bind v3 fun a4 =>
  (x_cv f 4 a4 (F_X4_shareInOverflow N f a4)).bind fun z5 =>
  some z5
set_option maxRecDepth 20000 in
set_option maxHeartbeats 4000000 in
theorem c_X5_overflowShare (N : Nat) (f : XM) (this : Nat) (n : Nat) (r : UInt64) (hF : F_X5_overflowShare N f this = some r) : x_Ct mX5_overflowShare 2 43 0 0 [.ref this] (f, n) (xr_dp r (f, n)) := by
  unfold F_X5_overflowShare at hF
  refine x_ct (by decide) rfl (Nat.le_of_ble_eq_true rfl) ?_
  show X mX5_overflowShare 2 43 _ _ 0 0 0 [(0, .ref this)] [] (f, n)
  refine x_aload_n 0 dX5_overflowShare_0 rfl rfl ?_
  refine x_getr_r dX5_overflowShare_1 fl_X5_12 hF (fun v1 hF => ?_)
  refine x_nn hF (fun a2 ha2 hF => ?_)
  rw [ha2]
  refine x_getr_r dX5_overflowShare_4 fl_X5_219 hF (fun v3 hF => ?_)
  refine x_nn hF (fun a4 ha4 hF => ?_)
  rw [ha4]
  obtain ⟨z5, hzz5, hF⟩ := x_bind hF
  obtain ⟨⟨fsz5, hbz5⟩, hzz5⟩ := x_cv_sp hzz5
  refine x_callv (As := []) (rest := []) 0 0 dX5_overflowShare_7 mi_X4_shareInOverflow ml_X5_281 rfl rfl (Nat.le_of_ble_eq_true rfl) ⟨by decide, by decide⟩ (by omega) (by omega) hbz5 rfl (c_X4_shareInOverflow N _ _ _ _ hzz5) (x_K.some ?_) x_KX.none
  exact x_dret dX5_overflowShare_10 rfl (by cases hF; rfl)
def F_X5_runs (N : Nat) (f : XM) (this : Nat) : Option Int32 :=
  (x_getr f 5 this 0).bind fun v1 =>
  Option.bind v1 fun a2 =>
  (x_geti f 3 a2 2).bind fun v3 =>
  some v3
set_option maxRecDepth 20000 in
set_option maxHeartbeats 4000000 in
theorem c_X5_runs (N : Nat) (f : XM) (this : Nat) (n : Nat) (r : Int32) (hF : F_X5_runs N f this = some r) : x_Ct mX5_runs 0 0 0 0 [.ref this] (f, n) (xr_ip r (f, n)) := by
  unfold F_X5_runs at hF
  refine x_ct (by decide) rfl (Nat.le_of_ble_eq_true rfl) ?_
  show X mX5_runs 0 0 _ _ 0 0 0 [(0, .ref this)] [] (f, n)
  refine x_aload_n 0 dX5_runs_0 rfl rfl ?_
  refine x_getr_r dX5_runs_1 fl_X5_12 hF (fun v1 hF => ?_)
  refine x_nn hF (fun a2 ha2 hF => ?_)
  rw [ha2]
  refine x_geti_r dX5_runs_4 fl_X5_197 hF (fun v3 hF => ?_)
  exact x_iret dX5_runs_7 rfl (by cases hF; rfl)
def F_X5_savedStates (N : Nat) (f : XM) (this : Nat) : Option Int32 :=
  (x_geti f 5 this 3).bind fun v1 =>
  some v1
set_option maxRecDepth 20000 in
set_option maxHeartbeats 4000000 in
theorem c_X5_savedStates (N : Nat) (f : XM) (this : Nat) (n : Nat) (r : Int32) (hF : F_X5_savedStates N f this = some r) : x_Ct mX5_savedStates 0 0 0 0 [.ref this] (f, n) (xr_ip r (f, n)) := by
  unfold F_X5_savedStates at hF
  refine x_ct (by decide) rfl (Nat.le_of_ble_eq_true rfl) ?_
  show X mX5_savedStates 0 0 _ _ 0 0 0 [(0, .ref this)] [] (f, n)
  refine x_aload_n 0 dX5_savedStates_0 rfl rfl ?_
  refine x_geti_r dX5_savedStates_1 fl_X5_157 hF (fun v1 hF => ?_)
  exact x_iret dX5_savedStates_4 rfl (by cases hF; rfl)
def F_X5_told (N : Nat) (f : XM) (this : Nat) : Option Int32 :=
  (x_getr f 5 this 0).bind fun v1 =>
  Option.bind v1 fun a2 =>
  (x_cv f 3 a2 (F_X3_toldCount N f a2)).bind fun z3 =>
  some z3
set_option maxRecDepth 20000 in
set_option maxHeartbeats 4000000 in
theorem c_X5_told (N : Nat) (f : XM) (this : Nat) (n : Nat) (r : Int32) (hF : F_X5_told N f this = some r) : x_Ct mX5_told 2 45 0 0 [.ref this] (f, n) (xr_ip r (f, n)) := by
  unfold F_X5_told at hF
  refine x_ct (by decide) rfl (Nat.le_of_ble_eq_true rfl) ?_
  show X mX5_told 2 45 _ _ 0 0 0 [(0, .ref this)] [] (f, n)
  refine x_aload_n 0 dX5_told_0 rfl rfl ?_
  refine x_getr_r dX5_told_1 fl_X5_12 hF (fun v1 hF => ?_)
  refine x_nn hF (fun a2 ha2 hF => ?_)
  rw [ha2]
  obtain ⟨z3, hzz3, hF⟩ := x_bind hF
  obtain ⟨⟨fsz3, hbz3⟩, hzz3⟩ := x_cv_sp hzz3
  refine x_callv (As := []) (rest := []) 0 0 dX5_told_4 mi_X3_toldCount ml_X5_278 rfl rfl (Nat.le_of_ble_eq_true rfl) ⟨by decide, by decide⟩ (by omega) (by omega) hbz3 rfl (c_X3_toldCount N _ _ _ _ hzz3) (x_K.some ?_) x_KX.none
  exact x_iret dX5_told_7 rfl (by cases hF; rfl)
def F_X5_worstPages (N : Nat) (f : XM) (this : Nat) : Option (Int32 × XM) :=
  (x_getr f 5 this 8).bind fun v1 =>
  (x_getr f 5 this 0).bind fun v2 =>
  Option.bind v2 fun a3 =>
  Option.bind v1 fun a4 =>
  (x_cv f 0 a4 (F_X0_gather N f a4 a3)).bind fun z5 =>
  Option.bind z5.1 fun a6 =>
  (x_cv z5.2 5 this (F_X5_mostPagesOf N z5.2 this a6)).bind fun z7 =>
  some (z7, z5.2)
set_option maxRecDepth 20000 in
set_option maxHeartbeats 4000000 in
theorem c_X5_worstPages (N : Nat) (f : XM) (this : Nat) (n : Nat) (r : (Int32 × XM)) (hF : F_X5_worstPages N f this = some r) : x_Ct mX5_worstPages 5 120 0 0 [.ref this] (f, n) (xr_im r n) := by
  unfold F_X5_worstPages at hF
  refine x_ct (by decide) rfl (Nat.le_of_ble_eq_true rfl) ?_
  show X mX5_worstPages 5 120 _ _ 0 0 0 [(0, .ref this)] [] (f, n)
  refine x_aload_n 0 dX5_worstPages_0 rfl rfl ?_
  refine x_aload_n 0 dX5_worstPages_1 rfl rfl ?_
  refine x_getr_r dX5_worstPages_2 fl_X5_40 hF (fun v1 hF => ?_)
  refine x_aload_n 0 dX5_worstPages_5 rfl rfl ?_
  refine x_getr_r dX5_worstPages_6 fl_X5_12 hF (fun v2 hF => ?_)
  refine x_nn hF (fun a3 ha3 hF => ?_)
  rw [ha3]
  refine x_nn hF (fun a4 ha4 hF => ?_)
  rw [ha4]
  obtain ⟨z5, hzz5, hF⟩ := x_bind hF
  obtain ⟨⟨fsz5, hbz5⟩, hzz5⟩ := x_cv_sp hzz5
  refine x_callv (As := [.ref a3]) (rest := [.ref this]) 0 0 dX5_worstPages_9 mi_X0_gather ml_X5_129 rfl rfl (Nat.le_of_ble_eq_true rfl) ⟨by decide, by decide⟩ (by omega) (by omega) hbz5 rfl (c_X0_gather N _ _ _ _ _ hzz5) (x_K.some ?_) x_KX.none
  refine x_nn hF (fun a6 ha6 hF => ?_)
  rw [ha6]
  obtain ⟨z7, hzz7, hF⟩ := x_bind hF
  obtain ⟨⟨fsz7, hbz7⟩, hzz7⟩ := x_cv_sp hzz7
  refine x_callv (As := [.ref a6]) (rest := []) 0 0 dX5_worstPages_12 mi_X5_mostPagesOf ml_X5_289 rfl rfl (Nat.le_of_ble_eq_true rfl) ⟨by decide, by decide⟩ (by omega) (by omega) hbz7 rfl (c_X5_mostPagesOf N _ _ _ _ _ hzz7) (x_K.some ?_) x_KX.none
  exact x_iret dX5_worstPages_15 rfl (by cases hF; rfl)
def F_X5_written (N : Nat) (f : XM) (this : Nat) : Option Int32 :=
  (x_getr f 5 this 0).bind fun v1 =>
  Option.bind v1 fun a2 =>
  (x_geti f 3 a2 7).bind fun v3 =>
  some v3
set_option maxRecDepth 20000 in
set_option maxHeartbeats 4000000 in
theorem c_X5_written (N : Nat) (f : XM) (this : Nat) (n : Nat) (r : Int32) (hF : F_X5_written N f this = some r) : x_Ct mX5_written 0 0 0 0 [.ref this] (f, n) (xr_ip r (f, n)) := by
  unfold F_X5_written at hF
  refine x_ct (by decide) rfl (Nat.le_of_ble_eq_true rfl) ?_
  show X mX5_written 0 0 _ _ 0 0 0 [(0, .ref this)] [] (f, n)
  refine x_aload_n 0 dX5_written_0 rfl rfl ?_
  refine x_getr_r dX5_written_1 fl_X5_12 hF (fun v1 hF => ?_)
  refine x_nn hF (fun a2 ha2 hF => ?_)
  rw [ha2]
  refine x_geti_r dX5_written_4 fl_X5_275 hF (fun v3 hF => ?_)
  exact x_iret dX5_written_7 rfl (by cases hF; rfl)
