def F_X5_copyNumbers (N : Nat) (f : XM) (p0 : Nat) (p1 : Nat) (p2 : Int32) : Option (Int32 × XM) :=
  (x_alen f p0).bind fun v1 =>
  (x_alen f p1).bind fun v2 =>
  (x_acp f p0 0 p1 0 (x_imax 0 (x_imin p2 (x_imin v1 v2)))).bind fun f3 =>
  some ((x_imax 0 (x_imin p2 (x_imin v1 v2))), f3)
set_option maxRecDepth 20000 in
set_option maxHeartbeats 4000000 in
theorem c_X5_copyNumbers (N : Nat) (f : XM) (p0 : Nat) (p1 : Nat) (p2 : Int32) (n : Nat) (r : (Int32 × XM)) (hF : F_X5_copyNumbers N f p0 p1 p2 = some r) : x_Ct mX5_copyNumbers 1 45 0 0 [.ref p0, .ref p1, .int p2] (f, n) (xr_im r n) := by
  unfold F_X5_copyNumbers at hF
  refine x_ct (by decide) rfl (Nat.le_of_ble_eq_true rfl) ?_
  show X mX5_copyNumbers 1 45 _ _ 0 0 0 [(0, .ref p0), (1, .ref p1), (2, .int p2)] [] (f, n)
  refine x_aload_n 0 dX5_copyNumbers_0 rfl rfl ?_
  refine x_alen_r dX5_copyNumbers_1 hF (fun v1 hF => ?_)
  refine x_aload_n 1 dX5_copyNumbers_2 rfl rfl ?_
  refine x_alen_r dX5_copyNumbers_3 hF (fun v2 hF => ?_)
  refine x_mmin dX5_copyNumbers_4 ml_X5_345 jd_mins jd_mi jd_minc (by decide) (by decide) (Nat.le_of_ble_eq_true rfl) ?_
  refine x_istore_n (i := 3) (lv' := [(3, .int (x_imin v1 v2)), (0, .ref p0), (1, .ref p1), (2, .int p2)]) dX5_copyNumbers_7 rfl (by decide) rfl ?_
  refine x_iconst 0 (by decide) dX5_copyNumbers_8 ?_
  refine x_iload_n 3 dX5_copyNumbers_9 rfl rfl ?_
  refine x_iload_n 0 dX5_copyNumbers_10 rfl rfl ?_
  refine x_mmin dX5_copyNumbers_11 ml_X5_345 jd_mins jd_mi jd_minc (by decide) (by decide) (Nat.le_of_ble_eq_true rfl) ?_
  refine x_mmax dX5_copyNumbers_14 ml_X5_350 jd_maxs jd_mi jd_maxc (by decide) (by decide) (Nat.le_of_ble_eq_true rfl) ?_
  refine x_istore (i := 4) (lv' := [(4, .int (x_imax 0 (x_imin p2 (x_imin v1 v2)))), (3, .int (x_imin v1 v2)), (0, .ref p0), (1, .ref p1), (2, .int p2)]) dX5_copyNumbers_17 (by decide) rfl ?_
  refine x_aload_n 2 dX5_copyNumbers_19 rfl rfl ?_
  refine x_iconst 0 (by decide) dX5_copyNumbers_20 ?_
  refine x_aload_n 3 dX5_copyNumbers_21 rfl rfl ?_
  refine x_iconst 0 (by decide) dX5_copyNumbers_22 ?_
  refine x_iload 0 dX5_copyNumbers_23 rfl ?_
  refine x_acp_r dX5_copyNumbers_25 ml_X5_353 jd_an jd_as jd_si (by decide) (by decide) (Nat.le_of_ble_eq_true rfl) hF (fun f3 hF => ?_)
  refine x_iload 0 dX5_copyNumbers_28 rfl ?_
  exact x_iret dX5_copyNumbers_30 rfl (by cases hF; rfl)
def F_X2_copyFrom (N : Nat) (f : XM) (this : Nat) (p0 : Nat) : Option XM :=
  (x_getr f 2 p0 0).bind fun v1 =>
  (x_getr f 2 this 0).bind fun v2 =>
  (x_geti f 2 p0 2).bind fun v3 =>
  Option.bind v2 fun a4 =>
  Option.bind v1 fun a5 =>
  (F_X5_copyNumbers N f a5 a4 v3).bind fun z6 =>
  (x_puti z6.2 2 this 2 z6.1).bind fun f7 =>
  (x_getr f7 2 p0 1).bind fun v8 =>
  (x_getr f7 2 this 1).bind fun v9 =>
  (x_geti f7 2 this 2).bind fun v10 =>
  Option.bind v9 fun a11 =>
  Option.bind v8 fun a12 =>
  (F_X5_copyNumbers N f7 a12 a11 v10).bind fun z13 =>
  some z13.2
set_option maxRecDepth 20000 in
set_option maxHeartbeats 4000000 in
theorem c_X2_copyFrom (N : Nat) (f : XM) (this : Nat) (p0 : Nat) (n : Nat) (r : XM) (hF : F_X2_copyFrom N f this p0 = some r) : x_Ct mX2_copyFrom 2 69 0 0 [.ref this, .ref p0] (f, n) (xr_vm r n) := by
  unfold F_X2_copyFrom at hF
  refine x_ct (by decide) rfl (Nat.le_of_ble_eq_true rfl) ?_
  show X mX2_copyFrom 2 69 _ _ 0 0 0 [(0, .ref this), (1, .ref p0)] [] (f, n)
  refine x_aload_n 0 dX2_copyFrom_0 rfl rfl ?_
  refine x_aload_n 1 dX2_copyFrom_1 rfl rfl ?_
  refine x_getr_r dX2_copyFrom_2 fl_X2_15 hF (fun v1 hF => ?_)
  refine x_aload_n 0 dX2_copyFrom_5 rfl rfl ?_
  refine x_getr_r dX2_copyFrom_6 fl_X2_15 hF (fun v2 hF => ?_)
  refine x_aload_n 1 dX2_copyFrom_9 rfl rfl ?_
  refine x_geti_r dX2_copyFrom_10 fl_X2_24 hF (fun v3 hF => ?_)
  refine x_nn hF (fun a4 ha4 hF => ?_)
  rw [ha4]
  refine x_nn hF (fun a5 ha5 hF => ?_)
  rw [ha5]
  obtain ⟨z6, hzz6, hF⟩ := x_bind hF
  refine x_callsN (As := [.ref a5, .ref a4, .int v3]) (rest := [.ref this]) 0 0 dX2_copyFrom_13 mi_X5_copyNumbers rfl ml_X2_39 rfl rfl (Nat.le_of_ble_eq_true rfl) ⟨by decide, by decide⟩ (by omega) (by omega) (c_X5_copyNumbers N _ _ _ _ _ _ hzz6) ?_
  refine x_toX (st' := [.int z6.1, .ref this]) rfl ?_
  refine x_puti_r dX2_copyFrom_16 fl_X2_24 (fun h9 => by cases h9) hF (fun f7 hF => ?_)
  refine x_aload_n 1 dX2_copyFrom_19 rfl rfl ?_
  refine x_getr_r dX2_copyFrom_20 fl_X2_21 hF (fun v8 hF => ?_)
  refine x_aload_n 0 dX2_copyFrom_23 rfl rfl ?_
  refine x_getr_r dX2_copyFrom_24 fl_X2_21 hF (fun v9 hF => ?_)
  refine x_aload_n 0 dX2_copyFrom_27 rfl rfl ?_
  refine x_geti_r dX2_copyFrom_28 fl_X2_24 hF (fun v10 hF => ?_)
  refine x_nn hF (fun a11 ha11 hF => ?_)
  rw [ha11]
  refine x_nn hF (fun a12 ha12 hF => ?_)
  rw [ha12]
  obtain ⟨z13, hzz13, hF⟩ := x_bind hF
  refine x_callsN (As := [.ref a12, .ref a11, .int v10]) (rest := []) 0 0 dX2_copyFrom_31 mi_X5_copyNumbers rfl ml_X2_39 rfl rfl (Nat.le_of_ble_eq_true rfl) ⟨by decide, by decide⟩ (by omega) (by omega) (c_X5_copyNumbers N _ _ _ _ _ _ hzz13) ?_
  refine x_toX (st' := [.int z13.1]) rfl ?_
  refine x_popi dX2_copyFrom_34 ?_
  exact x_vret dX2_copyFrom_35 rfl (by cases hF; rfl)
def F_X2_has (N : Nat) (f : XM) (this : Nat) (p0 : Int32) : Option Bool :=
  if p0 < 0 then
    some false
  else
    (x_geti f 2 this 2).bind fun v1 =>
    if v1 ≤ p0 then
      some false
    else
      (x_getr f 2 this 0).bind fun v2 =>
      Option.bind v2 fun a3 =>
      (x_alen f a3).bind fun v4 =>
      if v4 ≤ p0 then
        some false
      else
        (x_getr f 2 this 1).bind fun v5 =>
        Option.bind v5 fun a6 =>
        (x_alen f a6).bind fun v7 =>
        if v7 ≤ p0 then
          some false
        else
          some true
set_option maxRecDepth 20000 in
set_option maxHeartbeats 4000000 in
theorem c_X2_has (N : Nat) (f : XM) (this : Nat) (p0 : Int32) (n : Nat) (r : Bool) (hF : F_X2_has N f this p0 = some r) : x_Ct mX2_has 0 0 0 0 [.ref this, .int p0] (f, n) (xr_zp r (f, n)) := by
  unfold F_X2_has at hF
  refine x_ct (by decide) rfl (Nat.le_of_ble_eq_true rfl) ?_
  show X mX2_has 0 0 _ _ 0 0 0 [(0, .ref this), (1, .int p0)] [] (f, n)
  refine x_iload_n 1 dX2_has_0 rfl rfl ?_
  refine x_if_lt 34 dX2_has_1 (by decide) hF (fun hF => ?_) (fun hF => ?_)
  · refine x_iconst 0 (by decide) dX2_has_34 ?_
    exact x_zret dX2_has_35 rfl (Or.inl rfl) (by cases hF; rfl)
  · refine x_iload_n 1 dX2_has_4 rfl rfl ?_
    refine x_aload_n 0 dX2_has_5 rfl rfl ?_
    refine x_geti_r dX2_has_6 fl_X2_24 hF (fun v1 hF => ?_)
    refine x_icmp_ge 34 dX2_has_9 (by decide) hF (fun hF => ?_) (fun hF => ?_)
    · refine x_iconst 0 (by decide) dX2_has_34 ?_
      exact x_zret dX2_has_35 rfl (Or.inl rfl) (by cases hF; rfl)
    · refine x_iload_n 1 dX2_has_12 rfl rfl ?_
      refine x_aload_n 0 dX2_has_13 rfl rfl ?_
      refine x_getr_r dX2_has_14 fl_X2_15 hF (fun v2 hF => ?_)
      refine x_nn hF (fun a3 ha3 hF => ?_)
      rw [ha3]
      refine x_alen_r dX2_has_17 hF (fun v4 hF => ?_)
      refine x_icmp_ge 34 dX2_has_18 (by decide) hF (fun hF => ?_) (fun hF => ?_)
      · refine x_iconst 0 (by decide) dX2_has_34 ?_
        exact x_zret dX2_has_35 rfl (Or.inl rfl) (by cases hF; rfl)
      · refine x_iload_n 1 dX2_has_21 rfl rfl ?_
        refine x_aload_n 0 dX2_has_22 rfl rfl ?_
        refine x_getr_r dX2_has_23 fl_X2_21 hF (fun v5 hF => ?_)
        refine x_nn hF (fun a6 ha6 hF => ?_)
        rw [ha6]
        refine x_alen_r dX2_has_26 hF (fun v7 hF => ?_)
        refine x_icmp_ge 34 dX2_has_27 (by decide) hF (fun hF => ?_) (fun hF => ?_)
        · refine x_iconst 0 (by decide) dX2_has_34 ?_
          exact x_zret dX2_has_35 rfl (Or.inl rfl) (by cases hF; rfl)
        · refine x_iconst 1 (by decide) dX2_has_30 ?_
          refine x_goto 35 dX2_has_31 (by decide) ?_
          exact x_zret dX2_has_35 rfl (Or.inr rfl) (by cases hF; rfl)
def F_X2_keyOn (N : Nat) (f : XM) (this : Nat) (p0 : Int32) : Option Int32 :=
  if p0 < 0 then
    some (-1)
  else
    (x_geti f 2 this 2).bind fun v1 =>
    if v1 ≤ p0 then
      some (-1)
    else
      (x_getr f 2 this 0).bind fun v2 =>
      Option.bind v2 fun a3 =>
      (x_alen f a3).bind fun v4 =>
      if v4 ≤ p0 then
        some (-1)
      else
        (x_getr f 2 this 0).bind fun v5 =>
        Option.bind v5 fun a6 =>
        (x_ald f a6 p0).bind fun v7 =>
        some v7
set_option maxRecDepth 20000 in
set_option maxHeartbeats 4000000 in
theorem c_X2_keyOn (N : Nat) (f : XM) (this : Nat) (p0 : Int32) (n : Nat) (r : Int32) (hF : F_X2_keyOn N f this p0 = some r) : x_Ct mX2_keyOn 0 0 0 0 [.ref this, .int p0] (f, n) (xr_ip r (f, n)) := by
  unfold F_X2_keyOn at hF
  refine x_ct (by decide) rfl (Nat.le_of_ble_eq_true rfl) ?_
  show X mX2_keyOn 0 0 _ _ 0 0 0 [(0, .ref this), (1, .int p0)] [] (f, n)
  refine x_iload_n 1 dX2_keyOn_0 rfl rfl ?_
  refine x_if_lt 30 dX2_keyOn_1 (by decide) hF (fun hF => ?_) (fun hF => ?_)
  · refine x_iconst (-1) (by decide) dX2_keyOn_30 ?_
    exact x_iret dX2_keyOn_31 rfl (by cases hF; rfl)
  · refine x_iload_n 1 dX2_keyOn_4 rfl rfl ?_
    refine x_aload_n 0 dX2_keyOn_5 rfl rfl ?_
    refine x_geti_r dX2_keyOn_6 fl_X2_24 hF (fun v1 hF => ?_)
    refine x_icmp_ge 30 dX2_keyOn_9 (by decide) hF (fun hF => ?_) (fun hF => ?_)
    · refine x_iconst (-1) (by decide) dX2_keyOn_30 ?_
      exact x_iret dX2_keyOn_31 rfl (by cases hF; rfl)
    · refine x_iload_n 1 dX2_keyOn_12 rfl rfl ?_
      refine x_aload_n 0 dX2_keyOn_13 rfl rfl ?_
      refine x_getr_r dX2_keyOn_14 fl_X2_15 hF (fun v2 hF => ?_)
      refine x_nn hF (fun a3 ha3 hF => ?_)
      rw [ha3]
      refine x_alen_r dX2_keyOn_17 hF (fun v4 hF => ?_)
      refine x_icmp_ge 30 dX2_keyOn_18 (by decide) hF (fun hF => ?_) (fun hF => ?_)
      · refine x_iconst (-1) (by decide) dX2_keyOn_30 ?_
        exact x_iret dX2_keyOn_31 rfl (by cases hF; rfl)
      · refine x_aload_n 0 dX2_keyOn_21 rfl rfl ?_
        refine x_getr_r dX2_keyOn_22 fl_X2_15 hF (fun v5 hF => ?_)
        refine x_iload_n 1 dX2_keyOn_25 rfl rfl ?_
        refine x_nn hF (fun a6 ha6 hF => ?_)
        rw [ha6]
        refine x_ald_r dX2_keyOn_26 hF (fun v7 hF => ?_)
        refine x_goto 31 dX2_keyOn_27 (by decide) ?_
        exact x_iret dX2_keyOn_31 rfl (by cases hF; rfl)
def F_X2_valueOn (N : Nat) (f : XM) (this : Nat) (p0 : Int32) : Option Int32 :=
  if p0 < 0 then
    some (-1)
  else
    (x_geti f 2 this 2).bind fun v1 =>
    if v1 ≤ p0 then
      some (-1)
    else
      (x_getr f 2 this 1).bind fun v2 =>
      Option.bind v2 fun a3 =>
      (x_alen f a3).bind fun v4 =>
      if v4 ≤ p0 then
        some (-1)
      else
        (x_getr f 2 this 1).bind fun v5 =>
        Option.bind v5 fun a6 =>
        (x_ald f a6 p0).bind fun v7 =>
        some v7
set_option maxRecDepth 20000 in
set_option maxHeartbeats 4000000 in
theorem c_X2_valueOn (N : Nat) (f : XM) (this : Nat) (p0 : Int32) (n : Nat) (r : Int32) (hF : F_X2_valueOn N f this p0 = some r) : x_Ct mX2_valueOn 0 0 0 0 [.ref this, .int p0] (f, n) (xr_ip r (f, n)) := by
  unfold F_X2_valueOn at hF
  refine x_ct (by decide) rfl (Nat.le_of_ble_eq_true rfl) ?_
  show X mX2_valueOn 0 0 _ _ 0 0 0 [(0, .ref this), (1, .int p0)] [] (f, n)
  refine x_iload_n 1 dX2_valueOn_0 rfl rfl ?_
  refine x_if_lt 30 dX2_valueOn_1 (by decide) hF (fun hF => ?_) (fun hF => ?_)
  · refine x_iconst (-1) (by decide) dX2_valueOn_30 ?_
    exact x_iret dX2_valueOn_31 rfl (by cases hF; rfl)
  · refine x_iload_n 1 dX2_valueOn_4 rfl rfl ?_
    refine x_aload_n 0 dX2_valueOn_5 rfl rfl ?_
    refine x_geti_r dX2_valueOn_6 fl_X2_24 hF (fun v1 hF => ?_)
    refine x_icmp_ge 30 dX2_valueOn_9 (by decide) hF (fun hF => ?_) (fun hF => ?_)
    · refine x_iconst (-1) (by decide) dX2_valueOn_30 ?_
      exact x_iret dX2_valueOn_31 rfl (by cases hF; rfl)
    · refine x_iload_n 1 dX2_valueOn_12 rfl rfl ?_
      refine x_aload_n 0 dX2_valueOn_13 rfl rfl ?_
      refine x_getr_r dX2_valueOn_14 fl_X2_21 hF (fun v2 hF => ?_)
      refine x_nn hF (fun a3 ha3 hF => ?_)
      rw [ha3]
      refine x_alen_r dX2_valueOn_17 hF (fun v4 hF => ?_)
      refine x_icmp_ge 30 dX2_valueOn_18 (by decide) hF (fun hF => ?_) (fun hF => ?_)
      · refine x_iconst (-1) (by decide) dX2_valueOn_30 ?_
        exact x_iret dX2_valueOn_31 rfl (by cases hF; rfl)
      · refine x_aload_n 0 dX2_valueOn_21 rfl rfl ?_
        refine x_getr_r dX2_valueOn_22 fl_X2_21 hF (fun v5 hF => ?_)
        refine x_iload_n 1 dX2_valueOn_25 rfl rfl ?_
        refine x_nn hF (fun a6 ha6 hF => ?_)
        rw [ha6]
        refine x_ald_r dX2_valueOn_26 hF (fun v7 hF => ?_)
        refine x_goto 31 dX2_valueOn_27 (by decide) ?_
        exact x_iret dX2_valueOn_31 rfl (by cases hF; rfl)
def F_X2_addLast (N : Nat) (f : XM) (this : Nat) (p0 : Int32) (p1 : Int32) : Option XM :=
  (x_geti f 2 this 2).bind fun v1 =>
  if v1 < 0 then
    some f
  else
    (x_geti f 2 this 2).bind fun v2 =>
    (x_getr f 2 this 0).bind fun v3 =>
    Option.bind v3 fun a4 =>
    (x_alen f a4).bind fun v5 =>
    if v5 ≤ v2 then
      some f
    else
      (x_geti f 2 this 2).bind fun v6 =>
      (x_getr f 2 this 1).bind fun v7 =>
      Option.bind v7 fun a8 =>
      (x_alen f a8).bind fun v9 =>
      if v6 < v9 then
        (x_getr f 2 this 0).bind fun v10 =>
        (x_geti f 2 this 2).bind fun v11 =>
        Option.bind v10 fun a12 =>
        (x_ast f a12 v11 p0).bind fun f13 =>
        (x_getr f13 2 this 1).bind fun v14 =>
        (x_geti f13 2 this 2).bind fun v15 =>
        Option.bind v14 fun a16 =>
        (x_ast f13 a16 v15 p1).bind fun f17 =>
        (x_geti f17 2 this 2).bind fun v18 =>
        (x_puti f17 2 this 2 (v18 + 1)).bind fun f19 =>
        some f19
      else
        some f
set_option maxRecDepth 20000 in
set_option maxHeartbeats 4000000 in
theorem c_X2_addLast (N : Nat) (f : XM) (this : Nat) (p0 : Int32) (p1 : Int32) (n : Nat) (r : XM) (hF : F_X2_addLast N f this p0 p1 = some r) : x_Ct mX2_addLast 0 0 0 0 [.ref this, .int p0, .int p1] (f, n) (xr_vm r n) := by
  unfold F_X2_addLast at hF
  refine x_ct (by decide) rfl (Nat.le_of_ble_eq_true rfl) ?_
  show X mX2_addLast 0 0 _ _ 0 0 0 [(0, .ref this), (1, .int p0), (2, .int p1)] [] (f, n)
  refine x_aload_n 0 dX2_addLast_0 rfl rfl ?_
  refine x_geti_r dX2_addLast_1 fl_X2_24 hF (fun v1 hF => ?_)
  refine x_if_lt 31 dX2_addLast_4 (by decide) hF (fun hF => ?_) (fun hF => ?_)
  · exact x_vret dX2_addLast_31 rfl (by cases hF; rfl)
  · refine x_aload_n 0 dX2_addLast_7 rfl rfl ?_
    refine x_geti_r dX2_addLast_8 fl_X2_24 hF (fun v2 hF => ?_)
    refine x_aload_n 0 dX2_addLast_11 rfl rfl ?_
    refine x_getr_r dX2_addLast_12 fl_X2_15 hF (fun v3 hF => ?_)
    refine x_nn hF (fun a4 ha4 hF => ?_)
    rw [ha4]
    refine x_alen_r dX2_addLast_15 hF (fun v5 hF => ?_)
    refine x_icmp_ge 31 dX2_addLast_16 (by decide) hF (fun hF => ?_) (fun hF => ?_)
    · exact x_vret dX2_addLast_31 rfl (by cases hF; rfl)
    · refine x_aload_n 0 dX2_addLast_19 rfl rfl ?_
      refine x_geti_r dX2_addLast_20 fl_X2_24 hF (fun v6 hF => ?_)
      refine x_aload_n 0 dX2_addLast_23 rfl rfl ?_
      refine x_getr_r dX2_addLast_24 fl_X2_21 hF (fun v7 hF => ?_)
      refine x_nn hF (fun a8 ha8 hF => ?_)
      rw [ha8]
      refine x_alen_r dX2_addLast_27 hF (fun v9 hF => ?_)
      refine x_icmp_lt 32 dX2_addLast_28 (by decide) hF (fun hF => ?_) (fun hF => ?_)
      · refine x_aload_n 0 dX2_addLast_32 rfl rfl ?_
        refine x_getr_r dX2_addLast_33 fl_X2_15 hF (fun v10 hF => ?_)
        refine x_aload_n 0 dX2_addLast_36 rfl rfl ?_
        refine x_geti_r dX2_addLast_37 fl_X2_24 hF (fun v11 hF => ?_)
        refine x_iload_n 1 dX2_addLast_40 rfl rfl ?_
        refine x_nn hF (fun a12 ha12 hF => ?_)
        rw [ha12]
        refine x_ast_r dX2_addLast_41 hF (fun f13 hF => ?_)
        refine x_aload_n 0 dX2_addLast_42 rfl rfl ?_
        refine x_getr_r dX2_addLast_43 fl_X2_21 hF (fun v14 hF => ?_)
        refine x_aload_n 0 dX2_addLast_46 rfl rfl ?_
        refine x_geti_r dX2_addLast_47 fl_X2_24 hF (fun v15 hF => ?_)
        refine x_iload_n 2 dX2_addLast_50 rfl rfl ?_
        refine x_nn hF (fun a16 ha16 hF => ?_)
        rw [ha16]
        refine x_ast_r dX2_addLast_51 hF (fun f17 hF => ?_)
        refine x_aload_n 0 dX2_addLast_52 rfl rfl ?_
        refine x_dupr dX2_addLast_53 ?_
        refine x_geti_r dX2_addLast_54 fl_X2_24 hF (fun v18 hF => ?_)
        refine x_iconst 1 (by decide) dX2_addLast_57 ?_
        refine x_iadd dX2_addLast_58 ?_
        refine x_puti_r dX2_addLast_59 fl_X2_24 (fun h9 => by cases h9) hF (fun f19 hF => ?_)
        exact x_vret dX2_addLast_62 rfl (by cases hF; rfl)
      · exact x_vret dX2_addLast_31 rfl (by cases hF; rfl)
def F_X2_mergeOf_L24 (N : Nat) (c0 : Nat) (c1 : Nat) (c2 : Nat) (c5 : Int32) (K : Int32 → Int32 → Int32 → XM → Option XM) : Nat → Int32 → Int32 → Int32 → XM → Option XM
  | 0, _, _, _, _ => none
  | k + 1, x3, x4, x6, f =>
    if c5 ≤ x6 then
      K x3 x4 x6 f
    else
      (x_cv f 2 c1 (F_X2_has N f c1 x3)).bind fun z5 =>
      if (x_b z5) = 0 then
        (x_cv f 2 c2 (F_X2_has N f c2 x4)).bind fun z54 =>
        if (x_b z54) = 0 then
          K x3 x4 x6 f
        else
          (x_cv f 2 c2 (F_X2_has N f c2 x4)).bind fun z55 =>
          if (x_b z55) = 0 then
            if (0 : Int32) = 0 then
              (x_cv f 2 c1 (F_X2_keyOn N f c1 x3)).bind fun z56 =>
              (x_cv f 2 c1 (F_X2_valueOn N f c1 x3)).bind fun z57 =>
              (x_cv f 2 c0 (F_X2_addLast N f c0 z56 z57)).bind fun z58 =>
              F_X2_mergeOf_L24 N c0 c1 c2 c5 K k (x3 + 1) x4 (x6 + 1) z58
            else
              (x_cv f 2 c1 (F_X2_keyOn N f c1 x3)).bind fun z59 =>
              (x_cv f 2 c2 (F_X2_keyOn N f c2 x4)).bind fun z60 =>
              if z59 = z60 then
                (x_cv f 2 c2 (F_X2_keyOn N f c2 x4)).bind fun z64 =>
                (x_cv f 2 c2 (F_X2_valueOn N f c2 x4)).bind fun z65 =>
                (x_cv f 2 c0 (F_X2_addLast N f c0 z64 z65)).bind fun z66 =>
                F_X2_mergeOf_L24 N c0 c1 c2 c5 K k (x3 + 1) (x4 + 1) (x6 + 1) z66
              else
                (x_cv f 2 c2 (F_X2_keyOn N f c2 x4)).bind fun z61 =>
                (x_cv f 2 c2 (F_X2_valueOn N f c2 x4)).bind fun z62 =>
                (x_cv f 2 c0 (F_X2_addLast N f c0 z61 z62)).bind fun z63 =>
                F_X2_mergeOf_L24 N c0 c1 c2 c5 K k x3 (x4 + 1) (x6 + 1) z63
          else
            (x_cv f 2 c1 (F_X2_has N f c1 x3)).bind fun z67 =>
            if (x_b z67) = 0 then
              if (1 : Int32) = 0 then
                (x_cv f 2 c1 (F_X2_keyOn N f c1 x3)).bind fun z68 =>
                (x_cv f 2 c1 (F_X2_valueOn N f c1 x3)).bind fun z69 =>
                (x_cv f 2 c0 (F_X2_addLast N f c0 z68 z69)).bind fun z70 =>
                F_X2_mergeOf_L24 N c0 c1 c2 c5 K k (x3 + 1) x4 (x6 + 1) z70
              else
                (x_cv f 2 c1 (F_X2_keyOn N f c1 x3)).bind fun z71 =>
                (x_cv f 2 c2 (F_X2_keyOn N f c2 x4)).bind fun z72 =>
                if z71 = z72 then
                  (x_cv f 2 c2 (F_X2_keyOn N f c2 x4)).bind fun z76 =>
                  (x_cv f 2 c2 (F_X2_valueOn N f c2 x4)).bind fun z77 =>
                  (x_cv f 2 c0 (F_X2_addLast N f c0 z76 z77)).bind fun z78 =>
                  F_X2_mergeOf_L24 N c0 c1 c2 c5 K k (x3 + 1) (x4 + 1) (x6 + 1) z78
                else
                  (x_cv f 2 c2 (F_X2_keyOn N f c2 x4)).bind fun z73 =>
                  (x_cv f 2 c2 (F_X2_valueOn N f c2 x4)).bind fun z74 =>
                  (x_cv f 2 c0 (F_X2_addLast N f c0 z73 z74)).bind fun z75 =>
                  F_X2_mergeOf_L24 N c0 c1 c2 c5 K k x3 (x4 + 1) (x6 + 1) z75
            else
              (x_cv f 2 c2 (F_X2_keyOn N f c2 x4)).bind fun z79 =>
              (x_cv f 2 c1 (F_X2_keyOn N f c1 x3)).bind fun z80 =>
              if z80 < z79 then
                if (0 : Int32) = 0 then
                  (x_cv f 2 c1 (F_X2_keyOn N f c1 x3)).bind fun z81 =>
                  (x_cv f 2 c1 (F_X2_valueOn N f c1 x3)).bind fun z82 =>
                  (x_cv f 2 c0 (F_X2_addLast N f c0 z81 z82)).bind fun z83 =>
                  F_X2_mergeOf_L24 N c0 c1 c2 c5 K k (x3 + 1) x4 (x6 + 1) z83
                else
                  (x_cv f 2 c1 (F_X2_keyOn N f c1 x3)).bind fun z84 =>
                  (x_cv f 2 c2 (F_X2_keyOn N f c2 x4)).bind fun z85 =>
                  if z84 = z85 then
                    (x_cv f 2 c2 (F_X2_keyOn N f c2 x4)).bind fun z89 =>
                    (x_cv f 2 c2 (F_X2_valueOn N f c2 x4)).bind fun z90 =>
                    (x_cv f 2 c0 (F_X2_addLast N f c0 z89 z90)).bind fun z91 =>
                    F_X2_mergeOf_L24 N c0 c1 c2 c5 K k (x3 + 1) (x4 + 1) (x6 + 1) z91
                  else
                    (x_cv f 2 c2 (F_X2_keyOn N f c2 x4)).bind fun z86 =>
                    (x_cv f 2 c2 (F_X2_valueOn N f c2 x4)).bind fun z87 =>
                    (x_cv f 2 c0 (F_X2_addLast N f c0 z86 z87)).bind fun z88 =>
                    F_X2_mergeOf_L24 N c0 c1 c2 c5 K k x3 (x4 + 1) (x6 + 1) z88
              else
                if (1 : Int32) = 0 then
                  (x_cv f 2 c1 (F_X2_keyOn N f c1 x3)).bind fun z92 =>
                  (x_cv f 2 c1 (F_X2_valueOn N f c1 x3)).bind fun z93 =>
                  (x_cv f 2 c0 (F_X2_addLast N f c0 z92 z93)).bind fun z94 =>
                  F_X2_mergeOf_L24 N c0 c1 c2 c5 K k (x3 + 1) x4 (x6 + 1) z94
                else
                  (x_cv f 2 c1 (F_X2_keyOn N f c1 x3)).bind fun z95 =>
                  (x_cv f 2 c2 (F_X2_keyOn N f c2 x4)).bind fun z96 =>
                  if z95 = z96 then
                    (x_cv f 2 c2 (F_X2_keyOn N f c2 x4)).bind fun z100 =>
                    (x_cv f 2 c2 (F_X2_valueOn N f c2 x4)).bind fun z101 =>
                    (x_cv f 2 c0 (F_X2_addLast N f c0 z100 z101)).bind fun z102 =>
                    F_X2_mergeOf_L24 N c0 c1 c2 c5 K k (x3 + 1) (x4 + 1) (x6 + 1) z102
                  else
                    (x_cv f 2 c2 (F_X2_keyOn N f c2 x4)).bind fun z97 =>
                    (x_cv f 2 c2 (F_X2_valueOn N f c2 x4)).bind fun z98 =>
                    (x_cv f 2 c0 (F_X2_addLast N f c0 z97 z98)).bind fun z99 =>
                    F_X2_mergeOf_L24 N c0 c1 c2 c5 K k x3 (x4 + 1) (x6 + 1) z99
      else
        (x_cv f 2 c2 (F_X2_has N f c2 x4)).bind fun z6 =>
        if (x_b z6) = 0 then
          if (0 : Int32) = 0 then
            (x_cv f 2 c1 (F_X2_keyOn N f c1 x3)).bind fun z7 =>
            (x_cv f 2 c1 (F_X2_valueOn N f c1 x3)).bind fun z8 =>
            (x_cv f 2 c0 (F_X2_addLast N f c0 z7 z8)).bind fun z9 =>
            F_X2_mergeOf_L24 N c0 c1 c2 c5 K k (x3 + 1) x4 (x6 + 1) z9
          else
            (x_cv f 2 c1 (F_X2_keyOn N f c1 x3)).bind fun z10 =>
            (x_cv f 2 c2 (F_X2_keyOn N f c2 x4)).bind fun z11 =>
            if z10 = z11 then
              (x_cv f 2 c2 (F_X2_keyOn N f c2 x4)).bind fun z15 =>
              (x_cv f 2 c2 (F_X2_valueOn N f c2 x4)).bind fun z16 =>
              (x_cv f 2 c0 (F_X2_addLast N f c0 z15 z16)).bind fun z17 =>
              F_X2_mergeOf_L24 N c0 c1 c2 c5 K k (x3 + 1) (x4 + 1) (x6 + 1) z17
            else
              (x_cv f 2 c2 (F_X2_keyOn N f c2 x4)).bind fun z12 =>
              (x_cv f 2 c2 (F_X2_valueOn N f c2 x4)).bind fun z13 =>
              (x_cv f 2 c0 (F_X2_addLast N f c0 z12 z13)).bind fun z14 =>
              F_X2_mergeOf_L24 N c0 c1 c2 c5 K k x3 (x4 + 1) (x6 + 1) z14
        else
          (x_cv f 2 c1 (F_X2_has N f c1 x3)).bind fun z18 =>
          if (x_b z18) = 0 then
            if (1 : Int32) = 0 then
              (x_cv f 2 c1 (F_X2_keyOn N f c1 x3)).bind fun z19 =>
              (x_cv f 2 c1 (F_X2_valueOn N f c1 x3)).bind fun z20 =>
              (x_cv f 2 c0 (F_X2_addLast N f c0 z19 z20)).bind fun z21 =>
              F_X2_mergeOf_L24 N c0 c1 c2 c5 K k (x3 + 1) x4 (x6 + 1) z21
            else
              (x_cv f 2 c1 (F_X2_keyOn N f c1 x3)).bind fun z22 =>
              (x_cv f 2 c2 (F_X2_keyOn N f c2 x4)).bind fun z23 =>
              if z22 = z23 then
                (x_cv f 2 c2 (F_X2_keyOn N f c2 x4)).bind fun z27 =>
                (x_cv f 2 c2 (F_X2_valueOn N f c2 x4)).bind fun z28 =>
                (x_cv f 2 c0 (F_X2_addLast N f c0 z27 z28)).bind fun z29 =>
                F_X2_mergeOf_L24 N c0 c1 c2 c5 K k (x3 + 1) (x4 + 1) (x6 + 1) z29
              else
                (x_cv f 2 c2 (F_X2_keyOn N f c2 x4)).bind fun z24 =>
                (x_cv f 2 c2 (F_X2_valueOn N f c2 x4)).bind fun z25 =>
                (x_cv f 2 c0 (F_X2_addLast N f c0 z24 z25)).bind fun z26 =>
                F_X2_mergeOf_L24 N c0 c1 c2 c5 K k x3 (x4 + 1) (x6 + 1) z26
          else
            (x_cv f 2 c2 (F_X2_keyOn N f c2 x4)).bind fun z30 =>
            (x_cv f 2 c1 (F_X2_keyOn N f c1 x3)).bind fun z31 =>
            if z31 < z30 then
              if (0 : Int32) = 0 then
                (x_cv f 2 c1 (F_X2_keyOn N f c1 x3)).bind fun z32 =>
                (x_cv f 2 c1 (F_X2_valueOn N f c1 x3)).bind fun z33 =>
                (x_cv f 2 c0 (F_X2_addLast N f c0 z32 z33)).bind fun z34 =>
                F_X2_mergeOf_L24 N c0 c1 c2 c5 K k (x3 + 1) x4 (x6 + 1) z34
              else
                (x_cv f 2 c1 (F_X2_keyOn N f c1 x3)).bind fun z35 =>
                (x_cv f 2 c2 (F_X2_keyOn N f c2 x4)).bind fun z36 =>
                if z35 = z36 then
                  (x_cv f 2 c2 (F_X2_keyOn N f c2 x4)).bind fun z40 =>
                  (x_cv f 2 c2 (F_X2_valueOn N f c2 x4)).bind fun z41 =>
                  (x_cv f 2 c0 (F_X2_addLast N f c0 z40 z41)).bind fun z42 =>
                  F_X2_mergeOf_L24 N c0 c1 c2 c5 K k (x3 + 1) (x4 + 1) (x6 + 1) z42
                else
                  (x_cv f 2 c2 (F_X2_keyOn N f c2 x4)).bind fun z37 =>
                  (x_cv f 2 c2 (F_X2_valueOn N f c2 x4)).bind fun z38 =>
                  (x_cv f 2 c0 (F_X2_addLast N f c0 z37 z38)).bind fun z39 =>
                  F_X2_mergeOf_L24 N c0 c1 c2 c5 K k x3 (x4 + 1) (x6 + 1) z39
            else
              if (1 : Int32) = 0 then
                (x_cv f 2 c1 (F_X2_keyOn N f c1 x3)).bind fun z43 =>
                (x_cv f 2 c1 (F_X2_valueOn N f c1 x3)).bind fun z44 =>
                (x_cv f 2 c0 (F_X2_addLast N f c0 z43 z44)).bind fun z45 =>
                F_X2_mergeOf_L24 N c0 c1 c2 c5 K k (x3 + 1) x4 (x6 + 1) z45
              else
                (x_cv f 2 c1 (F_X2_keyOn N f c1 x3)).bind fun z46 =>
                (x_cv f 2 c2 (F_X2_keyOn N f c2 x4)).bind fun z47 =>
                if z46 = z47 then
                  (x_cv f 2 c2 (F_X2_keyOn N f c2 x4)).bind fun z51 =>
                  (x_cv f 2 c2 (F_X2_valueOn N f c2 x4)).bind fun z52 =>
                  (x_cv f 2 c0 (F_X2_addLast N f c0 z51 z52)).bind fun z53 =>
                  F_X2_mergeOf_L24 N c0 c1 c2 c5 K k (x3 + 1) (x4 + 1) (x6 + 1) z53
                else
                  (x_cv f 2 c2 (F_X2_keyOn N f c2 x4)).bind fun z48 =>
                  (x_cv f 2 c2 (F_X2_valueOn N f c2 x4)).bind fun z49 =>
                  (x_cv f 2 c0 (F_X2_addLast N f c0 z48 z49)).bind fun z50 =>
                  F_X2_mergeOf_L24 N c0 c1 c2 c5 K k x3 (x4 + 1) (x6 + 1) z50
def F_X2_mergeOf (N : Nat) (f : XM) (this : Nat) (p0 : Nat) (p1 : Nat) : Option XM :=
  (x_puti f 2 this 2 0).bind fun f1 =>
  (x_geti f1 2 p0 2).bind fun v2 =>
  (x_geti f1 2 p1 2).bind fun v3 =>
  F_X2_mergeOf_L24 N this p0 p1 (v2 + v3) (fun y3_103 y4_103 y6_103 g103 =>
  some g103) N 0 0 0 f1
set_option maxRecDepth 20000 in
set_option maxHeartbeats 4000000 in
theorem w_X2_mergeOf_L24 (N : Nat) (c0 : Nat) (c1 : Nat) (c2 : Nat) (c5 : Int32) (K : Int32 → Int32 → Int32 → XM → Option XM) (n : Nat) (r : XM) {rc rs : Nat} : ∀ (k : Nat) (x3 : Int32) (x4 : Int32) (x6 : Int32) (f : XM), F_X2_mergeOf_L24 N c0 c1 c2 c5 K k x3 x4 x6 f = some r → (∀ (x3 : Int32) (x4 : Int32) (x6 : Int32) (f : XM), K x3 x4 x6 f = some r → X mX2_mergeOf 1 22 (x_end (xr_vm r n)) x_noRO rc rs 153 [(0, .ref c0), (1, .ref c1), (2, .ref c2), (3, .int x3), (4, .int x4), (5, .int c5), (6, .int x6)] [] (f, n)) → X mX2_mergeOf 1 22 (x_end (xr_vm r n)) x_noRO rc rs 24 [(0, .ref c0), (1, .ref c1), (2, .ref c2), (3, .int x3), (4, .int x4), (5, .int c5), (6, .int x6)] [] (f, n) := by
  intro k
  induction k with
  | zero =>
    intro x3 x4 x6 f hF
    exact absurd hF (by intro h9; cases h9)
  | succ k ih =>
    intro x3 x4 x6 f hF hK
    have ih := fun x3 x4 x6 f hF => ih x3 x4 x6 f hF hK
    rw [F_X2_mergeOf_L24] at hF
    refine x_iload 6 dX2_mergeOf_24 rfl ?_
    refine x_iload 5 dX2_mergeOf_26 rfl ?_
    refine x_icmp_ge 153 dX2_mergeOf_28 (by decide) hF (fun hF => ?_) (fun hF => ?_)
    · refine x_sub [0, 1, 2, 3, 4, 5, 6] rfl ?_
      exact hK _ _ _ _ hF
    · refine x_aload_n 1 dX2_mergeOf_31 rfl rfl ?_
      refine x_iload_n 3 dX2_mergeOf_32 rfl rfl ?_
      obtain ⟨z5, hzz5, hF⟩ := x_bind hF
      obtain ⟨⟨fsz5, hbz5⟩, hzz5⟩ := x_cv_sp hzz5
      refine x_callv (As := [.int x3]) (rest := []) (rc + 0) (rs + 0) dX2_mergeOf_33 mi_X2_has ml_X2_35 rfl rfl (Nat.le_of_ble_eq_true rfl) ⟨by decide, by decide⟩ (by omega) (by omega) hbz5 rfl (c_X2_has N _ _ _ _ _ hzz5) (x_K.some ?_) x_KX.none
      refine x_if_ne 48 dX2_mergeOf_36 (by decide) hF (fun hF => ?_) (fun hF => ?_)
      · refine x_aload_n 2 dX2_mergeOf_48 rfl rfl ?_
        refine x_iload 4 dX2_mergeOf_49 rfl ?_
        obtain ⟨z6, hzz6, hF⟩ := x_bind hF
        obtain ⟨⟨fsz6, hbz6⟩, hzz6⟩ := x_cv_sp hzz6
        refine x_callv (As := [.int x4]) (rest := []) (rc + 0) (rs + 0) dX2_mergeOf_51 mi_X2_has ml_X2_35 rfl rfl (Nat.le_of_ble_eq_true rfl) ⟨by decide, by decide⟩ (by omega) (by omega) hbz6 rfl (c_X2_has N _ _ _ _ _ hzz6) (x_K.some ?_) x_KX.none
        refine x_if_eq 83 dX2_mergeOf_54 (by decide) hF (fun hF => ?_) (fun hF => ?_)
        · refine x_iconst 0 (by decide) dX2_mergeOf_83 ?_
          refine x_istore (i := 7) (lv' := [(7, .int 0), (0, .ref c0), (1, .ref c1), (2, .ref c2), (3, .int x3), (4, .int x4), (5, .int c5), (6, .int x6)]) dX2_mergeOf_84 (by decide) rfl ?_
          refine x_iload 0 dX2_mergeOf_86 rfl ?_
          refine x_if_eq 130 dX2_mergeOf_88 (by decide) hF (fun hF => ?_) (fun hF => ?_)
          · refine x_aload_n 1 dX2_mergeOf_130 rfl rfl ?_
            refine x_aload_n 2 dX2_mergeOf_131 rfl rfl ?_
            refine x_iload_n 4 dX2_mergeOf_132 rfl rfl ?_
            obtain ⟨z7, hzz7, hF⟩ := x_bind hF
            obtain ⟨⟨fsz7, hbz7⟩, hzz7⟩ := x_cv_sp hzz7
            refine x_callv (As := [.int x3]) (rest := [.ref c0]) (rc + 0) (rs + 0) dX2_mergeOf_133 mi_X2_keyOn ml_X2_32 rfl rfl (Nat.le_of_ble_eq_true rfl) ⟨by decide, by decide⟩ (by omega) (by omega) hbz7 rfl (c_X2_keyOn N _ _ _ _ _ hzz7) (x_K.some ?_) x_KX.none
            refine x_aload_n 2 dX2_mergeOf_136 rfl rfl ?_
            refine x_iload_n 4 dX2_mergeOf_137 rfl rfl ?_
            obtain ⟨z8, hzz8, hF⟩ := x_bind hF
            obtain ⟨⟨fsz8, hbz8⟩, hzz8⟩ := x_cv_sp hzz8
            refine x_callv (As := [.int x3]) (rest := [.int z7, .ref c0]) (rc + 0) (rs + 0) dX2_mergeOf_138 mi_X2_valueOn ml_X2_43 rfl rfl (Nat.le_of_ble_eq_true rfl) ⟨by decide, by decide⟩ (by omega) (by omega) hbz8 rfl (c_X2_valueOn N _ _ _ _ _ hzz8) (x_K.some ?_) x_KX.none
            obtain ⟨z9, hzz9, hF⟩ := x_bind hF
            obtain ⟨⟨fsz9, hbz9⟩, hzz9⟩ := x_cv_sp hzz9
            refine x_callv (As := [.int z7, .int z8]) (rest := []) (rc + 0) (rs + 0) dX2_mergeOf_141 mi_X2_addLast ml_X2_46 rfl rfl (Nat.le_of_ble_eq_true rfl) ⟨by decide, by decide⟩ (by omega) (by omega) hbz9 rfl (c_X2_addLast N _ _ _ _ _ _ hzz9) (x_K.none ?_) x_KX.none
            refine x_iinc (x3 + 1) (lv' := [(3, .int (x3 + 1)), (7, .int 0), (0, .ref c0), (1, .ref c1), (2, .ref c2), (4, .int x4), (5, .int c5), (6, .int x6)]) dX2_mergeOf_144 4 rfl (by rfl) (by decide) rfl ?_
            refine x_iinc (x6 + 1) (lv' := [(6, .int (x6 + 1)), (3, .int (x3 + 1)), (7, .int 0), (0, .ref c0), (1, .ref c1), (2, .ref c2), (4, .int x4), (5, .int c5)]) dX2_mergeOf_147 7 rfl (by rfl) (by decide) rfl ?_
            refine x_goto 24 dX2_mergeOf_150 (by decide) ?_
            refine x_sub [3, 4, 5, 1, 6, 7, 0] rfl ?_
            exact ih _ _ _ _ hF
          · refine x_aload_n 2 dX2_mergeOf_91 rfl rfl ?_
            refine x_iload_n 4 dX2_mergeOf_92 rfl rfl ?_
            obtain ⟨z10, hzz10, hF⟩ := x_bind hF
            obtain ⟨⟨fsz10, hbz10⟩, hzz10⟩ := x_cv_sp hzz10
            refine x_callv (As := [.int x3]) (rest := []) (rc + 0) (rs + 0) dX2_mergeOf_93 mi_X2_keyOn ml_X2_32 rfl rfl (Nat.le_of_ble_eq_true rfl) ⟨by decide, by decide⟩ (by omega) (by omega) hbz10 rfl (c_X2_keyOn N _ _ _ _ _ hzz10) (x_K.some ?_) x_KX.none
            refine x_aload_n 3 dX2_mergeOf_96 rfl rfl ?_
            refine x_iload 5 dX2_mergeOf_97 rfl ?_
            obtain ⟨z11, hzz11, hF⟩ := x_bind hF
            obtain ⟨⟨fsz11, hbz11⟩, hzz11⟩ := x_cv_sp hzz11
            refine x_callv (As := [.int x4]) (rest := [.int z10]) (rc + 0) (rs + 0) dX2_mergeOf_99 mi_X2_keyOn ml_X2_32 rfl rfl (Nat.le_of_ble_eq_true rfl) ⟨by decide, by decide⟩ (by omega) (by omega) hbz11 rfl (c_X2_keyOn N _ _ _ _ _ hzz11) (x_K.some ?_) x_KX.none
            refine x_icmp_ne 108 dX2_mergeOf_102 (by decide) hF (fun hF => ?_) (fun hF => ?_)
            · refine x_aload_n 1 dX2_mergeOf_108 rfl rfl ?_
              refine x_aload_n 3 dX2_mergeOf_109 rfl rfl ?_
              refine x_iload 5 dX2_mergeOf_110 rfl ?_
              obtain ⟨z12, hzz12, hF⟩ := x_bind hF
              obtain ⟨⟨fsz12, hbz12⟩, hzz12⟩ := x_cv_sp hzz12
              refine x_callv (As := [.int x4]) (rest := [.ref c0]) (rc + 0) (rs + 0) dX2_mergeOf_112 mi_X2_keyOn ml_X2_32 rfl rfl (Nat.le_of_ble_eq_true rfl) ⟨by decide, by decide⟩ (by omega) (by omega) hbz12 rfl (c_X2_keyOn N _ _ _ _ _ hzz12) (x_K.some ?_) x_KX.none
              refine x_aload_n 3 dX2_mergeOf_115 rfl rfl ?_
              refine x_iload 5 dX2_mergeOf_116 rfl ?_
              obtain ⟨z13, hzz13, hF⟩ := x_bind hF
              obtain ⟨⟨fsz13, hbz13⟩, hzz13⟩ := x_cv_sp hzz13
              refine x_callv (As := [.int x4]) (rest := [.int z12, .ref c0]) (rc + 0) (rs + 0) dX2_mergeOf_118 mi_X2_valueOn ml_X2_43 rfl rfl (Nat.le_of_ble_eq_true rfl) ⟨by decide, by decide⟩ (by omega) (by omega) hbz13 rfl (c_X2_valueOn N _ _ _ _ _ hzz13) (x_K.some ?_) x_KX.none
              obtain ⟨z14, hzz14, hF⟩ := x_bind hF
              obtain ⟨⟨fsz14, hbz14⟩, hzz14⟩ := x_cv_sp hzz14
              refine x_callv (As := [.int z12, .int z13]) (rest := []) (rc + 0) (rs + 0) dX2_mergeOf_121 mi_X2_addLast ml_X2_46 rfl rfl (Nat.le_of_ble_eq_true rfl) ⟨by decide, by decide⟩ (by omega) (by omega) hbz14 rfl (c_X2_addLast N _ _ _ _ _ _ hzz14) (x_K.none ?_) x_KX.none
              refine x_iinc (x4 + 1) (lv' := [(4, .int (x4 + 1)), (7, .int 0), (0, .ref c0), (1, .ref c1), (2, .ref c2), (3, .int x3), (5, .int c5), (6, .int x6)]) dX2_mergeOf_124 5 rfl (by rfl) (by decide) rfl ?_
              refine x_goto 147 dX2_mergeOf_127 (by decide) ?_
              refine x_iinc (x6 + 1) (lv' := [(6, .int (x6 + 1)), (4, .int (x4 + 1)), (7, .int 0), (0, .ref c0), (1, .ref c1), (2, .ref c2), (3, .int x3), (5, .int c5)]) dX2_mergeOf_147 7 rfl (by rfl) (by decide) rfl ?_
              refine x_goto 24 dX2_mergeOf_150 (by decide) ?_
              refine x_sub [3, 4, 5, 6, 1, 7, 0] rfl ?_
              exact ih _ _ _ _ hF
            · refine x_iinc (x3 + 1) (lv' := [(3, .int (x3 + 1)), (7, .int 0), (0, .ref c0), (1, .ref c1), (2, .ref c2), (4, .int x4), (5, .int c5), (6, .int x6)]) dX2_mergeOf_105 4 rfl (by rfl) (by decide) rfl ?_
              refine x_aload_n 2 dX2_mergeOf_108 rfl rfl ?_
              refine x_aload_n 4 dX2_mergeOf_109 rfl rfl ?_
              refine x_iload 5 dX2_mergeOf_110 rfl ?_
              obtain ⟨z15, hzz15, hF⟩ := x_bind hF
              obtain ⟨⟨fsz15, hbz15⟩, hzz15⟩ := x_cv_sp hzz15
              refine x_callv (As := [.int x4]) (rest := [.ref c0]) (rc + 0) (rs + 0) dX2_mergeOf_112 mi_X2_keyOn ml_X2_32 rfl rfl (Nat.le_of_ble_eq_true rfl) ⟨by decide, by decide⟩ (by omega) (by omega) hbz15 rfl (c_X2_keyOn N _ _ _ _ _ hzz15) (x_K.some ?_) x_KX.none
              refine x_aload_n 4 dX2_mergeOf_115 rfl rfl ?_
              refine x_iload 5 dX2_mergeOf_116 rfl ?_
              obtain ⟨z16, hzz16, hF⟩ := x_bind hF
              obtain ⟨⟨fsz16, hbz16⟩, hzz16⟩ := x_cv_sp hzz16
              refine x_callv (As := [.int x4]) (rest := [.int z15, .ref c0]) (rc + 0) (rs + 0) dX2_mergeOf_118 mi_X2_valueOn ml_X2_43 rfl rfl (Nat.le_of_ble_eq_true rfl) ⟨by decide, by decide⟩ (by omega) (by omega) hbz16 rfl (c_X2_valueOn N _ _ _ _ _ hzz16) (x_K.some ?_) x_KX.none
              obtain ⟨z17, hzz17, hF⟩ := x_bind hF
              obtain ⟨⟨fsz17, hbz17⟩, hzz17⟩ := x_cv_sp hzz17
              refine x_callv (As := [.int z15, .int z16]) (rest := []) (rc + 0) (rs + 0) dX2_mergeOf_121 mi_X2_addLast ml_X2_46 rfl rfl (Nat.le_of_ble_eq_true rfl) ⟨by decide, by decide⟩ (by omega) (by omega) hbz17 rfl (c_X2_addLast N _ _ _ _ _ _ hzz17) (x_K.none ?_) x_KX.none
              refine x_iinc (x4 + 1) (lv' := [(4, .int (x4 + 1)), (3, .int (x3 + 1)), (7, .int 0), (0, .ref c0), (1, .ref c1), (2, .ref c2), (5, .int c5), (6, .int x6)]) dX2_mergeOf_124 5 rfl (by rfl) (by decide) rfl ?_
              refine x_goto 147 dX2_mergeOf_127 (by decide) ?_
              refine x_iinc (x6 + 1) (lv' := [(6, .int (x6 + 1)), (4, .int (x4 + 1)), (3, .int (x3 + 1)), (7, .int 0), (0, .ref c0), (1, .ref c1), (2, .ref c2), (5, .int c5)]) dX2_mergeOf_147 7 rfl (by rfl) (by decide) rfl ?_
              refine x_goto 24 dX2_mergeOf_150 (by decide) ?_
              refine x_sub [4, 5, 6, 2, 1, 7, 0] rfl ?_
              exact ih _ _ _ _ hF
        · refine x_aload_n 1 dX2_mergeOf_57 rfl rfl ?_
          refine x_iload_n 3 dX2_mergeOf_58 rfl rfl ?_
          obtain ⟨z18, hzz18, hF⟩ := x_bind hF
          obtain ⟨⟨fsz18, hbz18⟩, hzz18⟩ := x_cv_sp hzz18
          refine x_callv (As := [.int x3]) (rest := []) (rc + 0) (rs + 0) dX2_mergeOf_59 mi_X2_has ml_X2_35 rfl rfl (Nat.le_of_ble_eq_true rfl) ⟨by decide, by decide⟩ (by omega) (by omega) hbz18 rfl (c_X2_has N _ _ _ _ _ hzz18) (x_K.some ?_) x_KX.none
          refine x_if_eq 79 dX2_mergeOf_62 (by decide) hF (fun hF => ?_) (fun hF => ?_)
          · refine x_iconst 1 (by decide) dX2_mergeOf_79 ?_
            refine x_goto 84 dX2_mergeOf_80 (by decide) ?_
            refine x_istore (i := 7) (lv' := [(7, .int 1), (0, .ref c0), (1, .ref c1), (2, .ref c2), (3, .int x3), (4, .int x4), (5, .int c5), (6, .int x6)]) dX2_mergeOf_84 (by decide) rfl ?_
            refine x_iload 0 dX2_mergeOf_86 rfl ?_
            refine x_if_eq 130 dX2_mergeOf_88 (by decide) hF (fun hF => ?_) (fun hF => ?_)
            · refine x_aload_n 1 dX2_mergeOf_130 rfl rfl ?_
              refine x_aload_n 2 dX2_mergeOf_131 rfl rfl ?_
              refine x_iload_n 4 dX2_mergeOf_132 rfl rfl ?_
              obtain ⟨z19, hzz19, hF⟩ := x_bind hF
              obtain ⟨⟨fsz19, hbz19⟩, hzz19⟩ := x_cv_sp hzz19
              refine x_callv (As := [.int x3]) (rest := [.ref c0]) (rc + 0) (rs + 0) dX2_mergeOf_133 mi_X2_keyOn ml_X2_32 rfl rfl (Nat.le_of_ble_eq_true rfl) ⟨by decide, by decide⟩ (by omega) (by omega) hbz19 rfl (c_X2_keyOn N _ _ _ _ _ hzz19) (x_K.some ?_) x_KX.none
              refine x_aload_n 2 dX2_mergeOf_136 rfl rfl ?_
              refine x_iload_n 4 dX2_mergeOf_137 rfl rfl ?_
              obtain ⟨z20, hzz20, hF⟩ := x_bind hF
              obtain ⟨⟨fsz20, hbz20⟩, hzz20⟩ := x_cv_sp hzz20
              refine x_callv (As := [.int x3]) (rest := [.int z19, .ref c0]) (rc + 0) (rs + 0) dX2_mergeOf_138 mi_X2_valueOn ml_X2_43 rfl rfl (Nat.le_of_ble_eq_true rfl) ⟨by decide, by decide⟩ (by omega) (by omega) hbz20 rfl (c_X2_valueOn N _ _ _ _ _ hzz20) (x_K.some ?_) x_KX.none
              obtain ⟨z21, hzz21, hF⟩ := x_bind hF
              obtain ⟨⟨fsz21, hbz21⟩, hzz21⟩ := x_cv_sp hzz21
              refine x_callv (As := [.int z19, .int z20]) (rest := []) (rc + 0) (rs + 0) dX2_mergeOf_141 mi_X2_addLast ml_X2_46 rfl rfl (Nat.le_of_ble_eq_true rfl) ⟨by decide, by decide⟩ (by omega) (by omega) hbz21 rfl (c_X2_addLast N _ _ _ _ _ _ hzz21) (x_K.none ?_) x_KX.none
              refine x_iinc (x3 + 1) (lv' := [(3, .int (x3 + 1)), (7, .int 1), (0, .ref c0), (1, .ref c1), (2, .ref c2), (4, .int x4), (5, .int c5), (6, .int x6)]) dX2_mergeOf_144 4 rfl (by rfl) (by decide) rfl ?_
              refine x_iinc (x6 + 1) (lv' := [(6, .int (x6 + 1)), (3, .int (x3 + 1)), (7, .int 1), (0, .ref c0), (1, .ref c1), (2, .ref c2), (4, .int x4), (5, .int c5)]) dX2_mergeOf_147 7 rfl (by rfl) (by decide) rfl ?_
              refine x_goto 24 dX2_mergeOf_150 (by decide) ?_
              refine x_sub [3, 4, 5, 1, 6, 7, 0] rfl ?_
              exact ih _ _ _ _ hF
            · refine x_aload_n 2 dX2_mergeOf_91 rfl rfl ?_
              refine x_iload_n 4 dX2_mergeOf_92 rfl rfl ?_
              obtain ⟨z22, hzz22, hF⟩ := x_bind hF
              obtain ⟨⟨fsz22, hbz22⟩, hzz22⟩ := x_cv_sp hzz22
              refine x_callv (As := [.int x3]) (rest := []) (rc + 0) (rs + 0) dX2_mergeOf_93 mi_X2_keyOn ml_X2_32 rfl rfl (Nat.le_of_ble_eq_true rfl) ⟨by decide, by decide⟩ (by omega) (by omega) hbz22 rfl (c_X2_keyOn N _ _ _ _ _ hzz22) (x_K.some ?_) x_KX.none
              refine x_aload_n 3 dX2_mergeOf_96 rfl rfl ?_
              refine x_iload 5 dX2_mergeOf_97 rfl ?_
              obtain ⟨z23, hzz23, hF⟩ := x_bind hF
              obtain ⟨⟨fsz23, hbz23⟩, hzz23⟩ := x_cv_sp hzz23
              refine x_callv (As := [.int x4]) (rest := [.int z22]) (rc + 0) (rs + 0) dX2_mergeOf_99 mi_X2_keyOn ml_X2_32 rfl rfl (Nat.le_of_ble_eq_true rfl) ⟨by decide, by decide⟩ (by omega) (by omega) hbz23 rfl (c_X2_keyOn N _ _ _ _ _ hzz23) (x_K.some ?_) x_KX.none
              refine x_icmp_ne 108 dX2_mergeOf_102 (by decide) hF (fun hF => ?_) (fun hF => ?_)
              · refine x_aload_n 1 dX2_mergeOf_108 rfl rfl ?_
                refine x_aload_n 3 dX2_mergeOf_109 rfl rfl ?_
                refine x_iload 5 dX2_mergeOf_110 rfl ?_
                obtain ⟨z24, hzz24, hF⟩ := x_bind hF
                obtain ⟨⟨fsz24, hbz24⟩, hzz24⟩ := x_cv_sp hzz24
                refine x_callv (As := [.int x4]) (rest := [.ref c0]) (rc + 0) (rs + 0) dX2_mergeOf_112 mi_X2_keyOn ml_X2_32 rfl rfl (Nat.le_of_ble_eq_true rfl) ⟨by decide, by decide⟩ (by omega) (by omega) hbz24 rfl (c_X2_keyOn N _ _ _ _ _ hzz24) (x_K.some ?_) x_KX.none
                refine x_aload_n 3 dX2_mergeOf_115 rfl rfl ?_
                refine x_iload 5 dX2_mergeOf_116 rfl ?_
                obtain ⟨z25, hzz25, hF⟩ := x_bind hF
                obtain ⟨⟨fsz25, hbz25⟩, hzz25⟩ := x_cv_sp hzz25
                refine x_callv (As := [.int x4]) (rest := [.int z24, .ref c0]) (rc + 0) (rs + 0) dX2_mergeOf_118 mi_X2_valueOn ml_X2_43 rfl rfl (Nat.le_of_ble_eq_true rfl) ⟨by decide, by decide⟩ (by omega) (by omega) hbz25 rfl (c_X2_valueOn N _ _ _ _ _ hzz25) (x_K.some ?_) x_KX.none
                obtain ⟨z26, hzz26, hF⟩ := x_bind hF
                obtain ⟨⟨fsz26, hbz26⟩, hzz26⟩ := x_cv_sp hzz26
                refine x_callv (As := [.int z24, .int z25]) (rest := []) (rc + 0) (rs + 0) dX2_mergeOf_121 mi_X2_addLast ml_X2_46 rfl rfl (Nat.le_of_ble_eq_true rfl) ⟨by decide, by decide⟩ (by omega) (by omega) hbz26 rfl (c_X2_addLast N _ _ _ _ _ _ hzz26) (x_K.none ?_) x_KX.none
                refine x_iinc (x4 + 1) (lv' := [(4, .int (x4 + 1)), (7, .int 1), (0, .ref c0), (1, .ref c1), (2, .ref c2), (3, .int x3), (5, .int c5), (6, .int x6)]) dX2_mergeOf_124 5 rfl (by rfl) (by decide) rfl ?_
                refine x_goto 147 dX2_mergeOf_127 (by decide) ?_
                refine x_iinc (x6 + 1) (lv' := [(6, .int (x6 + 1)), (4, .int (x4 + 1)), (7, .int 1), (0, .ref c0), (1, .ref c1), (2, .ref c2), (3, .int x3), (5, .int c5)]) dX2_mergeOf_147 7 rfl (by rfl) (by decide) rfl ?_
                refine x_goto 24 dX2_mergeOf_150 (by decide) ?_
                refine x_sub [3, 4, 5, 6, 1, 7, 0] rfl ?_
                exact ih _ _ _ _ hF
              · refine x_iinc (x3 + 1) (lv' := [(3, .int (x3 + 1)), (7, .int 1), (0, .ref c0), (1, .ref c1), (2, .ref c2), (4, .int x4), (5, .int c5), (6, .int x6)]) dX2_mergeOf_105 4 rfl (by rfl) (by decide) rfl ?_
                refine x_aload_n 2 dX2_mergeOf_108 rfl rfl ?_
                refine x_aload_n 4 dX2_mergeOf_109 rfl rfl ?_
                refine x_iload 5 dX2_mergeOf_110 rfl ?_
                obtain ⟨z27, hzz27, hF⟩ := x_bind hF
                obtain ⟨⟨fsz27, hbz27⟩, hzz27⟩ := x_cv_sp hzz27
                refine x_callv (As := [.int x4]) (rest := [.ref c0]) (rc + 0) (rs + 0) dX2_mergeOf_112 mi_X2_keyOn ml_X2_32 rfl rfl (Nat.le_of_ble_eq_true rfl) ⟨by decide, by decide⟩ (by omega) (by omega) hbz27 rfl (c_X2_keyOn N _ _ _ _ _ hzz27) (x_K.some ?_) x_KX.none
                refine x_aload_n 4 dX2_mergeOf_115 rfl rfl ?_
                refine x_iload 5 dX2_mergeOf_116 rfl ?_
                obtain ⟨z28, hzz28, hF⟩ := x_bind hF
                obtain ⟨⟨fsz28, hbz28⟩, hzz28⟩ := x_cv_sp hzz28
                refine x_callv (As := [.int x4]) (rest := [.int z27, .ref c0]) (rc + 0) (rs + 0) dX2_mergeOf_118 mi_X2_valueOn ml_X2_43 rfl rfl (Nat.le_of_ble_eq_true rfl) ⟨by decide, by decide⟩ (by omega) (by omega) hbz28 rfl (c_X2_valueOn N _ _ _ _ _ hzz28) (x_K.some ?_) x_KX.none
                obtain ⟨z29, hzz29, hF⟩ := x_bind hF
                obtain ⟨⟨fsz29, hbz29⟩, hzz29⟩ := x_cv_sp hzz29
                refine x_callv (As := [.int z27, .int z28]) (rest := []) (rc + 0) (rs + 0) dX2_mergeOf_121 mi_X2_addLast ml_X2_46 rfl rfl (Nat.le_of_ble_eq_true rfl) ⟨by decide, by decide⟩ (by omega) (by omega) hbz29 rfl (c_X2_addLast N _ _ _ _ _ _ hzz29) (x_K.none ?_) x_KX.none
                refine x_iinc (x4 + 1) (lv' := [(4, .int (x4 + 1)), (3, .int (x3 + 1)), (7, .int 1), (0, .ref c0), (1, .ref c1), (2, .ref c2), (5, .int c5), (6, .int x6)]) dX2_mergeOf_124 5 rfl (by rfl) (by decide) rfl ?_
                refine x_goto 147 dX2_mergeOf_127 (by decide) ?_
                refine x_iinc (x6 + 1) (lv' := [(6, .int (x6 + 1)), (4, .int (x4 + 1)), (3, .int (x3 + 1)), (7, .int 1), (0, .ref c0), (1, .ref c1), (2, .ref c2), (5, .int c5)]) dX2_mergeOf_147 7 rfl (by rfl) (by decide) rfl ?_
                refine x_goto 24 dX2_mergeOf_150 (by decide) ?_
                refine x_sub [4, 5, 6, 2, 1, 7, 0] rfl ?_
                exact ih _ _ _ _ hF
          · refine x_aload_n 2 dX2_mergeOf_65 rfl rfl ?_
            refine x_iload 4 dX2_mergeOf_66 rfl ?_
            obtain ⟨z30, hzz30, hF⟩ := x_bind hF
            obtain ⟨⟨fsz30, hbz30⟩, hzz30⟩ := x_cv_sp hzz30
            refine x_callv (As := [.int x4]) (rest := []) (rc + 0) (rs + 0) dX2_mergeOf_68 mi_X2_keyOn ml_X2_32 rfl rfl (Nat.le_of_ble_eq_true rfl) ⟨by decide, by decide⟩ (by omega) (by omega) hbz30 rfl (c_X2_keyOn N _ _ _ _ _ hzz30) (x_K.some ?_) x_KX.none
            refine x_aload_n 1 dX2_mergeOf_71 rfl rfl ?_
            refine x_iload_n 3 dX2_mergeOf_72 rfl rfl ?_
            obtain ⟨z31, hzz31, hF⟩ := x_bind hF
            obtain ⟨⟨fsz31, hbz31⟩, hzz31⟩ := x_cv_sp hzz31
            refine x_callv (As := [.int x3]) (rest := [.int z30]) (rc + 0) (rs + 0) dX2_mergeOf_73 mi_X2_keyOn ml_X2_32 rfl rfl (Nat.le_of_ble_eq_true rfl) ⟨by decide, by decide⟩ (by omega) (by omega) hbz31 rfl (c_X2_keyOn N _ _ _ _ _ hzz31) (x_K.some ?_) x_KX.none
            refine x_icmp_gt 83 dX2_mergeOf_76 (by decide) hF (fun hF => ?_) (fun hF => ?_)
            · refine x_iconst 0 (by decide) dX2_mergeOf_83 ?_
              refine x_istore (i := 7) (lv' := [(7, .int 0), (0, .ref c0), (1, .ref c1), (2, .ref c2), (3, .int x3), (4, .int x4), (5, .int c5), (6, .int x6)]) dX2_mergeOf_84 (by decide) rfl ?_
              refine x_iload 0 dX2_mergeOf_86 rfl ?_
              refine x_if_eq 130 dX2_mergeOf_88 (by decide) hF (fun hF => ?_) (fun hF => ?_)
              · refine x_aload_n 1 dX2_mergeOf_130 rfl rfl ?_
                refine x_aload_n 2 dX2_mergeOf_131 rfl rfl ?_
                refine x_iload_n 4 dX2_mergeOf_132 rfl rfl ?_
                obtain ⟨z32, hzz32, hF⟩ := x_bind hF
                obtain ⟨⟨fsz32, hbz32⟩, hzz32⟩ := x_cv_sp hzz32
                refine x_callv (As := [.int x3]) (rest := [.ref c0]) (rc + 0) (rs + 0) dX2_mergeOf_133 mi_X2_keyOn ml_X2_32 rfl rfl (Nat.le_of_ble_eq_true rfl) ⟨by decide, by decide⟩ (by omega) (by omega) hbz32 rfl (c_X2_keyOn N _ _ _ _ _ hzz32) (x_K.some ?_) x_KX.none
                refine x_aload_n 2 dX2_mergeOf_136 rfl rfl ?_
                refine x_iload_n 4 dX2_mergeOf_137 rfl rfl ?_
                obtain ⟨z33, hzz33, hF⟩ := x_bind hF
                obtain ⟨⟨fsz33, hbz33⟩, hzz33⟩ := x_cv_sp hzz33
                refine x_callv (As := [.int x3]) (rest := [.int z32, .ref c0]) (rc + 0) (rs + 0) dX2_mergeOf_138 mi_X2_valueOn ml_X2_43 rfl rfl (Nat.le_of_ble_eq_true rfl) ⟨by decide, by decide⟩ (by omega) (by omega) hbz33 rfl (c_X2_valueOn N _ _ _ _ _ hzz33) (x_K.some ?_) x_KX.none
                obtain ⟨z34, hzz34, hF⟩ := x_bind hF
                obtain ⟨⟨fsz34, hbz34⟩, hzz34⟩ := x_cv_sp hzz34
                refine x_callv (As := [.int z32, .int z33]) (rest := []) (rc + 0) (rs + 0) dX2_mergeOf_141 mi_X2_addLast ml_X2_46 rfl rfl (Nat.le_of_ble_eq_true rfl) ⟨by decide, by decide⟩ (by omega) (by omega) hbz34 rfl (c_X2_addLast N _ _ _ _ _ _ hzz34) (x_K.none ?_) x_KX.none
                refine x_iinc (x3 + 1) (lv' := [(3, .int (x3 + 1)), (7, .int 0), (0, .ref c0), (1, .ref c1), (2, .ref c2), (4, .int x4), (5, .int c5), (6, .int x6)]) dX2_mergeOf_144 4 rfl (by rfl) (by decide) rfl ?_
                refine x_iinc (x6 + 1) (lv' := [(6, .int (x6 + 1)), (3, .int (x3 + 1)), (7, .int 0), (0, .ref c0), (1, .ref c1), (2, .ref c2), (4, .int x4), (5, .int c5)]) dX2_mergeOf_147 7 rfl (by rfl) (by decide) rfl ?_
                refine x_goto 24 dX2_mergeOf_150 (by decide) ?_
                refine x_sub [3, 4, 5, 1, 6, 7, 0] rfl ?_
                exact ih _ _ _ _ hF
              · refine x_aload_n 2 dX2_mergeOf_91 rfl rfl ?_
                refine x_iload_n 4 dX2_mergeOf_92 rfl rfl ?_
                obtain ⟨z35, hzz35, hF⟩ := x_bind hF
                obtain ⟨⟨fsz35, hbz35⟩, hzz35⟩ := x_cv_sp hzz35
                refine x_callv (As := [.int x3]) (rest := []) (rc + 0) (rs + 0) dX2_mergeOf_93 mi_X2_keyOn ml_X2_32 rfl rfl (Nat.le_of_ble_eq_true rfl) ⟨by decide, by decide⟩ (by omega) (by omega) hbz35 rfl (c_X2_keyOn N _ _ _ _ _ hzz35) (x_K.some ?_) x_KX.none
                refine x_aload_n 3 dX2_mergeOf_96 rfl rfl ?_
                refine x_iload 5 dX2_mergeOf_97 rfl ?_
                obtain ⟨z36, hzz36, hF⟩ := x_bind hF
                obtain ⟨⟨fsz36, hbz36⟩, hzz36⟩ := x_cv_sp hzz36
                refine x_callv (As := [.int x4]) (rest := [.int z35]) (rc + 0) (rs + 0) dX2_mergeOf_99 mi_X2_keyOn ml_X2_32 rfl rfl (Nat.le_of_ble_eq_true rfl) ⟨by decide, by decide⟩ (by omega) (by omega) hbz36 rfl (c_X2_keyOn N _ _ _ _ _ hzz36) (x_K.some ?_) x_KX.none
                refine x_icmp_ne 108 dX2_mergeOf_102 (by decide) hF (fun hF => ?_) (fun hF => ?_)
                · refine x_aload_n 1 dX2_mergeOf_108 rfl rfl ?_
                  refine x_aload_n 3 dX2_mergeOf_109 rfl rfl ?_
                  refine x_iload 5 dX2_mergeOf_110 rfl ?_
                  obtain ⟨z37, hzz37, hF⟩ := x_bind hF
                  obtain ⟨⟨fsz37, hbz37⟩, hzz37⟩ := x_cv_sp hzz37
                  refine x_callv (As := [.int x4]) (rest := [.ref c0]) (rc + 0) (rs + 0) dX2_mergeOf_112 mi_X2_keyOn ml_X2_32 rfl rfl (Nat.le_of_ble_eq_true rfl) ⟨by decide, by decide⟩ (by omega) (by omega) hbz37 rfl (c_X2_keyOn N _ _ _ _ _ hzz37) (x_K.some ?_) x_KX.none
                  refine x_aload_n 3 dX2_mergeOf_115 rfl rfl ?_
                  refine x_iload 5 dX2_mergeOf_116 rfl ?_
                  obtain ⟨z38, hzz38, hF⟩ := x_bind hF
                  obtain ⟨⟨fsz38, hbz38⟩, hzz38⟩ := x_cv_sp hzz38
                  refine x_callv (As := [.int x4]) (rest := [.int z37, .ref c0]) (rc + 0) (rs + 0) dX2_mergeOf_118 mi_X2_valueOn ml_X2_43 rfl rfl (Nat.le_of_ble_eq_true rfl) ⟨by decide, by decide⟩ (by omega) (by omega) hbz38 rfl (c_X2_valueOn N _ _ _ _ _ hzz38) (x_K.some ?_) x_KX.none
                  obtain ⟨z39, hzz39, hF⟩ := x_bind hF
                  obtain ⟨⟨fsz39, hbz39⟩, hzz39⟩ := x_cv_sp hzz39
                  refine x_callv (As := [.int z37, .int z38]) (rest := []) (rc + 0) (rs + 0) dX2_mergeOf_121 mi_X2_addLast ml_X2_46 rfl rfl (Nat.le_of_ble_eq_true rfl) ⟨by decide, by decide⟩ (by omega) (by omega) hbz39 rfl (c_X2_addLast N _ _ _ _ _ _ hzz39) (x_K.none ?_) x_KX.none
                  refine x_iinc (x4 + 1) (lv' := [(4, .int (x4 + 1)), (7, .int 0), (0, .ref c0), (1, .ref c1), (2, .ref c2), (3, .int x3), (5, .int c5), (6, .int x6)]) dX2_mergeOf_124 5 rfl (by rfl) (by decide) rfl ?_
                  refine x_goto 147 dX2_mergeOf_127 (by decide) ?_
                  refine x_iinc (x6 + 1) (lv' := [(6, .int (x6 + 1)), (4, .int (x4 + 1)), (7, .int 0), (0, .ref c0), (1, .ref c1), (2, .ref c2), (3, .int x3), (5, .int c5)]) dX2_mergeOf_147 7 rfl (by rfl) (by decide) rfl ?_
                  refine x_goto 24 dX2_mergeOf_150 (by decide) ?_
                  refine x_sub [3, 4, 5, 6, 1, 7, 0] rfl ?_
                  exact ih _ _ _ _ hF
                · refine x_iinc (x3 + 1) (lv' := [(3, .int (x3 + 1)), (7, .int 0), (0, .ref c0), (1, .ref c1), (2, .ref c2), (4, .int x4), (5, .int c5), (6, .int x6)]) dX2_mergeOf_105 4 rfl (by rfl) (by decide) rfl ?_
                  refine x_aload_n 2 dX2_mergeOf_108 rfl rfl ?_
                  refine x_aload_n 4 dX2_mergeOf_109 rfl rfl ?_
                  refine x_iload 5 dX2_mergeOf_110 rfl ?_
                  obtain ⟨z40, hzz40, hF⟩ := x_bind hF
                  obtain ⟨⟨fsz40, hbz40⟩, hzz40⟩ := x_cv_sp hzz40
                  refine x_callv (As := [.int x4]) (rest := [.ref c0]) (rc + 0) (rs + 0) dX2_mergeOf_112 mi_X2_keyOn ml_X2_32 rfl rfl (Nat.le_of_ble_eq_true rfl) ⟨by decide, by decide⟩ (by omega) (by omega) hbz40 rfl (c_X2_keyOn N _ _ _ _ _ hzz40) (x_K.some ?_) x_KX.none
                  refine x_aload_n 4 dX2_mergeOf_115 rfl rfl ?_
                  refine x_iload 5 dX2_mergeOf_116 rfl ?_
                  obtain ⟨z41, hzz41, hF⟩ := x_bind hF
                  obtain ⟨⟨fsz41, hbz41⟩, hzz41⟩ := x_cv_sp hzz41
                  refine x_callv (As := [.int x4]) (rest := [.int z40, .ref c0]) (rc + 0) (rs + 0) dX2_mergeOf_118 mi_X2_valueOn ml_X2_43 rfl rfl (Nat.le_of_ble_eq_true rfl) ⟨by decide, by decide⟩ (by omega) (by omega) hbz41 rfl (c_X2_valueOn N _ _ _ _ _ hzz41) (x_K.some ?_) x_KX.none
                  obtain ⟨z42, hzz42, hF⟩ := x_bind hF
                  obtain ⟨⟨fsz42, hbz42⟩, hzz42⟩ := x_cv_sp hzz42
                  refine x_callv (As := [.int z40, .int z41]) (rest := []) (rc + 0) (rs + 0) dX2_mergeOf_121 mi_X2_addLast ml_X2_46 rfl rfl (Nat.le_of_ble_eq_true rfl) ⟨by decide, by decide⟩ (by omega) (by omega) hbz42 rfl (c_X2_addLast N _ _ _ _ _ _ hzz42) (x_K.none ?_) x_KX.none
                  refine x_iinc (x4 + 1) (lv' := [(4, .int (x4 + 1)), (3, .int (x3 + 1)), (7, .int 0), (0, .ref c0), (1, .ref c1), (2, .ref c2), (5, .int c5), (6, .int x6)]) dX2_mergeOf_124 5 rfl (by rfl) (by decide) rfl ?_
                  refine x_goto 147 dX2_mergeOf_127 (by decide) ?_
                  refine x_iinc (x6 + 1) (lv' := [(6, .int (x6 + 1)), (4, .int (x4 + 1)), (3, .int (x3 + 1)), (7, .int 0), (0, .ref c0), (1, .ref c1), (2, .ref c2), (5, .int c5)]) dX2_mergeOf_147 7 rfl (by rfl) (by decide) rfl ?_
                  refine x_goto 24 dX2_mergeOf_150 (by decide) ?_
                  refine x_sub [4, 5, 6, 2, 1, 7, 0] rfl ?_
                  exact ih _ _ _ _ hF
            · refine x_iconst 1 (by decide) dX2_mergeOf_79 ?_
              refine x_goto 84 dX2_mergeOf_80 (by decide) ?_
              refine x_istore (i := 7) (lv' := [(7, .int 1), (0, .ref c0), (1, .ref c1), (2, .ref c2), (3, .int x3), (4, .int x4), (5, .int c5), (6, .int x6)]) dX2_mergeOf_84 (by decide) rfl ?_
              refine x_iload 0 dX2_mergeOf_86 rfl ?_
              refine x_if_eq 130 dX2_mergeOf_88 (by decide) hF (fun hF => ?_) (fun hF => ?_)
              · refine x_aload_n 1 dX2_mergeOf_130 rfl rfl ?_
                refine x_aload_n 2 dX2_mergeOf_131 rfl rfl ?_
                refine x_iload_n 4 dX2_mergeOf_132 rfl rfl ?_
                obtain ⟨z43, hzz43, hF⟩ := x_bind hF
                obtain ⟨⟨fsz43, hbz43⟩, hzz43⟩ := x_cv_sp hzz43
                refine x_callv (As := [.int x3]) (rest := [.ref c0]) (rc + 0) (rs + 0) dX2_mergeOf_133 mi_X2_keyOn ml_X2_32 rfl rfl (Nat.le_of_ble_eq_true rfl) ⟨by decide, by decide⟩ (by omega) (by omega) hbz43 rfl (c_X2_keyOn N _ _ _ _ _ hzz43) (x_K.some ?_) x_KX.none
                refine x_aload_n 2 dX2_mergeOf_136 rfl rfl ?_
                refine x_iload_n 4 dX2_mergeOf_137 rfl rfl ?_
                obtain ⟨z44, hzz44, hF⟩ := x_bind hF
                obtain ⟨⟨fsz44, hbz44⟩, hzz44⟩ := x_cv_sp hzz44
                refine x_callv (As := [.int x3]) (rest := [.int z43, .ref c0]) (rc + 0) (rs + 0) dX2_mergeOf_138 mi_X2_valueOn ml_X2_43 rfl rfl (Nat.le_of_ble_eq_true rfl) ⟨by decide, by decide⟩ (by omega) (by omega) hbz44 rfl (c_X2_valueOn N _ _ _ _ _ hzz44) (x_K.some ?_) x_KX.none
                obtain ⟨z45, hzz45, hF⟩ := x_bind hF
                obtain ⟨⟨fsz45, hbz45⟩, hzz45⟩ := x_cv_sp hzz45
                refine x_callv (As := [.int z43, .int z44]) (rest := []) (rc + 0) (rs + 0) dX2_mergeOf_141 mi_X2_addLast ml_X2_46 rfl rfl (Nat.le_of_ble_eq_true rfl) ⟨by decide, by decide⟩ (by omega) (by omega) hbz45 rfl (c_X2_addLast N _ _ _ _ _ _ hzz45) (x_K.none ?_) x_KX.none
                refine x_iinc (x3 + 1) (lv' := [(3, .int (x3 + 1)), (7, .int 1), (0, .ref c0), (1, .ref c1), (2, .ref c2), (4, .int x4), (5, .int c5), (6, .int x6)]) dX2_mergeOf_144 4 rfl (by rfl) (by decide) rfl ?_
                refine x_iinc (x6 + 1) (lv' := [(6, .int (x6 + 1)), (3, .int (x3 + 1)), (7, .int 1), (0, .ref c0), (1, .ref c1), (2, .ref c2), (4, .int x4), (5, .int c5)]) dX2_mergeOf_147 7 rfl (by rfl) (by decide) rfl ?_
                refine x_goto 24 dX2_mergeOf_150 (by decide) ?_
                refine x_sub [3, 4, 5, 1, 6, 7, 0] rfl ?_
                exact ih _ _ _ _ hF
              · refine x_aload_n 2 dX2_mergeOf_91 rfl rfl ?_
                refine x_iload_n 4 dX2_mergeOf_92 rfl rfl ?_
                obtain ⟨z46, hzz46, hF⟩ := x_bind hF
                obtain ⟨⟨fsz46, hbz46⟩, hzz46⟩ := x_cv_sp hzz46
                refine x_callv (As := [.int x3]) (rest := []) (rc + 0) (rs + 0) dX2_mergeOf_93 mi_X2_keyOn ml_X2_32 rfl rfl (Nat.le_of_ble_eq_true rfl) ⟨by decide, by decide⟩ (by omega) (by omega) hbz46 rfl (c_X2_keyOn N _ _ _ _ _ hzz46) (x_K.some ?_) x_KX.none
                refine x_aload_n 3 dX2_mergeOf_96 rfl rfl ?_
                refine x_iload 5 dX2_mergeOf_97 rfl ?_
                obtain ⟨z47, hzz47, hF⟩ := x_bind hF
                obtain ⟨⟨fsz47, hbz47⟩, hzz47⟩ := x_cv_sp hzz47
                refine x_callv (As := [.int x4]) (rest := [.int z46]) (rc + 0) (rs + 0) dX2_mergeOf_99 mi_X2_keyOn ml_X2_32 rfl rfl (Nat.le_of_ble_eq_true rfl) ⟨by decide, by decide⟩ (by omega) (by omega) hbz47 rfl (c_X2_keyOn N _ _ _ _ _ hzz47) (x_K.some ?_) x_KX.none
                refine x_icmp_ne 108 dX2_mergeOf_102 (by decide) hF (fun hF => ?_) (fun hF => ?_)
                · refine x_aload_n 1 dX2_mergeOf_108 rfl rfl ?_
                  refine x_aload_n 3 dX2_mergeOf_109 rfl rfl ?_
                  refine x_iload 5 dX2_mergeOf_110 rfl ?_
                  obtain ⟨z48, hzz48, hF⟩ := x_bind hF
                  obtain ⟨⟨fsz48, hbz48⟩, hzz48⟩ := x_cv_sp hzz48
                  refine x_callv (As := [.int x4]) (rest := [.ref c0]) (rc + 0) (rs + 0) dX2_mergeOf_112 mi_X2_keyOn ml_X2_32 rfl rfl (Nat.le_of_ble_eq_true rfl) ⟨by decide, by decide⟩ (by omega) (by omega) hbz48 rfl (c_X2_keyOn N _ _ _ _ _ hzz48) (x_K.some ?_) x_KX.none
                  refine x_aload_n 3 dX2_mergeOf_115 rfl rfl ?_
                  refine x_iload 5 dX2_mergeOf_116 rfl ?_
                  obtain ⟨z49, hzz49, hF⟩ := x_bind hF
                  obtain ⟨⟨fsz49, hbz49⟩, hzz49⟩ := x_cv_sp hzz49
                  refine x_callv (As := [.int x4]) (rest := [.int z48, .ref c0]) (rc + 0) (rs + 0) dX2_mergeOf_118 mi_X2_valueOn ml_X2_43 rfl rfl (Nat.le_of_ble_eq_true rfl) ⟨by decide, by decide⟩ (by omega) (by omega) hbz49 rfl (c_X2_valueOn N _ _ _ _ _ hzz49) (x_K.some ?_) x_KX.none
                  obtain ⟨z50, hzz50, hF⟩ := x_bind hF
                  obtain ⟨⟨fsz50, hbz50⟩, hzz50⟩ := x_cv_sp hzz50
                  refine x_callv (As := [.int z48, .int z49]) (rest := []) (rc + 0) (rs + 0) dX2_mergeOf_121 mi_X2_addLast ml_X2_46 rfl rfl (Nat.le_of_ble_eq_true rfl) ⟨by decide, by decide⟩ (by omega) (by omega) hbz50 rfl (c_X2_addLast N _ _ _ _ _ _ hzz50) (x_K.none ?_) x_KX.none
                  refine x_iinc (x4 + 1) (lv' := [(4, .int (x4 + 1)), (7, .int 1), (0, .ref c0), (1, .ref c1), (2, .ref c2), (3, .int x3), (5, .int c5), (6, .int x6)]) dX2_mergeOf_124 5 rfl (by rfl) (by decide) rfl ?_
                  refine x_goto 147 dX2_mergeOf_127 (by decide) ?_
                  refine x_iinc (x6 + 1) (lv' := [(6, .int (x6 + 1)), (4, .int (x4 + 1)), (7, .int 1), (0, .ref c0), (1, .ref c1), (2, .ref c2), (3, .int x3), (5, .int c5)]) dX2_mergeOf_147 7 rfl (by rfl) (by decide) rfl ?_
                  refine x_goto 24 dX2_mergeOf_150 (by decide) ?_
                  refine x_sub [3, 4, 5, 6, 1, 7, 0] rfl ?_
                  exact ih _ _ _ _ hF
                · refine x_iinc (x3 + 1) (lv' := [(3, .int (x3 + 1)), (7, .int 1), (0, .ref c0), (1, .ref c1), (2, .ref c2), (4, .int x4), (5, .int c5), (6, .int x6)]) dX2_mergeOf_105 4 rfl (by rfl) (by decide) rfl ?_
                  refine x_aload_n 2 dX2_mergeOf_108 rfl rfl ?_
                  refine x_aload_n 4 dX2_mergeOf_109 rfl rfl ?_
                  refine x_iload 5 dX2_mergeOf_110 rfl ?_
                  obtain ⟨z51, hzz51, hF⟩ := x_bind hF
                  obtain ⟨⟨fsz51, hbz51⟩, hzz51⟩ := x_cv_sp hzz51
                  refine x_callv (As := [.int x4]) (rest := [.ref c0]) (rc + 0) (rs + 0) dX2_mergeOf_112 mi_X2_keyOn ml_X2_32 rfl rfl (Nat.le_of_ble_eq_true rfl) ⟨by decide, by decide⟩ (by omega) (by omega) hbz51 rfl (c_X2_keyOn N _ _ _ _ _ hzz51) (x_K.some ?_) x_KX.none
                  refine x_aload_n 4 dX2_mergeOf_115 rfl rfl ?_
                  refine x_iload 5 dX2_mergeOf_116 rfl ?_
                  obtain ⟨z52, hzz52, hF⟩ := x_bind hF
                  obtain ⟨⟨fsz52, hbz52⟩, hzz52⟩ := x_cv_sp hzz52
                  refine x_callv (As := [.int x4]) (rest := [.int z51, .ref c0]) (rc + 0) (rs + 0) dX2_mergeOf_118 mi_X2_valueOn ml_X2_43 rfl rfl (Nat.le_of_ble_eq_true rfl) ⟨by decide, by decide⟩ (by omega) (by omega) hbz52 rfl (c_X2_valueOn N _ _ _ _ _ hzz52) (x_K.some ?_) x_KX.none
                  obtain ⟨z53, hzz53, hF⟩ := x_bind hF
                  obtain ⟨⟨fsz53, hbz53⟩, hzz53⟩ := x_cv_sp hzz53
                  refine x_callv (As := [.int z51, .int z52]) (rest := []) (rc + 0) (rs + 0) dX2_mergeOf_121 mi_X2_addLast ml_X2_46 rfl rfl (Nat.le_of_ble_eq_true rfl) ⟨by decide, by decide⟩ (by omega) (by omega) hbz53 rfl (c_X2_addLast N _ _ _ _ _ _ hzz53) (x_K.none ?_) x_KX.none
                  refine x_iinc (x4 + 1) (lv' := [(4, .int (x4 + 1)), (3, .int (x3 + 1)), (7, .int 1), (0, .ref c0), (1, .ref c1), (2, .ref c2), (5, .int c5), (6, .int x6)]) dX2_mergeOf_124 5 rfl (by rfl) (by decide) rfl ?_
                  refine x_goto 147 dX2_mergeOf_127 (by decide) ?_
                  refine x_iinc (x6 + 1) (lv' := [(6, .int (x6 + 1)), (4, .int (x4 + 1)), (3, .int (x3 + 1)), (7, .int 1), (0, .ref c0), (1, .ref c1), (2, .ref c2), (5, .int c5)]) dX2_mergeOf_147 7 rfl (by rfl) (by decide) rfl ?_
                  refine x_goto 24 dX2_mergeOf_150 (by decide) ?_
                  refine x_sub [4, 5, 6, 2, 1, 7, 0] rfl ?_
                  exact ih _ _ _ _ hF
      · refine x_aload_n 2 dX2_mergeOf_39 rfl rfl ?_
        refine x_iload 4 dX2_mergeOf_40 rfl ?_
        obtain ⟨z54, hzz54, hF⟩ := x_bind hF
        obtain ⟨⟨fsz54, hbz54⟩, hzz54⟩ := x_cv_sp hzz54
        refine x_callv (As := [.int x4]) (rest := []) (rc + 0) (rs + 0) dX2_mergeOf_42 mi_X2_has ml_X2_35 rfl rfl (Nat.le_of_ble_eq_true rfl) ⟨by decide, by decide⟩ (by omega) (by omega) hbz54 rfl (c_X2_has N _ _ _ _ _ hzz54) (x_K.some ?_) x_KX.none
        refine x_if_eq 153 dX2_mergeOf_45 (by decide) hF (fun hF => ?_) (fun hF => ?_)
        · refine x_sub [0, 1, 2, 3, 4, 5, 6] rfl ?_
          exact hK _ _ _ _ hF
        · refine x_aload_n 2 dX2_mergeOf_48 rfl rfl ?_
          refine x_iload 4 dX2_mergeOf_49 rfl ?_
          obtain ⟨z55, hzz55, hF⟩ := x_bind hF
          obtain ⟨⟨fsz55, hbz55⟩, hzz55⟩ := x_cv_sp hzz55
          refine x_callv (As := [.int x4]) (rest := []) (rc + 0) (rs + 0) dX2_mergeOf_51 mi_X2_has ml_X2_35 rfl rfl (Nat.le_of_ble_eq_true rfl) ⟨by decide, by decide⟩ (by omega) (by omega) hbz55 rfl (c_X2_has N _ _ _ _ _ hzz55) (x_K.some ?_) x_KX.none
          refine x_if_eq 83 dX2_mergeOf_54 (by decide) hF (fun hF => ?_) (fun hF => ?_)
          · refine x_iconst 0 (by decide) dX2_mergeOf_83 ?_
            refine x_istore (i := 7) (lv' := [(7, .int 0), (0, .ref c0), (1, .ref c1), (2, .ref c2), (3, .int x3), (4, .int x4), (5, .int c5), (6, .int x6)]) dX2_mergeOf_84 (by decide) rfl ?_
            refine x_iload 0 dX2_mergeOf_86 rfl ?_
            refine x_if_eq 130 dX2_mergeOf_88 (by decide) hF (fun hF => ?_) (fun hF => ?_)
            · refine x_aload_n 1 dX2_mergeOf_130 rfl rfl ?_
              refine x_aload_n 2 dX2_mergeOf_131 rfl rfl ?_
              refine x_iload_n 4 dX2_mergeOf_132 rfl rfl ?_
              obtain ⟨z56, hzz56, hF⟩ := x_bind hF
              obtain ⟨⟨fsz56, hbz56⟩, hzz56⟩ := x_cv_sp hzz56
              refine x_callv (As := [.int x3]) (rest := [.ref c0]) (rc + 0) (rs + 0) dX2_mergeOf_133 mi_X2_keyOn ml_X2_32 rfl rfl (Nat.le_of_ble_eq_true rfl) ⟨by decide, by decide⟩ (by omega) (by omega) hbz56 rfl (c_X2_keyOn N _ _ _ _ _ hzz56) (x_K.some ?_) x_KX.none
              refine x_aload_n 2 dX2_mergeOf_136 rfl rfl ?_
              refine x_iload_n 4 dX2_mergeOf_137 rfl rfl ?_
              obtain ⟨z57, hzz57, hF⟩ := x_bind hF
              obtain ⟨⟨fsz57, hbz57⟩, hzz57⟩ := x_cv_sp hzz57
              refine x_callv (As := [.int x3]) (rest := [.int z56, .ref c0]) (rc + 0) (rs + 0) dX2_mergeOf_138 mi_X2_valueOn ml_X2_43 rfl rfl (Nat.le_of_ble_eq_true rfl) ⟨by decide, by decide⟩ (by omega) (by omega) hbz57 rfl (c_X2_valueOn N _ _ _ _ _ hzz57) (x_K.some ?_) x_KX.none
              obtain ⟨z58, hzz58, hF⟩ := x_bind hF
              obtain ⟨⟨fsz58, hbz58⟩, hzz58⟩ := x_cv_sp hzz58
              refine x_callv (As := [.int z56, .int z57]) (rest := []) (rc + 0) (rs + 0) dX2_mergeOf_141 mi_X2_addLast ml_X2_46 rfl rfl (Nat.le_of_ble_eq_true rfl) ⟨by decide, by decide⟩ (by omega) (by omega) hbz58 rfl (c_X2_addLast N _ _ _ _ _ _ hzz58) (x_K.none ?_) x_KX.none
              refine x_iinc (x3 + 1) (lv' := [(3, .int (x3 + 1)), (7, .int 0), (0, .ref c0), (1, .ref c1), (2, .ref c2), (4, .int x4), (5, .int c5), (6, .int x6)]) dX2_mergeOf_144 4 rfl (by rfl) (by decide) rfl ?_
              refine x_iinc (x6 + 1) (lv' := [(6, .int (x6 + 1)), (3, .int (x3 + 1)), (7, .int 0), (0, .ref c0), (1, .ref c1), (2, .ref c2), (4, .int x4), (5, .int c5)]) dX2_mergeOf_147 7 rfl (by rfl) (by decide) rfl ?_
              refine x_goto 24 dX2_mergeOf_150 (by decide) ?_
              refine x_sub [3, 4, 5, 1, 6, 7, 0] rfl ?_
              exact ih _ _ _ _ hF
            · refine x_aload_n 2 dX2_mergeOf_91 rfl rfl ?_
              refine x_iload_n 4 dX2_mergeOf_92 rfl rfl ?_
              obtain ⟨z59, hzz59, hF⟩ := x_bind hF
              obtain ⟨⟨fsz59, hbz59⟩, hzz59⟩ := x_cv_sp hzz59
              refine x_callv (As := [.int x3]) (rest := []) (rc + 0) (rs + 0) dX2_mergeOf_93 mi_X2_keyOn ml_X2_32 rfl rfl (Nat.le_of_ble_eq_true rfl) ⟨by decide, by decide⟩ (by omega) (by omega) hbz59 rfl (c_X2_keyOn N _ _ _ _ _ hzz59) (x_K.some ?_) x_KX.none
              refine x_aload_n 3 dX2_mergeOf_96 rfl rfl ?_
              refine x_iload 5 dX2_mergeOf_97 rfl ?_
              obtain ⟨z60, hzz60, hF⟩ := x_bind hF
              obtain ⟨⟨fsz60, hbz60⟩, hzz60⟩ := x_cv_sp hzz60
              refine x_callv (As := [.int x4]) (rest := [.int z59]) (rc + 0) (rs + 0) dX2_mergeOf_99 mi_X2_keyOn ml_X2_32 rfl rfl (Nat.le_of_ble_eq_true rfl) ⟨by decide, by decide⟩ (by omega) (by omega) hbz60 rfl (c_X2_keyOn N _ _ _ _ _ hzz60) (x_K.some ?_) x_KX.none
              refine x_icmp_ne 108 dX2_mergeOf_102 (by decide) hF (fun hF => ?_) (fun hF => ?_)
              · refine x_aload_n 1 dX2_mergeOf_108 rfl rfl ?_
                refine x_aload_n 3 dX2_mergeOf_109 rfl rfl ?_
                refine x_iload 5 dX2_mergeOf_110 rfl ?_
                obtain ⟨z61, hzz61, hF⟩ := x_bind hF
                obtain ⟨⟨fsz61, hbz61⟩, hzz61⟩ := x_cv_sp hzz61
                refine x_callv (As := [.int x4]) (rest := [.ref c0]) (rc + 0) (rs + 0) dX2_mergeOf_112 mi_X2_keyOn ml_X2_32 rfl rfl (Nat.le_of_ble_eq_true rfl) ⟨by decide, by decide⟩ (by omega) (by omega) hbz61 rfl (c_X2_keyOn N _ _ _ _ _ hzz61) (x_K.some ?_) x_KX.none
                refine x_aload_n 3 dX2_mergeOf_115 rfl rfl ?_
                refine x_iload 5 dX2_mergeOf_116 rfl ?_
                obtain ⟨z62, hzz62, hF⟩ := x_bind hF
                obtain ⟨⟨fsz62, hbz62⟩, hzz62⟩ := x_cv_sp hzz62
                refine x_callv (As := [.int x4]) (rest := [.int z61, .ref c0]) (rc + 0) (rs + 0) dX2_mergeOf_118 mi_X2_valueOn ml_X2_43 rfl rfl (Nat.le_of_ble_eq_true rfl) ⟨by decide, by decide⟩ (by omega) (by omega) hbz62 rfl (c_X2_valueOn N _ _ _ _ _ hzz62) (x_K.some ?_) x_KX.none
                obtain ⟨z63, hzz63, hF⟩ := x_bind hF
                obtain ⟨⟨fsz63, hbz63⟩, hzz63⟩ := x_cv_sp hzz63
                refine x_callv (As := [.int z61, .int z62]) (rest := []) (rc + 0) (rs + 0) dX2_mergeOf_121 mi_X2_addLast ml_X2_46 rfl rfl (Nat.le_of_ble_eq_true rfl) ⟨by decide, by decide⟩ (by omega) (by omega) hbz63 rfl (c_X2_addLast N _ _ _ _ _ _ hzz63) (x_K.none ?_) x_KX.none
                refine x_iinc (x4 + 1) (lv' := [(4, .int (x4 + 1)), (7, .int 0), (0, .ref c0), (1, .ref c1), (2, .ref c2), (3, .int x3), (5, .int c5), (6, .int x6)]) dX2_mergeOf_124 5 rfl (by rfl) (by decide) rfl ?_
                refine x_goto 147 dX2_mergeOf_127 (by decide) ?_
                refine x_iinc (x6 + 1) (lv' := [(6, .int (x6 + 1)), (4, .int (x4 + 1)), (7, .int 0), (0, .ref c0), (1, .ref c1), (2, .ref c2), (3, .int x3), (5, .int c5)]) dX2_mergeOf_147 7 rfl (by rfl) (by decide) rfl ?_
                refine x_goto 24 dX2_mergeOf_150 (by decide) ?_
                refine x_sub [3, 4, 5, 6, 1, 7, 0] rfl ?_
                exact ih _ _ _ _ hF
              · refine x_iinc (x3 + 1) (lv' := [(3, .int (x3 + 1)), (7, .int 0), (0, .ref c0), (1, .ref c1), (2, .ref c2), (4, .int x4), (5, .int c5), (6, .int x6)]) dX2_mergeOf_105 4 rfl (by rfl) (by decide) rfl ?_
                refine x_aload_n 2 dX2_mergeOf_108 rfl rfl ?_
                refine x_aload_n 4 dX2_mergeOf_109 rfl rfl ?_
                refine x_iload 5 dX2_mergeOf_110 rfl ?_
                obtain ⟨z64, hzz64, hF⟩ := x_bind hF
                obtain ⟨⟨fsz64, hbz64⟩, hzz64⟩ := x_cv_sp hzz64
                refine x_callv (As := [.int x4]) (rest := [.ref c0]) (rc + 0) (rs + 0) dX2_mergeOf_112 mi_X2_keyOn ml_X2_32 rfl rfl (Nat.le_of_ble_eq_true rfl) ⟨by decide, by decide⟩ (by omega) (by omega) hbz64 rfl (c_X2_keyOn N _ _ _ _ _ hzz64) (x_K.some ?_) x_KX.none
                refine x_aload_n 4 dX2_mergeOf_115 rfl rfl ?_
                refine x_iload 5 dX2_mergeOf_116 rfl ?_
                obtain ⟨z65, hzz65, hF⟩ := x_bind hF
                obtain ⟨⟨fsz65, hbz65⟩, hzz65⟩ := x_cv_sp hzz65
                refine x_callv (As := [.int x4]) (rest := [.int z64, .ref c0]) (rc + 0) (rs + 0) dX2_mergeOf_118 mi_X2_valueOn ml_X2_43 rfl rfl (Nat.le_of_ble_eq_true rfl) ⟨by decide, by decide⟩ (by omega) (by omega) hbz65 rfl (c_X2_valueOn N _ _ _ _ _ hzz65) (x_K.some ?_) x_KX.none
                obtain ⟨z66, hzz66, hF⟩ := x_bind hF
                obtain ⟨⟨fsz66, hbz66⟩, hzz66⟩ := x_cv_sp hzz66
                refine x_callv (As := [.int z64, .int z65]) (rest := []) (rc + 0) (rs + 0) dX2_mergeOf_121 mi_X2_addLast ml_X2_46 rfl rfl (Nat.le_of_ble_eq_true rfl) ⟨by decide, by decide⟩ (by omega) (by omega) hbz66 rfl (c_X2_addLast N _ _ _ _ _ _ hzz66) (x_K.none ?_) x_KX.none
                refine x_iinc (x4 + 1) (lv' := [(4, .int (x4 + 1)), (3, .int (x3 + 1)), (7, .int 0), (0, .ref c0), (1, .ref c1), (2, .ref c2), (5, .int c5), (6, .int x6)]) dX2_mergeOf_124 5 rfl (by rfl) (by decide) rfl ?_
                refine x_goto 147 dX2_mergeOf_127 (by decide) ?_
                refine x_iinc (x6 + 1) (lv' := [(6, .int (x6 + 1)), (4, .int (x4 + 1)), (3, .int (x3 + 1)), (7, .int 0), (0, .ref c0), (1, .ref c1), (2, .ref c2), (5, .int c5)]) dX2_mergeOf_147 7 rfl (by rfl) (by decide) rfl ?_
                refine x_goto 24 dX2_mergeOf_150 (by decide) ?_
                refine x_sub [4, 5, 6, 2, 1, 7, 0] rfl ?_
                exact ih _ _ _ _ hF
          · refine x_aload_n 1 dX2_mergeOf_57 rfl rfl ?_
            refine x_iload_n 3 dX2_mergeOf_58 rfl rfl ?_
            obtain ⟨z67, hzz67, hF⟩ := x_bind hF
            obtain ⟨⟨fsz67, hbz67⟩, hzz67⟩ := x_cv_sp hzz67
            refine x_callv (As := [.int x3]) (rest := []) (rc + 0) (rs + 0) dX2_mergeOf_59 mi_X2_has ml_X2_35 rfl rfl (Nat.le_of_ble_eq_true rfl) ⟨by decide, by decide⟩ (by omega) (by omega) hbz67 rfl (c_X2_has N _ _ _ _ _ hzz67) (x_K.some ?_) x_KX.none
            refine x_if_eq 79 dX2_mergeOf_62 (by decide) hF (fun hF => ?_) (fun hF => ?_)
            · refine x_iconst 1 (by decide) dX2_mergeOf_79 ?_
              refine x_goto 84 dX2_mergeOf_80 (by decide) ?_
              refine x_istore (i := 7) (lv' := [(7, .int 1), (0, .ref c0), (1, .ref c1), (2, .ref c2), (3, .int x3), (4, .int x4), (5, .int c5), (6, .int x6)]) dX2_mergeOf_84 (by decide) rfl ?_
              refine x_iload 0 dX2_mergeOf_86 rfl ?_
              refine x_if_eq 130 dX2_mergeOf_88 (by decide) hF (fun hF => ?_) (fun hF => ?_)
              · refine x_aload_n 1 dX2_mergeOf_130 rfl rfl ?_
                refine x_aload_n 2 dX2_mergeOf_131 rfl rfl ?_
                refine x_iload_n 4 dX2_mergeOf_132 rfl rfl ?_
                obtain ⟨z68, hzz68, hF⟩ := x_bind hF
                obtain ⟨⟨fsz68, hbz68⟩, hzz68⟩ := x_cv_sp hzz68
                refine x_callv (As := [.int x3]) (rest := [.ref c0]) (rc + 0) (rs + 0) dX2_mergeOf_133 mi_X2_keyOn ml_X2_32 rfl rfl (Nat.le_of_ble_eq_true rfl) ⟨by decide, by decide⟩ (by omega) (by omega) hbz68 rfl (c_X2_keyOn N _ _ _ _ _ hzz68) (x_K.some ?_) x_KX.none
                refine x_aload_n 2 dX2_mergeOf_136 rfl rfl ?_
                refine x_iload_n 4 dX2_mergeOf_137 rfl rfl ?_
                obtain ⟨z69, hzz69, hF⟩ := x_bind hF
                obtain ⟨⟨fsz69, hbz69⟩, hzz69⟩ := x_cv_sp hzz69
                refine x_callv (As := [.int x3]) (rest := [.int z68, .ref c0]) (rc + 0) (rs + 0) dX2_mergeOf_138 mi_X2_valueOn ml_X2_43 rfl rfl (Nat.le_of_ble_eq_true rfl) ⟨by decide, by decide⟩ (by omega) (by omega) hbz69 rfl (c_X2_valueOn N _ _ _ _ _ hzz69) (x_K.some ?_) x_KX.none
                obtain ⟨z70, hzz70, hF⟩ := x_bind hF
                obtain ⟨⟨fsz70, hbz70⟩, hzz70⟩ := x_cv_sp hzz70
                refine x_callv (As := [.int z68, .int z69]) (rest := []) (rc + 0) (rs + 0) dX2_mergeOf_141 mi_X2_addLast ml_X2_46 rfl rfl (Nat.le_of_ble_eq_true rfl) ⟨by decide, by decide⟩ (by omega) (by omega) hbz70 rfl (c_X2_addLast N _ _ _ _ _ _ hzz70) (x_K.none ?_) x_KX.none
                refine x_iinc (x3 + 1) (lv' := [(3, .int (x3 + 1)), (7, .int 1), (0, .ref c0), (1, .ref c1), (2, .ref c2), (4, .int x4), (5, .int c5), (6, .int x6)]) dX2_mergeOf_144 4 rfl (by rfl) (by decide) rfl ?_
                refine x_iinc (x6 + 1) (lv' := [(6, .int (x6 + 1)), (3, .int (x3 + 1)), (7, .int 1), (0, .ref c0), (1, .ref c1), (2, .ref c2), (4, .int x4), (5, .int c5)]) dX2_mergeOf_147 7 rfl (by rfl) (by decide) rfl ?_
                refine x_goto 24 dX2_mergeOf_150 (by decide) ?_
                refine x_sub [3, 4, 5, 1, 6, 7, 0] rfl ?_
                exact ih _ _ _ _ hF
              · refine x_aload_n 2 dX2_mergeOf_91 rfl rfl ?_
                refine x_iload_n 4 dX2_mergeOf_92 rfl rfl ?_
                obtain ⟨z71, hzz71, hF⟩ := x_bind hF
                obtain ⟨⟨fsz71, hbz71⟩, hzz71⟩ := x_cv_sp hzz71
                refine x_callv (As := [.int x3]) (rest := []) (rc + 0) (rs + 0) dX2_mergeOf_93 mi_X2_keyOn ml_X2_32 rfl rfl (Nat.le_of_ble_eq_true rfl) ⟨by decide, by decide⟩ (by omega) (by omega) hbz71 rfl (c_X2_keyOn N _ _ _ _ _ hzz71) (x_K.some ?_) x_KX.none
                refine x_aload_n 3 dX2_mergeOf_96 rfl rfl ?_
                refine x_iload 5 dX2_mergeOf_97 rfl ?_
                obtain ⟨z72, hzz72, hF⟩ := x_bind hF
                obtain ⟨⟨fsz72, hbz72⟩, hzz72⟩ := x_cv_sp hzz72
                refine x_callv (As := [.int x4]) (rest := [.int z71]) (rc + 0) (rs + 0) dX2_mergeOf_99 mi_X2_keyOn ml_X2_32 rfl rfl (Nat.le_of_ble_eq_true rfl) ⟨by decide, by decide⟩ (by omega) (by omega) hbz72 rfl (c_X2_keyOn N _ _ _ _ _ hzz72) (x_K.some ?_) x_KX.none
                refine x_icmp_ne 108 dX2_mergeOf_102 (by decide) hF (fun hF => ?_) (fun hF => ?_)
                · refine x_aload_n 1 dX2_mergeOf_108 rfl rfl ?_
                  refine x_aload_n 3 dX2_mergeOf_109 rfl rfl ?_
                  refine x_iload 5 dX2_mergeOf_110 rfl ?_
                  obtain ⟨z73, hzz73, hF⟩ := x_bind hF
                  obtain ⟨⟨fsz73, hbz73⟩, hzz73⟩ := x_cv_sp hzz73
                  refine x_callv (As := [.int x4]) (rest := [.ref c0]) (rc + 0) (rs + 0) dX2_mergeOf_112 mi_X2_keyOn ml_X2_32 rfl rfl (Nat.le_of_ble_eq_true rfl) ⟨by decide, by decide⟩ (by omega) (by omega) hbz73 rfl (c_X2_keyOn N _ _ _ _ _ hzz73) (x_K.some ?_) x_KX.none
                  refine x_aload_n 3 dX2_mergeOf_115 rfl rfl ?_
                  refine x_iload 5 dX2_mergeOf_116 rfl ?_
                  obtain ⟨z74, hzz74, hF⟩ := x_bind hF
                  obtain ⟨⟨fsz74, hbz74⟩, hzz74⟩ := x_cv_sp hzz74
                  refine x_callv (As := [.int x4]) (rest := [.int z73, .ref c0]) (rc + 0) (rs + 0) dX2_mergeOf_118 mi_X2_valueOn ml_X2_43 rfl rfl (Nat.le_of_ble_eq_true rfl) ⟨by decide, by decide⟩ (by omega) (by omega) hbz74 rfl (c_X2_valueOn N _ _ _ _ _ hzz74) (x_K.some ?_) x_KX.none
                  obtain ⟨z75, hzz75, hF⟩ := x_bind hF
                  obtain ⟨⟨fsz75, hbz75⟩, hzz75⟩ := x_cv_sp hzz75
                  refine x_callv (As := [.int z73, .int z74]) (rest := []) (rc + 0) (rs + 0) dX2_mergeOf_121 mi_X2_addLast ml_X2_46 rfl rfl (Nat.le_of_ble_eq_true rfl) ⟨by decide, by decide⟩ (by omega) (by omega) hbz75 rfl (c_X2_addLast N _ _ _ _ _ _ hzz75) (x_K.none ?_) x_KX.none
                  refine x_iinc (x4 + 1) (lv' := [(4, .int (x4 + 1)), (7, .int 1), (0, .ref c0), (1, .ref c1), (2, .ref c2), (3, .int x3), (5, .int c5), (6, .int x6)]) dX2_mergeOf_124 5 rfl (by rfl) (by decide) rfl ?_
                  refine x_goto 147 dX2_mergeOf_127 (by decide) ?_
                  refine x_iinc (x6 + 1) (lv' := [(6, .int (x6 + 1)), (4, .int (x4 + 1)), (7, .int 1), (0, .ref c0), (1, .ref c1), (2, .ref c2), (3, .int x3), (5, .int c5)]) dX2_mergeOf_147 7 rfl (by rfl) (by decide) rfl ?_
                  refine x_goto 24 dX2_mergeOf_150 (by decide) ?_
                  refine x_sub [3, 4, 5, 6, 1, 7, 0] rfl ?_
                  exact ih _ _ _ _ hF
                · refine x_iinc (x3 + 1) (lv' := [(3, .int (x3 + 1)), (7, .int 1), (0, .ref c0), (1, .ref c1), (2, .ref c2), (4, .int x4), (5, .int c5), (6, .int x6)]) dX2_mergeOf_105 4 rfl (by rfl) (by decide) rfl ?_
                  refine x_aload_n 2 dX2_mergeOf_108 rfl rfl ?_
                  refine x_aload_n 4 dX2_mergeOf_109 rfl rfl ?_
                  refine x_iload 5 dX2_mergeOf_110 rfl ?_
                  obtain ⟨z76, hzz76, hF⟩ := x_bind hF
                  obtain ⟨⟨fsz76, hbz76⟩, hzz76⟩ := x_cv_sp hzz76
                  refine x_callv (As := [.int x4]) (rest := [.ref c0]) (rc + 0) (rs + 0) dX2_mergeOf_112 mi_X2_keyOn ml_X2_32 rfl rfl (Nat.le_of_ble_eq_true rfl) ⟨by decide, by decide⟩ (by omega) (by omega) hbz76 rfl (c_X2_keyOn N _ _ _ _ _ hzz76) (x_K.some ?_) x_KX.none
                  refine x_aload_n 4 dX2_mergeOf_115 rfl rfl ?_
                  refine x_iload 5 dX2_mergeOf_116 rfl ?_
                  obtain ⟨z77, hzz77, hF⟩ := x_bind hF
                  obtain ⟨⟨fsz77, hbz77⟩, hzz77⟩ := x_cv_sp hzz77
                  refine x_callv (As := [.int x4]) (rest := [.int z76, .ref c0]) (rc + 0) (rs + 0) dX2_mergeOf_118 mi_X2_valueOn ml_X2_43 rfl rfl (Nat.le_of_ble_eq_true rfl) ⟨by decide, by decide⟩ (by omega) (by omega) hbz77 rfl (c_X2_valueOn N _ _ _ _ _ hzz77) (x_K.some ?_) x_KX.none
                  obtain ⟨z78, hzz78, hF⟩ := x_bind hF
                  obtain ⟨⟨fsz78, hbz78⟩, hzz78⟩ := x_cv_sp hzz78
                  refine x_callv (As := [.int z76, .int z77]) (rest := []) (rc + 0) (rs + 0) dX2_mergeOf_121 mi_X2_addLast ml_X2_46 rfl rfl (Nat.le_of_ble_eq_true rfl) ⟨by decide, by decide⟩ (by omega) (by omega) hbz78 rfl (c_X2_addLast N _ _ _ _ _ _ hzz78) (x_K.none ?_) x_KX.none
                  refine x_iinc (x4 + 1) (lv' := [(4, .int (x4 + 1)), (3, .int (x3 + 1)), (7, .int 1), (0, .ref c0), (1, .ref c1), (2, .ref c2), (5, .int c5), (6, .int x6)]) dX2_mergeOf_124 5 rfl (by rfl) (by decide) rfl ?_
                  refine x_goto 147 dX2_mergeOf_127 (by decide) ?_
                  refine x_iinc (x6 + 1) (lv' := [(6, .int (x6 + 1)), (4, .int (x4 + 1)), (3, .int (x3 + 1)), (7, .int 1), (0, .ref c0), (1, .ref c1), (2, .ref c2), (5, .int c5)]) dX2_mergeOf_147 7 rfl (by rfl) (by decide) rfl ?_
                  refine x_goto 24 dX2_mergeOf_150 (by decide) ?_
                  refine x_sub [4, 5, 6, 2, 1, 7, 0] rfl ?_
                  exact ih _ _ _ _ hF
            · refine x_aload_n 2 dX2_mergeOf_65 rfl rfl ?_
              refine x_iload 4 dX2_mergeOf_66 rfl ?_
              obtain ⟨z79, hzz79, hF⟩ := x_bind hF
              obtain ⟨⟨fsz79, hbz79⟩, hzz79⟩ := x_cv_sp hzz79
              refine x_callv (As := [.int x4]) (rest := []) (rc + 0) (rs + 0) dX2_mergeOf_68 mi_X2_keyOn ml_X2_32 rfl rfl (Nat.le_of_ble_eq_true rfl) ⟨by decide, by decide⟩ (by omega) (by omega) hbz79 rfl (c_X2_keyOn N _ _ _ _ _ hzz79) (x_K.some ?_) x_KX.none
              refine x_aload_n 1 dX2_mergeOf_71 rfl rfl ?_
              refine x_iload_n 3 dX2_mergeOf_72 rfl rfl ?_
              obtain ⟨z80, hzz80, hF⟩ := x_bind hF
              obtain ⟨⟨fsz80, hbz80⟩, hzz80⟩ := x_cv_sp hzz80
              refine x_callv (As := [.int x3]) (rest := [.int z79]) (rc + 0) (rs + 0) dX2_mergeOf_73 mi_X2_keyOn ml_X2_32 rfl rfl (Nat.le_of_ble_eq_true rfl) ⟨by decide, by decide⟩ (by omega) (by omega) hbz80 rfl (c_X2_keyOn N _ _ _ _ _ hzz80) (x_K.some ?_) x_KX.none
              refine x_icmp_gt 83 dX2_mergeOf_76 (by decide) hF (fun hF => ?_) (fun hF => ?_)
              · refine x_iconst 0 (by decide) dX2_mergeOf_83 ?_
                refine x_istore (i := 7) (lv' := [(7, .int 0), (0, .ref c0), (1, .ref c1), (2, .ref c2), (3, .int x3), (4, .int x4), (5, .int c5), (6, .int x6)]) dX2_mergeOf_84 (by decide) rfl ?_
                refine x_iload 0 dX2_mergeOf_86 rfl ?_
                refine x_if_eq 130 dX2_mergeOf_88 (by decide) hF (fun hF => ?_) (fun hF => ?_)
                · refine x_aload_n 1 dX2_mergeOf_130 rfl rfl ?_
                  refine x_aload_n 2 dX2_mergeOf_131 rfl rfl ?_
                  refine x_iload_n 4 dX2_mergeOf_132 rfl rfl ?_
                  obtain ⟨z81, hzz81, hF⟩ := x_bind hF
                  obtain ⟨⟨fsz81, hbz81⟩, hzz81⟩ := x_cv_sp hzz81
                  refine x_callv (As := [.int x3]) (rest := [.ref c0]) (rc + 0) (rs + 0) dX2_mergeOf_133 mi_X2_keyOn ml_X2_32 rfl rfl (Nat.le_of_ble_eq_true rfl) ⟨by decide, by decide⟩ (by omega) (by omega) hbz81 rfl (c_X2_keyOn N _ _ _ _ _ hzz81) (x_K.some ?_) x_KX.none
                  refine x_aload_n 2 dX2_mergeOf_136 rfl rfl ?_
                  refine x_iload_n 4 dX2_mergeOf_137 rfl rfl ?_
                  obtain ⟨z82, hzz82, hF⟩ := x_bind hF
                  obtain ⟨⟨fsz82, hbz82⟩, hzz82⟩ := x_cv_sp hzz82
                  refine x_callv (As := [.int x3]) (rest := [.int z81, .ref c0]) (rc + 0) (rs + 0) dX2_mergeOf_138 mi_X2_valueOn ml_X2_43 rfl rfl (Nat.le_of_ble_eq_true rfl) ⟨by decide, by decide⟩ (by omega) (by omega) hbz82 rfl (c_X2_valueOn N _ _ _ _ _ hzz82) (x_K.some ?_) x_KX.none
                  obtain ⟨z83, hzz83, hF⟩ := x_bind hF
                  obtain ⟨⟨fsz83, hbz83⟩, hzz83⟩ := x_cv_sp hzz83
                  refine x_callv (As := [.int z81, .int z82]) (rest := []) (rc + 0) (rs + 0) dX2_mergeOf_141 mi_X2_addLast ml_X2_46 rfl rfl (Nat.le_of_ble_eq_true rfl) ⟨by decide, by decide⟩ (by omega) (by omega) hbz83 rfl (c_X2_addLast N _ _ _ _ _ _ hzz83) (x_K.none ?_) x_KX.none
                  refine x_iinc (x3 + 1) (lv' := [(3, .int (x3 + 1)), (7, .int 0), (0, .ref c0), (1, .ref c1), (2, .ref c2), (4, .int x4), (5, .int c5), (6, .int x6)]) dX2_mergeOf_144 4 rfl (by rfl) (by decide) rfl ?_
                  refine x_iinc (x6 + 1) (lv' := [(6, .int (x6 + 1)), (3, .int (x3 + 1)), (7, .int 0), (0, .ref c0), (1, .ref c1), (2, .ref c2), (4, .int x4), (5, .int c5)]) dX2_mergeOf_147 7 rfl (by rfl) (by decide) rfl ?_
                  refine x_goto 24 dX2_mergeOf_150 (by decide) ?_
                  refine x_sub [3, 4, 5, 1, 6, 7, 0] rfl ?_
                  exact ih _ _ _ _ hF
                · refine x_aload_n 2 dX2_mergeOf_91 rfl rfl ?_
                  refine x_iload_n 4 dX2_mergeOf_92 rfl rfl ?_
                  obtain ⟨z84, hzz84, hF⟩ := x_bind hF
                  obtain ⟨⟨fsz84, hbz84⟩, hzz84⟩ := x_cv_sp hzz84
                  refine x_callv (As := [.int x3]) (rest := []) (rc + 0) (rs + 0) dX2_mergeOf_93 mi_X2_keyOn ml_X2_32 rfl rfl (Nat.le_of_ble_eq_true rfl) ⟨by decide, by decide⟩ (by omega) (by omega) hbz84 rfl (c_X2_keyOn N _ _ _ _ _ hzz84) (x_K.some ?_) x_KX.none
                  refine x_aload_n 3 dX2_mergeOf_96 rfl rfl ?_
                  refine x_iload 5 dX2_mergeOf_97 rfl ?_
                  obtain ⟨z85, hzz85, hF⟩ := x_bind hF
                  obtain ⟨⟨fsz85, hbz85⟩, hzz85⟩ := x_cv_sp hzz85
                  refine x_callv (As := [.int x4]) (rest := [.int z84]) (rc + 0) (rs + 0) dX2_mergeOf_99 mi_X2_keyOn ml_X2_32 rfl rfl (Nat.le_of_ble_eq_true rfl) ⟨by decide, by decide⟩ (by omega) (by omega) hbz85 rfl (c_X2_keyOn N _ _ _ _ _ hzz85) (x_K.some ?_) x_KX.none
                  refine x_icmp_ne 108 dX2_mergeOf_102 (by decide) hF (fun hF => ?_) (fun hF => ?_)
                  · refine x_aload_n 1 dX2_mergeOf_108 rfl rfl ?_
                    refine x_aload_n 3 dX2_mergeOf_109 rfl rfl ?_
                    refine x_iload 5 dX2_mergeOf_110 rfl ?_
                    obtain ⟨z86, hzz86, hF⟩ := x_bind hF
                    obtain ⟨⟨fsz86, hbz86⟩, hzz86⟩ := x_cv_sp hzz86
                    refine x_callv (As := [.int x4]) (rest := [.ref c0]) (rc + 0) (rs + 0) dX2_mergeOf_112 mi_X2_keyOn ml_X2_32 rfl rfl (Nat.le_of_ble_eq_true rfl) ⟨by decide, by decide⟩ (by omega) (by omega) hbz86 rfl (c_X2_keyOn N _ _ _ _ _ hzz86) (x_K.some ?_) x_KX.none
                    refine x_aload_n 3 dX2_mergeOf_115 rfl rfl ?_
                    refine x_iload 5 dX2_mergeOf_116 rfl ?_
                    obtain ⟨z87, hzz87, hF⟩ := x_bind hF
                    obtain ⟨⟨fsz87, hbz87⟩, hzz87⟩ := x_cv_sp hzz87
                    refine x_callv (As := [.int x4]) (rest := [.int z86, .ref c0]) (rc + 0) (rs + 0) dX2_mergeOf_118 mi_X2_valueOn ml_X2_43 rfl rfl (Nat.le_of_ble_eq_true rfl) ⟨by decide, by decide⟩ (by omega) (by omega) hbz87 rfl (c_X2_valueOn N _ _ _ _ _ hzz87) (x_K.some ?_) x_KX.none
                    obtain ⟨z88, hzz88, hF⟩ := x_bind hF
                    obtain ⟨⟨fsz88, hbz88⟩, hzz88⟩ := x_cv_sp hzz88
                    refine x_callv (As := [.int z86, .int z87]) (rest := []) (rc + 0) (rs + 0) dX2_mergeOf_121 mi_X2_addLast ml_X2_46 rfl rfl (Nat.le_of_ble_eq_true rfl) ⟨by decide, by decide⟩ (by omega) (by omega) hbz88 rfl (c_X2_addLast N _ _ _ _ _ _ hzz88) (x_K.none ?_) x_KX.none
                    refine x_iinc (x4 + 1) (lv' := [(4, .int (x4 + 1)), (7, .int 0), (0, .ref c0), (1, .ref c1), (2, .ref c2), (3, .int x3), (5, .int c5), (6, .int x6)]) dX2_mergeOf_124 5 rfl (by rfl) (by decide) rfl ?_
                    refine x_goto 147 dX2_mergeOf_127 (by decide) ?_
                    refine x_iinc (x6 + 1) (lv' := [(6, .int (x6 + 1)), (4, .int (x4 + 1)), (7, .int 0), (0, .ref c0), (1, .ref c1), (2, .ref c2), (3, .int x3), (5, .int c5)]) dX2_mergeOf_147 7 rfl (by rfl) (by decide) rfl ?_
                    refine x_goto 24 dX2_mergeOf_150 (by decide) ?_
                    refine x_sub [3, 4, 5, 6, 1, 7, 0] rfl ?_
                    exact ih _ _ _ _ hF
                  · refine x_iinc (x3 + 1) (lv' := [(3, .int (x3 + 1)), (7, .int 0), (0, .ref c0), (1, .ref c1), (2, .ref c2), (4, .int x4), (5, .int c5), (6, .int x6)]) dX2_mergeOf_105 4 rfl (by rfl) (by decide) rfl ?_
                    refine x_aload_n 2 dX2_mergeOf_108 rfl rfl ?_
                    refine x_aload_n 4 dX2_mergeOf_109 rfl rfl ?_
                    refine x_iload 5 dX2_mergeOf_110 rfl ?_
                    obtain ⟨z89, hzz89, hF⟩ := x_bind hF
                    obtain ⟨⟨fsz89, hbz89⟩, hzz89⟩ := x_cv_sp hzz89
                    refine x_callv (As := [.int x4]) (rest := [.ref c0]) (rc + 0) (rs + 0) dX2_mergeOf_112 mi_X2_keyOn ml_X2_32 rfl rfl (Nat.le_of_ble_eq_true rfl) ⟨by decide, by decide⟩ (by omega) (by omega) hbz89 rfl (c_X2_keyOn N _ _ _ _ _ hzz89) (x_K.some ?_) x_KX.none
                    refine x_aload_n 4 dX2_mergeOf_115 rfl rfl ?_
                    refine x_iload 5 dX2_mergeOf_116 rfl ?_
                    obtain ⟨z90, hzz90, hF⟩ := x_bind hF
                    obtain ⟨⟨fsz90, hbz90⟩, hzz90⟩ := x_cv_sp hzz90
                    refine x_callv (As := [.int x4]) (rest := [.int z89, .ref c0]) (rc + 0) (rs + 0) dX2_mergeOf_118 mi_X2_valueOn ml_X2_43 rfl rfl (Nat.le_of_ble_eq_true rfl) ⟨by decide, by decide⟩ (by omega) (by omega) hbz90 rfl (c_X2_valueOn N _ _ _ _ _ hzz90) (x_K.some ?_) x_KX.none
                    obtain ⟨z91, hzz91, hF⟩ := x_bind hF
                    obtain ⟨⟨fsz91, hbz91⟩, hzz91⟩ := x_cv_sp hzz91
                    refine x_callv (As := [.int z89, .int z90]) (rest := []) (rc + 0) (rs + 0) dX2_mergeOf_121 mi_X2_addLast ml_X2_46 rfl rfl (Nat.le_of_ble_eq_true rfl) ⟨by decide, by decide⟩ (by omega) (by omega) hbz91 rfl (c_X2_addLast N _ _ _ _ _ _ hzz91) (x_K.none ?_) x_KX.none
                    refine x_iinc (x4 + 1) (lv' := [(4, .int (x4 + 1)), (3, .int (x3 + 1)), (7, .int 0), (0, .ref c0), (1, .ref c1), (2, .ref c2), (5, .int c5), (6, .int x6)]) dX2_mergeOf_124 5 rfl (by rfl) (by decide) rfl ?_
                    refine x_goto 147 dX2_mergeOf_127 (by decide) ?_
                    refine x_iinc (x6 + 1) (lv' := [(6, .int (x6 + 1)), (4, .int (x4 + 1)), (3, .int (x3 + 1)), (7, .int 0), (0, .ref c0), (1, .ref c1), (2, .ref c2), (5, .int c5)]) dX2_mergeOf_147 7 rfl (by rfl) (by decide) rfl ?_
                    refine x_goto 24 dX2_mergeOf_150 (by decide) ?_
                    refine x_sub [4, 5, 6, 2, 1, 7, 0] rfl ?_
                    exact ih _ _ _ _ hF
              · refine x_iconst 1 (by decide) dX2_mergeOf_79 ?_
                refine x_goto 84 dX2_mergeOf_80 (by decide) ?_
                refine x_istore (i := 7) (lv' := [(7, .int 1), (0, .ref c0), (1, .ref c1), (2, .ref c2), (3, .int x3), (4, .int x4), (5, .int c5), (6, .int x6)]) dX2_mergeOf_84 (by decide) rfl ?_
                refine x_iload 0 dX2_mergeOf_86 rfl ?_
                refine x_if_eq 130 dX2_mergeOf_88 (by decide) hF (fun hF => ?_) (fun hF => ?_)
                · refine x_aload_n 1 dX2_mergeOf_130 rfl rfl ?_
                  refine x_aload_n 2 dX2_mergeOf_131 rfl rfl ?_
                  refine x_iload_n 4 dX2_mergeOf_132 rfl rfl ?_
                  obtain ⟨z92, hzz92, hF⟩ := x_bind hF
                  obtain ⟨⟨fsz92, hbz92⟩, hzz92⟩ := x_cv_sp hzz92
                  refine x_callv (As := [.int x3]) (rest := [.ref c0]) (rc + 0) (rs + 0) dX2_mergeOf_133 mi_X2_keyOn ml_X2_32 rfl rfl (Nat.le_of_ble_eq_true rfl) ⟨by decide, by decide⟩ (by omega) (by omega) hbz92 rfl (c_X2_keyOn N _ _ _ _ _ hzz92) (x_K.some ?_) x_KX.none
                  refine x_aload_n 2 dX2_mergeOf_136 rfl rfl ?_
                  refine x_iload_n 4 dX2_mergeOf_137 rfl rfl ?_
                  obtain ⟨z93, hzz93, hF⟩ := x_bind hF
                  obtain ⟨⟨fsz93, hbz93⟩, hzz93⟩ := x_cv_sp hzz93
                  refine x_callv (As := [.int x3]) (rest := [.int z92, .ref c0]) (rc + 0) (rs + 0) dX2_mergeOf_138 mi_X2_valueOn ml_X2_43 rfl rfl (Nat.le_of_ble_eq_true rfl) ⟨by decide, by decide⟩ (by omega) (by omega) hbz93 rfl (c_X2_valueOn N _ _ _ _ _ hzz93) (x_K.some ?_) x_KX.none
                  obtain ⟨z94, hzz94, hF⟩ := x_bind hF
                  obtain ⟨⟨fsz94, hbz94⟩, hzz94⟩ := x_cv_sp hzz94
                  refine x_callv (As := [.int z92, .int z93]) (rest := []) (rc + 0) (rs + 0) dX2_mergeOf_141 mi_X2_addLast ml_X2_46 rfl rfl (Nat.le_of_ble_eq_true rfl) ⟨by decide, by decide⟩ (by omega) (by omega) hbz94 rfl (c_X2_addLast N _ _ _ _ _ _ hzz94) (x_K.none ?_) x_KX.none
                  refine x_iinc (x3 + 1) (lv' := [(3, .int (x3 + 1)), (7, .int 1), (0, .ref c0), (1, .ref c1), (2, .ref c2), (4, .int x4), (5, .int c5), (6, .int x6)]) dX2_mergeOf_144 4 rfl (by rfl) (by decide) rfl ?_
                  refine x_iinc (x6 + 1) (lv' := [(6, .int (x6 + 1)), (3, .int (x3 + 1)), (7, .int 1), (0, .ref c0), (1, .ref c1), (2, .ref c2), (4, .int x4), (5, .int c5)]) dX2_mergeOf_147 7 rfl (by rfl) (by decide) rfl ?_
                  refine x_goto 24 dX2_mergeOf_150 (by decide) ?_
                  refine x_sub [3, 4, 5, 1, 6, 7, 0] rfl ?_
                  exact ih _ _ _ _ hF
                · refine x_aload_n 2 dX2_mergeOf_91 rfl rfl ?_
                  refine x_iload_n 4 dX2_mergeOf_92 rfl rfl ?_
                  obtain ⟨z95, hzz95, hF⟩ := x_bind hF
                  obtain ⟨⟨fsz95, hbz95⟩, hzz95⟩ := x_cv_sp hzz95
                  refine x_callv (As := [.int x3]) (rest := []) (rc + 0) (rs + 0) dX2_mergeOf_93 mi_X2_keyOn ml_X2_32 rfl rfl (Nat.le_of_ble_eq_true rfl) ⟨by decide, by decide⟩ (by omega) (by omega) hbz95 rfl (c_X2_keyOn N _ _ _ _ _ hzz95) (x_K.some ?_) x_KX.none
                  refine x_aload_n 3 dX2_mergeOf_96 rfl rfl ?_
                  refine x_iload 5 dX2_mergeOf_97 rfl ?_
                  obtain ⟨z96, hzz96, hF⟩ := x_bind hF
                  obtain ⟨⟨fsz96, hbz96⟩, hzz96⟩ := x_cv_sp hzz96
                  refine x_callv (As := [.int x4]) (rest := [.int z95]) (rc + 0) (rs + 0) dX2_mergeOf_99 mi_X2_keyOn ml_X2_32 rfl rfl (Nat.le_of_ble_eq_true rfl) ⟨by decide, by decide⟩ (by omega) (by omega) hbz96 rfl (c_X2_keyOn N _ _ _ _ _ hzz96) (x_K.some ?_) x_KX.none
                  refine x_icmp_ne 108 dX2_mergeOf_102 (by decide) hF (fun hF => ?_) (fun hF => ?_)
                  · refine x_aload_n 1 dX2_mergeOf_108 rfl rfl ?_
                    refine x_aload_n 3 dX2_mergeOf_109 rfl rfl ?_
                    refine x_iload 5 dX2_mergeOf_110 rfl ?_
                    obtain ⟨z97, hzz97, hF⟩ := x_bind hF
                    obtain ⟨⟨fsz97, hbz97⟩, hzz97⟩ := x_cv_sp hzz97
                    refine x_callv (As := [.int x4]) (rest := [.ref c0]) (rc + 0) (rs + 0) dX2_mergeOf_112 mi_X2_keyOn ml_X2_32 rfl rfl (Nat.le_of_ble_eq_true rfl) ⟨by decide, by decide⟩ (by omega) (by omega) hbz97 rfl (c_X2_keyOn N _ _ _ _ _ hzz97) (x_K.some ?_) x_KX.none
                    refine x_aload_n 3 dX2_mergeOf_115 rfl rfl ?_
                    refine x_iload 5 dX2_mergeOf_116 rfl ?_
                    obtain ⟨z98, hzz98, hF⟩ := x_bind hF
                    obtain ⟨⟨fsz98, hbz98⟩, hzz98⟩ := x_cv_sp hzz98
                    refine x_callv (As := [.int x4]) (rest := [.int z97, .ref c0]) (rc + 0) (rs + 0) dX2_mergeOf_118 mi_X2_valueOn ml_X2_43 rfl rfl (Nat.le_of_ble_eq_true rfl) ⟨by decide, by decide⟩ (by omega) (by omega) hbz98 rfl (c_X2_valueOn N _ _ _ _ _ hzz98) (x_K.some ?_) x_KX.none
                    obtain ⟨z99, hzz99, hF⟩ := x_bind hF
                    obtain ⟨⟨fsz99, hbz99⟩, hzz99⟩ := x_cv_sp hzz99
                    refine x_callv (As := [.int z97, .int z98]) (rest := []) (rc + 0) (rs + 0) dX2_mergeOf_121 mi_X2_addLast ml_X2_46 rfl rfl (Nat.le_of_ble_eq_true rfl) ⟨by decide, by decide⟩ (by omega) (by omega) hbz99 rfl (c_X2_addLast N _ _ _ _ _ _ hzz99) (x_K.none ?_) x_KX.none
                    refine x_iinc (x4 + 1) (lv' := [(4, .int (x4 + 1)), (7, .int 1), (0, .ref c0), (1, .ref c1), (2, .ref c2), (3, .int x3), (5, .int c5), (6, .int x6)]) dX2_mergeOf_124 5 rfl (by rfl) (by decide) rfl ?_
                    refine x_goto 147 dX2_mergeOf_127 (by decide) ?_
                    refine x_iinc (x6 + 1) (lv' := [(6, .int (x6 + 1)), (4, .int (x4 + 1)), (7, .int 1), (0, .ref c0), (1, .ref c1), (2, .ref c2), (3, .int x3), (5, .int c5)]) dX2_mergeOf_147 7 rfl (by rfl) (by decide) rfl ?_
                    refine x_goto 24 dX2_mergeOf_150 (by decide) ?_
                    refine x_sub [3, 4, 5, 6, 1, 7, 0] rfl ?_
                    exact ih _ _ _ _ hF
                  · refine x_iinc (x3 + 1) (lv' := [(3, .int (x3 + 1)), (7, .int 1), (0, .ref c0), (1, .ref c1), (2, .ref c2), (4, .int x4), (5, .int c5), (6, .int x6)]) dX2_mergeOf_105 4 rfl (by rfl) (by decide) rfl ?_
                    refine x_aload_n 2 dX2_mergeOf_108 rfl rfl ?_
                    refine x_aload_n 4 dX2_mergeOf_109 rfl rfl ?_
                    refine x_iload 5 dX2_mergeOf_110 rfl ?_
                    obtain ⟨z100, hzz100, hF⟩ := x_bind hF
                    obtain ⟨⟨fsz100, hbz100⟩, hzz100⟩ := x_cv_sp hzz100
                    refine x_callv (As := [.int x4]) (rest := [.ref c0]) (rc + 0) (rs + 0) dX2_mergeOf_112 mi_X2_keyOn ml_X2_32 rfl rfl (Nat.le_of_ble_eq_true rfl) ⟨by decide, by decide⟩ (by omega) (by omega) hbz100 rfl (c_X2_keyOn N _ _ _ _ _ hzz100) (x_K.some ?_) x_KX.none
                    refine x_aload_n 4 dX2_mergeOf_115 rfl rfl ?_
                    refine x_iload 5 dX2_mergeOf_116 rfl ?_
                    obtain ⟨z101, hzz101, hF⟩ := x_bind hF
                    obtain ⟨⟨fsz101, hbz101⟩, hzz101⟩ := x_cv_sp hzz101
                    refine x_callv (As := [.int x4]) (rest := [.int z100, .ref c0]) (rc + 0) (rs + 0) dX2_mergeOf_118 mi_X2_valueOn ml_X2_43 rfl rfl (Nat.le_of_ble_eq_true rfl) ⟨by decide, by decide⟩ (by omega) (by omega) hbz101 rfl (c_X2_valueOn N _ _ _ _ _ hzz101) (x_K.some ?_) x_KX.none
                    obtain ⟨z102, hzz102, hF⟩ := x_bind hF
                    obtain ⟨⟨fsz102, hbz102⟩, hzz102⟩ := x_cv_sp hzz102
                    refine x_callv (As := [.int z100, .int z101]) (rest := []) (rc + 0) (rs + 0) dX2_mergeOf_121 mi_X2_addLast ml_X2_46 rfl rfl (Nat.le_of_ble_eq_true rfl) ⟨by decide, by decide⟩ (by omega) (by omega) hbz102 rfl (c_X2_addLast N _ _ _ _ _ _ hzz102) (x_K.none ?_) x_KX.none
                    refine x_iinc (x4 + 1) (lv' := [(4, .int (x4 + 1)), (3, .int (x3 + 1)), (7, .int 1), (0, .ref c0), (1, .ref c1), (2, .ref c2), (5, .int c5), (6, .int x6)]) dX2_mergeOf_124 5 rfl (by rfl) (by decide) rfl ?_
                    refine x_goto 147 dX2_mergeOf_127 (by decide) ?_
                    refine x_iinc (x6 + 1) (lv' := [(6, .int (x6 + 1)), (4, .int (x4 + 1)), (3, .int (x3 + 1)), (7, .int 1), (0, .ref c0), (1, .ref c1), (2, .ref c2), (5, .int c5)]) dX2_mergeOf_147 7 rfl (by rfl) (by decide) rfl ?_
                    refine x_goto 24 dX2_mergeOf_150 (by decide) ?_
                    refine x_sub [4, 5, 6, 2, 1, 7, 0] rfl ?_
                    exact ih _ _ _ _ hF
set_option maxRecDepth 20000 in
set_option maxHeartbeats 4000000 in
theorem c_X2_mergeOf (N : Nat) (f : XM) (this : Nat) (p0 : Nat) (p1 : Nat) (n : Nat) (r : XM) (hF : F_X2_mergeOf N f this p0 p1 = some r) : x_Ct mX2_mergeOf 1 22 0 0 [.ref this, .ref p0, .ref p1] (f, n) (xr_vm r n) := by
  unfold F_X2_mergeOf at hF
  refine x_ct (by decide) rfl (Nat.le_of_ble_eq_true rfl) ?_
  show X mX2_mergeOf 1 22 _ _ 0 0 0 [(0, .ref this), (1, .ref p0), (2, .ref p1)] [] (f, n)
  refine x_aload_n 0 dX2_mergeOf_0 rfl rfl ?_
  refine x_iconst 0 (by decide) dX2_mergeOf_1 ?_
  refine x_puti_r dX2_mergeOf_2 fl_X2_24 (fun h9 => by cases h9) hF (fun f1 hF => ?_)
  refine x_iconst 0 (by decide) dX2_mergeOf_5 ?_
  refine x_istore_n (i := 3) (lv' := [(3, .int 0), (0, .ref this), (1, .ref p0), (2, .ref p1)]) dX2_mergeOf_6 rfl (by decide) rfl ?_
  refine x_iconst 0 (by decide) dX2_mergeOf_7 ?_
  refine x_istore (i := 4) (lv' := [(4, .int 0), (3, .int 0), (0, .ref this), (1, .ref p0), (2, .ref p1)]) dX2_mergeOf_8 (by decide) rfl ?_
  refine x_aload_n 3 dX2_mergeOf_10 rfl rfl ?_
  refine x_geti_r dX2_mergeOf_11 fl_X2_24 hF (fun v2 hF => ?_)
  refine x_aload_n 4 dX2_mergeOf_14 rfl rfl ?_
  refine x_geti_r dX2_mergeOf_15 fl_X2_24 hF (fun v3 hF => ?_)
  refine x_iadd dX2_mergeOf_18 ?_
  refine x_istore (i := 5) (lv' := [(5, .int (v2 + v3)), (4, .int 0), (3, .int 0), (0, .ref this), (1, .ref p0), (2, .ref p1)]) dX2_mergeOf_19 (by decide) rfl ?_
  refine x_iconst 0 (by decide) dX2_mergeOf_21 ?_
  refine x_istore (i := 6) (lv' := [(6, .int 0), (5, .int (v2 + v3)), (4, .int 0), (3, .int 0), (0, .ref this), (1, .ref p0), (2, .ref p1)]) dX2_mergeOf_22 (by decide) rfl ?_
  refine x_sub [4, 5, 6, 3, 2, 1, 0] rfl ?_
  refine w_X2_mergeOf_L24 N _ _ _ _ _ _ r _ _ _ _ _ hF (fun y3_103 y4_103 y6_103 g103 hF => ?_)
  exact x_vret dX2_mergeOf_153 rfl (by cases hF; rfl)
def F_X2_takeOutGone_L4 (N : Nat) (c0 : Nat) (K : Int32 → Int32 → XM → Option XM) : Nat → Int32 → Int32 → XM → Option XM
  | 0, _, _, _ => none
  | k + 1, x1, x2, f =>
    (x_geti f 2 c0 2).bind fun v2 =>
    if v2 ≤ x2 then
      K x1 x2 f
    else
      (x_getr f 2 c0 0).bind fun v3 =>
      Option.bind v3 fun a4 =>
      (x_alen f a4).bind fun v5 =>
      if v5 ≤ x2 then
        K x1 x2 f
      else
        (x_getr f 2 c0 1).bind fun v6 =>
        Option.bind v6 fun a7 =>
        (x_alen f a7).bind fun v8 =>
        if v8 ≤ x2 then
          K x1 x2 f
        else
          (x_getr f 2 c0 1).bind fun v9 =>
          Option.bind v9 fun a10 =>
          (x_ald f a10 x2).bind fun v11 =>
          if v11 = (-1) then
            F_X2_takeOutGone_L4 N c0 K k x1 (x2 + 1) f
          else
            (x_getr f 2 c0 0).bind fun v12 =>
            (x_getr f 2 c0 0).bind fun v13 =>
            Option.bind v13 fun a14 =>
            (x_ald f a14 x2).bind fun v15 =>
            Option.bind v12 fun a16 =>
            (x_ast f a16 x1 v15).bind fun f17 =>
            (x_getr f17 2 c0 1).bind fun v18 =>
            (x_getr f17 2 c0 1).bind fun v19 =>
            Option.bind v19 fun a20 =>
            (x_ald f17 a20 x2).bind fun v21 =>
            Option.bind v18 fun a22 =>
            (x_ast f17 a22 x1 v21).bind fun f23 =>
            F_X2_takeOutGone_L4 N c0 K k (x1 + 1) (x2 + 1) f23
def F_X2_takeOutGone (N : Nat) (f : XM) (this : Nat) : Option XM :=
  F_X2_takeOutGone_L4 N this (fun y1_24 y2_24 g24 =>
  (x_puti g24 2 this 2 y1_24).bind fun f25 =>
  some f25) N 0 0 f
set_option maxRecDepth 20000 in
set_option maxHeartbeats 4000000 in
theorem w_X2_takeOutGone_L4 (N : Nat) (c0 : Nat) (K : Int32 → Int32 → XM → Option XM) (n : Nat) (r : XM) {rc rs : Nat} : ∀ (k : Nat) (x1 : Int32) (x2 : Int32) (f : XM), F_X2_takeOutGone_L4 N c0 K k x1 x2 f = some r → (∀ (x1 : Int32) (x2 : Int32) (f : XM), K x1 x2 f = some r → X mX2_takeOutGone 0 0 (x_end (xr_vm r n)) x_noRO rc rs 73 [(0, .ref c0), (1, .int x1), (2, .int x2)] [] (f, n)) → X mX2_takeOutGone 0 0 (x_end (xr_vm r n)) x_noRO rc rs 4 [(0, .ref c0), (1, .int x1), (2, .int x2)] [] (f, n) := by
  intro k
  induction k with
  | zero =>
    intro x1 x2 f hF
    exact absurd hF (by intro h9; cases h9)
  | succ k ih =>
    intro x1 x2 f hF hK
    have ih := fun x1 x2 f hF => ih x1 x2 f hF hK
    rw [F_X2_takeOutGone_L4] at hF
    refine x_iload_n 2 dX2_takeOutGone_4 rfl rfl ?_
    refine x_aload_n 0 dX2_takeOutGone_5 rfl rfl ?_
    refine x_geti_r dX2_takeOutGone_6 fl_X2_24 hF (fun v2 hF => ?_)
    refine x_icmp_ge 73 dX2_takeOutGone_9 (by decide) hF (fun hF => ?_) (fun hF => ?_)
    · refine x_sub [0, 1, 2] rfl ?_
      exact hK _ _ _ hF
    · refine x_iload_n 2 dX2_takeOutGone_12 rfl rfl ?_
      refine x_aload_n 0 dX2_takeOutGone_13 rfl rfl ?_
      refine x_getr_r dX2_takeOutGone_14 fl_X2_15 hF (fun v3 hF => ?_)
      refine x_nn hF (fun a4 ha4 hF => ?_)
      rw [ha4]
      refine x_alen_r dX2_takeOutGone_17 hF (fun v5 hF => ?_)
      refine x_icmp_ge 73 dX2_takeOutGone_18 (by decide) hF (fun hF => ?_) (fun hF => ?_)
      · refine x_sub [0, 1, 2] rfl ?_
        exact hK _ _ _ hF
      · refine x_iload_n 2 dX2_takeOutGone_21 rfl rfl ?_
        refine x_aload_n 0 dX2_takeOutGone_22 rfl rfl ?_
        refine x_getr_r dX2_takeOutGone_23 fl_X2_21 hF (fun v6 hF => ?_)
        refine x_nn hF (fun a7 ha7 hF => ?_)
        rw [ha7]
        refine x_alen_r dX2_takeOutGone_26 hF (fun v8 hF => ?_)
        refine x_icmp_ge 73 dX2_takeOutGone_27 (by decide) hF (fun hF => ?_) (fun hF => ?_)
        · refine x_sub [0, 1, 2] rfl ?_
          exact hK _ _ _ hF
        · refine x_aload_n 0 dX2_takeOutGone_30 rfl rfl ?_
          refine x_getr_r dX2_takeOutGone_31 fl_X2_21 hF (fun v9 hF => ?_)
          refine x_iload_n 2 dX2_takeOutGone_34 rfl rfl ?_
          refine x_nn hF (fun a10 ha10 hF => ?_)
          rw [ha10]
          refine x_ald_r dX2_takeOutGone_35 hF (fun v11 hF => ?_)
          refine x_iconst (-1) (by decide) dX2_takeOutGone_36 ?_
          refine x_icmp_eq 67 dX2_takeOutGone_37 (by decide) hF (fun hF => ?_) (fun hF => ?_)
          · refine x_iinc (x2 + 1) (lv' := [(2, .int (x2 + 1)), (0, .ref c0), (1, .int x1)]) dX2_takeOutGone_67 2 rfl (by rfl) (by decide) rfl ?_
            refine x_goto 4 dX2_takeOutGone_70 (by decide) ?_
            refine x_sub [1, 2, 0] rfl ?_
            exact ih _ _ _ hF
          · refine x_aload_n 0 dX2_takeOutGone_40 rfl rfl ?_
            refine x_getr_r dX2_takeOutGone_41 fl_X2_15 hF (fun v12 hF => ?_)
            refine x_iload_n 1 dX2_takeOutGone_44 rfl rfl ?_
            refine x_aload_n 0 dX2_takeOutGone_45 rfl rfl ?_
            refine x_getr_r dX2_takeOutGone_46 fl_X2_15 hF (fun v13 hF => ?_)
            refine x_iload_n 2 dX2_takeOutGone_49 rfl rfl ?_
            refine x_nn hF (fun a14 ha14 hF => ?_)
            rw [ha14]
            refine x_ald_r dX2_takeOutGone_50 hF (fun v15 hF => ?_)
            refine x_nn hF (fun a16 ha16 hF => ?_)
            rw [ha16]
            refine x_ast_r dX2_takeOutGone_51 hF (fun f17 hF => ?_)
            refine x_aload_n 0 dX2_takeOutGone_52 rfl rfl ?_
            refine x_getr_r dX2_takeOutGone_53 fl_X2_21 hF (fun v18 hF => ?_)
            refine x_iload_n 1 dX2_takeOutGone_56 rfl rfl ?_
            refine x_aload_n 0 dX2_takeOutGone_57 rfl rfl ?_
            refine x_getr_r dX2_takeOutGone_58 fl_X2_21 hF (fun v19 hF => ?_)
            refine x_iload_n 2 dX2_takeOutGone_61 rfl rfl ?_
            refine x_nn hF (fun a20 ha20 hF => ?_)
            rw [ha20]
            refine x_ald_r dX2_takeOutGone_62 hF (fun v21 hF => ?_)
            refine x_nn hF (fun a22 ha22 hF => ?_)
            rw [ha22]
            refine x_ast_r dX2_takeOutGone_63 hF (fun f23 hF => ?_)
            refine x_iinc (x1 + 1) (lv' := [(1, .int (x1 + 1)), (0, .ref c0), (2, .int x2)]) dX2_takeOutGone_64 1 rfl (by rfl) (by decide) rfl ?_
            refine x_iinc (x2 + 1) (lv' := [(2, .int (x2 + 1)), (1, .int (x1 + 1)), (0, .ref c0)]) dX2_takeOutGone_67 2 rfl (by rfl) (by decide) rfl ?_
            refine x_goto 4 dX2_takeOutGone_70 (by decide) ?_
            refine x_sub [2, 1, 0] rfl ?_
            exact ih _ _ _ hF
set_option maxRecDepth 20000 in
set_option maxHeartbeats 4000000 in
theorem c_X2_takeOutGone (N : Nat) (f : XM) (this : Nat) (n : Nat) (r : XM) (hF : F_X2_takeOutGone N f this = some r) : x_Ct mX2_takeOutGone 0 0 0 0 [.ref this] (f, n) (xr_vm r n) := by
  unfold F_X2_takeOutGone at hF
  refine x_ct (by decide) rfl (Nat.le_of_ble_eq_true rfl) ?_
  show X mX2_takeOutGone 0 0 _ _ 0 0 0 [(0, .ref this)] [] (f, n)
  refine x_iconst 0 (by decide) dX2_takeOutGone_0 ?_
  refine x_istore_n (i := 1) (lv' := [(1, .int 0), (0, .ref this)]) dX2_takeOutGone_1 rfl (by decide) rfl ?_
  refine x_iconst 0 (by decide) dX2_takeOutGone_2 ?_
  refine x_istore_n (i := 2) (lv' := [(2, .int 0), (1, .int 0), (0, .ref this)]) dX2_takeOutGone_3 rfl (by decide) rfl ?_
  refine x_sub [2, 1, 0] rfl ?_
  refine w_X2_takeOutGone_L4 N _ _ _ r _ _ _ _ hF (fun y1_24 y2_24 g24 hF => ?_)
  refine x_aload_n 0 dX2_takeOutGone_73 rfl rfl ?_
  refine x_iload_n 1 dX2_takeOutGone_74 rfl rfl ?_
  refine x_puti_r dX2_takeOutGone_75 fl_X2_24 (fun h9 => by cases h9) hF (fun f25 hF => ?_)
  exact x_vret dX2_takeOutGone_78 rfl (by cases hF; rfl)
def F_X2_clear (N : Nat) (f : XM) (this : Nat) : Option XM :=
  (x_puti f 2 this 2 0).bind fun f1 =>
  some f1
set_option maxRecDepth 20000 in
set_option maxHeartbeats 4000000 in
theorem c_X2_clear (N : Nat) (f : XM) (this : Nat) (n : Nat) (r : XM) (hF : F_X2_clear N f this = some r) : x_Ct mX2_clear 0 0 0 0 [.ref this] (f, n) (xr_vm r n) := by
  unfold F_X2_clear at hF
  refine x_ct (by decide) rfl (Nat.le_of_ble_eq_true rfl) ?_
  show X mX2_clear 0 0 _ _ 0 0 0 [(0, .ref this)] [] (f, n)
  refine x_aload_n 0 dX2_clear_0 rfl rfl ?_
  refine x_iconst 0 (by decide) dX2_clear_1 ?_
  refine x_puti_r dX2_clear_2 fl_X2_24 (fun h9 => by cases h9) hF (fun f1 hF => ?_)
  exact x_vret dX2_clear_5 rfl (by cases hF; rfl)
def F_X2_init (N : Nat) (h : XH) (this : Nat) (p0 : Int32) : Option XH :=
  (x_newi (h.1, h.2) (x_imax p0 0)).bind fun z1 =>
  (x_putr z1.2.1 2 this 0 (some z1.1)).bind fun f2 =>
  (x_newi (f2, z1.2.2) (x_imax p0 0)).bind fun z3 =>
  (x_putr z3.2.1 2 this 1 (some z3.1)).bind fun f4 =>
  some (f4, z3.2.2)
set_option maxRecDepth 20000 in
set_option maxHeartbeats 4000000 in
theorem c_X2_init (N : Nat) (h : XH) (this : Nat) (p0 : Int32) (r : XH) (S : Nat) (hS : 2 * (x_imax p0 0).toNatClampNeg ≤ S) (hF : F_X2_init N h this p0 = some r) : x_Ct mX2_init 1 21 2 S [.ref this, .int p0] h (xr_va r) := by
  unfold F_X2_init at hF
  refine x_ct (by decide) rfl (Nat.le_of_ble_eq_true rfl) ?_
  show X mX2_init 1 21 _ _ 2 S 0 [(0, .ref this), (1, .int p0)] [] h
  refine x_aload_n 0 dX2_init_0 rfl rfl ?_
  refine x_oinit dX2_init_1 ml_X2_3 jd_oi jd_oc (by decide) (by decide) (Nat.le_of_ble_eq_true rfl) ?_
  refine x_aload_n 0 dX2_init_4 rfl rfl ?_
  refine x_iload_n 1 dX2_init_5 rfl rfl ?_
  refine x_iconst 0 (by decide) dX2_init_6 ?_
  refine x_mmax dX2_init_7 ml_X2_9 jd_maxs jd_mi jd_maxc (by decide) (by decide) (Nat.le_of_ble_eq_true rfl) ?_
  refine x_newi_r 1 (S - ((x_imax p0 0)).toNatClampNeg) dX2_init_10 ac_int (by omega) (by omega) hF (fun z1 hF => ?_)
  refine x_putr_r (v := (some z1.1)) dX2_init_12 fl_X2_15 rfl (fun h9 => ⟨rfl, rfl⟩) hF (fun f2 hF => ?_)
  refine x_aload_n 0 dX2_init_15 rfl rfl ?_
  refine x_iload_n 1 dX2_init_16 rfl rfl ?_
  refine x_iconst 0 (by decide) dX2_init_17 ?_
  refine x_mmax dX2_init_18 ml_X2_9 jd_maxs jd_mi jd_maxc (by decide) (by decide) (Nat.le_of_ble_eq_true rfl) ?_
  refine x_newi_r 0 (S - ((x_imax p0 0)).toNatClampNeg - ((x_imax p0 0)).toNatClampNeg) dX2_init_21 ac_int (by omega) (by omega) hF (fun z3 hF => ?_)
  refine x_putr_r (v := (some z3.1)) dX2_init_23 fl_X2_21 rfl (fun h9 => ⟨rfl, rfl⟩) hF (fun f4 hF => ?_)
  exact x_vret dX2_init_26 rfl (by cases hF; rfl)
def F_X2_firstFrom_L10 (N : Nat) (f : XM) (c0 : Nat) (c1 : Int32) (K : Int32 → Int32 → Int32 → Option Int32) : Nat → Int32 → Int32 → Int32 → Option Int32
  | 0, _, _, _ => none
  | k + 1, x2, x3, x4 =>
    if 32 ≤ x4 then
      K x2 x3 x4
    else
      if x3 ≤ x2 then
        K x2 x3 x4
      else
        (x_getr f 2 c0 0).bind fun v3 =>
        Option.bind v3 fun a4 =>
        (x_alen f a4).bind fun v5 =>
        if v5 ≤ (((x2 + x3)).toUInt32 >>> ((1 : Int32).toUInt32 &&& Int32.toUInt32 31)).toInt32 then
          F_X2_firstFrom_L10 N f c0 c1 K k x2 ((((x2 + x3)).toUInt32 >>> ((1 : Int32).toUInt32 &&& Int32.toUInt32 31)).toInt32) (x4 + 1)
        else
          (x_getr f 2 c0 0).bind fun v6 =>
          Option.bind v6 fun a7 =>
          (x_ald f a7 ((((x2 + x3)).toUInt32 >>> ((1 : Int32).toUInt32 &&& Int32.toUInt32 31)).toInt32)).bind fun v8 =>
          if c1 ≤ v8 then
            F_X2_firstFrom_L10 N f c0 c1 K k x2 ((((x2 + x3)).toUInt32 >>> ((1 : Int32).toUInt32 &&& Int32.toUInt32 31)).toInt32) (x4 + 1)
          else
            F_X2_firstFrom_L10 N f c0 c1 K k ((((x2 + x3)).toUInt32 >>> ((1 : Int32).toUInt32 &&& Int32.toUInt32 31)).toInt32 + 1) x3 (x4 + 1)
def F_X2_firstFrom (N : Nat) (f : XM) (this : Nat) (p0 : Int32) : Option Int32 :=
  (x_geti f 2 this 2).bind fun v1 =>
  F_X2_firstFrom_L10 N f this p0 (fun y2_9 y3_9 y4_9 =>
  some y2_9) N 0 v1 0
set_option maxRecDepth 20000 in
set_option maxHeartbeats 4000000 in
theorem w_X2_firstFrom_L10 (N : Nat) (f : XM) (c0 : Nat) (c1 : Int32) (K : Int32 → Int32 → Int32 → Option Int32) (n : Nat) (r : Int32) {rc rs : Nat} : ∀ (k : Nat) (x2 : Int32) (x3 : Int32) (x4 : Int32), F_X2_firstFrom_L10 N f c0 c1 K k x2 x3 x4 = some r → (∀ (x2 : Int32) (x3 : Int32) (x4 : Int32), K x2 x3 x4 = some r → X mX2_firstFrom 0 0 (x_end (xr_ip r (f, n))) x_noRO rc rs 67 [(0, .ref c0), (1, .int c1), (2, .int x2), (3, .int x3), (4, .int x4)] [] (f, n)) → X mX2_firstFrom 0 0 (x_end (xr_ip r (f, n))) x_noRO rc rs 10 [(0, .ref c0), (1, .int c1), (2, .int x2), (3, .int x3), (4, .int x4)] [] (f, n) := by
  intro k
  induction k with
  | zero =>
    intro x2 x3 x4 hF
    exact absurd hF (by intro h9; cases h9)
  | succ k ih =>
    intro x2 x3 x4 hF hK
    have ih := fun x2 x3 x4 hF => ih x2 x3 x4 hF hK
    rw [F_X2_firstFrom_L10] at hF
    refine x_iload 4 dX2_firstFrom_10 rfl ?_
    refine x_bipush 32 (by decide) dX2_firstFrom_12 ?_
    refine x_icmp_ge 67 dX2_firstFrom_14 (by decide) hF (fun hF => ?_) (fun hF => ?_)
    · refine x_sub [0, 1, 2, 3, 4] rfl ?_
      exact hK _ _ _ hF
    · refine x_iload_n 2 dX2_firstFrom_17 rfl rfl ?_
      refine x_iload_n 3 dX2_firstFrom_18 rfl rfl ?_
      refine x_icmp_ge 67 dX2_firstFrom_19 (by decide) hF (fun hF => ?_) (fun hF => ?_)
      · refine x_sub [0, 1, 2, 3, 4] rfl ?_
        exact hK _ _ _ hF
      · refine x_iload_n 2 dX2_firstFrom_22 rfl rfl ?_
        refine x_iload_n 3 dX2_firstFrom_23 rfl rfl ?_
        refine x_iadd dX2_firstFrom_24 ?_
        refine x_iconst 1 (by decide) dX2_firstFrom_25 ?_
        refine x_iushr dX2_firstFrom_26 ?_
        refine x_istore (i := 5) (lv' := [(5, .int ((((x2 + x3)).toUInt32 >>> ((1 : Int32).toUInt32 &&& Int32.toUInt32 31)).toInt32)), (0, .ref c0), (1, .int c1), (2, .int x2), (3, .int x3), (4, .int x4)]) dX2_firstFrom_27 (by decide) rfl ?_
        refine x_iload 0 dX2_firstFrom_29 rfl ?_
        refine x_aload_n 1 dX2_firstFrom_31 rfl rfl ?_
        refine x_getr_r dX2_firstFrom_32 fl_X2_15 hF (fun v3 hF => ?_)
        refine x_nn hF (fun a4 ha4 hF => ?_)
        rw [ha4]
        refine x_alen_r dX2_firstFrom_35 hF (fun v5 hF => ?_)
        refine x_icmp_ge 58 dX2_firstFrom_36 (by decide) hF (fun hF => ?_) (fun hF => ?_)
        · refine x_iload 0 dX2_firstFrom_58 rfl ?_
          refine x_istore_n (i := 3) (lv' := [(3, .int ((((x2 + x3)).toUInt32 >>> ((1 : Int32).toUInt32 &&& Int32.toUInt32 31)).toInt32)), (5, .int ((((x2 + x3)).toUInt32 >>> ((1 : Int32).toUInt32 &&& Int32.toUInt32 31)).toInt32)), (0, .ref c0), (1, .int c1), (2, .int x2), (4, .int x4)]) dX2_firstFrom_60 rfl (by decide) rfl ?_
          refine x_iinc (x4 + 1) (lv' := [(4, .int (x4 + 1)), (3, .int ((((x2 + x3)).toUInt32 >>> ((1 : Int32).toUInt32 &&& Int32.toUInt32 31)).toInt32)), (5, .int ((((x2 + x3)).toUInt32 >>> ((1 : Int32).toUInt32 &&& Int32.toUInt32 31)).toInt32)), (0, .ref c0), (1, .int c1), (2, .int x2)]) dX2_firstFrom_61 5 rfl (by rfl) (by decide) rfl ?_
          refine x_goto 10 dX2_firstFrom_64 (by decide) ?_
          refine x_sub [3, 4, 5, 1, 0] rfl ?_
          exact ih _ _ _ hF
        · refine x_aload_n 1 dX2_firstFrom_39 rfl rfl ?_
          refine x_getr_r dX2_firstFrom_40 fl_X2_15 hF (fun v6 hF => ?_)
          refine x_iload 0 dX2_firstFrom_43 rfl ?_
          refine x_nn hF (fun a7 ha7 hF => ?_)
          rw [ha7]
          refine x_ald_r dX2_firstFrom_45 hF (fun v8 hF => ?_)
          refine x_iload_n 2 dX2_firstFrom_46 rfl rfl ?_
          refine x_icmp_ge 58 dX2_firstFrom_47 (by decide) hF (fun hF => ?_) (fun hF => ?_)
          · refine x_iload 0 dX2_firstFrom_58 rfl ?_
            refine x_istore_n (i := 3) (lv' := [(3, .int ((((x2 + x3)).toUInt32 >>> ((1 : Int32).toUInt32 &&& Int32.toUInt32 31)).toInt32)), (5, .int ((((x2 + x3)).toUInt32 >>> ((1 : Int32).toUInt32 &&& Int32.toUInt32 31)).toInt32)), (0, .ref c0), (1, .int c1), (2, .int x2), (4, .int x4)]) dX2_firstFrom_60 rfl (by decide) rfl ?_
            refine x_iinc (x4 + 1) (lv' := [(4, .int (x4 + 1)), (3, .int ((((x2 + x3)).toUInt32 >>> ((1 : Int32).toUInt32 &&& Int32.toUInt32 31)).toInt32)), (5, .int ((((x2 + x3)).toUInt32 >>> ((1 : Int32).toUInt32 &&& Int32.toUInt32 31)).toInt32)), (0, .ref c0), (1, .int c1), (2, .int x2)]) dX2_firstFrom_61 5 rfl (by rfl) (by decide) rfl ?_
            refine x_goto 10 dX2_firstFrom_64 (by decide) ?_
            refine x_sub [3, 4, 5, 1, 0] rfl ?_
            exact ih _ _ _ hF
          · refine x_iload 0 dX2_firstFrom_50 rfl ?_
            refine x_iconst 1 (by decide) dX2_firstFrom_52 ?_
            refine x_iadd dX2_firstFrom_53 ?_
            refine x_istore_n (i := 2) (lv' := [(2, .int ((((x2 + x3)).toUInt32 >>> ((1 : Int32).toUInt32 &&& Int32.toUInt32 31)).toInt32 + 1)), (5, .int ((((x2 + x3)).toUInt32 >>> ((1 : Int32).toUInt32 &&& Int32.toUInt32 31)).toInt32)), (0, .ref c0), (1, .int c1), (3, .int x3), (4, .int x4)]) dX2_firstFrom_54 rfl (by decide) rfl ?_
            refine x_goto 61 dX2_firstFrom_55 (by decide) ?_
            refine x_iinc (x4 + 1) (lv' := [(4, .int (x4 + 1)), (2, .int ((((x2 + x3)).toUInt32 >>> ((1 : Int32).toUInt32 &&& Int32.toUInt32 31)).toInt32 + 1)), (5, .int ((((x2 + x3)).toUInt32 >>> ((1 : Int32).toUInt32 &&& Int32.toUInt32 31)).toInt32)), (0, .ref c0), (1, .int c1), (3, .int x3)]) dX2_firstFrom_61 5 rfl (by rfl) (by decide) rfl ?_
            refine x_goto 10 dX2_firstFrom_64 (by decide) ?_
            refine x_sub [3, 4, 1, 5, 0] rfl ?_
            exact ih _ _ _ hF
set_option maxRecDepth 20000 in
set_option maxHeartbeats 4000000 in
theorem c_X2_firstFrom (N : Nat) (f : XM) (this : Nat) (p0 : Int32) (n : Nat) (r : Int32) (hF : F_X2_firstFrom N f this p0 = some r) : x_Ct mX2_firstFrom 0 0 0 0 [.ref this, .int p0] (f, n) (xr_ip r (f, n)) := by
  unfold F_X2_firstFrom at hF
  refine x_ct (by decide) rfl (Nat.le_of_ble_eq_true rfl) ?_
  show X mX2_firstFrom 0 0 _ _ 0 0 0 [(0, .ref this), (1, .int p0)] [] (f, n)
  refine x_iconst 0 (by decide) dX2_firstFrom_0 ?_
  refine x_istore_n (i := 2) (lv' := [(2, .int 0), (0, .ref this), (1, .int p0)]) dX2_firstFrom_1 rfl (by decide) rfl ?_
  refine x_aload_n 1 dX2_firstFrom_2 rfl rfl ?_
  refine x_geti_r dX2_firstFrom_3 fl_X2_24 hF (fun v1 hF => ?_)
  refine x_istore_n (i := 3) (lv' := [(3, .int v1), (2, .int 0), (0, .ref this), (1, .int p0)]) dX2_firstFrom_6 rfl (by decide) rfl ?_
  refine x_iconst 0 (by decide) dX2_firstFrom_7 ?_
  refine x_istore (i := 4) (lv' := [(4, .int 0), (3, .int v1), (2, .int 0), (0, .ref this), (1, .int p0)]) dX2_firstFrom_8 (by decide) rfl ?_
  refine x_sub [3, 4, 2, 1, 0] rfl ?_
  refine w_X2_firstFrom_L10 N _ _ _ _ _ r _ _ _ _ hF (fun y2_9 y3_9 y4_9 hF => ?_)
  refine x_iload_n 2 dX2_firstFrom_67 rfl rfl ?_
  exact x_iret dX2_firstFrom_68 rfl (by cases hF; rfl)
def F_X2_placeOf (N : Nat) (f : XM) (this : Nat) (p0 : Int32) : Option Int32 :=
  (x_cv f 2 this (F_X2_firstFrom N f this p0)).bind fun z1 =>
  (x_geti f 2 this 2).bind fun v2 =>
  if v2 ≤ z1 then
    some (-1)
  else
    (x_cv f 2 this (F_X2_keyOn N f this z1)).bind fun z3 =>
    if z3 = p0 then
      some z1
    else
      some (-1)
set_option maxRecDepth 20000 in
set_option maxHeartbeats 4000000 in
theorem c_X2_placeOf (N : Nat) (f : XM) (this : Nat) (p0 : Int32) (n : Nat) (r : Int32) (hF : F_X2_placeOf N f this p0 = some r) : x_Ct mX2_placeOf 1 25 0 0 [.ref this, .int p0] (f, n) (xr_ip r (f, n)) := by
  unfold F_X2_placeOf at hF
  refine x_ct (by decide) rfl (Nat.le_of_ble_eq_true rfl) ?_
  show X mX2_placeOf 1 25 _ _ 0 0 0 [(0, .ref this), (1, .int p0)] [] (f, n)
  refine x_aload_n 0 dX2_placeOf_0 rfl rfl ?_
  refine x_iload_n 1 dX2_placeOf_1 rfl rfl ?_
  obtain ⟨z1, hzz1, hF⟩ := x_bind hF
  obtain ⟨⟨fsz1, hbz1⟩, hzz1⟩ := x_cv_sp hzz1
  refine x_callv (As := [.int p0]) (rest := []) 0 0 dX2_placeOf_2 mi_X2_firstFrom ml_X2_28 rfl rfl (Nat.le_of_ble_eq_true rfl) ⟨by decide, by decide⟩ (by omega) (by omega) hbz1 rfl (c_X2_firstFrom N _ _ _ _ _ hzz1) (x_K.some ?_) x_KX.none
  refine x_istore_n (i := 2) (lv' := [(2, .int z1), (0, .ref this), (1, .int p0)]) dX2_placeOf_5 rfl (by decide) rfl ?_
  refine x_iload_n 0 dX2_placeOf_6 rfl rfl ?_
  refine x_aload_n 1 dX2_placeOf_7 rfl rfl ?_
  refine x_geti_r dX2_placeOf_8 fl_X2_24 hF (fun v2 hF => ?_)
  refine x_icmp_ge 27 dX2_placeOf_11 (by decide) hF (fun hF => ?_) (fun hF => ?_)
  · refine x_iconst (-1) (by decide) dX2_placeOf_27 ?_
    exact x_iret dX2_placeOf_28 rfl (by cases hF; rfl)
  · refine x_aload_n 1 dX2_placeOf_14 rfl rfl ?_
    refine x_iload_n 0 dX2_placeOf_15 rfl rfl ?_
    obtain ⟨z3, hzz3, hF⟩ := x_bind hF
    obtain ⟨⟨fsz3, hbz3⟩, hzz3⟩ := x_cv_sp hzz3
    refine x_callv (As := [.int z1]) (rest := []) 0 0 dX2_placeOf_16 mi_X2_keyOn ml_X2_32 rfl rfl (Nat.le_of_ble_eq_true rfl) ⟨by decide, by decide⟩ (by omega) (by omega) hbz3 rfl (c_X2_keyOn N _ _ _ _ _ hzz3) (x_K.some ?_) x_KX.none
    refine x_iload_n 2 dX2_placeOf_19 rfl rfl ?_
    refine x_icmp_ne 27 dX2_placeOf_20 (by decide) hF (fun hF => ?_) (fun hF => ?_)
    · refine x_iconst (-1) (by decide) dX2_placeOf_27 ?_
      exact x_iret dX2_placeOf_28 rfl (by cases hF; rfl)
    · refine x_iload_n 0 dX2_placeOf_23 rfl rfl ?_
      refine x_goto 28 dX2_placeOf_24 (by decide) ?_
      exact x_iret dX2_placeOf_28 rfl (by cases hF; rfl)
def F_X2_countFrom_L9 (N : Nat) (f : XM) (c0 : Nat) (c2 : Int32) (K : Int32 → Int32 → Option Int32) : Nat → Int32 → Int32 → Option Int32
  | 0, _, _ => none
  | k + 1, x3, x4 =>
    (x_geti f 2 c0 2).bind fun v3 =>
    if v3 ≤ x4 then
      K x3 x4
    else
      (x_cv f 2 c0 (F_X2_keyOn N f c0 x4)).bind fun z4 =>
      if c2 < z4 then
        K x3 x4
      else
        F_X2_countFrom_L9 N f c0 c2 K k (x3 + 1) (x4 + 1)
def F_X2_countFrom (N : Nat) (f : XM) (this : Nat) (p0 : Int32) (p1 : Int32) : Option Int32 :=
  (x_cv f 2 this (F_X2_firstFrom N f this p0)).bind fun z1 =>
  F_X2_countFrom_L9 N f this p1 (fun y3_5 y4_5 =>
  some y3_5) N 0 z1
set_option maxRecDepth 20000 in
set_option maxHeartbeats 4000000 in
theorem w_X2_countFrom_L9 (N : Nat) (f : XM) (c0 : Nat) (c2 : Int32) (K : Int32 → Int32 → Option Int32) (n : Nat) (r : Int32) {rc rs : Nat} : ∀ (k : Nat) (x3 : Int32) (x4 : Int32), F_X2_countFrom_L9 N f c0 c2 K k x3 x4 = some r → (∀ (x3 : Int32) (x4 : Int32), K x3 x4 = some r → X mX2_countFrom 1 25 (x_end (xr_ip r (f, n))) x_noRO rc rs 37 [(0, .ref c0), (2, .int c2), (3, .int x3), (4, .int x4)] [] (f, n)) → X mX2_countFrom 1 25 (x_end (xr_ip r (f, n))) x_noRO rc rs 9 [(0, .ref c0), (2, .int c2), (3, .int x3), (4, .int x4)] [] (f, n) := by
  intro k
  induction k with
  | zero =>
    intro x3 x4 hF
    exact absurd hF (by intro h9; cases h9)
  | succ k ih =>
    intro x3 x4 hF hK
    have ih := fun x3 x4 hF => ih x3 x4 hF hK
    rw [F_X2_countFrom_L9] at hF
    refine x_iload 3 dX2_countFrom_9 rfl ?_
    refine x_aload_n 0 dX2_countFrom_11 rfl rfl ?_
    refine x_geti_r dX2_countFrom_12 fl_X2_24 hF (fun v3 hF => ?_)
    refine x_icmp_ge 37 dX2_countFrom_15 (by decide) hF (fun hF => ?_) (fun hF => ?_)
    · refine x_sub [0, 1, 2, 3] rfl ?_
      exact hK _ _ hF
    · refine x_aload_n 0 dX2_countFrom_18 rfl rfl ?_
      refine x_iload 3 dX2_countFrom_19 rfl ?_
      obtain ⟨z4, hzz4, hF⟩ := x_bind hF
      obtain ⟨⟨fsz4, hbz4⟩, hzz4⟩ := x_cv_sp hzz4
      refine x_callv (As := [.int x4]) (rest := []) (rc + 0) (rs + 0) dX2_countFrom_21 mi_X2_keyOn ml_X2_32 rfl rfl (Nat.le_of_ble_eq_true rfl) ⟨by decide, by decide⟩ (by omega) (by omega) hbz4 rfl (c_X2_keyOn N _ _ _ _ _ hzz4) (x_K.some ?_) x_KX.none
      refine x_iload_n 1 dX2_countFrom_24 rfl rfl ?_
      refine x_icmp_gt 37 dX2_countFrom_25 (by decide) hF (fun hF => ?_) (fun hF => ?_)
      · refine x_sub [0, 1, 2, 3] rfl ?_
        exact hK _ _ hF
      · refine x_iinc (x3 + 1) (lv' := [(3, .int (x3 + 1)), (0, .ref c0), (2, .int c2), (4, .int x4)]) dX2_countFrom_28 2 rfl (by rfl) (by decide) rfl ?_
        refine x_iinc (x4 + 1) (lv' := [(4, .int (x4 + 1)), (3, .int (x3 + 1)), (0, .ref c0), (2, .int c2)]) dX2_countFrom_31 3 rfl (by rfl) (by decide) rfl ?_
        refine x_goto 9 dX2_countFrom_34 (by decide) ?_
        refine x_sub [2, 3, 1, 0] rfl ?_
        exact ih _ _ hF
set_option maxRecDepth 20000 in
set_option maxHeartbeats 4000000 in
theorem c_X2_countFrom (N : Nat) (f : XM) (this : Nat) (p0 : Int32) (p1 : Int32) (n : Nat) (r : Int32) (hF : F_X2_countFrom N f this p0 p1 = some r) : x_Ct mX2_countFrom 1 25 0 0 [.ref this, .int p0, .int p1] (f, n) (xr_ip r (f, n)) := by
  unfold F_X2_countFrom at hF
  refine x_ct (by decide) rfl (Nat.le_of_ble_eq_true rfl) ?_
  show X mX2_countFrom 1 25 _ _ 0 0 0 [(0, .ref this), (1, .int p0), (2, .int p1)] [] (f, n)
  refine x_iconst 0 (by decide) dX2_countFrom_0 ?_
  refine x_istore_n (i := 3) (lv' := [(3, .int 0), (0, .ref this), (1, .int p0), (2, .int p1)]) dX2_countFrom_1 rfl (by decide) rfl ?_
  refine x_aload_n 1 dX2_countFrom_2 rfl rfl ?_
  refine x_iload_n 2 dX2_countFrom_3 rfl rfl ?_
  obtain ⟨z1, hzz1, hF⟩ := x_bind hF
  obtain ⟨⟨fsz1, hbz1⟩, hzz1⟩ := x_cv_sp hzz1
  refine x_callv (As := [.int p0]) (rest := []) 0 0 dX2_countFrom_4 mi_X2_firstFrom ml_X2_28 rfl rfl (Nat.le_of_ble_eq_true rfl) ⟨by decide, by decide⟩ (by omega) (by omega) hbz1 rfl (c_X2_firstFrom N _ _ _ _ _ hzz1) (x_K.some ?_) x_KX.none
  refine x_istore (i := 4) (lv' := [(4, .int z1), (3, .int 0), (0, .ref this), (1, .int p0), (2, .int p1)]) dX2_countFrom_7 (by decide) rfl ?_
  refine x_sub [2, 4, 1, 0] rfl ?_
  refine w_X2_countFrom_L9 N _ _ _ _ _ r _ _ _ hF (fun y3_5 y4_5 hF => ?_)
  refine x_iload_n 2 dX2_countFrom_37 rfl rfl ?_
  exact x_iret dX2_countFrom_38 rfl (by cases hF; rfl)
def F_X2_setValue (N : Nat) (f : XM) (this : Nat) (p0 : Int32) (p1 : Int32) : Option XM :=
  (x_cv f 2 this (F_X2_has N f this p0)).bind fun z1 =>
  if (x_b z1) = 0 then
    some f
  else
    (x_getr f 2 this 1).bind fun v2 =>
    Option.bind v2 fun a3 =>
    (x_ast f a3 p0 p1).bind fun f4 =>
    some f4
set_option maxRecDepth 20000 in
set_option maxHeartbeats 4000000 in
theorem c_X2_setValue (N : Nat) (f : XM) (this : Nat) (p0 : Int32) (p1 : Int32) (n : Nat) (r : XM) (hF : F_X2_setValue N f this p0 p1 = some r) : x_Ct mX2_setValue 1 21 0 0 [.ref this, .int p0, .int p1] (f, n) (xr_vm r n) := by
  unfold F_X2_setValue at hF
  refine x_ct (by decide) rfl (Nat.le_of_ble_eq_true rfl) ?_
  show X mX2_setValue 1 21 _ _ 0 0 0 [(0, .ref this), (1, .int p0), (2, .int p1)] [] (f, n)
  refine x_aload_n 0 dX2_setValue_0 rfl rfl ?_
  refine x_iload_n 1 dX2_setValue_1 rfl rfl ?_
  obtain ⟨z1, hzz1, hF⟩ := x_bind hF
  obtain ⟨⟨fsz1, hbz1⟩, hzz1⟩ := x_cv_sp hzz1
  refine x_callv (As := [.int p0]) (rest := []) 0 0 dX2_setValue_2 mi_X2_has ml_X2_35 rfl rfl (Nat.le_of_ble_eq_true rfl) ⟨by decide, by decide⟩ (by omega) (by omega) hbz1 rfl (c_X2_has N _ _ _ _ _ hzz1) (x_K.some ?_) x_KX.none
  refine x_if_eq 15 dX2_setValue_5 (by decide) hF (fun hF => ?_) (fun hF => ?_)
  · exact x_vret dX2_setValue_15 rfl (by cases hF; rfl)
  · refine x_aload_n 0 dX2_setValue_8 rfl rfl ?_
    refine x_getr_r dX2_setValue_9 fl_X2_21 hF (fun v2 hF => ?_)
    refine x_iload_n 1 dX2_setValue_12 rfl rfl ?_
    refine x_iload_n 2 dX2_setValue_13 rfl rfl ?_
    refine x_nn hF (fun a3 ha3 hF => ?_)
    rw [ha3]
    refine x_ast_r dX2_setValue_14 hF (fun f4 hF => ?_)
    exact x_vret dX2_setValue_15 rfl (by cases hF; rfl)
def F_X2_isFull (N : Nat) (f : XM) (this : Nat) : Option Bool :=
  (x_geti f 2 this 2).bind fun v1 =>
  (x_getr f 2 this 0).bind fun v2 =>
  Option.bind v2 fun a3 =>
  (x_alen f a3).bind fun v4 =>
  if v4 ≤ v1 then
    some true
  else
    (x_geti f 2 this 2).bind fun v5 =>
    (x_getr f 2 this 1).bind fun v6 =>
    Option.bind v6 fun a7 =>
    (x_alen f a7).bind fun v8 =>
    if v5 < v8 then
      some false
    else
      some true
set_option maxRecDepth 20000 in
set_option maxHeartbeats 4000000 in
theorem c_X2_isFull (N : Nat) (f : XM) (this : Nat) (n : Nat) (r : Bool) (hF : F_X2_isFull N f this = some r) : x_Ct mX2_isFull 0 0 0 0 [.ref this] (f, n) (xr_zp r (f, n)) := by
  unfold F_X2_isFull at hF
  refine x_ct (by decide) rfl (Nat.le_of_ble_eq_true rfl) ?_
  show X mX2_isFull 0 0 _ _ 0 0 0 [(0, .ref this)] [] (f, n)
  refine x_aload_n 0 dX2_isFull_0 rfl rfl ?_
  refine x_geti_r dX2_isFull_1 fl_X2_24 hF (fun v1 hF => ?_)
  refine x_aload_n 0 dX2_isFull_4 rfl rfl ?_
  refine x_getr_r dX2_isFull_5 fl_X2_15 hF (fun v2 hF => ?_)
  refine x_nn hF (fun a3 ha3 hF => ?_)
  rw [ha3]
  refine x_alen_r dX2_isFull_8 hF (fun v4 hF => ?_)
  refine x_icmp_ge 24 dX2_isFull_9 (by decide) hF (fun hF => ?_) (fun hF => ?_)
  · refine x_iconst 1 (by decide) dX2_isFull_24 ?_
    refine x_goto 29 dX2_isFull_25 (by decide) ?_
    exact x_zret dX2_isFull_29 rfl (Or.inr rfl) (by cases hF; rfl)
  · refine x_aload_n 0 dX2_isFull_12 rfl rfl ?_
    refine x_geti_r dX2_isFull_13 fl_X2_24 hF (fun v5 hF => ?_)
    refine x_aload_n 0 dX2_isFull_16 rfl rfl ?_
    refine x_getr_r dX2_isFull_17 fl_X2_21 hF (fun v6 hF => ?_)
    refine x_nn hF (fun a7 ha7 hF => ?_)
    rw [ha7]
    refine x_alen_r dX2_isFull_20 hF (fun v8 hF => ?_)
    refine x_icmp_lt 28 dX2_isFull_21 (by decide) hF (fun hF => ?_) (fun hF => ?_)
    · refine x_iconst 0 (by decide) dX2_isFull_28 ?_
      exact x_zret dX2_isFull_29 rfl (Or.inl rfl) (by cases hF; rfl)
    · refine x_iconst 1 (by decide) dX2_isFull_24 ?_
      refine x_goto 29 dX2_isFull_25 (by decide) ?_
      exact x_zret dX2_isFull_29 rfl (Or.inr rfl) (by cases hF; rfl)
def F_X2_addAt_L43 (N : Nat) (c0 : Nat) (c1 : Int32) (c2 : Int32) (c3 : Int32) (K : Int32 → XM → Option XM) : Nat → Int32 → XM → Option XM
  | 0, _, _ => none
  | k + 1, x4, f =>
    if x4 ≤ c1 then
      K x4 f
    else
      (x_getr f 2 c0 0).bind fun v12 =>
      (x_getr f 2 c0 0).bind fun v13 =>
      Option.bind v13 fun a14 =>
      (x_ald f a14 (x4 - 1)).bind fun v15 =>
      Option.bind v12 fun a16 =>
      (x_ast f a16 x4 v15).bind fun f17 =>
      (x_getr f17 2 c0 1).bind fun v18 =>
      (x_getr f17 2 c0 1).bind fun v19 =>
      Option.bind v19 fun a20 =>
      (x_ald f17 a20 (x4 - 1)).bind fun v21 =>
      Option.bind v18 fun a22 =>
      (x_ast f17 a22 x4 v21).bind fun f23 =>
      F_X2_addAt_L43 N c0 c1 c2 c3 K k (x4 + (-1)) f23
def F_X2_addAt (N : Nat) (f : XM) (this : Nat) (p0 : Int32) (p1 : Int32) (p2 : Int32) : Option XM :=
  if p0 < 0 then
    some f
  else
    (x_geti f 2 this 2).bind fun v1 =>
    if v1 < p0 then
      some f
    else
      (x_geti f 2 this 2).bind fun v2 =>
      (x_getr f 2 this 0).bind fun v3 =>
      Option.bind v3 fun a4 =>
      (x_alen f a4).bind fun v5 =>
      if v5 ≤ v2 then
        some f
      else
        (x_geti f 2 this 2).bind fun v6 =>
        (x_getr f 2 this 1).bind fun v7 =>
        Option.bind v7 fun a8 =>
        (x_alen f a8).bind fun v9 =>
        if v6 < v9 then
          (x_geti f 2 this 2).bind fun v10 =>
          F_X2_addAt_L43 N this p0 p1 p2 (fun y4_24 g24 =>
          (x_getr g24 2 this 0).bind fun v25 =>
          Option.bind v25 fun a26 =>
          (x_ast g24 a26 p0 p1).bind fun f27 =>
          (x_getr f27 2 this 1).bind fun v28 =>
          Option.bind v28 fun a29 =>
          (x_ast f27 a29 p0 p2).bind fun f30 =>
          (x_geti f30 2 this 2).bind fun v31 =>
          (x_puti f30 2 this 2 (v31 + 1)).bind fun f32 =>
          some f32) N v10 f
        else
          some f
set_option maxRecDepth 20000 in
set_option maxHeartbeats 4000000 in
theorem w_X2_addAt_L43 (N : Nat) (c0 : Nat) (c1 : Int32) (c2 : Int32) (c3 : Int32) (K : Int32 → XM → Option XM) (n : Nat) (r : XM) {rc rs : Nat} : ∀ (k : Nat) (x4 : Int32) (f : XM), F_X2_addAt_L43 N c0 c1 c2 c3 K k x4 f = some r → (∀ (x4 : Int32) (f : XM), K x4 f = some r → X mX2_addAt 0 0 (x_end (xr_vm r n)) x_noRO rc rs 87 [(0, .ref c0), (1, .int c1), (2, .int c2), (3, .int c3), (4, .int x4)] [] (f, n)) → X mX2_addAt 0 0 (x_end (xr_vm r n)) x_noRO rc rs 43 [(0, .ref c0), (1, .int c1), (2, .int c2), (3, .int c3), (4, .int x4)] [] (f, n) := by
  intro k
  induction k with
  | zero =>
    intro x4 f hF
    exact absurd hF (by intro h9; cases h9)
  | succ k ih =>
    intro x4 f hF hK
    have ih := fun x4 f hF => ih x4 f hF hK
    rw [F_X2_addAt_L43] at hF
    refine x_iload 4 dX2_addAt_43 rfl ?_
    refine x_iload_n 1 dX2_addAt_45 rfl rfl ?_
    refine x_icmp_le 87 dX2_addAt_46 (by decide) hF (fun hF => ?_) (fun hF => ?_)
    · refine x_sub [0, 1, 2, 3, 4] rfl ?_
      exact hK _ _ hF
    · refine x_aload_n 0 dX2_addAt_49 rfl rfl ?_
      refine x_getr_r dX2_addAt_50 fl_X2_15 hF (fun v12 hF => ?_)
      refine x_iload 4 dX2_addAt_53 rfl ?_
      refine x_aload_n 0 dX2_addAt_55 rfl rfl ?_
      refine x_getr_r dX2_addAt_56 fl_X2_15 hF (fun v13 hF => ?_)
      refine x_iload 4 dX2_addAt_59 rfl ?_
      refine x_iconst 1 (by decide) dX2_addAt_61 ?_
      refine x_isub dX2_addAt_62 ?_
      refine x_nn hF (fun a14 ha14 hF => ?_)
      rw [ha14]
      refine x_ald_r dX2_addAt_63 hF (fun v15 hF => ?_)
      refine x_nn hF (fun a16 ha16 hF => ?_)
      rw [ha16]
      refine x_ast_r dX2_addAt_64 hF (fun f17 hF => ?_)
      refine x_aload_n 0 dX2_addAt_65 rfl rfl ?_
      refine x_getr_r dX2_addAt_66 fl_X2_21 hF (fun v18 hF => ?_)
      refine x_iload 4 dX2_addAt_69 rfl ?_
      refine x_aload_n 0 dX2_addAt_71 rfl rfl ?_
      refine x_getr_r dX2_addAt_72 fl_X2_21 hF (fun v19 hF => ?_)
      refine x_iload 4 dX2_addAt_75 rfl ?_
      refine x_iconst 1 (by decide) dX2_addAt_77 ?_
      refine x_isub dX2_addAt_78 ?_
      refine x_nn hF (fun a20 ha20 hF => ?_)
      rw [ha20]
      refine x_ald_r dX2_addAt_79 hF (fun v21 hF => ?_)
      refine x_nn hF (fun a22 ha22 hF => ?_)
      rw [ha22]
      refine x_ast_r dX2_addAt_80 hF (fun f23 hF => ?_)
      refine x_iinc (x4 + (-1)) (lv' := [(4, .int (x4 + (-1))), (0, .ref c0), (1, .int c1), (2, .int c2), (3, .int c3)]) dX2_addAt_81 4 rfl (by rfl) (by decide) rfl ?_
      refine x_goto 43 dX2_addAt_84 (by decide) ?_
      refine x_sub [1, 2, 3, 4, 0] rfl ?_
      exact ih _ _ hF
set_option maxRecDepth 20000 in
set_option maxHeartbeats 4000000 in
theorem c_X2_addAt (N : Nat) (f : XM) (this : Nat) (p0 : Int32) (p1 : Int32) (p2 : Int32) (n : Nat) (r : XM) (hF : F_X2_addAt N f this p0 p1 p2 = some r) : x_Ct mX2_addAt 0 0 0 0 [.ref this, .int p0, .int p1, .int p2] (f, n) (xr_vm r n) := by
  unfold F_X2_addAt at hF
  refine x_ct (by decide) rfl (Nat.le_of_ble_eq_true rfl) ?_
  show X mX2_addAt 0 0 _ _ 0 0 0 [(0, .ref this), (1, .int p0), (2, .int p1), (3, .int p2)] [] (f, n)
  refine x_iload_n 1 dX2_addAt_0 rfl rfl ?_
  refine x_if_lt 36 dX2_addAt_1 (by decide) hF (fun hF => ?_) (fun hF => ?_)
  · exact x_vret dX2_addAt_36 rfl (by cases hF; rfl)
  · refine x_iload_n 1 dX2_addAt_4 rfl rfl ?_
    refine x_aload_n 0 dX2_addAt_5 rfl rfl ?_
    refine x_geti_r dX2_addAt_6 fl_X2_24 hF (fun v1 hF => ?_)
    refine x_icmp_gt 36 dX2_addAt_9 (by decide) hF (fun hF => ?_) (fun hF => ?_)
    · exact x_vret dX2_addAt_36 rfl (by cases hF; rfl)
    · refine x_aload_n 0 dX2_addAt_12 rfl rfl ?_
      refine x_geti_r dX2_addAt_13 fl_X2_24 hF (fun v2 hF => ?_)
      refine x_aload_n 0 dX2_addAt_16 rfl rfl ?_
      refine x_getr_r dX2_addAt_17 fl_X2_15 hF (fun v3 hF => ?_)
      refine x_nn hF (fun a4 ha4 hF => ?_)
      rw [ha4]
      refine x_alen_r dX2_addAt_20 hF (fun v5 hF => ?_)
      refine x_icmp_ge 36 dX2_addAt_21 (by decide) hF (fun hF => ?_) (fun hF => ?_)
      · exact x_vret dX2_addAt_36 rfl (by cases hF; rfl)
      · refine x_aload_n 0 dX2_addAt_24 rfl rfl ?_
        refine x_geti_r dX2_addAt_25 fl_X2_24 hF (fun v6 hF => ?_)
        refine x_aload_n 0 dX2_addAt_28 rfl rfl ?_
        refine x_getr_r dX2_addAt_29 fl_X2_21 hF (fun v7 hF => ?_)
        refine x_nn hF (fun a8 ha8 hF => ?_)
        rw [ha8]
        refine x_alen_r dX2_addAt_32 hF (fun v9 hF => ?_)
        refine x_icmp_lt 37 dX2_addAt_33 (by decide) hF (fun hF => ?_) (fun hF => ?_)
        · refine x_aload_n 0 dX2_addAt_37 rfl rfl ?_
          refine x_geti_r dX2_addAt_38 fl_X2_24 hF (fun v10 hF => ?_)
          refine x_istore (i := 4) (lv' := [(4, .int v10), (0, .ref this), (1, .int p0), (2, .int p1), (3, .int p2)]) dX2_addAt_41 (by decide) rfl ?_
          refine x_sub [1, 2, 3, 4, 0] rfl ?_
          refine w_X2_addAt_L43 N _ _ _ _ _ _ r _ _ _ hF (fun y4_24 g24 hF => ?_)
          refine x_aload_n 0 dX2_addAt_87 rfl rfl ?_
          refine x_getr_r dX2_addAt_88 fl_X2_15 hF (fun v25 hF => ?_)
          refine x_iload_n 1 dX2_addAt_91 rfl rfl ?_
          refine x_iload_n 2 dX2_addAt_92 rfl rfl ?_
          refine x_nn hF (fun a26 ha26 hF => ?_)
          rw [ha26]
          refine x_ast_r dX2_addAt_93 hF (fun f27 hF => ?_)
          refine x_aload_n 0 dX2_addAt_94 rfl rfl ?_
          refine x_getr_r dX2_addAt_95 fl_X2_21 hF (fun v28 hF => ?_)
          refine x_iload_n 1 dX2_addAt_98 rfl rfl ?_
          refine x_iload_n 3 dX2_addAt_99 rfl rfl ?_
          refine x_nn hF (fun a29 ha29 hF => ?_)
          rw [ha29]
          refine x_ast_r dX2_addAt_100 hF (fun f30 hF => ?_)
          refine x_aload_n 0 dX2_addAt_101 rfl rfl ?_
          refine x_dupr dX2_addAt_102 ?_
          refine x_geti_r dX2_addAt_103 fl_X2_24 hF (fun v31 hF => ?_)
          refine x_iconst 1 (by decide) dX2_addAt_106 ?_
          refine x_iadd dX2_addAt_107 ?_
          refine x_puti_r dX2_addAt_108 fl_X2_24 (fun h9 => by cases h9) hF (fun f32 hF => ?_)
          exact x_vret dX2_addAt_111 rfl (by cases hF; rfl)
        · exact x_vret dX2_addAt_36 rfl (by cases hF; rfl)
def F_X2_removeAt_L13 (N : Nat) (c0 : Nat) (K : Int32 → XM → Option XM) : Nat → Int32 → XM → Option XM
  | 0, _, _ => none
  | k + 1, x2, f =>
    (x_geti f 2 c0 2).bind fun v3 =>
    if v3 ≤ x2 then
      K x2 f
    else
      (x_getr f 2 c0 0).bind fun v4 =>
      Option.bind v4 fun a5 =>
      (x_alen f a5).bind fun v6 =>
      if v6 ≤ x2 then
        K x2 f
      else
        (x_getr f 2 c0 1).bind fun v7 =>
        Option.bind v7 fun a8 =>
        (x_alen f a8).bind fun v9 =>
        if v9 ≤ x2 then
          K x2 f
        else
          (x_getr f 2 c0 0).bind fun v10 =>
          (x_getr f 2 c0 0).bind fun v11 =>
          Option.bind v11 fun a12 =>
          (x_ald f a12 x2).bind fun v13 =>
          Option.bind v10 fun a14 =>
          (x_ast f a14 (x2 - 1) v13).bind fun f15 =>
          (x_getr f15 2 c0 1).bind fun v16 =>
          (x_getr f15 2 c0 1).bind fun v17 =>
          Option.bind v17 fun a18 =>
          (x_ald f15 a18 x2).bind fun v19 =>
          Option.bind v16 fun a20 =>
          (x_ast f15 a20 (x2 - 1) v19).bind fun f21 =>
          F_X2_removeAt_L13 N c0 K k (x2 + 1) f21
def F_X2_removeAt (N : Nat) (f : XM) (this : Nat) (p0 : Int32) : Option XM :=
  (x_cv f 2 this (F_X2_has N f this p0)).bind fun z1 =>
  if (x_b z1) = 0 then
    some f
  else
    F_X2_removeAt_L13 N this (fun y2_22 g22 =>
    (x_geti g22 2 this 2).bind fun v23 =>
    (x_puti g22 2 this 2 (v23 - 1)).bind fun f24 =>
    some f24) N (p0 + 1) f
set_option maxRecDepth 20000 in
set_option maxHeartbeats 4000000 in
theorem w_X2_removeAt_L13 (N : Nat) (c0 : Nat) (K : Int32 → XM → Option XM) (n : Nat) (r : XM) {rc rs : Nat} : ∀ (k : Nat) (x2 : Int32) (f : XM), F_X2_removeAt_L13 N c0 K k x2 f = some r → (∀ (x2 : Int32) (f : XM), K x2 f = some r → X mX2_removeAt 1 21 (x_end (xr_vm r n)) x_noRO rc rs 73 [(0, .ref c0), (2, .int x2)] [] (f, n)) → X mX2_removeAt 1 21 (x_end (xr_vm r n)) x_noRO rc rs 13 [(0, .ref c0), (2, .int x2)] [] (f, n) := by
  intro k
  induction k with
  | zero =>
    intro x2 f hF
    exact absurd hF (by intro h9; cases h9)
  | succ k ih =>
    intro x2 f hF hK
    have ih := fun x2 f hF => ih x2 f hF hK
    rw [F_X2_removeAt_L13] at hF
    refine x_iload_n 1 dX2_removeAt_13 rfl rfl ?_
    refine x_aload_n 0 dX2_removeAt_14 rfl rfl ?_
    refine x_geti_r dX2_removeAt_15 fl_X2_24 hF (fun v3 hF => ?_)
    refine x_icmp_ge 73 dX2_removeAt_18 (by decide) hF (fun hF => ?_) (fun hF => ?_)
    · refine x_sub [0, 1] rfl ?_
      exact hK _ _ hF
    · refine x_iload_n 1 dX2_removeAt_21 rfl rfl ?_
      refine x_aload_n 0 dX2_removeAt_22 rfl rfl ?_
      refine x_getr_r dX2_removeAt_23 fl_X2_15 hF (fun v4 hF => ?_)
      refine x_nn hF (fun a5 ha5 hF => ?_)
      rw [ha5]
      refine x_alen_r dX2_removeAt_26 hF (fun v6 hF => ?_)
      refine x_icmp_ge 73 dX2_removeAt_27 (by decide) hF (fun hF => ?_) (fun hF => ?_)
      · refine x_sub [0, 1] rfl ?_
        exact hK _ _ hF
      · refine x_iload_n 1 dX2_removeAt_30 rfl rfl ?_
        refine x_aload_n 0 dX2_removeAt_31 rfl rfl ?_
        refine x_getr_r dX2_removeAt_32 fl_X2_21 hF (fun v7 hF => ?_)
        refine x_nn hF (fun a8 ha8 hF => ?_)
        rw [ha8]
        refine x_alen_r dX2_removeAt_35 hF (fun v9 hF => ?_)
        refine x_icmp_ge 73 dX2_removeAt_36 (by decide) hF (fun hF => ?_) (fun hF => ?_)
        · refine x_sub [0, 1] rfl ?_
          exact hK _ _ hF
        · refine x_aload_n 0 dX2_removeAt_39 rfl rfl ?_
          refine x_getr_r dX2_removeAt_40 fl_X2_15 hF (fun v10 hF => ?_)
          refine x_iload_n 1 dX2_removeAt_43 rfl rfl ?_
          refine x_iconst 1 (by decide) dX2_removeAt_44 ?_
          refine x_isub dX2_removeAt_45 ?_
          refine x_aload_n 0 dX2_removeAt_46 rfl rfl ?_
          refine x_getr_r dX2_removeAt_47 fl_X2_15 hF (fun v11 hF => ?_)
          refine x_iload_n 1 dX2_removeAt_50 rfl rfl ?_
          refine x_nn hF (fun a12 ha12 hF => ?_)
          rw [ha12]
          refine x_ald_r dX2_removeAt_51 hF (fun v13 hF => ?_)
          refine x_nn hF (fun a14 ha14 hF => ?_)
          rw [ha14]
          refine x_ast_r dX2_removeAt_52 hF (fun f15 hF => ?_)
          refine x_aload_n 0 dX2_removeAt_53 rfl rfl ?_
          refine x_getr_r dX2_removeAt_54 fl_X2_21 hF (fun v16 hF => ?_)
          refine x_iload_n 1 dX2_removeAt_57 rfl rfl ?_
          refine x_iconst 1 (by decide) dX2_removeAt_58 ?_
          refine x_isub dX2_removeAt_59 ?_
          refine x_aload_n 0 dX2_removeAt_60 rfl rfl ?_
          refine x_getr_r dX2_removeAt_61 fl_X2_21 hF (fun v17 hF => ?_)
          refine x_iload_n 1 dX2_removeAt_64 rfl rfl ?_
          refine x_nn hF (fun a18 ha18 hF => ?_)
          rw [ha18]
          refine x_ald_r dX2_removeAt_65 hF (fun v19 hF => ?_)
          refine x_nn hF (fun a20 ha20 hF => ?_)
          rw [ha20]
          refine x_ast_r dX2_removeAt_66 hF (fun f21 hF => ?_)
          refine x_iinc (x2 + 1) (lv' := [(2, .int (x2 + 1)), (0, .ref c0)]) dX2_removeAt_67 1 rfl (by rfl) (by decide) rfl ?_
          refine x_goto 13 dX2_removeAt_70 (by decide) ?_
          refine x_sub [1, 0] rfl ?_
          exact ih _ _ hF
set_option maxRecDepth 20000 in
set_option maxHeartbeats 4000000 in
theorem c_X2_removeAt (N : Nat) (f : XM) (this : Nat) (p0 : Int32) (n : Nat) (r : XM) (hF : F_X2_removeAt N f this p0 = some r) : x_Ct mX2_removeAt 1 21 0 0 [.ref this, .int p0] (f, n) (xr_vm r n) := by
  unfold F_X2_removeAt at hF
  refine x_ct (by decide) rfl (Nat.le_of_ble_eq_true rfl) ?_
  show X mX2_removeAt 1 21 _ _ 0 0 0 [(0, .ref this), (1, .int p0)] [] (f, n)
  refine x_aload_n 0 dX2_removeAt_0 rfl rfl ?_
  refine x_iload_n 1 dX2_removeAt_1 rfl rfl ?_
  obtain ⟨z1, hzz1, hF⟩ := x_bind hF
  obtain ⟨⟨fsz1, hbz1⟩, hzz1⟩ := x_cv_sp hzz1
  refine x_callv (As := [.int p0]) (rest := []) 0 0 dX2_removeAt_2 mi_X2_has ml_X2_35 rfl rfl (Nat.le_of_ble_eq_true rfl) ⟨by decide, by decide⟩ (by omega) (by omega) hbz1 rfl (c_X2_has N _ _ _ _ _ hzz1) (x_K.some ?_) x_KX.none
  refine x_if_ne 9 dX2_removeAt_5 (by decide) hF (fun hF => ?_) (fun hF => ?_)
  · refine x_iload_n 1 dX2_removeAt_9 rfl rfl ?_
    refine x_iconst 1 (by decide) dX2_removeAt_10 ?_
    refine x_iadd dX2_removeAt_11 ?_
    refine x_istore_n (i := 2) (lv' := [(2, .int (p0 + 1)), (0, .ref this), (1, .int p0)]) dX2_removeAt_12 rfl (by decide) rfl ?_
    refine x_sub [1, 0] rfl ?_
    refine w_X2_removeAt_L13 N _ _ _ r _ _ _ hF (fun y2_22 g22 hF => ?_)
    refine x_aload_n 0 dX2_removeAt_73 rfl rfl ?_
    refine x_dupr dX2_removeAt_74 ?_
    refine x_geti_r dX2_removeAt_75 fl_X2_24 hF (fun v23 hF => ?_)
    refine x_iconst 1 (by decide) dX2_removeAt_78 ?_
    refine x_isub dX2_removeAt_79 ?_
    refine x_puti_r dX2_removeAt_80 fl_X2_24 (fun h9 => by cases h9) hF (fun f24 hF => ?_)
    exact x_vret dX2_removeAt_83 rfl (by cases hF; rfl)
  · exact x_vret dX2_removeAt_8 rfl (by cases hF; rfl)
def F_X2_standsAfter_L5 (N : Nat) (f : XM) (c0 : Nat) (c1 : Int32) (K : Bool → Int32 → Option Bool) : Nat → Bool → Int32 → Option Bool
  | 0, _, _ => none
  | k + 1, x3, x4 =>
    (x_geti f 2 c0 2).bind fun v2 =>
    if v2 ≤ x4 then
      K x3 x4
    else
      (x_cv f 2 c0 (F_X2_keyOn N f c0 x4)).bind fun z3 =>
      if z3 = c1 then
        (x_cv f 2 c0 (F_X2_valueOn N f c0 x4)).bind fun z4 =>
        if z4 = (-1) then
          F_X2_standsAfter_L5 N f c0 c1 K k false (x4 + 1)
        else
          F_X2_standsAfter_L5 N f c0 c1 K k true (x4 + 1)
      else
        F_X2_standsAfter_L5 N f c0 c1 K k x3 (x4 + 1)
def F_X2_standsAfter (N : Nat) (f : XM) (this : Nat) (p0 : Int32) (p1 : Bool) : Option Bool :=
  F_X2_standsAfter_L5 N f this p0 (fun y3_5 y4_5 =>
  some y3_5) N p1 0
set_option maxRecDepth 20000 in
set_option maxHeartbeats 4000000 in
theorem w_X2_standsAfter_L5 (N : Nat) (f : XM) (c0 : Nat) (c1 : Int32) (K : Bool → Int32 → Option Bool) (n : Nat) (r : Bool) {rc rs : Nat} : ∀ (k : Nat) (x3 : Bool) (x4 : Int32), F_X2_standsAfter_L5 N f c0 c1 K k x3 x4 = some r → (∀ (x3 : Bool) (x4 : Int32), K x3 x4 = some r → X mX2_standsAfter 1 21 (x_end (xr_zp r (f, n))) x_noRO rc rs 46 [(0, .ref c0), (1, .int c1), (3, .int (x_b x3)), (4, .int x4)] [] (f, n)) → X mX2_standsAfter 1 21 (x_end (xr_zp r (f, n))) x_noRO rc rs 5 [(0, .ref c0), (1, .int c1), (3, .int (x_b x3)), (4, .int x4)] [] (f, n) := by
  intro k
  induction k with
  | zero =>
    intro x3 x4 hF
    exact absurd hF (by intro h9; cases h9)
  | succ k ih =>
    intro x3 x4 hF hK
    have ih := fun x3 x4 hF => ih x3 x4 hF hK
    rw [F_X2_standsAfter_L5] at hF
    refine x_iload 3 dX2_standsAfter_5 rfl ?_
    refine x_aload_n 0 dX2_standsAfter_7 rfl rfl ?_
    refine x_geti_r dX2_standsAfter_8 fl_X2_24 hF (fun v2 hF => ?_)
    refine x_icmp_ge 46 dX2_standsAfter_11 (by decide) hF (fun hF => ?_) (fun hF => ?_)
    · refine x_sub [0, 1, 2, 3] rfl ?_
      exact hK _ _ hF
    · refine x_aload_n 0 dX2_standsAfter_14 rfl rfl ?_
      refine x_iload 3 dX2_standsAfter_15 rfl ?_
      obtain ⟨z3, hzz3, hF⟩ := x_bind hF
      obtain ⟨⟨fsz3, hbz3⟩, hzz3⟩ := x_cv_sp hzz3
      refine x_callv (As := [.int x4]) (rest := []) (rc + 0) (rs + 0) dX2_standsAfter_17 mi_X2_keyOn ml_X2_32 rfl rfl (Nat.le_of_ble_eq_true rfl) ⟨by decide, by decide⟩ (by omega) (by omega) hbz3 rfl (c_X2_keyOn N _ _ _ _ _ hzz3) (x_K.some ?_) x_KX.none
      refine x_iload_n 1 dX2_standsAfter_20 rfl rfl ?_
      refine x_icmp_ne 40 dX2_standsAfter_21 (by decide) hF (fun hF => ?_) (fun hF => ?_)
      · refine x_iinc (x4 + 1) (lv' := [(4, .int (x4 + 1)), (0, .ref c0), (1, .int c1), (3, .int (x_b x3))]) dX2_standsAfter_40 3 rfl (by rfl) (by decide) rfl ?_
        refine x_goto 5 dX2_standsAfter_43 (by decide) ?_
        refine x_sub [1, 2, 3, 0] rfl ?_
        exact ih _ _ hF
      · refine x_aload_n 0 dX2_standsAfter_24 rfl rfl ?_
        refine x_iload 3 dX2_standsAfter_25 rfl ?_
        obtain ⟨z4, hzz4, hF⟩ := x_bind hF
        obtain ⟨⟨fsz4, hbz4⟩, hzz4⟩ := x_cv_sp hzz4
        refine x_callv (As := [.int x4]) (rest := []) (rc + 0) (rs + 0) dX2_standsAfter_27 mi_X2_valueOn ml_X2_43 rfl rfl (Nat.le_of_ble_eq_true rfl) ⟨by decide, by decide⟩ (by omega) (by omega) hbz4 rfl (c_X2_valueOn N _ _ _ _ _ hzz4) (x_K.some ?_) x_KX.none
        refine x_iconst (-1) (by decide) dX2_standsAfter_30 ?_
        refine x_icmp_eq 38 dX2_standsAfter_31 (by decide) hF (fun hF => ?_) (fun hF => ?_)
        · refine x_iconst 0 (by decide) dX2_standsAfter_38 ?_
          refine x_istore_n (i := 3) (lv' := [(3, .int (x_b false)), (0, .ref c0), (1, .int c1), (4, .int x4)]) dX2_standsAfter_39 rfl (by decide) rfl ?_
          refine x_iinc (x4 + 1) (lv' := [(4, .int (x4 + 1)), (3, .int (x_b false)), (0, .ref c0), (1, .int c1)]) dX2_standsAfter_40 3 rfl (by rfl) (by decide) rfl ?_
          refine x_goto 5 dX2_standsAfter_43 (by decide) ?_
          refine x_sub [2, 3, 1, 0] rfl ?_
          exact ih _ _ hF
        · refine x_iconst 1 (by decide) dX2_standsAfter_34 ?_
          refine x_goto 39 dX2_standsAfter_35 (by decide) ?_
          refine x_istore_n (i := 3) (lv' := [(3, .int (x_b true)), (0, .ref c0), (1, .int c1), (4, .int x4)]) dX2_standsAfter_39 rfl (by decide) rfl ?_
          refine x_iinc (x4 + 1) (lv' := [(4, .int (x4 + 1)), (3, .int (x_b true)), (0, .ref c0), (1, .int c1)]) dX2_standsAfter_40 3 rfl (by rfl) (by decide) rfl ?_
          refine x_goto 5 dX2_standsAfter_43 (by decide) ?_
          refine x_sub [2, 3, 1, 0] rfl ?_
          exact ih _ _ hF
set_option maxRecDepth 20000 in
set_option maxHeartbeats 4000000 in
theorem c_X2_standsAfter (N : Nat) (f : XM) (this : Nat) (p0 : Int32) (p1 : Bool) (n : Nat) (r : Bool) (hF : F_X2_standsAfter N f this p0 p1 = some r) : x_Ct mX2_standsAfter 1 21 0 0 [.ref this, .int p0, .int (x_b p1)] (f, n) (xr_zp r (f, n)) := by
  unfold F_X2_standsAfter at hF
  refine x_ct (by decide) rfl (Nat.le_of_ble_eq_true rfl) ?_
  show X mX2_standsAfter 1 21 _ _ 0 0 0 [(0, .ref this), (1, .int p0), (2, .int (x_b p1))] [] (f, n)
  refine x_iload_n 2 dX2_standsAfter_0 rfl rfl ?_
  refine x_istore_n (i := 3) (lv' := [(3, .int (x_b p1)), (0, .ref this), (1, .int p0), (2, .int (x_b p1))]) dX2_standsAfter_1 rfl (by decide) rfl ?_
  refine x_iconst 0 (by decide) dX2_standsAfter_2 ?_
  refine x_istore (i := 4) (lv' := [(4, .int 0), (3, .int (x_b p1)), (0, .ref this), (1, .int p0), (2, .int (x_b p1))]) dX2_standsAfter_3 (by decide) rfl ?_
  refine x_sub [2, 3, 1, 0] rfl ?_
  refine w_X2_standsAfter_L5 N _ _ _ _ _ r _ _ _ hF (fun y3_5 y4_5 hF => ?_)
  refine x_iload_n 2 dX2_standsAfter_46 rfl rfl ?_
  exact x_zret dX2_standsAfter_47 rfl (x_b_01 y3_5) (by cases hF; rfl)
