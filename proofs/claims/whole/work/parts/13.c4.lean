def F_X6_adds (N : Nat) (f : XM) (this : Nat) (p0 : Int32) (p1 : Int32) (p2 : Int32) (p3 : Int32) : Option XM :=
  (x_getr f 6 this 0).bind fun v1 =>
  Option.bind v1 fun a2 =>
  (x_ald f a2 7).bind fun v3 =>
  (x_getr f 6 this 0).bind fun v4 =>
  Option.bind v4 fun a5 =>
  (x_ast f a5 (856 + (4 * v3)) p0).bind fun f6 =>
  (x_getr f6 6 this 0).bind fun v7 =>
  Option.bind v7 fun a8 =>
  (x_ast f6 a8 ((856 + (4 * v3)) + 1) p1).bind fun f9 =>
  (x_getr f9 6 this 0).bind fun v10 =>
  Option.bind v10 fun a11 =>
  (x_ast f9 a11 ((856 + (4 * v3)) + 2) p2).bind fun f12 =>
  (x_getr f12 6 this 0).bind fun v13 =>
  Option.bind v13 fun a14 =>
  (x_ast f12 a14 ((856 + (4 * v3)) + 3) p3).bind fun f15 =>
  (x_getr f15 6 this 0).bind fun v16 =>
  Option.bind v16 fun a17 =>
  (x_ald f15 a17 7).bind fun v18 =>
  (x_ast f15 a17 7 (v18 + 1)).bind fun f19 =>
  some f19
set_option maxRecDepth 20000 in
set_option maxHeartbeats 4000000 in
theorem c_X6_adds (N : Nat) (f : XM) (this : Nat) (p0 : Int32) (p1 : Int32) (p2 : Int32) (p3 : Int32) (n : Nat) (r : XM) (hF : F_X6_adds N f this p0 p1 p2 p3 = some r) : x_Ct mX6_adds 0 0 0 0 [.ref this, .int p0, .int p1, .int p2, .int p3] (f, n) (xr_vm r n) := by
  unfold F_X6_adds at hF
  refine x_ct (by decide) rfl (Nat.le_of_ble_eq_true rfl) ?_
  show X mX6_adds 0 0 _ _ 0 0 0 [(0, .ref this), (1, .int p0), (2, .int p1), (3, .int p2), (4, .int p3)] [] (f, n)
  refine x_sipush 856 (by decide) dX6_adds_0 ?_
  refine x_iconst 4 (by decide) dX6_adds_3 ?_
  refine x_aload_n 0 dX6_adds_4 rfl rfl ?_
  refine x_getr_r dX6_adds_5 fl_X6_7 hF (fun v1 hF => ?_)
  refine x_bipush 7 (by decide) dX6_adds_8 ?_
  refine x_nn hF (fun a2 ha2 hF => ?_)
  rw [ha2]
  refine x_ald_r dX6_adds_10 hF (fun v3 hF => ?_)
  refine x_imul dX6_adds_11 ?_
  refine x_iadd dX6_adds_12 ?_
  refine x_istore (i := 5) (lv' := [(5, .int (856 + (4 * v3))), (0, .ref this), (1, .int p0), (2, .int p1), (3, .int p2), (4, .int p3)]) dX6_adds_13 (by decide) rfl ?_
  refine x_aload_n 1 dX6_adds_15 rfl rfl ?_
  refine x_getr_r dX6_adds_16 fl_X6_7 hF (fun v4 hF => ?_)
  refine x_iload 0 dX6_adds_19 rfl ?_
  refine x_iload_n 2 dX6_adds_21 rfl rfl ?_
  refine x_nn hF (fun a5 ha5 hF => ?_)
  rw [ha5]
  refine x_ast_r dX6_adds_22 hF (fun f6 hF => ?_)
  refine x_aload_n 1 dX6_adds_23 rfl rfl ?_
  refine x_getr_r dX6_adds_24 fl_X6_7 hF (fun v7 hF => ?_)
  refine x_iload 0 dX6_adds_27 rfl ?_
  refine x_iconst 1 (by decide) dX6_adds_29 ?_
  refine x_iadd dX6_adds_30 ?_
  refine x_iload_n 3 dX6_adds_31 rfl rfl ?_
  refine x_nn hF (fun a8 ha8 hF => ?_)
  rw [ha8]
  refine x_ast_r dX6_adds_32 hF (fun f9 hF => ?_)
  refine x_aload_n 1 dX6_adds_33 rfl rfl ?_
  refine x_getr_r dX6_adds_34 fl_X6_7 hF (fun v10 hF => ?_)
  refine x_iload 0 dX6_adds_37 rfl ?_
  refine x_iconst 2 (by decide) dX6_adds_39 ?_
  refine x_iadd dX6_adds_40 ?_
  refine x_iload_n 4 dX6_adds_41 rfl rfl ?_
  refine x_nn hF (fun a11 ha11 hF => ?_)
  rw [ha11]
  refine x_ast_r dX6_adds_42 hF (fun f12 hF => ?_)
  refine x_aload_n 1 dX6_adds_43 rfl rfl ?_
  refine x_getr_r dX6_adds_44 fl_X6_7 hF (fun v13 hF => ?_)
  refine x_iload 0 dX6_adds_47 rfl ?_
  refine x_iconst 3 (by decide) dX6_adds_49 ?_
  refine x_iadd dX6_adds_50 ?_
  refine x_iload 5 dX6_adds_51 rfl ?_
  refine x_nn hF (fun a14 ha14 hF => ?_)
  rw [ha14]
  refine x_ast_r dX6_adds_53 hF (fun f15 hF => ?_)
  refine x_aload_n 1 dX6_adds_54 rfl rfl ?_
  refine x_getr_r dX6_adds_55 fl_X6_7 hF (fun v16 hF => ?_)
  refine x_bipush 7 (by decide) dX6_adds_58 ?_
  refine x_nn hF (fun a17 ha17 hF => ?_)
  rw [ha17]
  refine x_dup2ri dX6_adds_60 ?_
  refine x_ald_r dX6_adds_61 hF (fun v18 hF => ?_)
  refine x_iconst 1 (by decide) dX6_adds_62 ?_
  refine x_iadd dX6_adds_63 ?_
  refine x_ast_r dX6_adds_64 hF (fun f19 hF => ?_)
  exact x_vret dX6_adds_65 rfl (by cases hF; rfl)
def F_X6_levelsOf_L5 (N : Nat) (f : XM) (c2 : Int32) (K : Int32 → Int32 → Option Int32) : Nat → Int32 → Int32 → Option Int32
  | 0, _, _ => none
  | k + 1, x3, x4 =>
    if x4 ≤ 1 then
      K x3 x4
    else
      (x_div ((x4 + c2) - 1) c2).bind fun v2 =>
      F_X6_levelsOf_L5 N f c2 K k (x3 + 1) v2
def F_X6_levelsOf (N : Nat) (f : XM) (this : Nat) (p0 : Int32) (p1 : Int32) : Option Int32 :=
  F_X6_levelsOf_L5 N f p1 (fun y3_3 y4_3 =>
  some y3_3) N 0 p0
set_option maxRecDepth 20000 in
set_option maxHeartbeats 4000000 in
theorem w_X6_levelsOf_L5 (N : Nat) (f : XM) (c2 : Int32) (K : Int32 → Int32 → Option Int32) (n : Nat) (r : Int32) {rc rs : Nat} : ∀ (k : Nat) (x3 : Int32) (x4 : Int32), F_X6_levelsOf_L5 N f c2 K k x3 x4 = some r → (∀ (x3 : Int32) (x4 : Int32), K x3 x4 = some r → X mX6_levelsOf 0 0 (x_end (xr_ip r (f, n))) x_noRO rc rs 27 [(2, .int c2), (3, .int x3), (4, .int x4)] [] (f, n)) → X mX6_levelsOf 0 0 (x_end (xr_ip r (f, n))) x_noRO rc rs 5 [(2, .int c2), (3, .int x3), (4, .int x4)] [] (f, n) := by
  intro k
  induction k with
  | zero =>
    intro x3 x4 hF
    exact absurd hF (by intro h9; cases h9)
  | succ k ih =>
    intro x3 x4 hF hK
    have ih := fun x3 x4 hF => ih x3 x4 hF hK
    rw [F_X6_levelsOf_L5] at hF
    refine x_iload 2 dX6_levelsOf_5 rfl ?_
    refine x_iconst 1 (by decide) dX6_levelsOf_7 ?_
    refine x_icmp_le 27 dX6_levelsOf_8 (by decide) hF (fun hF => ?_) (fun hF => ?_)
    · refine x_sub [0, 1, 2] rfl ?_
      exact hK _ _ hF
    · refine x_iload 2 dX6_levelsOf_11 rfl ?_
      refine x_iload_n 0 dX6_levelsOf_13 rfl rfl ?_
      refine x_iadd dX6_levelsOf_14 ?_
      refine x_iconst 1 (by decide) dX6_levelsOf_15 ?_
      refine x_isub dX6_levelsOf_16 ?_
      refine x_iload_n 0 dX6_levelsOf_17 rfl rfl ?_
      refine x_idiv dX6_levelsOf_18 hF (fun v2 hF => ?_)
      refine x_istore (i := 4) (lv' := [(4, .int v2), (2, .int c2), (3, .int x3)]) dX6_levelsOf_19 (by decide) rfl ?_
      refine x_iinc (x3 + 1) (lv' := [(3, .int (x3 + 1)), (4, .int v2), (2, .int c2)]) dX6_levelsOf_21 2 rfl (by rfl) (by decide) rfl ?_
      refine x_goto 5 dX6_levelsOf_24 (by decide) ?_
      refine x_sub [2, 0, 1] rfl ?_
      exact ih _ _ hF
set_option maxRecDepth 20000 in
set_option maxHeartbeats 4000000 in
theorem c_X6_levelsOf (N : Nat) (f : XM) (this : Nat) (p0 : Int32) (p1 : Int32) (n : Nat) (r : Int32) (hF : F_X6_levelsOf N f this p0 p1 = some r) : x_Ct mX6_levelsOf 0 0 0 0 [.ref this, .int p0, .int p1] (f, n) (xr_ip r (f, n)) := by
  unfold F_X6_levelsOf at hF
  refine x_ct (by decide) rfl (Nat.le_of_ble_eq_true rfl) ?_
  show X mX6_levelsOf 0 0 _ _ 0 0 0 [(0, .ref this), (1, .int p0), (2, .int p1)] [] (f, n)
  refine x_iconst 0 (by decide) dX6_levelsOf_0 ?_
  refine x_istore_n (i := 3) (lv' := [(3, .int 0), (0, .ref this), (1, .int p0), (2, .int p1)]) dX6_levelsOf_1 rfl (by decide) rfl ?_
  refine x_iload_n 2 dX6_levelsOf_2 rfl rfl ?_
  refine x_istore (i := 4) (lv' := [(4, .int p0), (3, .int 0), (0, .ref this), (1, .int p0), (2, .int p1)]) dX6_levelsOf_3 (by decide) rfl ?_
  refine x_sub [4, 1, 0] rfl ?_
  refine w_X6_levelsOf_L5 N _ _ _ _ r _ _ _ hF (fun y3_3 y4_3 hF => ?_)
  refine x_iload_n 1 dX6_levelsOf_27 rfl rfl ?_
  exact x_iret dX6_levelsOf_28 rfl (by cases hF; rfl)
def F_X6_allLevels (N : Nat) (f : XM) (this : Nat) : Option Int32 :=
  (x_getr f 6 this 0).bind fun v1 =>
  Option.bind v1 fun a2 =>
  (x_ald f a2 8).bind fun v3 =>
  (x_getr f 6 this 0).bind fun v4 =>
  Option.bind v4 fun a5 =>
  (x_ald f a5 3).bind fun v6 =>
  (x_cv f 6 this (F_X6_levelsOf N f this v3 v6)).bind fun z7 =>
  some z7
set_option maxRecDepth 20000 in
set_option maxHeartbeats 4000000 in
theorem c_X6_allLevels (N : Nat) (f : XM) (this : Nat) (n : Nat) (r : Int32) (hF : F_X6_allLevels N f this = some r) : x_Ct mX6_allLevels 1 24 0 0 [.ref this] (f, n) (xr_ip r (f, n)) := by
  unfold F_X6_allLevels at hF
  refine x_ct (by decide) rfl (Nat.le_of_ble_eq_true rfl) ?_
  show X mX6_allLevels 1 24 _ _ 0 0 0 [(0, .ref this)] [] (f, n)
  refine x_aload_n 0 dX6_allLevels_0 rfl rfl ?_
  refine x_aload_n 0 dX6_allLevels_1 rfl rfl ?_
  refine x_getr_r dX6_allLevels_2 fl_X6_7 hF (fun v1 hF => ?_)
  refine x_bipush 8 (by decide) dX6_allLevels_5 ?_
  refine x_nn hF (fun a2 ha2 hF => ?_)
  rw [ha2]
  refine x_ald_r dX6_allLevels_7 hF (fun v3 hF => ?_)
  refine x_aload_n 0 dX6_allLevels_8 rfl rfl ?_
  refine x_getr_r dX6_allLevels_9 fl_X6_7 hF (fun v4 hF => ?_)
  refine x_iconst 3 (by decide) dX6_allLevels_12 ?_
  refine x_nn hF (fun a5 ha5 hF => ?_)
  rw [ha5]
  refine x_ald_r dX6_allLevels_13 hF (fun v6 hF => ?_)
  obtain ⟨z7, hzz7, hF⟩ := x_bind hF
  obtain ⟨⟨fsz7, hbz7⟩, hzz7⟩ := x_cv_sp hzz7
  refine x_callv (As := [.int v3, .int v6]) (rest := []) 0 0 dX6_allLevels_14 mi_X6_levelsOf ml_X6_117 rfl rfl (Nat.le_of_ble_eq_true rfl) ⟨by decide, by decide⟩ (by omega) (by omega) hbz7 rfl (c_X6_levelsOf N _ _ _ _ _ _ hzz7) (x_K.some ?_) x_KX.none
  exact x_iret dX6_allLevels_17 rfl (by cases hF; rfl)
def F_X6_size (N : Nat) (f : XM) (this : Nat) (p0 : Int32) : Option Int32 :=
  (x_getr f 6 this 0).bind fun v1 =>
  Option.bind v1 fun a2 =>
  (x_ald f a2 (9 + (121 * p0))).bind fun v3 =>
  some v3
set_option maxRecDepth 20000 in
set_option maxHeartbeats 4000000 in
theorem c_X6_size (N : Nat) (f : XM) (this : Nat) (p0 : Int32) (n : Nat) (r : Int32) (hF : F_X6_size N f this p0 = some r) : x_Ct mX6_size 0 0 0 0 [.ref this, .int p0] (f, n) (xr_ip r (f, n)) := by
  unfold F_X6_size at hF
  refine x_ct (by decide) rfl (Nat.le_of_ble_eq_true rfl) ?_
  show X mX6_size 0 0 _ _ 0 0 0 [(0, .ref this), (1, .int p0)] [] (f, n)
  refine x_aload_n 0 dX6_size_0 rfl rfl ?_
  refine x_getr_r dX6_size_1 fl_X6_7 hF (fun v1 hF => ?_)
  refine x_bipush 9 (by decide) dX6_size_4 ?_
  refine x_bipush 121 (by decide) dX6_size_6 ?_
  refine x_iload_n 1 dX6_size_8 rfl rfl ?_
  refine x_imul dX6_size_9 ?_
  refine x_iadd dX6_size_10 ?_
  refine x_nn hF (fun a2 ha2 hF => ?_)
  rw [ha2]
  refine x_ald_r dX6_size_11 hF (fun v3 hF => ?_)
  exact x_iret dX6_size_12 rfl (by cases hF; rfl)
def F_X6_allTold_L4 (N : Nat) (f : XM) (c0 : Nat) (K : Int32 → Int32 → Option Int32) : Nat → Int32 → Int32 → Option Int32
  | 0, _, _ => none
  | k + 1, x1, x2 =>
    (x_getr f 6 c0 0).bind fun v2 =>
    Option.bind v2 fun a3 =>
    (x_ald f a3 6).bind fun v4 =>
    if v4 < x2 then
      K x1 x2
    else
      (x_cv f 6 c0 (F_X6_size N f c0 x2)).bind fun z5 =>
      F_X6_allTold_L4 N f c0 K k (x1 + z5) (x2 + 1)
def F_X6_allTold (N : Nat) (f : XM) (this : Nat) : Option Int32 :=
  F_X6_allTold_L4 N f this (fun y1_6 y2_6 =>
  some y1_6) N 0 0
set_option maxRecDepth 20000 in
set_option maxHeartbeats 4000000 in
theorem w_X6_allTold_L4 (N : Nat) (f : XM) (c0 : Nat) (K : Int32 → Int32 → Option Int32) (n : Nat) (r : Int32) {rc rs : Nat} : ∀ (k : Nat) (x1 : Int32) (x2 : Int32), F_X6_allTold_L4 N f c0 K k x1 x2 = some r → (∀ (x1 : Int32) (x2 : Int32), K x1 x2 = some r → X mX6_allTold 1 21 (x_end (xr_ip r (f, n))) x_noRO rc rs 29 [(0, .ref c0), (1, .int x1), (2, .int x2)] [] (f, n)) → X mX6_allTold 1 21 (x_end (xr_ip r (f, n))) x_noRO rc rs 4 [(0, .ref c0), (1, .int x1), (2, .int x2)] [] (f, n) := by
  intro k
  induction k with
  | zero =>
    intro x1 x2 hF
    exact absurd hF (by intro h9; cases h9)
  | succ k ih =>
    intro x1 x2 hF hK
    have ih := fun x1 x2 hF => ih x1 x2 hF hK
    rw [F_X6_allTold_L4] at hF
    refine x_iload_n 2 dX6_allTold_4 rfl rfl ?_
    refine x_aload_n 0 dX6_allTold_5 rfl rfl ?_
    refine x_getr_r dX6_allTold_6 fl_X6_7 hF (fun v2 hF => ?_)
    refine x_bipush 6 (by decide) dX6_allTold_9 ?_
    refine x_nn hF (fun a3 ha3 hF => ?_)
    rw [ha3]
    refine x_ald_r dX6_allTold_11 hF (fun v4 hF => ?_)
    refine x_icmp_gt 29 dX6_allTold_12 (by decide) hF (fun hF => ?_) (fun hF => ?_)
    · refine x_sub [0, 1, 2] rfl ?_
      exact hK _ _ hF
    · refine x_iload_n 1 dX6_allTold_15 rfl rfl ?_
      refine x_aload_n 0 dX6_allTold_16 rfl rfl ?_
      refine x_iload_n 2 dX6_allTold_17 rfl rfl ?_
      obtain ⟨z5, hzz5, hF⟩ := x_bind hF
      obtain ⟨⟨fsz5, hbz5⟩, hzz5⟩ := x_cv_sp hzz5
      refine x_callv (As := [.int x2]) (rest := [.int x1]) (rc + 0) (rs + 0) dX6_allTold_18 mi_X6_size ml_X6_54 rfl rfl (Nat.le_of_ble_eq_true rfl) ⟨by decide, by decide⟩ (by omega) (by omega) hbz5 rfl (c_X6_size N _ _ _ _ _ hzz5) (x_K.some ?_) x_KX.none
      refine x_iadd dX6_allTold_21 ?_
      refine x_istore_n (i := 1) (lv' := [(1, .int (x1 + z5)), (0, .ref c0), (2, .int x2)]) dX6_allTold_22 rfl (by decide) rfl ?_
      refine x_iinc (x2 + 1) (lv' := [(2, .int (x2 + 1)), (1, .int (x1 + z5)), (0, .ref c0)]) dX6_allTold_23 2 rfl (by rfl) (by decide) rfl ?_
      refine x_goto 4 dX6_allTold_26 (by decide) ?_
      refine x_sub [2, 1, 0] rfl ?_
      exact ih _ _ hF
set_option maxRecDepth 20000 in
set_option maxHeartbeats 4000000 in
theorem c_X6_allTold (N : Nat) (f : XM) (this : Nat) (n : Nat) (r : Int32) (hF : F_X6_allTold N f this = some r) : x_Ct mX6_allTold 1 21 0 0 [.ref this] (f, n) (xr_ip r (f, n)) := by
  unfold F_X6_allTold at hF
  refine x_ct (by decide) rfl (Nat.le_of_ble_eq_true rfl) ?_
  show X mX6_allTold 1 21 _ _ 0 0 0 [(0, .ref this)] [] (f, n)
  refine x_iconst 0 (by decide) dX6_allTold_0 ?_
  refine x_istore_n (i := 1) (lv' := [(1, .int 0), (0, .ref this)]) dX6_allTold_1 rfl (by decide) rfl ?_
  refine x_iconst 0 (by decide) dX6_allTold_2 ?_
  refine x_istore_n (i := 2) (lv' := [(2, .int 0), (1, .int 0), (0, .ref this)]) dX6_allTold_3 rfl (by decide) rfl ?_
  refine x_sub [2, 1, 0] rfl ?_
  refine w_X6_allTold_L4 N _ _ _ _ r _ _ _ hF (fun y1_6 y2_6 hF => ?_)
  refine x_iload_n 1 dX6_allTold_29 rfl rfl ?_
  exact x_iret dX6_allTold_30 rfl (by cases hF; rfl)
def F_X6_in (N : Nat) (f : XM) (p0 : Int32) (p1 : Int32) (p2 : Int32) : Option Bool :=
  if p0 < p1 then
    some false
  else
    if p2 < p0 then
      some false
    else
      some true
set_option maxRecDepth 20000 in
set_option maxHeartbeats 4000000 in
theorem c_X6_in (N : Nat) (f : XM) (p0 : Int32) (p1 : Int32) (p2 : Int32) (n : Nat) (r : Bool) (hF : F_X6_in N f p0 p1 p2 = some r) : x_Ct mX6_in 0 0 0 0 [.int p0, .int p1, .int p2] (f, n) (xr_zp r (f, n)) := by
  unfold F_X6_in at hF
  refine x_ct (by decide) rfl (Nat.le_of_ble_eq_true rfl) ?_
  show X mX6_in 0 0 _ _ 0 0 0 [(0, .int p0), (1, .int p1), (2, .int p2)] [] (f, n)
  refine x_iload_n 0 dX6_in_0 rfl rfl ?_
  refine x_iload_n 1 dX6_in_1 rfl rfl ?_
  refine x_icmp_lt 14 dX6_in_2 (by decide) hF (fun hF => ?_) (fun hF => ?_)
  · refine x_iconst 0 (by decide) dX6_in_14 ?_
    exact x_zret dX6_in_15 rfl (Or.inl rfl) (by cases hF; rfl)
  · refine x_iload_n 0 dX6_in_5 rfl rfl ?_
    refine x_iload_n 2 dX6_in_6 rfl rfl ?_
    refine x_icmp_gt 14 dX6_in_7 (by decide) hF (fun hF => ?_) (fun hF => ?_)
    · refine x_iconst 0 (by decide) dX6_in_14 ?_
      exact x_zret dX6_in_15 rfl (Or.inl rfl) (by cases hF; rfl)
    · refine x_iconst 1 (by decide) dX6_in_10 ?_
      refine x_goto 15 dX6_in_11 (by decide) ?_
      exact x_zret dX6_in_15 rfl (Or.inr rfl) (by cases hF; rfl)
def F_X6_append (N : Nat) (f : XM) (this : Nat) (p0 : Int32) : Option (Int32 × XM) :=
  (F_X6_in N f p0 33 126).bind fun z1 =>
  if (x_b z1) = 0 then
    (x_puti f 6 this 11 1).bind fun f21 =>
    (x_geti f21 6 this 11).bind fun v22 =>
    if v22 ≤ 0 then
      (x_getr f21 6 this 9).bind fun v23 =>
      (x_geti f21 6 this 10).bind fun v24 =>
      Option.bind v23 fun a25 =>
      (x_ast f21 a25 v24 p0).bind fun f26 =>
      (x_geti f26 6 this 10).bind fun v27 =>
      (x_puti f26 6 this 10 (v27 + 1)).bind fun f28 =>
      (x_geti f28 6 this 10).bind fun v29 =>
      some (v29, f28)
    else
      some (0, f21)
  else
    (x_geti f 6 this 10).bind fun v2 =>
    if v2 = 60 then
      (x_puti f 6 this 11 2).bind fun f12 =>
      (x_geti f12 6 this 11).bind fun v13 =>
      if v13 ≤ 0 then
        (x_getr f12 6 this 9).bind fun v14 =>
        (x_geti f12 6 this 10).bind fun v15 =>
        Option.bind v14 fun a16 =>
        (x_ast f12 a16 v15 p0).bind fun f17 =>
        (x_geti f17 6 this 10).bind fun v18 =>
        (x_puti f17 6 this 10 (v18 + 1)).bind fun f19 =>
        (x_geti f19 6 this 10).bind fun v20 =>
        some (v20, f19)
      else
        some (0, f12)
    else
      (x_puti f 6 this 11 0).bind fun f3 =>
      (x_geti f3 6 this 11).bind fun v4 =>
      if v4 ≤ 0 then
        (x_getr f3 6 this 9).bind fun v5 =>
        (x_geti f3 6 this 10).bind fun v6 =>
        Option.bind v5 fun a7 =>
        (x_ast f3 a7 v6 p0).bind fun f8 =>
        (x_geti f8 6 this 10).bind fun v9 =>
        (x_puti f8 6 this 10 (v9 + 1)).bind fun f10 =>
        (x_geti f10 6 this 10).bind fun v11 =>
        some (v11, f10)
      else
        some (0, f3)
set_option maxRecDepth 20000 in
set_option maxHeartbeats 4000000 in
theorem c_X6_append (N : Nat) (f : XM) (this : Nat) (p0 : Int32) (n : Nat) (r : (Int32 × XM)) (hF : F_X6_append N f this p0 = some r) : x_Ct mX6_append 1 22 0 0 [.ref this, .int p0] (f, n) (xr_im r n) := by
  unfold F_X6_append at hF
  refine x_ct (by decide) rfl (Nat.le_of_ble_eq_true rfl) ?_
  show X mX6_append 1 22 _ _ 0 0 0 [(0, .ref this), (1, .int p0)] [] (f, n)
  refine x_aload_n 0 dX6_append_0 rfl rfl ?_
  refine x_iload_n 1 dX6_append_1 rfl rfl ?_
  refine x_bipush 33 (by decide) dX6_append_2 ?_
  refine x_bipush 126 (by decide) dX6_append_4 ?_
  obtain ⟨z1, hzz1, hF⟩ := x_bind hF
  refine x_calls (As := [.int p0, .int 33, .int 126]) (rest := [.ref this]) 0 0 dX6_append_6 mi_X6_in rfl ml_X6_50 rfl rfl (Nat.le_of_ble_eq_true rfl) ⟨by decide, by decide⟩ (by omega) (by omega) (c_X6_in N _ _ _ _ _ _ hzz1) (x_K.some ?_) x_KX.none
  refine x_if_ne 16 dX6_append_9 (by decide) hF (fun hF => ?_) (fun hF => ?_)
  · refine x_aload_n 0 dX6_append_16 rfl rfl ?_
    refine x_geti_r dX6_append_17 fl_X6_184 hF (fun v2 hF => ?_)
    refine x_bipush 60 (by decide) dX6_append_20 ?_
    refine x_icmp_ne 29 dX6_append_22 (by decide) hF (fun hF => ?_) (fun hF => ?_)
    · refine x_iconst 0 (by decide) dX6_append_29 ?_
      refine x_puti_r dX6_append_30 fl_X6_38 (fun h9 => by cases h9) hF (fun f3 hF => ?_)
      refine x_aload_n 0 dX6_append_33 rfl rfl ?_
      refine x_geti_r dX6_append_34 fl_X6_38 hF (fun v4 hF => ?_)
      refine x_if_le 42 dX6_append_37 (by decide) hF (fun hF => ?_) (fun hF => ?_)
      · refine x_aload_n 0 dX6_append_42 rfl rfl ?_
        refine x_getr_r dX6_append_43 fl_X6_32 hF (fun v5 hF => ?_)
        refine x_aload_n 0 dX6_append_46 rfl rfl ?_
        refine x_geti_r dX6_append_47 fl_X6_184 hF (fun v6 hF => ?_)
        refine x_iload_n 1 dX6_append_50 rfl rfl ?_
        refine x_nn hF (fun a7 ha7 hF => ?_)
        rw [ha7]
        refine x_ast_r dX6_append_51 hF (fun f8 hF => ?_)
        refine x_aload_n 0 dX6_append_52 rfl rfl ?_
        refine x_dupr dX6_append_53 ?_
        refine x_geti_r dX6_append_54 fl_X6_184 hF (fun v9 hF => ?_)
        refine x_iconst 1 (by decide) dX6_append_57 ?_
        refine x_iadd dX6_append_58 ?_
        refine x_puti_r dX6_append_59 fl_X6_184 (fun h9 => by cases h9) hF (fun f10 hF => ?_)
        refine x_aload_n 0 dX6_append_62 rfl rfl ?_
        refine x_geti_r dX6_append_63 fl_X6_184 hF (fun v11 hF => ?_)
        exact x_iret dX6_append_66 rfl (by cases hF; rfl)
      · refine x_iconst 0 (by decide) dX6_append_40 ?_
        exact x_iret dX6_append_41 rfl (by cases hF; rfl)
    · refine x_iconst 2 (by decide) dX6_append_25 ?_
      refine x_goto 30 dX6_append_26 (by decide) ?_
      refine x_puti_r dX6_append_30 fl_X6_38 (fun h9 => by cases h9) hF (fun f12 hF => ?_)
      refine x_aload_n 0 dX6_append_33 rfl rfl ?_
      refine x_geti_r dX6_append_34 fl_X6_38 hF (fun v13 hF => ?_)
      refine x_if_le 42 dX6_append_37 (by decide) hF (fun hF => ?_) (fun hF => ?_)
      · refine x_aload_n 0 dX6_append_42 rfl rfl ?_
        refine x_getr_r dX6_append_43 fl_X6_32 hF (fun v14 hF => ?_)
        refine x_aload_n 0 dX6_append_46 rfl rfl ?_
        refine x_geti_r dX6_append_47 fl_X6_184 hF (fun v15 hF => ?_)
        refine x_iload_n 1 dX6_append_50 rfl rfl ?_
        refine x_nn hF (fun a16 ha16 hF => ?_)
        rw [ha16]
        refine x_ast_r dX6_append_51 hF (fun f17 hF => ?_)
        refine x_aload_n 0 dX6_append_52 rfl rfl ?_
        refine x_dupr dX6_append_53 ?_
        refine x_geti_r dX6_append_54 fl_X6_184 hF (fun v18 hF => ?_)
        refine x_iconst 1 (by decide) dX6_append_57 ?_
        refine x_iadd dX6_append_58 ?_
        refine x_puti_r dX6_append_59 fl_X6_184 (fun h9 => by cases h9) hF (fun f19 hF => ?_)
        refine x_aload_n 0 dX6_append_62 rfl rfl ?_
        refine x_geti_r dX6_append_63 fl_X6_184 hF (fun v20 hF => ?_)
        exact x_iret dX6_append_66 rfl (by cases hF; rfl)
      · refine x_iconst 0 (by decide) dX6_append_40 ?_
        exact x_iret dX6_append_41 rfl (by cases hF; rfl)
  · refine x_iconst 1 (by decide) dX6_append_12 ?_
    refine x_goto 30 dX6_append_13 (by decide) ?_
    refine x_puti_r dX6_append_30 fl_X6_38 (fun h9 => by cases h9) hF (fun f21 hF => ?_)
    refine x_aload_n 0 dX6_append_33 rfl rfl ?_
    refine x_geti_r dX6_append_34 fl_X6_38 hF (fun v22 hF => ?_)
    refine x_if_le 42 dX6_append_37 (by decide) hF (fun hF => ?_) (fun hF => ?_)
    · refine x_aload_n 0 dX6_append_42 rfl rfl ?_
      refine x_getr_r dX6_append_43 fl_X6_32 hF (fun v23 hF => ?_)
      refine x_aload_n 0 dX6_append_46 rfl rfl ?_
      refine x_geti_r dX6_append_47 fl_X6_184 hF (fun v24 hF => ?_)
      refine x_iload_n 1 dX6_append_50 rfl rfl ?_
      refine x_nn hF (fun a25 ha25 hF => ?_)
      rw [ha25]
      refine x_ast_r dX6_append_51 hF (fun f26 hF => ?_)
      refine x_aload_n 0 dX6_append_52 rfl rfl ?_
      refine x_dupr dX6_append_53 ?_
      refine x_geti_r dX6_append_54 fl_X6_184 hF (fun v27 hF => ?_)
      refine x_iconst 1 (by decide) dX6_append_57 ?_
      refine x_iadd dX6_append_58 ?_
      refine x_puti_r dX6_append_59 fl_X6_184 (fun h9 => by cases h9) hF (fun f28 hF => ?_)
      refine x_aload_n 0 dX6_append_62 rfl rfl ?_
      refine x_geti_r dX6_append_63 fl_X6_184 hF (fun v29 hF => ?_)
      exact x_iret dX6_append_66 rfl (by cases hF; rfl)
    · refine x_iconst 0 (by decide) dX6_append_40 ?_
      exact x_iret dX6_append_41 rfl (by cases hF; rfl)
def F_X6_appends (N : Nat) (f : XM) (this : Nat) (p0 : Int32) (p1 : Int32) : Option XM :=
  (x_getr f 6 this 0).bind fun v1 =>
  Option.bind v1 fun a2 =>
  (x_ald f a2 8).bind fun v3 =>
  if v3 = 0 then
    (x_getr f 6 this 0).bind fun v31 =>
    Option.bind v31 fun a32 =>
    (x_ald f a32 4).bind fun v33 =>
    if v33 = 0 then
      (x_getr f 6 this 0).bind fun v61 =>
      (x_getr f 6 this 0).bind fun v62 =>
      Option.bind v62 fun a63 =>
      (x_ald f a63 0).bind fun v64 =>
      Option.bind v61 fun a65 =>
      (x_ast f a65 2 v64).bind fun f66 =>
      (x_getr f66 6 this 0).bind fun v67 =>
      (x_getr f66 6 this 0).bind fun v68 =>
      Option.bind v68 fun a69 =>
      (x_ald f66 a69 1).bind fun v70 =>
      Option.bind v67 fun a71 =>
      (x_ast f66 a71 3 v70).bind fun f72 =>
      (x_getr f72 6 this 0).bind fun v73 =>
      (x_getr f72 6 this 0).bind fun v74 =>
      Option.bind v74 fun a75 =>
      (x_ald f72 a75 8).bind fun v76 =>
      (x_getr f72 6 this 0).bind fun v77 =>
      Option.bind v77 fun a78 =>
      (x_ald f72 a78 8).bind fun v79 =>
      if v79 = 0 then
        Option.bind v73 fun a90 =>
        (x_ast f72 a90 (1496 + v76) 0).bind fun f91 =>
        (x_getr f91 6 this 0).bind fun v92 =>
        Option.bind v92 fun a93 =>
        (x_ald f91 a93 8).bind fun v94 =>
        (x_cv f91 6 this (F_X6_adds N f91 this p0 p1 v94 0)).bind fun z95 =>
        (x_getr z95 6 this 0).bind fun v96 =>
        Option.bind v96 fun a97 =>
        (x_ald z95 a97 8).bind fun v98 =>
        (x_ast z95 a97 8 (v98 + 1)).bind fun f99 =>
        some f99
      else
        Option.bind v73 fun a80 =>
        (x_ast f72 a80 (1496 + v76) p0).bind fun f81 =>
        (x_getr f81 6 this 0).bind fun v82 =>
        Option.bind v82 fun a83 =>
        (x_ald f81 a83 8).bind fun v84 =>
        (x_cv f81 6 this (F_X6_adds N f81 this p0 p1 v84 0)).bind fun z85 =>
        (x_getr z85 6 this 0).bind fun v86 =>
        Option.bind v86 fun a87 =>
        (x_ald z85 a87 8).bind fun v88 =>
        (x_ast z85 a87 8 (v88 + 1)).bind fun f89 =>
        some f89
    else
      (x_getr f 6 this 0).bind fun v34 =>
      (x_getr f 6 this 0).bind fun v35 =>
      Option.bind v35 fun a36 =>
      (x_ald f a36 8).bind fun v37 =>
      (x_getr f 6 this 0).bind fun v38 =>
      Option.bind v38 fun a39 =>
      (x_ald f a39 8).bind fun v40 =>
      if v40 = 0 then
        Option.bind v34 fun a51 =>
        (x_ast f a51 (1496 + v37) 0).bind fun f52 =>
        (x_getr f52 6 this 0).bind fun v53 =>
        Option.bind v53 fun a54 =>
        (x_ald f52 a54 8).bind fun v55 =>
        (x_cv f52 6 this (F_X6_adds N f52 this p0 p1 v55 0)).bind fun z56 =>
        (x_getr z56 6 this 0).bind fun v57 =>
        Option.bind v57 fun a58 =>
        (x_ald z56 a58 8).bind fun v59 =>
        (x_ast z56 a58 8 (v59 + 1)).bind fun f60 =>
        some f60
      else
        Option.bind v34 fun a41 =>
        (x_ast f a41 (1496 + v37) p0).bind fun f42 =>
        (x_getr f42 6 this 0).bind fun v43 =>
        Option.bind v43 fun a44 =>
        (x_ald f42 a44 8).bind fun v45 =>
        (x_cv f42 6 this (F_X6_adds N f42 this p0 p1 v45 0)).bind fun z46 =>
        (x_getr z46 6 this 0).bind fun v47 =>
        Option.bind v47 fun a48 =>
        (x_ald z46 a48 8).bind fun v49 =>
        (x_ast z46 a48 8 (v49 + 1)).bind fun f50 =>
        some f50
  else
    (x_getr f 6 this 0).bind fun v4 =>
    (x_getr f 6 this 0).bind fun v5 =>
    Option.bind v5 fun a6 =>
    (x_ald f a6 8).bind fun v7 =>
    (x_getr f 6 this 0).bind fun v8 =>
    Option.bind v8 fun a9 =>
    (x_ald f a9 8).bind fun v10 =>
    if v10 = 0 then
      Option.bind v4 fun a21 =>
      (x_ast f a21 (1496 + v7) 0).bind fun f22 =>
      (x_getr f22 6 this 0).bind fun v23 =>
      Option.bind v23 fun a24 =>
      (x_ald f22 a24 8).bind fun v25 =>
      (x_cv f22 6 this (F_X6_adds N f22 this p0 p1 v25 0)).bind fun z26 =>
      (x_getr z26 6 this 0).bind fun v27 =>
      Option.bind v27 fun a28 =>
      (x_ald z26 a28 8).bind fun v29 =>
      (x_ast z26 a28 8 (v29 + 1)).bind fun f30 =>
      some f30
    else
      Option.bind v4 fun a11 =>
      (x_ast f a11 (1496 + v7) p0).bind fun f12 =>
      (x_getr f12 6 this 0).bind fun v13 =>
      Option.bind v13 fun a14 =>
      (x_ald f12 a14 8).bind fun v15 =>
      (x_cv f12 6 this (F_X6_adds N f12 this p0 p1 v15 0)).bind fun z16 =>
      (x_getr z16 6 this 0).bind fun v17 =>
      Option.bind v17 fun a18 =>
      (x_ald z16 a18 8).bind fun v19 =>
      (x_ast z16 a18 8 (v19 + 1)).bind fun f20 =>
      some f20
set_option maxRecDepth 20000 in
set_option maxHeartbeats 4000000 in
theorem c_X6_appends (N : Nat) (f : XM) (this : Nat) (p0 : Int32) (p1 : Int32) (n : Nat) (r : XM) (hF : F_X6_appends N f this p0 p1 = some r) : x_Ct mX6_appends 1 25 0 0 [.ref this, .int p0, .int p1] (f, n) (xr_vm r n) := by
  unfold F_X6_appends at hF
  refine x_ct (by decide) rfl (Nat.le_of_ble_eq_true rfl) ?_
  show X mX6_appends 1 25 _ _ 0 0 0 [(0, .ref this), (1, .int p0), (2, .int p1)] [] (f, n)
  refine x_aload_n 0 dX6_appends_0 rfl rfl ?_
  refine x_getr_r dX6_appends_1 fl_X6_7 hF (fun v1 hF => ?_)
  refine x_bipush 8 (by decide) dX6_appends_4 ?_
  refine x_nn hF (fun a2 ha2 hF => ?_)
  rw [ha2]
  refine x_ald_r dX6_appends_6 hF (fun v3 hF => ?_)
  refine x_if_ne 43 dX6_appends_7 (by decide) hF (fun hF => ?_) (fun hF => ?_)
  · refine x_aload_n 0 dX6_appends_43 rfl rfl ?_
    refine x_getr_r dX6_appends_44 fl_X6_7 hF (fun v4 hF => ?_)
    refine x_sipush 1496 (by decide) dX6_appends_47 ?_
    refine x_aload_n 0 dX6_appends_50 rfl rfl ?_
    refine x_getr_r dX6_appends_51 fl_X6_7 hF (fun v5 hF => ?_)
    refine x_bipush 8 (by decide) dX6_appends_54 ?_
    refine x_nn hF (fun a6 ha6 hF => ?_)
    rw [ha6]
    refine x_ald_r dX6_appends_56 hF (fun v7 hF => ?_)
    refine x_iadd dX6_appends_57 ?_
    refine x_aload_n 0 dX6_appends_58 rfl rfl ?_
    refine x_getr_r dX6_appends_59 fl_X6_7 hF (fun v8 hF => ?_)
    refine x_bipush 8 (by decide) dX6_appends_62 ?_
    refine x_nn hF (fun a9 ha9 hF => ?_)
    rw [ha9]
    refine x_ald_r dX6_appends_64 hF (fun v10 hF => ?_)
    refine x_if_ne 72 dX6_appends_65 (by decide) hF (fun hF => ?_) (fun hF => ?_)
    · refine x_iload_n 1 dX6_appends_72 rfl rfl ?_
      refine x_nn hF (fun a11 ha11 hF => ?_)
      rw [ha11]
      refine x_ast_r dX6_appends_73 hF (fun f12 hF => ?_)
      refine x_aload_n 0 dX6_appends_74 rfl rfl ?_
      refine x_iload_n 1 dX6_appends_75 rfl rfl ?_
      refine x_iload_n 2 dX6_appends_76 rfl rfl ?_
      refine x_aload_n 0 dX6_appends_77 rfl rfl ?_
      refine x_getr_r dX6_appends_78 fl_X6_7 hF (fun v13 hF => ?_)
      refine x_bipush 8 (by decide) dX6_appends_81 ?_
      refine x_nn hF (fun a14 ha14 hF => ?_)
      rw [ha14]
      refine x_ald_r dX6_appends_83 hF (fun v15 hF => ?_)
      refine x_iconst 0 (by decide) dX6_appends_84 ?_
      obtain ⟨z16, hzz16, hF⟩ := x_bind hF
      obtain ⟨⟨fsz16, hbz16⟩, hzz16⟩ := x_cv_sp hzz16
      refine x_callv (As := [.int p0, .int p1, .int v15, .int 0]) (rest := []) 0 0 dX6_appends_85 mi_X6_adds ml_X6_81 rfl rfl (Nat.le_of_ble_eq_true rfl) ⟨by decide, by decide⟩ (by omega) (by omega) hbz16 rfl (c_X6_adds N _ _ _ _ _ _ _ _ hzz16) (x_K.none ?_) x_KX.none
      refine x_aload_n 0 dX6_appends_88 rfl rfl ?_
      refine x_getr_r dX6_appends_89 fl_X6_7 hF (fun v17 hF => ?_)
      refine x_bipush 8 (by decide) dX6_appends_92 ?_
      refine x_nn hF (fun a18 ha18 hF => ?_)
      rw [ha18]
      refine x_dup2ri dX6_appends_94 ?_
      refine x_ald_r dX6_appends_95 hF (fun v19 hF => ?_)
      refine x_iconst 1 (by decide) dX6_appends_96 ?_
      refine x_iadd dX6_appends_97 ?_
      refine x_ast_r dX6_appends_98 hF (fun f20 hF => ?_)
      exact x_vret dX6_appends_99 rfl (by cases hF; rfl)
    · refine x_iconst 0 (by decide) dX6_appends_68 ?_
      refine x_goto 73 dX6_appends_69 (by decide) ?_
      refine x_nn hF (fun a21 ha21 hF => ?_)
      rw [ha21]
      refine x_ast_r dX6_appends_73 hF (fun f22 hF => ?_)
      refine x_aload_n 0 dX6_appends_74 rfl rfl ?_
      refine x_iload_n 1 dX6_appends_75 rfl rfl ?_
      refine x_iload_n 2 dX6_appends_76 rfl rfl ?_
      refine x_aload_n 0 dX6_appends_77 rfl rfl ?_
      refine x_getr_r dX6_appends_78 fl_X6_7 hF (fun v23 hF => ?_)
      refine x_bipush 8 (by decide) dX6_appends_81 ?_
      refine x_nn hF (fun a24 ha24 hF => ?_)
      rw [ha24]
      refine x_ald_r dX6_appends_83 hF (fun v25 hF => ?_)
      refine x_iconst 0 (by decide) dX6_appends_84 ?_
      obtain ⟨z26, hzz26, hF⟩ := x_bind hF
      obtain ⟨⟨fsz26, hbz26⟩, hzz26⟩ := x_cv_sp hzz26
      refine x_callv (As := [.int p0, .int p1, .int v25, .int 0]) (rest := []) 0 0 dX6_appends_85 mi_X6_adds ml_X6_81 rfl rfl (Nat.le_of_ble_eq_true rfl) ⟨by decide, by decide⟩ (by omega) (by omega) hbz26 rfl (c_X6_adds N _ _ _ _ _ _ _ _ hzz26) (x_K.none ?_) x_KX.none
      refine x_aload_n 0 dX6_appends_88 rfl rfl ?_
      refine x_getr_r dX6_appends_89 fl_X6_7 hF (fun v27 hF => ?_)
      refine x_bipush 8 (by decide) dX6_appends_92 ?_
      refine x_nn hF (fun a28 ha28 hF => ?_)
      rw [ha28]
      refine x_dup2ri dX6_appends_94 ?_
      refine x_ald_r dX6_appends_95 hF (fun v29 hF => ?_)
      refine x_iconst 1 (by decide) dX6_appends_96 ?_
      refine x_iadd dX6_appends_97 ?_
      refine x_ast_r dX6_appends_98 hF (fun f30 hF => ?_)
      exact x_vret dX6_appends_99 rfl (by cases hF; rfl)
  · refine x_aload_n 0 dX6_appends_10 rfl rfl ?_
    refine x_getr_r dX6_appends_11 fl_X6_7 hF (fun v31 hF => ?_)
    refine x_iconst 4 (by decide) dX6_appends_14 ?_
    refine x_nn hF (fun a32 ha32 hF => ?_)
    rw [ha32]
    refine x_ald_r dX6_appends_15 hF (fun v33 hF => ?_)
    refine x_if_ne 43 dX6_appends_16 (by decide) hF (fun hF => ?_) (fun hF => ?_)
    · refine x_aload_n 0 dX6_appends_43 rfl rfl ?_
      refine x_getr_r dX6_appends_44 fl_X6_7 hF (fun v34 hF => ?_)
      refine x_sipush 1496 (by decide) dX6_appends_47 ?_
      refine x_aload_n 0 dX6_appends_50 rfl rfl ?_
      refine x_getr_r dX6_appends_51 fl_X6_7 hF (fun v35 hF => ?_)
      refine x_bipush 8 (by decide) dX6_appends_54 ?_
      refine x_nn hF (fun a36 ha36 hF => ?_)
      rw [ha36]
      refine x_ald_r dX6_appends_56 hF (fun v37 hF => ?_)
      refine x_iadd dX6_appends_57 ?_
      refine x_aload_n 0 dX6_appends_58 rfl rfl ?_
      refine x_getr_r dX6_appends_59 fl_X6_7 hF (fun v38 hF => ?_)
      refine x_bipush 8 (by decide) dX6_appends_62 ?_
      refine x_nn hF (fun a39 ha39 hF => ?_)
      rw [ha39]
      refine x_ald_r dX6_appends_64 hF (fun v40 hF => ?_)
      refine x_if_ne 72 dX6_appends_65 (by decide) hF (fun hF => ?_) (fun hF => ?_)
      · refine x_iload_n 1 dX6_appends_72 rfl rfl ?_
        refine x_nn hF (fun a41 ha41 hF => ?_)
        rw [ha41]
        refine x_ast_r dX6_appends_73 hF (fun f42 hF => ?_)
        refine x_aload_n 0 dX6_appends_74 rfl rfl ?_
        refine x_iload_n 1 dX6_appends_75 rfl rfl ?_
        refine x_iload_n 2 dX6_appends_76 rfl rfl ?_
        refine x_aload_n 0 dX6_appends_77 rfl rfl ?_
        refine x_getr_r dX6_appends_78 fl_X6_7 hF (fun v43 hF => ?_)
        refine x_bipush 8 (by decide) dX6_appends_81 ?_
        refine x_nn hF (fun a44 ha44 hF => ?_)
        rw [ha44]
        refine x_ald_r dX6_appends_83 hF (fun v45 hF => ?_)
        refine x_iconst 0 (by decide) dX6_appends_84 ?_
        obtain ⟨z46, hzz46, hF⟩ := x_bind hF
        obtain ⟨⟨fsz46, hbz46⟩, hzz46⟩ := x_cv_sp hzz46
        refine x_callv (As := [.int p0, .int p1, .int v45, .int 0]) (rest := []) 0 0 dX6_appends_85 mi_X6_adds ml_X6_81 rfl rfl (Nat.le_of_ble_eq_true rfl) ⟨by decide, by decide⟩ (by omega) (by omega) hbz46 rfl (c_X6_adds N _ _ _ _ _ _ _ _ hzz46) (x_K.none ?_) x_KX.none
        refine x_aload_n 0 dX6_appends_88 rfl rfl ?_
        refine x_getr_r dX6_appends_89 fl_X6_7 hF (fun v47 hF => ?_)
        refine x_bipush 8 (by decide) dX6_appends_92 ?_
        refine x_nn hF (fun a48 ha48 hF => ?_)
        rw [ha48]
        refine x_dup2ri dX6_appends_94 ?_
        refine x_ald_r dX6_appends_95 hF (fun v49 hF => ?_)
        refine x_iconst 1 (by decide) dX6_appends_96 ?_
        refine x_iadd dX6_appends_97 ?_
        refine x_ast_r dX6_appends_98 hF (fun f50 hF => ?_)
        exact x_vret dX6_appends_99 rfl (by cases hF; rfl)
      · refine x_iconst 0 (by decide) dX6_appends_68 ?_
        refine x_goto 73 dX6_appends_69 (by decide) ?_
        refine x_nn hF (fun a51 ha51 hF => ?_)
        rw [ha51]
        refine x_ast_r dX6_appends_73 hF (fun f52 hF => ?_)
        refine x_aload_n 0 dX6_appends_74 rfl rfl ?_
        refine x_iload_n 1 dX6_appends_75 rfl rfl ?_
        refine x_iload_n 2 dX6_appends_76 rfl rfl ?_
        refine x_aload_n 0 dX6_appends_77 rfl rfl ?_
        refine x_getr_r dX6_appends_78 fl_X6_7 hF (fun v53 hF => ?_)
        refine x_bipush 8 (by decide) dX6_appends_81 ?_
        refine x_nn hF (fun a54 ha54 hF => ?_)
        rw [ha54]
        refine x_ald_r dX6_appends_83 hF (fun v55 hF => ?_)
        refine x_iconst 0 (by decide) dX6_appends_84 ?_
        obtain ⟨z56, hzz56, hF⟩ := x_bind hF
        obtain ⟨⟨fsz56, hbz56⟩, hzz56⟩ := x_cv_sp hzz56
        refine x_callv (As := [.int p0, .int p1, .int v55, .int 0]) (rest := []) 0 0 dX6_appends_85 mi_X6_adds ml_X6_81 rfl rfl (Nat.le_of_ble_eq_true rfl) ⟨by decide, by decide⟩ (by omega) (by omega) hbz56 rfl (c_X6_adds N _ _ _ _ _ _ _ _ hzz56) (x_K.none ?_) x_KX.none
        refine x_aload_n 0 dX6_appends_88 rfl rfl ?_
        refine x_getr_r dX6_appends_89 fl_X6_7 hF (fun v57 hF => ?_)
        refine x_bipush 8 (by decide) dX6_appends_92 ?_
        refine x_nn hF (fun a58 ha58 hF => ?_)
        rw [ha58]
        refine x_dup2ri dX6_appends_94 ?_
        refine x_ald_r dX6_appends_95 hF (fun v59 hF => ?_)
        refine x_iconst 1 (by decide) dX6_appends_96 ?_
        refine x_iadd dX6_appends_97 ?_
        refine x_ast_r dX6_appends_98 hF (fun f60 hF => ?_)
        exact x_vret dX6_appends_99 rfl (by cases hF; rfl)
    · refine x_aload_n 0 dX6_appends_19 rfl rfl ?_
      refine x_getr_r dX6_appends_20 fl_X6_7 hF (fun v61 hF => ?_)
      refine x_iconst 2 (by decide) dX6_appends_23 ?_
      refine x_aload_n 0 dX6_appends_24 rfl rfl ?_
      refine x_getr_r dX6_appends_25 fl_X6_7 hF (fun v62 hF => ?_)
      refine x_iconst 0 (by decide) dX6_appends_28 ?_
      refine x_nn hF (fun a63 ha63 hF => ?_)
      rw [ha63]
      refine x_ald_r dX6_appends_29 hF (fun v64 hF => ?_)
      refine x_nn hF (fun a65 ha65 hF => ?_)
      rw [ha65]
      refine x_ast_r dX6_appends_30 hF (fun f66 hF => ?_)
      refine x_aload_n 0 dX6_appends_31 rfl rfl ?_
      refine x_getr_r dX6_appends_32 fl_X6_7 hF (fun v67 hF => ?_)
      refine x_iconst 3 (by decide) dX6_appends_35 ?_
      refine x_aload_n 0 dX6_appends_36 rfl rfl ?_
      refine x_getr_r dX6_appends_37 fl_X6_7 hF (fun v68 hF => ?_)
      refine x_iconst 1 (by decide) dX6_appends_40 ?_
      refine x_nn hF (fun a69 ha69 hF => ?_)
      rw [ha69]
      refine x_ald_r dX6_appends_41 hF (fun v70 hF => ?_)
      refine x_nn hF (fun a71 ha71 hF => ?_)
      rw [ha71]
      refine x_ast_r dX6_appends_42 hF (fun f72 hF => ?_)
      refine x_aload_n 0 dX6_appends_43 rfl rfl ?_
      refine x_getr_r dX6_appends_44 fl_X6_7 hF (fun v73 hF => ?_)
      refine x_sipush 1496 (by decide) dX6_appends_47 ?_
      refine x_aload_n 0 dX6_appends_50 rfl rfl ?_
      refine x_getr_r dX6_appends_51 fl_X6_7 hF (fun v74 hF => ?_)
      refine x_bipush 8 (by decide) dX6_appends_54 ?_
      refine x_nn hF (fun a75 ha75 hF => ?_)
      rw [ha75]
      refine x_ald_r dX6_appends_56 hF (fun v76 hF => ?_)
      refine x_iadd dX6_appends_57 ?_
      refine x_aload_n 0 dX6_appends_58 rfl rfl ?_
      refine x_getr_r dX6_appends_59 fl_X6_7 hF (fun v77 hF => ?_)
      refine x_bipush 8 (by decide) dX6_appends_62 ?_
      refine x_nn hF (fun a78 ha78 hF => ?_)
      rw [ha78]
      refine x_ald_r dX6_appends_64 hF (fun v79 hF => ?_)
      refine x_if_ne 72 dX6_appends_65 (by decide) hF (fun hF => ?_) (fun hF => ?_)
      · refine x_iload_n 1 dX6_appends_72 rfl rfl ?_
        refine x_nn hF (fun a80 ha80 hF => ?_)
        rw [ha80]
        refine x_ast_r dX6_appends_73 hF (fun f81 hF => ?_)
        refine x_aload_n 0 dX6_appends_74 rfl rfl ?_
        refine x_iload_n 1 dX6_appends_75 rfl rfl ?_
        refine x_iload_n 2 dX6_appends_76 rfl rfl ?_
        refine x_aload_n 0 dX6_appends_77 rfl rfl ?_
        refine x_getr_r dX6_appends_78 fl_X6_7 hF (fun v82 hF => ?_)
        refine x_bipush 8 (by decide) dX6_appends_81 ?_
        refine x_nn hF (fun a83 ha83 hF => ?_)
        rw [ha83]
        refine x_ald_r dX6_appends_83 hF (fun v84 hF => ?_)
        refine x_iconst 0 (by decide) dX6_appends_84 ?_
        obtain ⟨z85, hzz85, hF⟩ := x_bind hF
        obtain ⟨⟨fsz85, hbz85⟩, hzz85⟩ := x_cv_sp hzz85
        refine x_callv (As := [.int p0, .int p1, .int v84, .int 0]) (rest := []) 0 0 dX6_appends_85 mi_X6_adds ml_X6_81 rfl rfl (Nat.le_of_ble_eq_true rfl) ⟨by decide, by decide⟩ (by omega) (by omega) hbz85 rfl (c_X6_adds N _ _ _ _ _ _ _ _ hzz85) (x_K.none ?_) x_KX.none
        refine x_aload_n 0 dX6_appends_88 rfl rfl ?_
        refine x_getr_r dX6_appends_89 fl_X6_7 hF (fun v86 hF => ?_)
        refine x_bipush 8 (by decide) dX6_appends_92 ?_
        refine x_nn hF (fun a87 ha87 hF => ?_)
        rw [ha87]
        refine x_dup2ri dX6_appends_94 ?_
        refine x_ald_r dX6_appends_95 hF (fun v88 hF => ?_)
        refine x_iconst 1 (by decide) dX6_appends_96 ?_
        refine x_iadd dX6_appends_97 ?_
        refine x_ast_r dX6_appends_98 hF (fun f89 hF => ?_)
        exact x_vret dX6_appends_99 rfl (by cases hF; rfl)
      · refine x_iconst 0 (by decide) dX6_appends_68 ?_
        refine x_goto 73 dX6_appends_69 (by decide) ?_
        refine x_nn hF (fun a90 ha90 hF => ?_)
        rw [ha90]
        refine x_ast_r dX6_appends_73 hF (fun f91 hF => ?_)
        refine x_aload_n 0 dX6_appends_74 rfl rfl ?_
        refine x_iload_n 1 dX6_appends_75 rfl rfl ?_
        refine x_iload_n 2 dX6_appends_76 rfl rfl ?_
        refine x_aload_n 0 dX6_appends_77 rfl rfl ?_
        refine x_getr_r dX6_appends_78 fl_X6_7 hF (fun v92 hF => ?_)
        refine x_bipush 8 (by decide) dX6_appends_81 ?_
        refine x_nn hF (fun a93 ha93 hF => ?_)
        rw [ha93]
        refine x_ald_r dX6_appends_83 hF (fun v94 hF => ?_)
        refine x_iconst 0 (by decide) dX6_appends_84 ?_
        obtain ⟨z95, hzz95, hF⟩ := x_bind hF
        obtain ⟨⟨fsz95, hbz95⟩, hzz95⟩ := x_cv_sp hzz95
        refine x_callv (As := [.int p0, .int p1, .int v94, .int 0]) (rest := []) 0 0 dX6_appends_85 mi_X6_adds ml_X6_81 rfl rfl (Nat.le_of_ble_eq_true rfl) ⟨by decide, by decide⟩ (by omega) (by omega) hbz95 rfl (c_X6_adds N _ _ _ _ _ _ _ _ hzz95) (x_K.none ?_) x_KX.none
        refine x_aload_n 0 dX6_appends_88 rfl rfl ?_
        refine x_getr_r dX6_appends_89 fl_X6_7 hF (fun v96 hF => ?_)
        refine x_bipush 8 (by decide) dX6_appends_92 ?_
        refine x_nn hF (fun a97 ha97 hF => ?_)
        rw [ha97]
        refine x_dup2ri dX6_appends_94 ?_
        refine x_ald_r dX6_appends_95 hF (fun v98 hF => ?_)
        refine x_iconst 1 (by decide) dX6_appends_96 ?_
        refine x_iadd dX6_appends_97 ?_
        refine x_ast_r dX6_appends_98 hF (fun f99 hF => ?_)
        exact x_vret dX6_appends_99 rfl (by cases hF; rfl)
def F_X6_lays_L3 (N : Nat) (c0 : Nat) (c1 : Int32) (c2 : Nat) (c3 : Int32) (K : Int32 → XM → Option XM) : Nat → Int32 → XM → Option XM
  | 0, _, _ => none
  | k + 1, x4, f =>
    if 6696 ≤ x4 then
      K x4 f
    else
      (x_ald f c0 (c1 + x4)).bind fun v2 =>
      (x_ast f c2 (c3 + x4) v2).bind fun f3 =>
      F_X6_lays_L3 N c0 c1 c2 c3 K k (x4 + 1) f3
def F_X6_lays (N : Nat) (f : XM) (p0 : Nat) (p1 : Int32) (p2 : Nat) (p3 : Int32) : Option XM :=
  F_X6_lays_L3 N p0 p1 p2 p3 (fun y4_4 g4 =>
  some g4) N 0 f
set_option maxRecDepth 20000 in
set_option maxHeartbeats 4000000 in
theorem w_X6_lays_L3 (N : Nat) (c0 : Nat) (c1 : Int32) (c2 : Nat) (c3 : Int32) (K : Int32 → XM → Option XM) (n : Nat) (r : XM) {rc rs : Nat} : ∀ (k : Nat) (x4 : Int32) (f : XM), F_X6_lays_L3 N c0 c1 c2 c3 K k x4 f = some r → (∀ (x4 : Int32) (f : XM), K x4 f = some r → X mX6_lays 0 0 (x_end (xr_vm r n)) x_noRO rc rs 29 [(0, .ref c0), (1, .int c1), (2, .ref c2), (3, .int c3), (4, .int x4)] [] (f, n)) → X mX6_lays 0 0 (x_end (xr_vm r n)) x_noRO rc rs 3 [(0, .ref c0), (1, .int c1), (2, .ref c2), (3, .int c3), (4, .int x4)] [] (f, n) := by
  intro k
  induction k with
  | zero =>
    intro x4 f hF
    exact absurd hF (by intro h9; cases h9)
  | succ k ih =>
    intro x4 f hF hK
    have ih := fun x4 f hF => ih x4 f hF hK
    rw [F_X6_lays_L3] at hF
    refine x_iload 4 dX6_lays_3 rfl ?_
    refine x_sipush 6696 (by decide) dX6_lays_5 ?_
    refine x_icmp_ge 29 dX6_lays_8 (by decide) hF (fun hF => ?_) (fun hF => ?_)
    · refine x_sub [0, 1, 2, 3, 4] rfl ?_
      exact hK _ _ hF
    · refine x_aload_n 2 dX6_lays_11 rfl rfl ?_
      refine x_iload_n 3 dX6_lays_12 rfl rfl ?_
      refine x_iload 4 dX6_lays_13 rfl ?_
      refine x_iadd dX6_lays_15 ?_
      refine x_aload_n 0 dX6_lays_16 rfl rfl ?_
      refine x_iload_n 1 dX6_lays_17 rfl rfl ?_
      refine x_iload 4 dX6_lays_18 rfl ?_
      refine x_iadd dX6_lays_20 ?_
      refine x_ald_r dX6_lays_21 hF (fun v2 hF => ?_)
      refine x_ast_r dX6_lays_22 hF (fun f3 hF => ?_)
      refine x_iinc (x4 + 1) (lv' := [(4, .int (x4 + 1)), (0, .ref c0), (1, .int c1), (2, .ref c2), (3, .int c3)]) dX6_lays_23 4 rfl (by rfl) (by decide) rfl ?_
      refine x_goto 3 dX6_lays_26 (by decide) ?_
      refine x_sub [1, 2, 3, 4, 0] rfl ?_
      exact ih _ _ hF
set_option maxRecDepth 20000 in
set_option maxHeartbeats 4000000 in
theorem c_X6_lays (N : Nat) (f : XM) (p0 : Nat) (p1 : Int32) (p2 : Nat) (p3 : Int32) (n : Nat) (r : XM) (hF : F_X6_lays N f p0 p1 p2 p3 = some r) : x_Ct mX6_lays 0 0 0 0 [.ref p0, .int p1, .ref p2, .int p3] (f, n) (xr_vm r n) := by
  unfold F_X6_lays at hF
  refine x_ct (by decide) rfl (Nat.le_of_ble_eq_true rfl) ?_
  show X mX6_lays 0 0 _ _ 0 0 0 [(0, .ref p0), (1, .int p1), (2, .ref p2), (3, .int p3)] [] (f, n)
  refine x_iconst 0 (by decide) dX6_lays_0 ?_
  refine x_istore (i := 4) (lv' := [(4, .int 0), (0, .ref p0), (1, .int p1), (2, .ref p2), (3, .int p3)]) dX6_lays_1 (by decide) rfl ?_
  refine x_sub [1, 2, 3, 4, 0] rfl ?_
  refine w_X6_lays_L3 N _ _ _ _ _ _ r _ _ _ hF (fun y4_4 g4 hF => ?_)
  exact x_vret dX6_lays_29 rfl (by cases hF; rfl)
def F_X6_saves_L11 (N : Nat) (c0 : Nat) (c1 : Nat) (K : Int32 → XM → Option XM) : Nat → Int32 → XM → Option XM
  | 0, _, _ => none
  | k + 1, x2, f =>
    if 33480 ≤ x2 then
      K x2 f
    else
      (x_getr f 6 c0 1).bind fun v9 =>
      (x_getr f 6 c0 1).bind fun v10 =>
      Option.bind v10 fun a11 =>
      (x_ald f a11 (x2 + 6696)).bind fun v12 =>
      Option.bind v9 fun a13 =>
      (x_ast f a13 x2 v12).bind fun f14 =>
      F_X6_saves_L11 N c0 c1 K k (x2 + 1) f14
def F_X6_saves (N : Nat) (f : XM) (this : Nat) (p0 : Nat) : Option XM :=
  (x_geti f 6 this 2).bind fun v1 =>
  if v1 = 6 then
    F_X6_saves_L11 N this p0 (fun y2_15 g15 =>
    (x_geti g15 6 this 2).bind fun v16 =>
    (x_puti g15 6 this 2 (v16 - 1)).bind fun f17 =>
    (x_getr f17 6 this 1).bind fun v18 =>
    (x_geti f17 6 this 2).bind fun v19 =>
    Option.bind v18 fun a20 =>
    (F_X6_lays N f17 p0 0 a20 (6696 * v19)).bind fun z21 =>
    (x_geti z21 6 this 2).bind fun v22 =>
    (x_puti z21 6 this 2 (v22 + 1)).bind fun f23 =>
    some f23) N 0 f
  else
    (x_getr f 6 this 1).bind fun v2 =>
    (x_geti f 6 this 2).bind fun v3 =>
    Option.bind v2 fun a4 =>
    (F_X6_lays N f p0 0 a4 (6696 * v3)).bind fun z5 =>
    (x_geti z5 6 this 2).bind fun v6 =>
    (x_puti z5 6 this 2 (v6 + 1)).bind fun f7 =>
    some f7
set_option maxRecDepth 20000 in
set_option maxHeartbeats 4000000 in
theorem w_X6_saves_L11 (N : Nat) (c0 : Nat) (c1 : Nat) (K : Int32 → XM → Option XM) (n : Nat) (r : XM) {rc rs : Nat} : ∀ (k : Nat) (x2 : Int32) (f : XM), F_X6_saves_L11 N c0 c1 K k x2 f = some r → (∀ (x2 : Int32) (f : XM), K x2 f = some r → X mX6_saves 1 24 (x_end (xr_vm r n)) x_noRO rc rs 39 [(0, .ref c0), (1, .ref c1), (2, .int x2)] [] (f, n)) → X mX6_saves 1 24 (x_end (xr_vm r n)) x_noRO rc rs 11 [(0, .ref c0), (1, .ref c1), (2, .int x2)] [] (f, n) := by
  intro k
  induction k with
  | zero =>
    intro x2 f hF
    exact absurd hF (by intro h9; cases h9)
  | succ k ih =>
    intro x2 f hF hK
    have ih := fun x2 f hF => ih x2 f hF hK
    rw [F_X6_saves_L11] at hF
    refine x_iload_n 2 dX6_saves_11 rfl rfl ?_
    refine x_ldc kc_X6_45 dX6_saves_12 ?_
    refine x_icmp_ge 39 dX6_saves_14 (by decide) hF (fun hF => ?_) (fun hF => ?_)
    · refine x_sub [0, 1, 2] rfl ?_
      exact hK _ _ hF
    · refine x_aload_n 0 dX6_saves_17 rfl rfl ?_
      refine x_getr_r dX6_saves_18 fl_X6_14 hF (fun v9 hF => ?_)
      refine x_iload_n 2 dX6_saves_21 rfl rfl ?_
      refine x_aload_n 0 dX6_saves_22 rfl rfl ?_
      refine x_getr_r dX6_saves_23 fl_X6_14 hF (fun v10 hF => ?_)
      refine x_iload_n 2 dX6_saves_26 rfl rfl ?_
      refine x_sipush 6696 (by decide) dX6_saves_27 ?_
      refine x_iadd dX6_saves_30 ?_
      refine x_nn hF (fun a11 ha11 hF => ?_)
      rw [ha11]
      refine x_ald_r dX6_saves_31 hF (fun v12 hF => ?_)
      refine x_nn hF (fun a13 ha13 hF => ?_)
      rw [ha13]
      refine x_ast_r dX6_saves_32 hF (fun f14 hF => ?_)
      refine x_iinc (x2 + 1) (lv' := [(2, .int (x2 + 1)), (0, .ref c0), (1, .ref c1)]) dX6_saves_33 2 rfl (by rfl) (by decide) rfl ?_
      refine x_goto 11 dX6_saves_36 (by decide) ?_
      refine x_sub [1, 2, 0] rfl ?_
      exact ih _ _ hF
set_option maxRecDepth 20000 in
set_option maxHeartbeats 4000000 in
theorem c_X6_saves (N : Nat) (f : XM) (this : Nat) (p0 : Nat) (n : Nat) (r : XM) (hF : F_X6_saves N f this p0 = some r) : x_Ct mX6_saves 1 24 0 0 [.ref this, .ref p0] (f, n) (xr_vm r n) := by
  unfold F_X6_saves at hF
  refine x_ct (by decide) rfl (Nat.le_of_ble_eq_true rfl) ?_
  show X mX6_saves 1 24 _ _ 0 0 0 [(0, .ref this), (1, .ref p0)] [] (f, n)
  refine x_aload_n 0 dX6_saves_0 rfl rfl ?_
  refine x_geti_r dX6_saves_1 fl_X6_42 hF (fun v1 hF => ?_)
  refine x_bipush 6 (by decide) dX6_saves_4 ?_
  refine x_icmp_ne 49 dX6_saves_6 (by decide) hF (fun hF => ?_) (fun hF => ?_)
  · refine x_aload_n 1 dX6_saves_49 rfl rfl ?_
    refine x_iconst 0 (by decide) dX6_saves_50 ?_
    refine x_aload_n 0 dX6_saves_51 rfl rfl ?_
    refine x_getr_r dX6_saves_52 fl_X6_14 hF (fun v2 hF => ?_)
    refine x_sipush 6696 (by decide) dX6_saves_55 ?_
    refine x_aload_n 0 dX6_saves_58 rfl rfl ?_
    refine x_geti_r dX6_saves_59 fl_X6_42 hF (fun v3 hF => ?_)
    refine x_imul dX6_saves_62 ?_
    refine x_nn hF (fun a4 ha4 hF => ?_)
    rw [ha4]
    obtain ⟨z5, hzz5, hF⟩ := x_bind hF
    refine x_calls (As := [.ref p0, .int 0, .ref a4, .int (6696 * v3)]) (rest := []) 0 0 dX6_saves_63 mi_X6_lays rfl ml_X6_46 rfl rfl (Nat.le_of_ble_eq_true rfl) ⟨by decide, by decide⟩ (by omega) (by omega) (c_X6_lays N _ _ _ _ _ _ _ hzz5) (x_K.none ?_) x_KX.none
    refine x_aload_n 0 dX6_saves_66 rfl rfl ?_
    refine x_dupr dX6_saves_67 ?_
    refine x_geti_r dX6_saves_68 fl_X6_42 hF (fun v6 hF => ?_)
    refine x_iconst 1 (by decide) dX6_saves_71 ?_
    refine x_iadd dX6_saves_72 ?_
    refine x_puti_r dX6_saves_73 fl_X6_42 (fun h9 => by cases h9) hF (fun f7 hF => ?_)
    exact x_vret dX6_saves_76 rfl (by cases hF; rfl)
  · refine x_iconst 0 (by decide) dX6_saves_9 ?_
    refine x_istore_n (i := 2) (lv' := [(2, .int 0), (0, .ref this), (1, .ref p0)]) dX6_saves_10 rfl (by decide) rfl ?_
    refine x_sub [1, 2, 0] rfl ?_
    refine w_X6_saves_L11 N _ _ _ _ r _ _ _ hF (fun y2_15 g15 hF => ?_)
    refine x_aload_n 0 dX6_saves_39 rfl rfl ?_
    refine x_dupr dX6_saves_40 ?_
    refine x_geti_r dX6_saves_41 fl_X6_42 hF (fun v16 hF => ?_)
    refine x_iconst 1 (by decide) dX6_saves_44 ?_
    refine x_isub dX6_saves_45 ?_
    refine x_puti_r dX6_saves_46 fl_X6_42 (fun h9 => by cases h9) hF (fun f17 hF => ?_)
    refine x_aload_n 1 dX6_saves_49 rfl rfl ?_
    refine x_iconst 0 (by decide) dX6_saves_50 ?_
    refine x_aload_n 0 dX6_saves_51 rfl rfl ?_
    refine x_getr_r dX6_saves_52 fl_X6_14 hF (fun v18 hF => ?_)
    refine x_sipush 6696 (by decide) dX6_saves_55 ?_
    refine x_aload_n 0 dX6_saves_58 rfl rfl ?_
    refine x_geti_r dX6_saves_59 fl_X6_42 hF (fun v19 hF => ?_)
    refine x_imul dX6_saves_62 ?_
    refine x_nn hF (fun a20 ha20 hF => ?_)
    rw [ha20]
    obtain ⟨z21, hzz21, hF⟩ := x_bind hF
    refine x_calls (As := [.ref p0, .int 0, .ref a20, .int (6696 * v19)]) (rest := []) 0 0 dX6_saves_63 mi_X6_lays rfl ml_X6_46 rfl rfl (Nat.le_of_ble_eq_true rfl) ⟨by decide, by decide⟩ (by omega) (by omega) (c_X6_lays N _ _ _ _ _ _ _ hzz21) (x_K.none ?_) x_KX.none
    refine x_aload_n 0 dX6_saves_66 rfl rfl ?_
    refine x_dupr dX6_saves_67 ?_
    refine x_geti_r dX6_saves_68 fl_X6_42 hF (fun v22 hF => ?_)
    refine x_iconst 1 (by decide) dX6_saves_71 ?_
    refine x_iadd dX6_saves_72 ?_
    refine x_puti_r dX6_saves_73 fl_X6_42 (fun h9 => by cases h9) hF (fun f23 hF => ?_)
    exact x_vret dX6_saves_76 rfl (by cases hF; rfl)
def F_X6_becomes (N : Nat) (f : XM) (this : Nat) (p0 : Int32) (p1 : Int32) (p2 : Int32) : Option (Int32 × XM) :=
  (F_X6_in N f p1 2 p2).bind fun z1 =>
  if (x_b z1) = 0 then
    (x_puti f 6 this 11 1).bind fun f2 =>
    (x_geti f2 6 this 11).bind fun v3 =>
    if v3 ≤ 0 then
      (x_getr f2 6 this 0).bind fun v4 =>
      Option.bind v4 fun a5 =>
      (x_cv f2 6 this (F_X6_saves N f2 this a5)).bind fun z6 =>
      (x_getr z6 6 this 0).bind fun v7 =>
      Option.bind v7 fun a8 =>
      (x_ald z6 a8 p0).bind fun v9 =>
      (x_getr z6 6 this 0).bind fun v10 =>
      Option.bind v10 fun a11 =>
      (x_ast z6 a11 p0 p1).bind fun f12 =>
      some (v9, f12)
    else
      some (0, f2)
  else
    (x_puti f 6 this 11 0).bind fun f13 =>
    (x_geti f13 6 this 11).bind fun v14 =>
    if v14 ≤ 0 then
      (x_getr f13 6 this 0).bind fun v15 =>
      Option.bind v15 fun a16 =>
      (x_cv f13 6 this (F_X6_saves N f13 this a16)).bind fun z17 =>
      (x_getr z17 6 this 0).bind fun v18 =>
      Option.bind v18 fun a19 =>
      (x_ald z17 a19 p0).bind fun v20 =>
      (x_getr z17 6 this 0).bind fun v21 =>
      Option.bind v21 fun a22 =>
      (x_ast z17 a22 p0 p1).bind fun f23 =>
      some (v20, f23)
    else
      some (0, f13)
set_option maxRecDepth 20000 in
set_option maxHeartbeats 4000000 in
theorem c_X6_becomes (N : Nat) (f : XM) (this : Nat) (p0 : Int32) (p1 : Int32) (p2 : Int32) (n : Nat) (r : (Int32 × XM)) (hF : F_X6_becomes N f this p0 p1 p2 = some r) : x_Ct mX6_becomes 2 46 0 0 [.ref this, .int p0, .int p1, .int p2] (f, n) (xr_im r n) := by
  unfold F_X6_becomes at hF
  refine x_ct (by decide) rfl (Nat.le_of_ble_eq_true rfl) ?_
  show X mX6_becomes 2 46 _ _ 0 0 0 [(0, .ref this), (1, .int p0), (2, .int p1), (3, .int p2)] [] (f, n)
  refine x_aload_n 0 dX6_becomes_0 rfl rfl ?_
  refine x_iload_n 2 dX6_becomes_1 rfl rfl ?_
  refine x_iconst 2 (by decide) dX6_becomes_2 ?_
  refine x_iload_n 3 dX6_becomes_3 rfl rfl ?_
  obtain ⟨z1, hzz1, hF⟩ := x_bind hF
  refine x_calls (As := [.int p1, .int 2, .int p2]) (rest := [.ref this]) 0 0 dX6_becomes_4 mi_X6_in rfl ml_X6_50 rfl rfl (Nat.le_of_ble_eq_true rfl) ⟨by decide, by decide⟩ (by omega) (by omega) (c_X6_in N _ _ _ _ _ _ hzz1) (x_K.some ?_) x_KX.none
  refine x_if_eq 14 dX6_becomes_7 (by decide) hF (fun hF => ?_) (fun hF => ?_)
  · refine x_iconst 1 (by decide) dX6_becomes_14 ?_
    refine x_puti_r dX6_becomes_15 fl_X6_38 (fun h9 => by cases h9) hF (fun f2 hF => ?_)
    refine x_aload_n 0 dX6_becomes_18 rfl rfl ?_
    refine x_geti_r dX6_becomes_19 fl_X6_38 hF (fun v3 hF => ?_)
    refine x_if_le 27 dX6_becomes_22 (by decide) hF (fun hF => ?_) (fun hF => ?_)
    · refine x_aload_n 0 dX6_becomes_27 rfl rfl ?_
      refine x_aload_n 0 dX6_becomes_28 rfl rfl ?_
      refine x_getr_r dX6_becomes_29 fl_X6_7 hF (fun v4 hF => ?_)
      refine x_nn hF (fun a5 ha5 hF => ?_)
      rw [ha5]
      obtain ⟨z6, hzz6, hF⟩ := x_bind hF
      obtain ⟨⟨fsz6, hbz6⟩, hzz6⟩ := x_cv_sp hzz6
      refine x_callv (As := [.ref a5]) (rest := []) 0 0 dX6_becomes_32 mi_X6_saves ml_X6_139 rfl rfl (Nat.le_of_ble_eq_true rfl) ⟨by decide, by decide⟩ (by omega) (by omega) hbz6 rfl (c_X6_saves N _ _ _ _ _ hzz6) (x_K.none ?_) x_KX.none
      refine x_aload_n 0 dX6_becomes_35 rfl rfl ?_
      refine x_getr_r dX6_becomes_36 fl_X6_7 hF (fun v7 hF => ?_)
      refine x_iload_n 1 dX6_becomes_39 rfl rfl ?_
      refine x_nn hF (fun a8 ha8 hF => ?_)
      rw [ha8]
      refine x_ald_r dX6_becomes_40 hF (fun v9 hF => ?_)
      refine x_istore (i := 4) (lv' := [(4, .int v9), (0, .ref this), (1, .int p0), (2, .int p1), (3, .int p2)]) dX6_becomes_41 (by decide) rfl ?_
      refine x_aload_n 1 dX6_becomes_43 rfl rfl ?_
      refine x_getr_r dX6_becomes_44 fl_X6_7 hF (fun v10 hF => ?_)
      refine x_iload_n 2 dX6_becomes_47 rfl rfl ?_
      refine x_iload_n 3 dX6_becomes_48 rfl rfl ?_
      refine x_nn hF (fun a11 ha11 hF => ?_)
      rw [ha11]
      refine x_ast_r dX6_becomes_49 hF (fun f12 hF => ?_)
      refine x_iload 0 dX6_becomes_50 rfl ?_
      exact x_iret dX6_becomes_52 rfl (by cases hF; rfl)
    · refine x_iconst 0 (by decide) dX6_becomes_25 ?_
      exact x_iret dX6_becomes_26 rfl (by cases hF; rfl)
  · refine x_iconst 0 (by decide) dX6_becomes_10 ?_
    refine x_goto 15 dX6_becomes_11 (by decide) ?_
    refine x_puti_r dX6_becomes_15 fl_X6_38 (fun h9 => by cases h9) hF (fun f13 hF => ?_)
    refine x_aload_n 0 dX6_becomes_18 rfl rfl ?_
    refine x_geti_r dX6_becomes_19 fl_X6_38 hF (fun v14 hF => ?_)
    refine x_if_le 27 dX6_becomes_22 (by decide) hF (fun hF => ?_) (fun hF => ?_)
    · refine x_aload_n 0 dX6_becomes_27 rfl rfl ?_
      refine x_aload_n 0 dX6_becomes_28 rfl rfl ?_
      refine x_getr_r dX6_becomes_29 fl_X6_7 hF (fun v15 hF => ?_)
      refine x_nn hF (fun a16 ha16 hF => ?_)
      rw [ha16]
      obtain ⟨z17, hzz17, hF⟩ := x_bind hF
      obtain ⟨⟨fsz17, hbz17⟩, hzz17⟩ := x_cv_sp hzz17
      refine x_callv (As := [.ref a16]) (rest := []) 0 0 dX6_becomes_32 mi_X6_saves ml_X6_139 rfl rfl (Nat.le_of_ble_eq_true rfl) ⟨by decide, by decide⟩ (by omega) (by omega) hbz17 rfl (c_X6_saves N _ _ _ _ _ hzz17) (x_K.none ?_) x_KX.none
      refine x_aload_n 0 dX6_becomes_35 rfl rfl ?_
      refine x_getr_r dX6_becomes_36 fl_X6_7 hF (fun v18 hF => ?_)
      refine x_iload_n 1 dX6_becomes_39 rfl rfl ?_
      refine x_nn hF (fun a19 ha19 hF => ?_)
      rw [ha19]
      refine x_ald_r dX6_becomes_40 hF (fun v20 hF => ?_)
      refine x_istore (i := 4) (lv' := [(4, .int v20), (0, .ref this), (1, .int p0), (2, .int p1), (3, .int p2)]) dX6_becomes_41 (by decide) rfl ?_
      refine x_aload_n 1 dX6_becomes_43 rfl rfl ?_
      refine x_getr_r dX6_becomes_44 fl_X6_7 hF (fun v21 hF => ?_)
      refine x_iload_n 2 dX6_becomes_47 rfl rfl ?_
      refine x_iload_n 3 dX6_becomes_48 rfl rfl ?_
      refine x_nn hF (fun a22 ha22 hF => ?_)
      rw [ha22]
      refine x_ast_r dX6_becomes_49 hF (fun f23 hF => ?_)
      refine x_iload 0 dX6_becomes_50 rfl ?_
      exact x_iret dX6_becomes_52 rfl (by cases hF; rfl)
    · refine x_iconst 0 (by decide) dX6_becomes_25 ?_
      exact x_iret dX6_becomes_26 rfl (by cases hF; rfl)
def F_X6_key (N : Nat) (f : XM) (this : Nat) (p0 : Int32) (p1 : Int32) : Option Int32 :=
  (x_getr f 6 this 0).bind fun v1 =>
  Option.bind v1 fun a2 =>
  (x_ald f a2 (((9 + (121 * p0)) + 1) + (2 * p1))).bind fun v3 =>
  some v3
set_option maxRecDepth 20000 in
set_option maxHeartbeats 4000000 in
theorem c_X6_key (N : Nat) (f : XM) (this : Nat) (p0 : Int32) (p1 : Int32) (n : Nat) (r : Int32) (hF : F_X6_key N f this p0 p1 = some r) : x_Ct mX6_key 0 0 0 0 [.ref this, .int p0, .int p1] (f, n) (xr_ip r (f, n)) := by
  unfold F_X6_key at hF
  refine x_ct (by decide) rfl (Nat.le_of_ble_eq_true rfl) ?_
  show X mX6_key 0 0 _ _ 0 0 0 [(0, .ref this), (1, .int p0), (2, .int p1)] [] (f, n)
  refine x_aload_n 0 dX6_key_0 rfl rfl ?_
  refine x_getr_r dX6_key_1 fl_X6_7 hF (fun v1 hF => ?_)
  refine x_bipush 9 (by decide) dX6_key_4 ?_
  refine x_bipush 121 (by decide) dX6_key_6 ?_
  refine x_iload_n 1 dX6_key_8 rfl rfl ?_
  refine x_imul dX6_key_9 ?_
  refine x_iadd dX6_key_10 ?_
  refine x_iconst 1 (by decide) dX6_key_11 ?_
  refine x_iadd dX6_key_12 ?_
  refine x_iconst 2 (by decide) dX6_key_13 ?_
  refine x_iload_n 2 dX6_key_14 rfl rfl ?_
  refine x_imul dX6_key_15 ?_
  refine x_iadd dX6_key_16 ?_
  refine x_nn hF (fun a2 ha2 hF => ?_)
  rw [ha2]
  refine x_ald_r dX6_key_17 hF (fun v3 hF => ?_)
  exact x_iret dX6_key_18 rfl (by cases hF; rfl)
def F_X6_entry (N : Nat) (f : XM) (this : Nat) (p0 : Int32) (p1 : Int32) : Option Int32 :=
  (x_getr f 6 this 0).bind fun v1 =>
  Option.bind v1 fun a2 =>
  (x_ald f a2 ((856 + (4 * p0)) + p1)).bind fun v3 =>
  some v3
set_option maxRecDepth 20000 in
set_option maxHeartbeats 4000000 in
theorem c_X6_entry (N : Nat) (f : XM) (this : Nat) (p0 : Int32) (p1 : Int32) (n : Nat) (r : Int32) (hF : F_X6_entry N f this p0 p1 = some r) : x_Ct mX6_entry 0 0 0 0 [.ref this, .int p0, .int p1] (f, n) (xr_ip r (f, n)) := by
  unfold F_X6_entry at hF
  refine x_ct (by decide) rfl (Nat.le_of_ble_eq_true rfl) ?_
  show X mX6_entry 0 0 _ _ 0 0 0 [(0, .ref this), (1, .int p0), (2, .int p1)] [] (f, n)
  refine x_aload_n 0 dX6_entry_0 rfl rfl ?_
  refine x_getr_r dX6_entry_1 fl_X6_7 hF (fun v1 hF => ?_)
  refine x_sipush 856 (by decide) dX6_entry_4 ?_
  refine x_iconst 4 (by decide) dX6_entry_7 ?_
  refine x_iload_n 1 dX6_entry_8 rfl rfl ?_
  refine x_imul dX6_entry_9 ?_
  refine x_iadd dX6_entry_10 ?_
  refine x_iload_n 2 dX6_entry_11 rfl rfl ?_
  refine x_iadd dX6_entry_12 ?_
  refine x_nn hF (fun a2 ha2 hF => ?_)
  rw [ha2]
  refine x_ald_r dX6_entry_13 hF (fun v3 hF => ?_)
  exact x_iret dX6_entry_14 rfl (by cases hF; rfl)
def F_X6_nextTold_L20 (N : Nat) (f : XM) (c0 : Nat) (c1 : Int32) (c4 : Int32) (K : Int32 → Int32 → Option Int32) : Nat → Int32 → Int32 → Option Int32
  | 0, _, _ => none
  | k + 1, x3, x5 =>
    (x_cv f 6 c0 (F_X6_size N f c0 c4)).bind fun z6 =>
    if z6 ≤ x5 then
      K x3 x5
    else
      (x_cv f 6 c0 (F_X6_key N f c0 c4 x5)).bind fun z7 =>
      if z7 ≤ c1 then
        F_X6_nextTold_L20 N f c0 c1 c4 K k x3 (x5 + 1)
      else
        (x_cv f 6 c0 (F_X6_key N f c0 c4 x5)).bind fun z8 =>
        if x3 ≤ z8 then
          F_X6_nextTold_L20 N f c0 c1 c4 K k x3 (x5 + 1)
        else
          (x_cv f 6 c0 (F_X6_key N f c0 c4 x5)).bind fun z9 =>
          F_X6_nextTold_L20 N f c0 c1 c4 K k z9 (x5 + 1)
def F_X6_nextTold_L5 (N : Nat) (f : XM) (c0 : Nat) (c1 : Int32) (K : Int32 → Int32 → Option Int32) : Nat → Int32 → Int32 → Option Int32
  | 0, _, _ => none
  | k + 1, x3, x4 =>
    (x_getr f 6 c0 0).bind fun v2 =>
    Option.bind v2 fun a3 =>
    (x_ald f a3 6).bind fun v4 =>
    if v4 < x4 then
      K x3 x4
    else
      F_X6_nextTold_L20 N f c0 c1 x4 (fun y3_10 y5_10 =>
      F_X6_nextTold_L5 N f c0 c1 K k y3_10 (x4 + 1)) N x3 0
def F_X6_nextTold_L83 (N : Nat) (f : XM) (c0 : Nat) (c1 : Int32) (K : Int32 → Int32 → Option Int32) : Nat → Int32 → Int32 → Option Int32
  | 0, _, _ => none
  | k + 1, x3, x4 =>
    (x_getr f 6 c0 0).bind fun v13 =>
    Option.bind v13 fun a14 =>
    (x_ald f a14 7).bind fun v15 =>
    if v15 ≤ x4 then
      K x3 x4
    else
      (x_cv f 6 c0 (F_X6_entry N f c0 x4 0)).bind fun z16 =>
      if z16 ≤ c1 then
        F_X6_nextTold_L83 N f c0 c1 K k x3 (x4 + 1)
      else
        (x_cv f 6 c0 (F_X6_entry N f c0 x4 0)).bind fun z17 =>
        if x3 ≤ z17 then
          F_X6_nextTold_L83 N f c0 c1 K k x3 (x4 + 1)
        else
          (x_cv f 6 c0 (F_X6_entry N f c0 x4 0)).bind fun z18 =>
          F_X6_nextTold_L83 N f c0 c1 K k z18 (x4 + 1)
def F_X6_nextTold (N : Nat) (f : XM) (this : Nat) (p0 : Int32) (p1 : Int32) : Option Int32 :=
  F_X6_nextTold_L5 N f this p0 (fun y3_11 y4_11 =>
  F_X6_nextTold_L83 N f this p0 (fun y3_19 y4_19 =>
  some y3_19) N y3_11 0) N p1 0
set_option maxRecDepth 20000 in
set_option maxHeartbeats 4000000 in
theorem w_X6_nextTold_L20 (N : Nat) (f : XM) (c0 : Nat) (c1 : Int32) (c4 : Int32) (K : Int32 → Int32 → Option Int32) (n : Nat) (r : Int32) {rc rs : Nat} : ∀ (k : Nat) (x3 : Int32) (x5 : Int32), F_X6_nextTold_L20 N f c0 c1 c4 K k x3 x5 = some r → (∀ (x3 : Int32) (x5 : Int32), K x3 x5 = some r → X mX6_nextTold 1 22 (x_end (xr_ip r (f, n))) x_noRO rc rs 74 [(0, .ref c0), (1, .int c1), (3, .int x3), (4, .int c4), (5, .int x5)] [] (f, n)) → X mX6_nextTold 1 22 (x_end (xr_ip r (f, n))) x_noRO rc rs 20 [(0, .ref c0), (1, .int c1), (3, .int x3), (4, .int c4), (5, .int x5)] [] (f, n) := by
  intro k
  induction k with
  | zero =>
    intro x3 x5 hF
    exact absurd hF (by intro h9; cases h9)
  | succ k ih =>
    intro x3 x5 hF hK
    have ih := fun x3 x5 hF => ih x3 x5 hF hK
    rw [F_X6_nextTold_L20] at hF
    refine x_iload 4 dX6_nextTold_20 rfl ?_
    refine x_aload_n 0 dX6_nextTold_22 rfl rfl ?_
    refine x_iload 3 dX6_nextTold_23 rfl ?_
    obtain ⟨z6, hzz6, hF⟩ := x_bind hF
    obtain ⟨⟨fsz6, hbz6⟩, hzz6⟩ := x_cv_sp hzz6
    refine x_callv (As := [.int c4]) (rest := [.int x5]) (rc + 0) (rs + 0) dX6_nextTold_25 mi_X6_size ml_X6_54 rfl rfl (Nat.le_of_ble_eq_true rfl) ⟨by decide, by decide⟩ (by omega) (by omega) hbz6 rfl (c_X6_size N _ _ _ _ _ hzz6) (x_K.some ?_) x_KX.none
    refine x_icmp_ge 74 dX6_nextTold_28 (by decide) hF (fun hF => ?_) (fun hF => ?_)
    · refine x_sub [0, 1, 2, 3, 4] rfl ?_
      exact hK _ _ hF
    · refine x_aload_n 0 dX6_nextTold_31 rfl rfl ?_
      refine x_iload 3 dX6_nextTold_32 rfl ?_
      refine x_iload 4 dX6_nextTold_34 rfl ?_
      obtain ⟨z7, hzz7, hF⟩ := x_bind hF
      obtain ⟨⟨fsz7, hbz7⟩, hzz7⟩ := x_cv_sp hzz7
      refine x_callv (As := [.int c4, .int x5]) (rest := []) (rc + 0) (rs + 0) dX6_nextTold_36 mi_X6_key ml_X6_58 rfl rfl (Nat.le_of_ble_eq_true rfl) ⟨by decide, by decide⟩ (by omega) (by omega) hbz7 rfl (c_X6_key N _ _ _ _ _ _ hzz7) (x_K.some ?_) x_KX.none
      refine x_iload_n 1 dX6_nextTold_39 rfl rfl ?_
      refine x_icmp_le 66 dX6_nextTold_40 (by decide) hF (fun hF => ?_) (fun hF => ?_)
      · refine x_iload_n 2 dX6_nextTold_66 rfl rfl ?_
        refine x_istore_n (i := 3) (lv' := [(3, .int x3), (0, .ref c0), (1, .int c1), (4, .int c4), (5, .int x5)]) dX6_nextTold_67 rfl (by decide) rfl ?_
        refine x_iinc (x5 + 1) (lv' := [(5, .int (x5 + 1)), (3, .int x3), (0, .ref c0), (1, .int c1), (4, .int c4)]) dX6_nextTold_68 4 rfl (by rfl) (by decide) rfl ?_
        refine x_goto 20 dX6_nextTold_71 (by decide) ?_
        refine x_sub [2, 3, 1, 4, 0] rfl ?_
        exact ih _ _ hF
      · refine x_aload_n 0 dX6_nextTold_43 rfl rfl ?_
        refine x_iload 3 dX6_nextTold_44 rfl ?_
        refine x_iload 4 dX6_nextTold_46 rfl ?_
        obtain ⟨z8, hzz8, hF⟩ := x_bind hF
        obtain ⟨⟨fsz8, hbz8⟩, hzz8⟩ := x_cv_sp hzz8
        refine x_callv (As := [.int c4, .int x5]) (rest := []) (rc + 0) (rs + 0) dX6_nextTold_48 mi_X6_key ml_X6_58 rfl rfl (Nat.le_of_ble_eq_true rfl) ⟨by decide, by decide⟩ (by omega) (by omega) hbz8 rfl (c_X6_key N _ _ _ _ _ _ hzz8) (x_K.some ?_) x_KX.none
        refine x_iload_n 2 dX6_nextTold_51 rfl rfl ?_
        refine x_icmp_ge 66 dX6_nextTold_52 (by decide) hF (fun hF => ?_) (fun hF => ?_)
        · refine x_iload_n 2 dX6_nextTold_66 rfl rfl ?_
          refine x_istore_n (i := 3) (lv' := [(3, .int x3), (0, .ref c0), (1, .int c1), (4, .int c4), (5, .int x5)]) dX6_nextTold_67 rfl (by decide) rfl ?_
          refine x_iinc (x5 + 1) (lv' := [(5, .int (x5 + 1)), (3, .int x3), (0, .ref c0), (1, .int c1), (4, .int c4)]) dX6_nextTold_68 4 rfl (by rfl) (by decide) rfl ?_
          refine x_goto 20 dX6_nextTold_71 (by decide) ?_
          refine x_sub [2, 3, 1, 4, 0] rfl ?_
          exact ih _ _ hF
        · refine x_aload_n 0 dX6_nextTold_55 rfl rfl ?_
          refine x_iload 3 dX6_nextTold_56 rfl ?_
          refine x_iload 4 dX6_nextTold_58 rfl ?_
          obtain ⟨z9, hzz9, hF⟩ := x_bind hF
          obtain ⟨⟨fsz9, hbz9⟩, hzz9⟩ := x_cv_sp hzz9
          refine x_callv (As := [.int c4, .int x5]) (rest := []) (rc + 0) (rs + 0) dX6_nextTold_60 mi_X6_key ml_X6_58 rfl rfl (Nat.le_of_ble_eq_true rfl) ⟨by decide, by decide⟩ (by omega) (by omega) hbz9 rfl (c_X6_key N _ _ _ _ _ _ hzz9) (x_K.some ?_) x_KX.none
          refine x_goto 67 dX6_nextTold_63 (by decide) ?_
          refine x_istore_n (i := 3) (lv' := [(3, .int z9), (0, .ref c0), (1, .int c1), (4, .int c4), (5, .int x5)]) dX6_nextTold_67 rfl (by decide) rfl ?_
          refine x_iinc (x5 + 1) (lv' := [(5, .int (x5 + 1)), (3, .int z9), (0, .ref c0), (1, .int c1), (4, .int c4)]) dX6_nextTold_68 4 rfl (by rfl) (by decide) rfl ?_
          refine x_goto 20 dX6_nextTold_71 (by decide) ?_
          refine x_sub [2, 3, 1, 4, 0] rfl ?_
          exact ih _ _ hF
set_option maxRecDepth 20000 in
set_option maxHeartbeats 4000000 in
theorem w_X6_nextTold_L5 (N : Nat) (f : XM) (c0 : Nat) (c1 : Int32) (K : Int32 → Int32 → Option Int32) (n : Nat) (r : Int32) {rc rs : Nat} : ∀ (k : Nat) (x3 : Int32) (x4 : Int32), F_X6_nextTold_L5 N f c0 c1 K k x3 x4 = some r → (∀ (x3 : Int32) (x4 : Int32), K x3 x4 = some r → X mX6_nextTold 1 22 (x_end (xr_ip r (f, n))) x_noRO rc rs 80 [(0, .ref c0), (1, .int c1), (3, .int x3), (4, .int x4)] [] (f, n)) → X mX6_nextTold 1 22 (x_end (xr_ip r (f, n))) x_noRO rc rs 5 [(0, .ref c0), (1, .int c1), (3, .int x3), (4, .int x4)] [] (f, n) := by
  intro k
  induction k with
  | zero =>
    intro x3 x4 hF
    exact absurd hF (by intro h9; cases h9)
  | succ k ih =>
    intro x3 x4 hF hK
    have ih := fun x3 x4 hF => ih x3 x4 hF hK
    rw [F_X6_nextTold_L5] at hF
    refine x_iload 3 dX6_nextTold_5 rfl ?_
    refine x_aload_n 0 dX6_nextTold_7 rfl rfl ?_
    refine x_getr_r dX6_nextTold_8 fl_X6_7 hF (fun v2 hF => ?_)
    refine x_bipush 6 (by decide) dX6_nextTold_11 ?_
    refine x_nn hF (fun a3 ha3 hF => ?_)
    rw [ha3]
    refine x_ald_r dX6_nextTold_13 hF (fun v4 hF => ?_)
    refine x_icmp_gt 80 dX6_nextTold_14 (by decide) hF (fun hF => ?_) (fun hF => ?_)
    · refine x_sub [0, 1, 2, 3] rfl ?_
      exact hK _ _ hF
    · refine x_iconst 0 (by decide) dX6_nextTold_17 ?_
      refine x_istore (i := 5) (lv' := [(5, .int 0), (0, .ref c0), (1, .int c1), (3, .int x3), (4, .int x4)]) dX6_nextTold_18 (by decide) rfl ?_
      refine x_sub [1, 2, 3, 4, 0] rfl ?_
      refine w_X6_nextTold_L20 N _ _ _ _ _ _ r _ _ _ hF (fun y3_10 y5_10 hF => ?_)
      refine x_iinc (x4 + 1) (lv' := [(4, .int (x4 + 1)), (0, .ref c0), (1, .int c1), (3, .int y3_10), (5, .int y5_10)]) dX6_nextTold_74 3 rfl (by rfl) (by decide) rfl ?_
      refine x_goto 5 dX6_nextTold_77 (by decide) ?_
      refine x_sub [1, 2, 3, 0] rfl ?_
      exact ih _ _ hF
set_option maxRecDepth 20000 in
set_option maxHeartbeats 4000000 in
theorem w_X6_nextTold_L83 (N : Nat) (f : XM) (c0 : Nat) (c1 : Int32) (K : Int32 → Int32 → Option Int32) (n : Nat) (r : Int32) {rc rs : Nat} : ∀ (k : Nat) (x3 : Int32) (x4 : Int32), F_X6_nextTold_L83 N f c0 c1 K k x3 x4 = some r → (∀ (x3 : Int32) (x4 : Int32), K x3 x4 = some r → X mX6_nextTold 1 22 (x_end (xr_ip r (f, n))) x_noRO rc rs 135 [(0, .ref c0), (1, .int c1), (3, .int x3), (4, .int x4)] [] (f, n)) → X mX6_nextTold 1 22 (x_end (xr_ip r (f, n))) x_noRO rc rs 83 [(0, .ref c0), (1, .int c1), (3, .int x3), (4, .int x4)] [] (f, n) := by
  intro k
  induction k with
  | zero =>
    intro x3 x4 hF
    exact absurd hF (by intro h9; cases h9)
  | succ k ih =>
    intro x3 x4 hF hK
    have ih := fun x3 x4 hF => ih x3 x4 hF hK
    rw [F_X6_nextTold_L83] at hF
    refine x_iload 3 dX6_nextTold_83 rfl ?_
    refine x_aload_n 0 dX6_nextTold_85 rfl rfl ?_
    refine x_getr_r dX6_nextTold_86 fl_X6_7 hF (fun v13 hF => ?_)
    refine x_bipush 7 (by decide) dX6_nextTold_89 ?_
    refine x_nn hF (fun a14 ha14 hF => ?_)
    rw [ha14]
    refine x_ald_r dX6_nextTold_91 hF (fun v15 hF => ?_)
    refine x_icmp_ge 135 dX6_nextTold_92 (by decide) hF (fun hF => ?_) (fun hF => ?_)
    · refine x_sub [0, 1, 2, 3] rfl ?_
      exact hK _ _ hF
    · refine x_aload_n 0 dX6_nextTold_95 rfl rfl ?_
      refine x_iload 3 dX6_nextTold_96 rfl ?_
      refine x_iconst 0 (by decide) dX6_nextTold_98 ?_
      obtain ⟨z16, hzz16, hF⟩ := x_bind hF
      obtain ⟨⟨fsz16, hbz16⟩, hzz16⟩ := x_cv_sp hzz16
      refine x_callv (As := [.int x4, .int 0]) (rest := []) (rc + 0) (rs + 0) dX6_nextTold_99 mi_X6_entry ml_X6_72 rfl rfl (Nat.le_of_ble_eq_true rfl) ⟨by decide, by decide⟩ (by omega) (by omega) hbz16 rfl (c_X6_entry N _ _ _ _ _ _ hzz16) (x_K.some ?_) x_KX.none
      refine x_iload_n 1 dX6_nextTold_102 rfl rfl ?_
      refine x_icmp_le 127 dX6_nextTold_103 (by decide) hF (fun hF => ?_) (fun hF => ?_)
      · refine x_iload_n 2 dX6_nextTold_127 rfl rfl ?_
        refine x_istore_n (i := 3) (lv' := [(3, .int x3), (0, .ref c0), (1, .int c1), (4, .int x4)]) dX6_nextTold_128 rfl (by decide) rfl ?_
        refine x_iinc (x4 + 1) (lv' := [(4, .int (x4 + 1)), (3, .int x3), (0, .ref c0), (1, .int c1)]) dX6_nextTold_129 3 rfl (by rfl) (by decide) rfl ?_
        refine x_goto 83 dX6_nextTold_132 (by decide) ?_
        refine x_sub [2, 3, 1, 0] rfl ?_
        exact ih _ _ hF
      · refine x_aload_n 0 dX6_nextTold_106 rfl rfl ?_
        refine x_iload 3 dX6_nextTold_107 rfl ?_
        refine x_iconst 0 (by decide) dX6_nextTold_109 ?_
        obtain ⟨z17, hzz17, hF⟩ := x_bind hF
        obtain ⟨⟨fsz17, hbz17⟩, hzz17⟩ := x_cv_sp hzz17
        refine x_callv (As := [.int x4, .int 0]) (rest := []) (rc + 0) (rs + 0) dX6_nextTold_110 mi_X6_entry ml_X6_72 rfl rfl (Nat.le_of_ble_eq_true rfl) ⟨by decide, by decide⟩ (by omega) (by omega) hbz17 rfl (c_X6_entry N _ _ _ _ _ _ hzz17) (x_K.some ?_) x_KX.none
        refine x_iload_n 2 dX6_nextTold_113 rfl rfl ?_
        refine x_icmp_ge 127 dX6_nextTold_114 (by decide) hF (fun hF => ?_) (fun hF => ?_)
        · refine x_iload_n 2 dX6_nextTold_127 rfl rfl ?_
          refine x_istore_n (i := 3) (lv' := [(3, .int x3), (0, .ref c0), (1, .int c1), (4, .int x4)]) dX6_nextTold_128 rfl (by decide) rfl ?_
          refine x_iinc (x4 + 1) (lv' := [(4, .int (x4 + 1)), (3, .int x3), (0, .ref c0), (1, .int c1)]) dX6_nextTold_129 3 rfl (by rfl) (by decide) rfl ?_
          refine x_goto 83 dX6_nextTold_132 (by decide) ?_
          refine x_sub [2, 3, 1, 0] rfl ?_
          exact ih _ _ hF
        · refine x_aload_n 0 dX6_nextTold_117 rfl rfl ?_
          refine x_iload 3 dX6_nextTold_118 rfl ?_
          refine x_iconst 0 (by decide) dX6_nextTold_120 ?_
          obtain ⟨z18, hzz18, hF⟩ := x_bind hF
          obtain ⟨⟨fsz18, hbz18⟩, hzz18⟩ := x_cv_sp hzz18
          refine x_callv (As := [.int x4, .int 0]) (rest := []) (rc + 0) (rs + 0) dX6_nextTold_121 mi_X6_entry ml_X6_72 rfl rfl (Nat.le_of_ble_eq_true rfl) ⟨by decide, by decide⟩ (by omega) (by omega) hbz18 rfl (c_X6_entry N _ _ _ _ _ _ hzz18) (x_K.some ?_) x_KX.none
          refine x_goto 128 dX6_nextTold_124 (by decide) ?_
          refine x_istore_n (i := 3) (lv' := [(3, .int z18), (0, .ref c0), (1, .int c1), (4, .int x4)]) dX6_nextTold_128 rfl (by decide) rfl ?_
          refine x_iinc (x4 + 1) (lv' := [(4, .int (x4 + 1)), (3, .int z18), (0, .ref c0), (1, .int c1)]) dX6_nextTold_129 3 rfl (by rfl) (by decide) rfl ?_
          refine x_goto 83 dX6_nextTold_132 (by decide) ?_
          refine x_sub [2, 3, 1, 0] rfl ?_
          exact ih _ _ hF
set_option maxRecDepth 20000 in
set_option maxHeartbeats 4000000 in
theorem c_X6_nextTold (N : Nat) (f : XM) (this : Nat) (p0 : Int32) (p1 : Int32) (n : Nat) (r : Int32) (hF : F_X6_nextTold N f this p0 p1 = some r) : x_Ct mX6_nextTold 1 22 0 0 [.ref this, .int p0, .int p1] (f, n) (xr_ip r (f, n)) := by
  unfold F_X6_nextTold at hF
  refine x_ct (by decide) rfl (Nat.le_of_ble_eq_true rfl) ?_
  show X mX6_nextTold 1 22 _ _ 0 0 0 [(0, .ref this), (1, .int p0), (2, .int p1)] [] (f, n)
  refine x_iload_n 2 dX6_nextTold_0 rfl rfl ?_
  refine x_istore_n (i := 3) (lv' := [(3, .int p1), (0, .ref this), (1, .int p0), (2, .int p1)]) dX6_nextTold_1 rfl (by decide) rfl ?_
  refine x_iconst 0 (by decide) dX6_nextTold_2 ?_
  refine x_istore (i := 4) (lv' := [(4, .int 0), (3, .int p1), (0, .ref this), (1, .int p0), (2, .int p1)]) dX6_nextTold_3 (by decide) rfl ?_
  refine x_sub [2, 3, 1, 0] rfl ?_
  refine w_X6_nextTold_L5 N _ _ _ _ _ r _ _ _ hF (fun y3_11 y4_11 hF => ?_)
  refine x_iconst 0 (by decide) dX6_nextTold_80 ?_
  refine x_istore (i := 4) (lv' := [(4, .int 0), (0, .ref this), (1, .int p0), (3, .int y3_11)]) dX6_nextTold_81 (by decide) rfl ?_
  refine x_sub [1, 2, 3, 0] rfl ?_
  refine w_X6_nextTold_L83 N _ _ _ _ _ r _ _ _ hF (fun y3_19 y4_19 hF => ?_)
  refine x_iload_n 2 dX6_nextTold_135 rfl rfl ?_
  exact x_iret dX6_nextTold_136 rfl (by cases hF; rfl)
def F_X6_placeIn_L2 (N : Nat) (f : XM) (c0 : Nat) (c1 : Int32) (c2 : Int32) (K : Int32 → Option Int32) : Nat → Int32 → Option Int32
  | 0, _ => none
  | k + 1, x3 =>
    (x_cv f 6 c0 (F_X6_size N f c0 c1)).bind fun z2 =>
    if z2 ≤ x3 then
      K x3
    else
      (x_cv f 6 c0 (F_X6_key N f c0 c1 x3)).bind fun z3 =>
      if z3 = c2 then
        some x3
      else
        F_X6_placeIn_L2 N f c0 c1 c2 K k (x3 + 1)
def F_X6_placeIn (N : Nat) (f : XM) (this : Nat) (p0 : Int32) (p1 : Int32) : Option Int32 :=
  F_X6_placeIn_L2 N f this p0 p1 (fun y3_4 =>
  some (-1)) N 0
set_option maxRecDepth 20000 in
set_option maxHeartbeats 4000000 in
theorem w_X6_placeIn_L2 (N : Nat) (f : XM) (c0 : Nat) (c1 : Int32) (c2 : Int32) (K : Int32 → Option Int32) (n : Nat) (r : Int32) {rc rs : Nat} : ∀ (k : Nat) (x3 : Int32), F_X6_placeIn_L2 N f c0 c1 c2 K k x3 = some r → (∀ (x3 : Int32), K x3 = some r → X mX6_placeIn 1 22 (x_end (xr_ip r (f, n))) x_noRO rc rs 29 [(0, .ref c0), (1, .int c1), (2, .int c2), (3, .int x3)] [] (f, n)) → X mX6_placeIn 1 22 (x_end (xr_ip r (f, n))) x_noRO rc rs 2 [(0, .ref c0), (1, .int c1), (2, .int c2), (3, .int x3)] [] (f, n) := by
  intro k
  induction k with
  | zero =>
    intro x3 hF
    exact absurd hF (by intro h9; cases h9)
  | succ k ih =>
    intro x3 hF hK
    have ih := fun x3 hF => ih x3 hF hK
    rw [F_X6_placeIn_L2] at hF
    refine x_iload_n 3 dX6_placeIn_2 rfl rfl ?_
    refine x_aload_n 0 dX6_placeIn_3 rfl rfl ?_
    refine x_iload_n 1 dX6_placeIn_4 rfl rfl ?_
    obtain ⟨z2, hzz2, hF⟩ := x_bind hF
    obtain ⟨⟨fsz2, hbz2⟩, hzz2⟩ := x_cv_sp hzz2
    refine x_callv (As := [.int c1]) (rest := [.int x3]) (rc + 0) (rs + 0) dX6_placeIn_5 mi_X6_size ml_X6_54 rfl rfl (Nat.le_of_ble_eq_true rfl) ⟨by decide, by decide⟩ (by omega) (by omega) hbz2 rfl (c_X6_size N _ _ _ _ _ hzz2) (x_K.some ?_) x_KX.none
    refine x_icmp_ge 29 dX6_placeIn_8 (by decide) hF (fun hF => ?_) (fun hF => ?_)
    · refine x_sub [0, 1, 2, 3] rfl ?_
      exact hK _ hF
    · refine x_aload_n 0 dX6_placeIn_11 rfl rfl ?_
      refine x_iload_n 1 dX6_placeIn_12 rfl rfl ?_
      refine x_iload_n 3 dX6_placeIn_13 rfl rfl ?_
      obtain ⟨z3, hzz3, hF⟩ := x_bind hF
      obtain ⟨⟨fsz3, hbz3⟩, hzz3⟩ := x_cv_sp hzz3
      refine x_callv (As := [.int c1, .int x3]) (rest := []) (rc + 0) (rs + 0) dX6_placeIn_14 mi_X6_key ml_X6_58 rfl rfl (Nat.le_of_ble_eq_true rfl) ⟨by decide, by decide⟩ (by omega) (by omega) hbz3 rfl (c_X6_key N _ _ _ _ _ _ hzz3) (x_K.some ?_) x_KX.none
      refine x_iload_n 2 dX6_placeIn_17 rfl rfl ?_
      refine x_icmp_ne 23 dX6_placeIn_18 (by decide) hF (fun hF => ?_) (fun hF => ?_)
      · refine x_iinc (x3 + 1) (lv' := [(3, .int (x3 + 1)), (0, .ref c0), (1, .int c1), (2, .int c2)]) dX6_placeIn_23 3 rfl (by rfl) (by decide) rfl ?_
        refine x_goto 2 dX6_placeIn_26 (by decide) ?_
        refine x_sub [1, 2, 3, 0] rfl ?_
        exact ih _ hF
      · refine x_iload_n 3 dX6_placeIn_21 rfl rfl ?_
        exact x_iret dX6_placeIn_22 rfl (by cases hF; rfl)
set_option maxRecDepth 20000 in
set_option maxHeartbeats 4000000 in
theorem c_X6_placeIn (N : Nat) (f : XM) (this : Nat) (p0 : Int32) (p1 : Int32) (n : Nat) (r : Int32) (hF : F_X6_placeIn N f this p0 p1 = some r) : x_Ct mX6_placeIn 1 22 0 0 [.ref this, .int p0, .int p1] (f, n) (xr_ip r (f, n)) := by
  unfold F_X6_placeIn at hF
  refine x_ct (by decide) rfl (Nat.le_of_ble_eq_true rfl) ?_
  show X mX6_placeIn 1 22 _ _ 0 0 0 [(0, .ref this), (1, .int p0), (2, .int p1)] [] (f, n)
  refine x_iconst 0 (by decide) dX6_placeIn_0 ?_
  refine x_istore_n (i := 3) (lv' := [(3, .int 0), (0, .ref this), (1, .int p0), (2, .int p1)]) dX6_placeIn_1 rfl (by decide) rfl ?_
  refine x_sub [1, 2, 3, 0] rfl ?_
  refine w_X6_placeIn_L2 N _ _ _ _ _ _ r _ _ hF (fun y3_4 hF => ?_)
  refine x_iconst (-1) (by decide) dX6_placeIn_29 ?_
  exact x_iret dX6_placeIn_30 rfl (by cases hF; rfl)
def F_X6_runWith_L2 (N : Nat) (f : XM) (c0 : Nat) (c1 : Int32) (K : Int32 → Option Int32) : Nat → Int32 → Option Int32
  | 0, _ => none
  | k + 1, x2 =>
    (x_getr f 6 c0 0).bind fun v2 =>
    Option.bind v2 fun a3 =>
    (x_ald f a3 6).bind fun v4 =>
    if v4 < x2 then
      K x2
    else
      (x_cv f 6 c0 (F_X6_placeIn N f c0 x2 c1)).bind fun z5 =>
      if z5 = (-1) then
        F_X6_runWith_L2 N f c0 c1 K k (x2 + 1)
      else
        some x2
def F_X6_runWith (N : Nat) (f : XM) (this : Nat) (p0 : Int32) : Option Int32 :=
  F_X6_runWith_L2 N f this p0 (fun y2_6 =>
  some (-1)) N 0
set_option maxRecDepth 20000 in
set_option maxHeartbeats 4000000 in
theorem w_X6_runWith_L2 (N : Nat) (f : XM) (c0 : Nat) (c1 : Int32) (K : Int32 → Option Int32) (n : Nat) (r : Int32) {rc rs : Nat} : ∀ (k : Nat) (x2 : Int32), F_X6_runWith_L2 N f c0 c1 K k x2 = some r → (∀ (x2 : Int32), K x2 = some r → X mX6_runWith 2 45 (x_end (xr_ip r (f, n))) x_noRO rc rs 31 [(0, .ref c0), (1, .int c1), (2, .int x2)] [] (f, n)) → X mX6_runWith 2 45 (x_end (xr_ip r (f, n))) x_noRO rc rs 2 [(0, .ref c0), (1, .int c1), (2, .int x2)] [] (f, n) := by
  intro k
  induction k with
  | zero =>
    intro x2 hF
    exact absurd hF (by intro h9; cases h9)
  | succ k ih =>
    intro x2 hF hK
    have ih := fun x2 hF => ih x2 hF hK
    rw [F_X6_runWith_L2] at hF
    refine x_iload_n 2 dX6_runWith_2 rfl rfl ?_
    refine x_aload_n 0 dX6_runWith_3 rfl rfl ?_
    refine x_getr_r dX6_runWith_4 fl_X6_7 hF (fun v2 hF => ?_)
    refine x_bipush 6 (by decide) dX6_runWith_7 ?_
    refine x_nn hF (fun a3 ha3 hF => ?_)
    rw [ha3]
    refine x_ald_r dX6_runWith_9 hF (fun v4 hF => ?_)
    refine x_icmp_gt 31 dX6_runWith_10 (by decide) hF (fun hF => ?_) (fun hF => ?_)
    · refine x_sub [0, 1, 2] rfl ?_
      exact hK _ hF
    · refine x_aload_n 0 dX6_runWith_13 rfl rfl ?_
      refine x_iload_n 2 dX6_runWith_14 rfl rfl ?_
      refine x_iload_n 1 dX6_runWith_15 rfl rfl ?_
      obtain ⟨z5, hzz5, hF⟩ := x_bind hF
      obtain ⟨⟨fsz5, hbz5⟩, hzz5⟩ := x_cv_sp hzz5
      refine x_callv (As := [.int x2, .int c1]) (rest := []) (rc + 0) (rs + 0) dX6_runWith_16 mi_X6_placeIn ml_X6_62 rfl rfl (Nat.le_of_ble_eq_true rfl) ⟨by decide, by decide⟩ (by omega) (by omega) hbz5 rfl (c_X6_placeIn N _ _ _ _ _ _ hzz5) (x_K.some ?_) x_KX.none
      refine x_iconst (-1) (by decide) dX6_runWith_19 ?_
      refine x_icmp_eq 25 dX6_runWith_20 (by decide) hF (fun hF => ?_) (fun hF => ?_)
      · refine x_iinc (x2 + 1) (lv' := [(2, .int (x2 + 1)), (0, .ref c0), (1, .int c1)]) dX6_runWith_25 2 rfl (by rfl) (by decide) rfl ?_
        refine x_goto 2 dX6_runWith_28 (by decide) ?_
        refine x_sub [1, 2, 0] rfl ?_
        exact ih _ hF
      · refine x_iload_n 2 dX6_runWith_23 rfl rfl ?_
        exact x_iret dX6_runWith_24 rfl (by cases hF; rfl)
set_option maxRecDepth 20000 in
set_option maxHeartbeats 4000000 in
theorem c_X6_runWith (N : Nat) (f : XM) (this : Nat) (p0 : Int32) (n : Nat) (r : Int32) (hF : F_X6_runWith N f this p0 = some r) : x_Ct mX6_runWith 2 45 0 0 [.ref this, .int p0] (f, n) (xr_ip r (f, n)) := by
  unfold F_X6_runWith at hF
  refine x_ct (by decide) rfl (Nat.le_of_ble_eq_true rfl) ?_
  show X mX6_runWith 2 45 _ _ 0 0 0 [(0, .ref this), (1, .int p0)] [] (f, n)
  refine x_iconst 0 (by decide) dX6_runWith_0 ?_
  refine x_istore_n (i := 2) (lv' := [(2, .int 0), (0, .ref this), (1, .int p0)]) dX6_runWith_1 rfl (by decide) rfl ?_
  refine x_sub [1, 2, 0] rfl ?_
  refine w_X6_runWith_L2 N _ _ _ _ _ r _ _ hF (fun y2_6 hF => ?_)
  refine x_iconst (-1) (by decide) dX6_runWith_31 ?_
  exact x_iret dX6_runWith_32 rfl (by cases hF; rfl)
def F_X6_value (N : Nat) (f : XM) (this : Nat) (p0 : Int32) (p1 : Int32) : Option Int32 :=
  (x_getr f 6 this 0).bind fun v1 =>
  Option.bind v1 fun a2 =>
  (x_ald f a2 (((9 + (121 * p0)) + 2) + (2 * p1))).bind fun v3 =>
  some v3
set_option maxRecDepth 20000 in
set_option maxHeartbeats 4000000 in
theorem c_X6_value (N : Nat) (f : XM) (this : Nat) (p0 : Int32) (p1 : Int32) (n : Nat) (r : Int32) (hF : F_X6_value N f this p0 p1 = some r) : x_Ct mX6_value 0 0 0 0 [.ref this, .int p0, .int p1] (f, n) (xr_ip r (f, n)) := by
  unfold F_X6_value at hF
  refine x_ct (by decide) rfl (Nat.le_of_ble_eq_true rfl) ?_
  show X mX6_value 0 0 _ _ 0 0 0 [(0, .ref this), (1, .int p0), (2, .int p1)] [] (f, n)
  refine x_aload_n 0 dX6_value_0 rfl rfl ?_
  refine x_getr_r dX6_value_1 fl_X6_7 hF (fun v1 hF => ?_)
  refine x_bipush 9 (by decide) dX6_value_4 ?_
  refine x_bipush 121 (by decide) dX6_value_6 ?_
  refine x_iload_n 1 dX6_value_8 rfl rfl ?_
  refine x_imul dX6_value_9 ?_
  refine x_iadd dX6_value_10 ?_
  refine x_iconst 2 (by decide) dX6_value_11 ?_
  refine x_iadd dX6_value_12 ?_
  refine x_iconst 2 (by decide) dX6_value_13 ?_
  refine x_iload_n 2 dX6_value_14 rfl rfl ?_
  refine x_imul dX6_value_15 ?_
  refine x_iadd dX6_value_16 ?_
  refine x_nn hF (fun a2 ha2 hF => ?_)
  rw [ha2]
  refine x_ald_r dX6_value_17 hF (fun v3 hF => ?_)
  exact x_iret dX6_value_18 rfl (by cases hF; rfl)
def F_X6_entryOf_L2 (N : Nat) (f : XM) (c0 : Nat) (c1 : Int32) (K : Int32 → Option Int32) : Nat → Int32 → Option Int32
  | 0, _ => none
  | k + 1, x2 =>
    (x_getr f 6 c0 0).bind fun v2 =>
    Option.bind v2 fun a3 =>
    (x_ald f a3 7).bind fun v4 =>
    if v4 ≤ x2 then
      K x2
    else
      (x_cv f 6 c0 (F_X6_entry N f c0 x2 0)).bind fun z5 =>
      if z5 = c1 then
        some x2
      else
        F_X6_entryOf_L2 N f c0 c1 K k (x2 + 1)
def F_X6_entryOf (N : Nat) (f : XM) (this : Nat) (p0 : Int32) : Option Int32 :=
  F_X6_entryOf_L2 N f this p0 (fun y2_6 =>
  some (-1)) N 0
set_option maxRecDepth 20000 in
set_option maxHeartbeats 4000000 in
theorem w_X6_entryOf_L2 (N : Nat) (f : XM) (c0 : Nat) (c1 : Int32) (K : Int32 → Option Int32) (n : Nat) (r : Int32) {rc rs : Nat} : ∀ (k : Nat) (x2 : Int32), F_X6_entryOf_L2 N f c0 c1 K k x2 = some r → (∀ (x2 : Int32), K x2 = some r → X mX6_entryOf 1 22 (x_end (xr_ip r (f, n))) x_noRO rc rs 31 [(0, .ref c0), (1, .int c1), (2, .int x2)] [] (f, n)) → X mX6_entryOf 1 22 (x_end (xr_ip r (f, n))) x_noRO rc rs 2 [(0, .ref c0), (1, .int c1), (2, .int x2)] [] (f, n) := by
  intro k
  induction k with
  | zero =>
    intro x2 hF
    exact absurd hF (by intro h9; cases h9)
  | succ k ih =>
    intro x2 hF hK
    have ih := fun x2 hF => ih x2 hF hK
    rw [F_X6_entryOf_L2] at hF
    refine x_iload_n 2 dX6_entryOf_2 rfl rfl ?_
    refine x_aload_n 0 dX6_entryOf_3 rfl rfl ?_
    refine x_getr_r dX6_entryOf_4 fl_X6_7 hF (fun v2 hF => ?_)
    refine x_bipush 7 (by decide) dX6_entryOf_7 ?_
    refine x_nn hF (fun a3 ha3 hF => ?_)
    rw [ha3]
    refine x_ald_r dX6_entryOf_9 hF (fun v4 hF => ?_)
    refine x_icmp_ge 31 dX6_entryOf_10 (by decide) hF (fun hF => ?_) (fun hF => ?_)
    · refine x_sub [0, 1, 2] rfl ?_
      exact hK _ hF
    · refine x_aload_n 0 dX6_entryOf_13 rfl rfl ?_
      refine x_iload_n 2 dX6_entryOf_14 rfl rfl ?_
      refine x_iconst 0 (by decide) dX6_entryOf_15 ?_
      obtain ⟨z5, hzz5, hF⟩ := x_bind hF
      obtain ⟨⟨fsz5, hbz5⟩, hzz5⟩ := x_cv_sp hzz5
      refine x_callv (As := [.int x2, .int 0]) (rest := []) (rc + 0) (rs + 0) dX6_entryOf_16 mi_X6_entry ml_X6_72 rfl rfl (Nat.le_of_ble_eq_true rfl) ⟨by decide, by decide⟩ (by omega) (by omega) hbz5 rfl (c_X6_entry N _ _ _ _ _ _ hzz5) (x_K.some ?_) x_KX.none
      refine x_iload_n 1 dX6_entryOf_19 rfl rfl ?_
      refine x_icmp_ne 25 dX6_entryOf_20 (by decide) hF (fun hF => ?_) (fun hF => ?_)
      · refine x_iinc (x2 + 1) (lv' := [(2, .int (x2 + 1)), (0, .ref c0), (1, .int c1)]) dX6_entryOf_25 2 rfl (by rfl) (by decide) rfl ?_
        refine x_goto 2 dX6_entryOf_28 (by decide) ?_
        refine x_sub [1, 2, 0] rfl ?_
        exact ih _ hF
      · refine x_iload_n 2 dX6_entryOf_23 rfl rfl ?_
        exact x_iret dX6_entryOf_24 rfl (by cases hF; rfl)
set_option maxRecDepth 20000 in
set_option maxHeartbeats 4000000 in
theorem c_X6_entryOf (N : Nat) (f : XM) (this : Nat) (p0 : Int32) (n : Nat) (r : Int32) (hF : F_X6_entryOf N f this p0 = some r) : x_Ct mX6_entryOf 1 22 0 0 [.ref this, .int p0] (f, n) (xr_ip r (f, n)) := by
  unfold F_X6_entryOf at hF
  refine x_ct (by decide) rfl (Nat.le_of_ble_eq_true rfl) ?_
  show X mX6_entryOf 1 22 _ _ 0 0 0 [(0, .ref this), (1, .int p0)] [] (f, n)
  refine x_iconst 0 (by decide) dX6_entryOf_0 ?_
  refine x_istore_n (i := 2) (lv' := [(2, .int 0), (0, .ref this), (1, .int p0)]) dX6_entryOf_1 rfl (by decide) rfl ?_
  refine x_sub [1, 2, 0] rfl ?_
  refine w_X6_entryOf_L2 N _ _ _ _ _ r _ _ hF (fun y2_6 hF => ?_)
  refine x_iconst (-1) (by decide) dX6_entryOf_31 ?_
  exact x_iret dX6_entryOf_32 rfl (by cases hF; rfl)
def F_X6_valueBy (N : Nat) (f : XM) (this : Nat) (p0 : Int32) : Option Int32 :=
  (x_cv f 6 this (F_X6_runWith N f this p0)).bind fun z1 =>
  if z1 = (-1) then
    (x_cv f 6 this (F_X6_entryOf N f this p0)).bind fun z2 =>
    if z2 = (-1) then
      some (-1)
    else
      (x_cv f 6 this (F_X6_entry N f this z2 1)).bind fun z3 =>
      some z3
  else
    (x_cv f 6 this (F_X6_placeIn N f this z1 p0)).bind fun z4 =>
    (x_cv f 6 this (F_X6_value N f this z1 z4)).bind fun z5 =>
    some z5
set_option maxRecDepth 20000 in
set_option maxHeartbeats 4000000 in
theorem c_X6_valueBy (N : Nat) (f : XM) (this : Nat) (p0 : Int32) (n : Nat) (r : Int32) (hF : F_X6_valueBy N f this p0 = some r) : x_Ct mX6_valueBy 3 67 0 0 [.ref this, .int p0] (f, n) (xr_ip r (f, n)) := by
  unfold F_X6_valueBy at hF
  refine x_ct (by decide) rfl (Nat.le_of_ble_eq_true rfl) ?_
  show X mX6_valueBy 3 67 _ _ 0 0 0 [(0, .ref this), (1, .int p0)] [] (f, n)
  refine x_aload_n 0 dX6_valueBy_0 rfl rfl ?_
  refine x_iload_n 1 dX6_valueBy_1 rfl rfl ?_
  obtain ⟨z1, hzz1, hF⟩ := x_bind hF
  obtain ⟨⟨fsz1, hbz1⟩, hzz1⟩ := x_cv_sp hzz1
  refine x_callv (As := [.int p0]) (rest := []) 0 0 dX6_valueBy_2 mi_X6_runWith ml_X6_85 rfl rfl (Nat.le_of_ble_eq_true rfl) ⟨by decide, by decide⟩ (by omega) (by omega) hbz1 rfl (c_X6_runWith N _ _ _ _ _ hzz1) (x_K.some ?_) x_KX.none
  refine x_istore_n (i := 2) (lv' := [(2, .int z1), (0, .ref this), (1, .int p0)]) dX6_valueBy_5 rfl (by decide) rfl ?_
  refine x_iload_n 0 dX6_valueBy_6 rfl rfl ?_
  refine x_iconst (-1) (by decide) dX6_valueBy_7 ?_
  refine x_icmp_eq 23 dX6_valueBy_8 (by decide) hF (fun hF => ?_) (fun hF => ?_)
  · refine x_aload_n 1 dX6_valueBy_23 rfl rfl ?_
    refine x_iload_n 2 dX6_valueBy_24 rfl rfl ?_
    obtain ⟨z2, hzz2, hF⟩ := x_bind hF
    obtain ⟨⟨fsz2, hbz2⟩, hzz2⟩ := x_cv_sp hzz2
    refine x_callv (As := [.int p0]) (rest := []) 0 0 dX6_valueBy_25 mi_X6_entryOf ml_X6_88 rfl rfl (Nat.le_of_ble_eq_true rfl) ⟨by decide, by decide⟩ (by omega) (by omega) hbz2 rfl (c_X6_entryOf N _ _ _ _ _ hzz2) (x_K.some ?_) x_KX.none
    refine x_istore_n (i := 3) (lv' := [(3, .int z2), (2, .int z1), (0, .ref this), (1, .int p0)]) dX6_valueBy_28 rfl (by decide) rfl ?_
    refine x_iload_n 0 dX6_valueBy_29 rfl rfl ?_
    refine x_iconst (-1) (by decide) dX6_valueBy_30 ?_
    refine x_icmp_ne 38 dX6_valueBy_31 (by decide) hF (fun hF => ?_) (fun hF => ?_)
    · refine x_aload_n 2 dX6_valueBy_38 rfl rfl ?_
      refine x_iload_n 0 dX6_valueBy_39 rfl rfl ?_
      refine x_iconst 1 (by decide) dX6_valueBy_40 ?_
      obtain ⟨z3, hzz3, hF⟩ := x_bind hF
      obtain ⟨⟨fsz3, hbz3⟩, hzz3⟩ := x_cv_sp hzz3
      refine x_callv (As := [.int z2, .int 1]) (rest := []) 0 0 dX6_valueBy_41 mi_X6_entry ml_X6_72 rfl rfl (Nat.le_of_ble_eq_true rfl) ⟨by decide, by decide⟩ (by omega) (by omega) hbz3 rfl (c_X6_entry N _ _ _ _ _ _ hzz3) (x_K.some ?_) x_KX.none
      exact x_iret dX6_valueBy_44 rfl (by cases hF; rfl)
    · refine x_iconst (-1) (by decide) dX6_valueBy_34 ?_
      refine x_goto 44 dX6_valueBy_35 (by decide) ?_
      exact x_iret dX6_valueBy_44 rfl (by cases hF; rfl)
  · refine x_aload_n 1 dX6_valueBy_11 rfl rfl ?_
    refine x_iload_n 0 dX6_valueBy_12 rfl rfl ?_
    refine x_aload_n 1 dX6_valueBy_13 rfl rfl ?_
    refine x_iload_n 0 dX6_valueBy_14 rfl rfl ?_
    refine x_iload_n 2 dX6_valueBy_15 rfl rfl ?_
    obtain ⟨z4, hzz4, hF⟩ := x_bind hF
    obtain ⟨⟨fsz4, hbz4⟩, hzz4⟩ := x_cv_sp hzz4
    refine x_callv (As := [.int z1, .int p0]) (rest := [.int z1, .ref this]) 0 0 dX6_valueBy_16 mi_X6_placeIn ml_X6_62 rfl rfl (Nat.le_of_ble_eq_true rfl) ⟨by decide, by decide⟩ (by omega) (by omega) hbz4 rfl (c_X6_placeIn N _ _ _ _ _ _ hzz4) (x_K.some ?_) x_KX.none
    obtain ⟨z5, hzz5, hF⟩ := x_bind hF
    obtain ⟨⟨fsz5, hbz5⟩, hzz5⟩ := x_cv_sp hzz5
    refine x_callv (As := [.int z1, .int z4]) (rest := []) 0 0 dX6_valueBy_19 mi_X6_value ml_X6_65 rfl rfl (Nat.le_of_ble_eq_true rfl) ⟨by decide, by decide⟩ (by omega) (by omega) hbz5 rfl (c_X6_value N _ _ _ _ _ _ hzz5) (x_K.some ?_) x_KX.none
    exact x_iret dX6_valueBy_22 rfl (by cases hF; rfl)
def F_X6_finds_L14 (N : Nat) (c0 : Nat) (K : Int32 → XM → Option (Int32 × XM)) : Nat → Int32 → XM → Option (Int32 × XM)
  | 0, _, _ => none
  | k + 1, x1, f =>
    if 9999 < x1 then
      K x1 f
    else
      (x_cv f 6 c0 (F_X6_valueBy N f c0 x1)).bind fun z4 =>
      if z4 = (-1) then
        (x_cv f 6 c0 (F_X6_nextTold N f c0 x1 10000)).bind fun z5 =>
        F_X6_finds_L14 N c0 K k z5 f
      else
        (x_getr f 6 c0 7).bind fun v6 =>
        (x_geti f 6 c0 8).bind fun v7 =>
        Option.bind v6 fun a8 =>
        (x_ast f a8 (2 * v7) x1).bind fun f9 =>
        (x_getr f9 6 c0 7).bind fun v10 =>
        (x_geti f9 6 c0 8).bind fun v11 =>
        Option.bind v10 fun a12 =>
        (x_ast f9 a12 ((2 * v11) + 1) z4).bind fun f13 =>
        (x_geti f13 6 c0 8).bind fun v14 =>
        (x_puti f13 6 c0 8 (v14 + 1)).bind fun f15 =>
        (x_cv f15 6 c0 (F_X6_nextTold N f15 c0 x1 10000)).bind fun z16 =>
        F_X6_finds_L14 N c0 K k z16 f15
def F_X6_finds (N : Nat) (f : XM) (this : Nat) : Option (Int32 × XM) :=
  (x_puti f 6 this 8 0).bind fun f1 =>
  (x_cv f1 6 this (F_X6_nextTold N f1 this (-1) 10000)).bind fun z2 =>
  F_X6_finds_L14 N this (fun y1_17 g17 =>
  (x_geti g17 6 this 8).bind fun v18 =>
  some (v18, g17)) N z2 f1
set_option maxRecDepth 20000 in
set_option maxHeartbeats 4000000 in
theorem w_X6_finds_L14 (N : Nat) (c0 : Nat) (K : Int32 → XM → Option (Int32 × XM)) (n : Nat) (r : (Int32 × XM)) {rc rs : Nat} : ∀ (k : Nat) (x1 : Int32) (f : XM), F_X6_finds_L14 N c0 K k x1 f = some r → (∀ (x1 : Int32) (f : XM), K x1 f = some r → X mX6_finds 4 90 (x_end (xr_im r n)) x_noRO rc rs 80 [(0, .ref c0), (1, .int x1)] [] (f, n)) → X mX6_finds 4 90 (x_end (xr_im r n)) x_noRO rc rs 14 [(0, .ref c0), (1, .int x1)] [] (f, n) := by
  intro k
  induction k with
  | zero =>
    intro x1 f hF
    exact absurd hF (by intro h9; cases h9)
  | succ k ih =>
    intro x1 f hF hK
    have ih := fun x1 f hF => ih x1 f hF hK
    rw [F_X6_finds_L14] at hF
    refine x_iload_n 1 dX6_finds_14 rfl rfl ?_
    refine x_sipush 9999 (by decide) dX6_finds_15 ?_
    refine x_icmp_gt 80 dX6_finds_18 (by decide) hF (fun hF => ?_) (fun hF => ?_)
    · refine x_sub [0, 1] rfl ?_
      exact hK _ _ hF
    · refine x_aload_n 0 dX6_finds_21 rfl rfl ?_
      refine x_iload_n 1 dX6_finds_22 rfl rfl ?_
      obtain ⟨z4, hzz4, hF⟩ := x_bind hF
      obtain ⟨⟨fsz4, hbz4⟩, hzz4⟩ := x_cv_sp hzz4
      refine x_callv (As := [.int x1]) (rest := []) (rc + 0) (rs + 0) dX6_finds_23 mi_X6_valueBy ml_X6_110 rfl rfl (Nat.le_of_ble_eq_true rfl) ⟨by decide, by decide⟩ (by omega) (by omega) hbz4 rfl (c_X6_valueBy N _ _ _ _ _ hzz4) (x_K.some ?_) x_KX.none
      refine x_istore_n (i := 2) (lv' := [(2, .int z4), (0, .ref c0), (1, .int x1)]) dX6_finds_26 rfl (by decide) rfl ?_
      refine x_iload_n 0 dX6_finds_27 rfl rfl ?_
      refine x_iconst (-1) (by decide) dX6_finds_28 ?_
      refine x_icmp_eq 68 dX6_finds_29 (by decide) hF (fun hF => ?_) (fun hF => ?_)
      · refine x_aload_n 1 dX6_finds_68 rfl rfl ?_
        refine x_iload_n 2 dX6_finds_69 rfl rfl ?_
        refine x_sipush 10000 (by decide) dX6_finds_70 ?_
        obtain ⟨z5, hzz5, hF⟩ := x_bind hF
        obtain ⟨⟨fsz5, hbz5⟩, hzz5⟩ := x_cv_sp hzz5
        refine x_callv (As := [.int x1, .int 10000]) (rest := []) (rc + 0) (rs + 0) dX6_finds_73 mi_X6_nextTold ml_X6_107 rfl rfl (Nat.le_of_ble_eq_true rfl) ⟨by decide, by decide⟩ (by omega) (by omega) hbz5 rfl (c_X6_nextTold N _ _ _ _ _ _ hzz5) (x_K.some ?_) x_KX.none
        refine x_istore_n (i := 1) (lv' := [(1, .int z5), (2, .int z4), (0, .ref c0)]) dX6_finds_76 rfl (by decide) rfl ?_
        refine x_goto 14 dX6_finds_77 (by decide) ?_
        refine x_sub [2, 0] rfl ?_
        exact ih _ _ hF
      · refine x_aload_n 1 dX6_finds_32 rfl rfl ?_
        refine x_getr_r dX6_finds_33 fl_X6_29 hF (fun v6 hF => ?_)
        refine x_iconst 2 (by decide) dX6_finds_36 ?_
        refine x_aload_n 1 dX6_finds_37 rfl rfl ?_
        refine x_geti_r dX6_finds_38 fl_X6_104 hF (fun v7 hF => ?_)
        refine x_imul dX6_finds_41 ?_
        refine x_iload_n 2 dX6_finds_42 rfl rfl ?_
        refine x_nn hF (fun a8 ha8 hF => ?_)
        rw [ha8]
        refine x_ast_r dX6_finds_43 hF (fun f9 hF => ?_)
        refine x_aload_n 1 dX6_finds_44 rfl rfl ?_
        refine x_getr_r dX6_finds_45 fl_X6_29 hF (fun v10 hF => ?_)
        refine x_iconst 2 (by decide) dX6_finds_48 ?_
        refine x_aload_n 1 dX6_finds_49 rfl rfl ?_
        refine x_geti_r dX6_finds_50 fl_X6_104 hF (fun v11 hF => ?_)
        refine x_imul dX6_finds_53 ?_
        refine x_iconst 1 (by decide) dX6_finds_54 ?_
        refine x_iadd dX6_finds_55 ?_
        refine x_iload_n 0 dX6_finds_56 rfl rfl ?_
        refine x_nn hF (fun a12 ha12 hF => ?_)
        rw [ha12]
        refine x_ast_r dX6_finds_57 hF (fun f13 hF => ?_)
        refine x_aload_n 1 dX6_finds_58 rfl rfl ?_
        refine x_dupr dX6_finds_59 ?_
        refine x_geti_r dX6_finds_60 fl_X6_104 hF (fun v14 hF => ?_)
        refine x_iconst 1 (by decide) dX6_finds_63 ?_
        refine x_iadd dX6_finds_64 ?_
        refine x_puti_r dX6_finds_65 fl_X6_104 (fun h9 => by cases h9) hF (fun f15 hF => ?_)
        refine x_aload_n 1 dX6_finds_68 rfl rfl ?_
        refine x_iload_n 2 dX6_finds_69 rfl rfl ?_
        refine x_sipush 10000 (by decide) dX6_finds_70 ?_
        obtain ⟨z16, hzz16, hF⟩ := x_bind hF
        obtain ⟨⟨fsz16, hbz16⟩, hzz16⟩ := x_cv_sp hzz16
        refine x_callv (As := [.int x1, .int 10000]) (rest := []) (rc + 0) (rs + 0) dX6_finds_73 mi_X6_nextTold ml_X6_107 rfl rfl (Nat.le_of_ble_eq_true rfl) ⟨by decide, by decide⟩ (by omega) (by omega) hbz16 rfl (c_X6_nextTold N _ _ _ _ _ _ hzz16) (x_K.some ?_) x_KX.none
        refine x_istore_n (i := 1) (lv' := [(1, .int z16), (2, .int z4), (0, .ref c0)]) dX6_finds_76 rfl (by decide) rfl ?_
        refine x_goto 14 dX6_finds_77 (by decide) ?_
        refine x_sub [2, 0] rfl ?_
        exact ih _ _ hF
set_option maxRecDepth 20000 in
set_option maxHeartbeats 4000000 in
theorem c_X6_finds (N : Nat) (f : XM) (this : Nat) (n : Nat) (r : (Int32 × XM)) (hF : F_X6_finds N f this = some r) : x_Ct mX6_finds 4 90 0 0 [.ref this] (f, n) (xr_im r n) := by
  unfold F_X6_finds at hF
  refine x_ct (by decide) rfl (Nat.le_of_ble_eq_true rfl) ?_
  show X mX6_finds 4 90 _ _ 0 0 0 [(0, .ref this)] [] (f, n)
  refine x_aload_n 0 dX6_finds_0 rfl rfl ?_
  refine x_iconst 0 (by decide) dX6_finds_1 ?_
  refine x_puti_r dX6_finds_2 fl_X6_104 (fun h9 => by cases h9) hF (fun f1 hF => ?_)
  refine x_aload_n 0 dX6_finds_5 rfl rfl ?_
  refine x_iconst (-1) (by decide) dX6_finds_6 ?_
  refine x_sipush 10000 (by decide) dX6_finds_7 ?_
  obtain ⟨z2, hzz2, hF⟩ := x_bind hF
  obtain ⟨⟨fsz2, hbz2⟩, hzz2⟩ := x_cv_sp hzz2
  refine x_callv (As := [.int (-1), .int 10000]) (rest := []) 0 0 dX6_finds_10 mi_X6_nextTold ml_X6_107 rfl rfl (Nat.le_of_ble_eq_true rfl) ⟨by decide, by decide⟩ (by omega) (by omega) hbz2 rfl (c_X6_nextTold N _ _ _ _ _ _ hzz2) (x_K.some ?_) x_KX.none
  refine x_istore_n (i := 1) (lv' := [(1, .int z2), (0, .ref this)]) dX6_finds_13 rfl (by decide) rfl ?_
  refine x_sub [1, 0] rfl ?_
  refine w_X6_finds_L14 N _ _ _ r _ _ _ hF (fun y1_17 g17 hF => ?_)
  refine x_aload_n 0 dX6_finds_80 rfl rfl ?_
  refine x_geti_r dX6_finds_81 fl_X6_104 hF (fun v18 hF => ?_)
  exact x_iret dX6_finds_84 rfl (by cases hF; rfl)
def F_X6_beside_L18 (N : Nat) (f : XM) (c0 : Nat) (c1 : Int32) (c2 : Bool) (c3 : Int32) (K : Int32 → Option (Int32 × XM)) : Nat → Int32 → Option (Int32 × XM)
  | 0, _ => none
  | k + 1, x4 =>
    if (x_b c2) = 0 then
      K x4
    else
      if c3 ≤ x4 then
        K x4
      else
        (x_getr f 6 c0 7).bind fun v3 =>
        Option.bind v3 fun a4 =>
        (x_ald f a4 (2 * x4)).bind fun v5 =>
        if c1 < v5 then
          K x4
        else
          F_X6_beside_L18 N f c0 c1 c2 c3 K k (x4 + 1)
def F_X6_beside_L47 (N : Nat) (f : XM) (c0 : Nat) (c1 : Int32) (c2 : Bool) (c3 : Int32) (K : Int32 → Option (Int32 × XM)) : Nat → Int32 → Option (Int32 × XM)
  | 0, _ => none
  | k + 1, x4 =>
    if (x_b c2) = 0 then
      if x4 < 0 then
        K x4
      else
        (x_getr f 6 c0 7).bind fun v8 =>
        Option.bind v8 fun a9 =>
        (x_ald f a9 (2 * x4)).bind fun v10 =>
        if v10 < c1 then
          K x4
        else
          F_X6_beside_L47 N f c0 c1 c2 c3 K k (x4 + (-1))
    else
      K x4
def F_X6_beside (N : Nat) (f : XM) (this : Nat) (p0 : Int32) (p1 : Bool) : Option (Int32 × XM) :=
  (x_cv f 6 this (F_X6_finds N f this)).bind fun z1 =>
  if (x_b p1) = 0 then
    F_X6_beside_L18 N z1.2 this p0 p1 z1.1 (fun y4_6 =>
    F_X6_beside_L47 N z1.2 this p0 p1 z1.1 (fun y4_11 =>
    if y4_11 = z1.1 then
      some ((-1), z1.2)
    else
      some (y4_11, z1.2)) N y4_6) N (z1.1 - 1)
  else
    F_X6_beside_L18 N z1.2 this p0 p1 z1.1 (fun y4_16 =>
    F_X6_beside_L47 N z1.2 this p0 p1 z1.1 (fun y4_21 =>
    if y4_21 = z1.1 then
      some ((-1), z1.2)
    else
      some (y4_21, z1.2)) N y4_16) N 0
set_option maxRecDepth 20000 in
set_option maxHeartbeats 4000000 in
theorem w_X6_beside_L18 (N : Nat) (f : XM) (c0 : Nat) (c1 : Int32) (c2 : Bool) (c3 : Int32) (K : Int32 → Option (Int32 × XM)) (n : Nat) (r : (Int32 × XM)) {rc rs : Nat} : ∀ (k : Nat) (x4 : Int32), F_X6_beside_L18 N f c0 c1 c2 c3 K k x4 = some r → (∀ (x4 : Int32), K x4 = some r → X mX6_beside 5 112 (x_end (xr_im r n)) x_noRO rc rs 47 [(0, .ref c0), (1, .int c1), (2, .int (x_b c2)), (3, .int c3), (4, .int x4)] [] (f, n)) → X mX6_beside 5 112 (x_end (xr_im r n)) x_noRO rc rs 18 [(0, .ref c0), (1, .int c1), (2, .int (x_b c2)), (3, .int c3), (4, .int x4)] [] (f, n) := by
  intro k
  induction k with
  | zero =>
    intro x4 hF
    exact absurd hF (by intro h9; cases h9)
  | succ k ih =>
    intro x4 hF hK
    have ih := fun x4 hF => ih x4 hF hK
    rw [F_X6_beside_L18] at hF
    refine x_iload_n 2 dX6_beside_18 rfl rfl ?_
    refine x_if_eq 47 dX6_beside_19 (by decide) hF (fun hF => ?_) (fun hF => ?_)
    · refine x_sub [0, 1, 2, 3, 4] rfl ?_
      exact hK _ hF
    · refine x_iload 4 dX6_beside_22 rfl ?_
      refine x_iload_n 3 dX6_beside_24 rfl rfl ?_
      refine x_icmp_ge 47 dX6_beside_25 (by decide) hF (fun hF => ?_) (fun hF => ?_)
      · refine x_sub [0, 1, 2, 3, 4] rfl ?_
        exact hK _ hF
      · refine x_aload_n 0 dX6_beside_28 rfl rfl ?_
        refine x_getr_r dX6_beside_29 fl_X6_29 hF (fun v3 hF => ?_)
        refine x_iconst 2 (by decide) dX6_beside_32 ?_
        refine x_iload 4 dX6_beside_33 rfl ?_
        refine x_imul dX6_beside_35 ?_
        refine x_nn hF (fun a4 ha4 hF => ?_)
        rw [ha4]
        refine x_ald_r dX6_beside_36 hF (fun v5 hF => ?_)
        refine x_iload_n 1 dX6_beside_37 rfl rfl ?_
        refine x_icmp_gt 47 dX6_beside_38 (by decide) hF (fun hF => ?_) (fun hF => ?_)
        · refine x_sub [0, 1, 2, 3, 4] rfl ?_
          exact hK _ hF
        · refine x_iinc (x4 + 1) (lv' := [(4, .int (x4 + 1)), (0, .ref c0), (1, .int c1), (2, .int (x_b c2)), (3, .int c3)]) dX6_beside_41 4 rfl (by rfl) (by decide) rfl ?_
          refine x_goto 18 dX6_beside_44 (by decide) ?_
          refine x_sub [1, 2, 3, 4, 0] rfl ?_
          exact ih _ hF
set_option maxRecDepth 20000 in
set_option maxHeartbeats 4000000 in
theorem w_X6_beside_L47 (N : Nat) (f : XM) (c0 : Nat) (c1 : Int32) (c2 : Bool) (c3 : Int32) (K : Int32 → Option (Int32 × XM)) (n : Nat) (r : (Int32 × XM)) {rc rs : Nat} : ∀ (k : Nat) (x4 : Int32), F_X6_beside_L47 N f c0 c1 c2 c3 K k x4 = some r → (∀ (x4 : Int32), K x4 = some r → X mX6_beside 5 112 (x_end (xr_im r n)) x_noRO rc rs 75 [(0, .ref c0), (1, .int c1), (2, .int (x_b c2)), (3, .int c3), (4, .int x4)] [] (f, n)) → X mX6_beside 5 112 (x_end (xr_im r n)) x_noRO rc rs 47 [(0, .ref c0), (1, .int c1), (2, .int (x_b c2)), (3, .int c3), (4, .int x4)] [] (f, n) := by
  intro k
  induction k with
  | zero =>
    intro x4 hF
    exact absurd hF (by intro h9; cases h9)
  | succ k ih =>
    intro x4 hF hK
    have ih := fun x4 hF => ih x4 hF hK
    rw [F_X6_beside_L47] at hF
    refine x_iload_n 2 dX6_beside_47 rfl rfl ?_
    refine x_if_ne 75 dX6_beside_48 (by decide) hF (fun hF => ?_) (fun hF => ?_)
    · refine x_sub [0, 1, 2, 3, 4] rfl ?_
      exact hK _ hF
    · refine x_iload 4 dX6_beside_51 rfl ?_
      refine x_if_lt 75 dX6_beside_53 (by decide) hF (fun hF => ?_) (fun hF => ?_)
      · refine x_sub [0, 1, 2, 3, 4] rfl ?_
        exact hK _ hF
      · refine x_aload_n 0 dX6_beside_56 rfl rfl ?_
        refine x_getr_r dX6_beside_57 fl_X6_29 hF (fun v8 hF => ?_)
        refine x_iconst 2 (by decide) dX6_beside_60 ?_
        refine x_iload 4 dX6_beside_61 rfl ?_
        refine x_imul dX6_beside_63 ?_
        refine x_nn hF (fun a9 ha9 hF => ?_)
        rw [ha9]
        refine x_ald_r dX6_beside_64 hF (fun v10 hF => ?_)
        refine x_iload_n 1 dX6_beside_65 rfl rfl ?_
        refine x_icmp_lt 75 dX6_beside_66 (by decide) hF (fun hF => ?_) (fun hF => ?_)
        · refine x_sub [0, 1, 2, 3, 4] rfl ?_
          exact hK _ hF
        · refine x_iinc (x4 + (-1)) (lv' := [(4, .int (x4 + (-1))), (0, .ref c0), (1, .int c1), (2, .int (x_b c2)), (3, .int c3)]) dX6_beside_69 4 rfl (by rfl) (by decide) rfl ?_
          refine x_goto 47 dX6_beside_72 (by decide) ?_
          refine x_sub [1, 2, 3, 4, 0] rfl ?_
          exact ih _ hF
set_option maxRecDepth 20000 in
set_option maxHeartbeats 4000000 in
theorem c_X6_beside (N : Nat) (f : XM) (this : Nat) (p0 : Int32) (p1 : Bool) (n : Nat) (r : (Int32 × XM)) (hF : F_X6_beside N f this p0 p1 = some r) : x_Ct mX6_beside 5 112 0 0 [.ref this, .int p0, .int (x_b p1)] (f, n) (xr_im r n) := by
  unfold F_X6_beside at hF
  refine x_ct (by decide) rfl (Nat.le_of_ble_eq_true rfl) ?_
  show X mX6_beside 5 112 _ _ 0 0 0 [(0, .ref this), (1, .int p0), (2, .int (x_b p1))] [] (f, n)
  refine x_aload_n 0 dX6_beside_0 rfl rfl ?_
  obtain ⟨z1, hzz1, hF⟩ := x_bind hF
  obtain ⟨⟨fsz1, hbz1⟩, hzz1⟩ := x_cv_sp hzz1
  refine x_callv (As := []) (rest := []) 0 0 dX6_beside_1 mi_X6_finds ml_X6_113 rfl rfl (Nat.le_of_ble_eq_true rfl) ⟨by decide, by decide⟩ (by omega) (by omega) hbz1 rfl (c_X6_finds N _ _ _ _ hzz1) (x_K.some ?_) x_KX.none
  refine x_istore_n (i := 3) (lv' := [(3, .int z1.1), (0, .ref this), (1, .int p0), (2, .int (x_b p1))]) dX6_beside_4 rfl (by decide) rfl ?_
  refine x_iload_n 3 dX6_beside_5 rfl rfl ?_
  refine x_if_eq 13 dX6_beside_6 (by decide) hF (fun hF => ?_) (fun hF => ?_)
  · refine x_iload_n 0 dX6_beside_13 rfl rfl ?_
    refine x_iconst 1 (by decide) dX6_beside_14 ?_
    refine x_isub dX6_beside_15 ?_
    refine x_istore (i := 4) (lv' := [(4, .int (z1.1 - 1)), (3, .int z1.1), (0, .ref this), (1, .int p0), (2, .int (x_b p1))]) dX6_beside_16 (by decide) rfl ?_
    refine x_sub [2, 3, 4, 1, 0] rfl ?_
    refine w_X6_beside_L18 N _ _ _ _ _ _ _ r _ _ hF (fun y4_6 hF => ?_)
    refine x_sub [0, 1, 2, 3, 4] rfl ?_
    refine w_X6_beside_L47 N _ _ _ _ _ _ _ r _ _ hF (fun y4_11 hF => ?_)
    refine x_iload 4 dX6_beside_75 rfl ?_
    refine x_iload_n 3 dX6_beside_77 rfl rfl ?_
    refine x_icmp_ne 85 dX6_beside_78 (by decide) hF (fun hF => ?_) (fun hF => ?_)
    · refine x_iload 4 dX6_beside_85 rfl ?_
      exact x_iret dX6_beside_87 rfl (by cases hF; rfl)
    · refine x_iconst (-1) (by decide) dX6_beside_81 ?_
      refine x_goto 87 dX6_beside_82 (by decide) ?_
      exact x_iret dX6_beside_87 rfl (by cases hF; rfl)
  · refine x_iconst 0 (by decide) dX6_beside_9 ?_
    refine x_goto 16 dX6_beside_10 (by decide) ?_
    refine x_istore (i := 4) (lv' := [(4, .int 0), (3, .int z1.1), (0, .ref this), (1, .int p0), (2, .int (x_b p1))]) dX6_beside_16 (by decide) rfl ?_
    refine x_sub [2, 3, 4, 1, 0] rfl ?_
    refine w_X6_beside_L18 N _ _ _ _ _ _ _ r _ _ hF (fun y4_16 hF => ?_)
    refine x_sub [0, 1, 2, 3, 4] rfl ?_
    refine w_X6_beside_L47 N _ _ _ _ _ _ _ r _ _ hF (fun y4_21 hF => ?_)
    refine x_iload 4 dX6_beside_75 rfl ?_
    refine x_iload_n 3 dX6_beside_77 rfl rfl ?_
    refine x_icmp_ne 85 dX6_beside_78 (by decide) hF (fun hF => ?_) (fun hF => ?_)
    · refine x_iload 4 dX6_beside_85 rfl ?_
      exact x_iret dX6_beside_87 rfl (by cases hF; rfl)
    · refine x_iconst (-1) (by decide) dX6_beside_81 ?_
      refine x_goto 87 dX6_beside_82 (by decide) ?_
      exact x_iret dX6_beside_87 rfl (by cases hF; rfl)
def F_X6_between_L11 (N : Nat) (f : XM) (c0 : Nat) (c1 : Int32) (c2 : Int32) (c4 : Int32) (K : Int32 → Int32 → Option (Int32 × XM)) : Nat → Int32 → Int32 → Option (Int32 × XM)
  | 0, _, _ => none
  | k + 1, x3, x5 =>
    if c4 ≤ x5 then
      K x3 x5
    else
      (x_getr f 6 c0 7).bind fun v3 =>
      Option.bind v3 fun a4 =>
      (x_ald f a4 (2 * x5)).bind fun v5 =>
      (F_X6_in N f v5 c1 c2).bind fun z6 =>
      if (x_b z6) = 0 then
        F_X6_between_L11 N f c0 c1 c2 c4 K k (x3 + 0) (x5 + 1)
      else
        F_X6_between_L11 N f c0 c1 c2 c4 K k (x3 + 1) (x5 + 1)
def F_X6_between (N : Nat) (f : XM) (this : Nat) (p0 : Int32) (p1 : Int32) : Option (Int32 × XM) :=
  (x_cv f 6 this (F_X6_finds N f this)).bind fun z1 =>
  F_X6_between_L11 N z1.2 this p0 p1 z1.1 (fun y3_7 y5_7 =>
  some (y3_7, z1.2)) N 0 0
set_option maxRecDepth 20000 in
set_option maxHeartbeats 4000000 in
theorem w_X6_between_L11 (N : Nat) (f : XM) (c0 : Nat) (c1 : Int32) (c2 : Int32) (c4 : Int32) (K : Int32 → Int32 → Option (Int32 × XM)) (n : Nat) (r : (Int32 × XM)) {rc rs : Nat} : ∀ (k : Nat) (x3 : Int32) (x5 : Int32), F_X6_between_L11 N f c0 c1 c2 c4 K k x3 x5 = some r → (∀ (x3 : Int32) (x5 : Int32), K x3 x5 = some r → X mX6_between 5 112 (x_end (xr_im r n)) x_noRO rc rs 49 [(0, .ref c0), (1, .int c1), (2, .int c2), (3, .int x3), (4, .int c4), (5, .int x5)] [] (f, n)) → X mX6_between 5 112 (x_end (xr_im r n)) x_noRO rc rs 11 [(0, .ref c0), (1, .int c1), (2, .int c2), (3, .int x3), (4, .int c4), (5, .int x5)] [] (f, n) := by
  intro k
  induction k with
  | zero =>
    intro x3 x5 hF
    exact absurd hF (by intro h9; cases h9)
  | succ k ih =>
    intro x3 x5 hF hK
    have ih := fun x3 x5 hF => ih x3 x5 hF hK
    rw [F_X6_between_L11] at hF
    refine x_iload 5 dX6_between_11 rfl ?_
    refine x_iload 4 dX6_between_13 rfl ?_
    refine x_icmp_ge 49 dX6_between_15 (by decide) hF (fun hF => ?_) (fun hF => ?_)
    · refine x_sub [0, 1, 2, 3, 4, 5] rfl ?_
      exact hK _ _ hF
    · refine x_iload_n 3 dX6_between_18 rfl rfl ?_
      refine x_aload_n 0 dX6_between_19 rfl rfl ?_
      refine x_getr_r dX6_between_20 fl_X6_29 hF (fun v3 hF => ?_)
      refine x_iconst 2 (by decide) dX6_between_23 ?_
      refine x_iload 5 dX6_between_24 rfl ?_
      refine x_imul dX6_between_26 ?_
      refine x_nn hF (fun a4 ha4 hF => ?_)
      rw [ha4]
      refine x_ald_r dX6_between_27 hF (fun v5 hF => ?_)
      refine x_iload_n 1 dX6_between_28 rfl rfl ?_
      refine x_iload_n 2 dX6_between_29 rfl rfl ?_
      obtain ⟨z6, hzz6, hF⟩ := x_bind hF
      refine x_calls (As := [.int v5, .int c1, .int c2]) (rest := [.int x3]) (rc + 0) (rs + 0) dX6_between_30 mi_X6_in rfl ml_X6_50 rfl rfl (Nat.le_of_ble_eq_true rfl) ⟨by decide, by decide⟩ (by omega) (by omega) (c_X6_in N _ _ _ _ _ _ hzz6) (x_K.some ?_) x_KX.none
      refine x_if_eq 40 dX6_between_33 (by decide) hF (fun hF => ?_) (fun hF => ?_)
      · refine x_iconst 0 (by decide) dX6_between_40 ?_
        refine x_iadd dX6_between_41 ?_
        refine x_istore_n (i := 3) (lv' := [(3, .int (x3 + 0)), (0, .ref c0), (1, .int c1), (2, .int c2), (4, .int c4), (5, .int x5)]) dX6_between_42 rfl (by decide) rfl ?_
        refine x_iinc (x5 + 1) (lv' := [(5, .int (x5 + 1)), (3, .int (x3 + 0)), (0, .ref c0), (1, .int c1), (2, .int c2), (4, .int c4)]) dX6_between_43 5 rfl (by rfl) (by decide) rfl ?_
        refine x_goto 11 dX6_between_46 (by decide) ?_
        refine x_sub [2, 3, 4, 1, 5, 0] rfl ?_
        exact ih _ _ hF
      · refine x_iconst 1 (by decide) dX6_between_36 ?_
        refine x_goto 41 dX6_between_37 (by decide) ?_
        refine x_iadd dX6_between_41 ?_
        refine x_istore_n (i := 3) (lv' := [(3, .int (x3 + 1)), (0, .ref c0), (1, .int c1), (2, .int c2), (4, .int c4), (5, .int x5)]) dX6_between_42 rfl (by decide) rfl ?_
        refine x_iinc (x5 + 1) (lv' := [(5, .int (x5 + 1)), (3, .int (x3 + 1)), (0, .ref c0), (1, .int c1), (2, .int c2), (4, .int c4)]) dX6_between_43 5 rfl (by rfl) (by decide) rfl ?_
        refine x_goto 11 dX6_between_46 (by decide) ?_
        refine x_sub [2, 3, 4, 1, 5, 0] rfl ?_
        exact ih _ _ hF
set_option maxRecDepth 20000 in
set_option maxHeartbeats 4000000 in
theorem c_X6_between (N : Nat) (f : XM) (this : Nat) (p0 : Int32) (p1 : Int32) (n : Nat) (r : (Int32 × XM)) (hF : F_X6_between N f this p0 p1 = some r) : x_Ct mX6_between 5 112 0 0 [.ref this, .int p0, .int p1] (f, n) (xr_im r n) := by
  unfold F_X6_between at hF
  refine x_ct (by decide) rfl (Nat.le_of_ble_eq_true rfl) ?_
  show X mX6_between 5 112 _ _ 0 0 0 [(0, .ref this), (1, .int p0), (2, .int p1)] [] (f, n)
  refine x_iconst 0 (by decide) dX6_between_0 ?_
  refine x_istore_n (i := 3) (lv' := [(3, .int 0), (0, .ref this), (1, .int p0), (2, .int p1)]) dX6_between_1 rfl (by decide) rfl ?_
  refine x_aload_n 1 dX6_between_2 rfl rfl ?_
  obtain ⟨z1, hzz1, hF⟩ := x_bind hF
  obtain ⟨⟨fsz1, hbz1⟩, hzz1⟩ := x_cv_sp hzz1
  refine x_callv (As := []) (rest := []) 0 0 dX6_between_3 mi_X6_finds ml_X6_113 rfl rfl (Nat.le_of_ble_eq_true rfl) ⟨by decide, by decide⟩ (by omega) (by omega) hbz1 rfl (c_X6_finds N _ _ _ _ hzz1) (x_K.some ?_) x_KX.none
  refine x_istore (i := 4) (lv' := [(4, .int z1.1), (3, .int 0), (0, .ref this), (1, .int p0), (2, .int p1)]) dX6_between_6 (by decide) rfl ?_
  refine x_iconst 0 (by decide) dX6_between_8 ?_
  refine x_istore (i := 5) (lv' := [(5, .int 0), (4, .int z1.1), (3, .int 0), (0, .ref this), (1, .int p0), (2, .int p1)]) dX6_between_9 (by decide) rfl ?_
  refine x_sub [3, 4, 5, 2, 1, 0] rfl ?_
  refine w_X6_between_L11 N _ _ _ _ _ _ _ r _ _ _ hF (fun y3_7 y5_7 hF => ?_)
  refine x_iload_n 3 dX6_between_49 rfl rfl ?_
  exact x_iret dX6_between_50 rfl (by cases hF; rfl)
def F_X6_bound (N : Nat) (f : XM) (this : Nat) (p0 : Int32) : Option Int32 :=
  (x_getr f 6 this 0).bind fun v1 =>
  Option.bind v1 fun a2 =>
  (x_ald f a2 (1496 + p0)).bind fun v3 =>
  some v3
set_option maxRecDepth 20000 in
set_option maxHeartbeats 4000000 in
theorem c_X6_bound (N : Nat) (f : XM) (this : Nat) (p0 : Int32) (n : Nat) (r : Int32) (hF : F_X6_bound N f this p0 = some r) : x_Ct mX6_bound 0 0 0 0 [.ref this, .int p0] (f, n) (xr_ip r (f, n)) := by
  unfold F_X6_bound at hF
  refine x_ct (by decide) rfl (Nat.le_of_ble_eq_true rfl) ?_
  show X mX6_bound 0 0 _ _ 0 0 0 [(0, .ref this), (1, .int p0)] [] (f, n)
  refine x_aload_n 0 dX6_bound_0 rfl rfl ?_
  refine x_getr_r dX6_bound_1 fl_X6_7 hF (fun v1 hF => ?_)
  refine x_sipush 1496 (by decide) dX6_bound_4 ?_
  refine x_iload_n 1 dX6_bound_7 rfl rfl ?_
  refine x_iadd dX6_bound_8 ?_
  refine x_nn hF (fun a2 ha2 hF => ?_)
  rw [ha2]
  refine x_ald_r dX6_bound_9 hF (fun v3 hF => ?_)
  exact x_iret dX6_bound_10 rfl (by cases hF; rfl)
def F_X6_boundBy_L5 (N : Nat) (f : XM) (c0 : Nat) (c1 : Int32) (K : Int32 → Int32 → Option Int32) : Nat → Int32 → Int32 → Option Int32
  | 0, _, _ => none
  | k + 1, x3, x4 =>
    if c1 < x4 then
      K x3 x4
    else
      (x_getr f 6 c0 0).bind fun v2 =>
      Option.bind v2 fun a3 =>
      (x_ald f a3 3).bind fun v4 =>
      F_X6_boundBy_L5 N f c0 c1 K k (x3 * v4) (x4 + 1)
def F_X6_boundBy (N : Nat) (f : XM) (this : Nat) (p0 : Int32) (p1 : Int32) : Option Int32 :=
  F_X6_boundBy_L5 N f this p0 (fun y3_5 y4_5 =>
  (x_cv f 6 this (F_X6_bound N f this y3_5)).bind fun z6 =>
  some z6) N p1 0
set_option maxRecDepth 20000 in
set_option maxHeartbeats 4000000 in
theorem w_X6_boundBy_L5 (N : Nat) (f : XM) (c0 : Nat) (c1 : Int32) (K : Int32 → Int32 → Option Int32) (n : Nat) (r : Int32) {rc rs : Nat} : ∀ (k : Nat) (x3 : Int32) (x4 : Int32), F_X6_boundBy_L5 N f c0 c1 K k x3 x4 = some r → (∀ (x3 : Int32) (x4 : Int32), K x3 x4 = some r → X mX6_boundBy 1 21 (x_end (xr_ip r (f, n))) x_noRO rc rs 26 [(0, .ref c0), (1, .int c1), (3, .int x3), (4, .int x4)] [] (f, n)) → X mX6_boundBy 1 21 (x_end (xr_ip r (f, n))) x_noRO rc rs 5 [(0, .ref c0), (1, .int c1), (3, .int x3), (4, .int x4)] [] (f, n) := by
  intro k
  induction k with
  | zero =>
    intro x3 x4 hF
    exact absurd hF (by intro h9; cases h9)
  | succ k ih =>
    intro x3 x4 hF hK
    have ih := fun x3 x4 hF => ih x3 x4 hF hK
    rw [F_X6_boundBy_L5] at hF
    refine x_iload 3 dX6_boundBy_5 rfl ?_
    refine x_iload_n 1 dX6_boundBy_7 rfl rfl ?_
    refine x_icmp_gt 26 dX6_boundBy_8 (by decide) hF (fun hF => ?_) (fun hF => ?_)
    · refine x_sub [0, 1, 2, 3] rfl ?_
      exact hK _ _ hF
    · refine x_iload_n 2 dX6_boundBy_11 rfl rfl ?_
      refine x_aload_n 0 dX6_boundBy_12 rfl rfl ?_
      refine x_getr_r dX6_boundBy_13 fl_X6_7 hF (fun v2 hF => ?_)
      refine x_iconst 3 (by decide) dX6_boundBy_16 ?_
      refine x_nn hF (fun a3 ha3 hF => ?_)
      rw [ha3]
      refine x_ald_r dX6_boundBy_17 hF (fun v4 hF => ?_)
      refine x_imul dX6_boundBy_18 ?_
      refine x_istore_n (i := 3) (lv' := [(3, .int (x3 * v4)), (0, .ref c0), (1, .int c1), (4, .int x4)]) dX6_boundBy_19 rfl (by decide) rfl ?_
      refine x_iinc (x4 + 1) (lv' := [(4, .int (x4 + 1)), (3, .int (x3 * v4)), (0, .ref c0), (1, .int c1)]) dX6_boundBy_20 3 rfl (by rfl) (by decide) rfl ?_
      refine x_goto 5 dX6_boundBy_23 (by decide) ?_
      refine x_sub [2, 3, 1, 0] rfl ?_
      exact ih _ _ hF
set_option maxRecDepth 20000 in
set_option maxHeartbeats 4000000 in
theorem c_X6_boundBy (N : Nat) (f : XM) (this : Nat) (p0 : Int32) (p1 : Int32) (n : Nat) (r : Int32) (hF : F_X6_boundBy N f this p0 p1 = some r) : x_Ct mX6_boundBy 1 21 0 0 [.ref this, .int p0, .int p1] (f, n) (xr_ip r (f, n)) := by
  unfold F_X6_boundBy at hF
  refine x_ct (by decide) rfl (Nat.le_of_ble_eq_true rfl) ?_
  show X mX6_boundBy 1 21 _ _ 0 0 0 [(0, .ref this), (1, .int p0), (2, .int p1)] [] (f, n)
  refine x_iload_n 2 dX6_boundBy_0 rfl rfl ?_
  refine x_istore_n (i := 3) (lv' := [(3, .int p1), (0, .ref this), (1, .int p0), (2, .int p1)]) dX6_boundBy_1 rfl (by decide) rfl ?_
  refine x_iconst 0 (by decide) dX6_boundBy_2 ?_
  refine x_istore (i := 4) (lv' := [(4, .int 0), (3, .int p1), (0, .ref this), (1, .int p0), (2, .int p1)]) dX6_boundBy_3 (by decide) rfl ?_
  refine x_sub [2, 3, 1, 0] rfl ?_
  refine w_X6_boundBy_L5 N _ _ _ _ _ r _ _ _ hF (fun y3_5 y4_5 hF => ?_)
  refine x_aload_n 0 dX6_boundBy_26 rfl rfl ?_
  refine x_iload_n 2 dX6_boundBy_27 rfl rfl ?_
  obtain ⟨z6, hzz6, hF⟩ := x_bind hF
  obtain ⟨⟨fsz6, hbz6⟩, hzz6⟩ := x_cv_sp hzz6
  refine x_callv (As := [.int y3_5]) (rest := []) 0 0 dX6_boundBy_28 mi_X6_bound ml_X6_75 rfl rfl (Nat.le_of_ble_eq_true rfl) ⟨by decide, by decide⟩ (by omega) (by omega) hbz6 rfl (c_X6_bound N _ _ _ _ _ hzz6) (x_K.some ?_) x_KX.none
  exact x_iret dX6_boundBy_31 rfl (by cases hF; rfl)
def F_X6_isLevel (N : Nat) (f : XM) (this : Nat) (p0 : Int32) : Option Bool :=
  (x_cv f 6 this (F_X6_allLevels N f this)).bind fun z1 =>
  (F_X6_in N f p0 0 (z1 - 1)).bind fun z2 =>
  some z2
set_option maxRecDepth 20000 in
set_option maxHeartbeats 4000000 in
theorem c_X6_isLevel (N : Nat) (f : XM) (this : Nat) (p0 : Int32) (n : Nat) (r : Bool) (hF : F_X6_isLevel N f this p0 = some r) : x_Ct mX6_isLevel 2 44 0 0 [.ref this, .int p0] (f, n) (xr_zp r (f, n)) := by
  unfold F_X6_isLevel at hF
  refine x_ct (by decide) rfl (Nat.le_of_ble_eq_true rfl) ?_
  show X mX6_isLevel 2 44 _ _ 0 0 0 [(0, .ref this), (1, .int p0)] [] (f, n)
  refine x_iload_n 1 dX6_isLevel_0 rfl rfl ?_
  refine x_iconst 0 (by decide) dX6_isLevel_1 ?_
  refine x_aload_n 0 dX6_isLevel_2 rfl rfl ?_
  obtain ⟨z1, hzz1, hF⟩ := x_bind hF
  obtain ⟨⟨fsz1, hbz1⟩, hzz1⟩ := x_cv_sp hzz1
  refine x_callv (As := []) (rest := [.int 0, .int p0]) 0 0 dX6_isLevel_3 mi_X6_allLevels ml_X6_120 rfl rfl (Nat.le_of_ble_eq_true rfl) ⟨by decide, by decide⟩ (by omega) (by omega) hbz1 rfl (c_X6_allLevels N _ _ _ _ hzz1) (x_K.some ?_) x_KX.none
  refine x_iconst 1 (by decide) dX6_isLevel_6 ?_
  refine x_isub dX6_isLevel_7 ?_
  obtain ⟨z2, hzz2, hF⟩ := x_bind hF
  refine x_calls (As := [.int p0, .int 0, .int (z1 - 1)]) (rest := []) 0 0 dX6_isLevel_8 mi_X6_in rfl ml_X6_50 rfl rfl (Nat.le_of_ble_eq_true rfl) ⟨by decide, by decide⟩ (by omega) (by omega) (c_X6_in N _ _ _ _ _ _ hzz2) (x_K.some ?_) x_KX.none
  exact x_zret dX6_isLevel_11 rfl (x_b_01 z2) (by cases hF; rfl)
def F_X6_nodes_L10 (N : Nat) (f : XM) (c0 : Nat) (c1 : Int32) (K : Int32 → Int32 → Option Int32) : Nat → Int32 → Int32 → Option Int32
  | 0, _, _ => none
  | k + 1, x2, x3 =>
    if c1 < x3 then
      K x2 x3
    else
      (x_getr f 6 c0 0).bind fun v5 =>
      Option.bind v5 fun a6 =>
      (x_ald f a6 3).bind fun v7 =>
      (x_getr f 6 c0 0).bind fun v8 =>
      Option.bind v8 fun a9 =>
      (x_ald f a9 3).bind fun v10 =>
      (x_div ((x2 + v7) - 1) v10).bind fun v11 =>
      F_X6_nodes_L10 N f c0 c1 K k v11 (x3 + 1)
def F_X6_nodes (N : Nat) (f : XM) (this : Nat) (p0 : Int32) : Option Int32 :=
  (x_getr f 6 this 0).bind fun v1 =>
  Option.bind v1 fun a2 =>
  (x_ald f a2 8).bind fun v3 =>
  F_X6_nodes_L10 N f this p0 (fun y2_12 y3_12 =>
  some y2_12) N v3 0
set_option maxRecDepth 20000 in
set_option maxHeartbeats 4000000 in
theorem w_X6_nodes_L10 (N : Nat) (f : XM) (c0 : Nat) (c1 : Int32) (K : Int32 → Int32 → Option Int32) (n : Nat) (r : Int32) {rc rs : Nat} : ∀ (k : Nat) (x2 : Int32) (x3 : Int32), F_X6_nodes_L10 N f c0 c1 K k x2 x3 = some r → (∀ (x2 : Int32) (x3 : Int32), K x2 x3 = some r → X mX6_nodes 0 0 (x_end (xr_ip r (f, n))) x_noRO rc rs 39 [(0, .ref c0), (1, .int c1), (2, .int x2), (3, .int x3)] [] (f, n)) → X mX6_nodes 0 0 (x_end (xr_ip r (f, n))) x_noRO rc rs 10 [(0, .ref c0), (1, .int c1), (2, .int x2), (3, .int x3)] [] (f, n) := by
  intro k
  induction k with
  | zero =>
    intro x2 x3 hF
    exact absurd hF (by intro h9; cases h9)
  | succ k ih =>
    intro x2 x3 hF hK
    have ih := fun x2 x3 hF => ih x2 x3 hF hK
    rw [F_X6_nodes_L10] at hF
    refine x_iload_n 3 dX6_nodes_10 rfl rfl ?_
    refine x_iload_n 1 dX6_nodes_11 rfl rfl ?_
    refine x_icmp_gt 39 dX6_nodes_12 (by decide) hF (fun hF => ?_) (fun hF => ?_)
    · refine x_sub [0, 1, 2, 3] rfl ?_
      exact hK _ _ hF
    · refine x_iload_n 2 dX6_nodes_15 rfl rfl ?_
      refine x_aload_n 0 dX6_nodes_16 rfl rfl ?_
      refine x_getr_r dX6_nodes_17 fl_X6_7 hF (fun v5 hF => ?_)
      refine x_iconst 3 (by decide) dX6_nodes_20 ?_
      refine x_nn hF (fun a6 ha6 hF => ?_)
      rw [ha6]
      refine x_ald_r dX6_nodes_21 hF (fun v7 hF => ?_)
      refine x_iadd dX6_nodes_22 ?_
      refine x_iconst 1 (by decide) dX6_nodes_23 ?_
      refine x_isub dX6_nodes_24 ?_
      refine x_aload_n 0 dX6_nodes_25 rfl rfl ?_
      refine x_getr_r dX6_nodes_26 fl_X6_7 hF (fun v8 hF => ?_)
      refine x_iconst 3 (by decide) dX6_nodes_29 ?_
      refine x_nn hF (fun a9 ha9 hF => ?_)
      rw [ha9]
      refine x_ald_r dX6_nodes_30 hF (fun v10 hF => ?_)
      refine x_idiv dX6_nodes_31 hF (fun v11 hF => ?_)
      refine x_istore_n (i := 2) (lv' := [(2, .int v11), (0, .ref c0), (1, .int c1), (3, .int x3)]) dX6_nodes_32 rfl (by decide) rfl ?_
      refine x_iinc (x3 + 1) (lv' := [(3, .int (x3 + 1)), (2, .int v11), (0, .ref c0), (1, .int c1)]) dX6_nodes_33 3 rfl (by rfl) (by decide) rfl ?_
      refine x_goto 10 dX6_nodes_36 (by decide) ?_
      refine x_sub [2, 3, 1, 0] rfl ?_
      exact ih _ _ hF
set_option maxRecDepth 20000 in
set_option maxHeartbeats 4000000 in
theorem c_X6_nodes (N : Nat) (f : XM) (this : Nat) (p0 : Int32) (n : Nat) (r : Int32) (hF : F_X6_nodes N f this p0 = some r) : x_Ct mX6_nodes 0 0 0 0 [.ref this, .int p0] (f, n) (xr_ip r (f, n)) := by
  unfold F_X6_nodes at hF
  refine x_ct (by decide) rfl (Nat.le_of_ble_eq_true rfl) ?_
  show X mX6_nodes 0 0 _ _ 0 0 0 [(0, .ref this), (1, .int p0)] [] (f, n)
  refine x_aload_n 0 dX6_nodes_0 rfl rfl ?_
  refine x_getr_r dX6_nodes_1 fl_X6_7 hF (fun v1 hF => ?_)
  refine x_bipush 8 (by decide) dX6_nodes_4 ?_
  refine x_nn hF (fun a2 ha2 hF => ?_)
  rw [ha2]
  refine x_ald_r dX6_nodes_6 hF (fun v3 hF => ?_)
  refine x_istore_n (i := 2) (lv' := [(2, .int v3), (0, .ref this), (1, .int p0)]) dX6_nodes_7 rfl (by decide) rfl ?_
  refine x_iconst 0 (by decide) dX6_nodes_8 ?_
  refine x_istore_n (i := 3) (lv' := [(3, .int 0), (2, .int v3), (0, .ref this), (1, .int p0)]) dX6_nodes_9 rfl (by decide) rfl ?_
  refine x_sub [2, 3, 1, 0] rfl ?_
  refine w_X6_nodes_L10 N _ _ _ _ _ r _ _ _ hF (fun y2_12 y3_12 hF => ?_)
  refine x_iload_n 2 dX6_nodes_39 rfl rfl ?_
  exact x_iret dX6_nodes_40 rfl (by cases hF; rfl)
def F_X6_isNode (N : Nat) (f : XM) (this : Nat) (p0 : Int32) (p1 : Int32) : Option Bool :=
  (x_cv f 6 this (F_X6_isLevel N f this p0)).bind fun z1 =>
  if (x_b z1) = 0 then
    some false
  else
    (x_cv f 6 this (F_X6_nodes N f this p0)).bind fun z2 =>
    (F_X6_in N f p1 0 (z2 - 1)).bind fun z3 =>
    if (x_b z3) = 0 then
      some false
    else
      some true
set_option maxRecDepth 20000 in
set_option maxHeartbeats 4000000 in
theorem c_X6_isNode (N : Nat) (f : XM) (this : Nat) (p0 : Int32) (p1 : Int32) (n : Nat) (r : Bool) (hF : F_X6_isNode N f this p0 p1 = some r) : x_Ct mX6_isNode 3 65 0 0 [.ref this, .int p0, .int p1] (f, n) (xr_zp r (f, n)) := by
  unfold F_X6_isNode at hF
  refine x_ct (by decide) rfl (Nat.le_of_ble_eq_true rfl) ?_
  show X mX6_isNode 3 65 _ _ 0 0 0 [(0, .ref this), (1, .int p0), (2, .int p1)] [] (f, n)
  refine x_aload_n 0 dX6_isNode_0 rfl rfl ?_
  refine x_iload_n 1 dX6_isNode_1 rfl rfl ?_
  obtain ⟨z1, hzz1, hF⟩ := x_bind hF
  obtain ⟨⟨fsz1, hbz1⟩, hzz1⟩ := x_cv_sp hzz1
  refine x_callv (As := [.int p0]) (rest := []) 0 0 dX6_isNode_2 mi_X6_isLevel ml_X6_249 rfl rfl (Nat.le_of_ble_eq_true rfl) ⟨by decide, by decide⟩ (by omega) (by omega) hbz1 rfl (c_X6_isLevel N _ _ _ _ _ hzz1) (x_K.some ?_) x_KX.none
  refine x_if_eq 27 dX6_isNode_5 (by decide) hF (fun hF => ?_) (fun hF => ?_)
  · refine x_iconst 0 (by decide) dX6_isNode_27 ?_
    exact x_zret dX6_isNode_28 rfl (Or.inl rfl) (by cases hF; rfl)
  · refine x_iload_n 2 dX6_isNode_8 rfl rfl ?_
    refine x_iconst 0 (by decide) dX6_isNode_9 ?_
    refine x_aload_n 0 dX6_isNode_10 rfl rfl ?_
    refine x_iload_n 1 dX6_isNode_11 rfl rfl ?_
    obtain ⟨z2, hzz2, hF⟩ := x_bind hF
    obtain ⟨⟨fsz2, hbz2⟩, hzz2⟩ := x_cv_sp hzz2
    refine x_callv (As := [.int p0]) (rest := [.int 0, .int p1]) 0 0 dX6_isNode_12 mi_X6_nodes ml_X6_252 rfl rfl (Nat.le_of_ble_eq_true rfl) ⟨by decide, by decide⟩ (by omega) (by omega) hbz2 rfl (c_X6_nodes N _ _ _ _ _ hzz2) (x_K.some ?_) x_KX.none
    refine x_iconst 1 (by decide) dX6_isNode_15 ?_
    refine x_isub dX6_isNode_16 ?_
    obtain ⟨z3, hzz3, hF⟩ := x_bind hF
    refine x_calls (As := [.int p1, .int 0, .int (z2 - 1)]) (rest := []) 0 0 dX6_isNode_17 mi_X6_in rfl ml_X6_50 rfl rfl (Nat.le_of_ble_eq_true rfl) ⟨by decide, by decide⟩ (by omega) (by omega) (c_X6_in N _ _ _ _ _ _ hzz3) (x_K.some ?_) x_KX.none
    refine x_if_eq 27 dX6_isNode_20 (by decide) hF (fun hF => ?_) (fun hF => ?_)
    · refine x_iconst 0 (by decide) dX6_isNode_27 ?_
      exact x_zret dX6_isNode_28 rfl (Or.inl rfl) (by cases hF; rfl)
    · refine x_iconst 1 (by decide) dX6_isNode_23 ?_
      refine x_goto 28 dX6_isNode_24 (by decide) ?_
      exact x_zret dX6_isNode_28 rfl (Or.inr rfl) (by cases hF; rfl)
def F_X6_boundOf (N : Nat) (f : XM) (this : Nat) (p0 : Int32) (p1 : Int32) : Option (Int32 × XM) :=
  (x_cv f 6 this (F_X6_isNode N f this p0 p1)).bind fun z1 =>
  if (x_b z1) = 0 then
    (x_puti f 6 this 11 1).bind fun f2 =>
    (x_geti f2 6 this 11).bind fun v3 =>
    if v3 ≤ 0 then
      (x_cv f2 6 this (F_X6_boundBy N f2 this p0 p1)).bind fun z4 =>
      some (z4, f2)
    else
      some (0, f2)
  else
    (x_puti f 6 this 11 0).bind fun f5 =>
    (x_geti f5 6 this 11).bind fun v6 =>
    if v6 ≤ 0 then
      (x_cv f5 6 this (F_X6_boundBy N f5 this p0 p1)).bind fun z7 =>
      some (z7, f5)
    else
      some (0, f5)
set_option maxRecDepth 20000 in
set_option maxHeartbeats 4000000 in
theorem c_X6_boundOf (N : Nat) (f : XM) (this : Nat) (p0 : Int32) (p1 : Int32) (n : Nat) (r : (Int32 × XM)) (hF : F_X6_boundOf N f this p0 p1 = some r) : x_Ct mX6_boundOf 4 87 0 0 [.ref this, .int p0, .int p1] (f, n) (xr_im r n) := by
  unfold F_X6_boundOf at hF
  refine x_ct (by decide) rfl (Nat.le_of_ble_eq_true rfl) ?_
  show X mX6_boundOf 4 87 _ _ 0 0 0 [(0, .ref this), (1, .int p0), (2, .int p1)] [] (f, n)
  refine x_aload_n 0 dX6_boundOf_0 rfl rfl ?_
  refine x_aload_n 0 dX6_boundOf_1 rfl rfl ?_
  refine x_iload_n 1 dX6_boundOf_2 rfl rfl ?_
  refine x_iload_n 2 dX6_boundOf_3 rfl rfl ?_
  obtain ⟨z1, hzz1, hF⟩ := x_bind hF
  obtain ⟨⟨fsz1, hbz1⟩, hzz1⟩ := x_cv_sp hzz1
  refine x_callv (As := [.int p0, .int p1]) (rest := [.ref this]) 0 0 dX6_boundOf_4 mi_X6_isNode ml_X6_255 rfl rfl (Nat.le_of_ble_eq_true rfl) ⟨by decide, by decide⟩ (by omega) (by omega) hbz1 rfl (c_X6_isNode N _ _ _ _ _ _ hzz1) (x_K.some ?_) x_KX.none
  refine x_if_eq 14 dX6_boundOf_7 (by decide) hF (fun hF => ?_) (fun hF => ?_)
  · refine x_iconst 1 (by decide) dX6_boundOf_14 ?_
    refine x_puti_r dX6_boundOf_15 fl_X6_38 (fun h9 => by cases h9) hF (fun f2 hF => ?_)
    refine x_aload_n 0 dX6_boundOf_18 rfl rfl ?_
    refine x_geti_r dX6_boundOf_19 fl_X6_38 hF (fun v3 hF => ?_)
    refine x_if_le 29 dX6_boundOf_22 (by decide) hF (fun hF => ?_) (fun hF => ?_)
    · refine x_aload_n 0 dX6_boundOf_29 rfl rfl ?_
      refine x_iload_n 1 dX6_boundOf_30 rfl rfl ?_
      refine x_iload_n 2 dX6_boundOf_31 rfl rfl ?_
      obtain ⟨z4, hzz4, hF⟩ := x_bind hF
      obtain ⟨⟨fsz4, hbz4⟩, hzz4⟩ := x_cv_sp hzz4
      refine x_callv (As := [.int p0, .int p1]) (rest := []) 0 0 dX6_boundOf_32 mi_X6_boundBy ml_X6_261 rfl rfl (Nat.le_of_ble_eq_true rfl) ⟨by decide, by decide⟩ (by omega) (by omega) hbz4 rfl (c_X6_boundBy N _ _ _ _ _ _ hzz4) (x_K.some ?_) x_KX.none
      exact x_iret dX6_boundOf_35 rfl (by cases hF; rfl)
    · refine x_iconst 0 (by decide) dX6_boundOf_25 ?_
      refine x_goto 35 dX6_boundOf_26 (by decide) ?_
      exact x_iret dX6_boundOf_35 rfl (by cases hF; rfl)
  · refine x_iconst 0 (by decide) dX6_boundOf_10 ?_
    refine x_goto 15 dX6_boundOf_11 (by decide) ?_
    refine x_puti_r dX6_boundOf_15 fl_X6_38 (fun h9 => by cases h9) hF (fun f5 hF => ?_)
    refine x_aload_n 0 dX6_boundOf_18 rfl rfl ?_
    refine x_geti_r dX6_boundOf_19 fl_X6_38 hF (fun v6 hF => ?_)
    refine x_if_le 29 dX6_boundOf_22 (by decide) hF (fun hF => ?_) (fun hF => ?_)
    · refine x_aload_n 0 dX6_boundOf_29 rfl rfl ?_
      refine x_iload_n 1 dX6_boundOf_30 rfl rfl ?_
      refine x_iload_n 2 dX6_boundOf_31 rfl rfl ?_
      obtain ⟨z7, hzz7, hF⟩ := x_bind hF
      obtain ⟨⟨fsz7, hbz7⟩, hzz7⟩ := x_cv_sp hzz7
      refine x_callv (As := [.int p0, .int p1]) (rest := []) 0 0 dX6_boundOf_32 mi_X6_boundBy ml_X6_261 rfl rfl (Nat.le_of_ble_eq_true rfl) ⟨by decide, by decide⟩ (by omega) (by omega) hbz7 rfl (c_X6_boundBy N _ _ _ _ _ _ hzz7) (x_K.some ?_) x_KX.none
      exact x_iret dX6_boundOf_35 rfl (by cases hF; rfl)
    · refine x_iconst 0 (by decide) dX6_boundOf_25 ?_
      refine x_goto 35 dX6_boundOf_26 (by decide) ?_
      exact x_iret dX6_boundOf_35 rfl (by cases hF; rfl)
def F_X6_isFill (N : Nat) (f : XM) (p0 : Int32) : Option Bool :=
  (F_X6_in N f p0 50 100).bind fun z1 =>
  some z1
set_option maxRecDepth 20000 in
set_option maxHeartbeats 4000000 in
theorem c_X6_isFill (N : Nat) (f : XM) (p0 : Int32) (n : Nat) (r : Bool) (hF : F_X6_isFill N f p0 = some r) : x_Ct mX6_isFill 1 22 0 0 [.int p0] (f, n) (xr_zp r (f, n)) := by
  unfold F_X6_isFill at hF
  refine x_ct (by decide) rfl (Nat.le_of_ble_eq_true rfl) ?_
  show X mX6_isFill 1 22 _ _ 0 0 0 [(0, .int p0)] [] (f, n)
  refine x_iload_n 0 dX6_isFill_0 rfl rfl ?_
  refine x_bipush 50 (by decide) dX6_isFill_1 ?_
  refine x_bipush 100 (by decide) dX6_isFill_3 ?_
  obtain ⟨z1, hzz1, hF⟩ := x_bind hF
  refine x_calls (As := [.int p0, .int 50, .int 100]) (rest := []) 0 0 dX6_isFill_5 mi_X6_in rfl ml_X6_50 rfl rfl (Nat.le_of_ble_eq_true rfl) ⟨by decide, by decide⟩ (by omega) (by omega) (c_X6_in N _ _ _ _ _ _ hzz1) (x_K.some ?_) x_KX.none
  exact x_zret dX6_isFill_8 rfl (x_b_01 z1) (by cases hF; rfl)
def F_X6_canBuild (N : Nat) (f : XM) (this : Nat) : Option (Bool × XM) :=
  (x_cv f 6 this (F_X6_finds N f this)).bind fun z1 =>
  if 160 < z1.1 then
    some (false, z1.2)
  else
    some (true, z1.2)
set_option maxRecDepth 20000 in
set_option maxHeartbeats 4000000 in
theorem c_X6_canBuild (N : Nat) (f : XM) (this : Nat) (n : Nat) (r : (Bool × XM)) (hF : F_X6_canBuild N f this = some r) : x_Ct mX6_canBuild 5 112 0 0 [.ref this] (f, n) (xr_zm r n) := by
  unfold F_X6_canBuild at hF
  refine x_ct (by decide) rfl (Nat.le_of_ble_eq_true rfl) ?_
  show X mX6_canBuild 5 112 _ _ 0 0 0 [(0, .ref this)] [] (f, n)
  refine x_aload_n 0 dX6_canBuild_0 rfl rfl ?_
  obtain ⟨z1, hzz1, hF⟩ := x_bind hF
  obtain ⟨⟨fsz1, hbz1⟩, hzz1⟩ := x_cv_sp hzz1
  refine x_callv (As := []) (rest := []) 0 0 dX6_canBuild_1 mi_X6_finds ml_X6_113 rfl rfl (Nat.le_of_ble_eq_true rfl) ⟨by decide, by decide⟩ (by omega) (by omega) hbz1 rfl (c_X6_finds N _ _ _ _ hzz1) (x_K.some ?_) x_KX.none
  refine x_sipush 160 (by decide) dX6_canBuild_4 ?_
  refine x_icmp_gt 14 dX6_canBuild_7 (by decide) hF (fun hF => ?_) (fun hF => ?_)
  · refine x_iconst 0 (by decide) dX6_canBuild_14 ?_
    exact x_zret dX6_canBuild_15 rfl (Or.inl rfl) (by cases hF; rfl)
  · refine x_iconst 1 (by decide) dX6_canBuild_10 ?_
    refine x_goto 15 dX6_canBuild_11 (by decide) ?_
    exact x_zret dX6_canBuild_15 rfl (Or.inr rfl) (by cases hF; rfl)
def F_X6_makes_L108 (N : Nat) (c0 : Nat) (c2 : Int32) (c4 : Int32) (K : Int32 → XM → Option (Int32 × XM)) : Nat → Int32 → XM → Option (Int32 × XM)
  | 0, _, _ => none
  | k + 1, x5, f =>
    if c2 ≤ x5 then
      K x5 f
    else
      (x_rem x5 c4).bind fun v39 =>
      if v39 = 0 then
        (x_getr f 6 c0 0).bind fun v50 =>
        (x_getr f 6 c0 0).bind fun v51 =>
        Option.bind v51 fun a52 =>
        (x_ald f a52 8).bind fun v53 =>
        if x5 = 0 then
          Option.bind v50 fun a73 =>
          (x_ast f a73 (1496 + v53) 0).bind fun f74 =>
          (x_getr f74 6 c0 0).bind fun v75 =>
          Option.bind v75 fun a76 =>
          (x_ald f74 a76 8).bind fun v77 =>
          (x_ast f74 a76 8 (v77 + 1)).bind fun f78 =>
          (x_getr f78 6 c0 7).bind fun v79 =>
          Option.bind v79 fun a80 =>
          (x_ald f78 a80 (2 * x5)).bind fun v81 =>
          (x_getr f78 6 c0 7).bind fun v82 =>
          Option.bind v82 fun a83 =>
          (x_ald f78 a83 ((2 * x5) + 1)).bind fun v84 =>
          (x_getr f78 6 c0 0).bind fun v85 =>
          Option.bind v85 fun a86 =>
          (x_ald f78 a86 8).bind fun v87 =>
          (x_cv f78 6 c0 (F_X6_adds N f78 c0 v81 v84 (v87 - 1) 0)).bind fun z88 =>
          F_X6_makes_L108 N c0 c2 c4 K k (x5 + 1) z88
        else
          (x_getr f 6 c0 7).bind fun v54 =>
          Option.bind v54 fun a55 =>
          (x_ald f a55 (2 * x5)).bind fun v56 =>
          Option.bind v50 fun a57 =>
          (x_ast f a57 (1496 + v53) v56).bind fun f58 =>
          (x_getr f58 6 c0 0).bind fun v59 =>
          Option.bind v59 fun a60 =>
          (x_ald f58 a60 8).bind fun v61 =>
          (x_ast f58 a60 8 (v61 + 1)).bind fun f62 =>
          (x_getr f62 6 c0 7).bind fun v63 =>
          Option.bind v63 fun a64 =>
          (x_ald f62 a64 (2 * x5)).bind fun v65 =>
          (x_getr f62 6 c0 7).bind fun v66 =>
          Option.bind v66 fun a67 =>
          (x_ald f62 a67 ((2 * x5) + 1)).bind fun v68 =>
          (x_getr f62 6 c0 0).bind fun v69 =>
          Option.bind v69 fun a70 =>
          (x_ald f62 a70 8).bind fun v71 =>
          (x_cv f62 6 c0 (F_X6_adds N f62 c0 v65 v68 (v71 - 1) 0)).bind fun z72 =>
          F_X6_makes_L108 N c0 c2 c4 K k (x5 + 1) z72
      else
        (x_getr f 6 c0 7).bind fun v40 =>
        Option.bind v40 fun a41 =>
        (x_ald f a41 (2 * x5)).bind fun v42 =>
        (x_getr f 6 c0 7).bind fun v43 =>
        Option.bind v43 fun a44 =>
        (x_ald f a44 ((2 * x5) + 1)).bind fun v45 =>
        (x_getr f 6 c0 0).bind fun v46 =>
        Option.bind v46 fun a47 =>
        (x_ald f a47 8).bind fun v48 =>
        (x_cv f 6 c0 (F_X6_adds N f c0 v42 v45 (v48 - 1) 0)).bind fun z49 =>
        F_X6_makes_L108 N c0 c2 c4 K k (x5 + 1) z49
def F_X6_makes (N : Nat) (f : XM) (this : Nat) (p0 : Int32) : Option (Int32 × XM) :=
  (x_cv f 6 this (F_X6_finds N f this)).bind fun z1 =>
  (x_getr z1.2 6 this 0).bind fun v2 =>
  Option.bind v2 fun a3 =>
  (x_ald z1.2 a3 0).bind fun v4 =>
  (x_div (v4 * p0) 100).bind fun v5 =>
  if 1 ≤ v5 then
    (x_getr z1.2 6 this 0).bind fun v6 =>
    (x_getr z1.2 6 this 0).bind fun v7 =>
    Option.bind v7 fun a8 =>
    (x_ald z1.2 a8 0).bind fun v9 =>
    Option.bind v6 fun a10 =>
    (x_ast z1.2 a10 2 v9).bind fun f11 =>
    (x_getr f11 6 this 0).bind fun v12 =>
    (x_getr f11 6 this 0).bind fun v13 =>
    Option.bind v13 fun a14 =>
    (x_ald f11 a14 1).bind fun v15 =>
    Option.bind v12 fun a16 =>
    (x_ast f11 a16 3 v15).bind fun f17 =>
    (x_getr f17 6 this 0).bind fun v18 =>
    Option.bind v18 fun a19 =>
    (x_ald f17 a19 4).bind fun v20 =>
    (x_ast f17 a19 4 (v20 + 1)).bind fun f21 =>
    (x_getr f21 6 this 0).bind fun v22 =>
    Option.bind v22 fun a23 =>
    (x_ald f21 a23 5).bind fun v24 =>
    (x_ast f21 a23 5 (v24 + z1.1)).bind fun f25 =>
    (x_getr f25 6 this 0).bind fun v26 =>
    Option.bind v26 fun a27 =>
    (x_ast f25 a27 6 0).bind fun f28 =>
    (x_getr f28 6 this 0).bind fun v29 =>
    Option.bind v29 fun a30 =>
    (x_ast f28 a30 9 0).bind fun f31 =>
    (x_getr f31 6 this 0).bind fun v32 =>
    Option.bind v32 fun a33 =>
    (x_ast f31 a33 7 0).bind fun f34 =>
    (x_getr f34 6 this 0).bind fun v35 =>
    Option.bind v35 fun a36 =>
    (x_ast f34 a36 8 0).bind fun f37 =>
    F_X6_makes_L108 N this z1.1 v5 (fun y5_89 g89 =>
    (x_getr g89 6 this 0).bind fun v90 =>
    Option.bind v90 fun a91 =>
    (x_ald g89 a91 8).bind fun v92 =>
    some (v92, g89)) N 0 f37
  else
    (x_getr z1.2 6 this 0).bind fun v93 =>
    (x_getr z1.2 6 this 0).bind fun v94 =>
    Option.bind v94 fun a95 =>
    (x_ald z1.2 a95 0).bind fun v96 =>
    Option.bind v93 fun a97 =>
    (x_ast z1.2 a97 2 v96).bind fun f98 =>
    (x_getr f98 6 this 0).bind fun v99 =>
    (x_getr f98 6 this 0).bind fun v100 =>
    Option.bind v100 fun a101 =>
    (x_ald f98 a101 1).bind fun v102 =>
    Option.bind v99 fun a103 =>
    (x_ast f98 a103 3 v102).bind fun f104 =>
    (x_getr f104 6 this 0).bind fun v105 =>
    Option.bind v105 fun a106 =>
    (x_ald f104 a106 4).bind fun v107 =>
    (x_ast f104 a106 4 (v107 + 1)).bind fun f108 =>
    (x_getr f108 6 this 0).bind fun v109 =>
    Option.bind v109 fun a110 =>
    (x_ald f108 a110 5).bind fun v111 =>
    (x_ast f108 a110 5 (v111 + z1.1)).bind fun f112 =>
    (x_getr f112 6 this 0).bind fun v113 =>
    Option.bind v113 fun a114 =>
    (x_ast f112 a114 6 0).bind fun f115 =>
    (x_getr f115 6 this 0).bind fun v116 =>
    Option.bind v116 fun a117 =>
    (x_ast f115 a117 9 0).bind fun f118 =>
    (x_getr f118 6 this 0).bind fun v119 =>
    Option.bind v119 fun a120 =>
    (x_ast f118 a120 7 0).bind fun f121 =>
    (x_getr f121 6 this 0).bind fun v122 =>
    Option.bind v122 fun a123 =>
    (x_ast f121 a123 8 0).bind fun f124 =>
    F_X6_makes_L108 N this z1.1 1 (fun y5_176 g176 =>
    (x_getr g176 6 this 0).bind fun v177 =>
    Option.bind v177 fun a178 =>
    (x_ald g176 a178 8).bind fun v179 =>
    some (v179, g176)) N 0 f124
set_option maxRecDepth 20000 in
set_option maxHeartbeats 4000000 in
theorem w_X6_makes_L108 (N : Nat) (c0 : Nat) (c2 : Int32) (c4 : Int32) (K : Int32 → XM → Option (Int32 × XM)) (n : Nat) (r : (Int32 × XM)) {rc rs : Nat} : ∀ (k : Nat) (x5 : Int32) (f : XM), F_X6_makes_L108 N c0 c2 c4 K k x5 f = some r → (∀ (x5 : Int32) (f : XM), K x5 f = some r → X mX6_makes 5 112 (x_end (xr_im r n)) x_noRO rc rs 207 [(0, .ref c0), (2, .int c2), (4, .int c4), (5, .int x5)] [] (f, n)) → X mX6_makes 5 112 (x_end (xr_im r n)) x_noRO rc rs 108 [(0, .ref c0), (2, .int c2), (4, .int c4), (5, .int x5)] [] (f, n) := by
  intro k
  induction k with
  | zero =>
    intro x5 f hF
    exact absurd hF (by intro h9; cases h9)
  | succ k ih =>
    intro x5 f hF hK
    have ih := fun x5 f hF => ih x5 f hF hK
    rw [F_X6_makes_L108] at hF
    refine x_iload 3 dX6_makes_108 rfl ?_
    refine x_iload_n 1 dX6_makes_110 rfl rfl ?_
    refine x_icmp_ge 207 dX6_makes_111 (by decide) hF (fun hF => ?_) (fun hF => ?_)
    · refine x_sub [0, 1, 2, 3] rfl ?_
      exact hK _ _ hF
    · refine x_iload 3 dX6_makes_114 rfl ?_
      refine x_iload 2 dX6_makes_116 rfl ?_
      refine x_irem dX6_makes_118 hF (fun v39 hF => ?_)
      refine x_if_ne 167 dX6_makes_119 (by decide) hF (fun hF => ?_) (fun hF => ?_)
      · refine x_aload_n 0 dX6_makes_167 rfl rfl ?_
        refine x_aload_n 0 dX6_makes_168 rfl rfl ?_
        refine x_getr_r dX6_makes_169 fl_X6_29 hF (fun v40 hF => ?_)
        refine x_iconst 2 (by decide) dX6_makes_172 ?_
        refine x_iload 3 dX6_makes_173 rfl ?_
        refine x_imul dX6_makes_175 ?_
        refine x_nn hF (fun a41 ha41 hF => ?_)
        rw [ha41]
        refine x_ald_r dX6_makes_176 hF (fun v42 hF => ?_)
        refine x_aload_n 0 dX6_makes_177 rfl rfl ?_
        refine x_getr_r dX6_makes_178 fl_X6_29 hF (fun v43 hF => ?_)
        refine x_iconst 2 (by decide) dX6_makes_181 ?_
        refine x_iload 3 dX6_makes_182 rfl ?_
        refine x_imul dX6_makes_184 ?_
        refine x_iconst 1 (by decide) dX6_makes_185 ?_
        refine x_iadd dX6_makes_186 ?_
        refine x_nn hF (fun a44 ha44 hF => ?_)
        rw [ha44]
        refine x_ald_r dX6_makes_187 hF (fun v45 hF => ?_)
        refine x_aload_n 0 dX6_makes_188 rfl rfl ?_
        refine x_getr_r dX6_makes_189 fl_X6_7 hF (fun v46 hF => ?_)
        refine x_bipush 8 (by decide) dX6_makes_192 ?_
        refine x_nn hF (fun a47 ha47 hF => ?_)
        rw [ha47]
        refine x_ald_r dX6_makes_194 hF (fun v48 hF => ?_)
        refine x_iconst 1 (by decide) dX6_makes_195 ?_
        refine x_isub dX6_makes_196 ?_
        refine x_iconst 0 (by decide) dX6_makes_197 ?_
        obtain ⟨z49, hzz49, hF⟩ := x_bind hF
        obtain ⟨⟨fsz49, hbz49⟩, hzz49⟩ := x_cv_sp hzz49
        refine x_callv (As := [.int v42, .int v45, .int (v48 - 1), .int 0]) (rest := []) (rc + 0) (rs + 0) dX6_makes_198 mi_X6_adds ml_X6_81 rfl rfl (Nat.le_of_ble_eq_true rfl) ⟨by decide, by decide⟩ (by omega) (by omega) hbz49 rfl (c_X6_adds N _ _ _ _ _ _ _ _ hzz49) (x_K.none ?_) x_KX.none
        refine x_iinc (x5 + 1) (lv' := [(5, .int (x5 + 1)), (0, .ref c0), (2, .int c2), (4, .int c4)]) dX6_makes_201 3 rfl (by rfl) (by decide) rfl ?_
        refine x_goto 108 dX6_makes_204 (by decide) ?_
        refine x_sub [1, 2, 3, 0] rfl ?_
        exact ih _ _ hF
      · refine x_aload_n 0 dX6_makes_122 rfl rfl ?_
        refine x_getr_r dX6_makes_123 fl_X6_7 hF (fun v50 hF => ?_)
        refine x_sipush 1496 (by decide) dX6_makes_126 ?_
        refine x_aload_n 0 dX6_makes_129 rfl rfl ?_
        refine x_getr_r dX6_makes_130 fl_X6_7 hF (fun v51 hF => ?_)
        refine x_bipush 8 (by decide) dX6_makes_133 ?_
        refine x_nn hF (fun a52 ha52 hF => ?_)
        rw [ha52]
        refine x_ald_r dX6_makes_135 hF (fun v53 hF => ?_)
        refine x_iadd dX6_makes_136 ?_
        refine x_iload 3 dX6_makes_137 rfl ?_
        refine x_if_ne 146 dX6_makes_139 (by decide) hF (fun hF => ?_) (fun hF => ?_)
        · refine x_aload_n 0 dX6_makes_146 rfl rfl ?_
          refine x_getr_r dX6_makes_147 fl_X6_29 hF (fun v54 hF => ?_)
          refine x_iconst 2 (by decide) dX6_makes_150 ?_
          refine x_iload 3 dX6_makes_151 rfl ?_
          refine x_imul dX6_makes_153 ?_
          refine x_nn hF (fun a55 ha55 hF => ?_)
          rw [ha55]
          refine x_ald_r dX6_makes_154 hF (fun v56 hF => ?_)
          refine x_nn hF (fun a57 ha57 hF => ?_)
          rw [ha57]
          refine x_ast_r dX6_makes_155 hF (fun f58 hF => ?_)
          refine x_aload_n 0 dX6_makes_156 rfl rfl ?_
          refine x_getr_r dX6_makes_157 fl_X6_7 hF (fun v59 hF => ?_)
          refine x_bipush 8 (by decide) dX6_makes_160 ?_
          refine x_nn hF (fun a60 ha60 hF => ?_)
          rw [ha60]
          refine x_dup2ri dX6_makes_162 ?_
          refine x_ald_r dX6_makes_163 hF (fun v61 hF => ?_)
          refine x_iconst 1 (by decide) dX6_makes_164 ?_
          refine x_iadd dX6_makes_165 ?_
          refine x_ast_r dX6_makes_166 hF (fun f62 hF => ?_)
          refine x_aload_n 0 dX6_makes_167 rfl rfl ?_
          refine x_aload_n 0 dX6_makes_168 rfl rfl ?_
          refine x_getr_r dX6_makes_169 fl_X6_29 hF (fun v63 hF => ?_)
          refine x_iconst 2 (by decide) dX6_makes_172 ?_
          refine x_iload 3 dX6_makes_173 rfl ?_
          refine x_imul dX6_makes_175 ?_
          refine x_nn hF (fun a64 ha64 hF => ?_)
          rw [ha64]
          refine x_ald_r dX6_makes_176 hF (fun v65 hF => ?_)
          refine x_aload_n 0 dX6_makes_177 rfl rfl ?_
          refine x_getr_r dX6_makes_178 fl_X6_29 hF (fun v66 hF => ?_)
          refine x_iconst 2 (by decide) dX6_makes_181 ?_
          refine x_iload 3 dX6_makes_182 rfl ?_
          refine x_imul dX6_makes_184 ?_
          refine x_iconst 1 (by decide) dX6_makes_185 ?_
          refine x_iadd dX6_makes_186 ?_
          refine x_nn hF (fun a67 ha67 hF => ?_)
          rw [ha67]
          refine x_ald_r dX6_makes_187 hF (fun v68 hF => ?_)
          refine x_aload_n 0 dX6_makes_188 rfl rfl ?_
          refine x_getr_r dX6_makes_189 fl_X6_7 hF (fun v69 hF => ?_)
          refine x_bipush 8 (by decide) dX6_makes_192 ?_
          refine x_nn hF (fun a70 ha70 hF => ?_)
          rw [ha70]
          refine x_ald_r dX6_makes_194 hF (fun v71 hF => ?_)
          refine x_iconst 1 (by decide) dX6_makes_195 ?_
          refine x_isub dX6_makes_196 ?_
          refine x_iconst 0 (by decide) dX6_makes_197 ?_
          obtain ⟨z72, hzz72, hF⟩ := x_bind hF
          obtain ⟨⟨fsz72, hbz72⟩, hzz72⟩ := x_cv_sp hzz72
          refine x_callv (As := [.int v65, .int v68, .int (v71 - 1), .int 0]) (rest := []) (rc + 0) (rs + 0) dX6_makes_198 mi_X6_adds ml_X6_81 rfl rfl (Nat.le_of_ble_eq_true rfl) ⟨by decide, by decide⟩ (by omega) (by omega) hbz72 rfl (c_X6_adds N _ _ _ _ _ _ _ _ hzz72) (x_K.none ?_) x_KX.none
          refine x_iinc (x5 + 1) (lv' := [(5, .int (x5 + 1)), (0, .ref c0), (2, .int c2), (4, .int c4)]) dX6_makes_201 3 rfl (by rfl) (by decide) rfl ?_
          refine x_goto 108 dX6_makes_204 (by decide) ?_
          refine x_sub [1, 2, 3, 0] rfl ?_
          exact ih _ _ hF
        · refine x_iconst 0 (by decide) dX6_makes_142 ?_
          refine x_goto 155 dX6_makes_143 (by decide) ?_
          refine x_nn hF (fun a73 ha73 hF => ?_)
          rw [ha73]
          refine x_ast_r dX6_makes_155 hF (fun f74 hF => ?_)
          refine x_aload_n 0 dX6_makes_156 rfl rfl ?_
          refine x_getr_r dX6_makes_157 fl_X6_7 hF (fun v75 hF => ?_)
          refine x_bipush 8 (by decide) dX6_makes_160 ?_
          refine x_nn hF (fun a76 ha76 hF => ?_)
          rw [ha76]
          refine x_dup2ri dX6_makes_162 ?_
          refine x_ald_r dX6_makes_163 hF (fun v77 hF => ?_)
          refine x_iconst 1 (by decide) dX6_makes_164 ?_
          refine x_iadd dX6_makes_165 ?_
          refine x_ast_r dX6_makes_166 hF (fun f78 hF => ?_)
          refine x_aload_n 0 dX6_makes_167 rfl rfl ?_
          refine x_aload_n 0 dX6_makes_168 rfl rfl ?_
          refine x_getr_r dX6_makes_169 fl_X6_29 hF (fun v79 hF => ?_)
          refine x_iconst 2 (by decide) dX6_makes_172 ?_
          refine x_iload 3 dX6_makes_173 rfl ?_
          refine x_imul dX6_makes_175 ?_
          refine x_nn hF (fun a80 ha80 hF => ?_)
          rw [ha80]
          refine x_ald_r dX6_makes_176 hF (fun v81 hF => ?_)
          refine x_aload_n 0 dX6_makes_177 rfl rfl ?_
          refine x_getr_r dX6_makes_178 fl_X6_29 hF (fun v82 hF => ?_)
          refine x_iconst 2 (by decide) dX6_makes_181 ?_
          refine x_iload 3 dX6_makes_182 rfl ?_
          refine x_imul dX6_makes_184 ?_
          refine x_iconst 1 (by decide) dX6_makes_185 ?_
          refine x_iadd dX6_makes_186 ?_
          refine x_nn hF (fun a83 ha83 hF => ?_)
          rw [ha83]
          refine x_ald_r dX6_makes_187 hF (fun v84 hF => ?_)
          refine x_aload_n 0 dX6_makes_188 rfl rfl ?_
          refine x_getr_r dX6_makes_189 fl_X6_7 hF (fun v85 hF => ?_)
          refine x_bipush 8 (by decide) dX6_makes_192 ?_
          refine x_nn hF (fun a86 ha86 hF => ?_)
          rw [ha86]
          refine x_ald_r dX6_makes_194 hF (fun v87 hF => ?_)
          refine x_iconst 1 (by decide) dX6_makes_195 ?_
          refine x_isub dX6_makes_196 ?_
          refine x_iconst 0 (by decide) dX6_makes_197 ?_
          obtain ⟨z88, hzz88, hF⟩ := x_bind hF
          obtain ⟨⟨fsz88, hbz88⟩, hzz88⟩ := x_cv_sp hzz88
          refine x_callv (As := [.int v81, .int v84, .int (v87 - 1), .int 0]) (rest := []) (rc + 0) (rs + 0) dX6_makes_198 mi_X6_adds ml_X6_81 rfl rfl (Nat.le_of_ble_eq_true rfl) ⟨by decide, by decide⟩ (by omega) (by omega) hbz88 rfl (c_X6_adds N _ _ _ _ _ _ _ _ hzz88) (x_K.none ?_) x_KX.none
          refine x_iinc (x5 + 1) (lv' := [(5, .int (x5 + 1)), (0, .ref c0), (2, .int c2), (4, .int c4)]) dX6_makes_201 3 rfl (by rfl) (by decide) rfl ?_
          refine x_goto 108 dX6_makes_204 (by decide) ?_
          refine x_sub [1, 2, 3, 0] rfl ?_
          exact ih _ _ hF
set_option maxRecDepth 20000 in
set_option maxHeartbeats 4000000 in
theorem c_X6_makes (N : Nat) (f : XM) (this : Nat) (p0 : Int32) (n : Nat) (r : (Int32 × XM)) (hF : F_X6_makes N f this p0 = some r) : x_Ct mX6_makes 5 112 0 0 [.ref this, .int p0] (f, n) (xr_im r n) := by
  unfold F_X6_makes at hF
  refine x_ct (by decide) rfl (Nat.le_of_ble_eq_true rfl) ?_
  show X mX6_makes 5 112 _ _ 0 0 0 [(0, .ref this), (1, .int p0)] [] (f, n)
  refine x_aload_n 0 dX6_makes_0 rfl rfl ?_
  obtain ⟨z1, hzz1, hF⟩ := x_bind hF
  obtain ⟨⟨fsz1, hbz1⟩, hzz1⟩ := x_cv_sp hzz1
  refine x_callv (As := []) (rest := []) 0 0 dX6_makes_1 mi_X6_finds ml_X6_113 rfl rfl (Nat.le_of_ble_eq_true rfl) ⟨by decide, by decide⟩ (by omega) (by omega) hbz1 rfl (c_X6_finds N _ _ _ _ hzz1) (x_K.some ?_) x_KX.none
  refine x_istore_n (i := 2) (lv' := [(2, .int z1.1), (0, .ref this), (1, .int p0)]) dX6_makes_4 rfl (by decide) rfl ?_
  refine x_aload_n 1 dX6_makes_5 rfl rfl ?_
  refine x_getr_r dX6_makes_6 fl_X6_7 hF (fun v2 hF => ?_)
  refine x_iconst 0 (by decide) dX6_makes_9 ?_
  refine x_nn hF (fun a3 ha3 hF => ?_)
  rw [ha3]
  refine x_ald_r dX6_makes_10 hF (fun v4 hF => ?_)
  refine x_iload_n 2 dX6_makes_11 rfl rfl ?_
  refine x_imul dX6_makes_12 ?_
  refine x_bipush 100 (by decide) dX6_makes_13 ?_
  refine x_idiv dX6_makes_15 hF (fun v5 hF => ?_)
  refine x_istore_n (i := 3) (lv' := [(3, .int v5), (2, .int z1.1), (0, .ref this), (1, .int p0)]) dX6_makes_16 rfl (by decide) rfl ?_
  refine x_iload_n 0 dX6_makes_17 rfl rfl ?_
  refine x_iconst 1 (by decide) dX6_makes_18 ?_
  refine x_icmp_ge 26 dX6_makes_19 (by decide) hF (fun hF => ?_) (fun hF => ?_)
  · refine x_iload_n 0 dX6_makes_26 rfl rfl ?_
    refine x_istore (i := 4) (lv' := [(4, .int v5), (3, .int v5), (2, .int z1.1), (0, .ref this), (1, .int p0)]) dX6_makes_27 (by decide) rfl ?_
    refine x_aload_n 3 dX6_makes_29 rfl rfl ?_
    refine x_getr_r dX6_makes_30 fl_X6_7 hF (fun v6 hF => ?_)
    refine x_iconst 2 (by decide) dX6_makes_33 ?_
    refine x_aload_n 3 dX6_makes_34 rfl rfl ?_
    refine x_getr_r dX6_makes_35 fl_X6_7 hF (fun v7 hF => ?_)
    refine x_iconst 0 (by decide) dX6_makes_38 ?_
    refine x_nn hF (fun a8 ha8 hF => ?_)
    rw [ha8]
    refine x_ald_r dX6_makes_39 hF (fun v9 hF => ?_)
    refine x_nn hF (fun a10 ha10 hF => ?_)
    rw [ha10]
    refine x_ast_r dX6_makes_40 hF (fun f11 hF => ?_)
    refine x_aload_n 3 dX6_makes_41 rfl rfl ?_
    refine x_getr_r dX6_makes_42 fl_X6_7 hF (fun v12 hF => ?_)
    refine x_iconst 3 (by decide) dX6_makes_45 ?_
    refine x_aload_n 3 dX6_makes_46 rfl rfl ?_
    refine x_getr_r dX6_makes_47 fl_X6_7 hF (fun v13 hF => ?_)
    refine x_iconst 1 (by decide) dX6_makes_50 ?_
    refine x_nn hF (fun a14 ha14 hF => ?_)
    rw [ha14]
    refine x_ald_r dX6_makes_51 hF (fun v15 hF => ?_)
    refine x_nn hF (fun a16 ha16 hF => ?_)
    rw [ha16]
    refine x_ast_r dX6_makes_52 hF (fun f17 hF => ?_)
    refine x_aload_n 3 dX6_makes_53 rfl rfl ?_
    refine x_getr_r dX6_makes_54 fl_X6_7 hF (fun v18 hF => ?_)
    refine x_iconst 4 (by decide) dX6_makes_57 ?_
    refine x_nn hF (fun a19 ha19 hF => ?_)
    rw [ha19]
    refine x_dup2ri dX6_makes_58 ?_
    refine x_ald_r dX6_makes_59 hF (fun v20 hF => ?_)
    refine x_iconst 1 (by decide) dX6_makes_60 ?_
    refine x_iadd dX6_makes_61 ?_
    refine x_ast_r dX6_makes_62 hF (fun f21 hF => ?_)
    refine x_aload_n 3 dX6_makes_63 rfl rfl ?_
    refine x_getr_r dX6_makes_64 fl_X6_7 hF (fun v22 hF => ?_)
    refine x_iconst 5 (by decide) dX6_makes_67 ?_
    refine x_nn hF (fun a23 ha23 hF => ?_)
    rw [ha23]
    refine x_dup2ri dX6_makes_68 ?_
    refine x_ald_r dX6_makes_69 hF (fun v24 hF => ?_)
    refine x_iload_n 2 dX6_makes_70 rfl rfl ?_
    refine x_iadd dX6_makes_71 ?_
    refine x_ast_r dX6_makes_72 hF (fun f25 hF => ?_)
    refine x_aload_n 3 dX6_makes_73 rfl rfl ?_
    refine x_getr_r dX6_makes_74 fl_X6_7 hF (fun v26 hF => ?_)
    refine x_bipush 6 (by decide) dX6_makes_77 ?_
    refine x_iconst 0 (by decide) dX6_makes_79 ?_
    refine x_nn hF (fun a27 ha27 hF => ?_)
    rw [ha27]
    refine x_ast_r dX6_makes_80 hF (fun f28 hF => ?_)
    refine x_aload_n 3 dX6_makes_81 rfl rfl ?_
    refine x_getr_r dX6_makes_82 fl_X6_7 hF (fun v29 hF => ?_)
    refine x_bipush 9 (by decide) dX6_makes_85 ?_
    refine x_iconst 0 (by decide) dX6_makes_87 ?_
    refine x_nn hF (fun a30 ha30 hF => ?_)
    rw [ha30]
    refine x_ast_r dX6_makes_88 hF (fun f31 hF => ?_)
    refine x_aload_n 3 dX6_makes_89 rfl rfl ?_
    refine x_getr_r dX6_makes_90 fl_X6_7 hF (fun v32 hF => ?_)
    refine x_bipush 7 (by decide) dX6_makes_93 ?_
    refine x_iconst 0 (by decide) dX6_makes_95 ?_
    refine x_nn hF (fun a33 ha33 hF => ?_)
    rw [ha33]
    refine x_ast_r dX6_makes_96 hF (fun f34 hF => ?_)
    refine x_aload_n 3 dX6_makes_97 rfl rfl ?_
    refine x_getr_r dX6_makes_98 fl_X6_7 hF (fun v35 hF => ?_)
    refine x_bipush 8 (by decide) dX6_makes_101 ?_
    refine x_iconst 0 (by decide) dX6_makes_103 ?_
    refine x_nn hF (fun a36 ha36 hF => ?_)
    rw [ha36]
    refine x_ast_r dX6_makes_104 hF (fun f37 hF => ?_)
    refine x_iconst 0 (by decide) dX6_makes_105 ?_
    refine x_istore (i := 5) (lv' := [(5, .int 0), (4, .int v5), (3, .int v5), (2, .int z1.1), (0, .ref this), (1, .int p0)]) dX6_makes_106 (by decide) rfl ?_
    refine x_sub [4, 3, 1, 0] rfl ?_
    refine w_X6_makes_L108 N _ _ _ _ _ r _ _ _ hF (fun y5_89 g89 hF => ?_)
    refine x_aload_n 0 dX6_makes_207 rfl rfl ?_
    refine x_getr_r dX6_makes_208 fl_X6_7 hF (fun v90 hF => ?_)
    refine x_bipush 8 (by decide) dX6_makes_211 ?_
    refine x_nn hF (fun a91 ha91 hF => ?_)
    rw [ha91]
    refine x_ald_r dX6_makes_213 hF (fun v92 hF => ?_)
    exact x_iret dX6_makes_214 rfl (by cases hF; rfl)
  · refine x_iconst 1 (by decide) dX6_makes_22 ?_
    refine x_goto 27 dX6_makes_23 (by decide) ?_
    refine x_istore (i := 4) (lv' := [(4, .int 1), (3, .int v5), (2, .int z1.1), (0, .ref this), (1, .int p0)]) dX6_makes_27 (by decide) rfl ?_
    refine x_aload_n 3 dX6_makes_29 rfl rfl ?_
    refine x_getr_r dX6_makes_30 fl_X6_7 hF (fun v93 hF => ?_)
    refine x_iconst 2 (by decide) dX6_makes_33 ?_
    refine x_aload_n 3 dX6_makes_34 rfl rfl ?_
    refine x_getr_r dX6_makes_35 fl_X6_7 hF (fun v94 hF => ?_)
    refine x_iconst 0 (by decide) dX6_makes_38 ?_
    refine x_nn hF (fun a95 ha95 hF => ?_)
    rw [ha95]
    refine x_ald_r dX6_makes_39 hF (fun v96 hF => ?_)
    refine x_nn hF (fun a97 ha97 hF => ?_)
    rw [ha97]
    refine x_ast_r dX6_makes_40 hF (fun f98 hF => ?_)
    refine x_aload_n 3 dX6_makes_41 rfl rfl ?_
    refine x_getr_r dX6_makes_42 fl_X6_7 hF (fun v99 hF => ?_)
    refine x_iconst 3 (by decide) dX6_makes_45 ?_
    refine x_aload_n 3 dX6_makes_46 rfl rfl ?_
    refine x_getr_r dX6_makes_47 fl_X6_7 hF (fun v100 hF => ?_)
    refine x_iconst 1 (by decide) dX6_makes_50 ?_
    refine x_nn hF (fun a101 ha101 hF => ?_)
    rw [ha101]
    refine x_ald_r dX6_makes_51 hF (fun v102 hF => ?_)
    refine x_nn hF (fun a103 ha103 hF => ?_)
    rw [ha103]
    refine x_ast_r dX6_makes_52 hF (fun f104 hF => ?_)
    refine x_aload_n 3 dX6_makes_53 rfl rfl ?_
    refine x_getr_r dX6_makes_54 fl_X6_7 hF (fun v105 hF => ?_)
    refine x_iconst 4 (by decide) dX6_makes_57 ?_
    refine x_nn hF (fun a106 ha106 hF => ?_)
    rw [ha106]
    refine x_dup2ri dX6_makes_58 ?_
    refine x_ald_r dX6_makes_59 hF (fun v107 hF => ?_)
    refine x_iconst 1 (by decide) dX6_makes_60 ?_
    refine x_iadd dX6_makes_61 ?_
    refine x_ast_r dX6_makes_62 hF (fun f108 hF => ?_)
    refine x_aload_n 3 dX6_makes_63 rfl rfl ?_
    refine x_getr_r dX6_makes_64 fl_X6_7 hF (fun v109 hF => ?_)
    refine x_iconst 5 (by decide) dX6_makes_67 ?_
    refine x_nn hF (fun a110 ha110 hF => ?_)
    rw [ha110]
    refine x_dup2ri dX6_makes_68 ?_
    refine x_ald_r dX6_makes_69 hF (fun v111 hF => ?_)
    refine x_iload_n 2 dX6_makes_70 rfl rfl ?_
    refine x_iadd dX6_makes_71 ?_
    refine x_ast_r dX6_makes_72 hF (fun f112 hF => ?_)
    refine x_aload_n 3 dX6_makes_73 rfl rfl ?_
    refine x_getr_r dX6_makes_74 fl_X6_7 hF (fun v113 hF => ?_)
    refine x_bipush 6 (by decide) dX6_makes_77 ?_
    refine x_iconst 0 (by decide) dX6_makes_79 ?_
    refine x_nn hF (fun a114 ha114 hF => ?_)
    rw [ha114]
    refine x_ast_r dX6_makes_80 hF (fun f115 hF => ?_)
    refine x_aload_n 3 dX6_makes_81 rfl rfl ?_
    refine x_getr_r dX6_makes_82 fl_X6_7 hF (fun v116 hF => ?_)
    refine x_bipush 9 (by decide) dX6_makes_85 ?_
    refine x_iconst 0 (by decide) dX6_makes_87 ?_
    refine x_nn hF (fun a117 ha117 hF => ?_)
    rw [ha117]
    refine x_ast_r dX6_makes_88 hF (fun f118 hF => ?_)
    refine x_aload_n 3 dX6_makes_89 rfl rfl ?_
    refine x_getr_r dX6_makes_90 fl_X6_7 hF (fun v119 hF => ?_)
    refine x_bipush 7 (by decide) dX6_makes_93 ?_
    refine x_iconst 0 (by decide) dX6_makes_95 ?_
    refine x_nn hF (fun a120 ha120 hF => ?_)
    rw [ha120]
    refine x_ast_r dX6_makes_96 hF (fun f121 hF => ?_)
    refine x_aload_n 3 dX6_makes_97 rfl rfl ?_
    refine x_getr_r dX6_makes_98 fl_X6_7 hF (fun v122 hF => ?_)
    refine x_bipush 8 (by decide) dX6_makes_101 ?_
    refine x_iconst 0 (by decide) dX6_makes_103 ?_
    refine x_nn hF (fun a123 ha123 hF => ?_)
    rw [ha123]
    refine x_ast_r dX6_makes_104 hF (fun f124 hF => ?_)
    refine x_iconst 0 (by decide) dX6_makes_105 ?_
    refine x_istore (i := 5) (lv' := [(5, .int 0), (4, .int 1), (3, .int v5), (2, .int z1.1), (0, .ref this), (1, .int p0)]) dX6_makes_106 (by decide) rfl ?_
    refine x_sub [4, 3, 1, 0] rfl ?_
    refine w_X6_makes_L108 N _ _ _ _ _ r _ _ _ hF (fun y5_176 g176 hF => ?_)
    refine x_aload_n 0 dX6_makes_207 rfl rfl ?_
    refine x_getr_r dX6_makes_208 fl_X6_7 hF (fun v177 hF => ?_)
    refine x_bipush 8 (by decide) dX6_makes_211 ?_
    refine x_nn hF (fun a178 ha178 hF => ?_)
    rw [ha178]
    refine x_ald_r dX6_makes_213 hF (fun v179 hF => ?_)
    exact x_iret dX6_makes_214 rfl (by cases hF; rfl)
def F_X6_build (N : Nat) (f : XM) (this : Nat) (p0 : Int32) : Option (Int32 × XM) :=
  (F_X6_isFill N f p0).bind fun z1 =>
  if (x_b z1) = 0 then
    (x_puti f 6 this 11 1).bind fun f15 =>
    (x_geti f15 6 this 11).bind fun v16 =>
    if v16 ≤ 0 then
      (x_getr f15 6 this 0).bind fun v17 =>
      Option.bind v17 fun a18 =>
      (x_cv f15 6 this (F_X6_saves N f15 this a18)).bind fun z19 =>
      (x_cv z19 6 this (F_X6_makes N z19 this p0)).bind fun z20 =>
      some (z20.1, z20.2)
    else
      some (0, f15)
  else
    (x_cv f 6 this (F_X6_canBuild N f this)).bind fun z2 =>
    if (x_b z2.1) = 0 then
      (x_puti z2.2 6 this 11 2).bind fun f3 =>
      (x_geti f3 6 this 11).bind fun v4 =>
      if v4 ≤ 0 then
        (x_getr f3 6 this 0).bind fun v5 =>
        Option.bind v5 fun a6 =>
        (x_cv f3 6 this (F_X6_saves N f3 this a6)).bind fun z7 =>
        (x_cv z7 6 this (F_X6_makes N z7 this p0)).bind fun z8 =>
        some (z8.1, z8.2)
      else
        some (0, f3)
    else
      (x_puti z2.2 6 this 11 0).bind fun f9 =>
      (x_geti f9 6 this 11).bind fun v10 =>
      if v10 ≤ 0 then
        (x_getr f9 6 this 0).bind fun v11 =>
        Option.bind v11 fun a12 =>
        (x_cv f9 6 this (F_X6_saves N f9 this a12)).bind fun z13 =>
        (x_cv z13 6 this (F_X6_makes N z13 this p0)).bind fun z14 =>
        some (z14.1, z14.2)
      else
        some (0, f9)
set_option maxRecDepth 20000 in
set_option maxHeartbeats 4000000 in
theorem c_X6_build (N : Nat) (f : XM) (this : Nat) (p0 : Int32) (n : Nat) (r : (Int32 × XM)) (hF : F_X6_build N f this p0 = some r) : x_Ct mX6_build 6 137 0 0 [.ref this, .int p0] (f, n) (xr_im r n) := by
  unfold F_X6_build at hF
  refine x_ct (by decide) rfl (Nat.le_of_ble_eq_true rfl) ?_
  show X mX6_build 6 137 _ _ 0 0 0 [(0, .ref this), (1, .int p0)] [] (f, n)
  refine x_aload_n 0 dX6_build_0 rfl rfl ?_
  refine x_iload_n 1 dX6_build_1 rfl rfl ?_
  obtain ⟨z1, hzz1, hF⟩ := x_bind hF
  refine x_calls (As := [.int p0]) (rest := [.ref this]) 0 0 dX6_build_2 mi_X6_isFill rfl ml_X6_159 rfl rfl (Nat.le_of_ble_eq_true rfl) ⟨by decide, by decide⟩ (by omega) (by omega) (c_X6_isFill N _ _ _ _ hzz1) (x_K.some ?_) x_KX.none
  refine x_if_ne 12 dX6_build_5 (by decide) hF (fun hF => ?_) (fun hF => ?_)
  · refine x_aload_n 0 dX6_build_12 rfl rfl ?_
    obtain ⟨z2, hzz2, hF⟩ := x_bind hF
    obtain ⟨⟨fsz2, hbz2⟩, hzz2⟩ := x_cv_sp hzz2
    refine x_callv (As := []) (rest := [.ref this]) 0 0 dX6_build_13 mi_X6_canBuild ml_X6_162 rfl rfl (Nat.le_of_ble_eq_true rfl) ⟨by decide, by decide⟩ (by omega) (by omega) hbz2 rfl (c_X6_canBuild N _ _ _ _ hzz2) (x_K.some ?_) x_KX.none
    refine x_if_eq 23 dX6_build_16 (by decide) hF (fun hF => ?_) (fun hF => ?_)
    · refine x_iconst 2 (by decide) dX6_build_23 ?_
      refine x_puti_r dX6_build_24 fl_X6_38 (fun h9 => by cases h9) hF (fun f3 hF => ?_)
      refine x_aload_n 0 dX6_build_27 rfl rfl ?_
      refine x_geti_r dX6_build_28 fl_X6_38 hF (fun v4 hF => ?_)
      refine x_if_le 36 dX6_build_31 (by decide) hF (fun hF => ?_) (fun hF => ?_)
      · refine x_aload_n 0 dX6_build_36 rfl rfl ?_
        refine x_aload_n 0 dX6_build_37 rfl rfl ?_
        refine x_getr_r dX6_build_38 fl_X6_7 hF (fun v5 hF => ?_)
        refine x_nn hF (fun a6 ha6 hF => ?_)
        rw [ha6]
        obtain ⟨z7, hzz7, hF⟩ := x_bind hF
        obtain ⟨⟨fsz7, hbz7⟩, hzz7⟩ := x_cv_sp hzz7
        refine x_callv (As := [.ref a6]) (rest := []) 0 0 dX6_build_41 mi_X6_saves ml_X6_139 rfl rfl (Nat.le_of_ble_eq_true rfl) ⟨by decide, by decide⟩ (by omega) (by omega) hbz7 rfl (c_X6_saves N _ _ _ _ _ hzz7) (x_K.none ?_) x_KX.none
        refine x_aload_n 0 dX6_build_44 rfl rfl ?_
        refine x_iload_n 1 dX6_build_45 rfl rfl ?_
        obtain ⟨z8, hzz8, hF⟩ := x_bind hF
        obtain ⟨⟨fsz8, hbz8⟩, hzz8⟩ := x_cv_sp hzz8
        refine x_callv (As := [.int p0]) (rest := []) 0 0 dX6_build_46 mi_X6_makes ml_X6_165 rfl rfl (Nat.le_of_ble_eq_true rfl) ⟨by decide, by decide⟩ (by omega) (by omega) hbz8 rfl (c_X6_makes N _ _ _ _ _ hzz8) (x_K.some ?_) x_KX.none
        exact x_iret dX6_build_49 rfl (by cases hF; rfl)
      · refine x_iconst 0 (by decide) dX6_build_34 ?_
        exact x_iret dX6_build_35 rfl (by cases hF; rfl)
    · refine x_iconst 0 (by decide) dX6_build_19 ?_
      refine x_goto 24 dX6_build_20 (by decide) ?_
      refine x_puti_r dX6_build_24 fl_X6_38 (fun h9 => by cases h9) hF (fun f9 hF => ?_)
      refine x_aload_n 0 dX6_build_27 rfl rfl ?_
      refine x_geti_r dX6_build_28 fl_X6_38 hF (fun v10 hF => ?_)
      refine x_if_le 36 dX6_build_31 (by decide) hF (fun hF => ?_) (fun hF => ?_)
      · refine x_aload_n 0 dX6_build_36 rfl rfl ?_
        refine x_aload_n 0 dX6_build_37 rfl rfl ?_
        refine x_getr_r dX6_build_38 fl_X6_7 hF (fun v11 hF => ?_)
        refine x_nn hF (fun a12 ha12 hF => ?_)
        rw [ha12]
        obtain ⟨z13, hzz13, hF⟩ := x_bind hF
        obtain ⟨⟨fsz13, hbz13⟩, hzz13⟩ := x_cv_sp hzz13
        refine x_callv (As := [.ref a12]) (rest := []) 0 0 dX6_build_41 mi_X6_saves ml_X6_139 rfl rfl (Nat.le_of_ble_eq_true rfl) ⟨by decide, by decide⟩ (by omega) (by omega) hbz13 rfl (c_X6_saves N _ _ _ _ _ hzz13) (x_K.none ?_) x_KX.none
        refine x_aload_n 0 dX6_build_44 rfl rfl ?_
        refine x_iload_n 1 dX6_build_45 rfl rfl ?_
        obtain ⟨z14, hzz14, hF⟩ := x_bind hF
        obtain ⟨⟨fsz14, hbz14⟩, hzz14⟩ := x_cv_sp hzz14
        refine x_callv (As := [.int p0]) (rest := []) 0 0 dX6_build_46 mi_X6_makes ml_X6_165 rfl rfl (Nat.le_of_ble_eq_true rfl) ⟨by decide, by decide⟩ (by omega) (by omega) hbz14 rfl (c_X6_makes N _ _ _ _ _ hzz14) (x_K.some ?_) x_KX.none
        exact x_iret dX6_build_49 rfl (by cases hF; rfl)
      · refine x_iconst 0 (by decide) dX6_build_34 ?_
        exact x_iret dX6_build_35 rfl (by cases hF; rfl)
  · refine x_iconst 1 (by decide) dX6_build_8 ?_
    refine x_goto 24 dX6_build_9 (by decide) ?_
    refine x_puti_r dX6_build_24 fl_X6_38 (fun h9 => by cases h9) hF (fun f15 hF => ?_)
    refine x_aload_n 0 dX6_build_27 rfl rfl ?_
    refine x_geti_r dX6_build_28 fl_X6_38 hF (fun v16 hF => ?_)
    refine x_if_le 36 dX6_build_31 (by decide) hF (fun hF => ?_) (fun hF => ?_)
    · refine x_aload_n 0 dX6_build_36 rfl rfl ?_
      refine x_aload_n 0 dX6_build_37 rfl rfl ?_
      refine x_getr_r dX6_build_38 fl_X6_7 hF (fun v17 hF => ?_)
      refine x_nn hF (fun a18 ha18 hF => ?_)
      rw [ha18]
      obtain ⟨z19, hzz19, hF⟩ := x_bind hF
      obtain ⟨⟨fsz19, hbz19⟩, hzz19⟩ := x_cv_sp hzz19
      refine x_callv (As := [.ref a18]) (rest := []) 0 0 dX6_build_41 mi_X6_saves ml_X6_139 rfl rfl (Nat.le_of_ble_eq_true rfl) ⟨by decide, by decide⟩ (by omega) (by omega) hbz19 rfl (c_X6_saves N _ _ _ _ _ hzz19) (x_K.none ?_) x_KX.none
      refine x_aload_n 0 dX6_build_44 rfl rfl ?_
      refine x_iload_n 1 dX6_build_45 rfl rfl ?_
      obtain ⟨z20, hzz20, hF⟩ := x_bind hF
      obtain ⟨⟨fsz20, hbz20⟩, hzz20⟩ := x_cv_sp hzz20
      refine x_callv (As := [.int p0]) (rest := []) 0 0 dX6_build_46 mi_X6_makes ml_X6_165 rfl rfl (Nat.le_of_ble_eq_true rfl) ⟨by decide, by decide⟩ (by omega) (by omega) hbz20 rfl (c_X6_makes N _ _ _ _ _ hzz20) (x_K.some ?_) x_KX.none
      exact x_iret dX6_build_49 rfl (by cases hF; rfl)
    · refine x_iconst 0 (by decide) dX6_build_34 ?_
      exact x_iret dX6_build_35 rfl (by cases hF; rfl)
def F_X6_builds (N : Nat) (f : XM) (this : Nat) : Option (Int32 × XM) :=
  (x_puti f 6 this 11 0).bind fun f1 =>
  (x_getr f1 6 this 0).bind fun v2 =>
  Option.bind v2 fun a3 =>
  (x_ald f1 a3 4).bind fun v4 =>
  some (v4, f1)
set_option maxRecDepth 20000 in
set_option maxHeartbeats 4000000 in
theorem c_X6_builds (N : Nat) (f : XM) (this : Nat) (n : Nat) (r : (Int32 × XM)) (hF : F_X6_builds N f this = some r) : x_Ct mX6_builds 0 0 0 0 [.ref this] (f, n) (xr_im r n) := by
  unfold F_X6_builds at hF
  refine x_ct (by decide) rfl (Nat.le_of_ble_eq_true rfl) ?_
  show X mX6_builds 0 0 _ _ 0 0 0 [(0, .ref this)] [] (f, n)
  refine x_aload_n 0 dX6_builds_0 rfl rfl ?_
  refine x_iconst 0 (by decide) dX6_builds_1 ?_
  refine x_puti_r dX6_builds_2 fl_X6_38 (fun h9 => by cases h9) hF (fun f1 hF => ?_)
  refine x_aload_n 0 dX6_builds_5 rfl rfl ?_
  refine x_getr_r dX6_builds_6 fl_X6_7 hF (fun v2 hF => ?_)
  refine x_iconst 4 (by decide) dX6_builds_9 ?_
  refine x_nn hF (fun a3 ha3 hF => ?_)
  rw [ha3]
  refine x_ald_r dX6_builds_10 hF (fun v4 hF => ?_)
  exact x_iret dX6_builds_11 rfl (by cases hF; rfl)
def F_X6_canClose (N : Nat) (f : XM) (this : Nat) : Option Bool :=
  (x_cv f 6 this (F_X6_size N f this 0)).bind fun z1 =>
  if z1 ≤ 0 then
    some false
  else
    (x_getr f 6 this 0).bind fun v2 =>
    Option.bind v2 fun a3 =>
    (x_ald f a3 6).bind fun v4 =>
    if 6 ≤ v4 then
      some false
    else
      some true
set_option maxRecDepth 20000 in
set_option maxHeartbeats 4000000 in
theorem c_X6_canClose (N : Nat) (f : XM) (this : Nat) (n : Nat) (r : Bool) (hF : F_X6_canClose N f this = some r) : x_Ct mX6_canClose 1 21 0 0 [.ref this] (f, n) (xr_zp r (f, n)) := by
  unfold F_X6_canClose at hF
  refine x_ct (by decide) rfl (Nat.le_of_ble_eq_true rfl) ?_
  show X mX6_canClose 1 21 _ _ 0 0 0 [(0, .ref this)] [] (f, n)
  refine x_aload_n 0 dX6_canClose_0 rfl rfl ?_
  refine x_iconst 0 (by decide) dX6_canClose_1 ?_
  obtain ⟨z1, hzz1, hF⟩ := x_bind hF
  obtain ⟨⟨fsz1, hbz1⟩, hzz1⟩ := x_cv_sp hzz1
  refine x_callv (As := [.int 0]) (rest := []) 0 0 dX6_canClose_2 mi_X6_size ml_X6_54 rfl rfl (Nat.le_of_ble_eq_true rfl) ⟨by decide, by decide⟩ (by omega) (by omega) hbz1 rfl (c_X6_size N _ _ _ _ _ hzz1) (x_K.some ?_) x_KX.none
  refine x_if_le 24 dX6_canClose_5 (by decide) hF (fun hF => ?_) (fun hF => ?_)
  · refine x_iconst 0 (by decide) dX6_canClose_24 ?_
    exact x_zret dX6_canClose_25 rfl (Or.inl rfl) (by cases hF; rfl)
  · refine x_aload_n 0 dX6_canClose_8 rfl rfl ?_
    refine x_getr_r dX6_canClose_9 fl_X6_7 hF (fun v2 hF => ?_)
    refine x_bipush 6 (by decide) dX6_canClose_12 ?_
    refine x_nn hF (fun a3 ha3 hF => ?_)
    rw [ha3]
    refine x_ald_r dX6_canClose_14 hF (fun v4 hF => ?_)
    refine x_bipush 6 (by decide) dX6_canClose_15 ?_
    refine x_icmp_ge 24 dX6_canClose_17 (by decide) hF (fun hF => ?_) (fun hF => ?_)
    · refine x_iconst 0 (by decide) dX6_canClose_24 ?_
      exact x_zret dX6_canClose_25 rfl (Or.inl rfl) (by cases hF; rfl)
    · refine x_iconst 1 (by decide) dX6_canClose_20 ?_
      refine x_goto 25 dX6_canClose_21 (by decide) ?_
      exact x_zret dX6_canClose_25 rfl (Or.inr rfl) (by cases hF; rfl)
def F_X6_canErase (N : Nat) (f : XM) (this : Nat) (p0 : Int32) : Option Bool :=
  (x_cv f 6 this (F_X6_runWith N f this p0)).bind fun z1 =>
  if z1 = (-1) then
    (x_cv f 6 this (F_X6_entryOf N f this p0)).bind fun z2 =>
    if z2 = (-1) then
      some false
    else
      some true
  else
    some false
set_option maxRecDepth 20000 in
set_option maxHeartbeats 4000000 in
theorem c_X6_canErase (N : Nat) (f : XM) (this : Nat) (p0 : Int32) (n : Nat) (r : Bool) (hF : F_X6_canErase N f this p0 = some r) : x_Ct mX6_canErase 3 67 0 0 [.ref this, .int p0] (f, n) (xr_zp r (f, n)) := by
  unfold F_X6_canErase at hF
  refine x_ct (by decide) rfl (Nat.le_of_ble_eq_true rfl) ?_
  show X mX6_canErase 3 67 _ _ 0 0 0 [(0, .ref this), (1, .int p0)] [] (f, n)
  refine x_aload_n 0 dX6_canErase_0 rfl rfl ?_
  refine x_iload_n 1 dX6_canErase_1 rfl rfl ?_
  obtain ⟨z1, hzz1, hF⟩ := x_bind hF
  obtain ⟨⟨fsz1, hbz1⟩, hzz1⟩ := x_cv_sp hzz1
  refine x_callv (As := [.int p0]) (rest := []) 0 0 dX6_canErase_2 mi_X6_runWith ml_X6_85 rfl rfl (Nat.le_of_ble_eq_true rfl) ⟨by decide, by decide⟩ (by omega) (by omega) hbz1 rfl (c_X6_runWith N _ _ _ _ _ hzz1) (x_K.some ?_) x_KX.none
  refine x_iconst (-1) (by decide) dX6_canErase_5 ?_
  refine x_icmp_ne 22 dX6_canErase_6 (by decide) hF (fun hF => ?_) (fun hF => ?_)
  · refine x_iconst 0 (by decide) dX6_canErase_22 ?_
    exact x_zret dX6_canErase_23 rfl (Or.inl rfl) (by cases hF; rfl)
  · refine x_aload_n 0 dX6_canErase_9 rfl rfl ?_
    refine x_iload_n 1 dX6_canErase_10 rfl rfl ?_
    obtain ⟨z2, hzz2, hF⟩ := x_bind hF
    obtain ⟨⟨fsz2, hbz2⟩, hzz2⟩ := x_cv_sp hzz2
    refine x_callv (As := [.int p0]) (rest := []) 0 0 dX6_canErase_11 mi_X6_entryOf ml_X6_88 rfl rfl (Nat.le_of_ble_eq_true rfl) ⟨by decide, by decide⟩ (by omega) (by omega) hbz2 rfl (c_X6_entryOf N _ _ _ _ _ hzz2) (x_K.some ?_) x_KX.none
    refine x_iconst (-1) (by decide) dX6_canErase_14 ?_
    refine x_icmp_eq 22 dX6_canErase_15 (by decide) hF (fun hF => ?_) (fun hF => ?_)
    · refine x_iconst 0 (by decide) dX6_canErase_22 ?_
      exact x_zret dX6_canErase_23 rfl (Or.inl rfl) (by cases hF; rfl)
    · refine x_iconst 1 (by decide) dX6_canErase_18 ?_
      refine x_goto 23 dX6_canErase_19 (by decide) ?_
      exact x_zret dX6_canErase_23 rfl (Or.inr rfl) (by cases hF; rfl)
def F_X6_canInsert (N : Nat) (f : XM) (this : Nat) (p0 : Int32) : Option Bool :=
  (x_cv f 6 this (F_X6_runWith N f this p0)).bind fun z1 =>
  if z1 = (-1) then
    (x_cv f 6 this (F_X6_entryOf N f this p0)).bind fun z2 =>
    if z2 = (-1) then
      (x_getr f 6 this 0).bind fun v3 =>
      Option.bind v3 fun a4 =>
      (x_ald f a4 7).bind fun v5 =>
      if 160 ≤ v5 then
        some false
      else
        some true
    else
      some true
  else
    some false
set_option maxRecDepth 20000 in
set_option maxHeartbeats 4000000 in
theorem c_X6_canInsert (N : Nat) (f : XM) (this : Nat) (p0 : Int32) (n : Nat) (r : Bool) (hF : F_X6_canInsert N f this p0 = some r) : x_Ct mX6_canInsert 3 67 0 0 [.ref this, .int p0] (f, n) (xr_zp r (f, n)) := by
  unfold F_X6_canInsert at hF
  refine x_ct (by decide) rfl (Nat.le_of_ble_eq_true rfl) ?_
  show X mX6_canInsert 3 67 _ _ 0 0 0 [(0, .ref this), (1, .int p0)] [] (f, n)
  refine x_aload_n 0 dX6_canInsert_0 rfl rfl ?_
  refine x_iload_n 1 dX6_canInsert_1 rfl rfl ?_
  obtain ⟨z1, hzz1, hF⟩ := x_bind hF
  obtain ⟨⟨fsz1, hbz1⟩, hzz1⟩ := x_cv_sp hzz1
  refine x_callv (As := [.int p0]) (rest := []) 0 0 dX6_canInsert_2 mi_X6_runWith ml_X6_85 rfl rfl (Nat.le_of_ble_eq_true rfl) ⟨by decide, by decide⟩ (by omega) (by omega) hbz1 rfl (c_X6_runWith N _ _ _ _ _ hzz1) (x_K.some ?_) x_KX.none
  refine x_iconst (-1) (by decide) dX6_canInsert_5 ?_
  refine x_icmp_ne 35 dX6_canInsert_6 (by decide) hF (fun hF => ?_) (fun hF => ?_)
  · refine x_iconst 0 (by decide) dX6_canInsert_35 ?_
    exact x_zret dX6_canInsert_36 rfl (Or.inl rfl) (by cases hF; rfl)
  · refine x_aload_n 0 dX6_canInsert_9 rfl rfl ?_
    refine x_iload_n 1 dX6_canInsert_10 rfl rfl ?_
    obtain ⟨z2, hzz2, hF⟩ := x_bind hF
    obtain ⟨⟨fsz2, hbz2⟩, hzz2⟩ := x_cv_sp hzz2
    refine x_callv (As := [.int p0]) (rest := []) 0 0 dX6_canInsert_11 mi_X6_entryOf ml_X6_88 rfl rfl (Nat.le_of_ble_eq_true rfl) ⟨by decide, by decide⟩ (by omega) (by omega) hbz2 rfl (c_X6_entryOf N _ _ _ _ _ hzz2) (x_K.some ?_) x_KX.none
    refine x_iconst (-1) (by decide) dX6_canInsert_14 ?_
    refine x_icmp_ne 31 dX6_canInsert_15 (by decide) hF (fun hF => ?_) (fun hF => ?_)
    · refine x_iconst 1 (by decide) dX6_canInsert_31 ?_
      refine x_goto 36 dX6_canInsert_32 (by decide) ?_
      exact x_zret dX6_canInsert_36 rfl (Or.inr rfl) (by cases hF; rfl)
    · refine x_aload_n 0 dX6_canInsert_18 rfl rfl ?_
      refine x_getr_r dX6_canInsert_19 fl_X6_7 hF (fun v3 hF => ?_)
      refine x_bipush 7 (by decide) dX6_canInsert_22 ?_
      refine x_nn hF (fun a4 ha4 hF => ?_)
      rw [ha4]
      refine x_ald_r dX6_canInsert_24 hF (fun v5 hF => ?_)
      refine x_sipush 160 (by decide) dX6_canInsert_25 ?_
      refine x_icmp_ge 35 dX6_canInsert_28 (by decide) hF (fun hF => ?_) (fun hF => ?_)
      · refine x_iconst 0 (by decide) dX6_canInsert_35 ?_
        exact x_zret dX6_canInsert_36 rfl (Or.inl rfl) (by cases hF; rfl)
      · refine x_iconst 1 (by decide) dX6_canInsert_31 ?_
        refine x_goto 36 dX6_canInsert_32 (by decide) ?_
        exact x_zret dX6_canInsert_36 rfl (Or.inr rfl) (by cases hF; rfl)
def F_X6_canWrite (N : Nat) (f : XM) (this : Nat) (p0 : Int32) : Option Bool :=
  (x_cv f 6 this (F_X6_placeIn N f this 0 p0)).bind fun z1 =>
  if z1 = (-1) then
    (x_cv f 6 this (F_X6_size N f this 0)).bind fun z2 =>
    if 12 ≤ z2 then
      some false
    else
      some true
  else
    some true
set_option maxRecDepth 20000 in
set_option maxHeartbeats 4000000 in
theorem c_X6_canWrite (N : Nat) (f : XM) (this : Nat) (p0 : Int32) (n : Nat) (r : Bool) (hF : F_X6_canWrite N f this p0 = some r) : x_Ct mX6_canWrite 2 45 0 0 [.ref this, .int p0] (f, n) (xr_zp r (f, n)) := by
  unfold F_X6_canWrite at hF
  refine x_ct (by decide) rfl (Nat.le_of_ble_eq_true rfl) ?_
  show X mX6_canWrite 2 45 _ _ 0 0 0 [(0, .ref this), (1, .int p0)] [] (f, n)
  refine x_aload_n 0 dX6_canWrite_0 rfl rfl ?_
  refine x_iconst 0 (by decide) dX6_canWrite_1 ?_
  refine x_iload_n 1 dX6_canWrite_2 rfl rfl ?_
  obtain ⟨z1, hzz1, hF⟩ := x_bind hF
  obtain ⟨⟨fsz1, hbz1⟩, hzz1⟩ := x_cv_sp hzz1
  refine x_callv (As := [.int 0, .int p0]) (rest := []) 0 0 dX6_canWrite_3 mi_X6_placeIn ml_X6_62 rfl rfl (Nat.le_of_ble_eq_true rfl) ⟨by decide, by decide⟩ (by omega) (by omega) hbz1 rfl (c_X6_placeIn N _ _ _ _ _ _ hzz1) (x_K.some ?_) x_KX.none
  refine x_iconst (-1) (by decide) dX6_canWrite_6 ?_
  refine x_icmp_ne 20 dX6_canWrite_7 (by decide) hF (fun hF => ?_) (fun hF => ?_)
  · refine x_iconst 1 (by decide) dX6_canWrite_20 ?_
    refine x_goto 25 dX6_canWrite_21 (by decide) ?_
    exact x_zret dX6_canWrite_25 rfl (Or.inr rfl) (by cases hF; rfl)
  · refine x_aload_n 0 dX6_canWrite_10 rfl rfl ?_
    refine x_iconst 0 (by decide) dX6_canWrite_11 ?_
    obtain ⟨z2, hzz2, hF⟩ := x_bind hF
    obtain ⟨⟨fsz2, hbz2⟩, hzz2⟩ := x_cv_sp hzz2
    refine x_callv (As := [.int 0]) (rest := []) 0 0 dX6_canWrite_12 mi_X6_size ml_X6_54 rfl rfl (Nat.le_of_ble_eq_true rfl) ⟨by decide, by decide⟩ (by omega) (by omega) hbz2 rfl (c_X6_size N _ _ _ _ _ hzz2) (x_K.some ?_) x_KX.none
    refine x_bipush 12 (by decide) dX6_canWrite_15 ?_
    refine x_icmp_ge 24 dX6_canWrite_17 (by decide) hF (fun hF => ?_) (fun hF => ?_)
    · refine x_iconst 0 (by decide) dX6_canWrite_24 ?_
      exact x_zret dX6_canWrite_25 rfl (Or.inl rfl) (by cases hF; rfl)
    · refine x_iconst 1 (by decide) dX6_canWrite_20 ?_
      refine x_goto 25 dX6_canWrite_21 (by decide) ?_
      exact x_zret dX6_canWrite_25 rfl (Or.inr rfl) (by cases hF; rfl)
def F_X6_changeFan (N : Nat) (f : XM) (this : Nat) (p0 : Int32) : Option (Int32 × XM) :=
  (x_cv f 6 this (F_X6_becomes N f this 1 p0 6)).bind fun z1 =>
  some (z1.1, z1.2)
set_option maxRecDepth 20000 in
set_option maxHeartbeats 4000000 in
theorem c_X6_changeFan (N : Nat) (f : XM) (this : Nat) (p0 : Int32) (n : Nat) (r : (Int32 × XM)) (hF : F_X6_changeFan N f this p0 = some r) : x_Ct mX6_changeFan 3 70 0 0 [.ref this, .int p0] (f, n) (xr_im r n) := by
  unfold F_X6_changeFan at hF
  refine x_ct (by decide) rfl (Nat.le_of_ble_eq_true rfl) ?_
  show X mX6_changeFan 3 70 _ _ 0 0 0 [(0, .ref this), (1, .int p0)] [] (f, n)
  refine x_aload_n 0 dX6_changeFan_0 rfl rfl ?_
  refine x_iconst 1 (by decide) dX6_changeFan_1 ?_
  refine x_iload_n 1 dX6_changeFan_2 rfl rfl ?_
  refine x_bipush 6 (by decide) dX6_changeFan_3 ?_
  obtain ⟨z1, hzz1, hF⟩ := x_bind hF
  obtain ⟨⟨fsz1, hbz1⟩, hzz1⟩ := x_cv_sp hzz1
  refine x_callv (As := [.int 1, .int p0, .int 6]) (rest := []) 0 0 dX6_changeFan_5 mi_X6_becomes ml_X6_180 rfl rfl (Nat.le_of_ble_eq_true rfl) ⟨by decide, by decide⟩ (by omega) (by omega) hbz1 rfl (c_X6_becomes N _ _ _ _ _ _ _ hzz1) (x_K.some ?_) x_KX.none
  exact x_iret dX6_changeFan_8 rfl (by cases hF; rfl)
def F_X6_changeLeaf (N : Nat) (f : XM) (this : Nat) (p0 : Int32) : Option (Int32 × XM) :=
  (x_cv f 6 this (F_X6_becomes N f this 0 p0 8)).bind fun z1 =>
  some (z1.1, z1.2)
set_option maxRecDepth 20000 in
set_option maxHeartbeats 4000000 in
theorem c_X6_changeLeaf (N : Nat) (f : XM) (this : Nat) (p0 : Int32) (n : Nat) (r : (Int32 × XM)) (hF : F_X6_changeLeaf N f this p0 = some r) : x_Ct mX6_changeLeaf 3 70 0 0 [.ref this, .int p0] (f, n) (xr_im r n) := by
  unfold F_X6_changeLeaf at hF
  refine x_ct (by decide) rfl (Nat.le_of_ble_eq_true rfl) ?_
  show X mX6_changeLeaf 3 70 _ _ 0 0 0 [(0, .ref this), (1, .int p0)] [] (f, n)
  refine x_aload_n 0 dX6_changeLeaf_0 rfl rfl ?_
  refine x_iconst 0 (by decide) dX6_changeLeaf_1 ?_
  refine x_iload_n 1 dX6_changeLeaf_2 rfl rfl ?_
  refine x_bipush 8 (by decide) dX6_changeLeaf_3 ?_
  obtain ⟨z1, hzz1, hF⟩ := x_bind hF
  obtain ⟨⟨fsz1, hbz1⟩, hzz1⟩ := x_cv_sp hzz1
  refine x_callv (As := [.int 0, .int p0, .int 8]) (rest := []) 0 0 dX6_changeLeaf_5 mi_X6_becomes ml_X6_180 rfl rfl (Nat.le_of_ble_eq_true rfl) ⟨by decide, by decide⟩ (by omega) (by omega) hbz1 rfl (c_X6_becomes N _ _ _ _ _ _ _ hzz1) (x_K.some ?_) x_KX.none
  exact x_iret dX6_changeLeaf_8 rfl (by cases hF; rfl)
def F_X6_children (N : Nat) (f : XM) (this : Nat) (p0 : Int32) (p1 : Int32) : Option Int32 :=
  (x_cv f 6 this (F_X6_nodes N f this (p0 - 1))).bind fun z1 =>
  (x_getr f 6 this 0).bind fun v2 =>
  Option.bind v2 fun a3 =>
  (x_ald f a3 3).bind fun v4 =>
  (x_getr f 6 this 0).bind fun v5 =>
  Option.bind v5 fun a6 =>
  (x_ald f a6 3).bind fun v7 =>
  if v7 ≤ (z1 - (v4 * p1)) then
    (x_getr f 6 this 0).bind fun v8 =>
    Option.bind v8 fun a9 =>
    (x_ald f a9 3).bind fun v10 =>
    some v10
  else
    some (z1 - (v4 * p1))
set_option maxRecDepth 20000 in
set_option maxHeartbeats 4000000 in
theorem c_X6_children (N : Nat) (f : XM) (this : Nat) (p0 : Int32) (p1 : Int32) (n : Nat) (r : Int32) (hF : F_X6_children N f this p0 p1 = some r) : x_Ct mX6_children 1 23 0 0 [.ref this, .int p0, .int p1] (f, n) (xr_ip r (f, n)) := by
  unfold F_X6_children at hF
  refine x_ct (by decide) rfl (Nat.le_of_ble_eq_true rfl) ?_
  show X mX6_children 1 23 _ _ 0 0 0 [(0, .ref this), (1, .int p0), (2, .int p1)] [] (f, n)
  refine x_aload_n 0 dX6_children_0 rfl rfl ?_
  refine x_iload_n 1 dX6_children_1 rfl rfl ?_
  refine x_iconst 1 (by decide) dX6_children_2 ?_
  refine x_isub dX6_children_3 ?_
  obtain ⟨z1, hzz1, hF⟩ := x_bind hF
  obtain ⟨⟨fsz1, hbz1⟩, hzz1⟩ := x_cv_sp hzz1
  refine x_callv (As := [.int (p0 - 1)]) (rest := []) 0 0 dX6_children_4 mi_X6_nodes ml_X6_252 rfl rfl (Nat.le_of_ble_eq_true rfl) ⟨by decide, by decide⟩ (by omega) (by omega) hbz1 rfl (c_X6_nodes N _ _ _ _ _ hzz1) (x_K.some ?_) x_KX.none
  refine x_aload_n 0 dX6_children_7 rfl rfl ?_
  refine x_getr_r dX6_children_8 fl_X6_7 hF (fun v2 hF => ?_)
  refine x_iconst 3 (by decide) dX6_children_11 ?_
  refine x_nn hF (fun a3 ha3 hF => ?_)
  rw [ha3]
  refine x_ald_r dX6_children_12 hF (fun v4 hF => ?_)
  refine x_iload_n 2 dX6_children_13 rfl rfl ?_
  refine x_imul dX6_children_14 ?_
  refine x_isub dX6_children_15 ?_
  refine x_istore_n (i := 3) (lv' := [(3, .int (z1 - (v4 * p1))), (0, .ref this), (1, .int p0), (2, .int p1)]) dX6_children_16 rfl (by decide) rfl ?_
  refine x_iload_n 0 dX6_children_17 rfl rfl ?_
  refine x_aload_n 1 dX6_children_18 rfl rfl ?_
  refine x_getr_r dX6_children_19 fl_X6_7 hF (fun v5 hF => ?_)
  refine x_iconst 3 (by decide) dX6_children_22 ?_
  refine x_nn hF (fun a6 ha6 hF => ?_)
  rw [ha6]
  refine x_ald_r dX6_children_23 hF (fun v7 hF => ?_)
  refine x_icmp_ge 31 dX6_children_24 (by decide) hF (fun hF => ?_) (fun hF => ?_)
  · refine x_aload_n 1 dX6_children_31 rfl rfl ?_
    refine x_getr_r dX6_children_32 fl_X6_7 hF (fun v8 hF => ?_)
    refine x_iconst 3 (by decide) dX6_children_35 ?_
    refine x_nn hF (fun a9 ha9 hF => ?_)
    rw [ha9]
    refine x_ald_r dX6_children_36 hF (fun v10 hF => ?_)
    exact x_iret dX6_children_37 rfl (by cases hF; rfl)
  · refine x_iload_n 0 dX6_children_27 rfl rfl ?_
    refine x_goto 37 dX6_children_28 (by decide) ?_
    exact x_iret dX6_children_37 rfl (by cases hF; rfl)
def F_X6_childrenOf (N : Nat) (f : XM) (this : Nat) (p0 : Int32) (p1 : Int32) : Option (Int32 × XM) :=
  (x_cv f 6 this (F_X6_isNode N f this p0 p1)).bind fun z1 =>
  if (x_b z1) = 0 then
    (x_puti f 6 this 11 1).bind fun f2 =>
    (x_geti f2 6 this 11).bind fun v3 =>
    if v3 ≤ 0 then
      (x_cv f2 6 this (F_X6_children N f2 this p0 p1)).bind fun z4 =>
      some (z4, f2)
    else
      some (0, f2)
  else
    (x_puti f 6 this 11 0).bind fun f5 =>
    (x_geti f5 6 this 11).bind fun v6 =>
    if v6 ≤ 0 then
      (x_cv f5 6 this (F_X6_children N f5 this p0 p1)).bind fun z7 =>
      some (z7, f5)
    else
      some (0, f5)
set_option maxRecDepth 20000 in
set_option maxHeartbeats 4000000 in
theorem c_X6_childrenOf (N : Nat) (f : XM) (this : Nat) (p0 : Int32) (p1 : Int32) (n : Nat) (r : (Int32 × XM)) (hF : F_X6_childrenOf N f this p0 p1 = some r) : x_Ct mX6_childrenOf 4 87 0 0 [.ref this, .int p0, .int p1] (f, n) (xr_im r n) := by
  unfold F_X6_childrenOf at hF
  refine x_ct (by decide) rfl (Nat.le_of_ble_eq_true rfl) ?_
  show X mX6_childrenOf 4 87 _ _ 0 0 0 [(0, .ref this), (1, .int p0), (2, .int p1)] [] (f, n)
  refine x_aload_n 0 dX6_childrenOf_0 rfl rfl ?_
  refine x_aload_n 0 dX6_childrenOf_1 rfl rfl ?_
  refine x_iload_n 1 dX6_childrenOf_2 rfl rfl ?_
  refine x_iload_n 2 dX6_childrenOf_3 rfl rfl ?_
  obtain ⟨z1, hzz1, hF⟩ := x_bind hF
  obtain ⟨⟨fsz1, hbz1⟩, hzz1⟩ := x_cv_sp hzz1
  refine x_callv (As := [.int p0, .int p1]) (rest := [.ref this]) 0 0 dX6_childrenOf_4 mi_X6_isNode ml_X6_255 rfl rfl (Nat.le_of_ble_eq_true rfl) ⟨by decide, by decide⟩ (by omega) (by omega) hbz1 rfl (c_X6_isNode N _ _ _ _ _ _ hzz1) (x_K.some ?_) x_KX.none
  refine x_if_eq 14 dX6_childrenOf_7 (by decide) hF (fun hF => ?_) (fun hF => ?_)
  · refine x_iconst 1 (by decide) dX6_childrenOf_14 ?_
    refine x_puti_r dX6_childrenOf_15 fl_X6_38 (fun h9 => by cases h9) hF (fun f2 hF => ?_)
    refine x_aload_n 0 dX6_childrenOf_18 rfl rfl ?_
    refine x_geti_r dX6_childrenOf_19 fl_X6_38 hF (fun v3 hF => ?_)
    refine x_if_le 29 dX6_childrenOf_22 (by decide) hF (fun hF => ?_) (fun hF => ?_)
    · refine x_aload_n 0 dX6_childrenOf_29 rfl rfl ?_
      refine x_iload_n 1 dX6_childrenOf_30 rfl rfl ?_
      refine x_iload_n 2 dX6_childrenOf_31 rfl rfl ?_
      obtain ⟨z4, hzz4, hF⟩ := x_bind hF
      obtain ⟨⟨fsz4, hbz4⟩, hzz4⟩ := x_cv_sp hzz4
      refine x_callv (As := [.int p0, .int p1]) (rest := []) 0 0 dX6_childrenOf_32 mi_X6_children ml_X6_258 rfl rfl (Nat.le_of_ble_eq_true rfl) ⟨by decide, by decide⟩ (by omega) (by omega) hbz4 rfl (c_X6_children N _ _ _ _ _ _ hzz4) (x_K.some ?_) x_KX.none
      exact x_iret dX6_childrenOf_35 rfl (by cases hF; rfl)
    · refine x_iconst 0 (by decide) dX6_childrenOf_25 ?_
      refine x_goto 35 dX6_childrenOf_26 (by decide) ?_
      exact x_iret dX6_childrenOf_35 rfl (by cases hF; rfl)
  · refine x_iconst 0 (by decide) dX6_childrenOf_10 ?_
    refine x_goto 15 dX6_childrenOf_11 (by decide) ?_
    refine x_puti_r dX6_childrenOf_15 fl_X6_38 (fun h9 => by cases h9) hF (fun f5 hF => ?_)
    refine x_aload_n 0 dX6_childrenOf_18 rfl rfl ?_
    refine x_geti_r dX6_childrenOf_19 fl_X6_38 hF (fun v6 hF => ?_)
    refine x_if_le 29 dX6_childrenOf_22 (by decide) hF (fun hF => ?_) (fun hF => ?_)
    · refine x_aload_n 0 dX6_childrenOf_29 rfl rfl ?_
      refine x_iload_n 1 dX6_childrenOf_30 rfl rfl ?_
      refine x_iload_n 2 dX6_childrenOf_31 rfl rfl ?_
      obtain ⟨z7, hzz7, hF⟩ := x_bind hF
      obtain ⟨⟨fsz7, hbz7⟩, hzz7⟩ := x_cv_sp hzz7
      refine x_callv (As := [.int p0, .int p1]) (rest := []) 0 0 dX6_childrenOf_32 mi_X6_children ml_X6_258 rfl rfl (Nat.le_of_ble_eq_true rfl) ⟨by decide, by decide⟩ (by omega) (by omega) hbz7 rfl (c_X6_children N _ _ _ _ _ _ hzz7) (x_K.some ?_) x_KX.none
      exact x_iret dX6_childrenOf_35 rfl (by cases hF; rfl)
    · refine x_iconst 0 (by decide) dX6_childrenOf_25 ?_
      refine x_goto 35 dX6_childrenOf_26 (by decide) ?_
      exact x_iret dX6_childrenOf_35 rfl (by cases hF; rfl)
def F_X6_clearBuffer (N : Nat) (f : XM) (this : Nat) : Option (Int32 × XM) :=
  (x_puti f 6 this 11 0).bind fun f1 =>
  (x_geti f1 6 this 10).bind fun v2 =>
  (x_puti f1 6 this 10 0).bind fun f3 =>
  some (v2, f3)
set_option maxRecDepth 20000 in
set_option maxHeartbeats 4000000 in
theorem c_X6_clearBuffer (N : Nat) (f : XM) (this : Nat) (n : Nat) (r : (Int32 × XM)) (hF : F_X6_clearBuffer N f this = some r) : x_Ct mX6_clearBuffer 0 0 0 0 [.ref this] (f, n) (xr_im r n) := by
  unfold F_X6_clearBuffer at hF
  refine x_ct (by decide) rfl (Nat.le_of_ble_eq_true rfl) ?_
  show X mX6_clearBuffer 0 0 _ _ 0 0 0 [(0, .ref this)] [] (f, n)
  refine x_aload_n 0 dX6_clearBuffer_0 rfl rfl ?_
  refine x_iconst 0 (by decide) dX6_clearBuffer_1 ?_
  refine x_puti_r dX6_clearBuffer_2 fl_X6_38 (fun h9 => by cases h9) hF (fun f1 hF => ?_)
  refine x_aload_n 0 dX6_clearBuffer_5 rfl rfl ?_
  refine x_geti_r dX6_clearBuffer_6 fl_X6_184 hF (fun v2 hF => ?_)
  refine x_istore_n (i := 1) (lv' := [(1, .int v2), (0, .ref this)]) dX6_clearBuffer_9 rfl (by decide) rfl ?_
  refine x_aload_n 1 dX6_clearBuffer_10 rfl rfl ?_
  refine x_iconst 0 (by decide) dX6_clearBuffer_11 ?_
  refine x_puti_r dX6_clearBuffer_12 fl_X6_184 (fun h9 => by cases h9) hF (fun f3 hF => ?_)
  refine x_iload_n 0 dX6_clearBuffer_15 rfl rfl ?_
  exact x_iret dX6_clearBuffer_16 rfl (by cases hF; rfl)
def F_X6_closes_L18 (N : Nat) (c0 : Nat) (K : Int32 → XM → Option (Int32 × XM)) : Nat → Int32 → XM → Option (Int32 × XM)
  | 0, _, _ => none
  | k + 1, x1, f =>
    if x1 < 9 then
      K x1 f
    else
      (x_getr f 6 c0 0).bind fun v5 =>
      (x_getr f 6 c0 0).bind fun v6 =>
      Option.bind v6 fun a7 =>
      (x_ald f a7 x1).bind fun v8 =>
      Option.bind v5 fun a9 =>
      (x_ast f a9 (x1 + 121) v8).bind fun f10 =>
      F_X6_closes_L18 N c0 K k (x1 + (-1)) f10
def F_X6_closes (N : Nat) (f : XM) (this : Nat) : Option (Int32 × XM) :=
  (x_getr f 6 this 0).bind fun v1 =>
  Option.bind v1 fun a2 =>
  (x_ald f a2 6).bind fun v3 =>
  F_X6_closes_L18 N this (fun y1_11 g11 =>
  (x_getr g11 6 this 0).bind fun v12 =>
  Option.bind v12 fun a13 =>
  (x_ast g11 a13 9 0).bind fun f14 =>
  (x_getr f14 6 this 0).bind fun v15 =>
  Option.bind v15 fun a16 =>
  (x_ald f14 a16 6).bind fun v17 =>
  (x_ast f14 a16 6 (v17 + 1)).bind fun f18 =>
  (x_getr f18 6 this 0).bind fun v19 =>
  Option.bind v19 fun a20 =>
  (x_ald f18 a20 6).bind fun v21 =>
  some (v21, f18)) N ((9 + (121 * (v3 + 1))) - 1) f
set_option maxRecDepth 20000 in
set_option maxHeartbeats 4000000 in
theorem w_X6_closes_L18 (N : Nat) (c0 : Nat) (K : Int32 → XM → Option (Int32 × XM)) (n : Nat) (r : (Int32 × XM)) {rc rs : Nat} : ∀ (k : Nat) (x1 : Int32) (f : XM), F_X6_closes_L18 N c0 K k x1 f = some r → (∀ (x1 : Int32) (f : XM), K x1 f = some r → X mX6_closes 0 0 (x_end (xr_im r n)) x_noRO rc rs 45 [(0, .ref c0), (1, .int x1)] [] (f, n)) → X mX6_closes 0 0 (x_end (xr_im r n)) x_noRO rc rs 18 [(0, .ref c0), (1, .int x1)] [] (f, n) := by
  intro k
  induction k with
  | zero =>
    intro x1 f hF
    exact absurd hF (by intro h9; cases h9)
  | succ k ih =>
    intro x1 f hF hK
    have ih := fun x1 f hF => ih x1 f hF hK
    rw [F_X6_closes_L18] at hF
    refine x_iload_n 1 dX6_closes_18 rfl rfl ?_
    refine x_bipush 9 (by decide) dX6_closes_19 ?_
    refine x_icmp_lt 45 dX6_closes_21 (by decide) hF (fun hF => ?_) (fun hF => ?_)
    · refine x_sub [0, 1] rfl ?_
      exact hK _ _ hF
    · refine x_aload_n 0 dX6_closes_24 rfl rfl ?_
      refine x_getr_r dX6_closes_25 fl_X6_7 hF (fun v5 hF => ?_)
      refine x_iload_n 1 dX6_closes_28 rfl rfl ?_
      refine x_bipush 121 (by decide) dX6_closes_29 ?_
      refine x_iadd dX6_closes_31 ?_
      refine x_aload_n 0 dX6_closes_32 rfl rfl ?_
      refine x_getr_r dX6_closes_33 fl_X6_7 hF (fun v6 hF => ?_)
      refine x_iload_n 1 dX6_closes_36 rfl rfl ?_
      refine x_nn hF (fun a7 ha7 hF => ?_)
      rw [ha7]
      refine x_ald_r dX6_closes_37 hF (fun v8 hF => ?_)
      refine x_nn hF (fun a9 ha9 hF => ?_)
      rw [ha9]
      refine x_ast_r dX6_closes_38 hF (fun f10 hF => ?_)
      refine x_iinc (x1 + (-1)) (lv' := [(1, .int (x1 + (-1))), (0, .ref c0)]) dX6_closes_39 1 rfl (by rfl) (by decide) rfl ?_
      refine x_goto 18 dX6_closes_42 (by decide) ?_
      refine x_sub [1, 0] rfl ?_
      exact ih _ _ hF
set_option maxRecDepth 20000 in
set_option maxHeartbeats 4000000 in
theorem c_X6_closes (N : Nat) (f : XM) (this : Nat) (n : Nat) (r : (Int32 × XM)) (hF : F_X6_closes N f this = some r) : x_Ct mX6_closes 0 0 0 0 [.ref this] (f, n) (xr_im r n) := by
  unfold F_X6_closes at hF
  refine x_ct (by decide) rfl (Nat.le_of_ble_eq_true rfl) ?_
  show X mX6_closes 0 0 _ _ 0 0 0 [(0, .ref this)] [] (f, n)
  refine x_bipush 9 (by decide) dX6_closes_0 ?_
  refine x_bipush 121 (by decide) dX6_closes_2 ?_
  refine x_aload_n 0 dX6_closes_4 rfl rfl ?_
  refine x_getr_r dX6_closes_5 fl_X6_7 hF (fun v1 hF => ?_)
  refine x_bipush 6 (by decide) dX6_closes_8 ?_
  refine x_nn hF (fun a2 ha2 hF => ?_)
  rw [ha2]
  refine x_ald_r dX6_closes_10 hF (fun v3 hF => ?_)
  refine x_iconst 1 (by decide) dX6_closes_11 ?_
  refine x_iadd dX6_closes_12 ?_
  refine x_imul dX6_closes_13 ?_
  refine x_iadd dX6_closes_14 ?_
  refine x_iconst 1 (by decide) dX6_closes_15 ?_
  refine x_isub dX6_closes_16 ?_
  refine x_istore_n (i := 1) (lv' := [(1, .int ((9 + (121 * (v3 + 1))) - 1)), (0, .ref this)]) dX6_closes_17 rfl (by decide) rfl ?_
  refine x_sub [1, 0] rfl ?_
  refine w_X6_closes_L18 N _ _ _ r _ _ _ hF (fun y1_11 g11 hF => ?_)
  refine x_aload_n 0 dX6_closes_45 rfl rfl ?_
  refine x_getr_r dX6_closes_46 fl_X6_7 hF (fun v12 hF => ?_)
  refine x_bipush 9 (by decide) dX6_closes_49 ?_
  refine x_iconst 0 (by decide) dX6_closes_51 ?_
  refine x_nn hF (fun a13 ha13 hF => ?_)
  rw [ha13]
  refine x_ast_r dX6_closes_52 hF (fun f14 hF => ?_)
  refine x_aload_n 0 dX6_closes_53 rfl rfl ?_
  refine x_getr_r dX6_closes_54 fl_X6_7 hF (fun v15 hF => ?_)
  refine x_bipush 6 (by decide) dX6_closes_57 ?_
  refine x_nn hF (fun a16 ha16 hF => ?_)
  rw [ha16]
  refine x_dup2ri dX6_closes_59 ?_
  refine x_ald_r dX6_closes_60 hF (fun v17 hF => ?_)
  refine x_iconst 1 (by decide) dX6_closes_61 ?_
  refine x_iadd dX6_closes_62 ?_
  refine x_ast_r dX6_closes_63 hF (fun f18 hF => ?_)
  refine x_aload_n 0 dX6_closes_64 rfl rfl ?_
  refine x_getr_r dX6_closes_65 fl_X6_7 hF (fun v19 hF => ?_)
  refine x_bipush 6 (by decide) dX6_closes_68 ?_
  refine x_nn hF (fun a20 ha20 hF => ?_)
  rw [ha20]
  refine x_ald_r dX6_closes_70 hF (fun v21 hF => ?_)
  exact x_iret dX6_closes_71 rfl (by cases hF; rfl)
def F_X6_closeRun (N : Nat) (f : XM) (this : Nat) : Option (Int32 × XM) :=
  (x_cv f 6 this (F_X6_canClose N f this)).bind fun z1 =>
  if (x_b z1) = 0 then
    (x_puti f 6 this 11 1).bind fun f2 =>
    (x_geti f2 6 this 11).bind fun v3 =>
    if v3 ≤ 0 then
      (x_getr f2 6 this 0).bind fun v4 =>
      Option.bind v4 fun a5 =>
      (x_cv f2 6 this (F_X6_saves N f2 this a5)).bind fun z6 =>
      (x_cv z6 6 this (F_X6_closes N z6 this)).bind fun z7 =>
      some (z7.1, z7.2)
    else
      some (0, f2)
  else
    (x_puti f 6 this 11 0).bind fun f8 =>
    (x_geti f8 6 this 11).bind fun v9 =>
    if v9 ≤ 0 then
      (x_getr f8 6 this 0).bind fun v10 =>
      Option.bind v10 fun a11 =>
      (x_cv f8 6 this (F_X6_saves N f8 this a11)).bind fun z12 =>
      (x_cv z12 6 this (F_X6_closes N z12 this)).bind fun z13 =>
      some (z13.1, z13.2)
    else
      some (0, f8)
set_option maxRecDepth 20000 in
set_option maxHeartbeats 4000000 in
theorem c_X6_closeRun (N : Nat) (f : XM) (this : Nat) (n : Nat) (r : (Int32 × XM)) (hF : F_X6_closeRun N f this = some r) : x_Ct mX6_closeRun 2 46 0 0 [.ref this] (f, n) (xr_im r n) := by
  unfold F_X6_closeRun at hF
  refine x_ct (by decide) rfl (Nat.le_of_ble_eq_true rfl) ?_
  show X mX6_closeRun 2 46 _ _ 0 0 0 [(0, .ref this)] [] (f, n)
  refine x_aload_n 0 dX6_closeRun_0 rfl rfl ?_
  refine x_aload_n 0 dX6_closeRun_1 rfl rfl ?_
  obtain ⟨z1, hzz1, hF⟩ := x_bind hF
  obtain ⟨⟨fsz1, hbz1⟩, hzz1⟩ := x_cv_sp hzz1
  refine x_callv (As := []) (rest := [.ref this]) 0 0 dX6_closeRun_2 mi_X6_canClose ml_X6_146 rfl rfl (Nat.le_of_ble_eq_true rfl) ⟨by decide, by decide⟩ (by omega) (by omega) hbz1 rfl (c_X6_canClose N _ _ _ _ hzz1) (x_K.some ?_) x_KX.none
  refine x_if_eq 12 dX6_closeRun_5 (by decide) hF (fun hF => ?_) (fun hF => ?_)
  · refine x_iconst 1 (by decide) dX6_closeRun_12 ?_
    refine x_puti_r dX6_closeRun_13 fl_X6_38 (fun h9 => by cases h9) hF (fun f2 hF => ?_)
    refine x_aload_n 0 dX6_closeRun_16 rfl rfl ?_
    refine x_geti_r dX6_closeRun_17 fl_X6_38 hF (fun v3 hF => ?_)
    refine x_if_le 25 dX6_closeRun_20 (by decide) hF (fun hF => ?_) (fun hF => ?_)
    · refine x_aload_n 0 dX6_closeRun_25 rfl rfl ?_
      refine x_aload_n 0 dX6_closeRun_26 rfl rfl ?_
      refine x_getr_r dX6_closeRun_27 fl_X6_7 hF (fun v4 hF => ?_)
      refine x_nn hF (fun a5 ha5 hF => ?_)
      rw [ha5]
      obtain ⟨z6, hzz6, hF⟩ := x_bind hF
      obtain ⟨⟨fsz6, hbz6⟩, hzz6⟩ := x_cv_sp hzz6
      refine x_callv (As := [.ref a5]) (rest := []) 0 0 dX6_closeRun_30 mi_X6_saves ml_X6_139 rfl rfl (Nat.le_of_ble_eq_true rfl) ⟨by decide, by decide⟩ (by omega) (by omega) hbz6 rfl (c_X6_saves N _ _ _ _ _ hzz6) (x_K.none ?_) x_KX.none
      refine x_aload_n 0 dX6_closeRun_33 rfl rfl ?_
      obtain ⟨z7, hzz7, hF⟩ := x_bind hF
      obtain ⟨⟨fsz7, hbz7⟩, hzz7⟩ := x_cv_sp hzz7
      refine x_callv (As := []) (rest := []) 0 0 dX6_closeRun_34 mi_X6_closes ml_X6_150 rfl rfl (Nat.le_of_ble_eq_true rfl) ⟨by decide, by decide⟩ (by omega) (by omega) hbz7 rfl (c_X6_closes N _ _ _ _ hzz7) (x_K.some ?_) x_KX.none
      exact x_iret dX6_closeRun_37 rfl (by cases hF; rfl)
    · refine x_iconst 0 (by decide) dX6_closeRun_23 ?_
      exact x_iret dX6_closeRun_24 rfl (by cases hF; rfl)
  · refine x_iconst 0 (by decide) dX6_closeRun_8 ?_
    refine x_goto 13 dX6_closeRun_9 (by decide) ?_
    refine x_puti_r dX6_closeRun_13 fl_X6_38 (fun h9 => by cases h9) hF (fun f8 hF => ?_)
    refine x_aload_n 0 dX6_closeRun_16 rfl rfl ?_
    refine x_geti_r dX6_closeRun_17 fl_X6_38 hF (fun v9 hF => ?_)
    refine x_if_le 25 dX6_closeRun_20 (by decide) hF (fun hF => ?_) (fun hF => ?_)
    · refine x_aload_n 0 dX6_closeRun_25 rfl rfl ?_
      refine x_aload_n 0 dX6_closeRun_26 rfl rfl ?_
      refine x_getr_r dX6_closeRun_27 fl_X6_7 hF (fun v10 hF => ?_)
      refine x_nn hF (fun a11 ha11 hF => ?_)
      rw [ha11]
      obtain ⟨z12, hzz12, hF⟩ := x_bind hF
      obtain ⟨⟨fsz12, hbz12⟩, hzz12⟩ := x_cv_sp hzz12
      refine x_callv (As := [.ref a11]) (rest := []) 0 0 dX6_closeRun_30 mi_X6_saves ml_X6_139 rfl rfl (Nat.le_of_ble_eq_true rfl) ⟨by decide, by decide⟩ (by omega) (by omega) hbz12 rfl (c_X6_saves N _ _ _ _ _ hzz12) (x_K.none ?_) x_KX.none
      refine x_aload_n 0 dX6_closeRun_33 rfl rfl ?_
      obtain ⟨z13, hzz13, hF⟩ := x_bind hF
      obtain ⟨⟨fsz13, hbz13⟩, hzz13⟩ := x_cv_sp hzz13
      refine x_callv (As := []) (rest := []) 0 0 dX6_closeRun_34 mi_X6_closes ml_X6_150 rfl rfl (Nat.le_of_ble_eq_true rfl) ⟨by decide, by decide⟩ (by omega) (by omega) hbz13 rfl (c_X6_closes N _ _ _ _ hzz13) (x_K.some ?_) x_KX.none
      exact x_iret dX6_closeRun_37 rfl (by cases hF; rfl)
    · refine x_iconst 0 (by decide) dX6_closeRun_23 ?_
      exact x_iret dX6_closeRun_24 rfl (by cases hF; rfl)
def F_X6_isKey (N : Nat) (f : XM) (p0 : Int32) : Option Bool :=
  (F_X6_in N f p0 0 9999).bind fun z1 =>
  some z1
set_option maxRecDepth 20000 in
set_option maxHeartbeats 4000000 in
theorem c_X6_isKey (N : Nat) (f : XM) (p0 : Int32) (n : Nat) (r : Bool) (hF : F_X6_isKey N f p0 = some r) : x_Ct mX6_isKey 1 22 0 0 [.int p0] (f, n) (xr_zp r (f, n)) := by
  unfold F_X6_isKey at hF
  refine x_ct (by decide) rfl (Nat.le_of_ble_eq_true rfl) ?_
  show X mX6_isKey 1 22 _ _ 0 0 0 [(0, .int p0)] [] (f, n)
  refine x_iload_n 0 dX6_isKey_0 rfl rfl ?_
  refine x_iconst 0 (by decide) dX6_isKey_1 ?_
  refine x_sipush 9999 (by decide) dX6_isKey_2 ?_
  obtain ⟨z1, hzz1, hF⟩ := x_bind hF
  refine x_calls (As := [.int p0, .int 0, .int 9999]) (rest := []) 0 0 dX6_isKey_5 mi_X6_in rfl ml_X6_50 rfl rfl (Nat.le_of_ble_eq_true rfl) ⟨by decide, by decide⟩ (by omega) (by omega) (c_X6_in N _ _ _ _ _ _ hzz1) (x_K.some ?_) x_KX.none
  exact x_zret dX6_isKey_8 rfl (x_b_01 z1) (by cases hF; rfl)
def F_X6_counts (N : Nat) (f : XM) (this : Nat) (p0 : Int32) (p1 : Int32) : Option (Int32 × XM) :=
  (F_X6_isKey N f p0).bind fun z1 =>
  if (x_b z1) = 0 then
    (x_puti f 6 this 11 1).bind fun f2 =>
    (x_geti f2 6 this 11).bind fun v3 =>
    if v3 ≤ 0 then
      (x_cv f2 6 this (F_X6_between N f2 this p0 p1)).bind fun z4 =>
      some (z4.1, z4.2)
    else
      some (0, f2)
  else
    (F_X6_in N f p1 p0 9999).bind fun z5 =>
    if (x_b z5) = 0 then
      (x_puti f 6 this 11 1).bind fun f6 =>
      (x_geti f6 6 this 11).bind fun v7 =>
      if v7 ≤ 0 then
        (x_cv f6 6 this (F_X6_between N f6 this p0 p1)).bind fun z8 =>
        some (z8.1, z8.2)
      else
        some (0, f6)
    else
      (x_puti f 6 this 11 0).bind fun f9 =>
      (x_geti f9 6 this 11).bind fun v10 =>
      if v10 ≤ 0 then
        (x_cv f9 6 this (F_X6_between N f9 this p0 p1)).bind fun z11 =>
        some (z11.1, z11.2)
      else
        some (0, f9)
set_option maxRecDepth 20000 in
set_option maxHeartbeats 4000000 in
theorem c_X6_counts (N : Nat) (f : XM) (this : Nat) (p0 : Int32) (p1 : Int32) (n : Nat) (r : (Int32 × XM)) (hF : F_X6_counts N f this p0 p1 = some r) : x_Ct mX6_counts 6 137 0 0 [.ref this, .int p0, .int p1] (f, n) (xr_im r n) := by
  unfold F_X6_counts at hF
  refine x_ct (by decide) rfl (Nat.le_of_ble_eq_true rfl) ?_
  show X mX6_counts 6 137 _ _ 0 0 0 [(0, .ref this), (1, .int p0), (2, .int p1)] [] (f, n)
  refine x_aload_n 0 dX6_counts_0 rfl rfl ?_
  refine x_iload_n 1 dX6_counts_1 rfl rfl ?_
  obtain ⟨z1, hzz1, hF⟩ := x_bind hF
  refine x_calls (As := [.int p0]) (rest := [.ref this]) 0 0 dX6_counts_2 mi_X6_isKey rfl ml_X6_129 rfl rfl (Nat.le_of_ble_eq_true rfl) ⟨by decide, by decide⟩ (by omega) (by omega) (c_X6_isKey N _ _ _ _ hzz1) (x_K.some ?_) x_KX.none
  refine x_if_eq 23 dX6_counts_5 (by decide) hF (fun hF => ?_) (fun hF => ?_)
  · refine x_iconst 1 (by decide) dX6_counts_23 ?_
    refine x_puti_r dX6_counts_24 fl_X6_38 (fun h9 => by cases h9) hF (fun f2 hF => ?_)
    refine x_aload_n 0 dX6_counts_27 rfl rfl ?_
    refine x_geti_r dX6_counts_28 fl_X6_38 hF (fun v3 hF => ?_)
    refine x_if_le 38 dX6_counts_31 (by decide) hF (fun hF => ?_) (fun hF => ?_)
    · refine x_aload_n 0 dX6_counts_38 rfl rfl ?_
      refine x_iload_n 1 dX6_counts_39 rfl rfl ?_
      refine x_iload_n 2 dX6_counts_40 rfl rfl ?_
      obtain ⟨z4, hzz4, hF⟩ := x_bind hF
      obtain ⟨⟨fsz4, hbz4⟩, hzz4⟩ := x_cv_sp hzz4
      refine x_callv (As := [.int p0, .int p1]) (rest := []) 0 0 dX6_counts_41 mi_X6_between ml_X6_224 rfl rfl (Nat.le_of_ble_eq_true rfl) ⟨by decide, by decide⟩ (by omega) (by omega) hbz4 rfl (c_X6_between N _ _ _ _ _ _ hzz4) (x_K.some ?_) x_KX.none
      exact x_iret dX6_counts_44 rfl (by cases hF; rfl)
    · refine x_iconst 0 (by decide) dX6_counts_34 ?_
      refine x_goto 44 dX6_counts_35 (by decide) ?_
      exact x_iret dX6_counts_44 rfl (by cases hF; rfl)
  · refine x_iload_n 2 dX6_counts_8 rfl rfl ?_
    refine x_iload_n 1 dX6_counts_9 rfl rfl ?_
    refine x_sipush 9999 (by decide) dX6_counts_10 ?_
    obtain ⟨z5, hzz5, hF⟩ := x_bind hF
    refine x_calls (As := [.int p1, .int p0, .int 9999]) (rest := [.ref this]) 0 0 dX6_counts_13 mi_X6_in rfl ml_X6_50 rfl rfl (Nat.le_of_ble_eq_true rfl) ⟨by decide, by decide⟩ (by omega) (by omega) (c_X6_in N _ _ _ _ _ _ hzz5) (x_K.some ?_) x_KX.none
    refine x_if_eq 23 dX6_counts_16 (by decide) hF (fun hF => ?_) (fun hF => ?_)
    · refine x_iconst 1 (by decide) dX6_counts_23 ?_
      refine x_puti_r dX6_counts_24 fl_X6_38 (fun h9 => by cases h9) hF (fun f6 hF => ?_)
      refine x_aload_n 0 dX6_counts_27 rfl rfl ?_
      refine x_geti_r dX6_counts_28 fl_X6_38 hF (fun v7 hF => ?_)
      refine x_if_le 38 dX6_counts_31 (by decide) hF (fun hF => ?_) (fun hF => ?_)
      · refine x_aload_n 0 dX6_counts_38 rfl rfl ?_
        refine x_iload_n 1 dX6_counts_39 rfl rfl ?_
        refine x_iload_n 2 dX6_counts_40 rfl rfl ?_
        obtain ⟨z8, hzz8, hF⟩ := x_bind hF
        obtain ⟨⟨fsz8, hbz8⟩, hzz8⟩ := x_cv_sp hzz8
        refine x_callv (As := [.int p0, .int p1]) (rest := []) 0 0 dX6_counts_41 mi_X6_between ml_X6_224 rfl rfl (Nat.le_of_ble_eq_true rfl) ⟨by decide, by decide⟩ (by omega) (by omega) hbz8 rfl (c_X6_between N _ _ _ _ _ _ hzz8) (x_K.some ?_) x_KX.none
        exact x_iret dX6_counts_44 rfl (by cases hF; rfl)
      · refine x_iconst 0 (by decide) dX6_counts_34 ?_
        refine x_goto 44 dX6_counts_35 (by decide) ?_
        exact x_iret dX6_counts_44 rfl (by cases hF; rfl)
    · refine x_iconst 0 (by decide) dX6_counts_19 ?_
      refine x_goto 24 dX6_counts_20 (by decide) ?_
      refine x_puti_r dX6_counts_24 fl_X6_38 (fun h9 => by cases h9) hF (fun f9 hF => ?_)
      refine x_aload_n 0 dX6_counts_27 rfl rfl ?_
      refine x_geti_r dX6_counts_28 fl_X6_38 hF (fun v10 hF => ?_)
      refine x_if_le 38 dX6_counts_31 (by decide) hF (fun hF => ?_) (fun hF => ?_)
      · refine x_aload_n 0 dX6_counts_38 rfl rfl ?_
        refine x_iload_n 1 dX6_counts_39 rfl rfl ?_
        refine x_iload_n 2 dX6_counts_40 rfl rfl ?_
        obtain ⟨z11, hzz11, hF⟩ := x_bind hF
        obtain ⟨⟨fsz11, hbz11⟩, hzz11⟩ := x_cv_sp hzz11
        refine x_callv (As := [.int p0, .int p1]) (rest := []) 0 0 dX6_counts_41 mi_X6_between ml_X6_224 rfl rfl (Nat.le_of_ble_eq_true rfl) ⟨by decide, by decide⟩ (by omega) (by omega) hbz11 rfl (c_X6_between N _ _ _ _ _ _ hzz11) (x_K.some ?_) x_KX.none
        exact x_iret dX6_counts_44 rfl (by cases hF; rfl)
      · refine x_iconst 0 (by decide) dX6_counts_34 ?_
        refine x_goto 44 dX6_counts_35 (by decide) ?_
        exact x_iret dX6_counts_44 rfl (by cases hF; rfl)
def F_X6_countByLeaves (N : Nat) (f : XM) (this : Nat) (p0 : Int32) (p1 : Int32) : Option (Int32 × XM) :=
  (x_cv f 6 this (F_X6_counts N f this p0 p1)).bind fun z1 =>
  some (z1.1, z1.2)
set_option maxRecDepth 20000 in
set_option maxHeartbeats 4000000 in
theorem c_X6_countByLeaves (N : Nat) (f : XM) (this : Nat) (p0 : Int32) (p1 : Int32) (n : Nat) (r : (Int32 × XM)) (hF : F_X6_countByLeaves N f this p0 p1 = some r) : x_Ct mX6_countByLeaves 7 159 0 0 [.ref this, .int p0, .int p1] (f, n) (xr_im r n) := by
  unfold F_X6_countByLeaves at hF
  refine x_ct (by decide) rfl (Nat.le_of_ble_eq_true rfl) ?_
  show X mX6_countByLeaves 7 159 _ _ 0 0 0 [(0, .ref this), (1, .int p0), (2, .int p1)] [] (f, n)
  refine x_aload_n 0 dX6_countByLeaves_0 rfl rfl ?_
  refine x_iload_n 1 dX6_countByLeaves_1 rfl rfl ?_
  refine x_iload_n 2 dX6_countByLeaves_2 rfl rfl ?_
  obtain ⟨z1, hzz1, hF⟩ := x_bind hF
  obtain ⟨⟨fsz1, hbz1⟩, hzz1⟩ := x_cv_sp hzz1
  refine x_callv (As := [.int p0, .int p1]) (rest := []) 0 0 dX6_countByLeaves_3 mi_X6_counts ml_X6_227 rfl rfl (Nat.le_of_ble_eq_true rfl) ⟨by decide, by decide⟩ (by omega) (by omega) hbz1 rfl (c_X6_counts N _ _ _ _ _ _ hzz1) (x_K.some ?_) x_KX.none
  exact x_iret dX6_countByLeaves_6 rfl (by cases hF; rfl)
def F_X6_countByNext (N : Nat) (f : XM) (this : Nat) (p0 : Int32) (p1 : Int32) : Option (Int32 × XM) :=
  (x_cv f 6 this (F_X6_counts N f this p0 p1)).bind fun z1 =>
  some (z1.1, z1.2)
set_option maxRecDepth 20000 in
set_option maxHeartbeats 4000000 in
theorem c_X6_countByNext (N : Nat) (f : XM) (this : Nat) (p0 : Int32) (p1 : Int32) (n : Nat) (r : (Int32 × XM)) (hF : F_X6_countByNext N f this p0 p1 = some r) : x_Ct mX6_countByNext 7 159 0 0 [.ref this, .int p0, .int p1] (f, n) (xr_im r n) := by
  unfold F_X6_countByNext at hF
  refine x_ct (by decide) rfl (Nat.le_of_ble_eq_true rfl) ?_
  show X mX6_countByNext 7 159 _ _ 0 0 0 [(0, .ref this), (1, .int p0), (2, .int p1)] [] (f, n)
  refine x_aload_n 0 dX6_countByNext_0 rfl rfl ?_
  refine x_iload_n 1 dX6_countByNext_1 rfl rfl ?_
  refine x_iload_n 2 dX6_countByNext_2 rfl rfl ?_
  obtain ⟨z1, hzz1, hF⟩ := x_bind hF
  obtain ⟨⟨fsz1, hbz1⟩, hzz1⟩ := x_cv_sp hzz1
  refine x_callv (As := [.int p0, .int p1]) (rest := []) 0 0 dX6_countByNext_3 mi_X6_counts ml_X6_227 rfl rfl (Nat.le_of_ble_eq_true rfl) ⟨by decide, by decide⟩ (by omega) (by omega) hbz1 rfl (c_X6_counts N _ _ _ _ _ _ hzz1) (x_K.some ?_) x_KX.none
  exact x_iret dX6_countByNext_6 rfl (by cases hF; rfl)
def F_X6_runsIn_L47 (N : Nat) (f : XM) (c0 : Nat) (c5 : Int32) (K : Int64 → Int32 → Option Int64) : Nat → Int64 → Int32 → Option Int64
  | 0, _, _ => none
  | k + 1, x3, x6 =>
    (x_cv f 6 c0 (F_X6_size N f c0 c5)).bind fun z10 =>
    if z10 ≤ x6 then
      K x3 x6
    else
      (x_cv f 6 c0 (F_X6_key N f c0 c5 x6)).bind fun z11 =>
      (x_cv f 6 c0 (F_X6_value N f c0 c5 x6)).bind fun z12 =>
      if z12 = (-1) then
        F_X6_runsIn_L47 N f c0 c5 K k (((31 : Int64) * (((31 : Int64) * x3) + (z11 : Int32).toInt64)) + (1 : Int32).toInt64) (x6 + 1)
      else
        F_X6_runsIn_L47 N f c0 c5 K k (((31 : Int64) * (((31 : Int64) * x3) + (z11 : Int32).toInt64)) + (0 : Int32).toInt64) (x6 + 1)
def F_X6_runsIn_L18 (N : Nat) (f : XM) (c0 : Nat) (K : Int64 → Int32 → Option Int64) : Nat → Int64 → Int32 → Option Int64
  | 0, _, _ => none
  | k + 1, x3, x5 =>
    (x_getr f 6 c0 0).bind fun v5 =>
    Option.bind v5 fun a6 =>
    (x_ald f a6 6).bind fun v7 =>
    if v7 < x5 then
      K x3 x5
    else
      (x_cv f 6 c0 (F_X6_size N f c0 x5)).bind fun z8 =>
      F_X6_runsIn_L47 N f c0 x5 (fun y3_13 y6_13 =>
      F_X6_runsIn_L18 N f c0 K k y3_13 (x5 + 1)) N (((31 : Int64) * x3) + (z8 : Int32).toInt64) 0
def F_X6_runsIn (N : Nat) (f : XM) (this : Nat) (p0 : Int64) : Option Int64 :=
  (x_getr f 6 this 0).bind fun v1 =>
  Option.bind v1 fun a2 =>
  (x_ald f a2 6).bind fun v3 =>
  F_X6_runsIn_L18 N f this (fun y3_14 y5_14 =>
  some y3_14) N (((31 : Int64) * p0) + (v3 : Int32).toInt64) 0
set_option maxRecDepth 20000 in
set_option maxHeartbeats 4000000 in
theorem w_X6_runsIn_L47 (N : Nat) (f : XM) (c0 : Nat) (c5 : Int32) (K : Int64 → Int32 → Option Int64) (n : Nat) (r : Int64) {rc rs : Nat} : ∀ (k : Nat) (x3 : Int64) (x6 : Int32), F_X6_runsIn_L47 N f c0 c5 K k x3 x6 = some r → (∀ (x3 : Int64) (x6 : Int32), K x3 x6 = some r → X mX6_runsIn 1 22 (x_end (xr_lp r (f, n))) x_noRO rc rs 103 [(0, .ref c0), (3, .long x3), (5, .int c5), (6, .int x6)] [] (f, n)) → X mX6_runsIn 1 22 (x_end (xr_lp r (f, n))) x_noRO rc rs 47 [(0, .ref c0), (3, .long x3), (5, .int c5), (6, .int x6)] [] (f, n) := by
  intro k
  induction k with
  | zero =>
    intro x3 x6 hF
    exact absurd hF (by intro h9; cases h9)
  | succ k ih =>
    intro x3 x6 hF hK
    have ih := fun x3 x6 hF => ih x3 x6 hF hK
    rw [F_X6_runsIn_L47] at hF
    refine x_iload 3 dX6_runsIn_47 rfl ?_
    refine x_aload_n 0 dX6_runsIn_49 rfl rfl ?_
    refine x_iload 2 dX6_runsIn_50 rfl ?_
    obtain ⟨z10, hzz10, hF⟩ := x_bind hF
    obtain ⟨⟨fsz10, hbz10⟩, hzz10⟩ := x_cv_sp hzz10
    refine x_callv (As := [.int c5]) (rest := [.int x6]) (rc + 0) (rs + 0) dX6_runsIn_52 mi_X6_size ml_X6_54 rfl rfl (Nat.le_of_ble_eq_true rfl) ⟨by decide, by decide⟩ (by omega) (by omega) hbz10 rfl (c_X6_size N _ _ _ _ _ hzz10) (x_K.some ?_) x_KX.none
    refine x_icmp_ge 103 dX6_runsIn_55 (by decide) hF (fun hF => ?_) (fun hF => ?_)
    · refine x_sub [0, 1, 2, 3] rfl ?_
      exact hK _ _ hF
    · refine x_ldc2 kc_X6_283 dX6_runsIn_58 ?_
      refine x_ldc2 kc_X6_283 dX6_runsIn_61 ?_
      refine x_lload_n 1 dX6_runsIn_64 rfl rfl ?_
      refine x_lmul dX6_runsIn_65 ?_
      refine x_aload_n 0 dX6_runsIn_66 rfl rfl ?_
      refine x_iload 2 dX6_runsIn_67 rfl ?_
      refine x_iload 3 dX6_runsIn_69 rfl ?_
      obtain ⟨z11, hzz11, hF⟩ := x_bind hF
      obtain ⟨⟨fsz11, hbz11⟩, hzz11⟩ := x_cv_sp hzz11
      refine x_callv (As := [.int c5, .int x6]) (rest := [.long ((31 : Int64) * x3), .long (31 : Int64)]) (rc + 0) (rs + 0) dX6_runsIn_71 mi_X6_key ml_X6_58 rfl rfl (Nat.le_of_ble_eq_true rfl) ⟨by decide, by decide⟩ (by omega) (by omega) hbz11 rfl (c_X6_key N _ _ _ _ _ _ hzz11) (x_K.some ?_) x_KX.none
      refine x_i2l dX6_runsIn_74 ?_
      refine x_ladd dX6_runsIn_75 ?_
      refine x_lmul dX6_runsIn_76 ?_
      refine x_aload_n 0 dX6_runsIn_77 rfl rfl ?_
      refine x_iload 2 dX6_runsIn_78 rfl ?_
      refine x_iload 3 dX6_runsIn_80 rfl ?_
      obtain ⟨z12, hzz12, hF⟩ := x_bind hF
      obtain ⟨⟨fsz12, hbz12⟩, hzz12⟩ := x_cv_sp hzz12
      refine x_callv (As := [.int c5, .int x6]) (rest := [.long ((31 : Int64) * (((31 : Int64) * x3) + (z11 : Int32).toInt64))]) (rc + 0) (rs + 0) dX6_runsIn_82 mi_X6_value ml_X6_65 rfl rfl (Nat.le_of_ble_eq_true rfl) ⟨by decide, by decide⟩ (by omega) (by omega) hbz12 rfl (c_X6_value N _ _ _ _ _ _ hzz12) (x_K.some ?_) x_KX.none
      refine x_iconst (-1) (by decide) dX6_runsIn_85 ?_
      refine x_icmp_ne 93 dX6_runsIn_86 (by decide) hF (fun hF => ?_) (fun hF => ?_)
      · refine x_iconst 0 (by decide) dX6_runsIn_93 ?_
        refine x_i2l dX6_runsIn_94 ?_
        refine x_ladd dX6_runsIn_95 ?_
        refine x_lstore_n (i := 3) (lv' := [(3, .long (((31 : Int64) * (((31 : Int64) * x3) + (z11 : Int32).toInt64)) + (0 : Int32).toInt64)), (0, .ref c0), (5, .int c5), (6, .int x6)]) dX6_runsIn_96 rfl (by decide) rfl ?_
        refine x_iinc (x6 + 1) (lv' := [(6, .int (x6 + 1)), (3, .long (((31 : Int64) * (((31 : Int64) * x3) + (z11 : Int32).toInt64)) + (0 : Int32).toInt64)), (0, .ref c0), (5, .int c5)]) dX6_runsIn_97 3 rfl (by rfl) (by decide) rfl ?_
        refine x_goto 47 dX6_runsIn_100 (by decide) ?_
        refine x_sub [2, 1, 3, 0] rfl ?_
        exact ih _ _ hF
      · refine x_iconst 1 (by decide) dX6_runsIn_89 ?_
        refine x_goto 94 dX6_runsIn_90 (by decide) ?_
        refine x_i2l dX6_runsIn_94 ?_
        refine x_ladd dX6_runsIn_95 ?_
        refine x_lstore_n (i := 3) (lv' := [(3, .long (((31 : Int64) * (((31 : Int64) * x3) + (z11 : Int32).toInt64)) + (1 : Int32).toInt64)), (0, .ref c0), (5, .int c5), (6, .int x6)]) dX6_runsIn_96 rfl (by decide) rfl ?_
        refine x_iinc (x6 + 1) (lv' := [(6, .int (x6 + 1)), (3, .long (((31 : Int64) * (((31 : Int64) * x3) + (z11 : Int32).toInt64)) + (1 : Int32).toInt64)), (0, .ref c0), (5, .int c5)]) dX6_runsIn_97 3 rfl (by rfl) (by decide) rfl ?_
        refine x_goto 47 dX6_runsIn_100 (by decide) ?_
        refine x_sub [2, 1, 3, 0] rfl ?_
        exact ih _ _ hF
set_option maxRecDepth 20000 in
set_option maxHeartbeats 4000000 in
theorem w_X6_runsIn_L18 (N : Nat) (f : XM) (c0 : Nat) (K : Int64 → Int32 → Option Int64) (n : Nat) (r : Int64) {rc rs : Nat} : ∀ (k : Nat) (x3 : Int64) (x5 : Int32), F_X6_runsIn_L18 N f c0 K k x3 x5 = some r → (∀ (x3 : Int64) (x5 : Int32), K x3 x5 = some r → X mX6_runsIn 1 22 (x_end (xr_lp r (f, n))) x_noRO rc rs 109 [(0, .ref c0), (3, .long x3), (5, .int x5)] [] (f, n)) → X mX6_runsIn 1 22 (x_end (xr_lp r (f, n))) x_noRO rc rs 18 [(0, .ref c0), (3, .long x3), (5, .int x5)] [] (f, n) := by
  intro k
  induction k with
  | zero =>
    intro x3 x5 hF
    exact absurd hF (by intro h9; cases h9)
  | succ k ih =>
    intro x3 x5 hF hK
    have ih := fun x3 x5 hF => ih x3 x5 hF hK
    rw [F_X6_runsIn_L18] at hF
    refine x_iload 2 dX6_runsIn_18 rfl ?_
    refine x_aload_n 0 dX6_runsIn_20 rfl rfl ?_
    refine x_getr_r dX6_runsIn_21 fl_X6_7 hF (fun v5 hF => ?_)
    refine x_bipush 6 (by decide) dX6_runsIn_24 ?_
    refine x_nn hF (fun a6 ha6 hF => ?_)
    rw [ha6]
    refine x_ald_r dX6_runsIn_26 hF (fun v7 hF => ?_)
    refine x_icmp_gt 109 dX6_runsIn_27 (by decide) hF (fun hF => ?_) (fun hF => ?_)
    · refine x_sub [0, 1, 2] rfl ?_
      exact hK _ _ hF
    · refine x_ldc2 kc_X6_283 dX6_runsIn_30 ?_
      refine x_lload_n 1 dX6_runsIn_33 rfl rfl ?_
      refine x_lmul dX6_runsIn_34 ?_
      refine x_aload_n 0 dX6_runsIn_35 rfl rfl ?_
      refine x_iload 2 dX6_runsIn_36 rfl ?_
      obtain ⟨z8, hzz8, hF⟩ := x_bind hF
      obtain ⟨⟨fsz8, hbz8⟩, hzz8⟩ := x_cv_sp hzz8
      refine x_callv (As := [.int x5]) (rest := [.long ((31 : Int64) * x3)]) (rc + 0) (rs + 0) dX6_runsIn_38 mi_X6_size ml_X6_54 rfl rfl (Nat.le_of_ble_eq_true rfl) ⟨by decide, by decide⟩ (by omega) (by omega) hbz8 rfl (c_X6_size N _ _ _ _ _ hzz8) (x_K.some ?_) x_KX.none
      refine x_i2l dX6_runsIn_41 ?_
      refine x_ladd dX6_runsIn_42 ?_
      refine x_lstore_n (i := 3) (lv' := [(3, .long (((31 : Int64) * x3) + (z8 : Int32).toInt64)), (0, .ref c0), (5, .int x5)]) dX6_runsIn_43 rfl (by decide) rfl ?_
      refine x_iconst 0 (by decide) dX6_runsIn_44 ?_
      refine x_istore (i := 6) (lv' := [(6, .int 0), (3, .long (((31 : Int64) * x3) + (z8 : Int32).toInt64)), (0, .ref c0), (5, .int x5)]) dX6_runsIn_45 (by decide) rfl ?_
      refine x_sub [2, 1, 3, 0] rfl ?_
      refine w_X6_runsIn_L47 N _ _ _ _ _ r _ _ _ hF (fun y3_13 y6_13 hF => ?_)
      refine x_iinc (x5 + 1) (lv' := [(5, .int (x5 + 1)), (0, .ref c0), (3, .long y3_13), (6, .int y6_13)]) dX6_runsIn_103 2 rfl (by rfl) (by decide) rfl ?_
      refine x_goto 18 dX6_runsIn_106 (by decide) ?_
      refine x_sub [1, 2, 0] rfl ?_
      exact ih _ _ hF
set_option maxRecDepth 20000 in
set_option maxHeartbeats 4000000 in
theorem c_X6_runsIn (N : Nat) (f : XM) (this : Nat) (p0 : Int64) (n : Nat) (r : Int64) (hF : F_X6_runsIn N f this p0 = some r) : x_Ct mX6_runsIn 1 22 0 0 [.ref this, .long p0] (f, n) (xr_lp r (f, n)) := by
  unfold F_X6_runsIn at hF
  refine x_ct (by decide) rfl (Nat.le_of_ble_eq_true rfl) ?_
  show X mX6_runsIn 1 22 _ _ 0 0 0 [(0, .ref this), (1, .long p0)] [] (f, n)
  refine x_ldc2 kc_X6_283 dX6_runsIn_0 ?_
  refine x_lload_n 1 dX6_runsIn_3 rfl rfl ?_
  refine x_lmul dX6_runsIn_4 ?_
  refine x_aload_n 0 dX6_runsIn_5 rfl rfl ?_
  refine x_getr_r dX6_runsIn_6 fl_X6_7 hF (fun v1 hF => ?_)
  refine x_bipush 6 (by decide) dX6_runsIn_9 ?_
  refine x_nn hF (fun a2 ha2 hF => ?_)
  rw [ha2]
  refine x_ald_r dX6_runsIn_11 hF (fun v3 hF => ?_)
  refine x_i2l dX6_runsIn_12 ?_
  refine x_ladd dX6_runsIn_13 ?_
  refine x_lstore_n (i := 3) (lv' := [(3, .long (((31 : Int64) * p0) + (v3 : Int32).toInt64)), (0, .ref this), (1, .long p0)]) dX6_runsIn_14 rfl (by decide) rfl ?_
  refine x_iconst 0 (by decide) dX6_runsIn_15 ?_
  refine x_istore (i := 5) (lv' := [(5, .int 0), (3, .long (((31 : Int64) * p0) + (v3 : Int32).toInt64)), (0, .ref this), (1, .long p0)]) dX6_runsIn_16 (by decide) rfl ?_
  refine x_sub [2, 1, 0] rfl ?_
  refine w_X6_runsIn_L18 N _ _ _ _ r _ _ _ hF (fun y3_14 y5_14 hF => ?_)
  refine x_lload_n 1 dX6_runsIn_109 rfl rfl ?_
  exact x_lret dX6_runsIn_110 rfl (by cases hF; rfl)
def F_X6_own_L4 (N : Nat) (f : XM) (c0 : Nat) (c1 : Int32) (K : Int32 → Int32 → Option Int32) : Nat → Int32 → Int32 → Option Int32
  | 0, _, _ => none
  | k + 1, x2, x3 =>
    (x_getr f 6 c0 0).bind fun v2 =>
    Option.bind v2 fun a3 =>
    (x_ald f a3 7).bind fun v4 =>
    if v4 ≤ x3 then
      K x2 x3
    else
      (x_cv f 6 c0 (F_X6_entry N f c0 x3 2)).bind fun z5 =>
      if z5 = c1 then
        (x_cv f 6 c0 (F_X6_entry N f c0 x3 3)).bind fun z6 =>
        if z6 = 0 then
          F_X6_own_L4 N f c0 c1 K k (x2 + 1) (x3 + 1)
        else
          F_X6_own_L4 N f c0 c1 K k (x2 + 0) (x3 + 1)
      else
        F_X6_own_L4 N f c0 c1 K k (x2 + 0) (x3 + 1)
def F_X6_own (N : Nat) (f : XM) (this : Nat) (p0 : Int32) : Option Int32 :=
  F_X6_own_L4 N f this p0 (fun y2_7 y3_7 =>
  some y2_7) N 0 0
set_option maxRecDepth 20000 in
set_option maxHeartbeats 4000000 in
theorem w_X6_own_L4 (N : Nat) (f : XM) (c0 : Nat) (c1 : Int32) (K : Int32 → Int32 → Option Int32) (n : Nat) (r : Int32) {rc rs : Nat} : ∀ (k : Nat) (x2 : Int32) (x3 : Int32), F_X6_own_L4 N f c0 c1 K k x2 x3 = some r → (∀ (x2 : Int32) (x3 : Int32), K x2 x3 = some r → X mX6_own 1 22 (x_end (xr_ip r (f, n))) x_noRO rc rs 48 [(0, .ref c0), (1, .int c1), (2, .int x2), (3, .int x3)] [] (f, n)) → X mX6_own 1 22 (x_end (xr_ip r (f, n))) x_noRO rc rs 4 [(0, .ref c0), (1, .int c1), (2, .int x2), (3, .int x3)] [] (f, n) := by
  intro k
  induction k with
  | zero =>
    intro x2 x3 hF
    exact absurd hF (by intro h9; cases h9)
  | succ k ih =>
    intro x2 x3 hF hK
    have ih := fun x2 x3 hF => ih x2 x3 hF hK
    rw [F_X6_own_L4] at hF
    refine x_iload_n 3 dX6_own_4 rfl rfl ?_
    refine x_aload_n 0 dX6_own_5 rfl rfl ?_
    refine x_getr_r dX6_own_6 fl_X6_7 hF (fun v2 hF => ?_)
    refine x_bipush 7 (by decide) dX6_own_9 ?_
    refine x_nn hF (fun a3 ha3 hF => ?_)
    rw [ha3]
    refine x_ald_r dX6_own_11 hF (fun v4 hF => ?_)
    refine x_icmp_ge 48 dX6_own_12 (by decide) hF (fun hF => ?_) (fun hF => ?_)
    · refine x_sub [0, 1, 2, 3] rfl ?_
      exact hK _ _ hF
    · refine x_iload_n 2 dX6_own_15 rfl rfl ?_
      refine x_aload_n 0 dX6_own_16 rfl rfl ?_
      refine x_iload_n 3 dX6_own_17 rfl rfl ?_
      refine x_iconst 2 (by decide) dX6_own_18 ?_
      obtain ⟨z5, hzz5, hF⟩ := x_bind hF
      obtain ⟨⟨fsz5, hbz5⟩, hzz5⟩ := x_cv_sp hzz5
      refine x_callv (As := [.int x3, .int 2]) (rest := [.int x2]) (rc + 0) (rs + 0) dX6_own_19 mi_X6_entry ml_X6_72 rfl rfl (Nat.le_of_ble_eq_true rfl) ⟨by decide, by decide⟩ (by omega) (by omega) hbz5 rfl (c_X6_entry N _ _ _ _ _ _ hzz5) (x_K.some ?_) x_KX.none
      refine x_iload_n 1 dX6_own_22 rfl rfl ?_
      refine x_icmp_ne 39 dX6_own_23 (by decide) hF (fun hF => ?_) (fun hF => ?_)
      · refine x_iconst 0 (by decide) dX6_own_39 ?_
        refine x_iadd dX6_own_40 ?_
        refine x_istore_n (i := 2) (lv' := [(2, .int (x2 + 0)), (0, .ref c0), (1, .int c1), (3, .int x3)]) dX6_own_41 rfl (by decide) rfl ?_
        refine x_iinc (x3 + 1) (lv' := [(3, .int (x3 + 1)), (2, .int (x2 + 0)), (0, .ref c0), (1, .int c1)]) dX6_own_42 3 rfl (by rfl) (by decide) rfl ?_
        refine x_goto 4 dX6_own_45 (by decide) ?_
        refine x_sub [2, 3, 1, 0] rfl ?_
        exact ih _ _ hF
      · refine x_aload_n 0 dX6_own_26 rfl rfl ?_
        refine x_iload_n 3 dX6_own_27 rfl rfl ?_
        refine x_iconst 3 (by decide) dX6_own_28 ?_
        obtain ⟨z6, hzz6, hF⟩ := x_bind hF
        obtain ⟨⟨fsz6, hbz6⟩, hzz6⟩ := x_cv_sp hzz6
        refine x_callv (As := [.int x3, .int 3]) (rest := [.int x2]) (rc + 0) (rs + 0) dX6_own_29 mi_X6_entry ml_X6_72 rfl rfl (Nat.le_of_ble_eq_true rfl) ⟨by decide, by decide⟩ (by omega) (by omega) hbz6 rfl (c_X6_entry N _ _ _ _ _ _ hzz6) (x_K.some ?_) x_KX.none
        refine x_if_ne 39 dX6_own_32 (by decide) hF (fun hF => ?_) (fun hF => ?_)
        · refine x_iconst 0 (by decide) dX6_own_39 ?_
          refine x_iadd dX6_own_40 ?_
          refine x_istore_n (i := 2) (lv' := [(2, .int (x2 + 0)), (0, .ref c0), (1, .int c1), (3, .int x3)]) dX6_own_41 rfl (by decide) rfl ?_
          refine x_iinc (x3 + 1) (lv' := [(3, .int (x3 + 1)), (2, .int (x2 + 0)), (0, .ref c0), (1, .int c1)]) dX6_own_42 3 rfl (by rfl) (by decide) rfl ?_
          refine x_goto 4 dX6_own_45 (by decide) ?_
          refine x_sub [2, 3, 1, 0] rfl ?_
          exact ih _ _ hF
        · refine x_iconst 1 (by decide) dX6_own_35 ?_
          refine x_goto 40 dX6_own_36 (by decide) ?_
          refine x_iadd dX6_own_40 ?_
          refine x_istore_n (i := 2) (lv' := [(2, .int (x2 + 1)), (0, .ref c0), (1, .int c1), (3, .int x3)]) dX6_own_41 rfl (by decide) rfl ?_
          refine x_iinc (x3 + 1) (lv' := [(3, .int (x3 + 1)), (2, .int (x2 + 1)), (0, .ref c0), (1, .int c1)]) dX6_own_42 3 rfl (by rfl) (by decide) rfl ?_
          refine x_goto 4 dX6_own_45 (by decide) ?_
          refine x_sub [2, 3, 1, 0] rfl ?_
          exact ih _ _ hF
set_option maxRecDepth 20000 in
set_option maxHeartbeats 4000000 in
theorem c_X6_own (N : Nat) (f : XM) (this : Nat) (p0 : Int32) (n : Nat) (r : Int32) (hF : F_X6_own N f this p0 = some r) : x_Ct mX6_own 1 22 0 0 [.ref this, .int p0] (f, n) (xr_ip r (f, n)) := by
  unfold F_X6_own at hF
  refine x_ct (by decide) rfl (Nat.le_of_ble_eq_true rfl) ?_
  show X mX6_own 1 22 _ _ 0 0 0 [(0, .ref this), (1, .int p0)] [] (f, n)
  refine x_iconst 0 (by decide) dX6_own_0 ?_
  refine x_istore_n (i := 2) (lv' := [(2, .int 0), (0, .ref this), (1, .int p0)]) dX6_own_1 rfl (by decide) rfl ?_
  refine x_iconst 0 (by decide) dX6_own_2 ?_
  refine x_istore_n (i := 3) (lv' := [(3, .int 0), (2, .int 0), (0, .ref this), (1, .int p0)]) dX6_own_3 rfl (by decide) rfl ?_
  refine x_sub [2, 3, 1, 0] rfl ?_
  refine w_X6_own_L4 N _ _ _ _ _ r _ _ _ hF (fun y2_7 y3_7 hF => ?_)
  refine x_iload_n 2 dX6_own_48 rfl rfl ?_
  exact x_iret dX6_own_49 rfl (by cases hF; rfl)
def F_X6_entryAt_L45 (N : Nat) (f : XM) (c0 : Nat) (c1 : Int32) (c2 : Int32) (c3 : Int32) (c5 : Int32) (K : Int32 → Int32 → Option Int32) : Nat → Int32 → Int32 → Option Int32
  | 0, _, _ => none
  | k + 1, x4, x6 =>
    (x_getr f 6 c0 0).bind fun v7 =>
    Option.bind v7 fun a8 =>
    (x_ald f a8 7).bind fun v9 =>
    if v9 ≤ x6 then
      K x4 x6
    else
      if c5 = 0 then
        K x4 x6
      else
        (x_cv f 6 c0 (F_X6_entry N f c0 x6 2)).bind fun z10 =>
        if z10 = c1 then
          (x_cv f 6 c0 (F_X6_entry N f c0 x6 3)).bind fun z11 =>
          if z11 = 0 then
            (x_cv f 6 c0 (F_X6_entry N f c0 x6 0)).bind fun z12 =>
            (x_cv f 6 c0 (F_X6_entry N f c0 c3 0)).bind fun z13 =>
            if z13 ≤ z12 then
              F_X6_entryAt_L45 N f c0 c1 c2 c3 c5 K k (x4 + 0) (x6 + 1)
            else
              F_X6_entryAt_L45 N f c0 c1 c2 c3 c5 K k (x4 + 1) (x6 + 1)
          else
            F_X6_entryAt_L45 N f c0 c1 c2 c3 c5 K k (x4 + 0) (x6 + 1)
        else
          F_X6_entryAt_L45 N f c0 c1 c2 c3 c5 K k (x4 + 0) (x6 + 1)
def F_X6_entryAt_L2 (N : Nat) (f : XM) (c0 : Nat) (c1 : Int32) (c2 : Int32) (K : Int32 → Option Int32) : Nat → Int32 → Option Int32
  | 0, _ => none
  | k + 1, x3 =>
    (x_getr f 6 c0 0).bind fun v2 =>
    Option.bind v2 fun a3 =>
    (x_ald f a3 7).bind fun v4 =>
    if v4 ≤ x3 then
      K x3
    else
      (x_cv f 6 c0 (F_X6_entry N f c0 x3 2)).bind fun z5 =>
      if z5 = c1 then
        (x_cv f 6 c0 (F_X6_entry N f c0 x3 3)).bind fun z15 =>
        if z15 = 0 then
          F_X6_entryAt_L45 N f c0 c1 c2 x3 1 (fun y4_33 y6_33 =>
          if (1 : Int32) = 0 then
            F_X6_entryAt_L2 N f c0 c1 c2 K k (x3 + 1)
          else
            if y4_33 = c2 then
              some x3
            else
              F_X6_entryAt_L2 N f c0 c1 c2 K k (x3 + 1)) N 0 0
        else
          F_X6_entryAt_L45 N f c0 c1 c2 x3 0 (fun y4_24 y6_24 =>
          if (0 : Int32) = 0 then
            F_X6_entryAt_L2 N f c0 c1 c2 K k (x3 + 1)
          else
            if y4_24 = c2 then
              some x3
            else
              F_X6_entryAt_L2 N f c0 c1 c2 K k (x3 + 1)) N 0 0
      else
        F_X6_entryAt_L45 N f c0 c1 c2 x3 0 (fun y4_14 y6_14 =>
        if (0 : Int32) = 0 then
          F_X6_entryAt_L2 N f c0 c1 c2 K k (x3 + 1)
        else
          if y4_14 = c2 then
            some x3
          else
            F_X6_entryAt_L2 N f c0 c1 c2 K k (x3 + 1)) N 0 0
def F_X6_entryAt (N : Nat) (f : XM) (this : Nat) (p0 : Int32) (p1 : Int32) : Option Int32 :=
  F_X6_entryAt_L2 N f this p0 p1 (fun y3_34 =>
  some (-1)) N 0
set_option maxRecDepth 20000 in
set_option maxHeartbeats 4000000 in
theorem w_X6_entryAt_L45 (N : Nat) (f : XM) (c0 : Nat) (c1 : Int32) (c2 : Int32) (c3 : Int32) (c5 : Int32) (K : Int32 → Int32 → Option Int32) (n : Nat) (r : Int32) {rc rs : Nat} : ∀ (k : Nat) (x4 : Int32) (x6 : Int32), F_X6_entryAt_L45 N f c0 c1 c2 c3 c5 K k x4 x6 = some r → (∀ (x4 : Int32) (x6 : Int32), K x4 x6 = some r → X mX6_entryAt 1 22 (x_end (xr_ip r (f, n))) x_noRO rc rs 115 [(0, .ref c0), (1, .int c1), (2, .int c2), (3, .int c3), (4, .int x4), (5, .int c5), (6, .int x6)] [] (f, n)) → X mX6_entryAt 1 22 (x_end (xr_ip r (f, n))) x_noRO rc rs 45 [(0, .ref c0), (1, .int c1), (2, .int c2), (3, .int c3), (4, .int x4), (5, .int c5), (6, .int x6)] [] (f, n) := by
  intro k
  induction k with
  | zero =>
    intro x4 x6 hF
    exact absurd hF (by intro h9; cases h9)
  | succ k ih =>
    intro x4 x6 hF hK
    have ih := fun x4 x6 hF => ih x4 x6 hF hK
    rw [F_X6_entryAt_L45] at hF
    refine x_iload 6 dX6_entryAt_45 rfl ?_
    refine x_aload_n 0 dX6_entryAt_47 rfl rfl ?_
    refine x_getr_r dX6_entryAt_48 fl_X6_7 hF (fun v7 hF => ?_)
    refine x_bipush 7 (by decide) dX6_entryAt_51 ?_
    refine x_nn hF (fun a8 ha8 hF => ?_)
    rw [ha8]
    refine x_ald_r dX6_entryAt_53 hF (fun v9 hF => ?_)
    refine x_icmp_ge 115 dX6_entryAt_54 (by decide) hF (fun hF => ?_) (fun hF => ?_)
    · refine x_sub [0, 1, 2, 3, 4, 5, 6] rfl ?_
      exact hK _ _ hF
    · refine x_iload 5 dX6_entryAt_57 rfl ?_
      refine x_if_eq 115 dX6_entryAt_59 (by decide) hF (fun hF => ?_) (fun hF => ?_)
      · refine x_sub [0, 1, 2, 3, 4, 5, 6] rfl ?_
        exact hK _ _ hF
      · refine x_iload 4 dX6_entryAt_62 rfl ?_
        refine x_aload_n 0 dX6_entryAt_64 rfl rfl ?_
        refine x_iload 6 dX6_entryAt_65 rfl ?_
        refine x_iconst 2 (by decide) dX6_entryAt_67 ?_
        obtain ⟨z10, hzz10, hF⟩ := x_bind hF
        obtain ⟨⟨fsz10, hbz10⟩, hzz10⟩ := x_cv_sp hzz10
        refine x_callv (As := [.int x6, .int 2]) (rest := [.int x4]) (rc + 0) (rs + 0) dX6_entryAt_68 mi_X6_entry ml_X6_72 rfl rfl (Nat.le_of_ble_eq_true rfl) ⟨by decide, by decide⟩ (by omega) (by omega) hbz10 rfl (c_X6_entry N _ _ _ _ _ _ hzz10) (x_K.some ?_) x_KX.none
        refine x_iload_n 1 dX6_entryAt_71 rfl rfl ?_
        refine x_icmp_ne 105 dX6_entryAt_72 (by decide) hF (fun hF => ?_) (fun hF => ?_)
        · refine x_iconst 0 (by decide) dX6_entryAt_105 ?_
          refine x_iadd dX6_entryAt_106 ?_
          refine x_istore (i := 4) (lv' := [(4, .int (x4 + 0)), (0, .ref c0), (1, .int c1), (2, .int c2), (3, .int c3), (5, .int c5), (6, .int x6)]) dX6_entryAt_107 (by decide) rfl ?_
          refine x_iinc (x6 + 1) (lv' := [(6, .int (x6 + 1)), (4, .int (x4 + 0)), (0, .ref c0), (1, .int c1), (2, .int c2), (3, .int c3), (5, .int c5)]) dX6_entryAt_109 6 rfl (by rfl) (by decide) rfl ?_
          refine x_goto 45 dX6_entryAt_112 (by decide) ?_
          refine x_sub [2, 3, 4, 5, 1, 6, 0] rfl ?_
          exact ih _ _ hF
        · refine x_aload_n 0 dX6_entryAt_75 rfl rfl ?_
          refine x_iload 6 dX6_entryAt_76 rfl ?_
          refine x_iconst 3 (by decide) dX6_entryAt_78 ?_
          obtain ⟨z11, hzz11, hF⟩ := x_bind hF
          obtain ⟨⟨fsz11, hbz11⟩, hzz11⟩ := x_cv_sp hzz11
          refine x_callv (As := [.int x6, .int 3]) (rest := [.int x4]) (rc + 0) (rs + 0) dX6_entryAt_79 mi_X6_entry ml_X6_72 rfl rfl (Nat.le_of_ble_eq_true rfl) ⟨by decide, by decide⟩ (by omega) (by omega) hbz11 rfl (c_X6_entry N _ _ _ _ _ _ hzz11) (x_K.some ?_) x_KX.none
          refine x_if_ne 105 dX6_entryAt_82 (by decide) hF (fun hF => ?_) (fun hF => ?_)
          · refine x_iconst 0 (by decide) dX6_entryAt_105 ?_
            refine x_iadd dX6_entryAt_106 ?_
            refine x_istore (i := 4) (lv' := [(4, .int (x4 + 0)), (0, .ref c0), (1, .int c1), (2, .int c2), (3, .int c3), (5, .int c5), (6, .int x6)]) dX6_entryAt_107 (by decide) rfl ?_
            refine x_iinc (x6 + 1) (lv' := [(6, .int (x6 + 1)), (4, .int (x4 + 0)), (0, .ref c0), (1, .int c1), (2, .int c2), (3, .int c3), (5, .int c5)]) dX6_entryAt_109 6 rfl (by rfl) (by decide) rfl ?_
            refine x_goto 45 dX6_entryAt_112 (by decide) ?_
            refine x_sub [2, 3, 4, 5, 1, 6, 0] rfl ?_
            exact ih _ _ hF
          · refine x_aload_n 0 dX6_entryAt_85 rfl rfl ?_
            refine x_iload 6 dX6_entryAt_86 rfl ?_
            refine x_iconst 0 (by decide) dX6_entryAt_88 ?_
            obtain ⟨z12, hzz12, hF⟩ := x_bind hF
            obtain ⟨⟨fsz12, hbz12⟩, hzz12⟩ := x_cv_sp hzz12
            refine x_callv (As := [.int x6, .int 0]) (rest := [.int x4]) (rc + 0) (rs + 0) dX6_entryAt_89 mi_X6_entry ml_X6_72 rfl rfl (Nat.le_of_ble_eq_true rfl) ⟨by decide, by decide⟩ (by omega) (by omega) hbz12 rfl (c_X6_entry N _ _ _ _ _ _ hzz12) (x_K.some ?_) x_KX.none
            refine x_aload_n 0 dX6_entryAt_92 rfl rfl ?_
            refine x_iload_n 3 dX6_entryAt_93 rfl rfl ?_
            refine x_iconst 0 (by decide) dX6_entryAt_94 ?_
            obtain ⟨z13, hzz13, hF⟩ := x_bind hF
            obtain ⟨⟨fsz13, hbz13⟩, hzz13⟩ := x_cv_sp hzz13
            refine x_callv (As := [.int c3, .int 0]) (rest := [.int z12, .int x4]) (rc + 0) (rs + 0) dX6_entryAt_95 mi_X6_entry ml_X6_72 rfl rfl (Nat.le_of_ble_eq_true rfl) ⟨by decide, by decide⟩ (by omega) (by omega) hbz13 rfl (c_X6_entry N _ _ _ _ _ _ hzz13) (x_K.some ?_) x_KX.none
            refine x_icmp_ge 105 dX6_entryAt_98 (by decide) hF (fun hF => ?_) (fun hF => ?_)
            · refine x_iconst 0 (by decide) dX6_entryAt_105 ?_
              refine x_iadd dX6_entryAt_106 ?_
              refine x_istore (i := 4) (lv' := [(4, .int (x4 + 0)), (0, .ref c0), (1, .int c1), (2, .int c2), (3, .int c3), (5, .int c5), (6, .int x6)]) dX6_entryAt_107 (by decide) rfl ?_
              refine x_iinc (x6 + 1) (lv' := [(6, .int (x6 + 1)), (4, .int (x4 + 0)), (0, .ref c0), (1, .int c1), (2, .int c2), (3, .int c3), (5, .int c5)]) dX6_entryAt_109 6 rfl (by rfl) (by decide) rfl ?_
              refine x_goto 45 dX6_entryAt_112 (by decide) ?_
              refine x_sub [2, 3, 4, 5, 1, 6, 0] rfl ?_
              exact ih _ _ hF
            · refine x_iconst 1 (by decide) dX6_entryAt_101 ?_
              refine x_goto 106 dX6_entryAt_102 (by decide) ?_
              refine x_iadd dX6_entryAt_106 ?_
              refine x_istore (i := 4) (lv' := [(4, .int (x4 + 1)), (0, .ref c0), (1, .int c1), (2, .int c2), (3, .int c3), (5, .int c5), (6, .int x6)]) dX6_entryAt_107 (by decide) rfl ?_
              refine x_iinc (x6 + 1) (lv' := [(6, .int (x6 + 1)), (4, .int (x4 + 1)), (0, .ref c0), (1, .int c1), (2, .int c2), (3, .int c3), (5, .int c5)]) dX6_entryAt_109 6 rfl (by rfl) (by decide) rfl ?_
              refine x_goto 45 dX6_entryAt_112 (by decide) ?_
              refine x_sub [2, 3, 4, 5, 1, 6, 0] rfl ?_
              exact ih _ _ hF
set_option maxRecDepth 20000 in
set_option maxHeartbeats 4000000 in
theorem w_X6_entryAt_L2 (N : Nat) (f : XM) (c0 : Nat) (c1 : Int32) (c2 : Int32) (K : Int32 → Option Int32) (n : Nat) (r : Int32) {rc rs : Nat} : ∀ (k : Nat) (x3 : Int32), F_X6_entryAt_L2 N f c0 c1 c2 K k x3 = some r → (∀ (x3 : Int32), K x3 = some r → X mX6_entryAt 1 22 (x_end (xr_ip r (f, n))) x_noRO rc rs 134 [(0, .ref c0), (1, .int c1), (2, .int c2), (3, .int x3)] [] (f, n)) → X mX6_entryAt 1 22 (x_end (xr_ip r (f, n))) x_noRO rc rs 2 [(0, .ref c0), (1, .int c1), (2, .int c2), (3, .int x3)] [] (f, n) := by
  intro k
  induction k with
  | zero =>
    intro x3 hF
    exact absurd hF (by intro h9; cases h9)
  | succ k ih =>
    intro x3 hF hK
    have ih := fun x3 hF => ih x3 hF hK
    rw [F_X6_entryAt_L2] at hF
    refine x_iload_n 3 dX6_entryAt_2 rfl rfl ?_
    refine x_aload_n 0 dX6_entryAt_3 rfl rfl ?_
    refine x_getr_r dX6_entryAt_4 fl_X6_7 hF (fun v2 hF => ?_)
    refine x_bipush 7 (by decide) dX6_entryAt_7 ?_
    refine x_nn hF (fun a3 ha3 hF => ?_)
    rw [ha3]
    refine x_ald_r dX6_entryAt_9 hF (fun v4 hF => ?_)
    refine x_icmp_ge 134 dX6_entryAt_10 (by decide) hF (fun hF => ?_) (fun hF => ?_)
    · refine x_sub [0, 1, 2, 3] rfl ?_
      exact hK _ hF
    · refine x_iconst 0 (by decide) dX6_entryAt_13 ?_
      refine x_istore (i := 4) (lv' := [(4, .int 0), (0, .ref c0), (1, .int c1), (2, .int c2), (3, .int x3)]) dX6_entryAt_14 (by decide) rfl ?_
      refine x_aload_n 1 dX6_entryAt_16 rfl rfl ?_
      refine x_iload_n 4 dX6_entryAt_17 rfl rfl ?_
      refine x_iconst 2 (by decide) dX6_entryAt_18 ?_
      obtain ⟨z5, hzz5, hF⟩ := x_bind hF
      obtain ⟨⟨fsz5, hbz5⟩, hzz5⟩ := x_cv_sp hzz5
      refine x_callv (As := [.int x3, .int 2]) (rest := []) (rc + 0) (rs + 0) dX6_entryAt_19 mi_X6_entry ml_X6_72 rfl rfl (Nat.le_of_ble_eq_true rfl) ⟨by decide, by decide⟩ (by omega) (by omega) hbz5 rfl (c_X6_entry N _ _ _ _ _ _ hzz5) (x_K.some ?_) x_KX.none
      refine x_iload_n 2 dX6_entryAt_22 rfl rfl ?_
      refine x_icmp_ne 39 dX6_entryAt_23 (by decide) hF (fun hF => ?_) (fun hF => ?_)
      · refine x_iconst 0 (by decide) dX6_entryAt_39 ?_
        refine x_istore (i := 5) (lv' := [(5, .int 0), (4, .int 0), (0, .ref c0), (1, .int c1), (2, .int c2), (3, .int x3)]) dX6_entryAt_40 (by decide) rfl ?_
        refine x_iconst 0 (by decide) dX6_entryAt_42 ?_
        refine x_istore (i := 6) (lv' := [(6, .int 0), (5, .int 0), (4, .int 0), (0, .ref c0), (1, .int c1), (2, .int c2), (3, .int x3)]) dX6_entryAt_43 (by decide) rfl ?_
        refine x_sub [3, 4, 5, 6, 2, 1, 0] rfl ?_
        refine w_X6_entryAt_L45 N _ _ _ _ _ _ _ _ r _ _ _ hF (fun y4_14 y6_14 hF => ?_)
        refine x_iload 5 dX6_entryAt_115 rfl ?_
        refine x_if_eq 128 dX6_entryAt_117 (by decide) hF (fun hF => ?_) (fun hF => ?_)
        · refine x_iinc (x3 + 1) (lv' := [(3, .int (x3 + 1)), (0, .ref c0), (1, .int c1), (2, .int c2), (4, .int y4_14), (5, .int 0), (6, .int y6_14)]) dX6_entryAt_128 3 rfl (by rfl) (by decide) rfl ?_
          refine x_goto 2 dX6_entryAt_131 (by decide) ?_
          refine x_sub [1, 2, 3, 0] rfl ?_
          exact ih _ hF
        · refine x_iload 4 dX6_entryAt_120 rfl ?_
          refine x_iload_n 2 dX6_entryAt_122 rfl rfl ?_
          refine x_icmp_ne 128 dX6_entryAt_123 (by decide) hF (fun hF => ?_) (fun hF => ?_)
          · refine x_iinc (x3 + 1) (lv' := [(3, .int (x3 + 1)), (0, .ref c0), (1, .int c1), (2, .int c2), (4, .int y4_14), (5, .int 0), (6, .int y6_14)]) dX6_entryAt_128 3 rfl (by rfl) (by decide) rfl ?_
            refine x_goto 2 dX6_entryAt_131 (by decide) ?_
            refine x_sub [1, 2, 3, 0] rfl ?_
            exact ih _ hF
          · refine x_iload_n 3 dX6_entryAt_126 rfl rfl ?_
            exact x_iret dX6_entryAt_127 rfl (by cases hF; rfl)
      · refine x_aload_n 1 dX6_entryAt_26 rfl rfl ?_
        refine x_iload_n 4 dX6_entryAt_27 rfl rfl ?_
        refine x_iconst 3 (by decide) dX6_entryAt_28 ?_
        obtain ⟨z15, hzz15, hF⟩ := x_bind hF
        obtain ⟨⟨fsz15, hbz15⟩, hzz15⟩ := x_cv_sp hzz15
        refine x_callv (As := [.int x3, .int 3]) (rest := []) (rc + 0) (rs + 0) dX6_entryAt_29 mi_X6_entry ml_X6_72 rfl rfl (Nat.le_of_ble_eq_true rfl) ⟨by decide, by decide⟩ (by omega) (by omega) hbz15 rfl (c_X6_entry N _ _ _ _ _ _ hzz15) (x_K.some ?_) x_KX.none
        refine x_if_ne 39 dX6_entryAt_32 (by decide) hF (fun hF => ?_) (fun hF => ?_)
        · refine x_iconst 0 (by decide) dX6_entryAt_39 ?_
          refine x_istore (i := 5) (lv' := [(5, .int 0), (4, .int 0), (0, .ref c0), (1, .int c1), (2, .int c2), (3, .int x3)]) dX6_entryAt_40 (by decide) rfl ?_
          refine x_iconst 0 (by decide) dX6_entryAt_42 ?_
          refine x_istore (i := 6) (lv' := [(6, .int 0), (5, .int 0), (4, .int 0), (0, .ref c0), (1, .int c1), (2, .int c2), (3, .int x3)]) dX6_entryAt_43 (by decide) rfl ?_
          refine x_sub [3, 4, 5, 6, 2, 1, 0] rfl ?_
          refine w_X6_entryAt_L45 N _ _ _ _ _ _ _ _ r _ _ _ hF (fun y4_24 y6_24 hF => ?_)
          refine x_iload 5 dX6_entryAt_115 rfl ?_
          refine x_if_eq 128 dX6_entryAt_117 (by decide) hF (fun hF => ?_) (fun hF => ?_)
          · refine x_iinc (x3 + 1) (lv' := [(3, .int (x3 + 1)), (0, .ref c0), (1, .int c1), (2, .int c2), (4, .int y4_24), (5, .int 0), (6, .int y6_24)]) dX6_entryAt_128 3 rfl (by rfl) (by decide) rfl ?_
            refine x_goto 2 dX6_entryAt_131 (by decide) ?_
            refine x_sub [1, 2, 3, 0] rfl ?_
            exact ih _ hF
          · refine x_iload 4 dX6_entryAt_120 rfl ?_
            refine x_iload_n 2 dX6_entryAt_122 rfl rfl ?_
            refine x_icmp_ne 128 dX6_entryAt_123 (by decide) hF (fun hF => ?_) (fun hF => ?_)
            · refine x_iinc (x3 + 1) (lv' := [(3, .int (x3 + 1)), (0, .ref c0), (1, .int c1), (2, .int c2), (4, .int y4_24), (5, .int 0), (6, .int y6_24)]) dX6_entryAt_128 3 rfl (by rfl) (by decide) rfl ?_
              refine x_goto 2 dX6_entryAt_131 (by decide) ?_
              refine x_sub [1, 2, 3, 0] rfl ?_
              exact ih _ hF
            · refine x_iload_n 3 dX6_entryAt_126 rfl rfl ?_
              exact x_iret dX6_entryAt_127 rfl (by cases hF; rfl)
        · refine x_iconst 1 (by decide) dX6_entryAt_35 ?_
          refine x_goto 40 dX6_entryAt_36 (by decide) ?_
          refine x_istore (i := 5) (lv' := [(5, .int 1), (4, .int 0), (0, .ref c0), (1, .int c1), (2, .int c2), (3, .int x3)]) dX6_entryAt_40 (by decide) rfl ?_
          refine x_iconst 0 (by decide) dX6_entryAt_42 ?_
          refine x_istore (i := 6) (lv' := [(6, .int 0), (5, .int 1), (4, .int 0), (0, .ref c0), (1, .int c1), (2, .int c2), (3, .int x3)]) dX6_entryAt_43 (by decide) rfl ?_
          refine x_sub [3, 4, 5, 6, 2, 1, 0] rfl ?_
          refine w_X6_entryAt_L45 N _ _ _ _ _ _ _ _ r _ _ _ hF (fun y4_33 y6_33 hF => ?_)
          refine x_iload 5 dX6_entryAt_115 rfl ?_
          refine x_if_eq 128 dX6_entryAt_117 (by decide) hF (fun hF => ?_) (fun hF => ?_)
          · refine x_iinc (x3 + 1) (lv' := [(3, .int (x3 + 1)), (0, .ref c0), (1, .int c1), (2, .int c2), (4, .int y4_33), (5, .int 1), (6, .int y6_33)]) dX6_entryAt_128 3 rfl (by rfl) (by decide) rfl ?_
            refine x_goto 2 dX6_entryAt_131 (by decide) ?_
            refine x_sub [1, 2, 3, 0] rfl ?_
            exact ih _ hF
          · refine x_iload 4 dX6_entryAt_120 rfl ?_
            refine x_iload_n 2 dX6_entryAt_122 rfl rfl ?_
            refine x_icmp_ne 128 dX6_entryAt_123 (by decide) hF (fun hF => ?_) (fun hF => ?_)
            · refine x_iinc (x3 + 1) (lv' := [(3, .int (x3 + 1)), (0, .ref c0), (1, .int c1), (2, .int c2), (4, .int y4_33), (5, .int 1), (6, .int y6_33)]) dX6_entryAt_128 3 rfl (by rfl) (by decide) rfl ?_
              refine x_goto 2 dX6_entryAt_131 (by decide) ?_
              refine x_sub [1, 2, 3, 0] rfl ?_
              exact ih _ hF
            · refine x_iload_n 3 dX6_entryAt_126 rfl rfl ?_
              exact x_iret dX6_entryAt_127 rfl (by cases hF; rfl)
set_option maxRecDepth 20000 in
set_option maxHeartbeats 4000000 in
theorem c_X6_entryAt (N : Nat) (f : XM) (this : Nat) (p0 : Int32) (p1 : Int32) (n : Nat) (r : Int32) (hF : F_X6_entryAt N f this p0 p1 = some r) : x_Ct mX6_entryAt 1 22 0 0 [.ref this, .int p0, .int p1] (f, n) (xr_ip r (f, n)) := by
  unfold F_X6_entryAt at hF
  refine x_ct (by decide) rfl (Nat.le_of_ble_eq_true rfl) ?_
  show X mX6_entryAt 1 22 _ _ 0 0 0 [(0, .ref this), (1, .int p0), (2, .int p1)] [] (f, n)
  refine x_iconst 0 (by decide) dX6_entryAt_0 ?_
  refine x_istore_n (i := 3) (lv' := [(3, .int 0), (0, .ref this), (1, .int p0), (2, .int p1)]) dX6_entryAt_1 rfl (by decide) rfl ?_
  refine x_sub [1, 2, 3, 0] rfl ?_
  refine w_X6_entryAt_L2 N _ _ _ _ _ _ r _ _ hF (fun y3_34 hF => ?_)
  refine x_iconst (-1) (by decide) dX6_entryAt_134 ?_
  exact x_iret dX6_entryAt_135 rfl (by cases hF; rfl)
def F_X6_over_L4 (N : Nat) (f : XM) (c0 : Nat) (c1 : Int32) (K : Int32 → Int32 → Option Int32) : Nat → Int32 → Int32 → Option Int32
  | 0, _, _ => none
  | k + 1, x2, x3 =>
    (x_getr f 6 c0 0).bind fun v2 =>
    Option.bind v2 fun a3 =>
    (x_ald f a3 7).bind fun v4 =>
    if v4 ≤ x3 then
      K x2 x3
    else
      (x_cv f 6 c0 (F_X6_entry N f c0 x3 2)).bind fun z5 =>
      if z5 = c1 then
        (x_cv f 6 c0 (F_X6_entry N f c0 x3 3)).bind fun z6 =>
        if z6 ≤ 0 then
          F_X6_over_L4 N f c0 c1 K k (x2 + 0) (x3 + 1)
        else
          F_X6_over_L4 N f c0 c1 K k (x2 + 1) (x3 + 1)
      else
        F_X6_over_L4 N f c0 c1 K k (x2 + 0) (x3 + 1)
def F_X6_over (N : Nat) (f : XM) (this : Nat) (p0 : Int32) : Option Int32 :=
  F_X6_over_L4 N f this p0 (fun y2_7 y3_7 =>
  some y2_7) N 0 0
set_option maxRecDepth 20000 in
set_option maxHeartbeats 4000000 in
theorem w_X6_over_L4 (N : Nat) (f : XM) (c0 : Nat) (c1 : Int32) (K : Int32 → Int32 → Option Int32) (n : Nat) (r : Int32) {rc rs : Nat} : ∀ (k : Nat) (x2 : Int32) (x3 : Int32), F_X6_over_L4 N f c0 c1 K k x2 x3 = some r → (∀ (x2 : Int32) (x3 : Int32), K x2 x3 = some r → X mX6_over 1 22 (x_end (xr_ip r (f, n))) x_noRO rc rs 48 [(0, .ref c0), (1, .int c1), (2, .int x2), (3, .int x3)] [] (f, n)) → X mX6_over 1 22 (x_end (xr_ip r (f, n))) x_noRO rc rs 4 [(0, .ref c0), (1, .int c1), (2, .int x2), (3, .int x3)] [] (f, n) := by
  intro k
  induction k with
  | zero =>
    intro x2 x3 hF
    exact absurd hF (by intro h9; cases h9)
  | succ k ih =>
    intro x2 x3 hF hK
    have ih := fun x2 x3 hF => ih x2 x3 hF hK
    rw [F_X6_over_L4] at hF
    refine x_iload_n 3 dX6_over_4 rfl rfl ?_
    refine x_aload_n 0 dX6_over_5 rfl rfl ?_
    refine x_getr_r dX6_over_6 fl_X6_7 hF (fun v2 hF => ?_)
    refine x_bipush 7 (by decide) dX6_over_9 ?_
    refine x_nn hF (fun a3 ha3 hF => ?_)
    rw [ha3]
    refine x_ald_r dX6_over_11 hF (fun v4 hF => ?_)
    refine x_icmp_ge 48 dX6_over_12 (by decide) hF (fun hF => ?_) (fun hF => ?_)
    · refine x_sub [0, 1, 2, 3] rfl ?_
      exact hK _ _ hF
    · refine x_iload_n 2 dX6_over_15 rfl rfl ?_
      refine x_aload_n 0 dX6_over_16 rfl rfl ?_
      refine x_iload_n 3 dX6_over_17 rfl rfl ?_
      refine x_iconst 2 (by decide) dX6_over_18 ?_
      obtain ⟨z5, hzz5, hF⟩ := x_bind hF
      obtain ⟨⟨fsz5, hbz5⟩, hzz5⟩ := x_cv_sp hzz5
      refine x_callv (As := [.int x3, .int 2]) (rest := [.int x2]) (rc + 0) (rs + 0) dX6_over_19 mi_X6_entry ml_X6_72 rfl rfl (Nat.le_of_ble_eq_true rfl) ⟨by decide, by decide⟩ (by omega) (by omega) hbz5 rfl (c_X6_entry N _ _ _ _ _ _ hzz5) (x_K.some ?_) x_KX.none
      refine x_iload_n 1 dX6_over_22 rfl rfl ?_
      refine x_icmp_ne 39 dX6_over_23 (by decide) hF (fun hF => ?_) (fun hF => ?_)
      · refine x_iconst 0 (by decide) dX6_over_39 ?_
        refine x_iadd dX6_over_40 ?_
        refine x_istore_n (i := 2) (lv' := [(2, .int (x2 + 0)), (0, .ref c0), (1, .int c1), (3, .int x3)]) dX6_over_41 rfl (by decide) rfl ?_
        refine x_iinc (x3 + 1) (lv' := [(3, .int (x3 + 1)), (2, .int (x2 + 0)), (0, .ref c0), (1, .int c1)]) dX6_over_42 3 rfl (by rfl) (by decide) rfl ?_
        refine x_goto 4 dX6_over_45 (by decide) ?_
        refine x_sub [2, 3, 1, 0] rfl ?_
        exact ih _ _ hF
      · refine x_aload_n 0 dX6_over_26 rfl rfl ?_
        refine x_iload_n 3 dX6_over_27 rfl rfl ?_
        refine x_iconst 3 (by decide) dX6_over_28 ?_
        obtain ⟨z6, hzz6, hF⟩ := x_bind hF
        obtain ⟨⟨fsz6, hbz6⟩, hzz6⟩ := x_cv_sp hzz6
        refine x_callv (As := [.int x3, .int 3]) (rest := [.int x2]) (rc + 0) (rs + 0) dX6_over_29 mi_X6_entry ml_X6_72 rfl rfl (Nat.le_of_ble_eq_true rfl) ⟨by decide, by decide⟩ (by omega) (by omega) hbz6 rfl (c_X6_entry N _ _ _ _ _ _ hzz6) (x_K.some ?_) x_KX.none
        refine x_if_le 39 dX6_over_32 (by decide) hF (fun hF => ?_) (fun hF => ?_)
        · refine x_iconst 0 (by decide) dX6_over_39 ?_
          refine x_iadd dX6_over_40 ?_
          refine x_istore_n (i := 2) (lv' := [(2, .int (x2 + 0)), (0, .ref c0), (1, .int c1), (3, .int x3)]) dX6_over_41 rfl (by decide) rfl ?_
          refine x_iinc (x3 + 1) (lv' := [(3, .int (x3 + 1)), (2, .int (x2 + 0)), (0, .ref c0), (1, .int c1)]) dX6_over_42 3 rfl (by rfl) (by decide) rfl ?_
          refine x_goto 4 dX6_over_45 (by decide) ?_
          refine x_sub [2, 3, 1, 0] rfl ?_
          exact ih _ _ hF
        · refine x_iconst 1 (by decide) dX6_over_35 ?_
          refine x_goto 40 dX6_over_36 (by decide) ?_
          refine x_iadd dX6_over_40 ?_
          refine x_istore_n (i := 2) (lv' := [(2, .int (x2 + 1)), (0, .ref c0), (1, .int c1), (3, .int x3)]) dX6_over_41 rfl (by decide) rfl ?_
          refine x_iinc (x3 + 1) (lv' := [(3, .int (x3 + 1)), (2, .int (x2 + 1)), (0, .ref c0), (1, .int c1)]) dX6_over_42 3 rfl (by rfl) (by decide) rfl ?_
          refine x_goto 4 dX6_over_45 (by decide) ?_
          refine x_sub [2, 3, 1, 0] rfl ?_
          exact ih _ _ hF
set_option maxRecDepth 20000 in
set_option maxHeartbeats 4000000 in
theorem c_X6_over (N : Nat) (f : XM) (this : Nat) (p0 : Int32) (n : Nat) (r : Int32) (hF : F_X6_over N f this p0 = some r) : x_Ct mX6_over 1 22 0 0 [.ref this, .int p0] (f, n) (xr_ip r (f, n)) := by
  unfold F_X6_over at hF
  refine x_ct (by decide) rfl (Nat.le_of_ble_eq_true rfl) ?_
  show X mX6_over 1 22 _ _ 0 0 0 [(0, .ref this), (1, .int p0)] [] (f, n)
  refine x_iconst 0 (by decide) dX6_over_0 ?_
  refine x_istore_n (i := 2) (lv' := [(2, .int 0), (0, .ref this), (1, .int p0)]) dX6_over_1 rfl (by decide) rfl ?_
  refine x_iconst 0 (by decide) dX6_over_2 ?_
  refine x_istore_n (i := 3) (lv' := [(3, .int 0), (2, .int 0), (0, .ref this), (1, .int p0)]) dX6_over_3 rfl (by decide) rfl ?_
  refine x_sub [2, 3, 1, 0] rfl ?_
  refine w_X6_over_L4 N _ _ _ _ _ r _ _ _ hF (fun y2_7 y3_7 hF => ?_)
  refine x_iload_n 2 dX6_over_48 rfl rfl ?_
  exact x_iret dX6_over_49 rfl (by cases hF; rfl)
def F_X6_overs (N : Nat) (f : XM) (this : Nat) (p0 : Int32) : Option Int32 :=
  (x_getr f 6 this 0).bind fun v1 =>
  Option.bind v1 fun a2 =>
  (x_ald f a2 8).bind fun v3 =>
  if v3 = 0 then
    some 0
  else
    (x_cv f 6 this (F_X6_over N f this p0)).bind fun z4 =>
    (x_getr f 6 this 0).bind fun v5 =>
    Option.bind v5 fun a6 =>
    (x_ald f a6 2).bind fun v7 =>
    (x_getr f 6 this 0).bind fun v8 =>
    Option.bind v8 fun a9 =>
    (x_ald f a9 2).bind fun v10 =>
    (x_div ((z4 + v7) - 1) v10).bind fun v11 =>
    some v11
set_option maxRecDepth 20000 in
set_option maxHeartbeats 4000000 in
theorem c_X6_overs (N : Nat) (f : XM) (this : Nat) (p0 : Int32) (n : Nat) (r : Int32) (hF : F_X6_overs N f this p0 = some r) : x_Ct mX6_overs 2 45 0 0 [.ref this, .int p0] (f, n) (xr_ip r (f, n)) := by
  unfold F_X6_overs at hF
  refine x_ct (by decide) rfl (Nat.le_of_ble_eq_true rfl) ?_
  show X mX6_overs 2 45 _ _ 0 0 0 [(0, .ref this), (1, .int p0)] [] (f, n)
  refine x_aload_n 0 dX6_overs_0 rfl rfl ?_
  refine x_getr_r dX6_overs_1 fl_X6_7 hF (fun v1 hF => ?_)
  refine x_bipush 8 (by decide) dX6_overs_4 ?_
  refine x_nn hF (fun a2 ha2 hF => ?_)
  rw [ha2]
  refine x_ald_r dX6_overs_6 hF (fun v3 hF => ?_)
  refine x_if_ne 14 dX6_overs_7 (by decide) hF (fun hF => ?_) (fun hF => ?_)
  · refine x_aload_n 0 dX6_overs_14 rfl rfl ?_
    refine x_iload_n 1 dX6_overs_15 rfl rfl ?_
    obtain ⟨z4, hzz4, hF⟩ := x_bind hF
    obtain ⟨⟨fsz4, hbz4⟩, hzz4⟩ := x_cv_sp hzz4
    refine x_callv (As := [.int p0]) (rest := []) 0 0 dX6_overs_16 mi_X6_over ml_X6_78 rfl rfl (Nat.le_of_ble_eq_true rfl) ⟨by decide, by decide⟩ (by omega) (by omega) hbz4 rfl (c_X6_over N _ _ _ _ _ hzz4) (x_K.some ?_) x_KX.none
    refine x_aload_n 0 dX6_overs_19 rfl rfl ?_
    refine x_getr_r dX6_overs_20 fl_X6_7 hF (fun v5 hF => ?_)
    refine x_iconst 2 (by decide) dX6_overs_23 ?_
    refine x_nn hF (fun a6 ha6 hF => ?_)
    rw [ha6]
    refine x_ald_r dX6_overs_24 hF (fun v7 hF => ?_)
    refine x_iadd dX6_overs_25 ?_
    refine x_iconst 1 (by decide) dX6_overs_26 ?_
    refine x_isub dX6_overs_27 ?_
    refine x_aload_n 0 dX6_overs_28 rfl rfl ?_
    refine x_getr_r dX6_overs_29 fl_X6_7 hF (fun v8 hF => ?_)
    refine x_iconst 2 (by decide) dX6_overs_32 ?_
    refine x_nn hF (fun a9 ha9 hF => ?_)
    rw [ha9]
    refine x_ald_r dX6_overs_33 hF (fun v10 hF => ?_)
    refine x_idiv dX6_overs_34 hF (fun v11 hF => ?_)
    exact x_iret dX6_overs_35 rfl (by cases hF; rfl)
  · refine x_iconst 0 (by decide) dX6_overs_10 ?_
    refine x_goto 35 dX6_overs_11 (by decide) ?_
    exact x_iret dX6_overs_35 rfl (by cases hF; rfl)
def F_X6_leavesIn_L64 (N : Nat) (f : XM) (c0 : Nat) (c5 : Int32) (c6 : Int32) (K : Int64 → Int32 → Option Int64) : Nat → Int64 → Int32 → Option Int64
  | 0, _, _ => none
  | k + 1, x3, x7 =>
    if c6 ≤ x7 then
      K x3 x7
    else
      (x_cv f 6 c0 (F_X6_entryAt N f c0 c5 x7)).bind fun z13 =>
      (x_cv f 6 c0 (F_X6_entry N f c0 z13 0)).bind fun z14 =>
      (x_cv f 6 c0 (F_X6_entry N f c0 z13 1)).bind fun z15 =>
      F_X6_leavesIn_L64 N f c0 c5 c6 K k (((31 : Int64) * (((31 : Int64) * x3) + (z14 : Int32).toInt64)) + (z15 : Int32).toInt64) (x7 + 1)
def F_X6_leavesIn_L31 (N : Nat) (f : XM) (c0 : Nat) (K : Int64 → Int32 → Option Int64) : Nat → Int64 → Int32 → Option Int64
  | 0, _, _ => none
  | k + 1, x3, x5 =>
    (x_getr f 6 c0 0).bind fun v8 =>
    Option.bind v8 fun a9 =>
    (x_ald f a9 8).bind fun v10 =>
    if v10 ≤ x5 then
      K x3 x5
    else
      (x_cv f 6 c0 (F_X6_own N f c0 x5)).bind fun z11 =>
      F_X6_leavesIn_L64 N f c0 x5 z11 (fun y3_16 y7_16 =>
      (x_cv f 6 c0 (F_X6_over N f c0 x5)).bind fun z17 =>
      (x_cv f 6 c0 (F_X6_overs N f c0 x5)).bind fun z18 =>
      F_X6_leavesIn_L31 N f c0 K k (((31 : Int64) * (((31 : Int64) * y3_16) + (z17 : Int32).toInt64)) + (z18 : Int32).toInt64) (x5 + 1)) N (((31 : Int64) * x3) + (z11 : Int32).toInt64) 0
def F_X6_leavesIn (N : Nat) (f : XM) (this : Nat) (p0 : Int64) : Option Int64 :=
  (x_getr f 6 this 0).bind fun v1 =>
  Option.bind v1 fun a2 =>
  (x_ald f a2 7).bind fun v3 =>
  (x_getr f 6 this 0).bind fun v4 =>
  Option.bind v4 fun a5 =>
  (x_ald f a5 8).bind fun v6 =>
  F_X6_leavesIn_L31 N f this (fun y3_19 y5_19 =>
  some y3_19) N (((31 : Int64) * (((31 : Int64) * p0) + (v3 : Int32).toInt64)) + (v6 : Int32).toInt64) 0
set_option maxRecDepth 20000 in
set_option maxHeartbeats 4000000 in
theorem w_X6_leavesIn_L64 (N : Nat) (f : XM) (c0 : Nat) (c5 : Int32) (c6 : Int32) (K : Int64 → Int32 → Option Int64) (n : Nat) (r : Int64) {rc rs : Nat} : ∀ (k : Nat) (x3 : Int64) (x7 : Int32), F_X6_leavesIn_L64 N f c0 c5 c6 K k x3 x7 = some r → (∀ (x3 : Int64) (x7 : Int32), K x3 x7 = some r → X mX6_leavesIn 3 66 (x_end (xr_lp r (f, n))) x_noRO rc rs 115 [(0, .ref c0), (3, .long x3), (5, .int c5), (6, .int c6), (7, .int x7)] [] (f, n)) → X mX6_leavesIn 3 66 (x_end (xr_lp r (f, n))) x_noRO rc rs 64 [(0, .ref c0), (3, .long x3), (5, .int c5), (6, .int c6), (7, .int x7)] [] (f, n) := by
  intro k
  induction k with
  | zero =>
    intro x3 x7 hF
    exact absurd hF (by intro h9; cases h9)
  | succ k ih =>
    intro x3 x7 hF hK
    have ih := fun x3 x7 hF => ih x3 x7 hF hK
    rw [F_X6_leavesIn_L64] at hF
    refine x_iload 4 dX6_leavesIn_64 rfl ?_
    refine x_iload 3 dX6_leavesIn_66 rfl ?_
    refine x_icmp_ge 115 dX6_leavesIn_68 (by decide) hF (fun hF => ?_) (fun hF => ?_)
    · refine x_sub [0, 1, 2, 3, 4] rfl ?_
      exact hK _ _ hF
    · refine x_aload_n 0 dX6_leavesIn_71 rfl rfl ?_
      refine x_iload 2 dX6_leavesIn_72 rfl ?_
      refine x_iload 4 dX6_leavesIn_74 rfl ?_
      obtain ⟨z13, hzz13, hF⟩ := x_bind hF
      obtain ⟨⟨fsz13, hbz13⟩, hzz13⟩ := x_cv_sp hzz13
      refine x_callv (As := [.int c5, .int x7]) (rest := []) (rc + 0) (rs + 0) dX6_leavesIn_76 mi_X6_entryAt ml_X6_246 rfl rfl (Nat.le_of_ble_eq_true rfl) ⟨by decide, by decide⟩ (by omega) (by omega) hbz13 rfl (c_X6_entryAt N _ _ _ _ _ _ hzz13) (x_K.some ?_) x_KX.none
      refine x_istore (i := 8) (lv' := [(8, .int z13), (0, .ref c0), (3, .long x3), (5, .int c5), (6, .int c6), (7, .int x7)]) dX6_leavesIn_79 (by decide) rfl ?_
      refine x_ldc2 kc_X6_283 dX6_leavesIn_81 ?_
      refine x_ldc2 kc_X6_283 dX6_leavesIn_84 ?_
      refine x_lload_n 2 dX6_leavesIn_87 rfl rfl ?_
      refine x_lmul dX6_leavesIn_88 ?_
      refine x_aload_n 1 dX6_leavesIn_89 rfl rfl ?_
      refine x_iload 0 dX6_leavesIn_90 rfl ?_
      refine x_iconst 0 (by decide) dX6_leavesIn_92 ?_
      obtain ⟨z14, hzz14, hF⟩ := x_bind hF
      obtain ⟨⟨fsz14, hbz14⟩, hzz14⟩ := x_cv_sp hzz14
      refine x_callv (As := [.int z13, .int 0]) (rest := [.long ((31 : Int64) * x3), .long (31 : Int64)]) (rc + 0) (rs + 0) dX6_leavesIn_93 mi_X6_entry ml_X6_72 rfl rfl (Nat.le_of_ble_eq_true rfl) ⟨by decide, by decide⟩ (by omega) (by omega) hbz14 rfl (c_X6_entry N _ _ _ _ _ _ hzz14) (x_K.some ?_) x_KX.none
      refine x_i2l dX6_leavesIn_96 ?_
      refine x_ladd dX6_leavesIn_97 ?_
      refine x_lmul dX6_leavesIn_98 ?_
      refine x_aload_n 1 dX6_leavesIn_99 rfl rfl ?_
      refine x_iload 0 dX6_leavesIn_100 rfl ?_
      refine x_iconst 1 (by decide) dX6_leavesIn_102 ?_
      obtain ⟨z15, hzz15, hF⟩ := x_bind hF
      obtain ⟨⟨fsz15, hbz15⟩, hzz15⟩ := x_cv_sp hzz15
      refine x_callv (As := [.int z13, .int 1]) (rest := [.long ((31 : Int64) * (((31 : Int64) * x3) + (z14 : Int32).toInt64))]) (rc + 0) (rs + 0) dX6_leavesIn_103 mi_X6_entry ml_X6_72 rfl rfl (Nat.le_of_ble_eq_true rfl) ⟨by decide, by decide⟩ (by omega) (by omega) hbz15 rfl (c_X6_entry N _ _ _ _ _ _ hzz15) (x_K.some ?_) x_KX.none
      refine x_i2l dX6_leavesIn_106 ?_
      refine x_ladd dX6_leavesIn_107 ?_
      refine x_lstore_n (i := 3) (lv' := [(3, .long (((31 : Int64) * (((31 : Int64) * x3) + (z14 : Int32).toInt64)) + (z15 : Int32).toInt64)), (8, .int z13), (0, .ref c0), (5, .int c5), (6, .int c6), (7, .int x7)]) dX6_leavesIn_108 rfl (by decide) rfl ?_
      refine x_iinc (x7 + 1) (lv' := [(7, .int (x7 + 1)), (3, .long (((31 : Int64) * (((31 : Int64) * x3) + (z14 : Int32).toInt64)) + (z15 : Int32).toInt64)), (8, .int z13), (0, .ref c0), (5, .int c5), (6, .int c6)]) dX6_leavesIn_109 5 rfl (by rfl) (by decide) rfl ?_
      refine x_goto 64 dX6_leavesIn_112 (by decide) ?_
      refine x_sub [3, 1, 4, 5, 0] rfl ?_
      exact ih _ _ hF
set_option maxRecDepth 20000 in
set_option maxHeartbeats 4000000 in
theorem w_X6_leavesIn_L31 (N : Nat) (f : XM) (c0 : Nat) (K : Int64 → Int32 → Option Int64) (n : Nat) (r : Int64) {rc rs : Nat} : ∀ (k : Nat) (x3 : Int64) (x5 : Int32), F_X6_leavesIn_L31 N f c0 K k x3 x5 = some r → (∀ (x3 : Int64) (x5 : Int32), K x3 x5 = some r → X mX6_leavesIn 3 66 (x_end (xr_lp r (f, n))) x_noRO rc rs 147 [(0, .ref c0), (3, .long x3), (5, .int x5)] [] (f, n)) → X mX6_leavesIn 3 66 (x_end (xr_lp r (f, n))) x_noRO rc rs 31 [(0, .ref c0), (3, .long x3), (5, .int x5)] [] (f, n) := by
  intro k
  induction k with
  | zero =>
    intro x3 x5 hF
    exact absurd hF (by intro h9; cases h9)
  | succ k ih =>
    intro x3 x5 hF hK
    have ih := fun x3 x5 hF => ih x3 x5 hF hK
    rw [F_X6_leavesIn_L31] at hF
    refine x_iload 2 dX6_leavesIn_31 rfl ?_
    refine x_aload_n 0 dX6_leavesIn_33 rfl rfl ?_
    refine x_getr_r dX6_leavesIn_34 fl_X6_7 hF (fun v8 hF => ?_)
    refine x_bipush 8 (by decide) dX6_leavesIn_37 ?_
    refine x_nn hF (fun a9 ha9 hF => ?_)
    rw [ha9]
    refine x_ald_r dX6_leavesIn_39 hF (fun v10 hF => ?_)
    refine x_icmp_ge 147 dX6_leavesIn_40 (by decide) hF (fun hF => ?_) (fun hF => ?_)
    · refine x_sub [0, 1, 2] rfl ?_
      exact hK _ _ hF
    · refine x_aload_n 0 dX6_leavesIn_43 rfl rfl ?_
      refine x_iload 2 dX6_leavesIn_44 rfl ?_
      obtain ⟨z11, hzz11, hF⟩ := x_bind hF
      obtain ⟨⟨fsz11, hbz11⟩, hzz11⟩ := x_cv_sp hzz11
      refine x_callv (As := [.int x5]) (rest := []) (rc + 0) (rs + 0) dX6_leavesIn_46 mi_X6_own ml_X6_98 rfl rfl (Nat.le_of_ble_eq_true rfl) ⟨by decide, by decide⟩ (by omega) (by omega) hbz11 rfl (c_X6_own N _ _ _ _ _ hzz11) (x_K.some ?_) x_KX.none
      refine x_istore (i := 6) (lv' := [(6, .int z11), (0, .ref c0), (3, .long x3), (5, .int x5)]) dX6_leavesIn_49 (by decide) rfl ?_
      refine x_ldc2 kc_X6_283 dX6_leavesIn_51 ?_
      refine x_lload_n 2 dX6_leavesIn_54 rfl rfl ?_
      refine x_lmul dX6_leavesIn_55 ?_
      refine x_iload 0 dX6_leavesIn_56 rfl ?_
      refine x_i2l dX6_leavesIn_58 ?_
      refine x_ladd dX6_leavesIn_59 ?_
      refine x_lstore_n (i := 3) (lv' := [(3, .long (((31 : Int64) * x3) + (z11 : Int32).toInt64)), (6, .int z11), (0, .ref c0), (5, .int x5)]) dX6_leavesIn_60 rfl (by decide) rfl ?_
      refine x_iconst 0 (by decide) dX6_leavesIn_61 ?_
      refine x_istore (i := 7) (lv' := [(7, .int 0), (3, .long (((31 : Int64) * x3) + (z11 : Int32).toInt64)), (6, .int z11), (0, .ref c0), (5, .int x5)]) dX6_leavesIn_62 (by decide) rfl ?_
      refine x_sub [3, 1, 4, 2, 0] rfl ?_
      refine w_X6_leavesIn_L64 N _ _ _ _ _ _ r _ _ _ hF (fun y3_16 y7_16 hF => ?_)
      refine x_ldc2 kc_X6_283 dX6_leavesIn_115 ?_
      refine x_ldc2 kc_X6_283 dX6_leavesIn_118 ?_
      refine x_lload_n 1 dX6_leavesIn_121 rfl rfl ?_
      refine x_lmul dX6_leavesIn_122 ?_
      refine x_aload_n 0 dX6_leavesIn_123 rfl rfl ?_
      refine x_iload 2 dX6_leavesIn_124 rfl ?_
      obtain ⟨z17, hzz17, hF⟩ := x_bind hF
      obtain ⟨⟨fsz17, hbz17⟩, hzz17⟩ := x_cv_sp hzz17
      refine x_callv (As := [.int x5]) (rest := [.long ((31 : Int64) * y3_16), .long (31 : Int64)]) (rc + 0) (rs + 0) dX6_leavesIn_126 mi_X6_over ml_X6_78 rfl rfl (Nat.le_of_ble_eq_true rfl) ⟨by decide, by decide⟩ (by omega) (by omega) hbz17 rfl (c_X6_over N _ _ _ _ _ hzz17) (x_K.some ?_) x_KX.none
      refine x_i2l dX6_leavesIn_129 ?_
      refine x_ladd dX6_leavesIn_130 ?_
      refine x_lmul dX6_leavesIn_131 ?_
      refine x_aload_n 0 dX6_leavesIn_132 rfl rfl ?_
      refine x_iload 2 dX6_leavesIn_133 rfl ?_
      obtain ⟨z18, hzz18, hF⟩ := x_bind hF
      obtain ⟨⟨fsz18, hbz18⟩, hzz18⟩ := x_cv_sp hzz18
      refine x_callv (As := [.int x5]) (rest := [.long ((31 : Int64) * (((31 : Int64) * y3_16) + (z17 : Int32).toInt64))]) (rc + 0) (rs + 0) dX6_leavesIn_135 mi_X6_overs ml_X6_123 rfl rfl (Nat.le_of_ble_eq_true rfl) ⟨by decide, by decide⟩ (by omega) (by omega) hbz18 rfl (c_X6_overs N _ _ _ _ _ hzz18) (x_K.some ?_) x_KX.none
      refine x_i2l dX6_leavesIn_138 ?_
      refine x_ladd dX6_leavesIn_139 ?_
      refine x_lstore_n (i := 3) (lv' := [(3, .long (((31 : Int64) * (((31 : Int64) * y3_16) + (z17 : Int32).toInt64)) + (z18 : Int32).toInt64)), (0, .ref c0), (5, .int x5), (6, .int z11), (7, .int y7_16)]) dX6_leavesIn_140 rfl (by decide) rfl ?_
      refine x_iinc (x5 + 1) (lv' := [(5, .int (x5 + 1)), (3, .long (((31 : Int64) * (((31 : Int64) * y3_16) + (z17 : Int32).toInt64)) + (z18 : Int32).toInt64)), (0, .ref c0), (6, .int z11), (7, .int y7_16)]) dX6_leavesIn_141 2 rfl (by rfl) (by decide) rfl ?_
      refine x_goto 31 dX6_leavesIn_144 (by decide) ?_
      refine x_sub [2, 1, 0] rfl ?_
      exact ih _ _ hF
set_option maxRecDepth 20000 in
set_option maxHeartbeats 4000000 in
theorem c_X6_leavesIn (N : Nat) (f : XM) (this : Nat) (p0 : Int64) (n : Nat) (r : Int64) (hF : F_X6_leavesIn N f this p0 = some r) : x_Ct mX6_leavesIn 3 66 0 0 [.ref this, .long p0] (f, n) (xr_lp r (f, n)) := by
  unfold F_X6_leavesIn at hF
  refine x_ct (by decide) rfl (Nat.le_of_ble_eq_true rfl) ?_
  show X mX6_leavesIn 3 66 _ _ 0 0 0 [(0, .ref this), (1, .long p0)] [] (f, n)
  refine x_ldc2 kc_X6_283 dX6_leavesIn_0 ?_
  refine x_ldc2 kc_X6_283 dX6_leavesIn_3 ?_
  refine x_lload_n 1 dX6_leavesIn_6 rfl rfl ?_
  refine x_lmul dX6_leavesIn_7 ?_
  refine x_aload_n 0 dX6_leavesIn_8 rfl rfl ?_
  refine x_getr_r dX6_leavesIn_9 fl_X6_7 hF (fun v1 hF => ?_)
  refine x_bipush 7 (by decide) dX6_leavesIn_12 ?_
  refine x_nn hF (fun a2 ha2 hF => ?_)
  rw [ha2]
  refine x_ald_r dX6_leavesIn_14 hF (fun v3 hF => ?_)
  refine x_i2l dX6_leavesIn_15 ?_
  refine x_ladd dX6_leavesIn_16 ?_
  refine x_lmul dX6_leavesIn_17 ?_
  refine x_aload_n 0 dX6_leavesIn_18 rfl rfl ?_
  refine x_getr_r dX6_leavesIn_19 fl_X6_7 hF (fun v4 hF => ?_)
  refine x_bipush 8 (by decide) dX6_leavesIn_22 ?_
  refine x_nn hF (fun a5 ha5 hF => ?_)
  rw [ha5]
  refine x_ald_r dX6_leavesIn_24 hF (fun v6 hF => ?_)
  refine x_i2l dX6_leavesIn_25 ?_
  refine x_ladd dX6_leavesIn_26 ?_
  refine x_lstore_n (i := 3) (lv' := [(3, .long (((31 : Int64) * (((31 : Int64) * p0) + (v3 : Int32).toInt64)) + (v6 : Int32).toInt64)), (0, .ref this), (1, .long p0)]) dX6_leavesIn_27 rfl (by decide) rfl ?_
  refine x_iconst 0 (by decide) dX6_leavesIn_28 ?_
  refine x_istore (i := 5) (lv' := [(5, .int 0), (3, .long (((31 : Int64) * (((31 : Int64) * p0) + (v3 : Int32).toInt64)) + (v6 : Int32).toInt64)), (0, .ref this), (1, .long p0)]) dX6_leavesIn_29 (by decide) rfl ?_
  refine x_sub [2, 1, 0] rfl ?_
  refine w_X6_leavesIn_L31 N _ _ _ _ r _ _ _ hF (fun y3_19 y5_19 hF => ?_)
  refine x_lload_n 1 dX6_leavesIn_147 rfl rfl ?_
  exact x_lret dX6_leavesIn_148 rfl (by cases hF; rfl)
def F_X6_nodesIn_L47 (N : Nat) (f : XM) (c0 : Nat) (c3 : Int32) (c6 : Int32) (c7 : Int32) (K : Int64 → Int32 → Option Int64) : Nat → Int64 → Int32 → Option Int64
  | 0, _, _ => none
  | k + 1, x4, x8 =>
    if c7 ≤ x8 then
      K x4 x8
    else
      (x_cv f 6 c0 (F_X6_children N f c0 c6 x8)).bind fun z5 =>
      (x_cv f 6 c0 (F_X6_boundBy N f c0 c6 x8)).bind fun z6 =>
      F_X6_nodesIn_L47 N f c0 c3 c6 c7 K k (((31 : Int64) * (((31 : Int64) * x4) + (z5 : Int32).toInt64)) + (z6 : Int32).toInt64) (x8 + 1)
def F_X6_nodesIn_L18 (N : Nat) (f : XM) (c0 : Nat) (c3 : Int32) (K : Int64 → Int32 → Option Int64) : Nat → Int64 → Int32 → Option Int64
  | 0, _, _ => none
  | k + 1, x4, x6 =>
    if c3 ≤ x6 then
      K x4 x6
    else
      (x_cv f 6 c0 (F_X6_nodes N f c0 x6)).bind fun z3 =>
      F_X6_nodesIn_L47 N f c0 c3 x6 z3 (fun y4_7 y8_7 =>
      F_X6_nodesIn_L18 N f c0 c3 K k y4_7 (x6 + 1)) N (((31 : Int64) * x4) + (z3 : Int32).toInt64) 0
def F_X6_nodesIn (N : Nat) (f : XM) (this : Nat) (p0 : Int64) : Option Int64 :=
  (x_cv f 6 this (F_X6_allLevels N f this)).bind fun z1 =>
  F_X6_nodesIn_L18 N f this z1 (fun y4_8 y6_8 =>
  some y4_8) N (((31 : Int64) * p0) + (z1 : Int32).toInt64) 0
set_option maxRecDepth 20000 in
set_option maxHeartbeats 4000000 in
theorem w_X6_nodesIn_L47 (N : Nat) (f : XM) (c0 : Nat) (c3 : Int32) (c6 : Int32) (c7 : Int32) (K : Int64 → Int32 → Option Int64) (n : Nat) (r : Int64) {rc rs : Nat} : ∀ (k : Nat) (x4 : Int64) (x8 : Int32), F_X6_nodesIn_L47 N f c0 c3 c6 c7 K k x4 x8 = some r → (∀ (x4 : Int64) (x8 : Int32), K x4 x8 = some r → X mX6_nodesIn 2 46 (x_end (xr_lp r (f, n))) x_noRO rc rs 92 [(0, .ref c0), (3, .int c3), (4, .long x4), (6, .int c6), (7, .int c7), (8, .int x8)] [] (f, n)) → X mX6_nodesIn 2 46 (x_end (xr_lp r (f, n))) x_noRO rc rs 47 [(0, .ref c0), (3, .int c3), (4, .long x4), (6, .int c6), (7, .int c7), (8, .int x8)] [] (f, n) := by
  intro k
  induction k with
  | zero =>
    intro x4 x8 hF
    exact absurd hF (by intro h9; cases h9)
  | succ k ih =>
    intro x4 x8 hF hK
    have ih := fun x4 x8 hF => ih x4 x8 hF hK
    rw [F_X6_nodesIn_L47] at hF
    refine x_iload 5 dX6_nodesIn_47 rfl ?_
    refine x_iload 4 dX6_nodesIn_49 rfl ?_
    refine x_icmp_ge 92 dX6_nodesIn_51 (by decide) hF (fun hF => ?_) (fun hF => ?_)
    · refine x_sub [0, 1, 2, 3, 4, 5] rfl ?_
      exact hK _ _ hF
    · refine x_ldc2 kc_X6_283 dX6_nodesIn_54 ?_
      refine x_ldc2 kc_X6_283 dX6_nodesIn_57 ?_
      refine x_lload 2 dX6_nodesIn_60 rfl ?_
      refine x_lmul dX6_nodesIn_62 ?_
      refine x_aload_n 0 dX6_nodesIn_63 rfl rfl ?_
      refine x_iload 3 dX6_nodesIn_64 rfl ?_
      refine x_iload 5 dX6_nodesIn_66 rfl ?_
      obtain ⟨z5, hzz5, hF⟩ := x_bind hF
      obtain ⟨⟨fsz5, hbz5⟩, hzz5⟩ := x_cv_sp hzz5
      refine x_callv (As := [.int c6, .int x8]) (rest := [.long ((31 : Int64) * x4), .long (31 : Int64)]) (rc + 0) (rs + 0) dX6_nodesIn_68 mi_X6_children ml_X6_258 rfl rfl (Nat.le_of_ble_eq_true rfl) ⟨by decide, by decide⟩ (by omega) (by omega) hbz5 rfl (c_X6_children N _ _ _ _ _ _ hzz5) (x_K.some ?_) x_KX.none
      refine x_i2l dX6_nodesIn_71 ?_
      refine x_ladd dX6_nodesIn_72 ?_
      refine x_lmul dX6_nodesIn_73 ?_
      refine x_aload_n 0 dX6_nodesIn_74 rfl rfl ?_
      refine x_iload 3 dX6_nodesIn_75 rfl ?_
      refine x_iload 5 dX6_nodesIn_77 rfl ?_
      obtain ⟨z6, hzz6, hF⟩ := x_bind hF
      obtain ⟨⟨fsz6, hbz6⟩, hzz6⟩ := x_cv_sp hzz6
      refine x_callv (As := [.int c6, .int x8]) (rest := [.long ((31 : Int64) * (((31 : Int64) * x4) + (z5 : Int32).toInt64))]) (rc + 0) (rs + 0) dX6_nodesIn_79 mi_X6_boundBy ml_X6_261 rfl rfl (Nat.le_of_ble_eq_true rfl) ⟨by decide, by decide⟩ (by omega) (by omega) hbz6 rfl (c_X6_boundBy N _ _ _ _ _ _ hzz6) (x_K.some ?_) x_KX.none
      refine x_i2l dX6_nodesIn_82 ?_
      refine x_ladd dX6_nodesIn_83 ?_
      refine x_lstore (i := 4) (lv' := [(4, .long (((31 : Int64) * (((31 : Int64) * x4) + (z5 : Int32).toInt64)) + (z6 : Int32).toInt64)), (0, .ref c0), (3, .int c3), (6, .int c6), (7, .int c7), (8, .int x8)]) dX6_nodesIn_84 (by decide) rfl ?_
      refine x_iinc (x8 + 1) (lv' := [(8, .int (x8 + 1)), (4, .long (((31 : Int64) * (((31 : Int64) * x4) + (z5 : Int32).toInt64)) + (z6 : Int32).toInt64)), (0, .ref c0), (3, .int c3), (6, .int c6), (7, .int c7)]) dX6_nodesIn_86 5 rfl (by rfl) (by decide) rfl ?_
      refine x_goto 47 dX6_nodesIn_89 (by decide) ?_
      refine x_sub [2, 3, 1, 4, 5, 0] rfl ?_
      exact ih _ _ hF
set_option maxRecDepth 20000 in
set_option maxHeartbeats 4000000 in
theorem w_X6_nodesIn_L18 (N : Nat) (f : XM) (c0 : Nat) (c3 : Int32) (K : Int64 → Int32 → Option Int64) (n : Nat) (r : Int64) {rc rs : Nat} : ∀ (k : Nat) (x4 : Int64) (x6 : Int32), F_X6_nodesIn_L18 N f c0 c3 K k x4 x6 = some r → (∀ (x4 : Int64) (x6 : Int32), K x4 x6 = some r → X mX6_nodesIn 2 46 (x_end (xr_lp r (f, n))) x_noRO rc rs 98 [(0, .ref c0), (3, .int c3), (4, .long x4), (6, .int x6)] [] (f, n)) → X mX6_nodesIn 2 46 (x_end (xr_lp r (f, n))) x_noRO rc rs 18 [(0, .ref c0), (3, .int c3), (4, .long x4), (6, .int x6)] [] (f, n) := by
  intro k
  induction k with
  | zero =>
    intro x4 x6 hF
    exact absurd hF (by intro h9; cases h9)
  | succ k ih =>
    intro x4 x6 hF hK
    have ih := fun x4 x6 hF => ih x4 x6 hF hK
    rw [F_X6_nodesIn_L18] at hF
    refine x_iload 3 dX6_nodesIn_18 rfl ?_
    refine x_iload_n 1 dX6_nodesIn_20 rfl rfl ?_
    refine x_icmp_ge 98 dX6_nodesIn_21 (by decide) hF (fun hF => ?_) (fun hF => ?_)
    · refine x_sub [0, 1, 2, 3] rfl ?_
      exact hK _ _ hF
    · refine x_aload_n 0 dX6_nodesIn_24 rfl rfl ?_
      refine x_iload 3 dX6_nodesIn_25 rfl ?_
      obtain ⟨z3, hzz3, hF⟩ := x_bind hF
      obtain ⟨⟨fsz3, hbz3⟩, hzz3⟩ := x_cv_sp hzz3
      refine x_callv (As := [.int x6]) (rest := []) (rc + 0) (rs + 0) dX6_nodesIn_27 mi_X6_nodes ml_X6_252 rfl rfl (Nat.le_of_ble_eq_true rfl) ⟨by decide, by decide⟩ (by omega) (by omega) hbz3 rfl (c_X6_nodes N _ _ _ _ _ hzz3) (x_K.some ?_) x_KX.none
      refine x_istore (i := 7) (lv' := [(7, .int z3), (0, .ref c0), (3, .int c3), (4, .long x4), (6, .int x6)]) dX6_nodesIn_30 (by decide) rfl ?_
      refine x_ldc2 kc_X6_283 dX6_nodesIn_32 ?_
      refine x_lload 3 dX6_nodesIn_35 rfl ?_
      refine x_lmul dX6_nodesIn_37 ?_
      refine x_iload 0 dX6_nodesIn_38 rfl ?_
      refine x_i2l dX6_nodesIn_40 ?_
      refine x_ladd dX6_nodesIn_41 ?_
      refine x_lstore (i := 4) (lv' := [(4, .long (((31 : Int64) * x4) + (z3 : Int32).toInt64)), (7, .int z3), (0, .ref c0), (3, .int c3), (6, .int x6)]) dX6_nodesIn_42 (by decide) rfl ?_
      refine x_iconst 0 (by decide) dX6_nodesIn_44 ?_
      refine x_istore (i := 8) (lv' := [(8, .int 0), (4, .long (((31 : Int64) * x4) + (z3 : Int32).toInt64)), (7, .int z3), (0, .ref c0), (3, .int c3), (6, .int x6)]) dX6_nodesIn_45 (by decide) rfl ?_
      refine x_sub [3, 4, 1, 5, 2, 0] rfl ?_
      refine w_X6_nodesIn_L47 N _ _ _ _ _ _ _ r _ _ _ hF (fun y4_7 y8_7 hF => ?_)
      refine x_iinc (x6 + 1) (lv' := [(6, .int (x6 + 1)), (0, .ref c0), (3, .int c3), (4, .long y4_7), (7, .int z3), (8, .int y8_7)]) dX6_nodesIn_92 3 rfl (by rfl) (by decide) rfl ?_
      refine x_goto 18 dX6_nodesIn_95 (by decide) ?_
      refine x_sub [1, 2, 3, 0] rfl ?_
      exact ih _ _ hF
set_option maxRecDepth 20000 in
set_option maxHeartbeats 4000000 in
theorem c_X6_nodesIn (N : Nat) (f : XM) (this : Nat) (p0 : Int64) (n : Nat) (r : Int64) (hF : F_X6_nodesIn N f this p0 = some r) : x_Ct mX6_nodesIn 2 46 0 0 [.ref this, .long p0] (f, n) (xr_lp r (f, n)) := by
  unfold F_X6_nodesIn at hF
  refine x_ct (by decide) rfl (Nat.le_of_ble_eq_true rfl) ?_
  show X mX6_nodesIn 2 46 _ _ 0 0 0 [(0, .ref this), (1, .long p0)] [] (f, n)
  refine x_aload_n 0 dX6_nodesIn_0 rfl rfl ?_
  obtain ⟨z1, hzz1, hF⟩ := x_bind hF
  obtain ⟨⟨fsz1, hbz1⟩, hzz1⟩ := x_cv_sp hzz1
  refine x_callv (As := []) (rest := []) 0 0 dX6_nodesIn_1 mi_X6_allLevels ml_X6_120 rfl rfl (Nat.le_of_ble_eq_true rfl) ⟨by decide, by decide⟩ (by omega) (by omega) hbz1 rfl (c_X6_allLevels N _ _ _ _ hzz1) (x_K.some ?_) x_KX.none
  refine x_istore_n (i := 3) (lv' := [(3, .int z1), (0, .ref this), (1, .long p0)]) dX6_nodesIn_4 rfl (by decide) rfl ?_
  refine x_ldc2 kc_X6_283 dX6_nodesIn_5 ?_
  refine x_lload_n 2 dX6_nodesIn_8 rfl rfl ?_
  refine x_lmul dX6_nodesIn_9 ?_
  refine x_iload_n 0 dX6_nodesIn_10 rfl rfl ?_
  refine x_i2l dX6_nodesIn_11 ?_
  refine x_ladd dX6_nodesIn_12 ?_
  refine x_lstore (i := 4) (lv' := [(4, .long (((31 : Int64) * p0) + (z1 : Int32).toInt64)), (3, .int z1), (0, .ref this), (1, .long p0)]) dX6_nodesIn_13 (by decide) rfl ?_
  refine x_iconst 0 (by decide) dX6_nodesIn_15 ?_
  refine x_istore (i := 6) (lv' := [(6, .int 0), (4, .long (((31 : Int64) * p0) + (z1 : Int32).toInt64)), (3, .int z1), (0, .ref this), (1, .long p0)]) dX6_nodesIn_16 (by decide) rfl ?_
  refine x_sub [3, 2, 1, 0] rfl ?_
  refine w_X6_nodesIn_L18 N _ _ _ _ _ r _ _ _ hF (fun y4_8 y6_8 hF => ?_)
  refine x_lload 2 dX6_nodesIn_98 rfl ?_
  exact x_lret dX6_nodesIn_100 rfl (by cases hF; rfl)
def F_X6_leafOf_L12 (N : Nat) (f : XM) (c0 : Nat) (c1 : Int32) (K : Int32 → Int32 → Option Int32) : Nat → Int32 → Int32 → Option Int32
  | 0, _, _ => none
  | k + 1, x2, x3 =>
    if x3 ≤ x2 then
      K x2 x3
    else
      (x_div ((x2 + x3) + 1) 2).bind fun v5 =>
      (x_cv f 6 c0 (F_X6_bound N f c0 v5)).bind fun z6 =>
      if c1 < z6 then
        if (0 : Int32) = 0 then
          if (0 : Int32) = 0 then
            F_X6_leafOf_L12 N f c0 c1 K k x2 (v5 - 1)
          else
            F_X6_leafOf_L12 N f c0 c1 K k x2 x3
        else
          if (0 : Int32) = 0 then
            F_X6_leafOf_L12 N f c0 c1 K k v5 (v5 - 1)
          else
            F_X6_leafOf_L12 N f c0 c1 K k v5 x3
      else
        if (1 : Int32) = 0 then
          if (1 : Int32) = 0 then
            F_X6_leafOf_L12 N f c0 c1 K k x2 (v5 - 1)
          else
            F_X6_leafOf_L12 N f c0 c1 K k x2 x3
        else
          if (1 : Int32) = 0 then
            F_X6_leafOf_L12 N f c0 c1 K k v5 (v5 - 1)
          else
            F_X6_leafOf_L12 N f c0 c1 K k v5 x3
def F_X6_leafOf (N : Nat) (f : XM) (this : Nat) (p0 : Int32) : Option Int32 :=
  (x_getr f 6 this 0).bind fun v1 =>
  Option.bind v1 fun a2 =>
  (x_ald f a2 8).bind fun v3 =>
  F_X6_leafOf_L12 N f this p0 (fun y2_7 y3_7 =>
  some y2_7) N 0 (v3 - 1)
set_option maxRecDepth 20000 in
set_option maxHeartbeats 4000000 in
theorem w_X6_leafOf_L12 (N : Nat) (f : XM) (c0 : Nat) (c1 : Int32) (K : Int32 → Int32 → Option Int32) (n : Nat) (r : Int32) {rc rs : Nat} : ∀ (k : Nat) (x2 : Int32) (x3 : Int32), F_X6_leafOf_L12 N f c0 c1 K k x2 x3 = some r → (∀ (x2 : Int32) (x3 : Int32), K x2 x3 = some r → X mX6_leafOf 1 21 (x_end (xr_ip r (f, n))) x_noRO rc rs 72 [(0, .ref c0), (1, .int c1), (2, .int x2), (3, .int x3)] [] (f, n)) → X mX6_leafOf 1 21 (x_end (xr_ip r (f, n))) x_noRO rc rs 12 [(0, .ref c0), (1, .int c1), (2, .int x2), (3, .int x3)] [] (f, n) := by
  intro k
  induction k with
  | zero =>
    intro x2 x3 hF
    exact absurd hF (by intro h9; cases h9)
  | succ k ih =>
    intro x2 x3 hF hK
    have ih := fun x2 x3 hF => ih x2 x3 hF hK
    rw [F_X6_leafOf_L12] at hF
    refine x_iload_n 2 dX6_leafOf_12 rfl rfl ?_
    refine x_iload_n 3 dX6_leafOf_13 rfl rfl ?_
    refine x_icmp_ge 72 dX6_leafOf_14 (by decide) hF (fun hF => ?_) (fun hF => ?_)
    · refine x_sub [0, 1, 2, 3] rfl ?_
      exact hK _ _ hF
    · refine x_iload_n 2 dX6_leafOf_17 rfl rfl ?_
      refine x_iload_n 3 dX6_leafOf_18 rfl rfl ?_
      refine x_iadd dX6_leafOf_19 ?_
      refine x_iconst 1 (by decide) dX6_leafOf_20 ?_
      refine x_iadd dX6_leafOf_21 ?_
      refine x_iconst 2 (by decide) dX6_leafOf_22 ?_
      refine x_idiv dX6_leafOf_23 hF (fun v5 hF => ?_)
      refine x_istore (i := 4) (lv' := [(4, .int v5), (0, .ref c0), (1, .int c1), (2, .int x2), (3, .int x3)]) dX6_leafOf_24 (by decide) rfl ?_
      refine x_aload_n 1 dX6_leafOf_26 rfl rfl ?_
      refine x_iload 0 dX6_leafOf_27 rfl ?_
      obtain ⟨z6, hzz6, hF⟩ := x_bind hF
      obtain ⟨⟨fsz6, hbz6⟩, hzz6⟩ := x_cv_sp hzz6
      refine x_callv (As := [.int v5]) (rest := []) (rc + 0) (rs + 0) dX6_leafOf_29 mi_X6_bound ml_X6_75 rfl rfl (Nat.le_of_ble_eq_true rfl) ⟨by decide, by decide⟩ (by omega) (by omega) hbz6 rfl (c_X6_bound N _ _ _ _ _ hzz6) (x_K.some ?_) x_KX.none
      refine x_iload_n 2 dX6_leafOf_32 rfl rfl ?_
      refine x_icmp_gt 40 dX6_leafOf_33 (by decide) hF (fun hF => ?_) (fun hF => ?_)
      · refine x_iconst 0 (by decide) dX6_leafOf_40 ?_
        refine x_istore (i := 5) (lv' := [(5, .int 0), (4, .int v5), (0, .ref c0), (1, .int c1), (2, .int x2), (3, .int x3)]) dX6_leafOf_41 (by decide) rfl ?_
        refine x_iload 0 dX6_leafOf_43 rfl ?_
        refine x_if_eq 53 dX6_leafOf_45 (by decide) hF (fun hF => ?_) (fun hF => ?_)
        · refine x_iload_n 4 dX6_leafOf_53 rfl rfl ?_
          refine x_istore_n (i := 2) (lv' := [(2, .int x2), (5, .int 0), (4, .int v5), (0, .ref c0), (1, .int c1), (3, .int x3)]) dX6_leafOf_54 rfl (by decide) rfl ?_
          refine x_iload 1 dX6_leafOf_55 rfl ?_
          refine x_if_eq 64 dX6_leafOf_57 (by decide) hF (fun hF => ?_) (fun hF => ?_)
          · refine x_iload 2 dX6_leafOf_64 rfl ?_
            refine x_iconst 1 (by decide) dX6_leafOf_66 ?_
            refine x_isub dX6_leafOf_67 ?_
            refine x_istore_n (i := 3) (lv' := [(3, .int (v5 - 1)), (2, .int x2), (5, .int 0), (4, .int v5), (0, .ref c0), (1, .int c1)]) dX6_leafOf_68 rfl (by decide) rfl ?_
            refine x_goto 12 dX6_leafOf_69 (by decide) ?_
            refine x_sub [4, 5, 1, 0] rfl ?_
            exact ih _ _ hF
          · refine x_iload_n 5 dX6_leafOf_60 rfl rfl ?_
            refine x_goto 68 dX6_leafOf_61 (by decide) ?_
            refine x_istore_n (i := 3) (lv' := [(3, .int x3), (2, .int x2), (5, .int 0), (4, .int v5), (0, .ref c0), (1, .int c1)]) dX6_leafOf_68 rfl (by decide) rfl ?_
            refine x_goto 12 dX6_leafOf_69 (by decide) ?_
            refine x_sub [4, 5, 1, 0] rfl ?_
            exact ih _ _ hF
        · refine x_iload 1 dX6_leafOf_48 rfl ?_
          refine x_goto 54 dX6_leafOf_50 (by decide) ?_
          refine x_istore_n (i := 2) (lv' := [(2, .int v5), (5, .int 0), (4, .int v5), (0, .ref c0), (1, .int c1), (3, .int x3)]) dX6_leafOf_54 rfl (by decide) rfl ?_
          refine x_iload 1 dX6_leafOf_55 rfl ?_
          refine x_if_eq 64 dX6_leafOf_57 (by decide) hF (fun hF => ?_) (fun hF => ?_)
          · refine x_iload 2 dX6_leafOf_64 rfl ?_
            refine x_iconst 1 (by decide) dX6_leafOf_66 ?_
            refine x_isub dX6_leafOf_67 ?_
            refine x_istore_n (i := 3) (lv' := [(3, .int (v5 - 1)), (2, .int v5), (5, .int 0), (4, .int v5), (0, .ref c0), (1, .int c1)]) dX6_leafOf_68 rfl (by decide) rfl ?_
            refine x_goto 12 dX6_leafOf_69 (by decide) ?_
            refine x_sub [4, 5, 1, 0] rfl ?_
            exact ih _ _ hF
          · refine x_iload_n 5 dX6_leafOf_60 rfl rfl ?_
            refine x_goto 68 dX6_leafOf_61 (by decide) ?_
            refine x_istore_n (i := 3) (lv' := [(3, .int x3), (2, .int v5), (5, .int 0), (4, .int v5), (0, .ref c0), (1, .int c1)]) dX6_leafOf_68 rfl (by decide) rfl ?_
            refine x_goto 12 dX6_leafOf_69 (by decide) ?_
            refine x_sub [4, 5, 1, 0] rfl ?_
            exact ih _ _ hF
      · refine x_iconst 1 (by decide) dX6_leafOf_36 ?_
        refine x_goto 41 dX6_leafOf_37 (by decide) ?_
        refine x_istore (i := 5) (lv' := [(5, .int 1), (4, .int v5), (0, .ref c0), (1, .int c1), (2, .int x2), (3, .int x3)]) dX6_leafOf_41 (by decide) rfl ?_
        refine x_iload 0 dX6_leafOf_43 rfl ?_
        refine x_if_eq 53 dX6_leafOf_45 (by decide) hF (fun hF => ?_) (fun hF => ?_)
        · refine x_iload_n 4 dX6_leafOf_53 rfl rfl ?_
          refine x_istore_n (i := 2) (lv' := [(2, .int x2), (5, .int 1), (4, .int v5), (0, .ref c0), (1, .int c1), (3, .int x3)]) dX6_leafOf_54 rfl (by decide) rfl ?_
          refine x_iload 1 dX6_leafOf_55 rfl ?_
          refine x_if_eq 64 dX6_leafOf_57 (by decide) hF (fun hF => ?_) (fun hF => ?_)
          · refine x_iload 2 dX6_leafOf_64 rfl ?_
            refine x_iconst 1 (by decide) dX6_leafOf_66 ?_
            refine x_isub dX6_leafOf_67 ?_
            refine x_istore_n (i := 3) (lv' := [(3, .int (v5 - 1)), (2, .int x2), (5, .int 1), (4, .int v5), (0, .ref c0), (1, .int c1)]) dX6_leafOf_68 rfl (by decide) rfl ?_
            refine x_goto 12 dX6_leafOf_69 (by decide) ?_
            refine x_sub [4, 5, 1, 0] rfl ?_
            exact ih _ _ hF
          · refine x_iload_n 5 dX6_leafOf_60 rfl rfl ?_
            refine x_goto 68 dX6_leafOf_61 (by decide) ?_
            refine x_istore_n (i := 3) (lv' := [(3, .int x3), (2, .int x2), (5, .int 1), (4, .int v5), (0, .ref c0), (1, .int c1)]) dX6_leafOf_68 rfl (by decide) rfl ?_
            refine x_goto 12 dX6_leafOf_69 (by decide) ?_
            refine x_sub [4, 5, 1, 0] rfl ?_
            exact ih _ _ hF
        · refine x_iload 1 dX6_leafOf_48 rfl ?_
          refine x_goto 54 dX6_leafOf_50 (by decide) ?_
          refine x_istore_n (i := 2) (lv' := [(2, .int v5), (5, .int 1), (4, .int v5), (0, .ref c0), (1, .int c1), (3, .int x3)]) dX6_leafOf_54 rfl (by decide) rfl ?_
          refine x_iload 1 dX6_leafOf_55 rfl ?_
          refine x_if_eq 64 dX6_leafOf_57 (by decide) hF (fun hF => ?_) (fun hF => ?_)
          · refine x_iload 2 dX6_leafOf_64 rfl ?_
            refine x_iconst 1 (by decide) dX6_leafOf_66 ?_
            refine x_isub dX6_leafOf_67 ?_
            refine x_istore_n (i := 3) (lv' := [(3, .int (v5 - 1)), (2, .int v5), (5, .int 1), (4, .int v5), (0, .ref c0), (1, .int c1)]) dX6_leafOf_68 rfl (by decide) rfl ?_
            refine x_goto 12 dX6_leafOf_69 (by decide) ?_
            refine x_sub [4, 5, 1, 0] rfl ?_
            exact ih _ _ hF
          · refine x_iload_n 5 dX6_leafOf_60 rfl rfl ?_
            refine x_goto 68 dX6_leafOf_61 (by decide) ?_
            refine x_istore_n (i := 3) (lv' := [(3, .int x3), (2, .int v5), (5, .int 1), (4, .int v5), (0, .ref c0), (1, .int c1)]) dX6_leafOf_68 rfl (by decide) rfl ?_
            refine x_goto 12 dX6_leafOf_69 (by decide) ?_
            refine x_sub [4, 5, 1, 0] rfl ?_
            exact ih _ _ hF
set_option maxRecDepth 20000 in
set_option maxHeartbeats 4000000 in
theorem c_X6_leafOf (N : Nat) (f : XM) (this : Nat) (p0 : Int32) (n : Nat) (r : Int32) (hF : F_X6_leafOf N f this p0 = some r) : x_Ct mX6_leafOf 1 21 0 0 [.ref this, .int p0] (f, n) (xr_ip r (f, n)) := by
  unfold F_X6_leafOf at hF
  refine x_ct (by decide) rfl (Nat.le_of_ble_eq_true rfl) ?_
  show X mX6_leafOf 1 21 _ _ 0 0 0 [(0, .ref this), (1, .int p0)] [] (f, n)
  refine x_iconst 0 (by decide) dX6_leafOf_0 ?_
  refine x_istore_n (i := 2) (lv' := [(2, .int 0), (0, .ref this), (1, .int p0)]) dX6_leafOf_1 rfl (by decide) rfl ?_
  refine x_aload_n 1 dX6_leafOf_2 rfl rfl ?_
  refine x_getr_r dX6_leafOf_3 fl_X6_7 hF (fun v1 hF => ?_)
  refine x_bipush 8 (by decide) dX6_leafOf_6 ?_
  refine x_nn hF (fun a2 ha2 hF => ?_)
  rw [ha2]
  refine x_ald_r dX6_leafOf_8 hF (fun v3 hF => ?_)
  refine x_iconst 1 (by decide) dX6_leafOf_9 ?_
  refine x_isub dX6_leafOf_10 ?_
  refine x_istore_n (i := 3) (lv' := [(3, .int (v3 - 1)), (2, .int 0), (0, .ref this), (1, .int p0)]) dX6_leafOf_11 rfl (by decide) rfl ?_
  refine x_sub [2, 3, 1, 0] rfl ?_
  refine w_X6_leafOf_L12 N _ _ _ _ _ r _ _ _ hF (fun y2_7 y3_7 hF => ?_)
  refine x_iload_n 2 dX6_leafOf_72 rfl rfl ?_
  exact x_iret dX6_leafOf_73 rfl (by cases hF; rfl)
def F_X6_overflowLeafOf_L4 (N : Nat) (f : XM) (c0 : Nat) (c1 : Int32) (K : Int32 → Int32 → Option Int32) : Nat → Int32 → Int32 → Option Int32
  | 0, _, _ => none
  | k + 1, x2, x3 =>
    (x_getr f 6 c0 0).bind fun v2 =>
    Option.bind v2 fun a3 =>
    (x_ald f a3 7).bind fun v4 =>
    if v4 ≤ x3 then
      K x2 x3
    else
      (x_cv f 6 c0 (F_X6_entry N f c0 x3 2)).bind fun z5 =>
      (x_cv f 6 c0 (F_X6_entry N f c0 c1 2)).bind fun z6 =>
      if z5 = z6 then
        (x_cv f 6 c0 (F_X6_entry N f c0 x3 3)).bind fun z7 =>
        if z7 ≤ 0 then
          F_X6_overflowLeafOf_L4 N f c0 c1 K k (x2 + 0) (x3 + 1)
        else
          (x_cv f 6 c0 (F_X6_entry N f c0 x3 3)).bind fun z8 =>
          (x_cv f 6 c0 (F_X6_entry N f c0 c1 3)).bind fun z9 =>
          if z9 ≤ z8 then
            F_X6_overflowLeafOf_L4 N f c0 c1 K k (x2 + 0) (x3 + 1)
          else
            F_X6_overflowLeafOf_L4 N f c0 c1 K k (x2 + 1) (x3 + 1)
      else
        F_X6_overflowLeafOf_L4 N f c0 c1 K k (x2 + 0) (x3 + 1)
def F_X6_overflowLeafOf (N : Nat) (f : XM) (this : Nat) (p0 : Int32) : Option Int32 :=
  F_X6_overflowLeafOf_L4 N f this p0 (fun y2_10 y3_10 =>
  (x_getr f 6 this 0).bind fun v11 =>
  Option.bind v11 fun a12 =>
  (x_ald f a12 2).bind fun v13 =>
  (x_div y2_10 v13).bind fun v14 =>
  some (v14 + 1)) N 0 0
set_option maxRecDepth 20000 in
set_option maxHeartbeats 4000000 in
theorem w_X6_overflowLeafOf_L4 (N : Nat) (f : XM) (c0 : Nat) (c1 : Int32) (K : Int32 → Int32 → Option Int32) (n : Nat) (r : Int32) {rc rs : Nat} : ∀ (k : Nat) (x2 : Int32) (x3 : Int32), F_X6_overflowLeafOf_L4 N f c0 c1 K k x2 x3 = some r → (∀ (x2 : Int32) (x3 : Int32), K x2 x3 = some r → X mX6_overflowLeafOf 1 22 (x_end (xr_ip r (f, n))) x_noRO rc rs 68 [(0, .ref c0), (1, .int c1), (2, .int x2), (3, .int x3)] [] (f, n)) → X mX6_overflowLeafOf 1 22 (x_end (xr_ip r (f, n))) x_noRO rc rs 4 [(0, .ref c0), (1, .int c1), (2, .int x2), (3, .int x3)] [] (f, n) := by
  intro k
  induction k with
  | zero =>
    intro x2 x3 hF
    exact absurd hF (by intro h9; cases h9)
  | succ k ih =>
    intro x2 x3 hF hK
    have ih := fun x2 x3 hF => ih x2 x3 hF hK
    rw [F_X6_overflowLeafOf_L4] at hF
    refine x_iload_n 3 dX6_overflowLeafOf_4 rfl rfl ?_
    refine x_aload_n 0 dX6_overflowLeafOf_5 rfl rfl ?_
    refine x_getr_r dX6_overflowLeafOf_6 fl_X6_7 hF (fun v2 hF => ?_)
    refine x_bipush 7 (by decide) dX6_overflowLeafOf_9 ?_
    refine x_nn hF (fun a3 ha3 hF => ?_)
    rw [ha3]
    refine x_ald_r dX6_overflowLeafOf_11 hF (fun v4 hF => ?_)
    refine x_icmp_ge 68 dX6_overflowLeafOf_12 (by decide) hF (fun hF => ?_) (fun hF => ?_)
    · refine x_sub [0, 1, 2, 3] rfl ?_
      exact hK _ _ hF
    · refine x_iload_n 2 dX6_overflowLeafOf_15 rfl rfl ?_
      refine x_aload_n 0 dX6_overflowLeafOf_16 rfl rfl ?_
      refine x_iload_n 3 dX6_overflowLeafOf_17 rfl rfl ?_
      refine x_iconst 2 (by decide) dX6_overflowLeafOf_18 ?_
      obtain ⟨z5, hzz5, hF⟩ := x_bind hF
      obtain ⟨⟨fsz5, hbz5⟩, hzz5⟩ := x_cv_sp hzz5
      refine x_callv (As := [.int x3, .int 2]) (rest := [.int x2]) (rc + 0) (rs + 0) dX6_overflowLeafOf_19 mi_X6_entry ml_X6_72 rfl rfl (Nat.le_of_ble_eq_true rfl) ⟨by decide, by decide⟩ (by omega) (by omega) hbz5 rfl (c_X6_entry N _ _ _ _ _ _ hzz5) (x_K.some ?_) x_KX.none
      refine x_aload_n 0 dX6_overflowLeafOf_22 rfl rfl ?_
      refine x_iload_n 1 dX6_overflowLeafOf_23 rfl rfl ?_
      refine x_iconst 2 (by decide) dX6_overflowLeafOf_24 ?_
      obtain ⟨z6, hzz6, hF⟩ := x_bind hF
      obtain ⟨⟨fsz6, hbz6⟩, hzz6⟩ := x_cv_sp hzz6
      refine x_callv (As := [.int c1, .int 2]) (rest := [.int z5, .int x2]) (rc + 0) (rs + 0) dX6_overflowLeafOf_25 mi_X6_entry ml_X6_72 rfl rfl (Nat.le_of_ble_eq_true rfl) ⟨by decide, by decide⟩ (by omega) (by omega) hbz6 rfl (c_X6_entry N _ _ _ _ _ _ hzz6) (x_K.some ?_) x_KX.none
      refine x_icmp_ne 59 dX6_overflowLeafOf_28 (by decide) hF (fun hF => ?_) (fun hF => ?_)
      · refine x_iconst 0 (by decide) dX6_overflowLeafOf_59 ?_
        refine x_iadd dX6_overflowLeafOf_60 ?_
        refine x_istore_n (i := 2) (lv' := [(2, .int (x2 + 0)), (0, .ref c0), (1, .int c1), (3, .int x3)]) dX6_overflowLeafOf_61 rfl (by decide) rfl ?_
        refine x_iinc (x3 + 1) (lv' := [(3, .int (x3 + 1)), (2, .int (x2 + 0)), (0, .ref c0), (1, .int c1)]) dX6_overflowLeafOf_62 3 rfl (by rfl) (by decide) rfl ?_
        refine x_goto 4 dX6_overflowLeafOf_65 (by decide) ?_
        refine x_sub [2, 3, 1, 0] rfl ?_
        exact ih _ _ hF
      · refine x_aload_n 0 dX6_overflowLeafOf_31 rfl rfl ?_
        refine x_iload_n 3 dX6_overflowLeafOf_32 rfl rfl ?_
        refine x_iconst 3 (by decide) dX6_overflowLeafOf_33 ?_
        obtain ⟨z7, hzz7, hF⟩ := x_bind hF
        obtain ⟨⟨fsz7, hbz7⟩, hzz7⟩ := x_cv_sp hzz7
        refine x_callv (As := [.int x3, .int 3]) (rest := [.int x2]) (rc + 0) (rs + 0) dX6_overflowLeafOf_34 mi_X6_entry ml_X6_72 rfl rfl (Nat.le_of_ble_eq_true rfl) ⟨by decide, by decide⟩ (by omega) (by omega) hbz7 rfl (c_X6_entry N _ _ _ _ _ _ hzz7) (x_K.some ?_) x_KX.none
        refine x_if_le 59 dX6_overflowLeafOf_37 (by decide) hF (fun hF => ?_) (fun hF => ?_)
        · refine x_iconst 0 (by decide) dX6_overflowLeafOf_59 ?_
          refine x_iadd dX6_overflowLeafOf_60 ?_
          refine x_istore_n (i := 2) (lv' := [(2, .int (x2 + 0)), (0, .ref c0), (1, .int c1), (3, .int x3)]) dX6_overflowLeafOf_61 rfl (by decide) rfl ?_
          refine x_iinc (x3 + 1) (lv' := [(3, .int (x3 + 1)), (2, .int (x2 + 0)), (0, .ref c0), (1, .int c1)]) dX6_overflowLeafOf_62 3 rfl (by rfl) (by decide) rfl ?_
          refine x_goto 4 dX6_overflowLeafOf_65 (by decide) ?_
          refine x_sub [2, 3, 1, 0] rfl ?_
          exact ih _ _ hF
        · refine x_aload_n 0 dX6_overflowLeafOf_40 rfl rfl ?_
          refine x_iload_n 3 dX6_overflowLeafOf_41 rfl rfl ?_
          refine x_iconst 3 (by decide) dX6_overflowLeafOf_42 ?_
          obtain ⟨z8, hzz8, hF⟩ := x_bind hF
          obtain ⟨⟨fsz8, hbz8⟩, hzz8⟩ := x_cv_sp hzz8
          refine x_callv (As := [.int x3, .int 3]) (rest := [.int x2]) (rc + 0) (rs + 0) dX6_overflowLeafOf_43 mi_X6_entry ml_X6_72 rfl rfl (Nat.le_of_ble_eq_true rfl) ⟨by decide, by decide⟩ (by omega) (by omega) hbz8 rfl (c_X6_entry N _ _ _ _ _ _ hzz8) (x_K.some ?_) x_KX.none
          refine x_aload_n 0 dX6_overflowLeafOf_46 rfl rfl ?_
          refine x_iload_n 1 dX6_overflowLeafOf_47 rfl rfl ?_
          refine x_iconst 3 (by decide) dX6_overflowLeafOf_48 ?_
          obtain ⟨z9, hzz9, hF⟩ := x_bind hF
          obtain ⟨⟨fsz9, hbz9⟩, hzz9⟩ := x_cv_sp hzz9
          refine x_callv (As := [.int c1, .int 3]) (rest := [.int z8, .int x2]) (rc + 0) (rs + 0) dX6_overflowLeafOf_49 mi_X6_entry ml_X6_72 rfl rfl (Nat.le_of_ble_eq_true rfl) ⟨by decide, by decide⟩ (by omega) (by omega) hbz9 rfl (c_X6_entry N _ _ _ _ _ _ hzz9) (x_K.some ?_) x_KX.none
          refine x_icmp_ge 59 dX6_overflowLeafOf_52 (by decide) hF (fun hF => ?_) (fun hF => ?_)
          · refine x_iconst 0 (by decide) dX6_overflowLeafOf_59 ?_
            refine x_iadd dX6_overflowLeafOf_60 ?_
            refine x_istore_n (i := 2) (lv' := [(2, .int (x2 + 0)), (0, .ref c0), (1, .int c1), (3, .int x3)]) dX6_overflowLeafOf_61 rfl (by decide) rfl ?_
            refine x_iinc (x3 + 1) (lv' := [(3, .int (x3 + 1)), (2, .int (x2 + 0)), (0, .ref c0), (1, .int c1)]) dX6_overflowLeafOf_62 3 rfl (by rfl) (by decide) rfl ?_
            refine x_goto 4 dX6_overflowLeafOf_65 (by decide) ?_
            refine x_sub [2, 3, 1, 0] rfl ?_
            exact ih _ _ hF
          · refine x_iconst 1 (by decide) dX6_overflowLeafOf_55 ?_
            refine x_goto 60 dX6_overflowLeafOf_56 (by decide) ?_
            refine x_iadd dX6_overflowLeafOf_60 ?_
            refine x_istore_n (i := 2) (lv' := [(2, .int (x2 + 1)), (0, .ref c0), (1, .int c1), (3, .int x3)]) dX6_overflowLeafOf_61 rfl (by decide) rfl ?_
            refine x_iinc (x3 + 1) (lv' := [(3, .int (x3 + 1)), (2, .int (x2 + 1)), (0, .ref c0), (1, .int c1)]) dX6_overflowLeafOf_62 3 rfl (by rfl) (by decide) rfl ?_
            refine x_goto 4 dX6_overflowLeafOf_65 (by decide) ?_
            refine x_sub [2, 3, 1, 0] rfl ?_
            exact ih _ _ hF
set_option maxRecDepth 20000 in
set_option maxHeartbeats 4000000 in
theorem c_X6_overflowLeafOf (N : Nat) (f : XM) (this : Nat) (p0 : Int32) (n : Nat) (r : Int32) (hF : F_X6_overflowLeafOf N f this p0 = some r) : x_Ct mX6_overflowLeafOf 1 22 0 0 [.ref this, .int p0] (f, n) (xr_ip r (f, n)) := by
  unfold F_X6_overflowLeafOf at hF
  refine x_ct (by decide) rfl (Nat.le_of_ble_eq_true rfl) ?_
  show X mX6_overflowLeafOf 1 22 _ _ 0 0 0 [(0, .ref this), (1, .int p0)] [] (f, n)
  refine x_iconst 0 (by decide) dX6_overflowLeafOf_0 ?_
  refine x_istore_n (i := 2) (lv' := [(2, .int 0), (0, .ref this), (1, .int p0)]) dX6_overflowLeafOf_1 rfl (by decide) rfl ?_
  refine x_iconst 0 (by decide) dX6_overflowLeafOf_2 ?_
  refine x_istore_n (i := 3) (lv' := [(3, .int 0), (2, .int 0), (0, .ref this), (1, .int p0)]) dX6_overflowLeafOf_3 rfl (by decide) rfl ?_
  refine x_sub [2, 3, 1, 0] rfl ?_
  refine w_X6_overflowLeafOf_L4 N _ _ _ _ _ r _ _ _ hF (fun y2_10 y3_10 hF => ?_)
  refine x_iload_n 2 dX6_overflowLeafOf_68 rfl rfl ?_
  refine x_aload_n 0 dX6_overflowLeafOf_69 rfl rfl ?_
  refine x_getr_r dX6_overflowLeafOf_70 fl_X6_7 hF (fun v11 hF => ?_)
  refine x_iconst 2 (by decide) dX6_overflowLeafOf_73 ?_
  refine x_nn hF (fun a12 ha12 hF => ?_)
  rw [ha12]
  refine x_ald_r dX6_overflowLeafOf_74 hF (fun v13 hF => ?_)
  refine x_idiv dX6_overflowLeafOf_75 hF (fun v14 hF => ?_)
  refine x_iconst 1 (by decide) dX6_overflowLeafOf_76 ?_
  refine x_iadd dX6_overflowLeafOf_77 ?_
  exact x_iret dX6_overflowLeafOf_78 rfl (by cases hF; rfl)
def F_X6_pages_L4 (N : Nat) (f : XM) (c0 : Nat) (c1 : Int32) (K : Int32 → Int32 → Option Int32) : Nat → Int32 → Int32 → Option Int32
  | 0, _, _ => none
  | k + 1, x2, x3 =>
    (x_getr f 6 c0 0).bind fun v2 =>
    Option.bind v2 fun a3 =>
    (x_ald f a3 6).bind fun v4 =>
    if v4 < x3 then
      K x2 x3
    else
      (x_cv f 6 c0 (F_X6_size N f c0 x3)).bind fun z5 =>
      if z5 ≤ 0 then
        (x_cv f 6 c0 (F_X6_placeIn N f c0 x3 c1)).bind fun z6 =>
        if z6 = (-1) then
          F_X6_pages_L4 N f c0 c1 K k (x2 + 0) (x3 + 1)
        else
          some (x2 + 0)
      else
        (x_cv f 6 c0 (F_X6_placeIn N f c0 x3 c1)).bind fun z7 =>
        if z7 = (-1) then
          F_X6_pages_L4 N f c0 c1 K k (x2 + 1) (x3 + 1)
        else
          some (x2 + 1)
def F_X6_pages (N : Nat) (f : XM) (this : Nat) (p0 : Int32) : Option Int32 :=
  F_X6_pages_L4 N f this p0 (fun y2_8 y3_8 =>
  (x_getr f 6 this 0).bind fun v9 =>
  Option.bind v9 fun a10 =>
  (x_ald f a10 8).bind fun v11 =>
  if v11 = 0 then
    some y2_8
  else
    (x_cv f 6 this (F_X6_entryOf N f this p0)).bind fun z12 =>
    (x_cv f 6 this (F_X6_allLevels N f this)).bind fun z13 =>
    if z12 = (-1) then
      (x_cv f 6 this (F_X6_leafOf N f this p0)).bind fun z16 =>
      (x_cv f 6 this (F_X6_overs N f this z16)).bind fun z17 =>
      some ((y2_8 + (z13 + 1)) + z17)
    else
      (x_cv f 6 this (F_X6_entry N f this z12 3)).bind fun z14 =>
      if z14 = 0 then
        some (y2_8 + (z13 + 1))
      else
        (x_cv f 6 this (F_X6_overflowLeafOf N f this z12)).bind fun z15 =>
        some ((y2_8 + (z13 + 1)) + z15)) N 0 0
set_option maxRecDepth 20000 in
set_option maxHeartbeats 4000000 in
theorem w_X6_pages_L4 (N : Nat) (f : XM) (c0 : Nat) (c1 : Int32) (K : Int32 → Int32 → Option Int32) (n : Nat) (r : Int32) {rc rs : Nat} : ∀ (k : Nat) (x2 : Int32) (x3 : Int32), F_X6_pages_L4 N f c0 c1 K k x2 x3 = some r → (∀ (x2 : Int32) (x3 : Int32), K x2 x3 = some r → X mX6_pages 3 66 (x_end (xr_ip r (f, n))) x_noRO rc rs 49 [(0, .ref c0), (1, .int c1), (2, .int x2), (3, .int x3)] [] (f, n)) → X mX6_pages 3 66 (x_end (xr_ip r (f, n))) x_noRO rc rs 4 [(0, .ref c0), (1, .int c1), (2, .int x2), (3, .int x3)] [] (f, n) := by
  intro k
  induction k with
  | zero =>
    intro x2 x3 hF
    exact absurd hF (by intro h9; cases h9)
  | succ k ih =>
    intro x2 x3 hF hK
    have ih := fun x2 x3 hF => ih x2 x3 hF hK
    rw [F_X6_pages_L4] at hF
    refine x_iload_n 3 dX6_pages_4 rfl rfl ?_
    refine x_aload_n 0 dX6_pages_5 rfl rfl ?_
    refine x_getr_r dX6_pages_6 fl_X6_7 hF (fun v2 hF => ?_)
    refine x_bipush 6 (by decide) dX6_pages_9 ?_
    refine x_nn hF (fun a3 ha3 hF => ?_)
    rw [ha3]
    refine x_ald_r dX6_pages_11 hF (fun v4 hF => ?_)
    refine x_icmp_gt 49 dX6_pages_12 (by decide) hF (fun hF => ?_) (fun hF => ?_)
    · refine x_sub [0, 1, 2, 3] rfl ?_
      exact hK _ _ hF
    · refine x_iload_n 2 dX6_pages_15 rfl rfl ?_
      refine x_aload_n 0 dX6_pages_16 rfl rfl ?_
      refine x_iload_n 3 dX6_pages_17 rfl rfl ?_
      obtain ⟨z5, hzz5, hF⟩ := x_bind hF
      obtain ⟨⟨fsz5, hbz5⟩, hzz5⟩ := x_cv_sp hzz5
      refine x_callv (As := [.int x3]) (rest := [.int x2]) (rc + 0) (rs + 0) dX6_pages_18 mi_X6_size ml_X6_54 rfl rfl (Nat.le_of_ble_eq_true rfl) ⟨by decide, by decide⟩ (by omega) (by omega) hbz5 rfl (c_X6_size N _ _ _ _ _ hzz5) (x_K.some ?_) x_KX.none
      refine x_if_le 28 dX6_pages_21 (by decide) hF (fun hF => ?_) (fun hF => ?_)
      · refine x_iconst 0 (by decide) dX6_pages_28 ?_
        refine x_iadd dX6_pages_29 ?_
        refine x_istore_n (i := 2) (lv' := [(2, .int (x2 + 0)), (0, .ref c0), (1, .int c1), (3, .int x3)]) dX6_pages_30 rfl (by decide) rfl ?_
        refine x_aload_n 1 dX6_pages_31 rfl rfl ?_
        refine x_iload_n 3 dX6_pages_32 rfl rfl ?_
        refine x_iload_n 2 dX6_pages_33 rfl rfl ?_
        obtain ⟨z6, hzz6, hF⟩ := x_bind hF
        obtain ⟨⟨fsz6, hbz6⟩, hzz6⟩ := x_cv_sp hzz6
        refine x_callv (As := [.int x3, .int c1]) (rest := []) (rc + 0) (rs + 0) dX6_pages_34 mi_X6_placeIn ml_X6_62 rfl rfl (Nat.le_of_ble_eq_true rfl) ⟨by decide, by decide⟩ (by omega) (by omega) hbz6 rfl (c_X6_placeIn N _ _ _ _ _ _ hzz6) (x_K.some ?_) x_KX.none
        refine x_iconst (-1) (by decide) dX6_pages_37 ?_
        refine x_icmp_eq 43 dX6_pages_38 (by decide) hF (fun hF => ?_) (fun hF => ?_)
        · refine x_iinc (x3 + 1) (lv' := [(3, .int (x3 + 1)), (2, .int (x2 + 0)), (0, .ref c0), (1, .int c1)]) dX6_pages_43 3 rfl (by rfl) (by decide) rfl ?_
          refine x_goto 4 dX6_pages_46 (by decide) ?_
          refine x_sub [2, 3, 1, 0] rfl ?_
          exact ih _ _ hF
        · refine x_iload_n 0 dX6_pages_41 rfl rfl ?_
          exact x_iret dX6_pages_42 rfl (by cases hF; rfl)
      · refine x_iconst 1 (by decide) dX6_pages_24 ?_
        refine x_goto 29 dX6_pages_25 (by decide) ?_
        refine x_iadd dX6_pages_29 ?_
        refine x_istore_n (i := 2) (lv' := [(2, .int (x2 + 1)), (0, .ref c0), (1, .int c1), (3, .int x3)]) dX6_pages_30 rfl (by decide) rfl ?_
        refine x_aload_n 1 dX6_pages_31 rfl rfl ?_
        refine x_iload_n 3 dX6_pages_32 rfl rfl ?_
        refine x_iload_n 2 dX6_pages_33 rfl rfl ?_
        obtain ⟨z7, hzz7, hF⟩ := x_bind hF
        obtain ⟨⟨fsz7, hbz7⟩, hzz7⟩ := x_cv_sp hzz7
        refine x_callv (As := [.int x3, .int c1]) (rest := []) (rc + 0) (rs + 0) dX6_pages_34 mi_X6_placeIn ml_X6_62 rfl rfl (Nat.le_of_ble_eq_true rfl) ⟨by decide, by decide⟩ (by omega) (by omega) hbz7 rfl (c_X6_placeIn N _ _ _ _ _ _ hzz7) (x_K.some ?_) x_KX.none
        refine x_iconst (-1) (by decide) dX6_pages_37 ?_
        refine x_icmp_eq 43 dX6_pages_38 (by decide) hF (fun hF => ?_) (fun hF => ?_)
        · refine x_iinc (x3 + 1) (lv' := [(3, .int (x3 + 1)), (2, .int (x2 + 1)), (0, .ref c0), (1, .int c1)]) dX6_pages_43 3 rfl (by rfl) (by decide) rfl ?_
          refine x_goto 4 dX6_pages_46 (by decide) ?_
          refine x_sub [2, 3, 1, 0] rfl ?_
          exact ih _ _ hF
        · refine x_iload_n 0 dX6_pages_41 rfl rfl ?_
          exact x_iret dX6_pages_42 rfl (by cases hF; rfl)
set_option maxRecDepth 20000 in
set_option maxHeartbeats 4000000 in
theorem c_X6_pages (N : Nat) (f : XM) (this : Nat) (p0 : Int32) (n : Nat) (r : Int32) (hF : F_X6_pages N f this p0 = some r) : x_Ct mX6_pages 3 66 0 0 [.ref this, .int p0] (f, n) (xr_ip r (f, n)) := by
  unfold F_X6_pages at hF
  refine x_ct (by decide) rfl (Nat.le_of_ble_eq_true rfl) ?_
  show X mX6_pages 3 66 _ _ 0 0 0 [(0, .ref this), (1, .int p0)] [] (f, n)
  refine x_iconst 0 (by decide) dX6_pages_0 ?_
  refine x_istore_n (i := 2) (lv' := [(2, .int 0), (0, .ref this), (1, .int p0)]) dX6_pages_1 rfl (by decide) rfl ?_
  refine x_iconst 0 (by decide) dX6_pages_2 ?_
  refine x_istore_n (i := 3) (lv' := [(3, .int 0), (2, .int 0), (0, .ref this), (1, .int p0)]) dX6_pages_3 rfl (by decide) rfl ?_
  refine x_sub [2, 3, 1, 0] rfl ?_
  refine w_X6_pages_L4 N _ _ _ _ _ r _ _ _ hF (fun y2_8 y3_8 hF => ?_)
  refine x_aload_n 0 dX6_pages_49 rfl rfl ?_
  refine x_getr_r dX6_pages_50 fl_X6_7 hF (fun v9 hF => ?_)
  refine x_bipush 8 (by decide) dX6_pages_53 ?_
  refine x_nn hF (fun a10 ha10 hF => ?_)
  rw [ha10]
  refine x_ald_r dX6_pages_55 hF (fun v11 hF => ?_)
  refine x_if_ne 61 dX6_pages_56 (by decide) hF (fun hF => ?_) (fun hF => ?_)
  · refine x_aload_n 0 dX6_pages_61 rfl rfl ?_
    refine x_iload_n 1 dX6_pages_62 rfl rfl ?_
    obtain ⟨z12, hzz12, hF⟩ := x_bind hF
    obtain ⟨⟨fsz12, hbz12⟩, hzz12⟩ := x_cv_sp hzz12
    refine x_callv (As := [.int p0]) (rest := []) 0 0 dX6_pages_63 mi_X6_entryOf ml_X6_88 rfl rfl (Nat.le_of_ble_eq_true rfl) ⟨by decide, by decide⟩ (by omega) (by omega) hbz12 rfl (c_X6_entryOf N _ _ _ _ _ hzz12) (x_K.some ?_) x_KX.none
    refine x_istore_n (i := 3) (lv' := [(3, .int z12), (0, .ref this), (1, .int p0), (2, .int y2_8)]) dX6_pages_66 rfl (by decide) rfl ?_
    refine x_iload_n 3 dX6_pages_67 rfl rfl ?_
    refine x_aload_n 1 dX6_pages_68 rfl rfl ?_
    obtain ⟨z13, hzz13, hF⟩ := x_bind hF
    obtain ⟨⟨fsz13, hbz13⟩, hzz13⟩ := x_cv_sp hzz13
    refine x_callv (As := []) (rest := [.int y2_8]) 0 0 dX6_pages_69 mi_X6_allLevels ml_X6_120 rfl rfl (Nat.le_of_ble_eq_true rfl) ⟨by decide, by decide⟩ (by omega) (by omega) hbz13 rfl (c_X6_allLevels N _ _ _ _ hzz13) (x_K.some ?_) x_KX.none
    refine x_iconst 1 (by decide) dX6_pages_72 ?_
    refine x_iadd dX6_pages_73 ?_
    refine x_iadd dX6_pages_74 ?_
    refine x_istore_n (i := 2) (lv' := [(2, .int (y2_8 + (z13 + 1))), (3, .int z12), (0, .ref this), (1, .int p0)]) dX6_pages_75 rfl (by decide) rfl ?_
    refine x_iload_n 1 dX6_pages_76 rfl rfl ?_
    refine x_iconst (-1) (by decide) dX6_pages_77 ?_
    refine x_icmp_ne 93 dX6_pages_78 (by decide) hF (fun hF => ?_) (fun hF => ?_)
    · refine x_aload_n 2 dX6_pages_93 rfl rfl ?_
      refine x_iload_n 1 dX6_pages_94 rfl rfl ?_
      refine x_iconst 3 (by decide) dX6_pages_95 ?_
      obtain ⟨z14, hzz14, hF⟩ := x_bind hF
      obtain ⟨⟨fsz14, hbz14⟩, hzz14⟩ := x_cv_sp hzz14
      refine x_callv (As := [.int z12, .int 3]) (rest := []) 0 0 dX6_pages_96 mi_X6_entry ml_X6_72 rfl rfl (Nat.le_of_ble_eq_true rfl) ⟨by decide, by decide⟩ (by omega) (by omega) hbz14 rfl (c_X6_entry N _ _ _ _ _ _ hzz14) (x_K.some ?_) x_KX.none
      refine x_if_ne 106 dX6_pages_99 (by decide) hF (fun hF => ?_) (fun hF => ?_)
      · refine x_iload_n 0 dX6_pages_106 rfl rfl ?_
        refine x_aload_n 2 dX6_pages_107 rfl rfl ?_
        refine x_iload_n 1 dX6_pages_108 rfl rfl ?_
        obtain ⟨z15, hzz15, hF⟩ := x_bind hF
        obtain ⟨⟨fsz15, hbz15⟩, hzz15⟩ := x_cv_sp hzz15
        refine x_callv (As := [.int z12]) (rest := [.int (y2_8 + (z13 + 1))]) 0 0 dX6_pages_109 mi_X6_overflowLeafOf ml_X6_126 rfl rfl (Nat.le_of_ble_eq_true rfl) ⟨by decide, by decide⟩ (by omega) (by omega) hbz15 rfl (c_X6_overflowLeafOf N _ _ _ _ _ hzz15) (x_K.some ?_) x_KX.none
        refine x_iadd dX6_pages_112 ?_
        exact x_iret dX6_pages_113 rfl (by cases hF; rfl)
      · refine x_iload_n 0 dX6_pages_102 rfl rfl ?_
        refine x_goto 113 dX6_pages_103 (by decide) ?_
        exact x_iret dX6_pages_113 rfl (by cases hF; rfl)
    · refine x_iload_n 0 dX6_pages_81 rfl rfl ?_
      refine x_aload_n 2 dX6_pages_82 rfl rfl ?_
      refine x_aload_n 2 dX6_pages_83 rfl rfl ?_
      refine x_iload_n 3 dX6_pages_84 rfl rfl ?_
      obtain ⟨z16, hzz16, hF⟩ := x_bind hF
      obtain ⟨⟨fsz16, hbz16⟩, hzz16⟩ := x_cv_sp hzz16
      refine x_callv (As := [.int p0]) (rest := [.ref this, .int (y2_8 + (z13 + 1))]) 0 0 dX6_pages_85 mi_X6_leafOf ml_X6_95 rfl rfl (Nat.le_of_ble_eq_true rfl) ⟨by decide, by decide⟩ (by omega) (by omega) hbz16 rfl (c_X6_leafOf N _ _ _ _ _ hzz16) (x_K.some ?_) x_KX.none
      obtain ⟨z17, hzz17, hF⟩ := x_bind hF
      obtain ⟨⟨fsz17, hbz17⟩, hzz17⟩ := x_cv_sp hzz17
      refine x_callv (As := [.int z16]) (rest := [.int (y2_8 + (z13 + 1))]) 0 0 dX6_pages_88 mi_X6_overs ml_X6_123 rfl rfl (Nat.le_of_ble_eq_true rfl) ⟨by decide, by decide⟩ (by omega) (by omega) hbz17 rfl (c_X6_overs N _ _ _ _ _ hzz17) (x_K.some ?_) x_KX.none
      refine x_iadd dX6_pages_91 ?_
      exact x_iret dX6_pages_92 rfl (by cases hF; rfl)
  · refine x_iload_n 2 dX6_pages_59 rfl rfl ?_
    exact x_iret dX6_pages_60 rfl (by cases hF; rfl)
def F_X6_keysIn_L18 (N : Nat) (f : XM) (c0 : Nat) (c3 : Int32) (K : Int64 → Int32 → Option (Int64 × XM)) : Nat → Int64 → Int32 → Option (Int64 × XM)
  | 0, _, _ => none
  | k + 1, x4, x6 =>
    if c3 ≤ x6 then
      K x4 x6
    else
      (x_getr f 6 c0 7).bind fun v3 =>
      Option.bind v3 fun a4 =>
      (x_ald f a4 (2 * x6)).bind fun v5 =>
      (x_getr f 6 c0 7).bind fun v6 =>
      Option.bind v6 fun a7 =>
      (x_ald f a7 ((2 * x6) + 1)).bind fun v8 =>
      (x_getr f 6 c0 7).bind fun v9 =>
      Option.bind v9 fun a10 =>
      (x_ald f a10 (2 * x6)).bind fun v11 =>
      (x_cv f 6 c0 (F_X6_pages N f c0 v11)).bind fun z12 =>
      F_X6_keysIn_L18 N f c0 c3 K k (((31 : Int64) * (((31 : Int64) * (((31 : Int64) * (((31 : Int64) * x4) + (v5 : Int32).toInt64)) + (v8 : Int32).toInt64)) + (z12 : Int32).toInt64)) + (1 : Int64)) (x6 + 1)
def F_X6_keysIn_L98 (N : Nat) (c0 : Nat) (K : Int64 → Int32 → XM → Option (Int64 × XM)) : Nat → Int64 → Int32 → XM → Option (Int64 × XM)
  | 0, _, _, _ => none
  | k + 1, x4, x6, f =>
    if 2 ≤ x6 then
      K x4 x6 f
    else
      if x6 = 0 then
        (x_cv f 6 c0 (F_X6_between N f c0 0 9999)).bind fun z16 =>
        F_X6_keysIn_L98 N c0 K k (((31 : Int64) * (((31 : Int64) * x4) + (z16.1 : Int32).toInt64)) + (z16.1 : Int32).toInt64) (x6 + 1) z16.2
      else
        (x_cv f 6 c0 (F_X6_between N f c0 100 500)).bind fun z15 =>
        F_X6_keysIn_L98 N c0 K k (((31 : Int64) * (((31 : Int64) * x4) + (z15.1 : Int32).toInt64)) + (z15.1 : Int32).toInt64) (x6 + 1) z15.2
def F_X6_keysIn (N : Nat) (f : XM) (this : Nat) (p0 : Int64) : Option (Int64 × XM) :=
  (x_cv f 6 this (F_X6_finds N f this)).bind fun z1 =>
  F_X6_keysIn_L18 N z1.2 this z1.1 (fun y4_13 y6_13 =>
  F_X6_keysIn_L98 N this (fun y4_17 y6_17 g17 =>
  some (y4_17, g17)) N y4_13 0 z1.2) N (((31 : Int64) * p0) + (z1.1 : Int32).toInt64) 0
set_option maxRecDepth 20000 in
set_option maxHeartbeats 4000000 in
theorem w_X6_keysIn_L18 (N : Nat) (f : XM) (c0 : Nat) (c3 : Int32) (K : Int64 → Int32 → Option (Int64 × XM)) (n : Nat) (r : (Int64 × XM)) {rc rs : Nat} : ∀ (k : Nat) (x4 : Int64) (x6 : Int32), F_X6_keysIn_L18 N f c0 c3 K k x4 x6 = some r → (∀ (x4 : Int64) (x6 : Int32), K x4 x6 = some r → X mX6_keysIn 6 137 (x_end (xr_lm r n)) x_noRO rc rs 95 [(0, .ref c0), (3, .int c3), (4, .long x4), (6, .int x6)] [] (f, n)) → X mX6_keysIn 6 137 (x_end (xr_lm r n)) x_noRO rc rs 18 [(0, .ref c0), (3, .int c3), (4, .long x4), (6, .int x6)] [] (f, n) := by
  intro k
  induction k with
  | zero =>
    intro x4 x6 hF
    exact absurd hF (by intro h9; cases h9)
  | succ k ih =>
    intro x4 x6 hF hK
    have ih := fun x4 x6 hF => ih x4 x6 hF hK
    rw [F_X6_keysIn_L18] at hF
    refine x_iload 3 dX6_keysIn_18 rfl ?_
    refine x_iload_n 1 dX6_keysIn_20 rfl rfl ?_
    refine x_icmp_ge 95 dX6_keysIn_21 (by decide) hF (fun hF => ?_) (fun hF => ?_)
    · refine x_sub [0, 1, 2, 3] rfl ?_
      exact hK _ _ hF
    · refine x_ldc2 kc_X6_283 dX6_keysIn_24 ?_
      refine x_ldc2 kc_X6_283 dX6_keysIn_27 ?_
      refine x_lload 2 dX6_keysIn_30 rfl ?_
      refine x_lmul dX6_keysIn_32 ?_
      refine x_aload_n 0 dX6_keysIn_33 rfl rfl ?_
      refine x_getr_r dX6_keysIn_34 fl_X6_29 hF (fun v3 hF => ?_)
      refine x_iconst 2 (by decide) dX6_keysIn_37 ?_
      refine x_iload 3 dX6_keysIn_38 rfl ?_
      refine x_imul dX6_keysIn_40 ?_
      refine x_nn hF (fun a4 ha4 hF => ?_)
      rw [ha4]
      refine x_ald_r dX6_keysIn_41 hF (fun v5 hF => ?_)
      refine x_i2l dX6_keysIn_42 ?_
      refine x_ladd dX6_keysIn_43 ?_
      refine x_lmul dX6_keysIn_44 ?_
      refine x_aload_n 0 dX6_keysIn_45 rfl rfl ?_
      refine x_getr_r dX6_keysIn_46 fl_X6_29 hF (fun v6 hF => ?_)
      refine x_iconst 2 (by decide) dX6_keysIn_49 ?_
      refine x_iload 3 dX6_keysIn_50 rfl ?_
      refine x_imul dX6_keysIn_52 ?_
      refine x_iconst 1 (by decide) dX6_keysIn_53 ?_
      refine x_iadd dX6_keysIn_54 ?_
      refine x_nn hF (fun a7 ha7 hF => ?_)
      rw [ha7]
      refine x_ald_r dX6_keysIn_55 hF (fun v8 hF => ?_)
      refine x_i2l dX6_keysIn_56 ?_
      refine x_ladd dX6_keysIn_57 ?_
      refine x_lstore (i := 4) (lv' := [(4, .long (((31 : Int64) * (((31 : Int64) * x4) + (v5 : Int32).toInt64)) + (v8 : Int32).toInt64)), (0, .ref c0), (3, .int c3), (6, .int x6)]) dX6_keysIn_58 (by decide) rfl ?_
      refine x_ldc2 kc_X6_283 dX6_keysIn_60 ?_
      refine x_ldc2 kc_X6_283 dX6_keysIn_63 ?_
      refine x_lload 0 dX6_keysIn_66 rfl ?_
      refine x_lmul dX6_keysIn_68 ?_
      refine x_aload_n 1 dX6_keysIn_69 rfl rfl ?_
      refine x_aload_n 1 dX6_keysIn_70 rfl rfl ?_
      refine x_getr_r dX6_keysIn_71 fl_X6_29 hF (fun v9 hF => ?_)
      refine x_iconst 2 (by decide) dX6_keysIn_74 ?_
      refine x_iload 3 dX6_keysIn_75 rfl ?_
      refine x_imul dX6_keysIn_77 ?_
      refine x_nn hF (fun a10 ha10 hF => ?_)
      rw [ha10]
      refine x_ald_r dX6_keysIn_78 hF (fun v11 hF => ?_)
      obtain ⟨z12, hzz12, hF⟩ := x_bind hF
      obtain ⟨⟨fsz12, hbz12⟩, hzz12⟩ := x_cv_sp hzz12
      refine x_callv (As := [.int v11]) (rest := [.long ((31 : Int64) * (((31 : Int64) * (((31 : Int64) * x4) + (v5 : Int32).toInt64)) + (v8 : Int32).toInt64)), .long (31 : Int64)]) (rc + 0) (rs + 0) dX6_keysIn_79 mi_X6_pages ml_X6_221 rfl rfl (Nat.le_of_ble_eq_true rfl) ⟨by decide, by decide⟩ (by omega) (by omega) hbz12 rfl (c_X6_pages N _ _ _ _ _ hzz12) (x_K.some ?_) x_KX.none
      refine x_i2l dX6_keysIn_82 ?_
      refine x_ladd dX6_keysIn_83 ?_
      refine x_lmul dX6_keysIn_84 ?_
      refine x_lconst 1 (by decide) dX6_keysIn_85 ?_
      refine x_ladd dX6_keysIn_86 ?_
      refine x_lstore (i := 4) (lv' := [(4, .long (((31 : Int64) * (((31 : Int64) * (((31 : Int64) * (((31 : Int64) * x4) + (v5 : Int32).toInt64)) + (v8 : Int32).toInt64)) + (z12 : Int32).toInt64)) + (1 : Int64))), (0, .ref c0), (3, .int c3), (6, .int x6)]) dX6_keysIn_87 (by decide) rfl ?_
      refine x_iinc (x6 + 1) (lv' := [(6, .int (x6 + 1)), (4, .long (((31 : Int64) * (((31 : Int64) * (((31 : Int64) * (((31 : Int64) * x4) + (v5 : Int32).toInt64)) + (v8 : Int32).toInt64)) + (z12 : Int32).toInt64)) + (1 : Int64))), (0, .ref c0), (3, .int c3)]) dX6_keysIn_89 3 rfl (by rfl) (by decide) rfl ?_
      refine x_goto 18 dX6_keysIn_92 (by decide) ?_
      refine x_sub [2, 3, 1, 0] rfl ?_
      exact ih _ _ hF
set_option maxRecDepth 20000 in
set_option maxHeartbeats 4000000 in
theorem w_X6_keysIn_L98 (N : Nat) (c0 : Nat) (K : Int64 → Int32 → XM → Option (Int64 × XM)) (n : Nat) (r : (Int64 × XM)) {rc rs : Nat} : ∀ (k : Nat) (x4 : Int64) (x6 : Int32) (f : XM), F_X6_keysIn_L98 N c0 K k x4 x6 f = some r → (∀ (x4 : Int64) (x6 : Int32) (f : XM), K x4 x6 f = some r → X mX6_keysIn 6 137 (x_end (xr_lm r n)) x_noRO rc rs 157 [(0, .ref c0), (4, .long x4), (6, .int x6)] [] (f, n)) → X mX6_keysIn 6 137 (x_end (xr_lm r n)) x_noRO rc rs 98 [(0, .ref c0), (4, .long x4), (6, .int x6)] [] (f, n) := by
  intro k
  induction k with
  | zero =>
    intro x4 x6 f hF
    exact absurd hF (by intro h9; cases h9)
  | succ k ih =>
    intro x4 x6 f hF hK
    have ih := fun x4 x6 f hF => ih x4 x6 f hF hK
    rw [F_X6_keysIn_L98] at hF
    refine x_iload 2 dX6_keysIn_98 rfl ?_
    refine x_iconst 2 (by decide) dX6_keysIn_100 ?_
    refine x_icmp_ge 157 dX6_keysIn_101 (by decide) hF (fun hF => ?_) (fun hF => ?_)
    · refine x_sub [0, 1, 2] rfl ?_
      exact hK _ _ _ hF
    · refine x_iload 2 dX6_keysIn_104 rfl ?_
      refine x_if_ne 120 dX6_keysIn_106 (by decide) hF (fun hF => ?_) (fun hF => ?_)
      · refine x_aload_n 0 dX6_keysIn_120 rfl rfl ?_
        refine x_bipush 100 (by decide) dX6_keysIn_121 ?_
        refine x_sipush 500 (by decide) dX6_keysIn_123 ?_
        obtain ⟨z15, hzz15, hF⟩ := x_bind hF
        obtain ⟨⟨fsz15, hbz15⟩, hzz15⟩ := x_cv_sp hzz15
        refine x_callv (As := [.int 100, .int 500]) (rest := []) (rc + 0) (rs + 0) dX6_keysIn_126 mi_X6_between ml_X6_224 rfl rfl (Nat.le_of_ble_eq_true rfl) ⟨by decide, by decide⟩ (by omega) (by omega) hbz15 rfl (c_X6_between N _ _ _ _ _ _ hzz15) (x_K.some ?_) x_KX.none
        refine x_istore (i := 7) (lv' := [(7, .int z15.1), (0, .ref c0), (4, .long x4), (6, .int x6)]) dX6_keysIn_129 (by decide) rfl ?_
        refine x_ldc2 kc_X6_283 dX6_keysIn_131 ?_
        refine x_ldc2 kc_X6_283 dX6_keysIn_134 ?_
        refine x_lload 2 dX6_keysIn_137 rfl ?_
        refine x_lmul dX6_keysIn_139 ?_
        refine x_iload 0 dX6_keysIn_140 rfl ?_
        refine x_i2l dX6_keysIn_142 ?_
        refine x_ladd dX6_keysIn_143 ?_
        refine x_lmul dX6_keysIn_144 ?_
        refine x_iload 0 dX6_keysIn_145 rfl ?_
        refine x_i2l dX6_keysIn_147 ?_
        refine x_ladd dX6_keysIn_148 ?_
        refine x_lstore (i := 4) (lv' := [(4, .long (((31 : Int64) * (((31 : Int64) * x4) + (z15.1 : Int32).toInt64)) + (z15.1 : Int32).toInt64)), (7, .int z15.1), (0, .ref c0), (6, .int x6)]) dX6_keysIn_149 (by decide) rfl ?_
        refine x_iinc (x6 + 1) (lv' := [(6, .int (x6 + 1)), (4, .long (((31 : Int64) * (((31 : Int64) * x4) + (z15.1 : Int32).toInt64)) + (z15.1 : Int32).toInt64)), (7, .int z15.1), (0, .ref c0)]) dX6_keysIn_151 3 rfl (by rfl) (by decide) rfl ?_
        refine x_goto 98 dX6_keysIn_154 (by decide) ?_
        refine x_sub [3, 1, 0] rfl ?_
        exact ih _ _ _ hF
      · refine x_aload_n 0 dX6_keysIn_109 rfl rfl ?_
        refine x_iconst 0 (by decide) dX6_keysIn_110 ?_
        refine x_sipush 9999 (by decide) dX6_keysIn_111 ?_
        obtain ⟨z16, hzz16, hF⟩ := x_bind hF
        obtain ⟨⟨fsz16, hbz16⟩, hzz16⟩ := x_cv_sp hzz16
        refine x_callv (As := [.int 0, .int 9999]) (rest := []) (rc + 0) (rs + 0) dX6_keysIn_114 mi_X6_between ml_X6_224 rfl rfl (Nat.le_of_ble_eq_true rfl) ⟨by decide, by decide⟩ (by omega) (by omega) hbz16 rfl (c_X6_between N _ _ _ _ _ _ hzz16) (x_K.some ?_) x_KX.none
        refine x_goto 129 dX6_keysIn_117 (by decide) ?_
        refine x_istore (i := 7) (lv' := [(7, .int z16.1), (0, .ref c0), (4, .long x4), (6, .int x6)]) dX6_keysIn_129 (by decide) rfl ?_
        refine x_ldc2 kc_X6_283 dX6_keysIn_131 ?_
        refine x_ldc2 kc_X6_283 dX6_keysIn_134 ?_
        refine x_lload 2 dX6_keysIn_137 rfl ?_
        refine x_lmul dX6_keysIn_139 ?_
        refine x_iload 0 dX6_keysIn_140 rfl ?_
        refine x_i2l dX6_keysIn_142 ?_
        refine x_ladd dX6_keysIn_143 ?_
        refine x_lmul dX6_keysIn_144 ?_
        refine x_iload 0 dX6_keysIn_145 rfl ?_
        refine x_i2l dX6_keysIn_147 ?_
        refine x_ladd dX6_keysIn_148 ?_
        refine x_lstore (i := 4) (lv' := [(4, .long (((31 : Int64) * (((31 : Int64) * x4) + (z16.1 : Int32).toInt64)) + (z16.1 : Int32).toInt64)), (7, .int z16.1), (0, .ref c0), (6, .int x6)]) dX6_keysIn_149 (by decide) rfl ?_
        refine x_iinc (x6 + 1) (lv' := [(6, .int (x6 + 1)), (4, .long (((31 : Int64) * (((31 : Int64) * x4) + (z16.1 : Int32).toInt64)) + (z16.1 : Int32).toInt64)), (7, .int z16.1), (0, .ref c0)]) dX6_keysIn_151 3 rfl (by rfl) (by decide) rfl ?_
        refine x_goto 98 dX6_keysIn_154 (by decide) ?_
        refine x_sub [3, 1, 0] rfl ?_
        exact ih _ _ _ hF
set_option maxRecDepth 20000 in
set_option maxHeartbeats 4000000 in
theorem c_X6_keysIn (N : Nat) (f : XM) (this : Nat) (p0 : Int64) (n : Nat) (r : (Int64 × XM)) (hF : F_X6_keysIn N f this p0 = some r) : x_Ct mX6_keysIn 6 137 0 0 [.ref this, .long p0] (f, n) (xr_lm r n) := by
  unfold F_X6_keysIn at hF
  refine x_ct (by decide) rfl (Nat.le_of_ble_eq_true rfl) ?_
  show X mX6_keysIn 6 137 _ _ 0 0 0 [(0, .ref this), (1, .long p0)] [] (f, n)
  refine x_aload_n 0 dX6_keysIn_0 rfl rfl ?_
  obtain ⟨z1, hzz1, hF⟩ := x_bind hF
  obtain ⟨⟨fsz1, hbz1⟩, hzz1⟩ := x_cv_sp hzz1
  refine x_callv (As := []) (rest := []) 0 0 dX6_keysIn_1 mi_X6_finds ml_X6_113 rfl rfl (Nat.le_of_ble_eq_true rfl) ⟨by decide, by decide⟩ (by omega) (by omega) hbz1 rfl (c_X6_finds N _ _ _ _ hzz1) (x_K.some ?_) x_KX.none
  refine x_istore_n (i := 3) (lv' := [(3, .int z1.1), (0, .ref this), (1, .long p0)]) dX6_keysIn_4 rfl (by decide) rfl ?_
  refine x_ldc2 kc_X6_283 dX6_keysIn_5 ?_
  refine x_lload_n 2 dX6_keysIn_8 rfl rfl ?_
  refine x_lmul dX6_keysIn_9 ?_
  refine x_iload_n 0 dX6_keysIn_10 rfl rfl ?_
  refine x_i2l dX6_keysIn_11 ?_
  refine x_ladd dX6_keysIn_12 ?_
  refine x_lstore (i := 4) (lv' := [(4, .long (((31 : Int64) * p0) + (z1.1 : Int32).toInt64)), (3, .int z1.1), (0, .ref this), (1, .long p0)]) dX6_keysIn_13 (by decide) rfl ?_
  refine x_iconst 0 (by decide) dX6_keysIn_15 ?_
  refine x_istore (i := 6) (lv' := [(6, .int 0), (4, .long (((31 : Int64) * p0) + (z1.1 : Int32).toInt64)), (3, .int z1.1), (0, .ref this), (1, .long p0)]) dX6_keysIn_16 (by decide) rfl ?_
  refine x_sub [3, 2, 1, 0] rfl ?_
  refine w_X6_keysIn_L18 N _ _ _ _ _ r _ _ _ hF (fun y4_13 y6_13 hF => ?_)
  refine x_iconst 0 (by decide) dX6_keysIn_95 ?_
  refine x_istore (i := 6) (lv' := [(6, .int 0), (0, .ref this), (3, .int z1.1), (4, .long y4_13)]) dX6_keysIn_96 (by decide) rfl ?_
  refine x_sub [1, 3, 0] rfl ?_
  refine w_X6_keysIn_L98 N _ _ _ r _ _ _ _ hF (fun y4_17 y6_17 g17 hF => ?_)
  refine x_lload 1 dX6_keysIn_157 rfl ?_
  exact x_lret dX6_keysIn_159 rfl (by cases hF; rfl)
def F_X6_worst_L9 (N : Nat) (f : XM) (c0 : Nat) (c2 : Int32) (K : Int32 → Int32 → Option (Int32 × XM)) : Nat → Int32 → Int32 → Option (Int32 × XM)
  | 0, _, _ => none
  | k + 1, x1, x3 =>
    if c2 ≤ x3 then
      K x1 x3
    else
      (x_getr f 6 c0 7).bind fun v3 =>
      Option.bind v3 fun a4 =>
      (x_ald f a4 (2 * x3)).bind fun v5 =>
      (x_cv f 6 c0 (F_X6_pages N f c0 v5)).bind fun z6 =>
      if z6 ≤ x1 then
        F_X6_worst_L9 N f c0 c2 K k x1 (x3 + 1)
      else
        (x_getr f 6 c0 7).bind fun v7 =>
        Option.bind v7 fun a8 =>
        (x_ald f a8 (2 * x3)).bind fun v9 =>
        (x_cv f 6 c0 (F_X6_pages N f c0 v9)).bind fun z10 =>
        F_X6_worst_L9 N f c0 c2 K k z10 (x3 + 1)
def F_X6_worst (N : Nat) (f : XM) (this : Nat) : Option (Int32 × XM) :=
  (x_cv f 6 this (F_X6_finds N f this)).bind fun z1 =>
  F_X6_worst_L9 N z1.2 this z1.1 (fun y1_11 y3_11 =>
  some (y1_11, z1.2)) N 0 0
set_option maxRecDepth 20000 in
set_option maxHeartbeats 4000000 in
theorem w_X6_worst_L9 (N : Nat) (f : XM) (c0 : Nat) (c2 : Int32) (K : Int32 → Int32 → Option (Int32 × XM)) (n : Nat) (r : (Int32 × XM)) {rc rs : Nat} : ∀ (k : Nat) (x1 : Int32) (x3 : Int32), F_X6_worst_L9 N f c0 c2 K k x1 x3 = some r → (∀ (x1 : Int32) (x3 : Int32), K x1 x3 = some r → X mX6_worst 5 112 (x_end (xr_im r n)) x_noRO rc rs 53 [(0, .ref c0), (1, .int x1), (2, .int c2), (3, .int x3)] [] (f, n)) → X mX6_worst 5 112 (x_end (xr_im r n)) x_noRO rc rs 9 [(0, .ref c0), (1, .int x1), (2, .int c2), (3, .int x3)] [] (f, n) := by
  intro k
  induction k with
  | zero =>
    intro x1 x3 hF
    exact absurd hF (by intro h9; cases h9)
  | succ k ih =>
    intro x1 x3 hF hK
    have ih := fun x1 x3 hF => ih x1 x3 hF hK
    rw [F_X6_worst_L9] at hF
    refine x_iload_n 3 dX6_worst_9 rfl rfl ?_
    refine x_iload_n 2 dX6_worst_10 rfl rfl ?_
    refine x_icmp_ge 53 dX6_worst_11 (by decide) hF (fun hF => ?_) (fun hF => ?_)
    · refine x_sub [0, 1, 2, 3] rfl ?_
      exact hK _ _ hF
    · refine x_aload_n 0 dX6_worst_14 rfl rfl ?_
      refine x_aload_n 0 dX6_worst_15 rfl rfl ?_
      refine x_getr_r dX6_worst_16 fl_X6_29 hF (fun v3 hF => ?_)
      refine x_iconst 2 (by decide) dX6_worst_19 ?_
      refine x_iload_n 3 dX6_worst_20 rfl rfl ?_
      refine x_imul dX6_worst_21 ?_
      refine x_nn hF (fun a4 ha4 hF => ?_)
      rw [ha4]
      refine x_ald_r dX6_worst_22 hF (fun v5 hF => ?_)
      obtain ⟨z6, hzz6, hF⟩ := x_bind hF
      obtain ⟨⟨fsz6, hbz6⟩, hzz6⟩ := x_cv_sp hzz6
      refine x_callv (As := [.int v5]) (rest := []) (rc + 0) (rs + 0) dX6_worst_23 mi_X6_pages ml_X6_221 rfl rfl (Nat.le_of_ble_eq_true rfl) ⟨by decide, by decide⟩ (by omega) (by omega) hbz6 rfl (c_X6_pages N _ _ _ _ _ hzz6) (x_K.some ?_) x_KX.none
      refine x_iload_n 1 dX6_worst_26 rfl rfl ?_
      refine x_icmp_le 45 dX6_worst_27 (by decide) hF (fun hF => ?_) (fun hF => ?_)
      · refine x_iload_n 1 dX6_worst_45 rfl rfl ?_
        refine x_istore_n (i := 1) (lv' := [(1, .int x1), (0, .ref c0), (2, .int c2), (3, .int x3)]) dX6_worst_46 rfl (by decide) rfl ?_
        refine x_iinc (x3 + 1) (lv' := [(3, .int (x3 + 1)), (1, .int x1), (0, .ref c0), (2, .int c2)]) dX6_worst_47 3 rfl (by rfl) (by decide) rfl ?_
        refine x_goto 9 dX6_worst_50 (by decide) ?_
        refine x_sub [2, 1, 3, 0] rfl ?_
        exact ih _ _ hF
      · refine x_aload_n 0 dX6_worst_30 rfl rfl ?_
        refine x_aload_n 0 dX6_worst_31 rfl rfl ?_
        refine x_getr_r dX6_worst_32 fl_X6_29 hF (fun v7 hF => ?_)
        refine x_iconst 2 (by decide) dX6_worst_35 ?_
        refine x_iload_n 3 dX6_worst_36 rfl rfl ?_
        refine x_imul dX6_worst_37 ?_
        refine x_nn hF (fun a8 ha8 hF => ?_)
        rw [ha8]
        refine x_ald_r dX6_worst_38 hF (fun v9 hF => ?_)
        obtain ⟨z10, hzz10, hF⟩ := x_bind hF
        obtain ⟨⟨fsz10, hbz10⟩, hzz10⟩ := x_cv_sp hzz10
        refine x_callv (As := [.int v9]) (rest := []) (rc + 0) (rs + 0) dX6_worst_39 mi_X6_pages ml_X6_221 rfl rfl (Nat.le_of_ble_eq_true rfl) ⟨by decide, by decide⟩ (by omega) (by omega) hbz10 rfl (c_X6_pages N _ _ _ _ _ hzz10) (x_K.some ?_) x_KX.none
        refine x_goto 46 dX6_worst_42 (by decide) ?_
        refine x_istore_n (i := 1) (lv' := [(1, .int z10), (0, .ref c0), (2, .int c2), (3, .int x3)]) dX6_worst_46 rfl (by decide) rfl ?_
        refine x_iinc (x3 + 1) (lv' := [(3, .int (x3 + 1)), (1, .int z10), (0, .ref c0), (2, .int c2)]) dX6_worst_47 3 rfl (by rfl) (by decide) rfl ?_
        refine x_goto 9 dX6_worst_50 (by decide) ?_
        refine x_sub [2, 1, 3, 0] rfl ?_
        exact ih _ _ hF
set_option maxRecDepth 20000 in
set_option maxHeartbeats 4000000 in
theorem c_X6_worst (N : Nat) (f : XM) (this : Nat) (n : Nat) (r : (Int32 × XM)) (hF : F_X6_worst N f this = some r) : x_Ct mX6_worst 5 112 0 0 [.ref this] (f, n) (xr_im r n) := by
  unfold F_X6_worst at hF
  refine x_ct (by decide) rfl (Nat.le_of_ble_eq_true rfl) ?_
  show X mX6_worst 5 112 _ _ 0 0 0 [(0, .ref this)] [] (f, n)
  refine x_iconst 0 (by decide) dX6_worst_0 ?_
  refine x_istore_n (i := 1) (lv' := [(1, .int 0), (0, .ref this)]) dX6_worst_1 rfl (by decide) rfl ?_
  refine x_aload_n 1 dX6_worst_2 rfl rfl ?_
  obtain ⟨z1, hzz1, hF⟩ := x_bind hF
  obtain ⟨⟨fsz1, hbz1⟩, hzz1⟩ := x_cv_sp hzz1
  refine x_callv (As := []) (rest := []) 0 0 dX6_worst_3 mi_X6_finds ml_X6_113 rfl rfl (Nat.le_of_ble_eq_true rfl) ⟨by decide, by decide⟩ (by omega) (by omega) hbz1 rfl (c_X6_finds N _ _ _ _ hzz1) (x_K.some ?_) x_KX.none
  refine x_istore_n (i := 2) (lv' := [(2, .int z1.1), (1, .int 0), (0, .ref this)]) dX6_worst_6 rfl (by decide) rfl ?_
  refine x_iconst 0 (by decide) dX6_worst_7 ?_
  refine x_istore_n (i := 3) (lv' := [(3, .int 0), (2, .int z1.1), (1, .int 0), (0, .ref this)]) dX6_worst_8 rfl (by decide) rfl ?_
  refine x_sub [3, 2, 1, 0] rfl ?_
  refine w_X6_worst_L9 N _ _ _ _ _ r _ _ _ hF (fun y1_11 y3_11 hF => ?_)
  refine x_iload_n 1 dX6_worst_53 rfl rfl ?_
  exact x_iret dX6_worst_54 rfl (by cases hF; rfl)
def F_X6_leavesBy (N : Nat) (f : XM) (p0 : Int32) (p1 : Int32) (p2 : Int32) : Option Int32 :=
  (x_div (p1 * p2) 100).bind fun v1 =>
  if 1 ≤ v1 then
    (x_div ((p0 + v1) - 1) v1).bind fun v2 =>
    some v2
  else
    (x_div ((p0 + 1) - 1) 1).bind fun v3 =>
    some v3
set_option maxRecDepth 20000 in
set_option maxHeartbeats 4000000 in
theorem c_X6_leavesBy (N : Nat) (f : XM) (p0 : Int32) (p1 : Int32) (p2 : Int32) (n : Nat) (r : Int32) (hF : F_X6_leavesBy N f p0 p1 p2 = some r) : x_Ct mX6_leavesBy 0 0 0 0 [.int p0, .int p1, .int p2] (f, n) (xr_ip r (f, n)) := by
  unfold F_X6_leavesBy at hF
  refine x_ct (by decide) rfl (Nat.le_of_ble_eq_true rfl) ?_
  show X mX6_leavesBy 0 0 _ _ 0 0 0 [(0, .int p0), (1, .int p1), (2, .int p2)] [] (f, n)
  refine x_iload_n 1 dX6_leavesBy_0 rfl rfl ?_
  refine x_iload_n 2 dX6_leavesBy_1 rfl rfl ?_
  refine x_imul dX6_leavesBy_2 ?_
  refine x_bipush 100 (by decide) dX6_leavesBy_3 ?_
  refine x_idiv dX6_leavesBy_5 hF (fun v1 hF => ?_)
  refine x_istore_n (i := 3) (lv' := [(3, .int v1), (0, .int p0), (1, .int p1), (2, .int p2)]) dX6_leavesBy_6 rfl (by decide) rfl ?_
  refine x_iload_n 0 dX6_leavesBy_7 rfl rfl ?_
  refine x_iconst 1 (by decide) dX6_leavesBy_8 ?_
  refine x_icmp_ge 16 dX6_leavesBy_9 (by decide) hF (fun hF => ?_) (fun hF => ?_)
  · refine x_iload_n 0 dX6_leavesBy_16 rfl rfl ?_
    refine x_istore (i := 4) (lv' := [(4, .int v1), (3, .int v1), (0, .int p0), (1, .int p1), (2, .int p2)]) dX6_leavesBy_17 (by decide) rfl ?_
    refine x_iload_n 2 dX6_leavesBy_19 rfl rfl ?_
    refine x_iload 0 dX6_leavesBy_20 rfl ?_
    refine x_iadd dX6_leavesBy_22 ?_
    refine x_iconst 1 (by decide) dX6_leavesBy_23 ?_
    refine x_isub dX6_leavesBy_24 ?_
    refine x_iload 0 dX6_leavesBy_25 rfl ?_
    refine x_idiv dX6_leavesBy_27 hF (fun v2 hF => ?_)
    exact x_iret dX6_leavesBy_28 rfl (by cases hF; rfl)
  · refine x_iconst 1 (by decide) dX6_leavesBy_12 ?_
    refine x_goto 17 dX6_leavesBy_13 (by decide) ?_
    refine x_istore (i := 4) (lv' := [(4, .int 1), (3, .int v1), (0, .int p0), (1, .int p1), (2, .int p2)]) dX6_leavesBy_17 (by decide) rfl ?_
    refine x_iload_n 2 dX6_leavesBy_19 rfl rfl ?_
    refine x_iload 0 dX6_leavesBy_20 rfl ?_
    refine x_iadd dX6_leavesBy_22 ?_
    refine x_iconst 1 (by decide) dX6_leavesBy_23 ?_
    refine x_isub dX6_leavesBy_24 ?_
    refine x_iload 0 dX6_leavesBy_25 rfl ?_
    refine x_idiv dX6_leavesBy_27 hF (fun v3 hF => ?_)
    exact x_iret dX6_leavesBy_28 rfl (by cases hF; rfl)
def F_X6_leavesBuilt (N : Nat) (f : XM) (this : Nat) (p0 : Int32) : Option (Int32 × XM) :=
  (x_cv f 6 this (F_X6_finds N f this)).bind fun z1 =>
  (x_getr z1.2 6 this 0).bind fun v2 =>
  Option.bind v2 fun a3 =>
  (x_ald z1.2 a3 0).bind fun v4 =>
  (F_X6_leavesBy N z1.2 z1.1 v4 p0).bind fun z5 =>
  some (z5, z1.2)
set_option maxRecDepth 20000 in
set_option maxHeartbeats 4000000 in
theorem c_X6_leavesBuilt (N : Nat) (f : XM) (this : Nat) (p0 : Int32) (n : Nat) (r : (Int32 × XM)) (hF : F_X6_leavesBuilt N f this p0 = some r) : x_Ct mX6_leavesBuilt 5 112 0 0 [.ref this, .int p0] (f, n) (xr_im r n) := by
  unfold F_X6_leavesBuilt at hF
  refine x_ct (by decide) rfl (Nat.le_of_ble_eq_true rfl) ?_
  show X mX6_leavesBuilt 5 112 _ _ 0 0 0 [(0, .ref this), (1, .int p0)] [] (f, n)
  refine x_aload_n 0 dX6_leavesBuilt_0 rfl rfl ?_
  obtain ⟨z1, hzz1, hF⟩ := x_bind hF
  obtain ⟨⟨fsz1, hbz1⟩, hzz1⟩ := x_cv_sp hzz1
  refine x_callv (As := []) (rest := []) 0 0 dX6_leavesBuilt_1 mi_X6_finds ml_X6_113 rfl rfl (Nat.le_of_ble_eq_true rfl) ⟨by decide, by decide⟩ (by omega) (by omega) hbz1 rfl (c_X6_finds N _ _ _ _ hzz1) (x_K.some ?_) x_KX.none
  refine x_aload_n 0 dX6_leavesBuilt_4 rfl rfl ?_
  refine x_getr_r dX6_leavesBuilt_5 fl_X6_7 hF (fun v2 hF => ?_)
  refine x_iconst 0 (by decide) dX6_leavesBuilt_8 ?_
  refine x_nn hF (fun a3 ha3 hF => ?_)
  rw [ha3]
  refine x_ald_r dX6_leavesBuilt_9 hF (fun v4 hF => ?_)
  refine x_iload_n 1 dX6_leavesBuilt_10 rfl rfl ?_
  obtain ⟨z5, hzz5, hF⟩ := x_bind hF
  refine x_calls (As := [.int z1.1, .int v4, .int p0]) (rest := []) 0 0 dX6_leavesBuilt_11 mi_X6_leavesBy rfl ml_X6_277 rfl rfl (Nat.le_of_ble_eq_true rfl) ⟨by decide, by decide⟩ (by omega) (by omega) (c_X6_leavesBy N _ _ _ _ _ _ hzz5) (x_K.some ?_) x_KX.none
  exact x_iret dX6_leavesBuilt_14 rfl (by cases hF; rfl)
def F_X6_share_L4 (N : Nat) (f : XM) (c0 : Nat) (K : UInt64 → Int32 → Option UInt64) : Nat → UInt64 → Int32 → Option UInt64
  | 0, _, _ => none
  | k + 1, x1, x3 =>
    (x_getr f 6 c0 0).bind fun v2 =>
    Option.bind v2 fun a3 =>
    (x_ald f a3 7).bind fun v4 =>
    if v4 ≤ x3 then
      K x1 x3
    else
      (x_cv f 6 c0 (F_X6_entry N f c0 x3 3)).bind fun z5 =>
      if z5 ≤ 0 then
        (x_dn (FP.dadd x1 FP.dconst0)).bind fun v6 =>
        F_X6_share_L4 N f c0 K k v6 (x3 + 1)
      else
        (x_dn (FP.dadd x1 FP.dconst1)).bind fun v7 =>
        F_X6_share_L4 N f c0 K k v7 (x3 + 1)
def F_X6_share (N : Nat) (f : XM) (this : Nat) : Option UInt64 :=
  F_X6_share_L4 N f this (fun y1_8 y3_8 =>
  (x_getr f 6 this 0).bind fun v9 =>
  Option.bind v9 fun a10 =>
  (x_ald f a10 7).bind fun v11 =>
  if v11 = 0 then
    some FP.dconst0
  else
    (x_getr f 6 this 0).bind fun v12 =>
    Option.bind v12 fun a13 =>
    (x_ald f a13 7).bind fun v14 =>
    (x_dn (FP.ddiv y1_8 (FP.i2d v14))).bind fun v15 =>
    some v15) N FP.dconst0 0
set_option maxRecDepth 20000 in
set_option maxHeartbeats 4000000 in
theorem w_X6_share_L4 (N : Nat) (f : XM) (c0 : Nat) (K : UInt64 → Int32 → Option UInt64) (n : Nat) (r : UInt64) {rc rs : Nat} : ∀ (k : Nat) (x1 : UInt64) (x3 : Int32), F_X6_share_L4 N f c0 K k x1 x3 = some r → (∀ (x1 : UInt64) (x3 : Int32), K x1 x3 = some r → X mX6_share 1 22 (x_end (xr_dp r (f, n))) x_noRO rc rs 38 [(0, .ref c0), (1, .double x1), (3, .int x3)] [] (f, n)) → X mX6_share 1 22 (x_end (xr_dp r (f, n))) x_noRO rc rs 4 [(0, .ref c0), (1, .double x1), (3, .int x3)] [] (f, n) := by
  intro k
  induction k with
  | zero =>
    intro x1 x3 hF
    exact absurd hF (by intro h9; cases h9)
  | succ k ih =>
    intro x1 x3 hF hK
    have ih := fun x1 x3 hF => ih x1 x3 hF hK
    rw [F_X6_share_L4] at hF
    refine x_iload_n 2 dX6_share_4 rfl rfl ?_
    refine x_aload_n 0 dX6_share_5 rfl rfl ?_
    refine x_getr_r dX6_share_6 fl_X6_7 hF (fun v2 hF => ?_)
    refine x_bipush 7 (by decide) dX6_share_9 ?_
    refine x_nn hF (fun a3 ha3 hF => ?_)
    rw [ha3]
    refine x_ald_r dX6_share_11 hF (fun v4 hF => ?_)
    refine x_icmp_ge 38 dX6_share_12 (by decide) hF (fun hF => ?_) (fun hF => ?_)
    · refine x_sub [0, 1, 2] rfl ?_
      exact hK _ _ hF
    · refine x_dload_n 1 dX6_share_15 rfl rfl ?_
      refine x_aload_n 0 dX6_share_16 rfl rfl ?_
      refine x_iload_n 2 dX6_share_17 rfl rfl ?_
      refine x_iconst 3 (by decide) dX6_share_18 ?_
      obtain ⟨z5, hzz5, hF⟩ := x_bind hF
      obtain ⟨⟨fsz5, hbz5⟩, hzz5⟩ := x_cv_sp hzz5
      refine x_callv (As := [.int x3, .int 3]) (rest := [.double x1]) (rc + 0) (rs + 0) dX6_share_19 mi_X6_entry ml_X6_72 rfl rfl (Nat.le_of_ble_eq_true rfl) ⟨by decide, by decide⟩ (by omega) (by omega) hbz5 rfl (c_X6_entry N _ _ _ _ _ _ hzz5) (x_K.some ?_) x_KX.none
      refine x_if_le 29 dX6_share_22 (by decide) hF (fun hF => ?_) (fun hF => ?_)
      · refine x_dconst0 dX6_share_29 ?_
        refine x_dadd dX6_share_30 hF (fun v6 hF => ?_)
        refine x_dstore_n (i := 1) (lv' := [(1, .double v6), (0, .ref c0), (3, .int x3)]) dX6_share_31 rfl (by decide) rfl ?_
        refine x_iinc (x3 + 1) (lv' := [(3, .int (x3 + 1)), (1, .double v6), (0, .ref c0)]) dX6_share_32 2 rfl (by rfl) (by decide) rfl ?_
        refine x_goto 4 dX6_share_35 (by decide) ?_
        refine x_sub [2, 1, 0] rfl ?_
        exact ih _ _ hF
      · refine x_dconst1 dX6_share_25 ?_
        refine x_goto 30 dX6_share_26 (by decide) ?_
        refine x_dadd dX6_share_30 hF (fun v7 hF => ?_)
        refine x_dstore_n (i := 1) (lv' := [(1, .double v7), (0, .ref c0), (3, .int x3)]) dX6_share_31 rfl (by decide) rfl ?_
        refine x_iinc (x3 + 1) (lv' := [(3, .int (x3 + 1)), (1, .double v7), (0, .ref c0)]) dX6_share_32 2 rfl (by rfl) (by decide) rfl ?_
        refine x_goto 4 dX6_share_35 (by decide) ?_
        refine x_sub [2, 1, 0] rfl ?_
        exact ih _ _ hF
set_option maxRecDepth 20000 in
set_option maxHeartbeats 4000000 in
theorem c_X6_share (N : Nat) (f : XM) (this : Nat) (n : Nat) (r : UInt64) (hF : F_X6_share N f this = some r) : x_Ct mX6_share 1 22 0 0 [.ref this] (f, n) (xr_dp r (f, n)) := by
  unfold F_X6_share at hF
  refine x_ct (by decide) rfl (Nat.le_of_ble_eq_true rfl) ?_
  show X mX6_share 1 22 _ _ 0 0 0 [(0, .ref this)] [] (f, n)
  refine x_dconst0 dX6_share_0 ?_
  refine x_dstore_n (i := 1) (lv' := [(1, .double FP.dconst0), (0, .ref this)]) dX6_share_1 rfl (by decide) rfl ?_
  refine x_iconst 0 (by decide) dX6_share_2 ?_
  refine x_istore_n (i := 3) (lv' := [(3, .int 0), (1, .double FP.dconst0), (0, .ref this)]) dX6_share_3 rfl (by decide) rfl ?_
  refine x_sub [2, 1, 0] rfl ?_
  refine w_X6_share_L4 N _ _ _ _ r _ _ _ hF (fun y1_8 y3_8 hF => ?_)
  refine x_aload_n 0 dX6_share_38 rfl rfl ?_
  refine x_getr_r dX6_share_39 fl_X6_7 hF (fun v9 hF => ?_)
  refine x_bipush 7 (by decide) dX6_share_42 ?_
  refine x_nn hF (fun a10 ha10 hF => ?_)
  rw [ha10]
  refine x_ald_r dX6_share_44 hF (fun v11 hF => ?_)
  refine x_if_ne 52 dX6_share_45 (by decide) hF (fun hF => ?_) (fun hF => ?_)
  · refine x_dload_n 1 dX6_share_52 rfl rfl ?_
    refine x_aload_n 0 dX6_share_53 rfl rfl ?_
    refine x_getr_r dX6_share_54 fl_X6_7 hF (fun v12 hF => ?_)
    refine x_bipush 7 (by decide) dX6_share_57 ?_
    refine x_nn hF (fun a13 ha13 hF => ?_)
    rw [ha13]
    refine x_ald_r dX6_share_59 hF (fun v14 hF => ?_)
    refine x_i2d dX6_share_60 ?_
    refine x_ddiv dX6_share_61 hF (fun v15 hF => ?_)
    exact x_dret dX6_share_62 rfl (by cases hF; rfl)
  · refine x_dconst0 dX6_share_48 ?_
    refine x_goto 62 dX6_share_49 (by decide) ?_
    exact x_dret dX6_share_62 rfl (by cases hF; rfl)
def F_X6_mean_L10 (N : Nat) (f : XM) (c0 : Nat) (c3 : Int32) (K : UInt64 → Int32 → Option (UInt64 × XM)) : Nat → UInt64 → Int32 → Option (UInt64 × XM)
  | 0, _, _ => none
  | k + 1, x1, x4 =>
    if c3 ≤ x4 then
      K x1 x4
    else
      (x_getr f 6 c0 7).bind fun v3 =>
      Option.bind v3 fun a4 =>
      (x_ald f a4 (2 * x4)).bind fun v5 =>
      (x_cv f 6 c0 (F_X6_pages N f c0 v5)).bind fun z6 =>
      (x_dn (FP.dadd x1 (FP.i2d z6))).bind fun v7 =>
      F_X6_mean_L10 N f c0 c3 K k v7 (x4 + 1)
def F_X6_mean (N : Nat) (f : XM) (this : Nat) : Option (UInt64 × XM) :=
  (x_cv f 6 this (F_X6_finds N f this)).bind fun z1 =>
  F_X6_mean_L10 N z1.2 this z1.1 (fun y1_8 y4_8 =>
  if z1.1 = 0 then
    some (FP.dconst0, z1.2)
  else
    (x_dn (FP.ddiv y1_8 (FP.i2d z1.1))).bind fun v9 =>
    some (v9, z1.2)) N FP.dconst0 0
set_option maxRecDepth 20000 in
set_option maxHeartbeats 4000000 in
theorem w_X6_mean_L10 (N : Nat) (f : XM) (c0 : Nat) (c3 : Int32) (K : UInt64 → Int32 → Option (UInt64 × XM)) (n : Nat) (r : (UInt64 × XM)) {rc rs : Nat} : ∀ (k : Nat) (x1 : UInt64) (x4 : Int32), F_X6_mean_L10 N f c0 c3 K k x1 x4 = some r → (∀ (x1 : UInt64) (x4 : Int32), K x1 x4 = some r → X mX6_mean 5 112 (x_end (xr_dm r n)) x_noRO rc rs 39 [(0, .ref c0), (1, .double x1), (3, .int c3), (4, .int x4)] [] (f, n)) → X mX6_mean 5 112 (x_end (xr_dm r n)) x_noRO rc rs 10 [(0, .ref c0), (1, .double x1), (3, .int c3), (4, .int x4)] [] (f, n) := by
  intro k
  induction k with
  | zero =>
    intro x1 x4 hF
    exact absurd hF (by intro h9; cases h9)
  | succ k ih =>
    intro x1 x4 hF hK
    have ih := fun x1 x4 hF => ih x1 x4 hF hK
    rw [F_X6_mean_L10] at hF
    refine x_iload 3 dX6_mean_10 rfl ?_
    refine x_iload_n 2 dX6_mean_12 rfl rfl ?_
    refine x_icmp_ge 39 dX6_mean_13 (by decide) hF (fun hF => ?_) (fun hF => ?_)
    · refine x_sub [0, 1, 2, 3] rfl ?_
      exact hK _ _ hF
    · refine x_dload_n 1 dX6_mean_16 rfl rfl ?_
      refine x_aload_n 0 dX6_mean_17 rfl rfl ?_
      refine x_aload_n 0 dX6_mean_18 rfl rfl ?_
      refine x_getr_r dX6_mean_19 fl_X6_29 hF (fun v3 hF => ?_)
      refine x_iconst 2 (by decide) dX6_mean_22 ?_
      refine x_iload 3 dX6_mean_23 rfl ?_
      refine x_imul dX6_mean_25 ?_
      refine x_nn hF (fun a4 ha4 hF => ?_)
      rw [ha4]
      refine x_ald_r dX6_mean_26 hF (fun v5 hF => ?_)
      obtain ⟨z6, hzz6, hF⟩ := x_bind hF
      obtain ⟨⟨fsz6, hbz6⟩, hzz6⟩ := x_cv_sp hzz6
      refine x_callv (As := [.int v5]) (rest := [.double x1]) (rc + 0) (rs + 0) dX6_mean_27 mi_X6_pages ml_X6_221 rfl rfl (Nat.le_of_ble_eq_true rfl) ⟨by decide, by decide⟩ (by omega) (by omega) hbz6 rfl (c_X6_pages N _ _ _ _ _ hzz6) (x_K.some ?_) x_KX.none
      refine x_i2d dX6_mean_30 ?_
      refine x_dadd dX6_mean_31 hF (fun v7 hF => ?_)
      refine x_dstore_n (i := 1) (lv' := [(1, .double v7), (0, .ref c0), (3, .int c3), (4, .int x4)]) dX6_mean_32 rfl (by decide) rfl ?_
      refine x_iinc (x4 + 1) (lv' := [(4, .int (x4 + 1)), (1, .double v7), (0, .ref c0), (3, .int c3)]) dX6_mean_33 3 rfl (by rfl) (by decide) rfl ?_
      refine x_goto 10 dX6_mean_36 (by decide) ?_
      refine x_sub [2, 1, 3, 0] rfl ?_
      exact ih _ _ hF
set_option maxRecDepth 20000 in
set_option maxHeartbeats 4000000 in
theorem c_X6_mean (N : Nat) (f : XM) (this : Nat) (n : Nat) (r : (UInt64 × XM)) (hF : F_X6_mean N f this = some r) : x_Ct mX6_mean 5 112 0 0 [.ref this] (f, n) (xr_dm r n) := by
  unfold F_X6_mean at hF
  refine x_ct (by decide) rfl (Nat.le_of_ble_eq_true rfl) ?_
  show X mX6_mean 5 112 _ _ 0 0 0 [(0, .ref this)] [] (f, n)
  refine x_dconst0 dX6_mean_0 ?_
  refine x_dstore_n (i := 1) (lv' := [(1, .double FP.dconst0), (0, .ref this)]) dX6_mean_1 rfl (by decide) rfl ?_
  refine x_aload_n 1 dX6_mean_2 rfl rfl ?_
  obtain ⟨z1, hzz1, hF⟩ := x_bind hF
  obtain ⟨⟨fsz1, hbz1⟩, hzz1⟩ := x_cv_sp hzz1
  refine x_callv (As := []) (rest := []) 0 0 dX6_mean_3 mi_X6_finds ml_X6_113 rfl rfl (Nat.le_of_ble_eq_true rfl) ⟨by decide, by decide⟩ (by omega) (by omega) hbz1 rfl (c_X6_finds N _ _ _ _ hzz1) (x_K.some ?_) x_KX.none
  refine x_istore_n (i := 3) (lv' := [(3, .int z1.1), (1, .double FP.dconst0), (0, .ref this)]) dX6_mean_6 rfl (by decide) rfl ?_
  refine x_iconst 0 (by decide) dX6_mean_7 ?_
  refine x_istore (i := 4) (lv' := [(4, .int 0), (3, .int z1.1), (1, .double FP.dconst0), (0, .ref this)]) dX6_mean_8 (by decide) rfl ?_
  refine x_sub [3, 2, 1, 0] rfl ?_
  refine w_X6_mean_L10 N _ _ _ _ _ r _ _ _ hF (fun y1_8 y4_8 hF => ?_)
  refine x_iload_n 2 dX6_mean_39 rfl rfl ?_
  refine x_if_ne 47 dX6_mean_40 (by decide) hF (fun hF => ?_) (fun hF => ?_)
  · refine x_dload_n 1 dX6_mean_47 rfl rfl ?_
    refine x_iload_n 2 dX6_mean_48 rfl rfl ?_
    refine x_i2d dX6_mean_49 ?_
    refine x_ddiv dX6_mean_50 hF (fun v9 hF => ?_)
    exact x_dret dX6_mean_51 rfl (by cases hF; rfl)
  · refine x_dconst0 dX6_mean_43 ?_
    refine x_goto 51 dX6_mean_44 (by decide) ?_
    exact x_dret dX6_mean_51 rfl (by cases hF; rfl)
