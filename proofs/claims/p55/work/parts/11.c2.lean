def F_X4_levelsAbove_L14 (N : Nat) (f : XM) (c1 : Int32) (K : Int32 → Int32 → Int32 → Option Int32) : Nat → Int32 → Int32 → Int32 → Option Int32
  | 0, _, _, _ => none
  | k + 1, x2, x3, x4 =>
    if 32 ≤ x4 then
      K x2 x3 x4
    else
      if x2 ≤ 1 then
        K x2 x3 x4
      else
        (x_div ((x2 + c1) - 1) c1).bind fun v2 =>
        F_X4_levelsAbove_L14 N f c1 K k v2 (x3 + 1) (x4 + 1)
def F_X4_levelsAbove (N : Nat) (f : XM) (p0 : Int32) (p1 : Int32) : Option Int32 :=
  if 2 ≤ p1 then
    F_X4_levelsAbove_L14 N f p1 (fun y2_3 y3_3 y4_3 =>
    some y3_3) N p0 0 0
  else
    some 0
set_option maxRecDepth 20000 in
set_option maxHeartbeats 4000000 in
theorem w_X4_levelsAbove_L14 (N : Nat) (f : XM) (c1 : Int32) (K : Int32 → Int32 → Int32 → Option Int32) (n : Nat) (r : Int32) {rc rs : Nat} : ∀ (k : Nat) (x2 : Int32) (x3 : Int32) (x4 : Int32), F_X4_levelsAbove_L14 N f c1 K k x2 x3 x4 = some r → (∀ (x2 : Int32) (x3 : Int32) (x4 : Int32), K x2 x3 x4 = some r → X mX4_levelsAbove 0 0 (x_end (xr_ip r (f, n))) x_noRO rc rs 43 [(1, .int c1), (2, .int x2), (3, .int x3), (4, .int x4)] [] (f, n)) → X mX4_levelsAbove 0 0 (x_end (xr_ip r (f, n))) x_noRO rc rs 14 [(1, .int c1), (2, .int x2), (3, .int x3), (4, .int x4)] [] (f, n) := by
  intro k
  induction k with
  | zero =>
    intro x2 x3 x4 hF
    exact absurd hF (by intro h9; cases h9)
  | succ k ih =>
    intro x2 x3 x4 hF hK
    have ih := fun x2 x3 x4 hF => ih x2 x3 x4 hF hK
    rw [F_X4_levelsAbove_L14] at hF
    refine x_iload 3 dX4_levelsAbove_14 rfl ?_
    refine x_bipush 32 (by decide) dX4_levelsAbove_16 ?_
    refine x_icmp_ge 43 dX4_levelsAbove_18 (by decide) hF (fun hF => ?_) (fun hF => ?_)
    · refine x_sub [0, 1, 2, 3] rfl ?_
      exact hK _ _ _ hF
    · refine x_iload_n 1 dX4_levelsAbove_21 rfl rfl ?_
      refine x_iconst 1 (by decide) dX4_levelsAbove_22 ?_
      refine x_icmp_le 43 dX4_levelsAbove_23 (by decide) hF (fun hF => ?_) (fun hF => ?_)
      · refine x_sub [0, 1, 2, 3] rfl ?_
        exact hK _ _ _ hF
      · refine x_iload_n 1 dX4_levelsAbove_26 rfl rfl ?_
        refine x_iload_n 0 dX4_levelsAbove_27 rfl rfl ?_
        refine x_iadd dX4_levelsAbove_28 ?_
        refine x_iconst 1 (by decide) dX4_levelsAbove_29 ?_
        refine x_isub dX4_levelsAbove_30 ?_
        refine x_iload_n 0 dX4_levelsAbove_31 rfl rfl ?_
        refine x_idiv dX4_levelsAbove_32 hF (fun v2 hF => ?_)
        refine x_istore_n (i := 2) (lv' := [(2, .int v2), (1, .int c1), (3, .int x3), (4, .int x4)]) dX4_levelsAbove_33 rfl (by decide) rfl ?_
        refine x_iinc (x3 + 1) (lv' := [(3, .int (x3 + 1)), (2, .int v2), (1, .int c1), (4, .int x4)]) dX4_levelsAbove_34 2 rfl (by rfl) (by decide) rfl ?_
        refine x_iinc (x4 + 1) (lv' := [(4, .int (x4 + 1)), (3, .int (x3 + 1)), (2, .int v2), (1, .int c1)]) dX4_levelsAbove_37 3 rfl (by rfl) (by decide) rfl ?_
        refine x_goto 14 dX4_levelsAbove_40 (by decide) ?_
        refine x_sub [3, 2, 1, 0] rfl ?_
        exact ih _ _ _ hF
set_option maxRecDepth 20000 in
set_option maxHeartbeats 4000000 in
theorem c_X4_levelsAbove (N : Nat) (f : XM) (p0 : Int32) (p1 : Int32) (n : Nat) (r : Int32) (hF : F_X4_levelsAbove N f p0 p1 = some r) : x_Ct mX4_levelsAbove 0 0 0 0 [.int p0, .int p1] (f, n) (xr_ip r (f, n)) := by
  unfold F_X4_levelsAbove at hF
  refine x_ct (by decide) rfl (Nat.le_of_ble_eq_true rfl) ?_
  show X mX4_levelsAbove 0 0 _ _ 0 0 0 [(0, .int p0), (1, .int p1)] [] (f, n)
  refine x_iload_n 1 dX4_levelsAbove_0 rfl rfl ?_
  refine x_iconst 2 (by decide) dX4_levelsAbove_1 ?_
  refine x_icmp_ge 7 dX4_levelsAbove_2 (by decide) hF (fun hF => ?_) (fun hF => ?_)
  · refine x_iload_n 0 dX4_levelsAbove_7 rfl rfl ?_
    refine x_istore_n (i := 2) (lv' := [(2, .int p0), (0, .int p0), (1, .int p1)]) dX4_levelsAbove_8 rfl (by decide) rfl ?_
    refine x_iconst 0 (by decide) dX4_levelsAbove_9 ?_
    refine x_istore_n (i := 3) (lv' := [(3, .int 0), (2, .int p0), (0, .int p0), (1, .int p1)]) dX4_levelsAbove_10 rfl (by decide) rfl ?_
    refine x_iconst 0 (by decide) dX4_levelsAbove_11 ?_
    refine x_istore (i := 4) (lv' := [(4, .int 0), (3, .int 0), (2, .int p0), (0, .int p0), (1, .int p1)]) dX4_levelsAbove_12 (by decide) rfl ?_
    refine x_sub [4, 2, 1, 0] rfl ?_
    refine w_X4_levelsAbove_L14 N _ _ _ _ r _ _ _ _ hF (fun y2_3 y3_3 y4_3 hF => ?_)
    refine x_iload_n 2 dX4_levelsAbove_43 rfl rfl ?_
    exact x_iret dX4_levelsAbove_44 rfl (by cases hF; rfl)
  · refine x_iconst 0 (by decide) dX4_levelsAbove_5 ?_
    exact x_iret dX4_levelsAbove_6 rfl (by cases hF; rfl)
def F_X4_levelCount (N : Nat) (f : XM) (this : Nat) : Option Int32 :=
  (x_geti f 4 this 3).bind fun v1 =>
  (x_geti f 4 this 5).bind fun v2 =>
  (F_X4_levelsAbove N f v1 v2).bind fun z3 =>
  some z3
set_option maxRecDepth 20000 in
set_option maxHeartbeats 4000000 in
theorem c_X4_levelCount (N : Nat) (f : XM) (this : Nat) (n : Nat) (r : Int32) (hF : F_X4_levelCount N f this = some r) : x_Ct mX4_levelCount 1 24 0 0 [.ref this] (f, n) (xr_ip r (f, n)) := by
  unfold F_X4_levelCount at hF
  refine x_ct (by decide) rfl (Nat.le_of_ble_eq_true rfl) ?_
  show X mX4_levelCount 1 24 _ _ 0 0 0 [(0, .ref this)] [] (f, n)
  refine x_aload_n 0 dX4_levelCount_0 rfl rfl ?_
  refine x_geti_r dX4_levelCount_1 fl_X4_39 hF (fun v1 hF => ?_)
  refine x_aload_n 0 dX4_levelCount_4 rfl rfl ?_
  refine x_geti_r dX4_levelCount_5 fl_X4_45 hF (fun v2 hF => ?_)
  obtain ⟨z3, hzz3, hF⟩ := x_bind hF
  refine x_calls (As := [.int v1, .int v2]) (rest := []) 0 0 dX4_levelCount_8 mi_X4_levelsAbove rfl ml_X4_111 rfl rfl (Nat.le_of_ble_eq_true rfl) ⟨by decide, by decide⟩ (by omega) (by omega) (c_X4_levelsAbove N _ _ _ _ _ hzz3) (x_K.some ?_) x_KX.none
  exact x_iret dX4_levelCount_11 rfl (by cases hF; rfl)
def F_X4_roundedUp (N : Nat) (f : XM) (p0 : Int32) (p1 : Int32) : Option Int32 :=
  if 1 ≤ p1 then
    (x_div ((p0 + p1) - 1) p1).bind fun v1 =>
    some v1
  else
    some 0
set_option maxRecDepth 20000 in
set_option maxHeartbeats 4000000 in
theorem c_X4_roundedUp (N : Nat) (f : XM) (p0 : Int32) (p1 : Int32) (n : Nat) (r : Int32) (hF : F_X4_roundedUp N f p0 p1 = some r) : x_Ct mX4_roundedUp 0 0 0 0 [.int p0, .int p1] (f, n) (xr_ip r (f, n)) := by
  unfold F_X4_roundedUp at hF
  refine x_ct (by decide) rfl (Nat.le_of_ble_eq_true rfl) ?_
  show X mX4_roundedUp 0 0 _ _ 0 0 0 [(0, .int p0), (1, .int p1)] [] (f, n)
  refine x_iload_n 1 dX4_roundedUp_0 rfl rfl ?_
  refine x_iconst 1 (by decide) dX4_roundedUp_1 ?_
  refine x_icmp_ge 9 dX4_roundedUp_2 (by decide) hF (fun hF => ?_) (fun hF => ?_)
  · refine x_iload_n 0 dX4_roundedUp_9 rfl rfl ?_
    refine x_iload_n 1 dX4_roundedUp_10 rfl rfl ?_
    refine x_iadd dX4_roundedUp_11 ?_
    refine x_iconst 1 (by decide) dX4_roundedUp_12 ?_
    refine x_isub dX4_roundedUp_13 ?_
    refine x_iload_n 1 dX4_roundedUp_14 rfl rfl ?_
    refine x_idiv dX4_roundedUp_15 hF (fun v1 hF => ?_)
    exact x_iret dX4_roundedUp_16 rfl (by cases hF; rfl)
  · refine x_iconst 0 (by decide) dX4_roundedUp_5 ?_
    refine x_goto 16 dX4_roundedUp_6 (by decide) ?_
    exact x_iret dX4_roundedUp_16 rfl (by cases hF; rfl)
def F_X4_nodeCount_L7 (N : Nat) (f : XM) (c0 : Nat) (c1 : Int32) (K : Int32 → Int32 → Option Int32) : Nat → Int32 → Int32 → Option Int32
  | 0, _, _ => none
  | k + 1, x2, x3 =>
    if c1 < x3 then
      K x2 x3
    else
      if 32 ≤ x3 then
        K x2 x3
      else
        (x_geti f 4 c0 5).bind fun v3 =>
        (F_X4_roundedUp N f x2 v3).bind fun z4 =>
        F_X4_nodeCount_L7 N f c0 c1 K k z4 (x3 + 1)
def F_X4_nodeCount (N : Nat) (f : XM) (this : Nat) (p0 : Int32) : Option Int32 :=
  (x_geti f 4 this 3).bind fun v1 =>
  F_X4_nodeCount_L7 N f this p0 (fun y2_5 y3_5 =>
  some y2_5) N v1 0
set_option maxRecDepth 20000 in
set_option maxHeartbeats 4000000 in
theorem w_X4_nodeCount_L7 (N : Nat) (f : XM) (c0 : Nat) (c1 : Int32) (K : Int32 → Int32 → Option Int32) (n : Nat) (r : Int32) {rc rs : Nat} : ∀ (k : Nat) (x2 : Int32) (x3 : Int32), F_X4_nodeCount_L7 N f c0 c1 K k x2 x3 = some r → (∀ (x2 : Int32) (x3 : Int32), K x2 x3 = some r → X mX4_nodeCount 1 21 (x_end (xr_ip r (f, n))) x_noRO rc rs 33 [(0, .ref c0), (1, .int c1), (2, .int x2), (3, .int x3)] [] (f, n)) → X mX4_nodeCount 1 21 (x_end (xr_ip r (f, n))) x_noRO rc rs 7 [(0, .ref c0), (1, .int c1), (2, .int x2), (3, .int x3)] [] (f, n) := by
  intro k
  induction k with
  | zero =>
    intro x2 x3 hF
    exact absurd hF (by intro h9; cases h9)
  | succ k ih =>
    intro x2 x3 hF hK
    have ih := fun x2 x3 hF => ih x2 x3 hF hK
    rw [F_X4_nodeCount_L7] at hF
    refine x_iload_n 3 dX4_nodeCount_7 rfl rfl ?_
    refine x_iload_n 1 dX4_nodeCount_8 rfl rfl ?_
    refine x_icmp_gt 33 dX4_nodeCount_9 (by decide) hF (fun hF => ?_) (fun hF => ?_)
    · refine x_sub [0, 1, 2, 3] rfl ?_
      exact hK _ _ hF
    · refine x_iload_n 3 dX4_nodeCount_12 rfl rfl ?_
      refine x_bipush 32 (by decide) dX4_nodeCount_13 ?_
      refine x_icmp_ge 33 dX4_nodeCount_15 (by decide) hF (fun hF => ?_) (fun hF => ?_)
      · refine x_sub [0, 1, 2, 3] rfl ?_
        exact hK _ _ hF
      · refine x_iload_n 2 dX4_nodeCount_18 rfl rfl ?_
        refine x_aload_n 0 dX4_nodeCount_19 rfl rfl ?_
        refine x_geti_r dX4_nodeCount_20 fl_X4_45 hF (fun v3 hF => ?_)
        obtain ⟨z4, hzz4, hF⟩ := x_bind hF
        refine x_calls (As := [.int x2, .int v3]) (rest := []) (rc + 0) (rs + 0) dX4_nodeCount_23 mi_X4_roundedUp rfl ml_X4_67 rfl rfl (Nat.le_of_ble_eq_true rfl) ⟨by decide, by decide⟩ (by omega) (by omega) (c_X4_roundedUp N _ _ _ _ _ hzz4) (x_K.some ?_) x_KX.none
        refine x_istore_n (i := 2) (lv' := [(2, .int z4), (0, .ref c0), (1, .int c1), (3, .int x3)]) dX4_nodeCount_26 rfl (by decide) rfl ?_
        refine x_iinc (x3 + 1) (lv' := [(3, .int (x3 + 1)), (2, .int z4), (0, .ref c0), (1, .int c1)]) dX4_nodeCount_27 3 rfl (by rfl) (by decide) rfl ?_
        refine x_goto 7 dX4_nodeCount_30 (by decide) ?_
        refine x_sub [2, 3, 1, 0] rfl ?_
        exact ih _ _ hF
set_option maxRecDepth 20000 in
set_option maxHeartbeats 4000000 in
theorem c_X4_nodeCount (N : Nat) (f : XM) (this : Nat) (p0 : Int32) (n : Nat) (r : Int32) (hF : F_X4_nodeCount N f this p0 = some r) : x_Ct mX4_nodeCount 1 21 0 0 [.ref this, .int p0] (f, n) (xr_ip r (f, n)) := by
  unfold F_X4_nodeCount at hF
  refine x_ct (by decide) rfl (Nat.le_of_ble_eq_true rfl) ?_
  show X mX4_nodeCount 1 21 _ _ 0 0 0 [(0, .ref this), (1, .int p0)] [] (f, n)
  refine x_aload_n 0 dX4_nodeCount_0 rfl rfl ?_
  refine x_geti_r dX4_nodeCount_1 fl_X4_39 hF (fun v1 hF => ?_)
  refine x_istore_n (i := 2) (lv' := [(2, .int v1), (0, .ref this), (1, .int p0)]) dX4_nodeCount_4 rfl (by decide) rfl ?_
  refine x_iconst 0 (by decide) dX4_nodeCount_5 ?_
  refine x_istore_n (i := 3) (lv' := [(3, .int 0), (2, .int v1), (0, .ref this), (1, .int p0)]) dX4_nodeCount_6 rfl (by decide) rfl ?_
  refine x_sub [2, 3, 1, 0] rfl ?_
  refine w_X4_nodeCount_L7 N _ _ _ _ _ r _ _ _ hF (fun y2_5 y3_5 hF => ?_)
  refine x_iload_n 2 dX4_nodeCount_33 rfl rfl ?_
  exact x_iret dX4_nodeCount_34 rfl (by cases hF; rfl)
def F_X4_boundOn (N : Nat) (f : XM) (this : Nat) (p0 : Int32) : Option Int32 :=
  if p0 < 0 then
    some 10000
  else
    (x_geti f 4 this 3).bind fun v1 =>
    if v1 ≤ p0 then
      some 10000
    else
      (x_getr f 4 this 2).bind fun v2 =>
      Option.bind v2 fun a3 =>
      (x_alen f a3).bind fun v4 =>
      if v4 ≤ p0 then
        some 10000
      else
        (x_getr f 4 this 2).bind fun v5 =>
        Option.bind v5 fun a6 =>
        (x_ald f a6 p0).bind fun v7 =>
        some v7
set_option maxRecDepth 20000 in
set_option maxHeartbeats 4000000 in
theorem c_X4_boundOn (N : Nat) (f : XM) (this : Nat) (p0 : Int32) (n : Nat) (r : Int32) (hF : F_X4_boundOn N f this p0 = some r) : x_Ct mX4_boundOn 0 0 0 0 [.ref this, .int p0] (f, n) (xr_ip r (f, n)) := by
  unfold F_X4_boundOn at hF
  refine x_ct (by decide) rfl (Nat.le_of_ble_eq_true rfl) ?_
  show X mX4_boundOn 0 0 _ _ 0 0 0 [(0, .ref this), (1, .int p0)] [] (f, n)
  refine x_iload_n 1 dX4_boundOn_0 rfl rfl ?_
  refine x_if_lt 30 dX4_boundOn_1 (by decide) hF (fun hF => ?_) (fun hF => ?_)
  · refine x_sipush 10000 (by decide) dX4_boundOn_30 ?_
    exact x_iret dX4_boundOn_33 rfl (by cases hF; rfl)
  · refine x_iload_n 1 dX4_boundOn_4 rfl rfl ?_
    refine x_aload_n 0 dX4_boundOn_5 rfl rfl ?_
    refine x_geti_r dX4_boundOn_6 fl_X4_39 hF (fun v1 hF => ?_)
    refine x_icmp_ge 30 dX4_boundOn_9 (by decide) hF (fun hF => ?_) (fun hF => ?_)
    · refine x_sipush 10000 (by decide) dX4_boundOn_30 ?_
      exact x_iret dX4_boundOn_33 rfl (by cases hF; rfl)
    · refine x_iload_n 1 dX4_boundOn_12 rfl rfl ?_
      refine x_aload_n 0 dX4_boundOn_13 rfl rfl ?_
      refine x_getr_r dX4_boundOn_14 fl_X4_24 hF (fun v2 hF => ?_)
      refine x_nn hF (fun a3 ha3 hF => ?_)
      rw [ha3]
      refine x_alen_r dX4_boundOn_17 hF (fun v4 hF => ?_)
      refine x_icmp_ge 30 dX4_boundOn_18 (by decide) hF (fun hF => ?_) (fun hF => ?_)
      · refine x_sipush 10000 (by decide) dX4_boundOn_30 ?_
        exact x_iret dX4_boundOn_33 rfl (by cases hF; rfl)
      · refine x_aload_n 0 dX4_boundOn_21 rfl rfl ?_
        refine x_getr_r dX4_boundOn_22 fl_X4_24 hF (fun v5 hF => ?_)
        refine x_iload_n 1 dX4_boundOn_25 rfl rfl ?_
        refine x_nn hF (fun a6 ha6 hF => ?_)
        rw [ha6]
        refine x_ald_r dX4_boundOn_26 hF (fun v7 hF => ?_)
        refine x_goto 33 dX4_boundOn_27 (by decide) ?_
        exact x_iret dX4_boundOn_33 rfl (by cases hF; rfl)
def F_X4_nodeBound_L5 (N : Nat) (f : XM) (c0 : Nat) (c1 : Int32) (K : Int32 → Int32 → Option Int32) : Nat → Int32 → Int32 → Option Int32
  | 0, _, _ => none
  | k + 1, x3, x4 =>
    if c1 < x4 then
      K x3 x4
    else
      if 32 ≤ x4 then
        K x3 x4
      else
        (x_geti f 4 c0 3).bind fun v2 =>
        if v2 ≤ x3 then
          K x3 x4
        else
          (x_geti f 4 c0 5).bind fun v3 =>
          F_X4_nodeBound_L5 N f c0 c1 K k (x3 * v3) (x4 + 1)
def F_X4_nodeBound (N : Nat) (f : XM) (this : Nat) (p0 : Int32) (p1 : Int32) : Option Int32 :=
  F_X4_nodeBound_L5 N f this p0 (fun y3_4 y4_4 =>
  (x_cv f 4 this (F_X4_boundOn N f this y3_4)).bind fun z5 =>
  some z5) N p1 0
set_option maxRecDepth 20000 in
set_option maxHeartbeats 4000000 in
theorem w_X4_nodeBound_L5 (N : Nat) (f : XM) (c0 : Nat) (c1 : Int32) (K : Int32 → Int32 → Option Int32) (n : Nat) (r : Int32) {rc rs : Nat} : ∀ (k : Nat) (x3 : Int32) (x4 : Int32), F_X4_nodeBound_L5 N f c0 c1 K k x3 x4 = some r → (∀ (x3 : Int32) (x4 : Int32), K x3 x4 = some r → X mX4_nodeBound 1 21 (x_end (xr_ip r (f, n))) x_noRO rc rs 39 [(0, .ref c0), (1, .int c1), (3, .int x3), (4, .int x4)] [] (f, n)) → X mX4_nodeBound 1 21 (x_end (xr_ip r (f, n))) x_noRO rc rs 5 [(0, .ref c0), (1, .int c1), (3, .int x3), (4, .int x4)] [] (f, n) := by
  intro k
  induction k with
  | zero =>
    intro x3 x4 hF
    exact absurd hF (by intro h9; cases h9)
  | succ k ih =>
    intro x3 x4 hF hK
    have ih := fun x3 x4 hF => ih x3 x4 hF hK
    rw [F_X4_nodeBound_L5] at hF
    refine x_iload 3 dX4_nodeBound_5 rfl ?_
    refine x_iload_n 1 dX4_nodeBound_7 rfl rfl ?_
    refine x_icmp_gt 39 dX4_nodeBound_8 (by decide) hF (fun hF => ?_) (fun hF => ?_)
    · refine x_sub [0, 1, 2, 3] rfl ?_
      exact hK _ _ hF
    · refine x_iload 3 dX4_nodeBound_11 rfl ?_
      refine x_bipush 32 (by decide) dX4_nodeBound_13 ?_
      refine x_icmp_ge 39 dX4_nodeBound_15 (by decide) hF (fun hF => ?_) (fun hF => ?_)
      · refine x_sub [0, 1, 2, 3] rfl ?_
        exact hK _ _ hF
      · refine x_iload_n 2 dX4_nodeBound_18 rfl rfl ?_
        refine x_aload_n 0 dX4_nodeBound_19 rfl rfl ?_
        refine x_geti_r dX4_nodeBound_20 fl_X4_39 hF (fun v2 hF => ?_)
        refine x_icmp_ge 39 dX4_nodeBound_23 (by decide) hF (fun hF => ?_) (fun hF => ?_)
        · refine x_sub [0, 1, 2, 3] rfl ?_
          exact hK _ _ hF
        · refine x_iload_n 2 dX4_nodeBound_26 rfl rfl ?_
          refine x_aload_n 0 dX4_nodeBound_27 rfl rfl ?_
          refine x_geti_r dX4_nodeBound_28 fl_X4_45 hF (fun v3 hF => ?_)
          refine x_imul dX4_nodeBound_31 ?_
          refine x_istore_n (i := 3) (lv' := [(3, .int (x3 * v3)), (0, .ref c0), (1, .int c1), (4, .int x4)]) dX4_nodeBound_32 rfl (by decide) rfl ?_
          refine x_iinc (x4 + 1) (lv' := [(4, .int (x4 + 1)), (3, .int (x3 * v3)), (0, .ref c0), (1, .int c1)]) dX4_nodeBound_33 3 rfl (by rfl) (by decide) rfl ?_
          refine x_goto 5 dX4_nodeBound_36 (by decide) ?_
          refine x_sub [2, 3, 1, 0] rfl ?_
          exact ih _ _ hF
set_option maxRecDepth 20000 in
set_option maxHeartbeats 4000000 in
theorem c_X4_nodeBound (N : Nat) (f : XM) (this : Nat) (p0 : Int32) (p1 : Int32) (n : Nat) (r : Int32) (hF : F_X4_nodeBound N f this p0 p1 = some r) : x_Ct mX4_nodeBound 1 21 0 0 [.ref this, .int p0, .int p1] (f, n) (xr_ip r (f, n)) := by
  unfold F_X4_nodeBound at hF
  refine x_ct (by decide) rfl (Nat.le_of_ble_eq_true rfl) ?_
  show X mX4_nodeBound 1 21 _ _ 0 0 0 [(0, .ref this), (1, .int p0), (2, .int p1)] [] (f, n)
  refine x_iload_n 2 dX4_nodeBound_0 rfl rfl ?_
  refine x_istore_n (i := 3) (lv' := [(3, .int p1), (0, .ref this), (1, .int p0), (2, .int p1)]) dX4_nodeBound_1 rfl (by decide) rfl ?_
  refine x_iconst 0 (by decide) dX4_nodeBound_2 ?_
  refine x_istore (i := 4) (lv' := [(4, .int 0), (3, .int p1), (0, .ref this), (1, .int p0), (2, .int p1)]) dX4_nodeBound_3 (by decide) rfl ?_
  refine x_sub [2, 3, 1, 0] rfl ?_
  refine w_X4_nodeBound_L5 N _ _ _ _ _ r _ _ _ hF (fun y3_4 y4_4 hF => ?_)
  refine x_aload_n 0 dX4_nodeBound_39 rfl rfl ?_
  refine x_iload_n 2 dX4_nodeBound_40 rfl rfl ?_
  obtain ⟨z5, hzz5, hF⟩ := x_bind hF
  obtain ⟨⟨fsz5, hbz5⟩, hzz5⟩ := x_cv_sp hzz5
  refine x_callv (As := [.int y3_4]) (rest := []) 0 0 dX4_nodeBound_41 mi_X4_boundOn ml_X4_55 rfl rfl (Nat.le_of_ble_eq_true rfl) ⟨by decide, by decide⟩ (by omega) (by omega) hbz5 rfl (c_X4_boundOn N _ _ _ _ _ hzz5) (x_K.some ?_) x_KX.none
  exact x_iret dX4_nodeBound_44 rfl (by cases hF; rfl)
def F_X3_closedOn (N : Nat) (f : XM) (this : Nat) (p0 : Int32) : Option (Option Nat) :=
  if p0 < 0 then
    some none
  else
    (x_getr f 3 this 1).bind fun v1 =>
    Option.bind v1 fun a2 =>
    (x_alen f a2).bind fun v3 =>
    if p0 < v3 then
      (x_getr f 3 this 1).bind fun v4 =>
      Option.bind v4 fun a5 =>
      (x_aldr f 2 a5 p0).bind fun v6 =>
      some v6
    else
      some none
set_option maxRecDepth 20000 in
set_option maxHeartbeats 4000000 in
theorem c_X3_closedOn (N : Nat) (f : XM) (this : Nat) (p0 : Int32) (n : Nat) (r : (Option Nat)) (hF : F_X3_closedOn N f this p0 = some r) : x_Ct mX3_closedOn 0 0 0 0 [.ref this, .int p0] (f, n) (xr_qp r (f, n)) := by
  unfold F_X3_closedOn at hF
  refine x_ct (by decide) rfl (Nat.le_of_ble_eq_true rfl) ?_
  show X mX3_closedOn 0 0 _ _ 0 0 0 [(0, .ref this), (1, .int p0)] [] (f, n)
  refine x_iload_n 1 dX3_closedOn_0 rfl rfl ?_
  refine x_if_lt 13 dX3_closedOn_1 (by decide) hF (fun hF => ?_) (fun hF => ?_)
  · refine x_null dX3_closedOn_13 ?_
    refine x_goto 23 dX3_closedOn_14 (by decide) ?_
    exact x_aret (r := none) dX3_closedOn_23 rfl (by cases hF; rfl)
  · refine x_iload_n 1 dX3_closedOn_4 rfl rfl ?_
    refine x_aload_n 0 dX3_closedOn_5 rfl rfl ?_
    refine x_getr_r dX3_closedOn_6 fl_X3_20 hF (fun v1 hF => ?_)
    refine x_nn hF (fun a2 ha2 hF => ?_)
    rw [ha2]
    refine x_alen_r dX3_closedOn_9 hF (fun v3 hF => ?_)
    refine x_icmp_lt 17 dX3_closedOn_10 (by decide) hF (fun hF => ?_) (fun hF => ?_)
    · refine x_aload_n 0 dX3_closedOn_17 rfl rfl ?_
      refine x_getr_r dX3_closedOn_18 fl_X3_20 hF (fun v4 hF => ?_)
      refine x_iload_n 1 dX3_closedOn_21 rfl rfl ?_
      refine x_nn hF (fun a5 ha5 hF => ?_)
      rw [ha5]
      refine x_aldr_r 2 dX3_closedOn_22 hF (fun v6 hF => ?_)
      exact x_aret (r := v6) dX3_closedOn_23 rfl (by cases hF; rfl)
    · refine x_null dX3_closedOn_13 ?_
      refine x_goto 23 dX3_closedOn_14 (by decide) ?_
      exact x_aret (r := none) dX3_closedOn_23 rfl (by cases hF; rfl)
def F_X4_copyFrom (N : Nat) (f : XM) (this : Nat) (p0 : Nat) : Option XM :=
  (x_getr f 4 this 0).bind fun v1 =>
  (x_getr f 4 p0 0).bind fun v2 =>
  Option.bind v2 fun a3 =>
  Option.bind v1 fun a4 =>
  (x_cv f 2 a4 (F_X2_copyFrom N f a4 a3)).bind fun z5 =>
  (x_getr z5 4 p0 1).bind fun v6 =>
  (x_getr z5 4 this 1).bind fun v7 =>
  (x_getr z5 4 p0 0).bind fun v8 =>
  Option.bind v8 fun a9 =>
  (x_geti z5 2 a9 2).bind fun v10 =>
  Option.bind v7 fun a11 =>
  Option.bind v6 fun a12 =>
  (F_X5_copyNumbers N z5 a12 a11 v10).bind fun z13 =>
  (x_getr z13.2 4 p0 2).bind fun v14 =>
  (x_getr z13.2 4 this 2).bind fun v15 =>
  (x_geti z13.2 4 p0 3).bind fun v16 =>
  Option.bind v15 fun a17 =>
  Option.bind v14 fun a18 =>
  (F_X5_copyNumbers N z13.2 a18 a17 v16).bind fun z19 =>
  (x_puti z19.2 4 this 3 z19.1).bind fun f20 =>
  (x_geti f20 4 p0 4).bind fun v21 =>
  (x_puti f20 4 this 4 v21).bind fun f22 =>
  (x_geti f22 4 p0 5).bind fun v23 =>
  (x_puti f22 4 this 5 v23).bind fun f24 =>
  some f24
set_option maxRecDepth 20000 in
set_option maxHeartbeats 4000000 in
theorem c_X4_copyFrom (N : Nat) (f : XM) (this : Nat) (p0 : Nat) (n : Nat) (r : XM) (hF : F_X4_copyFrom N f this p0 = some r) : x_Ct mX4_copyFrom 3 90 0 0 [.ref this, .ref p0] (f, n) (xr_vm r n) := by
  unfold F_X4_copyFrom at hF
  refine x_ct (by decide) rfl (Nat.le_of_ble_eq_true rfl) ?_
  show X mX4_copyFrom 3 90 _ _ 0 0 0 [(0, .ref this), (1, .ref p0)] [] (f, n)
  refine x_aload_n 0 dX4_copyFrom_0 rfl rfl ?_
  refine x_getr_r dX4_copyFrom_1 fl_X4_14 hF (fun v1 hF => ?_)
  refine x_aload_n 1 dX4_copyFrom_4 rfl rfl ?_
  refine x_getr_r dX4_copyFrom_5 fl_X4_14 hF (fun v2 hF => ?_)
  refine x_nn hF (fun a3 ha3 hF => ?_)
  rw [ha3]
  refine x_nn hF (fun a4 ha4 hF => ?_)
  rw [ha4]
  obtain ⟨z5, hzz5, hF⟩ := x_bind hF
  obtain ⟨⟨fsz5, hbz5⟩, hzz5⟩ := x_cv_sp hzz5
  refine x_callv (As := [.ref a3]) (rest := []) 0 0 dX4_copyFrom_8 mi_X2_copyFrom ml_X4_27 rfl rfl (Nat.le_of_ble_eq_true rfl) ⟨by decide, by decide⟩ (by omega) (by omega) hbz5 rfl (c_X2_copyFrom N _ _ _ _ _ hzz5) (x_K.none ?_) x_KX.none
  refine x_aload_n 1 dX4_copyFrom_11 rfl rfl ?_
  refine x_getr_r dX4_copyFrom_12 fl_X4_20 hF (fun v6 hF => ?_)
  refine x_aload_n 0 dX4_copyFrom_15 rfl rfl ?_
  refine x_getr_r dX4_copyFrom_16 fl_X4_20 hF (fun v7 hF => ?_)
  refine x_aload_n 1 dX4_copyFrom_19 rfl rfl ?_
  refine x_getr_r dX4_copyFrom_20 fl_X4_14 hF (fun v8 hF => ?_)
  refine x_nn hF (fun a9 ha9 hF => ?_)
  rw [ha9]
  refine x_geti_r dX4_copyFrom_23 fl_X4_31 hF (fun v10 hF => ?_)
  refine x_nn hF (fun a11 ha11 hF => ?_)
  rw [ha11]
  refine x_nn hF (fun a12 ha12 hF => ?_)
  rw [ha12]
  obtain ⟨z13, hzz13, hF⟩ := x_bind hF
  refine x_callsN (As := [.ref a12, .ref a11, .int v10]) (rest := []) 0 0 dX4_copyFrom_26 mi_X5_copyNumbers rfl ml_X4_35 rfl rfl (Nat.le_of_ble_eq_true rfl) ⟨by decide, by decide⟩ (by omega) (by omega) (c_X5_copyNumbers N _ _ _ _ _ _ hzz13) ?_
  refine x_toX (st' := [.int z13.1]) rfl ?_
  refine x_popi dX4_copyFrom_29 ?_
  refine x_aload_n 0 dX4_copyFrom_30 rfl rfl ?_
  refine x_aload_n 1 dX4_copyFrom_31 rfl rfl ?_
  refine x_getr_r dX4_copyFrom_32 fl_X4_24 hF (fun v14 hF => ?_)
  refine x_aload_n 0 dX4_copyFrom_35 rfl rfl ?_
  refine x_getr_r dX4_copyFrom_36 fl_X4_24 hF (fun v15 hF => ?_)
  refine x_aload_n 1 dX4_copyFrom_39 rfl rfl ?_
  refine x_geti_r dX4_copyFrom_40 fl_X4_39 hF (fun v16 hF => ?_)
  refine x_nn hF (fun a17 ha17 hF => ?_)
  rw [ha17]
  refine x_nn hF (fun a18 ha18 hF => ?_)
  rw [ha18]
  obtain ⟨z19, hzz19, hF⟩ := x_bind hF
  refine x_callsN (As := [.ref a18, .ref a17, .int v16]) (rest := [.ref this]) 0 0 dX4_copyFrom_43 mi_X5_copyNumbers rfl ml_X4_35 rfl rfl (Nat.le_of_ble_eq_true rfl) ⟨by decide, by decide⟩ (by omega) (by omega) (c_X5_copyNumbers N _ _ _ _ _ _ hzz19) ?_
  refine x_toX (st' := [.int z19.1, .ref this]) rfl ?_
  refine x_puti_r dX4_copyFrom_46 fl_X4_39 (fun h9 => by cases h9) hF (fun f20 hF => ?_)
  refine x_aload_n 0 dX4_copyFrom_49 rfl rfl ?_
  refine x_aload_n 1 dX4_copyFrom_50 rfl rfl ?_
  refine x_geti_r dX4_copyFrom_51 fl_X4_42 hF (fun v21 hF => ?_)
  refine x_puti_r dX4_copyFrom_54 fl_X4_42 (fun h9 => by cases h9) hF (fun f22 hF => ?_)
  refine x_aload_n 0 dX4_copyFrom_57 rfl rfl ?_
  refine x_aload_n 1 dX4_copyFrom_58 rfl rfl ?_
  refine x_geti_r dX4_copyFrom_59 fl_X4_45 hF (fun v23 hF => ?_)
  refine x_puti_r dX4_copyFrom_62 fl_X4_45 (fun h9 => by cases h9) hF (fun f24 hF => ?_)
  exact x_vret dX4_copyFrom_65 rfl (by cases hF; rfl)
def F_X3_copyFrom_L13 (N : Nat) (c0 : Nat) (c1 : Nat) (K : Int32 → XM → Option XM) : Nat → Int32 → XM → Option XM
  | 0, _, _ => none
  | k + 1, x2, f =>
    (x_geti f 3 c1 2).bind fun v7 =>
    if v7 ≤ x2 then
      K x2 f
    else
      (x_cv f 3 c0 (F_X3_closedOn N f c0 x2)).bind fun z8 =>
      (x_cv f 3 c1 (F_X3_closedOn N f c1 x2)).bind fun z9 =>
      Option.elim z8
        (F_X3_copyFrom_L13 N c0 c1 K k (x2 + 1) f)
        (fun a10 => Option.elim z9
          (F_X3_copyFrom_L13 N c0 c1 K k (x2 + 1) f)
          (fun a11 => (x_cv f 2 a10 (F_X2_copyFrom N f a10 a11)).bind fun z12 =>
          F_X3_copyFrom_L13 N c0 c1 K k (x2 + 1) z12))
def F_X3_copyFrom (N : Nat) (f : XM) (this : Nat) (p0 : Nat) : Option XM :=
  (x_getr f 3 this 0).bind fun v1 =>
  (x_getr f 3 p0 0).bind fun v2 =>
  Option.bind v2 fun a3 =>
  Option.bind v1 fun a4 =>
  (x_cv f 2 a4 (F_X2_copyFrom N f a4 a3)).bind fun z5 =>
  F_X3_copyFrom_L13 N this p0 (fun y2_13 g13 =>
  (x_geti g13 3 p0 2).bind fun v14 =>
  (x_puti g13 3 this 2 v14).bind fun f15 =>
  (x_getr f15 3 this 3).bind fun v16 =>
  (x_getr f15 3 p0 3).bind fun v17 =>
  Option.bind v17 fun a18 =>
  Option.bind v16 fun a19 =>
  (x_cv f15 4 a19 (F_X4_copyFrom N f15 a19 a18)).bind fun z20 =>
  (x_geti z20 3 p0 4).bind fun v21 =>
  (x_puti z20 3 this 4 v21).bind fun f22 =>
  (x_geti f22 3 p0 5).bind fun v23 =>
  (x_puti f22 3 this 5 v23).bind fun f24 =>
  (x_geti f24 3 p0 6).bind fun v25 =>
  (x_puti f24 3 this 6 v25).bind fun f26 =>
  (x_geti f26 3 p0 7).bind fun v27 =>
  (x_puti f26 3 this 7 v27).bind fun f28 =>
  some f28) N 0 z5
set_option maxRecDepth 20000 in
set_option maxHeartbeats 4000000 in
theorem w_X3_copyFrom_L13 (N : Nat) (c0 : Nat) (c1 : Nat) (K : Int32 → XM → Option XM) (n : Nat) (r : XM) {rc rs : Nat} : ∀ (k : Nat) (x2 : Int32) (f : XM), F_X3_copyFrom_L13 N c0 c1 K k x2 f = some r → (∀ (x2 : Int32) (f : XM), K x2 f = some r → X mX3_copyFrom 4 111 (x_end (xr_vm r n)) x_noRO rc rs 55 [(0, .ref c0), (1, .ref c1), (2, .int x2)] [] (f, n)) → X mX3_copyFrom 4 111 (x_end (xr_vm r n)) x_noRO rc rs 13 [(0, .ref c0), (1, .ref c1), (2, .int x2)] [] (f, n) := by
  intro k
  induction k with
  | zero =>
    intro x2 f hF
    exact absurd hF (by intro h9; cases h9)
  | succ k ih =>
    intro x2 f hF hK
    have ih := fun x2 f hF => ih x2 f hF hK
    rw [F_X3_copyFrom_L13] at hF
    refine x_iload_n 2 dX3_copyFrom_13 rfl rfl ?_
    refine x_aload_n 1 dX3_copyFrom_14 rfl rfl ?_
    refine x_geti_r dX3_copyFrom_15 fl_X3_42 hF (fun v7 hF => ?_)
    refine x_icmp_ge 55 dX3_copyFrom_18 (by decide) hF (fun hF => ?_) (fun hF => ?_)
    · refine x_sub [0, 1, 2] rfl ?_
      exact hK _ _ hF
    · refine x_aload_n 0 dX3_copyFrom_21 rfl rfl ?_
      refine x_iload_n 2 dX3_copyFrom_22 rfl rfl ?_
      obtain ⟨z8, hzz8, hF⟩ := x_bind hF
      obtain ⟨⟨fsz8, hbz8⟩, hzz8⟩ := x_cv_sp hzz8
      refine x_callv (As := [.int x2]) (rest := []) (rc + 0) (rs + 0) dX3_copyFrom_23 mi_X3_closedOn ml_X3_45 rfl rfl (Nat.le_of_ble_eq_true rfl) ⟨by decide, by decide⟩ (by omega) (by omega) hbz8 rfl (c_X3_closedOn N _ _ _ _ _ hzz8) (x_K.some ?_) x_KX.none
      refine x_astore_nq (i := 3) (lv' := [(3, va_rf z8), (0, .ref c0), (1, .ref c1), (2, .int x2)]) dX3_copyFrom_26 rfl (by decide) rfl ?_
      refine x_aload_n 2 dX3_copyFrom_27 rfl rfl ?_
      refine x_iload_n 3 dX3_copyFrom_28 rfl rfl ?_
      obtain ⟨z9, hzz9, hF⟩ := x_bind hF
      obtain ⟨⟨fsz9, hbz9⟩, hzz9⟩ := x_cv_sp hzz9
      refine x_callv (As := [.int x2]) (rest := []) (rc + 0) (rs + 0) dX3_copyFrom_29 mi_X3_closedOn ml_X3_45 rfl rfl (Nat.le_of_ble_eq_true rfl) ⟨by decide, by decide⟩ (by omega) (by omega) hbz9 rfl (c_X3_closedOn N _ _ _ _ _ hzz9) (x_K.some ?_) x_KX.none
      refine x_astoreq (i := 4) (lv' := [(4, va_rf z9), (3, va_rf z8), (0, .ref c0), (1, .ref c1), (2, .int x2)]) dX3_copyFrom_32 (by decide) (by simp [x_rfc, List.filter]) ?_
      refine x_aload_nq 1 dX3_copyFrom_34 rfl rfl ?_
      refine x_ifnull 49 dX3_copyFrom_35 (by decide) hF (fun _ hF => ?_) (fun a10 ha10 hF => ?_)
      · refine x_iinc (x2 + 1) (lv' := [(2, .int (x2 + 1)), (4, va_rf z9), (3, va_rf z8), (0, .ref c0), (1, .ref c1)]) dX3_copyFrom_49 4 rfl (by rfl) (by decide) rfl ?_
        refine x_goto 13 dX3_copyFrom_52 (by decide) ?_
        refine x_sub [3, 4, 0] rfl ?_
        exact ih _ _ hF
      · (try rw [ha10])
        refine x_aloadq 0 dX3_copyFrom_38 rfl ?_
        refine x_ifnull 49 dX3_copyFrom_40 (by decide) hF (fun _ hF => ?_) (fun a11 ha11 hF => ?_)
        · refine x_iinc (x2 + 1) (lv' := [(2, .int (x2 + 1)), (4, va_rf z9), (3, .ref a10), (0, .ref c0), (1, .ref c1)]) dX3_copyFrom_49 4 rfl (by rfl) (by decide) rfl ?_
          refine x_goto 13 dX3_copyFrom_52 (by decide) ?_
          refine x_sub [3, 4, 0] rfl ?_
          exact ih _ _ hF
        · (try rw [ha11])
          refine x_aload_n 1 dX3_copyFrom_43 rfl rfl ?_
          refine x_aload 0 dX3_copyFrom_44 rfl ?_
          obtain ⟨z12, hzz12, hF⟩ := x_bind hF
          obtain ⟨⟨fsz12, hbz12⟩, hzz12⟩ := x_cv_sp hzz12
          refine x_callv (As := [.ref a11]) (rest := []) (rc + 0) (rs + 0) dX3_copyFrom_46 mi_X2_copyFrom ml_X3_38 rfl rfl (Nat.le_of_ble_eq_true rfl) ⟨by decide, by decide⟩ (by omega) (by omega) hbz12 rfl (c_X2_copyFrom N _ _ _ _ _ hzz12) (x_K.none ?_) x_KX.none
          refine x_iinc (x2 + 1) (lv' := [(2, .int (x2 + 1)), (4, .ref a11), (3, .ref a10), (0, .ref c0), (1, .ref c1)]) dX3_copyFrom_49 4 rfl (by rfl) (by decide) rfl ?_
          refine x_goto 13 dX3_copyFrom_52 (by decide) ?_
          refine x_sub [3, 4, 0] rfl ?_
          exact ih _ _ hF
set_option maxRecDepth 20000 in
set_option maxHeartbeats 4000000 in
theorem c_X3_copyFrom (N : Nat) (f : XM) (this : Nat) (p0 : Nat) (n : Nat) (r : XM) (hF : F_X3_copyFrom N f this p0 = some r) : x_Ct mX3_copyFrom 4 111 0 0 [.ref this, .ref p0] (f, n) (xr_vm r n) := by
  unfold F_X3_copyFrom at hF
  refine x_ct (by decide) rfl (Nat.le_of_ble_eq_true rfl) ?_
  show X mX3_copyFrom 4 111 _ _ 0 0 0 [(0, .ref this), (1, .ref p0)] [] (f, n)
  refine x_aload_n 0 dX3_copyFrom_0 rfl rfl ?_
  refine x_getr_r dX3_copyFrom_1 fl_X3_14 hF (fun v1 hF => ?_)
  refine x_aload_n 1 dX3_copyFrom_4 rfl rfl ?_
  refine x_getr_r dX3_copyFrom_5 fl_X3_14 hF (fun v2 hF => ?_)
  refine x_nn hF (fun a3 ha3 hF => ?_)
  rw [ha3]
  refine x_nn hF (fun a4 ha4 hF => ?_)
  rw [ha4]
  obtain ⟨z5, hzz5, hF⟩ := x_bind hF
  obtain ⟨⟨fsz5, hbz5⟩, hzz5⟩ := x_cv_sp hzz5
  refine x_callv (As := [.ref a3]) (rest := []) 0 0 dX3_copyFrom_8 mi_X2_copyFrom ml_X3_38 rfl rfl (Nat.le_of_ble_eq_true rfl) ⟨by decide, by decide⟩ (by omega) (by omega) hbz5 rfl (c_X2_copyFrom N _ _ _ _ _ hzz5) (x_K.none ?_) x_KX.none
  refine x_iconst 0 (by decide) dX3_copyFrom_11 ?_
  refine x_istore_n (i := 2) (lv' := [(2, .int 0), (0, .ref this), (1, .ref p0)]) dX3_copyFrom_12 rfl (by decide) rfl ?_
  refine x_sub [1, 2, 0] rfl ?_
  refine w_X3_copyFrom_L13 N _ _ _ _ r _ _ _ hF (fun y2_13 g13 hF => ?_)
  refine x_aload_n 0 dX3_copyFrom_55 rfl rfl ?_
  refine x_aload_n 1 dX3_copyFrom_56 rfl rfl ?_
  refine x_geti_r dX3_copyFrom_57 fl_X3_42 hF (fun v14 hF => ?_)
  refine x_puti_r dX3_copyFrom_60 fl_X3_42 (fun h9 => by cases h9) hF (fun f15 hF => ?_)
  refine x_aload_n 0 dX3_copyFrom_63 rfl rfl ?_
  refine x_getr_r dX3_copyFrom_64 fl_X3_27 hF (fun v16 hF => ?_)
  refine x_aload_n 1 dX3_copyFrom_67 rfl rfl ?_
  refine x_getr_r dX3_copyFrom_68 fl_X3_27 hF (fun v17 hF => ?_)
  refine x_nn hF (fun a18 ha18 hF => ?_)
  rw [ha18]
  refine x_nn hF (fun a19 ha19 hF => ?_)
  rw [ha19]
  obtain ⟨z20, hzz20, hF⟩ := x_bind hF
  obtain ⟨⟨fsz20, hbz20⟩, hzz20⟩ := x_cv_sp hzz20
  refine x_callv (As := [.ref a18]) (rest := []) 0 0 dX3_copyFrom_71 mi_X4_copyFrom ml_X3_49 rfl rfl (Nat.le_of_ble_eq_true rfl) ⟨by decide, by decide⟩ (by omega) (by omega) hbz20 rfl (c_X4_copyFrom N _ _ _ _ _ hzz20) (x_K.none ?_) x_KX.none
  refine x_aload_n 0 dX3_copyFrom_74 rfl rfl ?_
  refine x_aload_n 1 dX3_copyFrom_75 rfl rfl ?_
  refine x_geti_r dX3_copyFrom_76 fl_X3_31 hF (fun v21 hF => ?_)
  refine x_puti_r dX3_copyFrom_79 fl_X3_31 (fun h9 => by cases h9) hF (fun f22 hF => ?_)
  refine x_aload_n 0 dX3_copyFrom_82 rfl rfl ?_
  refine x_aload_n 1 dX3_copyFrom_83 rfl rfl ?_
  refine x_geti_r dX3_copyFrom_84 fl_X3_35 hF (fun v23 hF => ?_)
  refine x_puti_r dX3_copyFrom_87 fl_X3_35 (fun h9 => by cases h9) hF (fun f24 hF => ?_)
  refine x_aload_n 0 dX3_copyFrom_90 rfl rfl ?_
  refine x_aload_n 1 dX3_copyFrom_91 rfl rfl ?_
  refine x_geti_r dX3_copyFrom_92 fl_X3_52 hF (fun v25 hF => ?_)
  refine x_puti_r dX3_copyFrom_95 fl_X3_52 (fun h9 => by cases h9) hF (fun f26 hF => ?_)
  refine x_aload_n 0 dX3_copyFrom_98 rfl rfl ?_
  refine x_aload_n 1 dX3_copyFrom_99 rfl rfl ?_
  refine x_geti_r dX3_copyFrom_100 fl_X3_55 hF (fun v27 hF => ?_)
  refine x_puti_r dX3_copyFrom_103 fl_X3_55 (fun h9 => by cases h9) hF (fun f28 hF => ?_)
  exact x_vret dX3_copyFrom_106 rfl (by cases hF; rfl)
def F_X3_runOn (N : Nat) (f : XM) (this : Nat) (p0 : Int32) : Option (Option Nat) :=
  if p0 < 0 then
    some none
  else
    (x_geti f 3 this 2).bind fun v1 =>
    if p0 ≤ v1 then
      if p0 = 0 then
        (x_getr f 3 this 0).bind fun v9 =>
        some v9
      else
        (x_geti f 3 this 2).bind fun v2 =>
        (x_getr f 3 this 1).bind fun v3 =>
        Option.bind v3 fun a4 =>
        (x_alen f a4).bind fun v5 =>
        if (v2 - p0) < v5 then
          (x_getr f 3 this 1).bind fun v6 =>
          Option.bind v6 fun a7 =>
          (x_aldr f 2 a7 (v2 - p0)).bind fun v8 =>
          some v8
        else
          some none
    else
      some none
set_option maxRecDepth 20000 in
set_option maxHeartbeats 4000000 in
theorem c_X3_runOn (N : Nat) (f : XM) (this : Nat) (p0 : Int32) (n : Nat) (r : (Option Nat)) (hF : F_X3_runOn N f this p0 = some r) : x_Ct mX3_runOn 0 0 0 0 [.ref this, .int p0] (f, n) (xr_qp r (f, n)) := by
  unfold F_X3_runOn at hF
  refine x_ct (by decide) rfl (Nat.le_of_ble_eq_true rfl) ?_
  show X mX3_runOn 0 0 _ _ 0 0 0 [(0, .ref this), (1, .int p0)] [] (f, n)
  refine x_iload_n 1 dX3_runOn_0 rfl rfl ?_
  refine x_if_lt 12 dX3_runOn_1 (by decide) hF (fun hF => ?_) (fun hF => ?_)
  · refine x_null dX3_runOn_12 ?_
    exact x_aret (r := none) dX3_runOn_13 rfl (by cases hF; rfl)
  · refine x_iload_n 1 dX3_runOn_4 rfl rfl ?_
    refine x_aload_n 0 dX3_runOn_5 rfl rfl ?_
    refine x_geti_r dX3_runOn_6 fl_X3_42 hF (fun v1 hF => ?_)
    refine x_icmp_le 14 dX3_runOn_9 (by decide) hF (fun hF => ?_) (fun hF => ?_)
    · refine x_iload_n 1 dX3_runOn_14 rfl rfl ?_
      refine x_if_ne 23 dX3_runOn_15 (by decide) hF (fun hF => ?_) (fun hF => ?_)
      · refine x_aload_n 0 dX3_runOn_23 rfl rfl ?_
        refine x_geti_r dX3_runOn_24 fl_X3_42 hF (fun v2 hF => ?_)
        refine x_iload_n 1 dX3_runOn_27 rfl rfl ?_
        refine x_isub dX3_runOn_28 ?_
        refine x_istore_n (i := 2) (lv' := [(2, .int (v2 - p0)), (0, .ref this), (1, .int p0)]) dX3_runOn_29 rfl (by decide) rfl ?_
        refine x_iload_n 0 dX3_runOn_30 rfl rfl ?_
        refine x_aload_n 1 dX3_runOn_31 rfl rfl ?_
        refine x_getr_r dX3_runOn_32 fl_X3_20 hF (fun v3 hF => ?_)
        refine x_nn hF (fun a4 ha4 hF => ?_)
        rw [ha4]
        refine x_alen_r dX3_runOn_35 hF (fun v5 hF => ?_)
        refine x_icmp_lt 43 dX3_runOn_36 (by decide) hF (fun hF => ?_) (fun hF => ?_)
        · refine x_aload_n 1 dX3_runOn_43 rfl rfl ?_
          refine x_getr_r dX3_runOn_44 fl_X3_20 hF (fun v6 hF => ?_)
          refine x_iload_n 0 dX3_runOn_47 rfl rfl ?_
          refine x_nn hF (fun a7 ha7 hF => ?_)
          rw [ha7]
          refine x_aldr_r 2 dX3_runOn_48 hF (fun v8 hF => ?_)
          exact x_aret (r := v8) dX3_runOn_49 rfl (by cases hF; rfl)
        · refine x_null dX3_runOn_39 ?_
          refine x_goto 49 dX3_runOn_40 (by decide) ?_
          exact x_aret (r := none) dX3_runOn_49 rfl (by cases hF; rfl)
      · refine x_aload_n 0 dX3_runOn_18 rfl rfl ?_
        refine x_getr_r dX3_runOn_19 fl_X3_14 hF (fun v9 hF => ?_)
        exact x_aret (r := v9) dX3_runOn_22 rfl (by cases hF; rfl)
    · refine x_null dX3_runOn_12 ?_
      exact x_aret (r := none) dX3_runOn_13 rfl (by cases hF; rfl)
def F_X0_gather_L19 (N : Nat) (c0 : Nat) (c1 : Nat) (K : Int32 → XM → Option (Option Nat × XM)) : Nat → Int32 → XM → Option (Option Nat × XM)
  | 0, _, _ => none
  | k + 1, x2, f =>
    if x2 < 0 then
      K x2 f
    else
      (x_cv f 3 c1 (F_X3_runOn N f c1 x2)).bind fun z10 =>
      Option.elim z10
        (F_X0_gather_L19 N c0 c1 K k (x2 + (-1)) f)
        (fun a11 => (x_getr f 0 c0 1).bind fun v12 =>
        (x_getr f 0 c0 0).bind fun v13 =>
        Option.bind v13 fun a14 =>
        Option.bind v12 fun a15 =>
        (x_cv f 2 a15 (F_X2_mergeOf N f a15 a14 a11)).bind fun z16 =>
        (x_getr z16 0 c0 0).bind fun v17 =>
        (x_putr z16 0 c0 1 v17).bind fun f18 =>
        (x_putr f18 0 c0 0 (some a15)).bind fun f19 =>
        F_X0_gather_L19 N c0 c1 K k (x2 + (-1)) f19)
def F_X0_gather (N : Nat) (f : XM) (this : Nat) (p0 : Nat) : Option (Option Nat × XM) :=
  (x_getr f 0 this 0).bind fun v1 =>
  (x_getr f 3 p0 3).bind fun v2 =>
  Option.bind v2 fun a3 =>
  (x_getr f 4 a3 0).bind fun v4 =>
  Option.bind v4 fun a5 =>
  Option.bind v1 fun a6 =>
  (x_cv f 2 a6 (F_X2_copyFrom N f a6 a5)).bind fun z7 =>
  (x_geti z7 3 p0 2).bind fun v8 =>
  F_X0_gather_L19 N this p0 (fun y2_20 g20 =>
  (x_getr g20 0 this 0).bind fun v21 =>
  Option.bind v21 fun a22 =>
  (x_cv g20 2 a22 (F_X2_takeOutGone N g20 a22)).bind fun z23 =>
  (x_getr z23 0 this 0).bind fun v24 =>
  some (v24, z23)) N v8 z7
set_option maxRecDepth 20000 in
set_option maxHeartbeats 4000000 in
theorem w_X0_gather_L19 (N : Nat) (c0 : Nat) (c1 : Nat) (K : Int32 → XM → Option (Option Nat × XM)) (n : Nat) (r : (Option Nat × XM)) {rc rs : Nat} : ∀ (k : Nat) (x2 : Int32) (f : XM), F_X0_gather_L19 N c0 c1 K k x2 f = some r → (∀ (x2 : Int32) (f : XM), K x2 f = some r → X mX0_gather 3 90 (x_end (xr_qm r n)) x_noRO rc rs 69 [(0, .ref c0), (1, .ref c1), (2, .int x2)] [] (f, n)) → X mX0_gather 3 90 (x_end (xr_qm r n)) x_noRO rc rs 19 [(0, .ref c0), (1, .ref c1), (2, .int x2)] [] (f, n) := by
  intro k
  induction k with
  | zero =>
    intro x2 f hF
    exact absurd hF (by intro h9; cases h9)
  | succ k ih =>
    intro x2 f hF hK
    have ih := fun x2 f hF => ih x2 f hF hK
    rw [F_X0_gather_L19] at hF
    refine x_iload_n 2 dX0_gather_19 rfl rfl ?_
    refine x_if_lt 69 dX0_gather_20 (by decide) hF (fun hF => ?_) (fun hF => ?_)
    · refine x_sub [0, 1, 2] rfl ?_
      exact hK _ _ hF
    · refine x_aload_n 1 dX0_gather_23 rfl rfl ?_
      refine x_iload_n 2 dX0_gather_24 rfl rfl ?_
      obtain ⟨z10, hzz10, hF⟩ := x_bind hF
      obtain ⟨⟨fsz10, hbz10⟩, hzz10⟩ := x_cv_sp hzz10
      refine x_callv (As := [.int x2]) (rest := []) (rc + 0) (rs + 0) dX0_gather_25 mi_X3_runOn ml_X0_40 rfl rfl (Nat.le_of_ble_eq_true rfl) ⟨by decide, by decide⟩ (by omega) (by omega) hbz10 rfl (c_X3_runOn N _ _ _ _ _ hzz10) (x_K.some ?_) x_KX.none
      refine x_astore_nq (i := 3) (lv' := [(3, va_rf z10), (0, .ref c0), (1, .ref c1), (2, .int x2)]) dX0_gather_28 rfl (by decide) rfl ?_
      refine x_aload_nq 0 dX0_gather_29 rfl rfl ?_
      refine x_ifnull 63 dX0_gather_30 (by decide) hF (fun _ hF => ?_) (fun a11 ha11 hF => ?_)
      · refine x_iinc (x2 + (-1)) (lv' := [(2, .int (x2 + (-1))), (3, va_rf z10), (0, .ref c0), (1, .ref c1)]) dX0_gather_63 3 rfl (by rfl) (by decide) rfl ?_
        refine x_goto 19 dX0_gather_66 (by decide) ?_
        refine x_sub [2, 3, 0] rfl ?_
        exact ih _ _ hF
      · (try rw [ha11])
        refine x_aload_n 1 dX0_gather_33 rfl rfl ?_
        refine x_getr_r dX0_gather_34 fl_X0_20 hF (fun v12 hF => ?_)
        refine x_astoreq (i := 4) (lv' := [(4, va_rf v12), (3, .ref a11), (0, .ref c0), (1, .ref c1), (2, .int x2)]) dX0_gather_37 (by decide) rfl ?_
        refine x_aloadq 0 dX0_gather_39 rfl ?_
        refine x_aload_n 2 dX0_gather_41 rfl rfl ?_
        refine x_getr_r dX0_gather_42 fl_X0_14 hF (fun v13 hF => ?_)
        refine x_aload_n 1 dX0_gather_45 rfl rfl ?_
        refine x_nn hF (fun a14 ha14 hF => ?_)
        rw [ha14]
        refine x_nn hF (fun a15 ha15 hF => ?_)
        rw [ha15]
        obtain ⟨z16, hzz16, hF⟩ := x_bind hF
        obtain ⟨⟨fsz16, hbz16⟩, hzz16⟩ := x_cv_sp hzz16
        refine x_callv (As := [.ref a14, .ref a11]) (rest := []) (rc + 0) (rs + 0) dX0_gather_46 mi_X2_mergeOf ml_X0_44 rfl rfl (Nat.le_of_ble_eq_true rfl) ⟨by decide, by decide⟩ (by omega) (by omega) hbz16 rfl (c_X2_mergeOf N _ _ _ _ _ _ hzz16) (x_K.none ?_) x_KX.none
        refine x_aload_n 2 dX0_gather_49 rfl rfl ?_
        refine x_aload_n 2 dX0_gather_50 rfl rfl ?_
        refine x_getr_r dX0_gather_51 fl_X0_14 hF (fun v17 hF => ?_)
        refine x_putr_r (v := v17) dX0_gather_54 fl_X0_20 rfl (fun h9 => by cases h9) hF (fun f18 hF => ?_)
        refine x_aload_n 2 dX0_gather_57 rfl rfl ?_
        refine x_aload 0 dX0_gather_58 rfl ?_
        refine x_putr_r (v := (some a15)) dX0_gather_60 fl_X0_14 rfl (fun h9 => by cases h9) hF (fun f19 hF => ?_)
        refine x_iinc (x2 + (-1)) (lv' := [(2, .int (x2 + (-1))), (4, .ref a15), (3, .ref a11), (0, .ref c0), (1, .ref c1)]) dX0_gather_63 4 rfl (by rfl) (by decide) rfl ?_
        refine x_goto 19 dX0_gather_66 (by decide) ?_
        refine x_sub [3, 4, 0] rfl ?_
        exact ih _ _ hF
set_option maxRecDepth 20000 in
set_option maxHeartbeats 4000000 in
theorem c_X0_gather (N : Nat) (f : XM) (this : Nat) (p0 : Nat) (n : Nat) (r : (Option Nat × XM)) (hF : F_X0_gather N f this p0 = some r) : x_Ct mX0_gather 3 90 0 0 [.ref this, .ref p0] (f, n) (xr_qm r n) := by
  unfold F_X0_gather at hF
  refine x_ct (by decide) rfl (Nat.le_of_ble_eq_true rfl) ?_
  show X mX0_gather 3 90 _ _ 0 0 0 [(0, .ref this), (1, .ref p0)] [] (f, n)
  refine x_aload_n 0 dX0_gather_0 rfl rfl ?_
  refine x_getr_r dX0_gather_1 fl_X0_14 hF (fun v1 hF => ?_)
  refine x_aload_n 1 dX0_gather_4 rfl rfl ?_
  refine x_getr_r dX0_gather_5 fl_X0_23 hF (fun v2 hF => ?_)
  refine x_nn hF (fun a3 ha3 hF => ?_)
  rw [ha3]
  refine x_getr_r dX0_gather_8 fl_X0_29 hF (fun v4 hF => ?_)
  refine x_nn hF (fun a5 ha5 hF => ?_)
  rw [ha5]
  refine x_nn hF (fun a6 ha6 hF => ?_)
  rw [ha6]
  obtain ⟨z7, hzz7, hF⟩ := x_bind hF
  obtain ⟨⟨fsz7, hbz7⟩, hzz7⟩ := x_cv_sp hzz7
  refine x_callv (As := [.ref a5]) (rest := []) 0 0 dX0_gather_11 mi_X2_copyFrom ml_X0_32 rfl rfl (Nat.le_of_ble_eq_true rfl) ⟨by decide, by decide⟩ (by omega) (by omega) hbz7 rfl (c_X2_copyFrom N _ _ _ _ _ hzz7) (x_K.none ?_) x_KX.none
  refine x_aload_n 1 dX0_gather_14 rfl rfl ?_
  refine x_geti_r dX0_gather_15 fl_X0_36 hF (fun v8 hF => ?_)
  refine x_istore_n (i := 2) (lv' := [(2, .int v8), (0, .ref this), (1, .ref p0)]) dX0_gather_18 rfl (by decide) rfl ?_
  refine x_sub [1, 2, 0] rfl ?_
  refine w_X0_gather_L19 N _ _ _ _ r _ _ _ hF (fun y2_20 g20 hF => ?_)
  refine x_aload_n 0 dX0_gather_69 rfl rfl ?_
  refine x_getr_r dX0_gather_70 fl_X0_14 hF (fun v21 hF => ?_)
  refine x_nn hF (fun a22 ha22 hF => ?_)
  rw [ha22]
  obtain ⟨z23, hzz23, hF⟩ := x_bind hF
  obtain ⟨⟨fsz23, hbz23⟩, hzz23⟩ := x_cv_sp hzz23
  refine x_callv (As := []) (rest := []) 0 0 dX0_gather_73 mi_X2_takeOutGone ml_X0_48 rfl rfl (Nat.le_of_ble_eq_true rfl) ⟨by decide, by decide⟩ (by omega) (by omega) hbz23 rfl (c_X2_takeOutGone N _ _ _ _ hzz23) (x_K.none ?_) x_KX.none
  refine x_aload_n 0 dX0_gather_76 rfl rfl ?_
  refine x_getr_r dX0_gather_77 fl_X0_14 hF (fun v24 hF => ?_)
  exact x_aret (r := v24) dX0_gather_80 rfl (by cases hF; rfl)
def F_X3_eachIfBuilt (N : Nat) (f : XM) (this : Nat) (p0 : Int32) : Option Int32 :=
  (x_geti f 3 this 4).bind fun v1 =>
  (x_div (v1 * p0) 100).bind fun v2 =>
  some (x_imax 1 v2)
set_option maxRecDepth 20000 in
set_option maxHeartbeats 4000000 in
theorem c_X3_eachIfBuilt (N : Nat) (f : XM) (this : Nat) (p0 : Int32) (n : Nat) (r : Int32) (hF : F_X3_eachIfBuilt N f this p0 = some r) : x_Ct mX3_eachIfBuilt 1 21 0 0 [.ref this, .int p0] (f, n) (xr_ip r (f, n)) := by
  unfold F_X3_eachIfBuilt at hF
  refine x_ct (by decide) rfl (Nat.le_of_ble_eq_true rfl) ?_
  show X mX3_eachIfBuilt 1 21 _ _ 0 0 0 [(0, .ref this), (1, .int p0)] [] (f, n)
  refine x_iconst 1 (by decide) dX3_eachIfBuilt_0 ?_
  refine x_aload_n 0 dX3_eachIfBuilt_1 rfl rfl ?_
  refine x_geti_r dX3_eachIfBuilt_2 fl_X3_31 hF (fun v1 hF => ?_)
  refine x_iload_n 1 dX3_eachIfBuilt_5 rfl rfl ?_
  refine x_imul dX3_eachIfBuilt_6 ?_
  refine x_bipush 100 (by decide) dX3_eachIfBuilt_7 ?_
  refine x_idiv dX3_eachIfBuilt_9 hF (fun v2 hF => ?_)
  refine x_mmax dX3_eachIfBuilt_10 ml_X3_141 jd_maxs jd_mi jd_maxc (by decide) (by decide) (Nat.le_of_ble_eq_true rfl) ?_
  exact x_iret dX3_eachIfBuilt_13 rfl (by cases hF; rfl)
def F_X4_addLeaf (N : Nat) (f : XM) (this : Nat) (p0 : Int32) : Option XM :=
  (x_geti f 4 this 3).bind fun v1 =>
  if v1 < 0 then
    some f
  else
    (x_geti f 4 this 3).bind fun v2 =>
    (x_getr f 4 this 2).bind fun v3 =>
    Option.bind v3 fun a4 =>
    (x_alen f a4).bind fun v5 =>
    if v5 ≤ v2 then
      some f
    else
      (x_getr f 4 this 2).bind fun v6 =>
      (x_geti f 4 this 3).bind fun v7 =>
      (x_geti f 4 this 3).bind fun v8 =>
      if v8 = 0 then
        Option.bind v6 fun a13 =>
        (x_ast f a13 v7 0).bind fun f14 =>
        (x_geti f14 4 this 3).bind fun v15 =>
        (x_puti f14 4 this 3 (v15 + 1)).bind fun f16 =>
        some f16
      else
        Option.bind v6 fun a9 =>
        (x_ast f a9 v7 p0).bind fun f10 =>
        (x_geti f10 4 this 3).bind fun v11 =>
        (x_puti f10 4 this 3 (v11 + 1)).bind fun f12 =>
        some f12
set_option maxRecDepth 20000 in
set_option maxHeartbeats 4000000 in
theorem c_X4_addLeaf (N : Nat) (f : XM) (this : Nat) (p0 : Int32) (n : Nat) (r : XM) (hF : F_X4_addLeaf N f this p0 = some r) : x_Ct mX4_addLeaf 0 0 0 0 [.ref this, .int p0] (f, n) (xr_vm r n) := by
  unfold F_X4_addLeaf at hF
  refine x_ct (by decide) rfl (Nat.le_of_ble_eq_true rfl) ?_
  show X mX4_addLeaf 0 0 _ _ 0 0 0 [(0, .ref this), (1, .int p0)] [] (f, n)
  refine x_aload_n 0 dX4_addLeaf_0 rfl rfl ?_
  refine x_geti_r dX4_addLeaf_1 fl_X4_39 hF (fun v1 hF => ?_)
  refine x_if_lt 50 dX4_addLeaf_4 (by decide) hF (fun hF => ?_) (fun hF => ?_)
  · exact x_vret dX4_addLeaf_50 rfl (by cases hF; rfl)
  · refine x_aload_n 0 dX4_addLeaf_7 rfl rfl ?_
    refine x_geti_r dX4_addLeaf_8 fl_X4_39 hF (fun v2 hF => ?_)
    refine x_aload_n 0 dX4_addLeaf_11 rfl rfl ?_
    refine x_getr_r dX4_addLeaf_12 fl_X4_24 hF (fun v3 hF => ?_)
    refine x_nn hF (fun a4 ha4 hF => ?_)
    rw [ha4]
    refine x_alen_r dX4_addLeaf_15 hF (fun v5 hF => ?_)
    refine x_icmp_ge 50 dX4_addLeaf_16 (by decide) hF (fun hF => ?_) (fun hF => ?_)
    · exact x_vret dX4_addLeaf_50 rfl (by cases hF; rfl)
    · refine x_aload_n 0 dX4_addLeaf_19 rfl rfl ?_
      refine x_getr_r dX4_addLeaf_20 fl_X4_24 hF (fun v6 hF => ?_)
      refine x_aload_n 0 dX4_addLeaf_23 rfl rfl ?_
      refine x_geti_r dX4_addLeaf_24 fl_X4_39 hF (fun v7 hF => ?_)
      refine x_aload_n 0 dX4_addLeaf_27 rfl rfl ?_
      refine x_geti_r dX4_addLeaf_28 fl_X4_39 hF (fun v8 hF => ?_)
      refine x_if_ne 38 dX4_addLeaf_31 (by decide) hF (fun hF => ?_) (fun hF => ?_)
      · refine x_iload_n 1 dX4_addLeaf_38 rfl rfl ?_
        refine x_nn hF (fun a9 ha9 hF => ?_)
        rw [ha9]
        refine x_ast_r dX4_addLeaf_39 hF (fun f10 hF => ?_)
        refine x_aload_n 0 dX4_addLeaf_40 rfl rfl ?_
        refine x_dupr dX4_addLeaf_41 ?_
        refine x_geti_r dX4_addLeaf_42 fl_X4_39 hF (fun v11 hF => ?_)
        refine x_iconst 1 (by decide) dX4_addLeaf_45 ?_
        refine x_iadd dX4_addLeaf_46 ?_
        refine x_puti_r dX4_addLeaf_47 fl_X4_39 (fun h9 => by cases h9) hF (fun f12 hF => ?_)
        exact x_vret dX4_addLeaf_50 rfl (by cases hF; rfl)
      · refine x_iconst 0 (by decide) dX4_addLeaf_34 ?_
        refine x_goto 39 dX4_addLeaf_35 (by decide) ?_
        refine x_nn hF (fun a13 ha13 hF => ?_)
        rw [ha13]
        refine x_ast_r dX4_addLeaf_39 hF (fun f14 hF => ?_)
        refine x_aload_n 0 dX4_addLeaf_40 rfl rfl ?_
        refine x_dupr dX4_addLeaf_41 ?_
        refine x_geti_r dX4_addLeaf_42 fl_X4_39 hF (fun v15 hF => ?_)
        refine x_iconst 1 (by decide) dX4_addLeaf_45 ?_
        refine x_iadd dX4_addLeaf_46 ?_
        refine x_puti_r dX4_addLeaf_47 fl_X4_39 (fun h9 => by cases h9) hF (fun f16 hF => ?_)
        exact x_vret dX4_addLeaf_50 rfl (by cases hF; rfl)
def F_X4_buildOutOf_L18 (N : Nat) (c0 : Nat) (c2 : Int32) (K : Int32 → Int32 → XM → Option XM) : Nat → Int32 → Int32 → XM → Option XM
  | 0, _, _, _ => none
  | k + 1, x3, x4, f =>
    (x_getr f 4 c0 0).bind fun v6 =>
    Option.bind v6 fun a7 =>
    (x_geti f 2 a7 2).bind fun v8 =>
    if v8 ≤ x4 then
      K x3 x4 f
    else
      (x_getr f 4 c0 1).bind fun v9 =>
      Option.bind v9 fun a10 =>
      (x_alen f a10).bind fun v11 =>
      if v11 ≤ x4 then
        K x3 x4 f
      else
        (x_getr f 4 c0 1).bind fun v12 =>
        Option.bind v12 fun a13 =>
        (x_ast f a13 x4 0).bind fun f14 =>
        if x3 = 0 then
          (x_getr f14 4 c0 0).bind fun v15 =>
          Option.bind v15 fun a16 =>
          (x_cv f14 2 a16 (F_X2_keyOn N f14 a16 x4)).bind fun z17 =>
          (x_cv f14 4 c0 (F_X4_addLeaf N f14 c0 z17)).bind fun z18 =>
          F_X4_buildOutOf_L18 N c0 c2 K k (c2 + (-1)) (x4 + 1) z18
        else
          F_X4_buildOutOf_L18 N c0 c2 K k (x3 + (-1)) (x4 + 1) f14
def F_X4_buildOutOf (N : Nat) (f : XM) (this : Nat) (p0 : Nat) (p1 : Int32) : Option XM :=
  (x_getr f 4 this 0).bind fun v1 =>
  Option.bind v1 fun a2 =>
  (x_cv f 2 a2 (F_X2_copyFrom N f a2 p0)).bind fun z3 =>
  (x_puti z3 4 this 3 0).bind fun f4 =>
  F_X4_buildOutOf_L18 N this p1 (fun y3_19 y4_19 g19 =>
  some g19) N 0 0 f4
set_option maxRecDepth 20000 in
set_option maxHeartbeats 4000000 in
theorem w_X4_buildOutOf_L18 (N : Nat) (c0 : Nat) (c2 : Int32) (K : Int32 → Int32 → XM → Option XM) (n : Nat) (r : XM) {rc rs : Nat} : ∀ (k : Nat) (x3 : Int32) (x4 : Int32) (f : XM), F_X4_buildOutOf_L18 N c0 c2 K k x3 x4 f = some r → (∀ (x3 : Int32) (x4 : Int32) (f : XM), K x3 x4 f = some r → X mX4_buildOutOf 3 90 (x_end (xr_vm r n)) x_noRO rc rs 76 [(0, .ref c0), (2, .int c2), (3, .int x3), (4, .int x4)] [] (f, n)) → X mX4_buildOutOf 3 90 (x_end (xr_vm r n)) x_noRO rc rs 18 [(0, .ref c0), (2, .int c2), (3, .int x3), (4, .int x4)] [] (f, n) := by
  intro k
  induction k with
  | zero =>
    intro x3 x4 f hF
    exact absurd hF (by intro h9; cases h9)
  | succ k ih =>
    intro x3 x4 f hF hK
    have ih := fun x3 x4 f hF => ih x3 x4 f hF hK
    rw [F_X4_buildOutOf_L18] at hF
    refine x_iload 3 dX4_buildOutOf_18 rfl ?_
    refine x_aload_n 0 dX4_buildOutOf_20 rfl rfl ?_
    refine x_getr_r dX4_buildOutOf_21 fl_X4_14 hF (fun v6 hF => ?_)
    refine x_nn hF (fun a7 ha7 hF => ?_)
    rw [ha7]
    refine x_geti_r dX4_buildOutOf_24 fl_X4_31 hF (fun v8 hF => ?_)
    refine x_icmp_ge 76 dX4_buildOutOf_27 (by decide) hF (fun hF => ?_) (fun hF => ?_)
    · refine x_sub [0, 1, 2, 3] rfl ?_
      exact hK _ _ _ hF
    · refine x_iload 3 dX4_buildOutOf_30 rfl ?_
      refine x_aload_n 0 dX4_buildOutOf_32 rfl rfl ?_
      refine x_getr_r dX4_buildOutOf_33 fl_X4_20 hF (fun v9 hF => ?_)
      refine x_nn hF (fun a10 ha10 hF => ?_)
      rw [ha10]
      refine x_alen_r dX4_buildOutOf_36 hF (fun v11 hF => ?_)
      refine x_icmp_ge 76 dX4_buildOutOf_37 (by decide) hF (fun hF => ?_) (fun hF => ?_)
      · refine x_sub [0, 1, 2, 3] rfl ?_
        exact hK _ _ _ hF
      · refine x_aload_n 0 dX4_buildOutOf_40 rfl rfl ?_
        refine x_getr_r dX4_buildOutOf_41 fl_X4_20 hF (fun v12 hF => ?_)
        refine x_iload 3 dX4_buildOutOf_44 rfl ?_
        refine x_iconst 0 (by decide) dX4_buildOutOf_46 ?_
        refine x_nn hF (fun a13 ha13 hF => ?_)
        rw [ha13]
        refine x_ast_r dX4_buildOutOf_47 hF (fun f14 hF => ?_)
        refine x_iload_n 2 dX4_buildOutOf_48 rfl rfl ?_
        refine x_if_ne 67 dX4_buildOutOf_49 (by decide) hF (fun hF => ?_) (fun hF => ?_)
        · refine x_iinc (x3 + (-1)) (lv' := [(3, .int (x3 + (-1))), (0, .ref c0), (2, .int c2), (4, .int x4)]) dX4_buildOutOf_67 2 rfl (by rfl) (by decide) rfl ?_
          refine x_iinc (x4 + 1) (lv' := [(4, .int (x4 + 1)), (3, .int (x3 + (-1))), (0, .ref c0), (2, .int c2)]) dX4_buildOutOf_70 3 rfl (by rfl) (by decide) rfl ?_
          refine x_goto 18 dX4_buildOutOf_73 (by decide) ?_
          refine x_sub [2, 3, 1, 0] rfl ?_
          exact ih _ _ _ hF
        · refine x_aload_n 0 dX4_buildOutOf_52 rfl rfl ?_
          refine x_aload_n 0 dX4_buildOutOf_53 rfl rfl ?_
          refine x_getr_r dX4_buildOutOf_54 fl_X4_14 hF (fun v15 hF => ?_)
          refine x_iload 3 dX4_buildOutOf_57 rfl ?_
          refine x_nn hF (fun a16 ha16 hF => ?_)
          rw [ha16]
          obtain ⟨z17, hzz17, hF⟩ := x_bind hF
          obtain ⟨⟨fsz17, hbz17⟩, hzz17⟩ := x_cv_sp hzz17
          refine x_callv (As := [.int x4]) (rest := [.ref c0]) (rc + 0) (rs + 0) dX4_buildOutOf_59 mi_X2_keyOn ml_X4_48 rfl rfl (Nat.le_of_ble_eq_true rfl) ⟨by decide, by decide⟩ (by omega) (by omega) hbz17 rfl (c_X2_keyOn N _ _ _ _ _ hzz17) (x_K.some ?_) x_KX.none
          obtain ⟨z18, hzz18, hF⟩ := x_bind hF
          obtain ⟨⟨fsz18, hbz18⟩, hzz18⟩ := x_cv_sp hzz18
          refine x_callv (As := [.int z17]) (rest := []) (rc + 0) (rs + 0) dX4_buildOutOf_62 mi_X4_addLeaf ml_X4_52 rfl rfl (Nat.le_of_ble_eq_true rfl) ⟨by decide, by decide⟩ (by omega) (by omega) hbz18 rfl (c_X4_addLeaf N _ _ _ _ _ hzz18) (x_K.none ?_) x_KX.none
          refine x_iload_n 1 dX4_buildOutOf_65 rfl rfl ?_
          refine x_istore_n (i := 3) (lv' := [(3, .int c2), (0, .ref c0), (2, .int c2), (4, .int x4)]) dX4_buildOutOf_66 rfl (by decide) rfl ?_
          refine x_iinc (c2 + (-1)) (lv' := [(3, .int (c2 + (-1))), (0, .ref c0), (2, .int c2), (4, .int x4)]) dX4_buildOutOf_67 0 rfl (by rfl) (by decide) rfl ?_
          refine x_iinc (x4 + 1) (lv' := [(4, .int (x4 + 1)), (3, .int (c2 + (-1))), (0, .ref c0), (2, .int c2)]) dX4_buildOutOf_70 3 rfl (by rfl) (by decide) rfl ?_
          refine x_goto 18 dX4_buildOutOf_73 (by decide) ?_
          refine x_sub [2, 3, 1, 0] rfl ?_
          exact ih _ _ _ hF
set_option maxRecDepth 20000 in
set_option maxHeartbeats 4000000 in
theorem c_X4_buildOutOf (N : Nat) (f : XM) (this : Nat) (p0 : Nat) (p1 : Int32) (n : Nat) (r : XM) (hF : F_X4_buildOutOf N f this p0 p1 = some r) : x_Ct mX4_buildOutOf 3 90 0 0 [.ref this, .ref p0, .int p1] (f, n) (xr_vm r n) := by
  unfold F_X4_buildOutOf at hF
  refine x_ct (by decide) rfl (Nat.le_of_ble_eq_true rfl) ?_
  show X mX4_buildOutOf 3 90 _ _ 0 0 0 [(0, .ref this), (1, .ref p0), (2, .int p1)] [] (f, n)
  refine x_aload_n 0 dX4_buildOutOf_0 rfl rfl ?_
  refine x_getr_r dX4_buildOutOf_1 fl_X4_14 hF (fun v1 hF => ?_)
  refine x_aload_n 1 dX4_buildOutOf_4 rfl rfl ?_
  refine x_nn hF (fun a2 ha2 hF => ?_)
  rw [ha2]
  obtain ⟨z3, hzz3, hF⟩ := x_bind hF
  obtain ⟨⟨fsz3, hbz3⟩, hzz3⟩ := x_cv_sp hzz3
  refine x_callv (As := [.ref p0]) (rest := []) 0 0 dX4_buildOutOf_5 mi_X2_copyFrom ml_X4_27 rfl rfl (Nat.le_of_ble_eq_true rfl) ⟨by decide, by decide⟩ (by omega) (by omega) hbz3 rfl (c_X2_copyFrom N _ _ _ _ _ hzz3) (x_K.none ?_) x_KX.none
  refine x_aload_n 0 dX4_buildOutOf_8 rfl rfl ?_
  refine x_iconst 0 (by decide) dX4_buildOutOf_9 ?_
  refine x_puti_r dX4_buildOutOf_10 fl_X4_39 (fun h9 => by cases h9) hF (fun f4 hF => ?_)
  refine x_iconst 0 (by decide) dX4_buildOutOf_13 ?_
  refine x_istore_n (i := 3) (lv' := [(3, .int 0), (0, .ref this), (1, .ref p0), (2, .int p1)]) dX4_buildOutOf_14 rfl (by decide) rfl ?_
  refine x_iconst 0 (by decide) dX4_buildOutOf_15 ?_
  refine x_istore (i := 4) (lv' := [(4, .int 0), (3, .int 0), (0, .ref this), (1, .ref p0), (2, .int p1)]) dX4_buildOutOf_16 (by decide) rfl ?_
  refine x_sub [2, 4, 1, 0] rfl ?_
  refine w_X4_buildOutOf_L18 N _ _ _ _ r _ _ _ _ hF (fun y3_19 y4_19 g19 hF => ?_)
  exact x_vret dX4_buildOutOf_76 rfl (by cases hF; rfl)
def F_X3_rebuild (N : Nat) (f : XM) (this : Nat) (p0 : Int32) (p1 : Nat) : Option (Int32 × XM) :=
  (x_cv f 0 p1 (F_X0_gather N f p1 this)).bind fun z1 =>
  Option.bind z1.1 fun a2 =>
  (x_geti z1.2 2 a2 2).bind fun v3 =>
  if v3 ≤ 160 then
    (x_getr z1.2 3 this 3).bind fun v4 =>
    (x_cv z1.2 3 this (F_X3_eachIfBuilt N z1.2 this p0)).bind fun z5 =>
    Option.bind v4 fun a6 =>
    (x_cv z1.2 4 a6 (F_X4_buildOutOf N z1.2 a6 a2 z5)).bind fun z7 =>
    (x_getr z7 3 this 3).bind fun v8 =>
    (x_geti z7 3 this 4).bind fun v9 =>
    Option.bind v8 fun a10 =>
    (x_puti z7 4 a10 4 v9).bind fun f11 =>
    (x_getr f11 3 this 3).bind fun v12 =>
    (x_geti f11 3 this 5).bind fun v13 =>
    Option.bind v12 fun a14 =>
    (x_puti f11 4 a14 5 v13).bind fun f15 =>
    (x_getr f15 3 this 0).bind fun v16 =>
    Option.bind v16 fun a17 =>
    (x_cv f15 2 a17 (F_X2_clear N f15 a17)).bind fun z18 =>
    (x_puti z18 3 this 2 0).bind fun f19 =>
    (x_geti f19 3 this 6).bind fun v20 =>
    (x_puti f19 3 this 6 (v20 + 1)).bind fun f21 =>
    (x_geti f21 3 this 7).bind fun v22 =>
    (x_geti f21 2 a2 2).bind fun v23 =>
    (x_puti f21 3 this 7 (v22 + v23)).bind fun f24 =>
    (x_getr f24 3 this 3).bind fun v25 =>
    Option.bind v25 fun a26 =>
    (x_geti f24 4 a26 3).bind fun v27 =>
    some (v27, f24)
  else
    some ((-1), z1.2)
set_option maxRecDepth 20000 in
set_option maxHeartbeats 4000000 in
theorem c_X3_rebuild (N : Nat) (f : XM) (this : Nat) (p0 : Int32) (p1 : Nat) (n : Nat) (r : (Int32 × XM)) (hF : F_X3_rebuild N f this p0 p1 = some r) : x_Ct mX3_rebuild 4 114 0 0 [.ref this, .int p0, .ref p1] (f, n) (xr_im r n) := by
  unfold F_X3_rebuild at hF
  refine x_ct (by decide) rfl (Nat.le_of_ble_eq_true rfl) ?_
  show X mX3_rebuild 4 114 _ _ 0 0 0 [(0, .ref this), (1, .int p0), (2, .ref p1)] [] (f, n)
  refine x_aload_n 2 dX3_rebuild_0 rfl rfl ?_
  refine x_aload_n 0 dX3_rebuild_1 rfl rfl ?_
  obtain ⟨z1, hzz1, hF⟩ := x_bind hF
  obtain ⟨⟨fsz1, hbz1⟩, hzz1⟩ := x_cv_sp hzz1
  refine x_callv (As := [.ref this]) (rest := []) 0 0 dX3_rebuild_2 mi_X0_gather ml_X3_89 rfl rfl (Nat.le_of_ble_eq_true rfl) ⟨by decide, by decide⟩ (by omega) (by omega) hbz1 rfl (c_X0_gather N _ _ _ _ _ hzz1) (x_K.some ?_) x_KX.none
  refine x_astore_nq (i := 3) (lv' := [(3, va_rf z1.1), (0, .ref this), (1, .int p0), (2, .ref p1)]) dX3_rebuild_5 rfl (by decide) rfl ?_
  refine x_aload_nq 0 dX3_rebuild_6 rfl rfl ?_
  refine x_nn hF (fun a2 ha2 hF => ?_)
  rw [ha2]
  refine x_geti_r dX3_rebuild_7 fl_X3_66 hF (fun v3 hF => ?_)
  refine x_sipush 160 (by decide) dX3_rebuild_10 ?_
  refine x_icmp_le 18 dX3_rebuild_13 (by decide) hF (fun hF => ?_) (fun hF => ?_)
  · refine x_aload_n 1 dX3_rebuild_18 rfl rfl ?_
    refine x_getr_r dX3_rebuild_19 fl_X3_27 hF (fun v4 hF => ?_)
    refine x_aload_n 0 dX3_rebuild_22 rfl rfl ?_
    refine x_aload_n 1 dX3_rebuild_23 rfl rfl ?_
    refine x_iload_n 2 dX3_rebuild_24 rfl rfl ?_
    obtain ⟨z5, hzz5, hF⟩ := x_bind hF
    obtain ⟨⟨fsz5, hbz5⟩, hzz5⟩ := x_cv_sp hzz5
    refine x_callv (As := [.int p0]) (rest := [.ref a2, va_rf v4]) 0 0 dX3_rebuild_25 mi_X3_eachIfBuilt ml_X3_93 rfl rfl (by simp only [List.map_cons, List.map_nil, x_rfc]; exact Nat.le_of_ble_eq_true rfl) ⟨by decide, by decide⟩ (by omega) (by omega) hbz5 rfl (c_X3_eachIfBuilt N _ _ _ _ _ hzz5) (x_K.some ?_) x_KX.none
    refine x_nn hF (fun a6 ha6 hF => ?_)
    rw [ha6]
    obtain ⟨z7, hzz7, hF⟩ := x_bind hF
    obtain ⟨⟨fsz7, hbz7⟩, hzz7⟩ := x_cv_sp hzz7
    refine x_callv (As := [.ref a2, .int z5]) (rest := []) 0 0 dX3_rebuild_28 mi_X4_buildOutOf ml_X3_96 rfl rfl (Nat.le_of_ble_eq_true rfl) ⟨by decide, by decide⟩ (by omega) (by omega) hbz7 rfl (c_X4_buildOutOf N _ _ _ _ _ _ hzz7) (x_K.none ?_) x_KX.none
    refine x_aload_n 1 dX3_rebuild_31 rfl rfl ?_
    refine x_getr_r dX3_rebuild_32 fl_X3_27 hF (fun v8 hF => ?_)
    refine x_aload_n 1 dX3_rebuild_35 rfl rfl ?_
    refine x_geti_r dX3_rebuild_36 fl_X3_31 hF (fun v9 hF => ?_)
    refine x_nn hF (fun a10 ha10 hF => ?_)
    rw [ha10]
    refine x_puti_r dX3_rebuild_39 fl_X3_100 (fun h9 => by cases h9) hF (fun f11 hF => ?_)
    refine x_aload_n 1 dX3_rebuild_42 rfl rfl ?_
    refine x_getr_r dX3_rebuild_43 fl_X3_27 hF (fun v12 hF => ?_)
    refine x_aload_n 1 dX3_rebuild_46 rfl rfl ?_
    refine x_geti_r dX3_rebuild_47 fl_X3_35 hF (fun v13 hF => ?_)
    refine x_nn hF (fun a14 ha14 hF => ?_)
    rw [ha14]
    refine x_puti_r dX3_rebuild_50 fl_X3_101 (fun h9 => by cases h9) hF (fun f15 hF => ?_)
    refine x_aload_n 1 dX3_rebuild_53 rfl rfl ?_
    refine x_getr_r dX3_rebuild_54 fl_X3_14 hF (fun v16 hF => ?_)
    refine x_nn hF (fun a17 ha17 hF => ?_)
    rw [ha17]
    obtain ⟨z18, hzz18, hF⟩ := x_bind hF
    obtain ⟨⟨fsz18, hbz18⟩, hzz18⟩ := x_cv_sp hzz18
    refine x_callv (As := []) (rest := []) 0 0 dX3_rebuild_57 mi_X2_clear ml_X3_80 rfl rfl (Nat.le_of_ble_eq_true rfl) ⟨by decide, by decide⟩ (by omega) (by omega) hbz18 rfl (c_X2_clear N _ _ _ _ hzz18) (x_K.none ?_) x_KX.none
    refine x_aload_n 1 dX3_rebuild_60 rfl rfl ?_
    refine x_iconst 0 (by decide) dX3_rebuild_61 ?_
    refine x_puti_r dX3_rebuild_62 fl_X3_42 (fun h9 => by cases h9) hF (fun f19 hF => ?_)
    refine x_aload_n 1 dX3_rebuild_65 rfl rfl ?_
    refine x_dupr dX3_rebuild_66 ?_
    refine x_geti_r dX3_rebuild_67 fl_X3_52 hF (fun v20 hF => ?_)
    refine x_iconst 1 (by decide) dX3_rebuild_70 ?_
    refine x_iadd dX3_rebuild_71 ?_
    refine x_puti_r dX3_rebuild_72 fl_X3_52 (fun h9 => by cases h9) hF (fun f21 hF => ?_)
    refine x_aload_n 1 dX3_rebuild_75 rfl rfl ?_
    refine x_dupr dX3_rebuild_76 ?_
    refine x_geti_r dX3_rebuild_77 fl_X3_55 hF (fun v22 hF => ?_)
    refine x_aload_n 0 dX3_rebuild_80 rfl rfl ?_
    refine x_geti_r dX3_rebuild_81 fl_X3_66 hF (fun v23 hF => ?_)
    refine x_iadd dX3_rebuild_84 ?_
    refine x_puti_r dX3_rebuild_85 fl_X3_55 (fun h9 => by cases h9) hF (fun f24 hF => ?_)
    refine x_aload_n 1 dX3_rebuild_88 rfl rfl ?_
    refine x_getr_r dX3_rebuild_89 fl_X3_27 hF (fun v25 hF => ?_)
    refine x_nn hF (fun a26 ha26 hF => ?_)
    rw [ha26]
    refine x_geti_r dX3_rebuild_92 fl_X3_102 hF (fun v27 hF => ?_)
    exact x_iret dX3_rebuild_95 rfl (by cases hF; rfl)
  · refine x_iconst (-1) (by decide) dX3_rebuild_16 ?_
    exact x_iret dX3_rebuild_17 rfl (by cases hF; rfl)
def F_X4_init (N : Nat) (h : XH) (this : Nat) : Option XH :=
  (x_new (h.1, h.2) 2 [.null, .null, .int 0]).bind fun z1 =>
  (F_X2_init N (z1.2.1, z1.2.2) z1.1 160).bind fun z2 =>
  (x_putr z2.1 4 this 0 (some z1.1)).bind fun f3 =>
  (x_newi (f3, z2.2) 160).bind fun z4 =>
  (x_putr z4.2.1 4 this 1 (some z4.1)).bind fun f5 =>
  (x_newi (f5, z4.2.2) 512).bind fun z6 =>
  (x_putr z6.2.1 4 this 2 (some z6.1)).bind fun f7 =>
  some (f7, z6.2.2)
set_option maxRecDepth 20000 in
set_option maxHeartbeats 4000000 in
theorem c_X4_init (N : Nat) (h : XH) (this : Nat) (r : XH) (hF : F_X4_init N h this = some r) : x_Ct mX4_init 2 42 5 995 [.ref this] h (xr_va r) := by
  unfold F_X4_init at hF
  refine x_ct (by decide) rfl (Nat.le_of_ble_eq_true rfl) ?_
  show X mX4_init 2 42 _ _ 5 995 0 [(0, .ref this)] [] h
  refine x_aload_n 0 dX4_init_0 rfl rfl ?_
  refine x_oinit dX4_init_1 ml_X4_3 jd_oi jd_oc (by decide) (by decide) (Nat.le_of_ble_eq_true rfl) ?_
  refine x_aload_n 0 dX4_init_4 rfl rfl ?_
  refine x_new_r 4 992 dX4_init_5 cl_X4_9 (by omega) (by omega) hF (fun z1 hF => ?_)
  refine x_dupr dX4_init_8 ?_
  refine x_sipush 160 (by decide) dX4_init_9 ?_
  obtain ⟨z2, hzz2, hF⟩ := x_bind hF
  refine x_calli (As := [.int 160]) (rest := [.ref z1.1, .ref this]) 2 672 dX4_init_12 mi_X2_init ml_X4_11 rfl rfl (Nat.le_of_ble_eq_true rfl) ⟨by decide, by decide⟩ (by omega) (by omega) (c_X2_init N _ _ _ _ 320 (by decide) hzz2) ?_
  refine x_toX (st' := [.ref z1.1, .ref this]) rfl ?_
  refine x_putr_r (v := (some z1.1)) dX4_init_15 fl_X4_14 rfl (fun h9 => ⟨rfl, rfl⟩) hF (fun f3 hF => ?_)
  refine x_aload_n 0 dX4_init_18 rfl rfl ?_
  refine x_sipush 160 (by decide) dX4_init_19 ?_
  refine x_newi_r 1 512 dX4_init_22 ac_int (by omega) (by show 512 + 160 ≤ 672; omega) hF (fun z4 hF => ?_)
  refine x_putr_r (v := (some z4.1)) dX4_init_24 fl_X4_20 rfl (fun h9 => ⟨rfl, rfl⟩) hF (fun f5 hF => ?_)
  refine x_aload_n 0 dX4_init_27 rfl rfl ?_
  refine x_sipush 512 (by decide) dX4_init_28 ?_
  refine x_newi_r 0 0 dX4_init_31 ac_int (by omega) (by show 0 + 512 ≤ 512; omega) hF (fun z6 hF => ?_)
  refine x_putr_r (v := (some z6.1)) dX4_init_33 fl_X4_24 rfl (fun h9 => ⟨rfl, rfl⟩) hF (fun f7 hF => ?_)
  exact x_vret dX4_init_36 rfl (by cases hF; rfl)
def F_X3_init_L49 (N : Nat) (c0 : Nat) (K : Int32 → XH → Option XH) : Nat → Int32 → XH → Option XH
  | 0, _, _ => none
  | k + 1, x1, h =>
    (x_getr h.1 3 c0 1).bind fun v12 =>
    Option.bind v12 fun a13 =>
    (x_alen h.1 a13).bind fun v14 =>
    if v14 ≤ x1 then
      K x1 (h.1, h.2)
    else
      (x_getr h.1 3 c0 1).bind fun v15 =>
      (x_new (h.1, h.2) 2 [.null, .null, .int 0]).bind fun z16 =>
      (F_X2_init N (z16.2.1, z16.2.2) z16.1 60).bind fun z17 =>
      Option.bind v15 fun a18 =>
      (x_astr z17.1 2 a18 x1 (some z16.1)).bind fun f19 =>
      F_X3_init_L49 N c0 K k (x1 + 1) (f19, z17.2)
def F_X3_init (N : Nat) (h : XH) (this : Nat) : Option XH :=
  (x_new (h.1, h.2) 2 [.null, .null, .int 0]).bind fun z1 =>
  (F_X2_init N (z1.2.1, z1.2.2) z1.1 12).bind fun z2 =>
  (x_putr z2.1 3 this 0 (some z1.1)).bind fun f3 =>
  (x_newr (f3, z2.2) 2 6).bind fun z4 =>
  (x_putr z4.2.1 3 this 1 (some z4.1)).bind fun f5 =>
  (x_new (f5, z4.2.2) 4 [.null, .null, .null, .int 0, .int 0, .int 0]).bind fun z6 =>
  (F_X4_init N (z6.2.1, z6.2.2) z6.1).bind fun z7 =>
  (x_putr z7.1 3 this 3 (some z6.1)).bind fun f8 =>
  (x_puti f8 3 this 4 4).bind fun f9 =>
  (x_puti f9 3 this 5 3).bind fun f10 =>
  F_X3_init_L49 N this (fun y1_20 g20 =>
  some (g20.1, g20.2)) 7 0 (f10, z7.2)
set_option maxRecDepth 20000 in
set_option maxHeartbeats 4000000 in
theorem w_X3_init_L49 (N : Nat) (c0 : Nat) (K : Int32 → XH → Option XH) (r : XH) {rc rs : Nat} : ∀ (k : Nat) (x1 : Int32) (h : XH), F_X3_init_L49 N c0 K k x1 h = some r → (∀ (x1 : Int32) (h : XH), K x1 h = some r → X mX3_init 3 62 (x_end (xr_va r)) x_noRO rc rs 79 [(0, .ref c0), (1, .int x1)] [] h) → X mX3_init 3 62 (x_end (xr_va r)) x_noRO (rc + 3 * k) (rs + 123 * k) 49 [(0, .ref c0), (1, .int x1)] [] h := by
  intro k
  induction k with
  | zero =>
    intro x1 h hF
    exact absurd hF (by intro h9; cases h9)
  | succ k ih =>
    intro x1 h hF hK
    have ih := fun x1 h hF => ih x1 h hF hK
    rw [F_X3_init_L49] at hF
    refine x_iload_n 1 dX3_init_49 rfl rfl ?_
    refine x_aload_n 0 dX3_init_50 rfl rfl ?_
    refine x_getr_r dX3_init_51 fl_X3_20 hF (fun v12 hF => ?_)
    refine x_nn hF (fun a13 ha13 hF => ?_)
    rw [ha13]
    refine x_alen_r dX3_init_54 hF (fun v14 hF => ?_)
    refine x_icmp_ge 79 dX3_init_55 (by decide) hF (fun hF => ?_) (fun hF => ?_)
    · refine x_less (rc' := rc) (rs' := rs) (by omega) (by omega) ?_
      refine x_sub [0, 1] rfl ?_
      exact hK _ _ hF
    · refine x_aload_n 0 dX3_init_58 rfl rfl ?_
      refine x_getr_r dX3_init_59 fl_X3_20 hF (fun v15 hF => ?_)
      refine x_iload_n 1 dX3_init_62 rfl rfl ?_
      refine x_new_r (rc + 3 * k + 2) (rs + 123 * k + 120) dX3_init_63 cl_X3_9 (by omega) (by omega) hF (fun z16 hF => ?_)
      refine x_dupr dX3_init_66 ?_
      refine x_bipush 60 (by decide) dX3_init_67 ?_
      obtain ⟨z17, hzz17, hF⟩ := x_bind hF
      refine x_calli (As := [.int 60]) (rest := [.ref z16.1, .int x1, va_rf v15]) (rc + 3 * k + 0) (rs + 123 * k + 0) dX3_init_69 mi_X2_init ml_X3_11 rfl rfl (by simp only [List.map_cons, List.map_nil, x_rfc]; exact Nat.le_of_ble_eq_true rfl) ⟨by decide, by decide⟩ (by omega) (by omega) (c_X2_init N _ _ _ _ 120 (by decide) hzz17) ?_
      refine x_toX (st' := [.ref z16.1, .int x1, va_rf v15]) rfl ?_
      refine x_nn hF (fun a18 ha18 hF => ?_)
      rw [ha18]
      refine x_astr_r (r := (some z16.1)) 2 dX3_init_72 hF (fun f19 hF => ?_)
      refine x_iinc (x1 + 1) (lv' := [(1, .int (x1 + 1)), (0, .ref c0)]) dX3_init_73 1 rfl (by rfl) (by decide) rfl ?_
      refine x_goto 49 dX3_init_76 (by decide) ?_
      refine x_sub [1, 0] rfl ?_
      exact ih _ _ hF
set_option maxRecDepth 20000 in
set_option maxHeartbeats 4000000 in
theorem c_X3_init (N : Nat) (h : XH) (this : Nat) (r : XH) (hF : F_X3_init N h this = some r) : x_Ct mX3_init 3 62 31 1895 [.ref this] h (xr_va r) := by
  unfold F_X3_init at hF
  refine x_ct (by decide) rfl (Nat.le_of_ble_eq_true rfl) ?_
  show X mX3_init 3 62 _ _ 31 1895 0 [(0, .ref this)] [] h
  refine x_aload_n 0 dX3_init_0 rfl rfl ?_
  refine x_oinit dX3_init_1 ml_X3_3 jd_oi jd_oc (by decide) (by decide) (Nat.le_of_ble_eq_true rfl) ?_
  refine x_aload_n 0 dX3_init_4 rfl rfl ?_
  refine x_new_r 30 1892 dX3_init_5 cl_X3_9 (by omega) (by omega) hF (fun z1 hF => ?_)
  refine x_dupr dX3_init_8 ?_
  refine x_bipush 12 (by decide) dX3_init_9 ?_
  obtain ⟨z2, hzz2, hF⟩ := x_bind hF
  refine x_calli (As := [.int 12]) (rest := [.ref z1.1, .ref this]) 28 1868 dX3_init_11 mi_X2_init ml_X3_11 rfl rfl (Nat.le_of_ble_eq_true rfl) ⟨by decide, by decide⟩ (by omega) (by omega) (c_X2_init N _ _ _ _ 24 (by decide) hzz2) ?_
  refine x_toX (st' := [.ref z1.1, .ref this]) rfl ?_
  refine x_putr_r (v := (some z1.1)) dX3_init_14 fl_X3_14 rfl (fun h9 => ⟨rfl, rfl⟩) hF (fun f3 hF => ?_)
  refine x_aload_n 0 dX3_init_17 rfl rfl ?_
  refine x_bipush 6 (by decide) dX3_init_18 ?_
  refine x_newr_r 2 27 1862 dX3_init_20 cl_X3_9w ao_X2 (by omega) (by show 1862 + 6 ≤ 1868; omega) hF (fun z4 hF => ?_)
  refine x_putr_r (v := (some z4.1)) dX3_init_23 fl_X3_20 rfl (fun h9 => ⟨rfl, rfl⟩) hF (fun f5 hF => ?_)
  refine x_aload_n 0 dX3_init_26 rfl rfl ?_
  refine x_new_r 26 1856 dX3_init_27 cl_X3_24 (by omega) (by omega) hF (fun z6 hF => ?_)
  refine x_dupr dX3_init_30 ?_
  obtain ⟨z7, hzz7, hF⟩ := x_bind hF
  refine x_calliN (As := []) (rest := [.ref z6.1, .ref this]) 21 861 dX3_init_31 mi_X4_init ml_X3_26 rfl rfl (Nat.le_of_ble_eq_true rfl) ⟨by decide, by decide⟩ (by omega) (by omega) (c_X4_init N _ _ _ hzz7) ?_
  refine x_toX (st' := [.ref z6.1, .ref this]) rfl ?_
  refine x_putr_r (v := (some z6.1)) dX3_init_34 fl_X3_27 rfl (fun h9 => ⟨rfl, rfl⟩) hF (fun f8 hF => ?_)
  refine x_aload_n 0 dX3_init_37 rfl rfl ?_
  refine x_iconst 4 (by decide) dX3_init_38 ?_
  refine x_puti_r dX3_init_39 fl_X3_31 (fun h9 => by cases h9) hF (fun f9 hF => ?_)
  refine x_aload_n 0 dX3_init_42 rfl rfl ?_
  refine x_iconst 3 (by decide) dX3_init_43 ?_
  refine x_puti_r dX3_init_44 fl_X3_35 (fun h9 => by cases h9) hF (fun f10 hF => ?_)
  refine x_iconst 0 (by decide) dX3_init_47 ?_
  refine x_istore_n (i := 1) (lv' := [(1, .int 0), (0, .ref this)]) dX3_init_48 rfl (by decide) rfl ?_
  refine x_sub [1, 0] rfl ?_
  refine x_less (rc' := 0 + 3 * 7) (rs' := 0 + 123 * 7) (by omega) (by omega) ?_
  refine w_X3_init_L49 N _ _ r _ _ _ hF (fun y1_20 g20 hF => ?_)
  exact x_vret dX3_init_79 rfl (by cases hF; rfl)
def F_X4_childCount (N : Nat) (f : XM) (this : Nat) (p0 : Int32) (p1 : Int32) : Option Int32 :=
  (x_geti f 4 this 5).bind fun v1 =>
  (x_cv f 4 this (F_X4_nodeCount N f this (p0 - 1))).bind fun z2 =>
  (x_geti f 4 this 5).bind fun v3 =>
  some (x_imin v1 (z2 - (p1 * v3)))
set_option maxRecDepth 20000 in
set_option maxHeartbeats 4000000 in
theorem c_X4_childCount (N : Nat) (f : XM) (this : Nat) (p0 : Int32) (p1 : Int32) (n : Nat) (r : Int32) (hF : F_X4_childCount N f this p0 p1 = some r) : x_Ct mX4_childCount 2 44 0 0 [.ref this, .int p0, .int p1] (f, n) (xr_ip r (f, n)) := by
  unfold F_X4_childCount at hF
  refine x_ct (by decide) rfl (Nat.le_of_ble_eq_true rfl) ?_
  show X mX4_childCount 2 44 _ _ 0 0 0 [(0, .ref this), (1, .int p0), (2, .int p1)] [] (f, n)
  refine x_aload_n 0 dX4_childCount_0 rfl rfl ?_
  refine x_geti_r dX4_childCount_1 fl_X4_45 hF (fun v1 hF => ?_)
  refine x_aload_n 0 dX4_childCount_4 rfl rfl ?_
  refine x_iload_n 1 dX4_childCount_5 rfl rfl ?_
  refine x_iconst 1 (by decide) dX4_childCount_6 ?_
  refine x_isub dX4_childCount_7 ?_
  obtain ⟨z2, hzz2, hF⟩ := x_bind hF
  obtain ⟨⟨fsz2, hbz2⟩, hzz2⟩ := x_cv_sp hzz2
  refine x_callv (As := [.int (p0 - 1)]) (rest := [.int v1]) 0 0 dX4_childCount_8 mi_X4_nodeCount ml_X4_114 rfl rfl (Nat.le_of_ble_eq_true rfl) ⟨by decide, by decide⟩ (by omega) (by omega) hbz2 rfl (c_X4_nodeCount N _ _ _ _ _ hzz2) (x_K.some ?_) x_KX.none
  refine x_iload_n 2 dX4_childCount_11 rfl rfl ?_
  refine x_aload_n 0 dX4_childCount_12 rfl rfl ?_
  refine x_geti_r dX4_childCount_13 fl_X4_45 hF (fun v3 hF => ?_)
  refine x_imul dX4_childCount_16 ?_
  refine x_isub dX4_childCount_17 ?_
  refine x_mmin dX4_childCount_18 ml_X4_117 jd_mins jd_mi jd_minc (by decide) (by decide) (Nat.le_of_ble_eq_true rfl) ?_
  exact x_iret dX4_childCount_21 rfl (by cases hF; rfl)
def F_X3_closeOpen (N : Nat) (f : XM) (this : Nat) : Option (Int32 × XM) :=
  (x_geti f 3 this 2).bind fun v1 =>
  (x_cv f 3 this (F_X3_closedOn N f this v1)).bind fun z2 =>
  (x_getr f 3 this 0).bind fun v3 =>
  Option.bind v3 fun a4 =>
  (x_geti f 2 a4 2).bind fun v5 =>
  if v5 = 0 then
    some ((-1), f)
  else
    Option.elim z2
      (some ((-1), f))
      (fun a6 => (x_getr f 3 this 0).bind fun v7 =>
      Option.bind v7 fun a8 =>
      (x_cv f 2 a6 (F_X2_copyFrom N f a6 a8)).bind fun z9 =>
      (x_getr z9 3 this 0).bind fun v10 =>
      Option.bind v10 fun a11 =>
      (x_cv z9 2 a11 (F_X2_clear N z9 a11)).bind fun z12 =>
      (x_geti z12 3 this 2).bind fun v13 =>
      (x_puti z12 3 this 2 (v13 + 1)).bind fun f14 =>
      (x_geti f14 3 this 2).bind fun v15 =>
      some (v15, f14))
set_option maxRecDepth 20000 in
set_option maxHeartbeats 4000000 in
theorem c_X3_closeOpen (N : Nat) (f : XM) (this : Nat) (n : Nat) (r : (Int32 × XM)) (hF : F_X3_closeOpen N f this = some r) : x_Ct mX3_closeOpen 3 90 0 0 [.ref this] (f, n) (xr_im r n) := by
  unfold F_X3_closeOpen at hF
  refine x_ct (by decide) rfl (Nat.le_of_ble_eq_true rfl) ?_
  show X mX3_closeOpen 3 90 _ _ 0 0 0 [(0, .ref this)] [] (f, n)
  refine x_aload_n 0 dX3_closeOpen_0 rfl rfl ?_
  refine x_aload_n 0 dX3_closeOpen_1 rfl rfl ?_
  refine x_geti_r dX3_closeOpen_2 fl_X3_42 hF (fun v1 hF => ?_)
  obtain ⟨z2, hzz2, hF⟩ := x_bind hF
  obtain ⟨⟨fsz2, hbz2⟩, hzz2⟩ := x_cv_sp hzz2
  refine x_callv (As := [.int v1]) (rest := []) 0 0 dX3_closeOpen_5 mi_X3_closedOn ml_X3_45 rfl rfl (Nat.le_of_ble_eq_true rfl) ⟨by decide, by decide⟩ (by omega) (by omega) hbz2 rfl (c_X3_closedOn N _ _ _ _ _ hzz2) (x_K.some ?_) x_KX.none
  refine x_astore_nq (i := 1) (lv' := [(1, va_rf z2), (0, .ref this)]) dX3_closeOpen_8 rfl (by decide) rfl ?_
  refine x_aload_n 1 dX3_closeOpen_9 rfl rfl ?_
  refine x_getr_r dX3_closeOpen_10 fl_X3_14 hF (fun v3 hF => ?_)
  refine x_nn hF (fun a4 ha4 hF => ?_)
  rw [ha4]
  refine x_geti_r dX3_closeOpen_13 fl_X3_66 hF (fun v5 hF => ?_)
  refine x_if_eq 23 dX3_closeOpen_16 (by decide) hF (fun hF => ?_) (fun hF => ?_)
  · refine x_iconst (-1) (by decide) dX3_closeOpen_23 ?_
    exact x_iret dX3_closeOpen_24 rfl (by cases hF; rfl)
  · refine x_aload_nq 0 dX3_closeOpen_19 rfl rfl ?_
    refine x_ifnonnull 25 dX3_closeOpen_20 (by decide) hF (fun _ hF => ?_) (fun a6 ha6 hF => ?_)
    · refine x_iconst (-1) (by decide) dX3_closeOpen_23 ?_
      exact x_iret dX3_closeOpen_24 rfl (by cases hF; rfl)
    · (try rw [ha6])
      refine x_aload_n 0 dX3_closeOpen_25 rfl rfl ?_
      refine x_aload_n 1 dX3_closeOpen_26 rfl rfl ?_
      refine x_getr_r dX3_closeOpen_27 fl_X3_14 hF (fun v7 hF => ?_)
      refine x_nn hF (fun a8 ha8 hF => ?_)
      rw [ha8]
      obtain ⟨z9, hzz9, hF⟩ := x_bind hF
      obtain ⟨⟨fsz9, hbz9⟩, hzz9⟩ := x_cv_sp hzz9
      refine x_callv (As := [.ref a8]) (rest := []) 0 0 dX3_closeOpen_30 mi_X2_copyFrom ml_X3_38 rfl rfl (Nat.le_of_ble_eq_true rfl) ⟨by decide, by decide⟩ (by omega) (by omega) hbz9 rfl (c_X2_copyFrom N _ _ _ _ _ hzz9) (x_K.none ?_) x_KX.none
      refine x_aload_n 1 dX3_closeOpen_33 rfl rfl ?_
      refine x_getr_r dX3_closeOpen_34 fl_X3_14 hF (fun v10 hF => ?_)
      refine x_nn hF (fun a11 ha11 hF => ?_)
      rw [ha11]
      obtain ⟨z12, hzz12, hF⟩ := x_bind hF
      obtain ⟨⟨fsz12, hbz12⟩, hzz12⟩ := x_cv_sp hzz12
      refine x_callv (As := []) (rest := []) 0 0 dX3_closeOpen_37 mi_X2_clear ml_X3_80 rfl rfl (Nat.le_of_ble_eq_true rfl) ⟨by decide, by decide⟩ (by omega) (by omega) hbz12 rfl (c_X2_clear N _ _ _ _ hzz12) (x_K.none ?_) x_KX.none
      refine x_aload_n 1 dX3_closeOpen_40 rfl rfl ?_
      refine x_dupr dX3_closeOpen_41 ?_
      refine x_geti_r dX3_closeOpen_42 fl_X3_42 hF (fun v13 hF => ?_)
      refine x_iconst 1 (by decide) dX3_closeOpen_45 ?_
      refine x_iadd dX3_closeOpen_46 ?_
      refine x_puti_r dX3_closeOpen_47 fl_X3_42 (fun h9 => by cases h9) hF (fun f14 hF => ?_)
      refine x_aload_n 1 dX3_closeOpen_50 rfl rfl ?_
      refine x_geti_r dX3_closeOpen_51 fl_X3_42 hF (fun v15 hF => ?_)
      exact x_iret dX3_closeOpen_54 rfl (by cases hF; rfl)
def F_X3_runTelling_L2 (N : Nat) (f : XM) (c0 : Nat) (c1 : Int32) (K : Int32 → Option Int32) : Nat → Int32 → Option Int32
  | 0, _ => none
  | k + 1, x2 =>
    (x_geti f 3 c0 2).bind fun v2 =>
    if v2 < x2 then
      K x2
    else
      (x_cv f 3 c0 (F_X3_runOn N f c0 x2)).bind fun z3 =>
      Option.elim z3
        (F_X3_runTelling_L2 N f c0 c1 K k (x2 + 1))
        (fun a4 => (x_cv f 2 a4 (F_X2_placeOf N f a4 c1)).bind fun z5 =>
        if z5 = (-1) then
          F_X3_runTelling_L2 N f c0 c1 K k (x2 + 1)
        else
          some x2)
def F_X3_runTelling (N : Nat) (f : XM) (this : Nat) (p0 : Int32) : Option Int32 :=
  F_X3_runTelling_L2 N f this p0 (fun y2_6 =>
  some (-1)) N 0
set_option maxRecDepth 20000 in
set_option maxHeartbeats 4000000 in
theorem w_X3_runTelling_L2 (N : Nat) (f : XM) (c0 : Nat) (c1 : Int32) (K : Int32 → Option Int32) (n : Nat) (r : Int32) {rc rs : Nat} : ∀ (k : Nat) (x2 : Int32), F_X3_runTelling_L2 N f c0 c1 K k x2 = some r → (∀ (x2 : Int32), K x2 = some r → X mX3_runTelling 2 47 (x_end (xr_ip r (f, n))) x_noRO rc rs 37 [(0, .ref c0), (1, .int c1), (2, .int x2)] [] (f, n)) → X mX3_runTelling 2 47 (x_end (xr_ip r (f, n))) x_noRO rc rs 2 [(0, .ref c0), (1, .int c1), (2, .int x2)] [] (f, n) := by
  intro k
  induction k with
  | zero =>
    intro x2 hF
    exact absurd hF (by intro h9; cases h9)
  | succ k ih =>
    intro x2 hF hK
    have ih := fun x2 hF => ih x2 hF hK
    rw [F_X3_runTelling_L2] at hF
    refine x_iload_n 2 dX3_runTelling_2 rfl rfl ?_
    refine x_aload_n 0 dX3_runTelling_3 rfl rfl ?_
    refine x_geti_r dX3_runTelling_4 fl_X3_42 hF (fun v2 hF => ?_)
    refine x_icmp_gt 37 dX3_runTelling_7 (by decide) hF (fun hF => ?_) (fun hF => ?_)
    · refine x_sub [0, 1, 2] rfl ?_
      exact hK _ hF
    · refine x_aload_n 0 dX3_runTelling_10 rfl rfl ?_
      refine x_iload_n 2 dX3_runTelling_11 rfl rfl ?_
      obtain ⟨z3, hzz3, hF⟩ := x_bind hF
      obtain ⟨⟨fsz3, hbz3⟩, hzz3⟩ := x_cv_sp hzz3
      refine x_callv (As := [.int x2]) (rest := []) (rc + 0) (rs + 0) dX3_runTelling_12 mi_X3_runOn ml_X3_115 rfl rfl (Nat.le_of_ble_eq_true rfl) ⟨by decide, by decide⟩ (by omega) (by omega) hbz3 rfl (c_X3_runOn N _ _ _ _ _ hzz3) (x_K.some ?_) x_KX.none
      refine x_astore_nq (i := 3) (lv' := [(3, va_rf z3), (0, .ref c0), (1, .int c1), (2, .int x2)]) dX3_runTelling_15 rfl (by decide) rfl ?_
      refine x_aload_nq 0 dX3_runTelling_16 rfl rfl ?_
      refine x_ifnull 31 dX3_runTelling_17 (by decide) hF (fun _ hF => ?_) (fun a4 ha4 hF => ?_)
      · refine x_iinc (x2 + 1) (lv' := [(2, .int (x2 + 1)), (3, va_rf z3), (0, .ref c0), (1, .int c1)]) dX3_runTelling_31 3 rfl (by rfl) (by decide) rfl ?_
        refine x_goto 2 dX3_runTelling_34 (by decide) ?_
        refine x_sub [2, 3, 0] rfl ?_
        exact ih _ hF
      · (try rw [ha4])
        refine x_aload_n 0 dX3_runTelling_20 rfl rfl ?_
        refine x_iload_n 2 dX3_runTelling_21 rfl rfl ?_
        obtain ⟨z5, hzz5, hF⟩ := x_bind hF
        obtain ⟨⟨fsz5, hbz5⟩, hzz5⟩ := x_cv_sp hzz5
        refine x_callv (As := [.int c1]) (rest := []) (rc + 0) (rs + 0) dX3_runTelling_22 mi_X2_placeOf ml_X3_58 rfl rfl (Nat.le_of_ble_eq_true rfl) ⟨by decide, by decide⟩ (by omega) (by omega) hbz5 rfl (c_X2_placeOf N _ _ _ _ _ hzz5) (x_K.some ?_) x_KX.none
        refine x_iconst (-1) (by decide) dX3_runTelling_25 ?_
        refine x_icmp_eq 31 dX3_runTelling_26 (by decide) hF (fun hF => ?_) (fun hF => ?_)
        · refine x_iinc (x2 + 1) (lv' := [(2, .int (x2 + 1)), (3, .ref a4), (0, .ref c0), (1, .int c1)]) dX3_runTelling_31 3 rfl (by rfl) (by decide) rfl ?_
          refine x_goto 2 dX3_runTelling_34 (by decide) ?_
          refine x_sub [2, 3, 0] rfl ?_
          exact ih _ hF
        · refine x_iload_n 3 dX3_runTelling_29 rfl rfl ?_
          exact x_iret dX3_runTelling_30 rfl (by cases hF; rfl)
set_option maxRecDepth 20000 in
set_option maxHeartbeats 4000000 in
theorem c_X3_runTelling (N : Nat) (f : XM) (this : Nat) (p0 : Int32) (n : Nat) (r : Int32) (hF : F_X3_runTelling N f this p0 = some r) : x_Ct mX3_runTelling 2 47 0 0 [.ref this, .int p0] (f, n) (xr_ip r (f, n)) := by
  unfold F_X3_runTelling at hF
  refine x_ct (by decide) rfl (Nat.le_of_ble_eq_true rfl) ?_
  show X mX3_runTelling 2 47 _ _ 0 0 0 [(0, .ref this), (1, .int p0)] [] (f, n)
  refine x_iconst 0 (by decide) dX3_runTelling_0 ?_
  refine x_istore_n (i := 2) (lv' := [(2, .int 0), (0, .ref this), (1, .int p0)]) dX3_runTelling_1 rfl (by decide) rfl ?_
  refine x_sub [1, 2, 0] rfl ?_
  refine w_X3_runTelling_L2 N _ _ _ _ _ r _ _ hF (fun y2_6 hF => ?_)
  refine x_iconst (-1) (by decide) dX3_runTelling_37 ?_
  exact x_iret dX3_runTelling_38 rfl (by cases hF; rfl)
def F_X3_countOwn_L6 (N : Nat) (f : XM) (c0 : Nat) (c1 : Nat) (c2 : Int32) (c3 : Int32) (c4 : Int32) (K : Int32 → Int32 → Option Int32) : Nat → Int32 → Int32 → Option Int32
  | 0, _, _ => none
  | k + 1, x5, x6 =>
    (x_geti f 2 c1 2).bind fun v2 =>
    if v2 ≤ x6 then
      K x5 x6
    else
      (x_cv f 2 c1 (F_X2_keyOn N f c1 x6)).bind fun z3 =>
      if z3 < c3 then
        F_X3_countOwn_L6 N f c0 c1 c2 c3 c4 K k x5 (x6 + 1)
      else
        if c4 < z3 then
          F_X3_countOwn_L6 N f c0 c1 c2 c3 c4 K k x5 (x6 + 1)
        else
          (x_cv f 2 c1 (F_X2_valueOn N f c1 x6)).bind fun z4 =>
          if z4 = (-1) then
            F_X3_countOwn_L6 N f c0 c1 c2 c3 c4 K k x5 (x6 + 1)
          else
            (x_cv f 3 c0 (F_X3_runTelling N f c0 z3)).bind fun z5 =>
            if z5 = c2 then
              F_X3_countOwn_L6 N f c0 c1 c2 c3 c4 K k (x5 + 1) (x6 + 1)
            else
              F_X3_countOwn_L6 N f c0 c1 c2 c3 c4 K k x5 (x6 + 1)
def F_X3_countOwn (N : Nat) (f : XM) (this : Nat) (p0 : Nat) (p1 : Int32) (p2 : Int32) (p3 : Int32) : Option Int32 :=
  F_X3_countOwn_L6 N f this p0 p1 p2 p3 (fun y5_6 y6_6 =>
  some y5_6) N 0 0
set_option maxRecDepth 20000 in
set_option maxHeartbeats 4000000 in
theorem w_X3_countOwn_L6 (N : Nat) (f : XM) (c0 : Nat) (c1 : Nat) (c2 : Int32) (c3 : Int32) (c4 : Int32) (K : Int32 → Int32 → Option Int32) (n : Nat) (r : Int32) {rc rs : Nat} : ∀ (k : Nat) (x5 : Int32) (x6 : Int32), F_X3_countOwn_L6 N f c0 c1 c2 c3 c4 K k x5 x6 = some r → (∀ (x5 : Int32) (x6 : Int32), K x5 x6 = some r → X mX3_countOwn 3 70 (x_end (xr_ip r (f, n))) x_noRO rc rs 65 [(0, .ref c0), (1, .ref c1), (2, .int c2), (3, .int c3), (4, .int c4), (5, .int x5), (6, .int x6)] [] (f, n)) → X mX3_countOwn 3 70 (x_end (xr_ip r (f, n))) x_noRO rc rs 6 [(0, .ref c0), (1, .ref c1), (2, .int c2), (3, .int c3), (4, .int c4), (5, .int x5), (6, .int x6)] [] (f, n) := by
  intro k
  induction k with
  | zero =>
    intro x5 x6 hF
    exact absurd hF (by intro h9; cases h9)
  | succ k ih =>
    intro x5 x6 hF hK
    have ih := fun x5 x6 hF => ih x5 x6 hF hK
    rw [F_X3_countOwn_L6] at hF
    refine x_iload 6 dX3_countOwn_6 rfl ?_
    refine x_aload_n 1 dX3_countOwn_8 rfl rfl ?_
    refine x_geti_r dX3_countOwn_9 fl_X3_66 hF (fun v2 hF => ?_)
    refine x_icmp_ge 65 dX3_countOwn_12 (by decide) hF (fun hF => ?_) (fun hF => ?_)
    · refine x_sub [0, 1, 2, 3, 4, 5, 6] rfl ?_
      exact hK _ _ hF
    · refine x_aload_n 1 dX3_countOwn_15 rfl rfl ?_
      refine x_iload 6 dX3_countOwn_16 rfl ?_
      obtain ⟨z3, hzz3, hF⟩ := x_bind hF
      obtain ⟨⟨fsz3, hbz3⟩, hzz3⟩ := x_cv_sp hzz3
      refine x_callv (As := [.int x6]) (rest := []) (rc + 0) (rs + 0) dX3_countOwn_18 mi_X2_keyOn ml_X3_138 rfl rfl (Nat.le_of_ble_eq_true rfl) ⟨by decide, by decide⟩ (by omega) (by omega) hbz3 rfl (c_X2_keyOn N _ _ _ _ _ hzz3) (x_K.some ?_) x_KX.none
      refine x_istore (i := 7) (lv' := [(7, .int z3), (0, .ref c0), (1, .ref c1), (2, .int c2), (3, .int c3), (4, .int c4), (5, .int x5), (6, .int x6)]) dX3_countOwn_21 (by decide) rfl ?_
      refine x_iload 0 dX3_countOwn_23 rfl ?_
      refine x_iload_n 4 dX3_countOwn_25 rfl rfl ?_
      refine x_icmp_lt 59 dX3_countOwn_26 (by decide) hF (fun hF => ?_) (fun hF => ?_)
      · refine x_iinc (x6 + 1) (lv' := [(6, .int (x6 + 1)), (7, .int z3), (0, .ref c0), (1, .ref c1), (2, .int c2), (3, .int c3), (4, .int c4), (5, .int x5)]) dX3_countOwn_59 7 rfl (by rfl) (by decide) rfl ?_
        refine x_goto 6 dX3_countOwn_62 (by decide) ?_
        refine x_sub [2, 3, 4, 5, 6, 7, 0] rfl ?_
        exact ih _ _ hF
      · refine x_iload 0 dX3_countOwn_29 rfl ?_
        refine x_iload 5 dX3_countOwn_31 rfl ?_
        refine x_icmp_gt 59 dX3_countOwn_33 (by decide) hF (fun hF => ?_) (fun hF => ?_)
        · refine x_iinc (x6 + 1) (lv' := [(6, .int (x6 + 1)), (7, .int z3), (0, .ref c0), (1, .ref c1), (2, .int c2), (3, .int c3), (4, .int c4), (5, .int x5)]) dX3_countOwn_59 7 rfl (by rfl) (by decide) rfl ?_
          refine x_goto 6 dX3_countOwn_62 (by decide) ?_
          refine x_sub [2, 3, 4, 5, 6, 7, 0] rfl ?_
          exact ih _ _ hF
        · refine x_aload_n 2 dX3_countOwn_36 rfl rfl ?_
          refine x_iload 7 dX3_countOwn_37 rfl ?_
          obtain ⟨z4, hzz4, hF⟩ := x_bind hF
          obtain ⟨⟨fsz4, hbz4⟩, hzz4⟩ := x_cv_sp hzz4
          refine x_callv (As := [.int x6]) (rest := []) (rc + 0) (rs + 0) dX3_countOwn_39 mi_X2_valueOn ml_X3_121 rfl rfl (Nat.le_of_ble_eq_true rfl) ⟨by decide, by decide⟩ (by omega) (by omega) hbz4 rfl (c_X2_valueOn N _ _ _ _ _ hzz4) (x_K.some ?_) x_KX.none
          refine x_iconst (-1) (by decide) dX3_countOwn_42 ?_
          refine x_icmp_eq 59 dX3_countOwn_43 (by decide) hF (fun hF => ?_) (fun hF => ?_)
          · refine x_iinc (x6 + 1) (lv' := [(6, .int (x6 + 1)), (7, .int z3), (0, .ref c0), (1, .ref c1), (2, .int c2), (3, .int c3), (4, .int c4), (5, .int x5)]) dX3_countOwn_59 7 rfl (by rfl) (by decide) rfl ?_
            refine x_goto 6 dX3_countOwn_62 (by decide) ?_
            refine x_sub [2, 3, 4, 5, 6, 7, 0] rfl ?_
            exact ih _ _ hF
          · refine x_aload_n 1 dX3_countOwn_46 rfl rfl ?_
            refine x_iload 0 dX3_countOwn_47 rfl ?_
            obtain ⟨z5, hzz5, hF⟩ := x_bind hF
            obtain ⟨⟨fsz5, hbz5⟩, hzz5⟩ := x_cv_sp hzz5
            refine x_callv (As := [.int z3]) (rest := []) (rc + 0) (rs + 0) dX3_countOwn_49 mi_X3_runTelling ml_X3_105 rfl rfl (Nat.le_of_ble_eq_true rfl) ⟨by decide, by decide⟩ (by omega) (by omega) hbz5 rfl (c_X3_runTelling N _ _ _ _ _ hzz5) (x_K.some ?_) x_KX.none
            refine x_iload_n 3 dX3_countOwn_52 rfl rfl ?_
            refine x_icmp_ne 59 dX3_countOwn_53 (by decide) hF (fun hF => ?_) (fun hF => ?_)
            · refine x_iinc (x6 + 1) (lv' := [(6, .int (x6 + 1)), (7, .int z3), (0, .ref c0), (1, .ref c1), (2, .int c2), (3, .int c3), (4, .int c4), (5, .int x5)]) dX3_countOwn_59 7 rfl (by rfl) (by decide) rfl ?_
              refine x_goto 6 dX3_countOwn_62 (by decide) ?_
              refine x_sub [2, 3, 4, 5, 6, 7, 0] rfl ?_
              exact ih _ _ hF
            · refine x_iinc (x5 + 1) (lv' := [(5, .int (x5 + 1)), (7, .int z3), (0, .ref c0), (1, .ref c1), (2, .int c2), (3, .int c3), (4, .int c4), (6, .int x6)]) dX3_countOwn_56 6 rfl (by rfl) (by decide) rfl ?_
              refine x_iinc (x6 + 1) (lv' := [(6, .int (x6 + 1)), (5, .int (x5 + 1)), (7, .int z3), (0, .ref c0), (1, .ref c1), (2, .int c2), (3, .int c3), (4, .int c4)]) dX3_countOwn_59 7 rfl (by rfl) (by decide) rfl ?_
              refine x_goto 6 dX3_countOwn_62 (by decide) ?_
              refine x_sub [3, 4, 5, 6, 7, 1, 0] rfl ?_
              exact ih _ _ hF
set_option maxRecDepth 20000 in
set_option maxHeartbeats 4000000 in
theorem c_X3_countOwn (N : Nat) (f : XM) (this : Nat) (p0 : Nat) (p1 : Int32) (p2 : Int32) (p3 : Int32) (n : Nat) (r : Int32) (hF : F_X3_countOwn N f this p0 p1 p2 p3 = some r) : x_Ct mX3_countOwn 3 70 0 0 [.ref this, .ref p0, .int p1, .int p2, .int p3] (f, n) (xr_ip r (f, n)) := by
  unfold F_X3_countOwn at hF
  refine x_ct (by decide) rfl (Nat.le_of_ble_eq_true rfl) ?_
  show X mX3_countOwn 3 70 _ _ 0 0 0 [(0, .ref this), (1, .ref p0), (2, .int p1), (3, .int p2), (4, .int p3)] [] (f, n)
  refine x_iconst 0 (by decide) dX3_countOwn_0 ?_
  refine x_istore (i := 5) (lv' := [(5, .int 0), (0, .ref this), (1, .ref p0), (2, .int p1), (3, .int p2), (4, .int p3)]) dX3_countOwn_1 (by decide) rfl ?_
  refine x_iconst 0 (by decide) dX3_countOwn_3 ?_
  refine x_istore (i := 6) (lv' := [(6, .int 0), (5, .int 0), (0, .ref this), (1, .ref p0), (2, .int p1), (3, .int p2), (4, .int p3)]) dX3_countOwn_4 (by decide) rfl ?_
  refine x_sub [2, 3, 4, 5, 6, 1, 0] rfl ?_
  refine w_X3_countOwn_L6 N _ _ _ _ _ _ _ _ r _ _ _ hF (fun y5_6 y6_6 hF => ?_)
  refine x_iload 5 dX3_countOwn_65 rfl ?_
  exact x_iret dX3_countOwn_67 rfl (by cases hF; rfl)
def F_X4_firstEntry (N : Nat) (f : XM) (this : Nat) (p0 : Int32) : Option Int32 :=
  (x_getr f 4 this 0).bind fun v1 =>
  (x_cv f 4 this (F_X4_boundOn N f this p0)).bind fun z2 =>
  Option.bind v1 fun a3 =>
  (x_cv f 2 a3 (F_X2_firstFrom N f a3 z2)).bind fun z4 =>
  some z4
set_option maxRecDepth 20000 in
set_option maxHeartbeats 4000000 in
theorem c_X4_firstEntry (N : Nat) (f : XM) (this : Nat) (p0 : Int32) (n : Nat) (r : Int32) (hF : F_X4_firstEntry N f this p0 = some r) : x_Ct mX4_firstEntry 1 25 0 0 [.ref this, .int p0] (f, n) (xr_ip r (f, n)) := by
  unfold F_X4_firstEntry at hF
  refine x_ct (by decide) rfl (Nat.le_of_ble_eq_true rfl) ?_
  show X mX4_firstEntry 1 25 _ _ 0 0 0 [(0, .ref this), (1, .int p0)] [] (f, n)
  refine x_aload_n 0 dX4_firstEntry_0 rfl rfl ?_
  refine x_getr_r dX4_firstEntry_1 fl_X4_14 hF (fun v1 hF => ?_)
  refine x_aload_n 0 dX4_firstEntry_4 rfl rfl ?_
  refine x_iload_n 1 dX4_firstEntry_5 rfl rfl ?_
  obtain ⟨z2, hzz2, hF⟩ := x_bind hF
  obtain ⟨⟨fsz2, hbz2⟩, hzz2⟩ := x_cv_sp hzz2
  refine x_callv (As := [.int p0]) (rest := [va_rf v1]) 0 0 dX4_firstEntry_6 mi_X4_boundOn ml_X4_55 rfl rfl (by simp only [List.map_cons, List.map_nil, x_rfc]; exact Nat.le_of_ble_eq_true rfl) ⟨by decide, by decide⟩ (by omega) (by omega) hbz2 rfl (c_X4_boundOn N _ _ _ _ _ hzz2) (x_K.some ?_) x_KX.none
  refine x_nn hF (fun a3 ha3 hF => ?_)
  rw [ha3]
  obtain ⟨z4, hzz4, hF⟩ := x_bind hF
  obtain ⟨⟨fsz4, hbz4⟩, hzz4⟩ := x_cv_sp hzz4
  refine x_callv (As := [.int z2]) (rest := []) 0 0 dX4_firstEntry_9 mi_X2_firstFrom ml_X4_58 rfl rfl (Nat.le_of_ble_eq_true rfl) ⟨by decide, by decide⟩ (by omega) (by omega) hbz4 rfl (c_X2_firstFrom N _ _ _ _ _ hzz4) (x_K.some ?_) x_KX.none
  exact x_iret dX4_firstEntry_12 rfl (by cases hF; rfl)
def F_X3_countStanding_L5 (N : Nat) (f : XM) (c0 : Nat) (c1 : Int32) (c2 : Int32) (K : Int32 → Int32 → Option Int32) : Nat → Int32 → Int32 → Option Int32
  | 0, _, _ => none
  | k + 1, x3, x4 =>
    (x_geti f 3 c0 2).bind fun v2 =>
    if v2 < x4 then
      K x3 x4
    else
      (x_cv f 3 c0 (F_X3_runOn N f c0 x4)).bind fun z3 =>
      Option.elim z3
        (F_X3_countStanding_L5 N f c0 c1 c2 K k x3 (x4 + 1))
        (fun a4 => (x_cv f 3 c0 (F_X3_countOwn N f c0 a4 x4 c1 c2)).bind fun z5 =>
        F_X3_countStanding_L5 N f c0 c1 c2 K k (x3 + z5) (x4 + 1))
def F_X3_countStanding_L85 (N : Nat) (f : XM) (c0 : Nat) (c1 : Int32) (c2 : Int32) (c4 : Int32) (c5 : Int32) (K : Int32 → Int32 → Option Int32) : Nat → Int32 → Int32 → Option Int32
  | 0, _, _ => none
  | k + 1, x3, x6 =>
    if c5 ≤ x6 then
      K x3 x6
    else
      (x_getr f 3 c0 3).bind fun v18 =>
      Option.bind v18 fun a19 =>
      (x_getr f 4 a19 0).bind fun v20 =>
      Option.bind v20 fun a21 =>
      (x_cv f 2 a21 (F_X2_keyOn N f a21 x6)).bind fun z22 =>
      if z22 < c1 then
        F_X3_countStanding_L85 N f c0 c1 c2 c4 c5 K k x3 (x6 + 1)
      else
        if c2 < z22 then
          F_X3_countStanding_L85 N f c0 c1 c2 c4 c5 K k x3 (x6 + 1)
        else
          (x_cv f 3 c0 (F_X3_runTelling N f c0 z22)).bind fun z23 =>
          if z23 = (-1) then
            F_X3_countStanding_L85 N f c0 c1 c2 c4 c5 K k (x3 + 1) (x6 + 1)
          else
            F_X3_countStanding_L85 N f c0 c1 c2 c4 c5 K k x3 (x6 + 1)
def F_X3_countStanding_L49 (N : Nat) (f : XM) (c0 : Nat) (c1 : Int32) (c2 : Int32) (K : Int32 → Int32 → Option Int32) : Nat → Int32 → Int32 → Option Int32
  | 0, _, _ => none
  | k + 1, x3, x4 =>
    (x_getr f 3 c0 3).bind fun v8 =>
    Option.bind v8 fun a9 =>
    (x_geti f 4 a9 3).bind fun v10 =>
    if v10 ≤ x4 then
      K x3 x4
    else
      (x_getr f 3 c0 3).bind fun v11 =>
      Option.bind v11 fun a12 =>
      (x_cv f 4 a12 (F_X4_firstEntry N f a12 (x4 + 1))).bind fun z13 =>
      (x_getr f 3 c0 3).bind fun v14 =>
      Option.bind v14 fun a15 =>
      (x_cv f 4 a15 (F_X4_firstEntry N f a15 x4)).bind fun z16 =>
      F_X3_countStanding_L85 N f c0 c1 c2 x4 z13 (fun y3_24 y6_24 =>
      F_X3_countStanding_L49 N f c0 c1 c2 K k y3_24 (x4 + 1)) N x3 z16
def F_X3_countStanding (N : Nat) (f : XM) (this : Nat) (p0 : Int32) (p1 : Int32) : Option Int32 :=
  F_X3_countStanding_L5 N f this p0 p1 (fun y3_6 y4_6 =>
  F_X3_countStanding_L49 N f this p0 p1 (fun y3_25 y4_25 =>
  some y3_25) N y3_6 0) N 0 0
set_option maxRecDepth 20000 in
set_option maxHeartbeats 4000000 in
theorem w_X3_countStanding_L5 (N : Nat) (f : XM) (c0 : Nat) (c1 : Int32) (c2 : Int32) (K : Int32 → Int32 → Option Int32) (n : Nat) (r : Int32) {rc rs : Nat} : ∀ (k : Nat) (x3 : Int32) (x4 : Int32), F_X3_countStanding_L5 N f c0 c1 c2 K k x3 x4 = some r → (∀ (x3 : Int32) (x4 : Int32), K x3 x4 = some r → X mX3_countStanding 4 97 (x_end (xr_ip r (f, n))) x_noRO rc rs 46 [(0, .ref c0), (1, .int c1), (2, .int c2), (3, .int x3), (4, .int x4)] [] (f, n)) → X mX3_countStanding 4 97 (x_end (xr_ip r (f, n))) x_noRO rc rs 5 [(0, .ref c0), (1, .int c1), (2, .int c2), (3, .int x3), (4, .int x4)] [] (f, n) := by
  intro k
  induction k with
  | zero =>
    intro x3 x4 hF
    exact absurd hF (by intro h9; cases h9)
  | succ k ih =>
    intro x3 x4 hF hK
    have ih := fun x3 x4 hF => ih x3 x4 hF hK
    rw [F_X3_countStanding_L5] at hF
    refine x_iload 4 dX3_countStanding_5 rfl ?_
    refine x_aload_n 0 dX3_countStanding_7 rfl rfl ?_
    refine x_geti_r dX3_countStanding_8 fl_X3_42 hF (fun v2 hF => ?_)
    refine x_icmp_gt 46 dX3_countStanding_11 (by decide) hF (fun hF => ?_) (fun hF => ?_)
    · refine x_sub [0, 1, 2, 3, 4] rfl ?_
      exact hK _ _ hF
    · refine x_aload_n 0 dX3_countStanding_14 rfl rfl ?_
      refine x_iload 4 dX3_countStanding_15 rfl ?_
      obtain ⟨z3, hzz3, hF⟩ := x_bind hF
      obtain ⟨⟨fsz3, hbz3⟩, hzz3⟩ := x_cv_sp hzz3
      refine x_callv (As := [.int x4]) (rest := []) (rc + 0) (rs + 0) dX3_countStanding_17 mi_X3_runOn ml_X3_115 rfl rfl (Nat.le_of_ble_eq_true rfl) ⟨by decide, by decide⟩ (by omega) (by omega) hbz3 rfl (c_X3_runOn N _ _ _ _ _ hzz3) (x_K.some ?_) x_KX.none
      refine x_astoreq (i := 5) (lv' := [(5, va_rf z3), (0, .ref c0), (1, .int c1), (2, .int c2), (3, .int x3), (4, .int x4)]) dX3_countStanding_20 (by decide) rfl ?_
      refine x_aloadq 0 dX3_countStanding_22 rfl ?_
      refine x_ifnull 40 dX3_countStanding_24 (by decide) hF (fun _ hF => ?_) (fun a4 ha4 hF => ?_)
      · refine x_iinc (x4 + 1) (lv' := [(4, .int (x4 + 1)), (5, va_rf z3), (0, .ref c0), (1, .int c1), (2, .int c2), (3, .int x3)]) dX3_countStanding_40 5 rfl (by rfl) (by decide) rfl ?_
        refine x_goto 5 dX3_countStanding_43 (by decide) ?_
        refine x_sub [2, 3, 4, 5, 0] rfl ?_
        exact ih _ _ hF
      · (try rw [ha4])
        refine x_iload_n 4 dX3_countStanding_27 rfl rfl ?_
        refine x_aload_n 1 dX3_countStanding_28 rfl rfl ?_
        refine x_aload 0 dX3_countStanding_29 rfl ?_
        refine x_iload 5 dX3_countStanding_31 rfl ?_
        refine x_iload_n 2 dX3_countStanding_33 rfl rfl ?_
        refine x_iload_n 3 dX3_countStanding_34 rfl rfl ?_
        obtain ⟨z5, hzz5, hF⟩ := x_bind hF
        obtain ⟨⟨fsz5, hbz5⟩, hzz5⟩ := x_cv_sp hzz5
        refine x_callv (As := [.ref a4, .int x4, .int c1, .int c2]) (rest := [.int x3]) (rc + 0) (rs + 0) dX3_countStanding_35 mi_X3_countOwn ml_X3_131 rfl rfl (Nat.le_of_ble_eq_true rfl) ⟨by decide, by decide⟩ (by omega) (by omega) hbz5 rfl (c_X3_countOwn N _ _ _ _ _ _ _ _ hzz5) (x_K.some ?_) x_KX.none
        refine x_iadd dX3_countStanding_38 ?_
        refine x_istore_n (i := 3) (lv' := [(3, .int (x3 + z5)), (5, .ref a4), (0, .ref c0), (1, .int c1), (2, .int c2), (4, .int x4)]) dX3_countStanding_39 rfl (by decide) rfl ?_
        refine x_iinc (x4 + 1) (lv' := [(4, .int (x4 + 1)), (3, .int (x3 + z5)), (5, .ref a4), (0, .ref c0), (1, .int c1), (2, .int c2)]) dX3_countStanding_40 5 rfl (by rfl) (by decide) rfl ?_
        refine x_goto 5 dX3_countStanding_43 (by decide) ?_
        refine x_sub [3, 4, 5, 1, 0] rfl ?_
        exact ih _ _ hF
set_option maxRecDepth 20000 in
set_option maxHeartbeats 4000000 in
theorem w_X3_countStanding_L85 (N : Nat) (f : XM) (c0 : Nat) (c1 : Int32) (c2 : Int32) (c4 : Int32) (c5 : Int32) (K : Int32 → Int32 → Option Int32) (n : Nat) (r : Int32) {rc rs : Nat} : ∀ (k : Nat) (x3 : Int32) (x6 : Int32), F_X3_countStanding_L85 N f c0 c1 c2 c4 c5 K k x3 x6 = some r → (∀ (x3 : Int32) (x6 : Int32), K x3 x6 = some r → X mX3_countStanding 4 97 (x_end (xr_ip r (f, n))) x_noRO rc rs 137 [(0, .ref c0), (1, .int c1), (2, .int c2), (3, .int x3), (4, .int c4), (5, .int c5), (6, .int x6)] [] (f, n)) → X mX3_countStanding 4 97 (x_end (xr_ip r (f, n))) x_noRO rc rs 85 [(0, .ref c0), (1, .int c1), (2, .int c2), (3, .int x3), (4, .int c4), (5, .int c5), (6, .int x6)] [] (f, n) := by
  intro k
  induction k with
  | zero =>
    intro x3 x6 hF
    exact absurd hF (by intro h9; cases h9)
  | succ k ih =>
    intro x3 x6 hF hK
    have ih := fun x3 x6 hF => ih x3 x6 hF hK
    rw [F_X3_countStanding_L85] at hF
    refine x_iload 6 dX3_countStanding_85 rfl ?_
    refine x_iload 5 dX3_countStanding_87 rfl ?_
    refine x_icmp_ge 137 dX3_countStanding_89 (by decide) hF (fun hF => ?_) (fun hF => ?_)
    · refine x_sub [0, 1, 2, 3, 4, 5, 6] rfl ?_
      exact hK _ _ hF
    · refine x_aload_n 0 dX3_countStanding_92 rfl rfl ?_
      refine x_getr_r dX3_countStanding_93 fl_X3_27 hF (fun v18 hF => ?_)
      refine x_nn hF (fun a19 ha19 hF => ?_)
      rw [ha19]
      refine x_getr_r dX3_countStanding_96 fl_X3_118 hF (fun v20 hF => ?_)
      refine x_iload 6 dX3_countStanding_99 rfl ?_
      refine x_nn hF (fun a21 ha21 hF => ?_)
      rw [ha21]
      obtain ⟨z22, hzz22, hF⟩ := x_bind hF
      obtain ⟨⟨fsz22, hbz22⟩, hzz22⟩ := x_cv_sp hzz22
      refine x_callv (As := [.int x6]) (rest := []) (rc + 0) (rs + 0) dX3_countStanding_101 mi_X2_keyOn ml_X3_138 rfl rfl (Nat.le_of_ble_eq_true rfl) ⟨by decide, by decide⟩ (by omega) (by omega) hbz22 rfl (c_X2_keyOn N _ _ _ _ _ hzz22) (x_K.some ?_) x_KX.none
      refine x_istore (i := 7) (lv' := [(7, .int z22), (0, .ref c0), (1, .int c1), (2, .int c2), (3, .int x3), (4, .int c4), (5, .int c5), (6, .int x6)]) dX3_countStanding_104 (by decide) rfl ?_
      refine x_iload 0 dX3_countStanding_106 rfl ?_
      refine x_iload_n 2 dX3_countStanding_108 rfl rfl ?_
      refine x_icmp_lt 131 dX3_countStanding_109 (by decide) hF (fun hF => ?_) (fun hF => ?_)
      · refine x_iinc (x6 + 1) (lv' := [(6, .int (x6 + 1)), (7, .int z22), (0, .ref c0), (1, .int c1), (2, .int c2), (3, .int x3), (4, .int c4), (5, .int c5)]) dX3_countStanding_131 7 rfl (by rfl) (by decide) rfl ?_
        refine x_goto 85 dX3_countStanding_134 (by decide) ?_
        refine x_sub [2, 3, 4, 5, 6, 7, 0] rfl ?_
        exact ih _ _ hF
      · refine x_iload 0 dX3_countStanding_112 rfl ?_
        refine x_iload_n 3 dX3_countStanding_114 rfl rfl ?_
        refine x_icmp_gt 131 dX3_countStanding_115 (by decide) hF (fun hF => ?_) (fun hF => ?_)
        · refine x_iinc (x6 + 1) (lv' := [(6, .int (x6 + 1)), (7, .int z22), (0, .ref c0), (1, .int c1), (2, .int c2), (3, .int x3), (4, .int c4), (5, .int c5)]) dX3_countStanding_131 7 rfl (by rfl) (by decide) rfl ?_
          refine x_goto 85 dX3_countStanding_134 (by decide) ?_
          refine x_sub [2, 3, 4, 5, 6, 7, 0] rfl ?_
          exact ih _ _ hF
        · refine x_aload_n 1 dX3_countStanding_118 rfl rfl ?_
          refine x_iload 0 dX3_countStanding_119 rfl ?_
          obtain ⟨z23, hzz23, hF⟩ := x_bind hF
          obtain ⟨⟨fsz23, hbz23⟩, hzz23⟩ := x_cv_sp hzz23
          refine x_callv (As := [.int z22]) (rest := []) (rc + 0) (rs + 0) dX3_countStanding_121 mi_X3_runTelling ml_X3_105 rfl rfl (Nat.le_of_ble_eq_true rfl) ⟨by decide, by decide⟩ (by omega) (by omega) hbz23 rfl (c_X3_runTelling N _ _ _ _ _ hzz23) (x_K.some ?_) x_KX.none
          refine x_iconst (-1) (by decide) dX3_countStanding_124 ?_
          refine x_icmp_ne 131 dX3_countStanding_125 (by decide) hF (fun hF => ?_) (fun hF => ?_)
          · refine x_iinc (x6 + 1) (lv' := [(6, .int (x6 + 1)), (7, .int z22), (0, .ref c0), (1, .int c1), (2, .int c2), (3, .int x3), (4, .int c4), (5, .int c5)]) dX3_countStanding_131 7 rfl (by rfl) (by decide) rfl ?_
            refine x_goto 85 dX3_countStanding_134 (by decide) ?_
            refine x_sub [2, 3, 4, 5, 6, 7, 0] rfl ?_
            exact ih _ _ hF
          · refine x_iinc (x3 + 1) (lv' := [(3, .int (x3 + 1)), (7, .int z22), (0, .ref c0), (1, .int c1), (2, .int c2), (4, .int c4), (5, .int c5), (6, .int x6)]) dX3_countStanding_128 4 rfl (by rfl) (by decide) rfl ?_
            refine x_iinc (x6 + 1) (lv' := [(6, .int (x6 + 1)), (3, .int (x3 + 1)), (7, .int z22), (0, .ref c0), (1, .int c1), (2, .int c2), (4, .int c4), (5, .int c5)]) dX3_countStanding_131 7 rfl (by rfl) (by decide) rfl ?_
            refine x_goto 85 dX3_countStanding_134 (by decide) ?_
            refine x_sub [3, 4, 5, 1, 6, 7, 0] rfl ?_
            exact ih _ _ hF
set_option maxRecDepth 20000 in
set_option maxHeartbeats 4000000 in
theorem w_X3_countStanding_L49 (N : Nat) (f : XM) (c0 : Nat) (c1 : Int32) (c2 : Int32) (K : Int32 → Int32 → Option Int32) (n : Nat) (r : Int32) {rc rs : Nat} : ∀ (k : Nat) (x3 : Int32) (x4 : Int32), F_X3_countStanding_L49 N f c0 c1 c2 K k x3 x4 = some r → (∀ (x3 : Int32) (x4 : Int32), K x3 x4 = some r → X mX3_countStanding 4 97 (x_end (xr_ip r (f, n))) x_noRO rc rs 143 [(0, .ref c0), (1, .int c1), (2, .int c2), (3, .int x3), (4, .int x4)] [] (f, n)) → X mX3_countStanding 4 97 (x_end (xr_ip r (f, n))) x_noRO rc rs 49 [(0, .ref c0), (1, .int c1), (2, .int c2), (3, .int x3), (4, .int x4)] [] (f, n) := by
  intro k
  induction k with
  | zero =>
    intro x3 x4 hF
    exact absurd hF (by intro h9; cases h9)
  | succ k ih =>
    intro x3 x4 hF hK
    have ih := fun x3 x4 hF => ih x3 x4 hF hK
    rw [F_X3_countStanding_L49] at hF
    refine x_iload 4 dX3_countStanding_49 rfl ?_
    refine x_aload_n 0 dX3_countStanding_51 rfl rfl ?_
    refine x_getr_r dX3_countStanding_52 fl_X3_27 hF (fun v8 hF => ?_)
    refine x_nn hF (fun a9 ha9 hF => ?_)
    rw [ha9]
    refine x_geti_r dX3_countStanding_55 fl_X3_102 hF (fun v10 hF => ?_)
    refine x_icmp_ge 143 dX3_countStanding_58 (by decide) hF (fun hF => ?_) (fun hF => ?_)
    · refine x_sub [0, 1, 2, 3, 4] rfl ?_
      exact hK _ _ hF
    · refine x_aload_n 0 dX3_countStanding_61 rfl rfl ?_
      refine x_getr_r dX3_countStanding_62 fl_X3_27 hF (fun v11 hF => ?_)
      refine x_iload 4 dX3_countStanding_65 rfl ?_
      refine x_iconst 1 (by decide) dX3_countStanding_67 ?_
      refine x_iadd dX3_countStanding_68 ?_
      refine x_nn hF (fun a12 ha12 hF => ?_)
      rw [ha12]
      obtain ⟨z13, hzz13, hF⟩ := x_bind hF
      obtain ⟨⟨fsz13, hbz13⟩, hzz13⟩ := x_cv_sp hzz13
      refine x_callv (As := [.int (x4 + 1)]) (rest := []) (rc + 0) (rs + 0) dX3_countStanding_69 mi_X4_firstEntry ml_X3_135 rfl rfl (Nat.le_of_ble_eq_true rfl) ⟨by decide, by decide⟩ (by omega) (by omega) hbz13 rfl (c_X4_firstEntry N _ _ _ _ _ hzz13) (x_K.some ?_) x_KX.none
      refine x_istore (i := 5) (lv' := [(5, .int z13), (0, .ref c0), (1, .int c1), (2, .int c2), (3, .int x3), (4, .int x4)]) dX3_countStanding_72 (by decide) rfl ?_
      refine x_aload_n 1 dX3_countStanding_74 rfl rfl ?_
      refine x_getr_r dX3_countStanding_75 fl_X3_27 hF (fun v14 hF => ?_)
      refine x_iload 5 dX3_countStanding_78 rfl ?_
      refine x_nn hF (fun a15 ha15 hF => ?_)
      rw [ha15]
      obtain ⟨z16, hzz16, hF⟩ := x_bind hF
      obtain ⟨⟨fsz16, hbz16⟩, hzz16⟩ := x_cv_sp hzz16
      refine x_callv (As := [.int x4]) (rest := []) (rc + 0) (rs + 0) dX3_countStanding_80 mi_X4_firstEntry ml_X3_135 rfl rfl (Nat.le_of_ble_eq_true rfl) ⟨by decide, by decide⟩ (by omega) (by omega) hbz16 rfl (c_X4_firstEntry N _ _ _ _ _ hzz16) (x_K.some ?_) x_KX.none
      refine x_istore (i := 6) (lv' := [(6, .int z16), (5, .int z13), (0, .ref c0), (1, .int c1), (2, .int c2), (3, .int x3), (4, .int x4)]) dX3_countStanding_83 (by decide) rfl ?_
      refine x_sub [2, 3, 4, 5, 6, 1, 0] rfl ?_
      refine w_X3_countStanding_L85 N _ _ _ _ _ _ _ _ r _ _ _ hF (fun y3_24 y6_24 hF => ?_)
      refine x_iinc (x4 + 1) (lv' := [(4, .int (x4 + 1)), (0, .ref c0), (1, .int c1), (2, .int c2), (3, .int y3_24), (5, .int z13), (6, .int y6_24)]) dX3_countStanding_137 4 rfl (by rfl) (by decide) rfl ?_
      refine x_goto 49 dX3_countStanding_140 (by decide) ?_
      refine x_sub [1, 2, 3, 4, 0] rfl ?_
      exact ih _ _ hF
set_option maxRecDepth 20000 in
set_option maxHeartbeats 4000000 in
theorem c_X3_countStanding (N : Nat) (f : XM) (this : Nat) (p0 : Int32) (p1 : Int32) (n : Nat) (r : Int32) (hF : F_X3_countStanding N f this p0 p1 = some r) : x_Ct mX3_countStanding 4 97 0 0 [.ref this, .int p0, .int p1] (f, n) (xr_ip r (f, n)) := by
  unfold F_X3_countStanding at hF
  refine x_ct (by decide) rfl (Nat.le_of_ble_eq_true rfl) ?_
  show X mX3_countStanding 4 97 _ _ 0 0 0 [(0, .ref this), (1, .int p0), (2, .int p1)] [] (f, n)
  refine x_iconst 0 (by decide) dX3_countStanding_0 ?_
  refine x_istore_n (i := 3) (lv' := [(3, .int 0), (0, .ref this), (1, .int p0), (2, .int p1)]) dX3_countStanding_1 rfl (by decide) rfl ?_
  refine x_iconst 0 (by decide) dX3_countStanding_2 ?_
  refine x_istore (i := 4) (lv' := [(4, .int 0), (3, .int 0), (0, .ref this), (1, .int p0), (2, .int p1)]) dX3_countStanding_3 (by decide) rfl ?_
  refine x_sub [2, 3, 4, 1, 0] rfl ?_
  refine w_X3_countStanding_L5 N _ _ _ _ _ _ r _ _ _ hF (fun y3_6 y4_6 hF => ?_)
  refine x_iconst 0 (by decide) dX3_countStanding_46 ?_
  refine x_istore (i := 4) (lv' := [(4, .int 0), (0, .ref this), (1, .int p0), (2, .int p1), (3, .int y3_6)]) dX3_countStanding_47 (by decide) rfl ?_
  refine x_sub [1, 2, 3, 4, 0] rfl ?_
  refine w_X3_countStanding_L49 N _ _ _ _ _ _ r _ _ _ hF (fun y3_25 y4_25 hF => ?_)
  refine x_iload_n 3 dX3_countStanding_143 rfl rfl ?_
  exact x_iret dX3_countStanding_144 rfl (by cases hF; rfl)
def F_X3_tell (N : Nat) (f : XM) (this : Nat) (p0 : Int32) (p1 : Int32) : Option (Int32 × XM) :=
  (x_getr f 3 this 0).bind fun v1 =>
  Option.bind v1 fun a2 =>
  (x_cv f 2 a2 (F_X2_placeOf N f a2 p0)).bind fun z3 =>
  if z3 = (-1) then
    (x_getr f 3 this 0).bind fun v4 =>
    Option.bind v4 fun a5 =>
    (x_cv f 2 a5 (F_X2_isFull N f a5)).bind fun z6 =>
    if (x_b z6) = 0 then
      (x_getr f 3 this 0).bind fun v7 =>
      (x_getr f 3 this 0).bind fun v8 =>
      Option.bind v8 fun a9 =>
      (x_cv f 2 a9 (F_X2_firstFrom N f a9 p0)).bind fun z10 =>
      Option.bind v7 fun a11 =>
      (x_cv f 2 a11 (F_X2_addAt N f a11 z10 p0 p1)).bind fun z12 =>
      (x_getr z12 3 this 0).bind fun v13 =>
      Option.bind v13 fun a14 =>
      (x_geti z12 2 a14 2).bind fun v15 =>
      some (v15, z12)
    else
      some ((-1), f)
  else
    (x_getr f 3 this 0).bind fun v16 =>
    Option.bind v16 fun a17 =>
    (x_cv f 2 a17 (F_X2_setValue N f a17 z3 p1)).bind fun z18 =>
    (x_getr z18 3 this 0).bind fun v19 =>
    Option.bind v19 fun a20 =>
    (x_geti z18 2 a20 2).bind fun v21 =>
    some (v21, z18)
set_option maxRecDepth 20000 in
set_option maxHeartbeats 4000000 in
theorem c_X3_tell (N : Nat) (f : XM) (this : Nat) (p0 : Int32) (p1 : Int32) (n : Nat) (r : (Int32 × XM)) (hF : F_X3_tell N f this p0 p1 = some r) : x_Ct mX3_tell 2 47 0 0 [.ref this, .int p0, .int p1] (f, n) (xr_im r n) := by
  unfold F_X3_tell at hF
  refine x_ct (by decide) rfl (Nat.le_of_ble_eq_true rfl) ?_
  show X mX3_tell 2 47 _ _ 0 0 0 [(0, .ref this), (1, .int p0), (2, .int p1)] [] (f, n)
  refine x_aload_n 0 dX3_tell_0 rfl rfl ?_
  refine x_getr_r dX3_tell_1 fl_X3_14 hF (fun v1 hF => ?_)
  refine x_iload_n 1 dX3_tell_4 rfl rfl ?_
  refine x_nn hF (fun a2 ha2 hF => ?_)
  rw [ha2]
  obtain ⟨z3, hzz3, hF⟩ := x_bind hF
  obtain ⟨⟨fsz3, hbz3⟩, hzz3⟩ := x_cv_sp hzz3
  refine x_callv (As := [.int p0]) (rest := []) 0 0 dX3_tell_5 mi_X2_placeOf ml_X3_58 rfl rfl (Nat.le_of_ble_eq_true rfl) ⟨by decide, by decide⟩ (by omega) (by omega) hbz3 rfl (c_X2_placeOf N _ _ _ _ _ hzz3) (x_K.some ?_) x_KX.none
  refine x_istore_n (i := 3) (lv' := [(3, .int z3), (0, .ref this), (1, .int p0), (2, .int p1)]) dX3_tell_8 rfl (by decide) rfl ?_
  refine x_iload_n 0 dX3_tell_9 rfl rfl ?_
  refine x_iconst (-1) (by decide) dX3_tell_10 ?_
  refine x_icmp_eq 31 dX3_tell_11 (by decide) hF (fun hF => ?_) (fun hF => ?_)
  · refine x_aload_n 1 dX3_tell_31 rfl rfl ?_
    refine x_getr_r dX3_tell_32 fl_X3_14 hF (fun v4 hF => ?_)
    refine x_nn hF (fun a5 ha5 hF => ?_)
    rw [ha5]
    obtain ⟨z6, hzz6, hF⟩ := x_bind hF
    obtain ⟨⟨fsz6, hbz6⟩, hzz6⟩ := x_cv_sp hzz6
    refine x_callv (As := []) (rest := []) 0 0 dX3_tell_35 mi_X2_isFull ml_X3_69 rfl rfl (Nat.le_of_ble_eq_true rfl) ⟨by decide, by decide⟩ (by omega) (by omega) hbz6 rfl (c_X2_isFull N _ _ _ _ hzz6) (x_K.some ?_) x_KX.none
    refine x_if_eq 43 dX3_tell_38 (by decide) hF (fun hF => ?_) (fun hF => ?_)
    · refine x_aload_n 1 dX3_tell_43 rfl rfl ?_
      refine x_getr_r dX3_tell_44 fl_X3_14 hF (fun v7 hF => ?_)
      refine x_aload_n 1 dX3_tell_47 rfl rfl ?_
      refine x_getr_r dX3_tell_48 fl_X3_14 hF (fun v8 hF => ?_)
      refine x_iload_n 2 dX3_tell_51 rfl rfl ?_
      refine x_nn hF (fun a9 ha9 hF => ?_)
      rw [ha9]
      obtain ⟨z10, hzz10, hF⟩ := x_bind hF
      obtain ⟨⟨fsz10, hbz10⟩, hzz10⟩ := x_cv_sp hzz10
      refine x_callv (As := [.int p0]) (rest := [va_rf v7]) 0 0 dX3_tell_52 mi_X2_firstFrom ml_X3_73 rfl rfl (by simp only [List.map_cons, List.map_nil, x_rfc]; exact Nat.le_of_ble_eq_true rfl) ⟨by decide, by decide⟩ (by omega) (by omega) hbz10 rfl (c_X2_firstFrom N _ _ _ _ _ hzz10) (x_K.some ?_) x_KX.none
      refine x_iload_n 2 dX3_tell_55 rfl rfl ?_
      refine x_iload_n 3 dX3_tell_56 rfl rfl ?_
      refine x_nn hF (fun a11 ha11 hF => ?_)
      rw [ha11]
      obtain ⟨z12, hzz12, hF⟩ := x_bind hF
      obtain ⟨⟨fsz12, hbz12⟩, hzz12⟩ := x_cv_sp hzz12
      refine x_callv (As := [.int z10, .int p0, .int p1]) (rest := []) 0 0 dX3_tell_57 mi_X2_addAt ml_X3_76 rfl rfl (Nat.le_of_ble_eq_true rfl) ⟨by decide, by decide⟩ (by omega) (by omega) hbz12 rfl (c_X2_addAt N _ _ _ _ _ _ _ hzz12) (x_K.none ?_) x_KX.none
      refine x_aload_n 1 dX3_tell_60 rfl rfl ?_
      refine x_getr_r dX3_tell_61 fl_X3_14 hF (fun v13 hF => ?_)
      refine x_nn hF (fun a14 ha14 hF => ?_)
      rw [ha14]
      refine x_geti_r dX3_tell_64 fl_X3_66 hF (fun v15 hF => ?_)
      exact x_iret dX3_tell_67 rfl (by cases hF; rfl)
    · refine x_iconst (-1) (by decide) dX3_tell_41 ?_
      exact x_iret dX3_tell_42 rfl (by cases hF; rfl)
  · refine x_aload_n 1 dX3_tell_14 rfl rfl ?_
    refine x_getr_r dX3_tell_15 fl_X3_14 hF (fun v16 hF => ?_)
    refine x_iload_n 0 dX3_tell_18 rfl rfl ?_
    refine x_iload_n 3 dX3_tell_19 rfl rfl ?_
    refine x_nn hF (fun a17 ha17 hF => ?_)
    rw [ha17]
    obtain ⟨z18, hzz18, hF⟩ := x_bind hF
    obtain ⟨⟨fsz18, hbz18⟩, hzz18⟩ := x_cv_sp hzz18
    refine x_callv (As := [.int z3, .int p1]) (rest := []) 0 0 dX3_tell_20 mi_X2_setValue ml_X3_62 rfl rfl (Nat.le_of_ble_eq_true rfl) ⟨by decide, by decide⟩ (by omega) (by omega) hbz18 rfl (c_X2_setValue N _ _ _ _ _ _ hzz18) (x_K.none ?_) x_KX.none
    refine x_aload_n 1 dX3_tell_23 rfl rfl ?_
    refine x_getr_r dX3_tell_24 fl_X3_14 hF (fun v19 hF => ?_)
    refine x_nn hF (fun a20 ha20 hF => ?_)
    rw [ha20]
    refine x_geti_r dX3_tell_27 fl_X3_66 hF (fun v21 hF => ?_)
    exact x_iret dX3_tell_30 rfl (by cases hF; rfl)
def F_X4_placeOn (N : Nat) (f : XM) (this : Nat) (p0 : Int32) : Option Int32 :=
  if p0 < 0 then
    some 0
  else
    (x_getr f 4 this 1).bind fun v1 =>
    Option.bind v1 fun a2 =>
    (x_alen f a2).bind fun v3 =>
    if v3 ≤ p0 then
      some 0
    else
      (x_getr f 4 this 1).bind fun v4 =>
      Option.bind v4 fun a5 =>
      (x_ald f a5 p0).bind fun v6 =>
      some v6
set_option maxRecDepth 20000 in
set_option maxHeartbeats 4000000 in
theorem c_X4_placeOn (N : Nat) (f : XM) (this : Nat) (p0 : Int32) (n : Nat) (r : Int32) (hF : F_X4_placeOn N f this p0 = some r) : x_Ct mX4_placeOn 0 0 0 0 [.ref this, .int p0] (f, n) (xr_ip r (f, n)) := by
  unfold F_X4_placeOn at hF
  refine x_ct (by decide) rfl (Nat.le_of_ble_eq_true rfl) ?_
  show X mX4_placeOn 0 0 _ _ 0 0 0 [(0, .ref this), (1, .int p0)] [] (f, n)
  refine x_iload_n 1 dX4_placeOn_0 rfl rfl ?_
  refine x_if_lt 22 dX4_placeOn_1 (by decide) hF (fun hF => ?_) (fun hF => ?_)
  · refine x_iconst 0 (by decide) dX4_placeOn_22 ?_
    exact x_iret dX4_placeOn_23 rfl (by cases hF; rfl)
  · refine x_iload_n 1 dX4_placeOn_4 rfl rfl ?_
    refine x_aload_n 0 dX4_placeOn_5 rfl rfl ?_
    refine x_getr_r dX4_placeOn_6 fl_X4_20 hF (fun v1 hF => ?_)
    refine x_nn hF (fun a2 ha2 hF => ?_)
    rw [ha2]
    refine x_alen_r dX4_placeOn_9 hF (fun v3 hF => ?_)
    refine x_icmp_ge 22 dX4_placeOn_10 (by decide) hF (fun hF => ?_) (fun hF => ?_)
    · refine x_iconst 0 (by decide) dX4_placeOn_22 ?_
      exact x_iret dX4_placeOn_23 rfl (by cases hF; rfl)
    · refine x_aload_n 0 dX4_placeOn_13 rfl rfl ?_
      refine x_getr_r dX4_placeOn_14 fl_X4_20 hF (fun v4 hF => ?_)
      refine x_iload_n 1 dX4_placeOn_17 rfl rfl ?_
      refine x_nn hF (fun a5 ha5 hF => ?_)
      rw [ha5]
      refine x_ald_r dX4_placeOn_18 hF (fun v6 hF => ?_)
      refine x_goto 23 dX4_placeOn_19 (by decide) ?_
      exact x_iret dX4_placeOn_23 rfl (by cases hF; rfl)
def F_X4_ownCount_L31 (N : Nat) (f : XM) (c0 : Nat) (c3 : Int32) (K : Int32 → Int32 → Option Int32) : Nat → Int32 → Int32 → Option Int32
  | 0, _, _ => none
  | k + 1, x2, x4 =>
    if c3 ≤ x4 then
      K x2 x4
    else
      (x_cv f 4 c0 (F_X4_placeOn N f c0 x4)).bind fun z10 =>
      if z10 = 0 then
        F_X4_ownCount_L31 N f c0 c3 K k (x2 + 1) (x4 + 1)
      else
        F_X4_ownCount_L31 N f c0 c3 K k x2 (x4 + 1)
def F_X4_ownCount (N : Nat) (f : XM) (this : Nat) (p0 : Int32) : Option Int32 :=
  (x_getr f 4 this 0).bind fun v1 =>
  (x_cv f 4 this (F_X4_boundOn N f this (p0 + 1))).bind fun z2 =>
  Option.bind v1 fun a3 =>
  (x_cv f 2 a3 (F_X2_firstFrom N f a3 z2)).bind fun z4 =>
  (x_getr f 4 this 0).bind fun v5 =>
  (x_cv f 4 this (F_X4_boundOn N f this p0)).bind fun z6 =>
  Option.bind v5 fun a7 =>
  (x_cv f 2 a7 (F_X2_firstFrom N f a7 z6)).bind fun z8 =>
  F_X4_ownCount_L31 N f this z4 (fun y2_11 y4_11 =>
  some y2_11) N 0 z8
set_option maxRecDepth 20000 in
set_option maxHeartbeats 4000000 in
theorem w_X4_ownCount_L31 (N : Nat) (f : XM) (c0 : Nat) (c3 : Int32) (K : Int32 → Int32 → Option Int32) (n : Nat) (r : Int32) {rc rs : Nat} : ∀ (k : Nat) (x2 : Int32) (x4 : Int32), F_X4_ownCount_L31 N f c0 c3 K k x2 x4 = some r → (∀ (x2 : Int32) (x4 : Int32), K x2 x4 = some r → X mX4_ownCount 1 25 (x_end (xr_ip r (f, n))) x_noRO rc rs 55 [(0, .ref c0), (2, .int x2), (3, .int c3), (4, .int x4)] [] (f, n)) → X mX4_ownCount 1 25 (x_end (xr_ip r (f, n))) x_noRO rc rs 31 [(0, .ref c0), (2, .int x2), (3, .int c3), (4, .int x4)] [] (f, n) := by
  intro k
  induction k with
  | zero =>
    intro x2 x4 hF
    exact absurd hF (by intro h9; cases h9)
  | succ k ih =>
    intro x2 x4 hF hK
    have ih := fun x2 x4 hF => ih x2 x4 hF hK
    rw [F_X4_ownCount_L31] at hF
    refine x_iload 3 dX4_ownCount_31 rfl ?_
    refine x_iload_n 2 dX4_ownCount_33 rfl rfl ?_
    refine x_icmp_ge 55 dX4_ownCount_34 (by decide) hF (fun hF => ?_) (fun hF => ?_)
    · refine x_sub [0, 1, 2, 3] rfl ?_
      exact hK _ _ hF
    · refine x_aload_n 0 dX4_ownCount_37 rfl rfl ?_
      refine x_iload 3 dX4_ownCount_38 rfl ?_
      obtain ⟨z10, hzz10, hF⟩ := x_bind hF
      obtain ⟨⟨fsz10, hbz10⟩, hzz10⟩ := x_cv_sp hzz10
      refine x_callv (As := [.int x4]) (rest := []) (rc + 0) (rs + 0) dX4_ownCount_40 mi_X4_placeOn ml_X4_61 rfl rfl (Nat.le_of_ble_eq_true rfl) ⟨by decide, by decide⟩ (by omega) (by omega) hbz10 rfl (c_X4_placeOn N _ _ _ _ _ hzz10) (x_K.some ?_) x_KX.none
      refine x_if_ne 49 dX4_ownCount_43 (by decide) hF (fun hF => ?_) (fun hF => ?_)
      · refine x_iinc (x4 + 1) (lv' := [(4, .int (x4 + 1)), (0, .ref c0), (2, .int x2), (3, .int c3)]) dX4_ownCount_49 3 rfl (by rfl) (by decide) rfl ?_
        refine x_goto 31 dX4_ownCount_52 (by decide) ?_
        refine x_sub [1, 2, 3, 0] rfl ?_
        exact ih _ _ hF
      · refine x_iinc (x2 + 1) (lv' := [(2, .int (x2 + 1)), (0, .ref c0), (3, .int c3), (4, .int x4)]) dX4_ownCount_46 1 rfl (by rfl) (by decide) rfl ?_
        refine x_iinc (x4 + 1) (lv' := [(4, .int (x4 + 1)), (2, .int (x2 + 1)), (0, .ref c0), (3, .int c3)]) dX4_ownCount_49 3 rfl (by rfl) (by decide) rfl ?_
        refine x_goto 31 dX4_ownCount_52 (by decide) ?_
        refine x_sub [2, 1, 3, 0] rfl ?_
        exact ih _ _ hF
set_option maxRecDepth 20000 in
set_option maxHeartbeats 4000000 in
theorem c_X4_ownCount (N : Nat) (f : XM) (this : Nat) (p0 : Int32) (n : Nat) (r : Int32) (hF : F_X4_ownCount N f this p0 = some r) : x_Ct mX4_ownCount 1 25 0 0 [.ref this, .int p0] (f, n) (xr_ip r (f, n)) := by
  unfold F_X4_ownCount at hF
  refine x_ct (by decide) rfl (Nat.le_of_ble_eq_true rfl) ?_
  show X mX4_ownCount 1 25 _ _ 0 0 0 [(0, .ref this), (1, .int p0)] [] (f, n)
  refine x_iconst 0 (by decide) dX4_ownCount_0 ?_
  refine x_istore_n (i := 2) (lv' := [(2, .int 0), (0, .ref this), (1, .int p0)]) dX4_ownCount_1 rfl (by decide) rfl ?_
  refine x_aload_n 1 dX4_ownCount_2 rfl rfl ?_
  refine x_getr_r dX4_ownCount_3 fl_X4_14 hF (fun v1 hF => ?_)
  refine x_aload_n 1 dX4_ownCount_6 rfl rfl ?_
  refine x_iload_n 2 dX4_ownCount_7 rfl rfl ?_
  refine x_iconst 1 (by decide) dX4_ownCount_8 ?_
  refine x_iadd dX4_ownCount_9 ?_
  obtain ⟨z2, hzz2, hF⟩ := x_bind hF
  obtain ⟨⟨fsz2, hbz2⟩, hzz2⟩ := x_cv_sp hzz2
  refine x_callv (As := [.int (p0 + 1)]) (rest := [va_rf v1]) 0 0 dX4_ownCount_10 mi_X4_boundOn ml_X4_55 rfl rfl (by simp only [List.map_cons, List.map_nil, x_rfc]; exact Nat.le_of_ble_eq_true rfl) ⟨by decide, by decide⟩ (by omega) (by omega) hbz2 rfl (c_X4_boundOn N _ _ _ _ _ hzz2) (x_K.some ?_) x_KX.none
  refine x_nn hF (fun a3 ha3 hF => ?_)
  rw [ha3]
  obtain ⟨z4, hzz4, hF⟩ := x_bind hF
  obtain ⟨⟨fsz4, hbz4⟩, hzz4⟩ := x_cv_sp hzz4
  refine x_callv (As := [.int z2]) (rest := []) 0 0 dX4_ownCount_13 mi_X2_firstFrom ml_X4_58 rfl rfl (Nat.le_of_ble_eq_true rfl) ⟨by decide, by decide⟩ (by omega) (by omega) hbz4 rfl (c_X2_firstFrom N _ _ _ _ _ hzz4) (x_K.some ?_) x_KX.none
  refine x_istore_n (i := 3) (lv' := [(3, .int z4), (2, .int 0), (0, .ref this), (1, .int p0)]) dX4_ownCount_16 rfl (by decide) rfl ?_
  refine x_aload_n 2 dX4_ownCount_17 rfl rfl ?_
  refine x_getr_r dX4_ownCount_18 fl_X4_14 hF (fun v5 hF => ?_)
  refine x_aload_n 2 dX4_ownCount_21 rfl rfl ?_
  refine x_iload_n 3 dX4_ownCount_22 rfl rfl ?_
  obtain ⟨z6, hzz6, hF⟩ := x_bind hF
  obtain ⟨⟨fsz6, hbz6⟩, hzz6⟩ := x_cv_sp hzz6
  refine x_callv (As := [.int p0]) (rest := [va_rf v5]) 0 0 dX4_ownCount_23 mi_X4_boundOn ml_X4_55 rfl rfl (by simp only [List.map_cons, List.map_nil, x_rfc]; exact Nat.le_of_ble_eq_true rfl) ⟨by decide, by decide⟩ (by omega) (by omega) hbz6 rfl (c_X4_boundOn N _ _ _ _ _ hzz6) (x_K.some ?_) x_KX.none
  refine x_nn hF (fun a7 ha7 hF => ?_)
  rw [ha7]
  obtain ⟨z8, hzz8, hF⟩ := x_bind hF
  obtain ⟨⟨fsz8, hbz8⟩, hzz8⟩ := x_cv_sp hzz8
  refine x_callv (As := [.int z6]) (rest := []) 0 0 dX4_ownCount_26 mi_X2_firstFrom ml_X4_58 rfl rfl (Nat.le_of_ble_eq_true rfl) ⟨by decide, by decide⟩ (by omega) (by omega) hbz8 rfl (c_X2_firstFrom N _ _ _ _ _ hzz8) (x_K.some ?_) x_KX.none
  refine x_istore (i := 4) (lv' := [(4, .int z8), (3, .int z4), (2, .int 0), (0, .ref this), (1, .int p0)]) dX4_ownCount_29 (by decide) rfl ?_
  refine x_sub [3, 2, 1, 0] rfl ?_
  refine w_X4_ownCount_L31 N _ _ _ _ _ r _ _ _ hF (fun y2_11 y4_11 hF => ?_)
  refine x_iload_n 1 dX4_ownCount_55 rfl rfl ?_
  exact x_iret dX4_ownCount_56 rfl (by cases hF; rfl)
def F_X4_leafOfKey_L10 (N : Nat) (f : XM) (c0 : Nat) (c1 : Int32) (K : Int32 → Int32 → Int32 → Option Int32) : Nat → Int32 → Int32 → Int32 → Option Int32
  | 0, _, _, _ => none
  | k + 1, x2, x3, x4 =>
    if 32 ≤ x4 then
      K x2 x3 x4
    else
      if x3 ≤ x2 then
        K x2 x3 x4
      else
        (x_getr f 4 c0 2).bind fun v3 =>
        Option.bind v3 fun a4 =>
        (x_alen f a4).bind fun v5 =>
        if v5 ≤ (((x2 + x3)).toUInt32 >>> ((1 : Int32).toUInt32 &&& Int32.toUInt32 31)).toInt32 then
          F_X4_leafOfKey_L10 N f c0 c1 K k x2 ((((x2 + x3)).toUInt32 >>> ((1 : Int32).toUInt32 &&& Int32.toUInt32 31)).toInt32) (x4 + 1)
        else
          (x_getr f 4 c0 2).bind fun v6 =>
          Option.bind v6 fun a7 =>
          (x_ald f a7 ((((x2 + x3)).toUInt32 >>> ((1 : Int32).toUInt32 &&& Int32.toUInt32 31)).toInt32)).bind fun v8 =>
          if c1 < v8 then
            F_X4_leafOfKey_L10 N f c0 c1 K k x2 ((((x2 + x3)).toUInt32 >>> ((1 : Int32).toUInt32 &&& Int32.toUInt32 31)).toInt32) (x4 + 1)
          else
            F_X4_leafOfKey_L10 N f c0 c1 K k ((((x2 + x3)).toUInt32 >>> ((1 : Int32).toUInt32 &&& Int32.toUInt32 31)).toInt32 + 1) x3 (x4 + 1)
def F_X4_leafOfKey (N : Nat) (f : XM) (this : Nat) (p0 : Int32) : Option Int32 :=
  (x_geti f 4 this 3).bind fun v1 =>
  F_X4_leafOfKey_L10 N f this p0 (fun y2_9 y3_9 y4_9 =>
  some (y2_9 - 1)) N 0 v1 0
set_option maxRecDepth 20000 in
set_option maxHeartbeats 4000000 in
theorem w_X4_leafOfKey_L10 (N : Nat) (f : XM) (c0 : Nat) (c1 : Int32) (K : Int32 → Int32 → Int32 → Option Int32) (n : Nat) (r : Int32) {rc rs : Nat} : ∀ (k : Nat) (x2 : Int32) (x3 : Int32) (x4 : Int32), F_X4_leafOfKey_L10 N f c0 c1 K k x2 x3 x4 = some r → (∀ (x2 : Int32) (x3 : Int32) (x4 : Int32), K x2 x3 x4 = some r → X mX4_leafOfKey 0 0 (x_end (xr_ip r (f, n))) x_noRO rc rs 67 [(0, .ref c0), (1, .int c1), (2, .int x2), (3, .int x3), (4, .int x4)] [] (f, n)) → X mX4_leafOfKey 0 0 (x_end (xr_ip r (f, n))) x_noRO rc rs 10 [(0, .ref c0), (1, .int c1), (2, .int x2), (3, .int x3), (4, .int x4)] [] (f, n) := by
  intro k
  induction k with
  | zero =>
    intro x2 x3 x4 hF
    exact absurd hF (by intro h9; cases h9)
  | succ k ih =>
    intro x2 x3 x4 hF hK
    have ih := fun x2 x3 x4 hF => ih x2 x3 x4 hF hK
    rw [F_X4_leafOfKey_L10] at hF
    refine x_iload 4 dX4_leafOfKey_10 rfl ?_
    refine x_bipush 32 (by decide) dX4_leafOfKey_12 ?_
    refine x_icmp_ge 67 dX4_leafOfKey_14 (by decide) hF (fun hF => ?_) (fun hF => ?_)
    · refine x_sub [0, 1, 2, 3, 4] rfl ?_
      exact hK _ _ _ hF
    · refine x_iload_n 2 dX4_leafOfKey_17 rfl rfl ?_
      refine x_iload_n 3 dX4_leafOfKey_18 rfl rfl ?_
      refine x_icmp_ge 67 dX4_leafOfKey_19 (by decide) hF (fun hF => ?_) (fun hF => ?_)
      · refine x_sub [0, 1, 2, 3, 4] rfl ?_
        exact hK _ _ _ hF
      · refine x_iload_n 2 dX4_leafOfKey_22 rfl rfl ?_
        refine x_iload_n 3 dX4_leafOfKey_23 rfl rfl ?_
        refine x_iadd dX4_leafOfKey_24 ?_
        refine x_iconst 1 (by decide) dX4_leafOfKey_25 ?_
        refine x_iushr dX4_leafOfKey_26 ?_
        refine x_istore (i := 5) (lv' := [(5, .int ((((x2 + x3)).toUInt32 >>> ((1 : Int32).toUInt32 &&& Int32.toUInt32 31)).toInt32)), (0, .ref c0), (1, .int c1), (2, .int x2), (3, .int x3), (4, .int x4)]) dX4_leafOfKey_27 (by decide) rfl ?_
        refine x_iload 0 dX4_leafOfKey_29 rfl ?_
        refine x_aload_n 1 dX4_leafOfKey_31 rfl rfl ?_
        refine x_getr_r dX4_leafOfKey_32 fl_X4_24 hF (fun v3 hF => ?_)
        refine x_nn hF (fun a4 ha4 hF => ?_)
        rw [ha4]
        refine x_alen_r dX4_leafOfKey_35 hF (fun v5 hF => ?_)
        refine x_icmp_ge 58 dX4_leafOfKey_36 (by decide) hF (fun hF => ?_) (fun hF => ?_)
        · refine x_iload 0 dX4_leafOfKey_58 rfl ?_
          refine x_istore_n (i := 3) (lv' := [(3, .int ((((x2 + x3)).toUInt32 >>> ((1 : Int32).toUInt32 &&& Int32.toUInt32 31)).toInt32)), (5, .int ((((x2 + x3)).toUInt32 >>> ((1 : Int32).toUInt32 &&& Int32.toUInt32 31)).toInt32)), (0, .ref c0), (1, .int c1), (2, .int x2), (4, .int x4)]) dX4_leafOfKey_60 rfl (by decide) rfl ?_
          refine x_iinc (x4 + 1) (lv' := [(4, .int (x4 + 1)), (3, .int ((((x2 + x3)).toUInt32 >>> ((1 : Int32).toUInt32 &&& Int32.toUInt32 31)).toInt32)), (5, .int ((((x2 + x3)).toUInt32 >>> ((1 : Int32).toUInt32 &&& Int32.toUInt32 31)).toInt32)), (0, .ref c0), (1, .int c1), (2, .int x2)]) dX4_leafOfKey_61 5 rfl (by rfl) (by decide) rfl ?_
          refine x_goto 10 dX4_leafOfKey_64 (by decide) ?_
          refine x_sub [3, 4, 5, 1, 0] rfl ?_
          exact ih _ _ _ hF
        · refine x_aload_n 1 dX4_leafOfKey_39 rfl rfl ?_
          refine x_getr_r dX4_leafOfKey_40 fl_X4_24 hF (fun v6 hF => ?_)
          refine x_iload 0 dX4_leafOfKey_43 rfl ?_
          refine x_nn hF (fun a7 ha7 hF => ?_)
          rw [ha7]
          refine x_ald_r dX4_leafOfKey_45 hF (fun v8 hF => ?_)
          refine x_iload_n 2 dX4_leafOfKey_46 rfl rfl ?_
          refine x_icmp_gt 58 dX4_leafOfKey_47 (by decide) hF (fun hF => ?_) (fun hF => ?_)
          · refine x_iload 0 dX4_leafOfKey_58 rfl ?_
            refine x_istore_n (i := 3) (lv' := [(3, .int ((((x2 + x3)).toUInt32 >>> ((1 : Int32).toUInt32 &&& Int32.toUInt32 31)).toInt32)), (5, .int ((((x2 + x3)).toUInt32 >>> ((1 : Int32).toUInt32 &&& Int32.toUInt32 31)).toInt32)), (0, .ref c0), (1, .int c1), (2, .int x2), (4, .int x4)]) dX4_leafOfKey_60 rfl (by decide) rfl ?_
            refine x_iinc (x4 + 1) (lv' := [(4, .int (x4 + 1)), (3, .int ((((x2 + x3)).toUInt32 >>> ((1 : Int32).toUInt32 &&& Int32.toUInt32 31)).toInt32)), (5, .int ((((x2 + x3)).toUInt32 >>> ((1 : Int32).toUInt32 &&& Int32.toUInt32 31)).toInt32)), (0, .ref c0), (1, .int c1), (2, .int x2)]) dX4_leafOfKey_61 5 rfl (by rfl) (by decide) rfl ?_
            refine x_goto 10 dX4_leafOfKey_64 (by decide) ?_
            refine x_sub [3, 4, 5, 1, 0] rfl ?_
            exact ih _ _ _ hF
          · refine x_iload 0 dX4_leafOfKey_50 rfl ?_
            refine x_iconst 1 (by decide) dX4_leafOfKey_52 ?_
            refine x_iadd dX4_leafOfKey_53 ?_
            refine x_istore_n (i := 2) (lv' := [(2, .int ((((x2 + x3)).toUInt32 >>> ((1 : Int32).toUInt32 &&& Int32.toUInt32 31)).toInt32 + 1)), (5, .int ((((x2 + x3)).toUInt32 >>> ((1 : Int32).toUInt32 &&& Int32.toUInt32 31)).toInt32)), (0, .ref c0), (1, .int c1), (3, .int x3), (4, .int x4)]) dX4_leafOfKey_54 rfl (by decide) rfl ?_
            refine x_goto 61 dX4_leafOfKey_55 (by decide) ?_
            refine x_iinc (x4 + 1) (lv' := [(4, .int (x4 + 1)), (2, .int ((((x2 + x3)).toUInt32 >>> ((1 : Int32).toUInt32 &&& Int32.toUInt32 31)).toInt32 + 1)), (5, .int ((((x2 + x3)).toUInt32 >>> ((1 : Int32).toUInt32 &&& Int32.toUInt32 31)).toInt32)), (0, .ref c0), (1, .int c1), (3, .int x3)]) dX4_leafOfKey_61 5 rfl (by rfl) (by decide) rfl ?_
            refine x_goto 10 dX4_leafOfKey_64 (by decide) ?_
            refine x_sub [3, 4, 1, 5, 0] rfl ?_
            exact ih _ _ _ hF
set_option maxRecDepth 20000 in
set_option maxHeartbeats 4000000 in
theorem c_X4_leafOfKey (N : Nat) (f : XM) (this : Nat) (p0 : Int32) (n : Nat) (r : Int32) (hF : F_X4_leafOfKey N f this p0 = some r) : x_Ct mX4_leafOfKey 0 0 0 0 [.ref this, .int p0] (f, n) (xr_ip r (f, n)) := by
  unfold F_X4_leafOfKey at hF
  refine x_ct (by decide) rfl (Nat.le_of_ble_eq_true rfl) ?_
  show X mX4_leafOfKey 0 0 _ _ 0 0 0 [(0, .ref this), (1, .int p0)] [] (f, n)
  refine x_iconst 0 (by decide) dX4_leafOfKey_0 ?_
  refine x_istore_n (i := 2) (lv' := [(2, .int 0), (0, .ref this), (1, .int p0)]) dX4_leafOfKey_1 rfl (by decide) rfl ?_
  refine x_aload_n 1 dX4_leafOfKey_2 rfl rfl ?_
  refine x_geti_r dX4_leafOfKey_3 fl_X4_39 hF (fun v1 hF => ?_)
  refine x_istore_n (i := 3) (lv' := [(3, .int v1), (2, .int 0), (0, .ref this), (1, .int p0)]) dX4_leafOfKey_6 rfl (by decide) rfl ?_
  refine x_iconst 0 (by decide) dX4_leafOfKey_7 ?_
  refine x_istore (i := 4) (lv' := [(4, .int 0), (3, .int v1), (2, .int 0), (0, .ref this), (1, .int p0)]) dX4_leafOfKey_8 (by decide) rfl ?_
  refine x_sub [3, 4, 2, 1, 0] rfl ?_
  refine w_X4_leafOfKey_L10 N _ _ _ _ _ r _ _ _ _ hF (fun y2_9 y3_9 y4_9 hF => ?_)
  refine x_iload_n 2 dX4_leafOfKey_67 rfl rfl ?_
  refine x_iconst 1 (by decide) dX4_leafOfKey_68 ?_
  refine x_isub dX4_leafOfKey_69 ?_
  exact x_iret dX4_leafOfKey_70 rfl (by cases hF; rfl)
def F_X4_moveUpBehind_L29 (N : Nat) (c0 : Nat) (c2 : Int32) (c3 : Int32) (K : Int32 → XM → Option XM) : Nat → Int32 → XM → Option XM
  | 0, _, _ => none
  | k + 1, x4, f =>
    if c3 ≤ x4 then
      K x4 f
    else
      (x_getr f 4 c0 1).bind fun v10 =>
      Option.bind v10 fun a11 =>
      (x_alen f a11).bind fun v12 =>
      if v12 ≤ x4 then
        K x4 f
      else
        if x4 < 0 then
          F_X4_moveUpBehind_L29 N c0 c2 c3 K k (x4 + 1) f
        else
          (x_getr f 4 c0 1).bind fun v13 =>
          Option.bind v13 fun a14 =>
          (x_ald f a14 x4).bind fun v15 =>
          if v15 ≤ c2 then
            F_X4_moveUpBehind_L29 N c0 c2 c3 K k (x4 + 1) f
          else
            (x_getr f 4 c0 1).bind fun v16 =>
            Option.bind v16 fun a17 =>
            (x_ald f a17 x4).bind fun v18 =>
            (x_ast f a17 x4 (v18 - 1)).bind fun f19 =>
            F_X4_moveUpBehind_L29 N c0 c2 c3 K k (x4 + 1) f19
def F_X4_moveUpBehind (N : Nat) (f : XM) (this : Nat) (p0 : Int32) (p1 : Int32) : Option XM :=
  (x_getr f 4 this 0).bind fun v1 =>
  (x_cv f 4 this (F_X4_boundOn N f this (p0 + 1))).bind fun z2 =>
  Option.bind v1 fun a3 =>
  (x_cv f 2 a3 (F_X2_firstFrom N f a3 z2)).bind fun z4 =>
  (x_getr f 4 this 0).bind fun v5 =>
  (x_cv f 4 this (F_X4_boundOn N f this p0)).bind fun z6 =>
  Option.bind v5 fun a7 =>
  (x_cv f 2 a7 (F_X2_firstFrom N f a7 z6)).bind fun z8 =>
  F_X4_moveUpBehind_L29 N this p1 z4 (fun y4_20 g20 =>
  some g20) N z8 f
set_option maxRecDepth 20000 in
set_option maxHeartbeats 4000000 in
theorem w_X4_moveUpBehind_L29 (N : Nat) (c0 : Nat) (c2 : Int32) (c3 : Int32) (K : Int32 → XM → Option XM) (n : Nat) (r : XM) {rc rs : Nat} : ∀ (k : Nat) (x4 : Int32) (f : XM), F_X4_moveUpBehind_L29 N c0 c2 c3 K k x4 f = some r → (∀ (x4 : Int32) (f : XM), K x4 f = some r → X mX4_moveUpBehind 1 25 (x_end (xr_vm r n)) x_noRO rc rs 78 [(0, .ref c0), (2, .int c2), (3, .int c3), (4, .int x4)] [] (f, n)) → X mX4_moveUpBehind 1 25 (x_end (xr_vm r n)) x_noRO rc rs 29 [(0, .ref c0), (2, .int c2), (3, .int c3), (4, .int x4)] [] (f, n) := by
  intro k
  induction k with
  | zero =>
    intro x4 f hF
    exact absurd hF (by intro h9; cases h9)
  | succ k ih =>
    intro x4 f hF hK
    have ih := fun x4 f hF => ih x4 f hF hK
    rw [F_X4_moveUpBehind_L29] at hF
    refine x_iload 3 dX4_moveUpBehind_29 rfl ?_
    refine x_iload_n 2 dX4_moveUpBehind_31 rfl rfl ?_
    refine x_icmp_ge 78 dX4_moveUpBehind_32 (by decide) hF (fun hF => ?_) (fun hF => ?_)
    · refine x_sub [0, 1, 2, 3] rfl ?_
      exact hK _ _ hF
    · refine x_iload 3 dX4_moveUpBehind_35 rfl ?_
      refine x_aload_n 0 dX4_moveUpBehind_37 rfl rfl ?_
      refine x_getr_r dX4_moveUpBehind_38 fl_X4_20 hF (fun v10 hF => ?_)
      refine x_nn hF (fun a11 ha11 hF => ?_)
      rw [ha11]
      refine x_alen_r dX4_moveUpBehind_41 hF (fun v12 hF => ?_)
      refine x_icmp_ge 78 dX4_moveUpBehind_42 (by decide) hF (fun hF => ?_) (fun hF => ?_)
      · refine x_sub [0, 1, 2, 3] rfl ?_
        exact hK _ _ hF
      · refine x_iload 3 dX4_moveUpBehind_45 rfl ?_
        refine x_if_lt 72 dX4_moveUpBehind_47 (by decide) hF (fun hF => ?_) (fun hF => ?_)
        · refine x_iinc (x4 + 1) (lv' := [(4, .int (x4 + 1)), (0, .ref c0), (2, .int c2), (3, .int c3)]) dX4_moveUpBehind_72 3 rfl (by rfl) (by decide) rfl ?_
          refine x_goto 29 dX4_moveUpBehind_75 (by decide) ?_
          refine x_sub [1, 2, 3, 0] rfl ?_
          exact ih _ _ hF
        · refine x_aload_n 0 dX4_moveUpBehind_50 rfl rfl ?_
          refine x_getr_r dX4_moveUpBehind_51 fl_X4_20 hF (fun v13 hF => ?_)
          refine x_iload 3 dX4_moveUpBehind_54 rfl ?_
          refine x_nn hF (fun a14 ha14 hF => ?_)
          rw [ha14]
          refine x_ald_r dX4_moveUpBehind_56 hF (fun v15 hF => ?_)
          refine x_iload_n 1 dX4_moveUpBehind_57 rfl rfl ?_
          refine x_icmp_le 72 dX4_moveUpBehind_58 (by decide) hF (fun hF => ?_) (fun hF => ?_)
          · refine x_iinc (x4 + 1) (lv' := [(4, .int (x4 + 1)), (0, .ref c0), (2, .int c2), (3, .int c3)]) dX4_moveUpBehind_72 3 rfl (by rfl) (by decide) rfl ?_
            refine x_goto 29 dX4_moveUpBehind_75 (by decide) ?_
            refine x_sub [1, 2, 3, 0] rfl ?_
            exact ih _ _ hF
          · refine x_aload_n 0 dX4_moveUpBehind_61 rfl rfl ?_
            refine x_getr_r dX4_moveUpBehind_62 fl_X4_20 hF (fun v16 hF => ?_)
            refine x_iload 3 dX4_moveUpBehind_65 rfl ?_
            refine x_nn hF (fun a17 ha17 hF => ?_)
            rw [ha17]
            refine x_dup2ri dX4_moveUpBehind_67 ?_
            refine x_ald_r dX4_moveUpBehind_68 hF (fun v18 hF => ?_)
            refine x_iconst 1 (by decide) dX4_moveUpBehind_69 ?_
            refine x_isub dX4_moveUpBehind_70 ?_
            refine x_ast_r dX4_moveUpBehind_71 hF (fun f19 hF => ?_)
            refine x_iinc (x4 + 1) (lv' := [(4, .int (x4 + 1)), (0, .ref c0), (2, .int c2), (3, .int c3)]) dX4_moveUpBehind_72 3 rfl (by rfl) (by decide) rfl ?_
            refine x_goto 29 dX4_moveUpBehind_75 (by decide) ?_
            refine x_sub [1, 2, 3, 0] rfl ?_
            exact ih _ _ hF
set_option maxRecDepth 20000 in
set_option maxHeartbeats 4000000 in
theorem c_X4_moveUpBehind (N : Nat) (f : XM) (this : Nat) (p0 : Int32) (p1 : Int32) (n : Nat) (r : XM) (hF : F_X4_moveUpBehind N f this p0 p1 = some r) : x_Ct mX4_moveUpBehind 1 25 0 0 [.ref this, .int p0, .int p1] (f, n) (xr_vm r n) := by
  unfold F_X4_moveUpBehind at hF
  refine x_ct (by decide) rfl (Nat.le_of_ble_eq_true rfl) ?_
  show X mX4_moveUpBehind 1 25 _ _ 0 0 0 [(0, .ref this), (1, .int p0), (2, .int p1)] [] (f, n)
  refine x_aload_n 0 dX4_moveUpBehind_0 rfl rfl ?_
  refine x_getr_r dX4_moveUpBehind_1 fl_X4_14 hF (fun v1 hF => ?_)
  refine x_aload_n 0 dX4_moveUpBehind_4 rfl rfl ?_
  refine x_iload_n 1 dX4_moveUpBehind_5 rfl rfl ?_
  refine x_iconst 1 (by decide) dX4_moveUpBehind_6 ?_
  refine x_iadd dX4_moveUpBehind_7 ?_
  obtain ⟨z2, hzz2, hF⟩ := x_bind hF
  obtain ⟨⟨fsz2, hbz2⟩, hzz2⟩ := x_cv_sp hzz2
  refine x_callv (As := [.int (p0 + 1)]) (rest := [va_rf v1]) 0 0 dX4_moveUpBehind_8 mi_X4_boundOn ml_X4_55 rfl rfl (by simp only [List.map_cons, List.map_nil, x_rfc]; exact Nat.le_of_ble_eq_true rfl) ⟨by decide, by decide⟩ (by omega) (by omega) hbz2 rfl (c_X4_boundOn N _ _ _ _ _ hzz2) (x_K.some ?_) x_KX.none
  refine x_nn hF (fun a3 ha3 hF => ?_)
  rw [ha3]
  obtain ⟨z4, hzz4, hF⟩ := x_bind hF
  obtain ⟨⟨fsz4, hbz4⟩, hzz4⟩ := x_cv_sp hzz4
  refine x_callv (As := [.int z2]) (rest := []) 0 0 dX4_moveUpBehind_11 mi_X2_firstFrom ml_X4_58 rfl rfl (Nat.le_of_ble_eq_true rfl) ⟨by decide, by decide⟩ (by omega) (by omega) hbz4 rfl (c_X2_firstFrom N _ _ _ _ _ hzz4) (x_K.some ?_) x_KX.none
  refine x_istore_n (i := 3) (lv' := [(3, .int z4), (0, .ref this), (1, .int p0), (2, .int p1)]) dX4_moveUpBehind_14 rfl (by decide) rfl ?_
  refine x_aload_n 1 dX4_moveUpBehind_15 rfl rfl ?_
  refine x_getr_r dX4_moveUpBehind_16 fl_X4_14 hF (fun v5 hF => ?_)
  refine x_aload_n 1 dX4_moveUpBehind_19 rfl rfl ?_
  refine x_iload_n 2 dX4_moveUpBehind_20 rfl rfl ?_
  obtain ⟨z6, hzz6, hF⟩ := x_bind hF
  obtain ⟨⟨fsz6, hbz6⟩, hzz6⟩ := x_cv_sp hzz6
  refine x_callv (As := [.int p0]) (rest := [va_rf v5]) 0 0 dX4_moveUpBehind_21 mi_X4_boundOn ml_X4_55 rfl rfl (by simp only [List.map_cons, List.map_nil, x_rfc]; exact Nat.le_of_ble_eq_true rfl) ⟨by decide, by decide⟩ (by omega) (by omega) hbz6 rfl (c_X4_boundOn N _ _ _ _ _ hzz6) (x_K.some ?_) x_KX.none
  refine x_nn hF (fun a7 ha7 hF => ?_)
  rw [ha7]
  obtain ⟨z8, hzz8, hF⟩ := x_bind hF
  obtain ⟨⟨fsz8, hbz8⟩, hzz8⟩ := x_cv_sp hzz8
  refine x_callv (As := [.int z6]) (rest := []) 0 0 dX4_moveUpBehind_24 mi_X2_firstFrom ml_X4_58 rfl rfl (Nat.le_of_ble_eq_true rfl) ⟨by decide, by decide⟩ (by omega) (by omega) hbz8 rfl (c_X2_firstFrom N _ _ _ _ _ hzz8) (x_K.some ?_) x_KX.none
  refine x_istore (i := 4) (lv' := [(4, .int z8), (3, .int z4), (0, .ref this), (1, .int p0), (2, .int p1)]) dX4_moveUpBehind_27 (by decide) rfl ?_
  refine x_sub [2, 4, 1, 0] rfl ?_
  refine w_X4_moveUpBehind_L29 N _ _ _ _ _ r _ _ _ hF (fun y4_20 g20 hF => ?_)
  exact x_vret dX4_moveUpBehind_78 rfl (by cases hF; rfl)
def F_X4_takeOut_L62 (N : Nat) (c0 : Nat) (c2 : Int32) (c3 : Int32) (K : Int32 → XM → Option (Int32 × XM)) : Nat → Int32 → XM → Option (Int32 × XM)
  | 0, _, _ => none
  | k + 1, x4, f =>
    (x_getr f 4 c0 0).bind fun v14 =>
    Option.bind v14 fun a15 =>
    (x_geti f 2 a15 2).bind fun v16 =>
    if v16 ≤ x4 then
      K x4 f
    else
      (x_getr f 4 c0 1).bind fun v17 =>
      Option.bind v17 fun a18 =>
      (x_alen f a18).bind fun v19 =>
      if v19 ≤ x4 then
        K x4 f
      else
        (x_getr f 4 c0 1).bind fun v20 =>
        (x_getr f 4 c0 1).bind fun v21 =>
        Option.bind v21 fun a22 =>
        (x_ald f a22 x4).bind fun v23 =>
        Option.bind v20 fun a24 =>
        (x_ast f a24 (x4 - 1) v23).bind fun f25 =>
        F_X4_takeOut_L62 N c0 c2 c3 K k (x4 + 1) f25
def F_X4_takeOut (N : Nat) (f : XM) (this : Nat) (p0 : Int32) : Option (Int32 × XM) :=
  (x_getr f 4 this 0).bind fun v1 =>
  Option.bind v1 fun a2 =>
  (x_cv f 2 a2 (F_X2_placeOf N f a2 p0)).bind fun z3 =>
  if z3 < 0 then
    some ((-1), f)
  else
    (x_getr f 4 this 1).bind fun v4 =>
    Option.bind v4 fun a5 =>
    (x_alen f a5).bind fun v6 =>
    if z3 < v6 then
      (x_getr f 4 this 0).bind fun v7 =>
      Option.bind v7 fun a8 =>
      (x_cv f 2 a8 (F_X2_valueOn N f a8 z3)).bind fun z9 =>
      (x_getr f 4 this 1).bind fun v10 =>
      Option.bind v10 fun a11 =>
      (x_ald f a11 z3).bind fun v12 =>
      if v12 ≤ 0 then
        F_X4_takeOut_L62 N this z3 z9 (fun y4_26 g26 =>
        (x_getr g26 4 this 0).bind fun v27 =>
        Option.bind v27 fun a28 =>
        (x_cv g26 2 a28 (F_X2_removeAt N g26 a28 z3)).bind fun z29 =>
        some (z9, z29)) N (z3 + 1) f
      else
        (x_cv f 4 this (F_X4_leafOfKey N f this p0)).bind fun z30 =>
        (x_getr f 4 this 1).bind fun v31 =>
        Option.bind v31 fun a32 =>
        (x_ald f a32 z3).bind fun v33 =>
        (x_cv f 4 this (F_X4_moveUpBehind N f this z30 v33)).bind fun z34 =>
        F_X4_takeOut_L62 N this z3 z9 (fun y4_48 g48 =>
        (x_getr g48 4 this 0).bind fun v49 =>
        Option.bind v49 fun a50 =>
        (x_cv g48 2 a50 (F_X2_removeAt N g48 a50 z3)).bind fun z51 =>
        some (z9, z51)) N (z3 + 1) z34
    else
      some ((-1), f)
set_option maxRecDepth 20000 in
set_option maxHeartbeats 4000000 in
theorem w_X4_takeOut_L62 (N : Nat) (c0 : Nat) (c2 : Int32) (c3 : Int32) (K : Int32 → XM → Option (Int32 × XM)) (n : Nat) (r : (Int32 × XM)) {rc rs : Nat} : ∀ (k : Nat) (x4 : Int32) (f : XM), F_X4_takeOut_L62 N c0 c2 c3 K k x4 f = some r → (∀ (x4 : Int32) (f : XM), K x4 f = some r → X mX4_takeOut 2 49 (x_end (xr_im r n)) x_noRO rc rs 106 [(0, .ref c0), (2, .int c2), (3, .int c3), (4, .int x4)] [] (f, n)) → X mX4_takeOut 2 49 (x_end (xr_im r n)) x_noRO rc rs 62 [(0, .ref c0), (2, .int c2), (3, .int c3), (4, .int x4)] [] (f, n) := by
  intro k
  induction k with
  | zero =>
    intro x4 f hF
    exact absurd hF (by intro h9; cases h9)
  | succ k ih =>
    intro x4 f hF hK
    have ih := fun x4 f hF => ih x4 f hF hK
    rw [F_X4_takeOut_L62] at hF
    refine x_iload 3 dX4_takeOut_62 rfl ?_
    refine x_aload_n 0 dX4_takeOut_64 rfl rfl ?_
    refine x_getr_r dX4_takeOut_65 fl_X4_14 hF (fun v14 hF => ?_)
    refine x_nn hF (fun a15 ha15 hF => ?_)
    rw [ha15]
    refine x_geti_r dX4_takeOut_68 fl_X4_31 hF (fun v16 hF => ?_)
    refine x_icmp_ge 106 dX4_takeOut_71 (by decide) hF (fun hF => ?_) (fun hF => ?_)
    · refine x_sub [0, 1, 2, 3] rfl ?_
      exact hK _ _ hF
    · refine x_iload 3 dX4_takeOut_74 rfl ?_
      refine x_aload_n 0 dX4_takeOut_76 rfl rfl ?_
      refine x_getr_r dX4_takeOut_77 fl_X4_20 hF (fun v17 hF => ?_)
      refine x_nn hF (fun a18 ha18 hF => ?_)
      rw [ha18]
      refine x_alen_r dX4_takeOut_80 hF (fun v19 hF => ?_)
      refine x_icmp_ge 106 dX4_takeOut_81 (by decide) hF (fun hF => ?_) (fun hF => ?_)
      · refine x_sub [0, 1, 2, 3] rfl ?_
        exact hK _ _ hF
      · refine x_aload_n 0 dX4_takeOut_84 rfl rfl ?_
        refine x_getr_r dX4_takeOut_85 fl_X4_20 hF (fun v20 hF => ?_)
        refine x_iload 3 dX4_takeOut_88 rfl ?_
        refine x_iconst 1 (by decide) dX4_takeOut_90 ?_
        refine x_isub dX4_takeOut_91 ?_
        refine x_aload_n 0 dX4_takeOut_92 rfl rfl ?_
        refine x_getr_r dX4_takeOut_93 fl_X4_20 hF (fun v21 hF => ?_)
        refine x_iload 3 dX4_takeOut_96 rfl ?_
        refine x_nn hF (fun a22 ha22 hF => ?_)
        rw [ha22]
        refine x_ald_r dX4_takeOut_98 hF (fun v23 hF => ?_)
        refine x_nn hF (fun a24 ha24 hF => ?_)
        rw [ha24]
        refine x_ast_r dX4_takeOut_99 hF (fun f25 hF => ?_)
        refine x_iinc (x4 + 1) (lv' := [(4, .int (x4 + 1)), (0, .ref c0), (2, .int c2), (3, .int c3)]) dX4_takeOut_100 3 rfl (by rfl) (by decide) rfl ?_
        refine x_goto 62 dX4_takeOut_103 (by decide) ?_
        refine x_sub [1, 2, 3, 0] rfl ?_
        exact ih _ _ hF
set_option maxRecDepth 20000 in
set_option maxHeartbeats 4000000 in
theorem c_X4_takeOut (N : Nat) (f : XM) (this : Nat) (p0 : Int32) (n : Nat) (r : (Int32 × XM)) (hF : F_X4_takeOut N f this p0 = some r) : x_Ct mX4_takeOut 2 49 0 0 [.ref this, .int p0] (f, n) (xr_im r n) := by
  unfold F_X4_takeOut at hF
  refine x_ct (by decide) rfl (Nat.le_of_ble_eq_true rfl) ?_
  show X mX4_takeOut 2 49 _ _ 0 0 0 [(0, .ref this), (1, .int p0)] [] (f, n)
  refine x_aload_n 0 dX4_takeOut_0 rfl rfl ?_
  refine x_getr_r dX4_takeOut_1 fl_X4_14 hF (fun v1 hF => ?_)
  refine x_iload_n 1 dX4_takeOut_4 rfl rfl ?_
  refine x_nn hF (fun a2 ha2 hF => ?_)
  rw [ha2]
  obtain ⟨z3, hzz3, hF⟩ := x_bind hF
  obtain ⟨⟨fsz3, hbz3⟩, hzz3⟩ := x_cv_sp hzz3
  refine x_callv (As := [.int p0]) (rest := []) 0 0 dX4_takeOut_5 mi_X2_placeOf ml_X4_74 rfl rfl (Nat.le_of_ble_eq_true rfl) ⟨by decide, by decide⟩ (by omega) (by omega) hbz3 rfl (c_X2_placeOf N _ _ _ _ _ hzz3) (x_K.some ?_) x_KX.none
  refine x_istore_n (i := 2) (lv' := [(2, .int z3), (0, .ref this), (1, .int p0)]) dX4_takeOut_8 rfl (by decide) rfl ?_
  refine x_iload_n 0 dX4_takeOut_9 rfl rfl ?_
  refine x_if_lt 22 dX4_takeOut_10 (by decide) hF (fun hF => ?_) (fun hF => ?_)
  · refine x_iconst (-1) (by decide) dX4_takeOut_22 ?_
    exact x_iret dX4_takeOut_23 rfl (by cases hF; rfl)
  · refine x_iload_n 0 dX4_takeOut_13 rfl rfl ?_
    refine x_aload_n 1 dX4_takeOut_14 rfl rfl ?_
    refine x_getr_r dX4_takeOut_15 fl_X4_20 hF (fun v4 hF => ?_)
    refine x_nn hF (fun a5 ha5 hF => ?_)
    rw [ha5]
    refine x_alen_r dX4_takeOut_18 hF (fun v6 hF => ?_)
    refine x_icmp_lt 24 dX4_takeOut_19 (by decide) hF (fun hF => ?_) (fun hF => ?_)
    · refine x_aload_n 1 dX4_takeOut_24 rfl rfl ?_
      refine x_getr_r dX4_takeOut_25 fl_X4_14 hF (fun v7 hF => ?_)
      refine x_iload_n 0 dX4_takeOut_28 rfl rfl ?_
      refine x_nn hF (fun a8 ha8 hF => ?_)
      rw [ha8]
      obtain ⟨z9, hzz9, hF⟩ := x_bind hF
      obtain ⟨⟨fsz9, hbz9⟩, hzz9⟩ := x_cv_sp hzz9
      refine x_callv (As := [.int z3]) (rest := []) 0 0 dX4_takeOut_29 mi_X2_valueOn ml_X4_98 rfl rfl (Nat.le_of_ble_eq_true rfl) ⟨by decide, by decide⟩ (by omega) (by omega) hbz9 rfl (c_X2_valueOn N _ _ _ _ _ hzz9) (x_K.some ?_) x_KX.none
      refine x_istore_n (i := 3) (lv' := [(3, .int z9), (2, .int z3), (0, .ref this), (1, .int p0)]) dX4_takeOut_32 rfl (by decide) rfl ?_
      refine x_aload_n 2 dX4_takeOut_33 rfl rfl ?_
      refine x_getr_r dX4_takeOut_34 fl_X4_20 hF (fun v10 hF => ?_)
      refine x_iload_n 1 dX4_takeOut_37 rfl rfl ?_
      refine x_nn hF (fun a11 ha11 hF => ?_)
      rw [ha11]
      refine x_ald_r dX4_takeOut_38 hF (fun v12 hF => ?_)
      refine x_if_le 57 dX4_takeOut_39 (by decide) hF (fun hF => ?_) (fun hF => ?_)
      · refine x_iload_n 1 dX4_takeOut_57 rfl rfl ?_
        refine x_iconst 1 (by decide) dX4_takeOut_58 ?_
        refine x_iadd dX4_takeOut_59 ?_
        refine x_istore (i := 4) (lv' := [(4, .int (z3 + 1)), (3, .int z9), (2, .int z3), (0, .ref this), (1, .int p0)]) dX4_takeOut_60 (by decide) rfl ?_
        refine x_sub [3, 2, 1, 0] rfl ?_
        refine w_X4_takeOut_L62 N _ _ _ _ _ r _ _ _ hF (fun y4_26 g26 hF => ?_)
        refine x_aload_n 0 dX4_takeOut_106 rfl rfl ?_
        refine x_getr_r dX4_takeOut_107 fl_X4_14 hF (fun v27 hF => ?_)
        refine x_iload_n 1 dX4_takeOut_110 rfl rfl ?_
        refine x_nn hF (fun a28 ha28 hF => ?_)
        rw [ha28]
        obtain ⟨z29, hzz29, hF⟩ := x_bind hF
        obtain ⟨⟨fsz29, hbz29⟩, hzz29⟩ := x_cv_sp hzz29
        refine x_callv (As := [.int z3]) (rest := []) 0 0 dX4_takeOut_111 mi_X2_removeAt ml_X4_104 rfl rfl (Nat.le_of_ble_eq_true rfl) ⟨by decide, by decide⟩ (by omega) (by omega) hbz29 rfl (c_X2_removeAt N _ _ _ _ _ hzz29) (x_K.none ?_) x_KX.none
        refine x_iload_n 2 dX4_takeOut_114 rfl rfl ?_
        exact x_iret dX4_takeOut_115 rfl (by cases hF; rfl)
      · refine x_aload_n 2 dX4_takeOut_42 rfl rfl ?_
        refine x_aload_n 2 dX4_takeOut_43 rfl rfl ?_
        refine x_iload_n 3 dX4_takeOut_44 rfl rfl ?_
        obtain ⟨z30, hzz30, hF⟩ := x_bind hF
        obtain ⟨⟨fsz30, hbz30⟩, hzz30⟩ := x_cv_sp hzz30
        refine x_callv (As := [.int p0]) (rest := [.ref this]) 0 0 dX4_takeOut_45 mi_X4_leafOfKey ml_X4_85 rfl rfl (Nat.le_of_ble_eq_true rfl) ⟨by decide, by decide⟩ (by omega) (by omega) hbz30 rfl (c_X4_leafOfKey N _ _ _ _ _ hzz30) (x_K.some ?_) x_KX.none
        refine x_aload_n 2 dX4_takeOut_48 rfl rfl ?_
        refine x_getr_r dX4_takeOut_49 fl_X4_20 hF (fun v31 hF => ?_)
        refine x_iload_n 1 dX4_takeOut_52 rfl rfl ?_
        refine x_nn hF (fun a32 ha32 hF => ?_)
        rw [ha32]
        refine x_ald_r dX4_takeOut_53 hF (fun v33 hF => ?_)
        obtain ⟨z34, hzz34, hF⟩ := x_bind hF
        obtain ⟨⟨fsz34, hbz34⟩, hzz34⟩ := x_cv_sp hzz34
        refine x_callv (As := [.int z30, .int v33]) (rest := []) 0 0 dX4_takeOut_54 mi_X4_moveUpBehind ml_X4_101 rfl rfl (Nat.le_of_ble_eq_true rfl) ⟨by decide, by decide⟩ (by omega) (by omega) hbz34 rfl (c_X4_moveUpBehind N _ _ _ _ _ _ hzz34) (x_K.none ?_) x_KX.none
        refine x_iload_n 1 dX4_takeOut_57 rfl rfl ?_
        refine x_iconst 1 (by decide) dX4_takeOut_58 ?_
        refine x_iadd dX4_takeOut_59 ?_
        refine x_istore (i := 4) (lv' := [(4, .int (z3 + 1)), (3, .int z9), (2, .int z3), (0, .ref this), (1, .int p0)]) dX4_takeOut_60 (by decide) rfl ?_
        refine x_sub [3, 2, 1, 0] rfl ?_
        refine w_X4_takeOut_L62 N _ _ _ _ _ r _ _ _ hF (fun y4_48 g48 hF => ?_)
        refine x_aload_n 0 dX4_takeOut_106 rfl rfl ?_
        refine x_getr_r dX4_takeOut_107 fl_X4_14 hF (fun v49 hF => ?_)
        refine x_iload_n 1 dX4_takeOut_110 rfl rfl ?_
        refine x_nn hF (fun a50 ha50 hF => ?_)
        rw [ha50]
        obtain ⟨z51, hzz51, hF⟩ := x_bind hF
        obtain ⟨⟨fsz51, hbz51⟩, hzz51⟩ := x_cv_sp hzz51
        refine x_callv (As := [.int z3]) (rest := []) 0 0 dX4_takeOut_111 mi_X2_removeAt ml_X4_104 rfl rfl (Nat.le_of_ble_eq_true rfl) ⟨by decide, by decide⟩ (by omega) (by omega) hbz51 rfl (c_X2_removeAt N _ _ _ _ _ hzz51) (x_K.none ?_) x_KX.none
        refine x_iload_n 2 dX4_takeOut_114 rfl rfl ?_
        exact x_iret dX4_takeOut_115 rfl (by cases hF; rfl)
    · refine x_iconst (-1) (by decide) dX4_takeOut_22 ?_
      exact x_iret dX4_takeOut_23 rfl (by cases hF; rfl)
def F_X3_eraseEntry (N : Nat) (f : XM) (this : Nat) (p0 : Int32) : Option (Int32 × XM) :=
  (x_cv f 3 this (F_X3_runTelling N f this p0)).bind fun z1 =>
  if z1 = (-1) then
    (x_getr f 3 this 3).bind fun v2 =>
    Option.bind v2 fun a3 =>
    (x_cv f 4 a3 (F_X4_takeOut N f a3 p0)).bind fun z4 =>
    some (z4.1, z4.2)
  else
    some ((-1), f)
set_option maxRecDepth 20000 in
set_option maxHeartbeats 4000000 in
theorem c_X3_eraseEntry (N : Nat) (f : XM) (this : Nat) (p0 : Int32) (n : Nat) (r : (Int32 × XM)) (hF : F_X3_eraseEntry N f this p0 = some r) : x_Ct mX3_eraseEntry 3 73 0 0 [.ref this, .int p0] (f, n) (xr_im r n) := by
  unfold F_X3_eraseEntry at hF
  refine x_ct (by decide) rfl (Nat.le_of_ble_eq_true rfl) ?_
  show X mX3_eraseEntry 3 73 _ _ 0 0 0 [(0, .ref this), (1, .int p0)] [] (f, n)
  refine x_aload_n 0 dX3_eraseEntry_0 rfl rfl ?_
  refine x_iload_n 1 dX3_eraseEntry_1 rfl rfl ?_
  obtain ⟨z1, hzz1, hF⟩ := x_bind hF
  obtain ⟨⟨fsz1, hbz1⟩, hzz1⟩ := x_cv_sp hzz1
  refine x_callv (As := [.int p0]) (rest := []) 0 0 dX3_eraseEntry_2 mi_X3_runTelling ml_X3_105 rfl rfl (Nat.le_of_ble_eq_true rfl) ⟨by decide, by decide⟩ (by omega) (by omega) hbz1 rfl (c_X3_runTelling N _ _ _ _ _ hzz1) (x_K.some ?_) x_KX.none
  refine x_iconst (-1) (by decide) dX3_eraseEntry_5 ?_
  refine x_icmp_eq 13 dX3_eraseEntry_6 (by decide) hF (fun hF => ?_) (fun hF => ?_)
  · refine x_aload_n 0 dX3_eraseEntry_13 rfl rfl ?_
    refine x_getr_r dX3_eraseEntry_14 fl_X3_27 hF (fun v2 hF => ?_)
    refine x_iload_n 1 dX3_eraseEntry_17 rfl rfl ?_
    refine x_nn hF (fun a3 ha3 hF => ?_)
    rw [ha3]
    obtain ⟨z4, hzz4, hF⟩ := x_bind hF
    obtain ⟨⟨fsz4, hbz4⟩, hzz4⟩ := x_cv_sp hzz4
    refine x_callv (As := [.int p0]) (rest := []) 0 0 dX3_eraseEntry_18 mi_X4_takeOut ml_X3_112 rfl rfl (Nat.le_of_ble_eq_true rfl) ⟨by decide, by decide⟩ (by omega) (by omega) hbz4 rfl (c_X4_takeOut N _ _ _ _ _ hzz4) (x_K.some ?_) x_KX.none
    exact x_iret dX3_eraseEntry_21 rfl (by cases hF; rfl)
  · refine x_iconst (-1) (by decide) dX3_eraseEntry_9 ?_
    refine x_goto 21 dX3_eraseEntry_10 (by decide) ?_
    exact x_iret dX3_eraseEntry_21 rfl (by cases hF; rfl)
def F_X1_begin (N : Nat) (f : XM) (this : Nat) : Option XM :=
  (x_puti f 1 this 0 0).bind fun f1 =>
  (x_puti f1 1 this 1 0).bind fun f2 =>
  (x_puti f2 1 this 2 0).bind fun f3 =>
  (x_puti f3 1 this 3 0).bind fun f4 =>
  some f4
set_option maxRecDepth 20000 in
set_option maxHeartbeats 4000000 in
theorem c_X1_begin (N : Nat) (f : XM) (this : Nat) (n : Nat) (r : XM) (hF : F_X1_begin N f this = some r) : x_Ct mX1_begin 0 0 0 0 [.ref this] (f, n) (xr_vm r n) := by
  unfold F_X1_begin at hF
  refine x_ct (by decide) rfl (Nat.le_of_ble_eq_true rfl) ?_
  show X mX1_begin 0 0 _ _ 0 0 0 [(0, .ref this)] [] (f, n)
  refine x_aload_n 0 dX1_begin_0 rfl rfl ?_
  refine x_iconst 0 (by decide) dX1_begin_1 ?_
  refine x_puti_r dX1_begin_2 fl_X1_11 (fun h9 => by cases h9) hF (fun f1 hF => ?_)
  refine x_aload_n 0 dX1_begin_5 rfl rfl ?_
  refine x_iconst 0 (by decide) dX1_begin_6 ?_
  refine x_puti_r dX1_begin_7 fl_X1_15 (fun h9 => by cases h9) hF (fun f2 hF => ?_)
  refine x_aload_n 0 dX1_begin_10 rfl rfl ?_
  refine x_iconst 0 (by decide) dX1_begin_11 ?_
  refine x_puti_r dX1_begin_12 fl_X1_18 (fun h9 => by cases h9) hF (fun f3 hF => ?_)
  refine x_aload_n 0 dX1_begin_15 rfl rfl ?_
  refine x_iconst 0 (by decide) dX1_begin_16 ?_
  refine x_puti_r dX1_begin_17 fl_X1_21 (fun h9 => by cases h9) hF (fun f4 hF => ?_)
  exact x_vret dX1_begin_20 rfl (by cases hF; rfl)
def F_X1_isComplete (N : Nat) (f : XM) (this : Nat) : Option Bool :=
  (x_geti f 1 this 0).bind fun v1 =>
  if v1 = 7 then
    some true
  else
    (x_geti f 1 this 0).bind fun v2 =>
    if v2 = 4 then
      some true
    else
      (x_geti f 1 this 0).bind fun v3 =>
      if v3 = 2 then
        (x_geti f 1 this 1).bind fun v4 =>
        if v4 = 112 then
          some false
        else
          (x_geti f 1 this 1).bind fun v5 =>
          if v5 = 105 then
            some false
          else
            some true
      else
        some false
set_option maxRecDepth 20000 in
set_option maxHeartbeats 4000000 in
theorem c_X1_isComplete (N : Nat) (f : XM) (this : Nat) (n : Nat) (r : Bool) (hF : F_X1_isComplete N f this = some r) : x_Ct mX1_isComplete 0 0 0 0 [.ref this] (f, n) (xr_zp r (f, n)) := by
  unfold F_X1_isComplete at hF
  refine x_ct (by decide) rfl (Nat.le_of_ble_eq_true rfl) ?_
  show X mX1_isComplete 0 0 _ _ 0 0 0 [(0, .ref this)] [] (f, n)
  refine x_aload_n 0 dX1_isComplete_0 rfl rfl ?_
  refine x_geti_r dX1_isComplete_1 fl_X1_11 hF (fun v1 hF => ?_)
  refine x_bipush 7 (by decide) dX1_isComplete_4 ?_
  refine x_icmp_eq 43 dX1_isComplete_6 (by decide) hF (fun hF => ?_) (fun hF => ?_)
  · refine x_iconst 1 (by decide) dX1_isComplete_43 ?_
    refine x_goto 48 dX1_isComplete_44 (by decide) ?_
    exact x_zret dX1_isComplete_48 rfl (Or.inr rfl) (by cases hF; rfl)
  · refine x_aload_n 0 dX1_isComplete_9 rfl rfl ?_
    refine x_geti_r dX1_isComplete_10 fl_X1_11 hF (fun v2 hF => ?_)
    refine x_iconst 4 (by decide) dX1_isComplete_13 ?_
    refine x_icmp_eq 43 dX1_isComplete_14 (by decide) hF (fun hF => ?_) (fun hF => ?_)
    · refine x_iconst 1 (by decide) dX1_isComplete_43 ?_
      refine x_goto 48 dX1_isComplete_44 (by decide) ?_
      exact x_zret dX1_isComplete_48 rfl (Or.inr rfl) (by cases hF; rfl)
    · refine x_aload_n 0 dX1_isComplete_17 rfl rfl ?_
      refine x_geti_r dX1_isComplete_18 fl_X1_11 hF (fun v3 hF => ?_)
      refine x_iconst 2 (by decide) dX1_isComplete_21 ?_
      refine x_icmp_ne 47 dX1_isComplete_22 (by decide) hF (fun hF => ?_) (fun hF => ?_)
      · refine x_iconst 0 (by decide) dX1_isComplete_47 ?_
        exact x_zret dX1_isComplete_48 rfl (Or.inl rfl) (by cases hF; rfl)
      · refine x_aload_n 0 dX1_isComplete_25 rfl rfl ?_
        refine x_geti_r dX1_isComplete_26 fl_X1_15 hF (fun v4 hF => ?_)
        refine x_bipush 112 (by decide) dX1_isComplete_29 ?_
        refine x_icmp_eq 47 dX1_isComplete_31 (by decide) hF (fun hF => ?_) (fun hF => ?_)
        · refine x_iconst 0 (by decide) dX1_isComplete_47 ?_
          exact x_zret dX1_isComplete_48 rfl (Or.inl rfl) (by cases hF; rfl)
        · refine x_aload_n 0 dX1_isComplete_34 rfl rfl ?_
          refine x_geti_r dX1_isComplete_35 fl_X1_15 hF (fun v5 hF => ?_)
          refine x_bipush 105 (by decide) dX1_isComplete_38 ?_
          refine x_icmp_eq 47 dX1_isComplete_40 (by decide) hF (fun hF => ?_) (fun hF => ?_)
          · refine x_iconst 0 (by decide) dX1_isComplete_47 ?_
            exact x_zret dX1_isComplete_48 rfl (Or.inl rfl) (by cases hF; rfl)
          · refine x_iconst 1 (by decide) dX1_isComplete_43 ?_
            refine x_goto 48 dX1_isComplete_44 (by decide) ?_
            exact x_zret dX1_isComplete_48 rfl (Or.inr rfl) (by cases hF; rfl)
def F_X1_readLetter (N : Nat) (f : XM) (this : Nat) (p0 : Int32) : Option (Int32 × XM) :=
  (x_puti f 1 this 1 p0).bind fun f1 =>
  (x_puti f1 1 this 2 0).bind fun f2 =>
  (x_puti f2 1 this 3 0).bind fun f3 =>
  if p0 = 98 then
    some (5, f3)
  else if p0 = 99 then
    some (7, f3)
  else if p0 = 100 then
    some (1, f3)
  else if p0 = 101 then
    some (1, f3)
  else if p0 = 105 then
    some (1, f3)
  else if p0 = 112 then
    some (1, f3)
  else 
  some (8, f3)
set_option maxRecDepth 20000 in
set_option maxHeartbeats 4000000 in
theorem c_X1_readLetter (N : Nat) (f : XM) (this : Nat) (p0 : Int32) (n : Nat) (r : (Int32 × XM)) (hF : F_X1_readLetter N f this p0 = some r) : x_Ct mX1_readLetter 0 0 0 0 [.ref this, .int p0] (f, n) (xr_im r n) := by
  unfold F_X1_readLetter at hF
  refine x_ct (by decide) rfl (Nat.le_of_ble_eq_true rfl) ?_
  show X mX1_readLetter 0 0 _ _ 0 0 0 [(0, .ref this), (1, .int p0)] [] (f, n)
  refine x_aload_n 0 dX1_readLetter_0 rfl rfl ?_
  refine x_iload_n 1 dX1_readLetter_1 rfl rfl ?_
  refine x_puti_r dX1_readLetter_2 fl_X1_15 (fun h9 => by cases h9) hF (fun f1 hF => ?_)
  refine x_aload_n 0 dX1_readLetter_5 rfl rfl ?_
  refine x_iconst 0 (by decide) dX1_readLetter_6 ?_
  refine x_puti_r dX1_readLetter_7 fl_X1_18 (fun h9 => by cases h9) hF (fun f2 hF => ?_)
  refine x_aload_n 0 dX1_readLetter_10 rfl rfl ?_
  refine x_iconst 0 (by decide) dX1_readLetter_11 ?_
  refine x_puti_r dX1_readLetter_12 fl_X1_21 (fun h9 => by cases h9) hF (fun f3 hF => ?_)
  refine x_iload_n 1 dX1_readLetter_15 rfl rfl ?_
  refine x_swc 98 94 dX1_readLetter_16 (by decide) rfl (by decide) hF (fun hF => ?_) (fun e98 hF => ?_)
  · refine x_iconst 5 (by decide) dX1_readLetter_94 ?_
    exact x_iret dX1_readLetter_95 rfl (by cases hF; rfl)
  refine x_swc 99 96 dX1_readLetter_16 (by decide) rfl (by decide) hF (fun hF => ?_) (fun e99 hF => ?_)
  · refine x_bipush 7 (by decide) dX1_readLetter_96 ?_
    exact x_iret dX1_readLetter_98 rfl (by cases hF; rfl)
  refine x_swc 100 92 dX1_readLetter_16 (by decide) rfl (by decide) hF (fun hF => ?_) (fun e100 hF => ?_)
  · refine x_iconst 1 (by decide) dX1_readLetter_92 ?_
    exact x_iret dX1_readLetter_93 rfl (by cases hF; rfl)
  refine x_swc 101 92 dX1_readLetter_16 (by decide) rfl (by decide) hF (fun hF => ?_) (fun e101 hF => ?_)
  · refine x_iconst 1 (by decide) dX1_readLetter_92 ?_
    exact x_iret dX1_readLetter_93 rfl (by cases hF; rfl)
  refine x_swc 105 92 dX1_readLetter_16 (by decide) rfl (by decide) hF (fun hF => ?_) (fun e105 hF => ?_)
  · refine x_iconst 1 (by decide) dX1_readLetter_92 ?_
    exact x_iret dX1_readLetter_93 rfl (by cases hF; rfl)
  refine x_swc 112 92 dX1_readLetter_16 (by decide) rfl (by decide) hF (fun hF => ?_) (fun e112 hF => ?_)
  · refine x_iconst 1 (by decide) dX1_readLetter_92 ?_
    exact x_iret dX1_readLetter_93 rfl (by cases hF; rfl)
  refine x_swd 99 dX1_readLetter_16 (by decide) ?_ ?_
  · intro i hi
    match i, hi with
    | 0, _ => exact Or.inr (fun h9 => e98 (x_toInt h9))
    | 1, _ => exact Or.inr (fun h9 => e99 (x_toInt h9))
    | 2, _ => exact Or.inr (fun h9 => e100 (x_toInt h9))
    | 3, _ => exact Or.inr (fun h9 => e101 (x_toInt h9))
    | 4, _ => exact Or.inl rfl
    | 5, _ => exact Or.inl rfl
    | 6, _ => exact Or.inl rfl
    | 7, _ => exact Or.inr (fun h9 => e105 (x_toInt h9))
    | 8, _ => exact Or.inl rfl
    | 9, _ => exact Or.inl rfl
    | 10, _ => exact Or.inl rfl
    | 11, _ => exact Or.inl rfl
    | 12, _ => exact Or.inl rfl
    | 13, _ => exact Or.inl rfl
    | 14, _ => exact Or.inr (fun h9 => e112 (x_toInt h9))
    | i + 15, hi => exact absurd hi (by show ¬ i + 15 < 15; omega)
  refine ⟨by decide, ?_⟩
  refine x_bipush 8 (by decide) dX1_readLetter_99 ?_
  exact x_iret dX1_readLetter_101 rfl (by cases hF; rfl)
def F_X1_isDigit (N : Nat) (f : XM) (p0 : Int32) : Option Bool :=
  if p0 < 48 then
    some false
  else
    if 57 < p0 then
      some false
    else
      some true
set_option maxRecDepth 20000 in
set_option maxHeartbeats 4000000 in
theorem c_X1_isDigit (N : Nat) (f : XM) (p0 : Int32) (n : Nat) (r : Bool) (hF : F_X1_isDigit N f p0 = some r) : x_Ct mX1_isDigit 0 0 0 0 [.int p0] (f, n) (xr_zp r (f, n)) := by
  unfold F_X1_isDigit at hF
  refine x_ct (by decide) rfl (Nat.le_of_ble_eq_true rfl) ?_
  show X mX1_isDigit 0 0 _ _ 0 0 0 [(0, .int p0)] [] (f, n)
  refine x_iload_n 0 dX1_isDigit_0 rfl rfl ?_
  refine x_bipush 48 (by decide) dX1_isDigit_1 ?_
  refine x_icmp_lt 16 dX1_isDigit_3 (by decide) hF (fun hF => ?_) (fun hF => ?_)
  · refine x_iconst 0 (by decide) dX1_isDigit_16 ?_
    exact x_zret dX1_isDigit_17 rfl (Or.inl rfl) (by cases hF; rfl)
  · refine x_iload_n 0 dX1_isDigit_6 rfl rfl ?_
    refine x_bipush 57 (by decide) dX1_isDigit_7 ?_
    refine x_icmp_gt 16 dX1_isDigit_9 (by decide) hF (fun hF => ?_) (fun hF => ?_)
    · refine x_iconst 0 (by decide) dX1_isDigit_16 ?_
      exact x_zret dX1_isDigit_17 rfl (Or.inl rfl) (by cases hF; rfl)
    · refine x_iconst 1 (by decide) dX1_isDigit_12 ?_
      refine x_goto 17 dX1_isDigit_13 (by decide) ?_
      exact x_zret dX1_isDigit_17 rfl (Or.inr rfl) (by cases hF; rfl)
def F_X1_readKey (N : Nat) (f : XM) (this : Nat) (p0 : Int32) : Option (Int32 × XM) :=
  if p0 = 61 then
    (x_geti f 1 this 0).bind fun v10 =>
    if v10 = 2 then
      (x_geti f 1 this 1).bind fun v20 =>
      if v20 = 112 then
        some (3, f)
      else
        (x_geti f 1 this 1).bind fun v21 =>
        if v21 = 105 then
          some (3, f)
        else
          (F_X1_isDigit N f p0).bind fun z22 =>
          if (x_b z22) = 0 then
            some (8, f)
          else
            (x_geti f 1 this 0).bind fun v23 =>
            if v23 = 2 then
              (x_geti f 1 this 2).bind fun v27 =>
              if v27 = 0 then
                some (8, f)
              else
                (x_geti f 1 this 2).bind fun v28 =>
                (x_puti f 1 this 2 (((v28 * 10) + p0) - 48)).bind fun f29 =>
                (x_geti f29 1 this 2).bind fun v30 =>
                if v30 ≤ 9999 then
                  some (2, f29)
                else
                  some (8, f29)
            else
              (x_geti f 1 this 2).bind fun v24 =>
              (x_puti f 1 this 2 (((v24 * 10) + p0) - 48)).bind fun f25 =>
              (x_geti f25 1 this 2).bind fun v26 =>
              if v26 ≤ 9999 then
                some (2, f25)
              else
                some (8, f25)
    else
      (F_X1_isDigit N f p0).bind fun z11 =>
      if (x_b z11) = 0 then
        some (8, f)
      else
        (x_geti f 1 this 0).bind fun v12 =>
        if v12 = 2 then
          (x_geti f 1 this 2).bind fun v16 =>
          if v16 = 0 then
            some (8, f)
          else
            (x_geti f 1 this 2).bind fun v17 =>
            (x_puti f 1 this 2 (((v17 * 10) + p0) - 48)).bind fun f18 =>
            (x_geti f18 1 this 2).bind fun v19 =>
            if v19 ≤ 9999 then
              some (2, f18)
            else
              some (8, f18)
        else
          (x_geti f 1 this 2).bind fun v13 =>
          (x_puti f 1 this 2 (((v13 * 10) + p0) - 48)).bind fun f14 =>
          (x_geti f14 1 this 2).bind fun v15 =>
          if v15 ≤ 9999 then
            some (2, f14)
          else
            some (8, f14)
  else
    (F_X1_isDigit N f p0).bind fun z1 =>
    if (x_b z1) = 0 then
      some (8, f)
    else
      (x_geti f 1 this 0).bind fun v2 =>
      if v2 = 2 then
        (x_geti f 1 this 2).bind fun v6 =>
        if v6 = 0 then
          some (8, f)
        else
          (x_geti f 1 this 2).bind fun v7 =>
          (x_puti f 1 this 2 (((v7 * 10) + p0) - 48)).bind fun f8 =>
          (x_geti f8 1 this 2).bind fun v9 =>
          if v9 ≤ 9999 then
            some (2, f8)
          else
            some (8, f8)
      else
        (x_geti f 1 this 2).bind fun v3 =>
        (x_puti f 1 this 2 (((v3 * 10) + p0) - 48)).bind fun f4 =>
        (x_geti f4 1 this 2).bind fun v5 =>
        if v5 ≤ 9999 then
          some (2, f4)
        else
          some (8, f4)
set_option maxRecDepth 20000 in
set_option maxHeartbeats 4000000 in
theorem c_X1_readKey (N : Nat) (f : XM) (this : Nat) (p0 : Int32) (n : Nat) (r : (Int32 × XM)) (hF : F_X1_readKey N f this p0 = some r) : x_Ct mX1_readKey 1 20 0 0 [.ref this, .int p0] (f, n) (xr_im r n) := by
  unfold F_X1_readKey at hF
  refine x_ct (by decide) rfl (Nat.le_of_ble_eq_true rfl) ?_
  show X mX1_readKey 1 20 _ _ 0 0 0 [(0, .ref this), (1, .int p0)] [] (f, n)
  refine x_iload_n 1 dX1_readKey_0 rfl rfl ?_
  refine x_bipush 61 (by decide) dX1_readKey_1 ?_
  refine x_icmp_ne 34 dX1_readKey_3 (by decide) hF (fun hF => ?_) (fun hF => ?_)
  · refine x_iload_n 1 dX1_readKey_34 rfl rfl ?_
    obtain ⟨z1, hzz1, hF⟩ := x_bind hF
    refine x_calls (As := [.int p0]) (rest := []) 0 0 dX1_readKey_35 mi_X1_isDigit rfl ml_X1_55 rfl rfl (Nat.le_of_ble_eq_true rfl) ⟨by decide, by decide⟩ (by omega) (by omega) (c_X1_isDigit N _ _ _ _ hzz1) (x_K.some ?_) x_KX.none
    refine x_if_eq 56 dX1_readKey_38 (by decide) hF (fun hF => ?_) (fun hF => ?_)
    · refine x_bipush 8 (by decide) dX1_readKey_56 ?_
      exact x_iret dX1_readKey_58 rfl (by cases hF; rfl)
    · refine x_aload_n 0 dX1_readKey_41 rfl rfl ?_
      refine x_geti_r dX1_readKey_42 fl_X1_11 hF (fun v2 hF => ?_)
      refine x_iconst 2 (by decide) dX1_readKey_45 ?_
      refine x_icmp_ne 59 dX1_readKey_46 (by decide) hF (fun hF => ?_) (fun hF => ?_)
      · refine x_aload_n 0 dX1_readKey_59 rfl rfl ?_
        refine x_aload_n 0 dX1_readKey_60 rfl rfl ?_
        refine x_geti_r dX1_readKey_61 fl_X1_18 hF (fun v3 hF => ?_)
        refine x_bipush 10 (by decide) dX1_readKey_64 ?_
        refine x_imul dX1_readKey_66 ?_
        refine x_iload_n 1 dX1_readKey_67 rfl rfl ?_
        refine x_iadd dX1_readKey_68 ?_
        refine x_bipush 48 (by decide) dX1_readKey_69 ?_
        refine x_isub dX1_readKey_71 ?_
        refine x_puti_r dX1_readKey_72 fl_X1_18 (fun h9 => by cases h9) hF (fun f4 hF => ?_)
        refine x_aload_n 0 dX1_readKey_75 rfl rfl ?_
        refine x_geti_r dX1_readKey_76 fl_X1_18 hF (fun v5 hF => ?_)
        refine x_sipush 9999 (by decide) dX1_readKey_79 ?_
        refine x_icmp_le 90 dX1_readKey_82 (by decide) hF (fun hF => ?_) (fun hF => ?_)
        · refine x_iconst 2 (by decide) dX1_readKey_90 ?_
          exact x_iret dX1_readKey_91 rfl (by cases hF; rfl)
        · refine x_bipush 8 (by decide) dX1_readKey_85 ?_
          refine x_goto 91 dX1_readKey_87 (by decide) ?_
          exact x_iret dX1_readKey_91 rfl (by cases hF; rfl)
      · refine x_aload_n 0 dX1_readKey_49 rfl rfl ?_
        refine x_geti_r dX1_readKey_50 fl_X1_18 hF (fun v6 hF => ?_)
        refine x_if_ne 59 dX1_readKey_53 (by decide) hF (fun hF => ?_) (fun hF => ?_)
        · refine x_aload_n 0 dX1_readKey_59 rfl rfl ?_
          refine x_aload_n 0 dX1_readKey_60 rfl rfl ?_
          refine x_geti_r dX1_readKey_61 fl_X1_18 hF (fun v7 hF => ?_)
          refine x_bipush 10 (by decide) dX1_readKey_64 ?_
          refine x_imul dX1_readKey_66 ?_
          refine x_iload_n 1 dX1_readKey_67 rfl rfl ?_
          refine x_iadd dX1_readKey_68 ?_
          refine x_bipush 48 (by decide) dX1_readKey_69 ?_
          refine x_isub dX1_readKey_71 ?_
          refine x_puti_r dX1_readKey_72 fl_X1_18 (fun h9 => by cases h9) hF (fun f8 hF => ?_)
          refine x_aload_n 0 dX1_readKey_75 rfl rfl ?_
          refine x_geti_r dX1_readKey_76 fl_X1_18 hF (fun v9 hF => ?_)
          refine x_sipush 9999 (by decide) dX1_readKey_79 ?_
          refine x_icmp_le 90 dX1_readKey_82 (by decide) hF (fun hF => ?_) (fun hF => ?_)
          · refine x_iconst 2 (by decide) dX1_readKey_90 ?_
            exact x_iret dX1_readKey_91 rfl (by cases hF; rfl)
          · refine x_bipush 8 (by decide) dX1_readKey_85 ?_
            refine x_goto 91 dX1_readKey_87 (by decide) ?_
            exact x_iret dX1_readKey_91 rfl (by cases hF; rfl)
        · refine x_bipush 8 (by decide) dX1_readKey_56 ?_
          exact x_iret dX1_readKey_58 rfl (by cases hF; rfl)
  · refine x_aload_n 0 dX1_readKey_6 rfl rfl ?_
    refine x_geti_r dX1_readKey_7 fl_X1_11 hF (fun v10 hF => ?_)
    refine x_iconst 2 (by decide) dX1_readKey_10 ?_
    refine x_icmp_ne 34 dX1_readKey_11 (by decide) hF (fun hF => ?_) (fun hF => ?_)
    · refine x_iload_n 1 dX1_readKey_34 rfl rfl ?_
      obtain ⟨z11, hzz11, hF⟩ := x_bind hF
      refine x_calls (As := [.int p0]) (rest := []) 0 0 dX1_readKey_35 mi_X1_isDigit rfl ml_X1_55 rfl rfl (Nat.le_of_ble_eq_true rfl) ⟨by decide, by decide⟩ (by omega) (by omega) (c_X1_isDigit N _ _ _ _ hzz11) (x_K.some ?_) x_KX.none
      refine x_if_eq 56 dX1_readKey_38 (by decide) hF (fun hF => ?_) (fun hF => ?_)
      · refine x_bipush 8 (by decide) dX1_readKey_56 ?_
        exact x_iret dX1_readKey_58 rfl (by cases hF; rfl)
      · refine x_aload_n 0 dX1_readKey_41 rfl rfl ?_
        refine x_geti_r dX1_readKey_42 fl_X1_11 hF (fun v12 hF => ?_)
        refine x_iconst 2 (by decide) dX1_readKey_45 ?_
        refine x_icmp_ne 59 dX1_readKey_46 (by decide) hF (fun hF => ?_) (fun hF => ?_)
        · refine x_aload_n 0 dX1_readKey_59 rfl rfl ?_
          refine x_aload_n 0 dX1_readKey_60 rfl rfl ?_
          refine x_geti_r dX1_readKey_61 fl_X1_18 hF (fun v13 hF => ?_)
          refine x_bipush 10 (by decide) dX1_readKey_64 ?_
          refine x_imul dX1_readKey_66 ?_
          refine x_iload_n 1 dX1_readKey_67 rfl rfl ?_
          refine x_iadd dX1_readKey_68 ?_
          refine x_bipush 48 (by decide) dX1_readKey_69 ?_
          refine x_isub dX1_readKey_71 ?_
          refine x_puti_r dX1_readKey_72 fl_X1_18 (fun h9 => by cases h9) hF (fun f14 hF => ?_)
          refine x_aload_n 0 dX1_readKey_75 rfl rfl ?_
          refine x_geti_r dX1_readKey_76 fl_X1_18 hF (fun v15 hF => ?_)
          refine x_sipush 9999 (by decide) dX1_readKey_79 ?_
          refine x_icmp_le 90 dX1_readKey_82 (by decide) hF (fun hF => ?_) (fun hF => ?_)
          · refine x_iconst 2 (by decide) dX1_readKey_90 ?_
            exact x_iret dX1_readKey_91 rfl (by cases hF; rfl)
          · refine x_bipush 8 (by decide) dX1_readKey_85 ?_
            refine x_goto 91 dX1_readKey_87 (by decide) ?_
            exact x_iret dX1_readKey_91 rfl (by cases hF; rfl)
        · refine x_aload_n 0 dX1_readKey_49 rfl rfl ?_
          refine x_geti_r dX1_readKey_50 fl_X1_18 hF (fun v16 hF => ?_)
          refine x_if_ne 59 dX1_readKey_53 (by decide) hF (fun hF => ?_) (fun hF => ?_)
          · refine x_aload_n 0 dX1_readKey_59 rfl rfl ?_
            refine x_aload_n 0 dX1_readKey_60 rfl rfl ?_
            refine x_geti_r dX1_readKey_61 fl_X1_18 hF (fun v17 hF => ?_)
            refine x_bipush 10 (by decide) dX1_readKey_64 ?_
            refine x_imul dX1_readKey_66 ?_
            refine x_iload_n 1 dX1_readKey_67 rfl rfl ?_
            refine x_iadd dX1_readKey_68 ?_
            refine x_bipush 48 (by decide) dX1_readKey_69 ?_
            refine x_isub dX1_readKey_71 ?_
            refine x_puti_r dX1_readKey_72 fl_X1_18 (fun h9 => by cases h9) hF (fun f18 hF => ?_)
            refine x_aload_n 0 dX1_readKey_75 rfl rfl ?_
            refine x_geti_r dX1_readKey_76 fl_X1_18 hF (fun v19 hF => ?_)
            refine x_sipush 9999 (by decide) dX1_readKey_79 ?_
            refine x_icmp_le 90 dX1_readKey_82 (by decide) hF (fun hF => ?_) (fun hF => ?_)
            · refine x_iconst 2 (by decide) dX1_readKey_90 ?_
              exact x_iret dX1_readKey_91 rfl (by cases hF; rfl)
            · refine x_bipush 8 (by decide) dX1_readKey_85 ?_
              refine x_goto 91 dX1_readKey_87 (by decide) ?_
              exact x_iret dX1_readKey_91 rfl (by cases hF; rfl)
          · refine x_bipush 8 (by decide) dX1_readKey_56 ?_
            exact x_iret dX1_readKey_58 rfl (by cases hF; rfl)
    · refine x_aload_n 0 dX1_readKey_14 rfl rfl ?_
      refine x_geti_r dX1_readKey_15 fl_X1_15 hF (fun v20 hF => ?_)
      refine x_bipush 112 (by decide) dX1_readKey_18 ?_
      refine x_icmp_eq 32 dX1_readKey_20 (by decide) hF (fun hF => ?_) (fun hF => ?_)
      · refine x_iconst 3 (by decide) dX1_readKey_32 ?_
        exact x_iret dX1_readKey_33 rfl (by cases hF; rfl)
      · refine x_aload_n 0 dX1_readKey_23 rfl rfl ?_
        refine x_geti_r dX1_readKey_24 fl_X1_15 hF (fun v21 hF => ?_)
        refine x_bipush 105 (by decide) dX1_readKey_27 ?_
        refine x_icmp_ne 34 dX1_readKey_29 (by decide) hF (fun hF => ?_) (fun hF => ?_)
        · refine x_iload_n 1 dX1_readKey_34 rfl rfl ?_
          obtain ⟨z22, hzz22, hF⟩ := x_bind hF
          refine x_calls (As := [.int p0]) (rest := []) 0 0 dX1_readKey_35 mi_X1_isDigit rfl ml_X1_55 rfl rfl (Nat.le_of_ble_eq_true rfl) ⟨by decide, by decide⟩ (by omega) (by omega) (c_X1_isDigit N _ _ _ _ hzz22) (x_K.some ?_) x_KX.none
          refine x_if_eq 56 dX1_readKey_38 (by decide) hF (fun hF => ?_) (fun hF => ?_)
          · refine x_bipush 8 (by decide) dX1_readKey_56 ?_
            exact x_iret dX1_readKey_58 rfl (by cases hF; rfl)
          · refine x_aload_n 0 dX1_readKey_41 rfl rfl ?_
            refine x_geti_r dX1_readKey_42 fl_X1_11 hF (fun v23 hF => ?_)
            refine x_iconst 2 (by decide) dX1_readKey_45 ?_
            refine x_icmp_ne 59 dX1_readKey_46 (by decide) hF (fun hF => ?_) (fun hF => ?_)
            · refine x_aload_n 0 dX1_readKey_59 rfl rfl ?_
              refine x_aload_n 0 dX1_readKey_60 rfl rfl ?_
              refine x_geti_r dX1_readKey_61 fl_X1_18 hF (fun v24 hF => ?_)
              refine x_bipush 10 (by decide) dX1_readKey_64 ?_
              refine x_imul dX1_readKey_66 ?_
              refine x_iload_n 1 dX1_readKey_67 rfl rfl ?_
              refine x_iadd dX1_readKey_68 ?_
              refine x_bipush 48 (by decide) dX1_readKey_69 ?_
              refine x_isub dX1_readKey_71 ?_
              refine x_puti_r dX1_readKey_72 fl_X1_18 (fun h9 => by cases h9) hF (fun f25 hF => ?_)
              refine x_aload_n 0 dX1_readKey_75 rfl rfl ?_
              refine x_geti_r dX1_readKey_76 fl_X1_18 hF (fun v26 hF => ?_)
              refine x_sipush 9999 (by decide) dX1_readKey_79 ?_
              refine x_icmp_le 90 dX1_readKey_82 (by decide) hF (fun hF => ?_) (fun hF => ?_)
              · refine x_iconst 2 (by decide) dX1_readKey_90 ?_
                exact x_iret dX1_readKey_91 rfl (by cases hF; rfl)
              · refine x_bipush 8 (by decide) dX1_readKey_85 ?_
                refine x_goto 91 dX1_readKey_87 (by decide) ?_
                exact x_iret dX1_readKey_91 rfl (by cases hF; rfl)
            · refine x_aload_n 0 dX1_readKey_49 rfl rfl ?_
              refine x_geti_r dX1_readKey_50 fl_X1_18 hF (fun v27 hF => ?_)
              refine x_if_ne 59 dX1_readKey_53 (by decide) hF (fun hF => ?_) (fun hF => ?_)
              · refine x_aload_n 0 dX1_readKey_59 rfl rfl ?_
                refine x_aload_n 0 dX1_readKey_60 rfl rfl ?_
                refine x_geti_r dX1_readKey_61 fl_X1_18 hF (fun v28 hF => ?_)
                refine x_bipush 10 (by decide) dX1_readKey_64 ?_
                refine x_imul dX1_readKey_66 ?_
                refine x_iload_n 1 dX1_readKey_67 rfl rfl ?_
                refine x_iadd dX1_readKey_68 ?_
                refine x_bipush 48 (by decide) dX1_readKey_69 ?_
                refine x_isub dX1_readKey_71 ?_
                refine x_puti_r dX1_readKey_72 fl_X1_18 (fun h9 => by cases h9) hF (fun f29 hF => ?_)
                refine x_aload_n 0 dX1_readKey_75 rfl rfl ?_
                refine x_geti_r dX1_readKey_76 fl_X1_18 hF (fun v30 hF => ?_)
                refine x_sipush 9999 (by decide) dX1_readKey_79 ?_
                refine x_icmp_le 90 dX1_readKey_82 (by decide) hF (fun hF => ?_) (fun hF => ?_)
                · refine x_iconst 2 (by decide) dX1_readKey_90 ?_
                  exact x_iret dX1_readKey_91 rfl (by cases hF; rfl)
                · refine x_bipush 8 (by decide) dX1_readKey_85 ?_
                  refine x_goto 91 dX1_readKey_87 (by decide) ?_
                  exact x_iret dX1_readKey_91 rfl (by cases hF; rfl)
              · refine x_bipush 8 (by decide) dX1_readKey_56 ?_
                exact x_iret dX1_readKey_58 rfl (by cases hF; rfl)
        · refine x_iconst 3 (by decide) dX1_readKey_32 ?_
          exact x_iret dX1_readKey_33 rfl (by cases hF; rfl)
def F_X1_readValue (N : Nat) (f : XM) (this : Nat) (p0 : Int32) : Option (Int32 × XM) :=
  (F_X1_isDigit N f p0).bind fun z1 =>
  if (x_b z1) = 0 then
    some (8, f)
  else
    (x_geti f 1 this 0).bind fun v2 =>
    if v2 = 4 then
      (x_geti f 1 this 3).bind fun v6 =>
      if v6 = 0 then
        some (8, f)
      else
        (x_geti f 1 this 3).bind fun v7 =>
        (x_puti f 1 this 3 (((v7 * 10) + p0) - 48)).bind fun f8 =>
        (x_geti f8 1 this 3).bind fun v9 =>
        if v9 ≤ 99 then
          some (4, f8)
        else
          some (8, f8)
    else
      (x_geti f 1 this 3).bind fun v3 =>
      (x_puti f 1 this 3 (((v3 * 10) + p0) - 48)).bind fun f4 =>
      (x_geti f4 1 this 3).bind fun v5 =>
      if v5 ≤ 99 then
        some (4, f4)
      else
        some (8, f4)
set_option maxRecDepth 20000 in
set_option maxHeartbeats 4000000 in
theorem c_X1_readValue (N : Nat) (f : XM) (this : Nat) (p0 : Int32) (n : Nat) (r : (Int32 × XM)) (hF : F_X1_readValue N f this p0 = some r) : x_Ct mX1_readValue 1 20 0 0 [.ref this, .int p0] (f, n) (xr_im r n) := by
  unfold F_X1_readValue at hF
  refine x_ct (by decide) rfl (Nat.le_of_ble_eq_true rfl) ?_
  show X mX1_readValue 1 20 _ _ 0 0 0 [(0, .ref this), (1, .int p0)] [] (f, n)
  refine x_iload_n 1 dX1_readValue_0 rfl rfl ?_
  obtain ⟨z1, hzz1, hF⟩ := x_bind hF
  refine x_calls (As := [.int p0]) (rest := []) 0 0 dX1_readValue_1 mi_X1_isDigit rfl ml_X1_55 rfl rfl (Nat.le_of_ble_eq_true rfl) ⟨by decide, by decide⟩ (by omega) (by omega) (c_X1_isDigit N _ _ _ _ hzz1) (x_K.some ?_) x_KX.none
  refine x_if_eq 22 dX1_readValue_4 (by decide) hF (fun hF => ?_) (fun hF => ?_)
  · refine x_bipush 8 (by decide) dX1_readValue_22 ?_
    exact x_iret dX1_readValue_24 rfl (by cases hF; rfl)
  · refine x_aload_n 0 dX1_readValue_7 rfl rfl ?_
    refine x_geti_r dX1_readValue_8 fl_X1_11 hF (fun v2 hF => ?_)
    refine x_iconst 4 (by decide) dX1_readValue_11 ?_
    refine x_icmp_ne 25 dX1_readValue_12 (by decide) hF (fun hF => ?_) (fun hF => ?_)
    · refine x_aload_n 0 dX1_readValue_25 rfl rfl ?_
      refine x_aload_n 0 dX1_readValue_26 rfl rfl ?_
      refine x_geti_r dX1_readValue_27 fl_X1_21 hF (fun v3 hF => ?_)
      refine x_bipush 10 (by decide) dX1_readValue_30 ?_
      refine x_imul dX1_readValue_32 ?_
      refine x_iload_n 1 dX1_readValue_33 rfl rfl ?_
      refine x_iadd dX1_readValue_34 ?_
      refine x_bipush 48 (by decide) dX1_readValue_35 ?_
      refine x_isub dX1_readValue_37 ?_
      refine x_puti_r dX1_readValue_38 fl_X1_21 (fun h9 => by cases h9) hF (fun f4 hF => ?_)
      refine x_aload_n 0 dX1_readValue_41 rfl rfl ?_
      refine x_geti_r dX1_readValue_42 fl_X1_21 hF (fun v5 hF => ?_)
      refine x_bipush 99 (by decide) dX1_readValue_45 ?_
      refine x_icmp_le 55 dX1_readValue_47 (by decide) hF (fun hF => ?_) (fun hF => ?_)
      · refine x_iconst 4 (by decide) dX1_readValue_55 ?_
        exact x_iret dX1_readValue_56 rfl (by cases hF; rfl)
      · refine x_bipush 8 (by decide) dX1_readValue_50 ?_
        refine x_goto 56 dX1_readValue_52 (by decide) ?_
        exact x_iret dX1_readValue_56 rfl (by cases hF; rfl)
    · refine x_aload_n 0 dX1_readValue_15 rfl rfl ?_
      refine x_geti_r dX1_readValue_16 fl_X1_21 hF (fun v6 hF => ?_)
      refine x_if_ne 25 dX1_readValue_19 (by decide) hF (fun hF => ?_) (fun hF => ?_)
      · refine x_aload_n 0 dX1_readValue_25 rfl rfl ?_
        refine x_aload_n 0 dX1_readValue_26 rfl rfl ?_
        refine x_geti_r dX1_readValue_27 fl_X1_21 hF (fun v7 hF => ?_)
        refine x_bipush 10 (by decide) dX1_readValue_30 ?_
        refine x_imul dX1_readValue_32 ?_
        refine x_iload_n 1 dX1_readValue_33 rfl rfl ?_
        refine x_iadd dX1_readValue_34 ?_
        refine x_bipush 48 (by decide) dX1_readValue_35 ?_
        refine x_isub dX1_readValue_37 ?_
        refine x_puti_r dX1_readValue_38 fl_X1_21 (fun h9 => by cases h9) hF (fun f8 hF => ?_)
        refine x_aload_n 0 dX1_readValue_41 rfl rfl ?_
        refine x_geti_r dX1_readValue_42 fl_X1_21 hF (fun v9 hF => ?_)
        refine x_bipush 99 (by decide) dX1_readValue_45 ?_
        refine x_icmp_le 55 dX1_readValue_47 (by decide) hF (fun hF => ?_) (fun hF => ?_)
        · refine x_iconst 4 (by decide) dX1_readValue_55 ?_
          exact x_iret dX1_readValue_56 rfl (by cases hF; rfl)
        · refine x_bipush 8 (by decide) dX1_readValue_50 ?_
          refine x_goto 56 dX1_readValue_52 (by decide) ?_
          exact x_iret dX1_readValue_56 rfl (by cases hF; rfl)
      · refine x_bipush 8 (by decide) dX1_readValue_22 ?_
        exact x_iret dX1_readValue_24 rfl (by cases hF; rfl)
def F_X1_readFill (N : Nat) (f : XM) (this : Nat) (p0 : Int32) : Option (Int32 × XM) :=
  (F_X1_isDigit N f p0).bind fun z1 =>
  if (x_b z1) = 0 then
    some (8, f)
  else
    (x_geti f 1 this 2).bind fun v2 =>
    (x_puti f 1 this 2 (((v2 * 10) + p0) - 48)).bind fun f3 =>
    (x_geti f3 1 this 2).bind fun v4 =>
    if v4 < 50 then
      (x_geti f3 1 this 2).bind fun v5 =>
      if v5 = 1 then
        some (6, f3)
      else
        (x_geti f3 1 this 2).bind fun v6 =>
        if v6 = 10 then
          some (6, f3)
        else
          (x_geti f3 1 this 2).bind fun v7 =>
          if v7 < 5 then
            some (8, f3)
          else
            (x_geti f3 1 this 2).bind fun v8 =>
            if 9 < v8 then
              some (8, f3)
            else
              some (6, f3)
    else
      (x_geti f3 1 this 2).bind fun v9 =>
      if 100 < v9 then
        (x_geti f3 1 this 2).bind fun v10 =>
        if v10 = 1 then
          some (6, f3)
        else
          (x_geti f3 1 this 2).bind fun v11 =>
          if v11 = 10 then
            some (6, f3)
          else
            (x_geti f3 1 this 2).bind fun v12 =>
            if v12 < 5 then
              some (8, f3)
            else
              (x_geti f3 1 this 2).bind fun v13 =>
              if 9 < v13 then
                some (8, f3)
              else
                some (6, f3)
      else
        some (7, f3)
set_option maxRecDepth 20000 in
set_option maxHeartbeats 4000000 in
theorem c_X1_readFill (N : Nat) (f : XM) (this : Nat) (p0 : Int32) (n : Nat) (r : (Int32 × XM)) (hF : F_X1_readFill N f this p0 = some r) : x_Ct mX1_readFill 1 20 0 0 [.ref this, .int p0] (f, n) (xr_im r n) := by
  unfold F_X1_readFill at hF
  refine x_ct (by decide) rfl (Nat.le_of_ble_eq_true rfl) ?_
  show X mX1_readFill 1 20 _ _ 0 0 0 [(0, .ref this), (1, .int p0)] [] (f, n)
  refine x_iload_n 1 dX1_readFill_0 rfl rfl ?_
  obtain ⟨z1, hzz1, hF⟩ := x_bind hF
  refine x_calls (As := [.int p0]) (rest := []) 0 0 dX1_readFill_1 mi_X1_isDigit rfl ml_X1_55 rfl rfl (Nat.le_of_ble_eq_true rfl) ⟨by decide, by decide⟩ (by omega) (by omega) (c_X1_isDigit N _ _ _ _ hzz1) (x_K.some ?_) x_KX.none
  refine x_if_ne 10 dX1_readFill_4 (by decide) hF (fun hF => ?_) (fun hF => ?_)
  · refine x_aload_n 0 dX1_readFill_10 rfl rfl ?_
    refine x_aload_n 0 dX1_readFill_11 rfl rfl ?_
    refine x_geti_r dX1_readFill_12 fl_X1_18 hF (fun v2 hF => ?_)
    refine x_bipush 10 (by decide) dX1_readFill_15 ?_
    refine x_imul dX1_readFill_17 ?_
    refine x_iload_n 1 dX1_readFill_18 rfl rfl ?_
    refine x_iadd dX1_readFill_19 ?_
    refine x_bipush 48 (by decide) dX1_readFill_20 ?_
    refine x_isub dX1_readFill_22 ?_
    refine x_puti_r dX1_readFill_23 fl_X1_18 (fun h9 => by cases h9) hF (fun f3 hF => ?_)
    refine x_aload_n 0 dX1_readFill_26 rfl rfl ?_
    refine x_geti_r dX1_readFill_27 fl_X1_18 hF (fun v4 hF => ?_)
    refine x_bipush 50 (by decide) dX1_readFill_30 ?_
    refine x_icmp_lt 47 dX1_readFill_32 (by decide) hF (fun hF => ?_) (fun hF => ?_)
    · refine x_aload_n 0 dX1_readFill_47 rfl rfl ?_
      refine x_geti_r dX1_readFill_48 fl_X1_18 hF (fun v5 hF => ?_)
      refine x_iconst 1 (by decide) dX1_readFill_51 ?_
      refine x_icmp_eq 81 dX1_readFill_52 (by decide) hF (fun hF => ?_) (fun hF => ?_)
      · refine x_bipush 6 (by decide) dX1_readFill_81 ?_
        refine x_goto 88 dX1_readFill_83 (by decide) ?_
        exact x_iret dX1_readFill_88 rfl (by cases hF; rfl)
      · refine x_aload_n 0 dX1_readFill_55 rfl rfl ?_
        refine x_geti_r dX1_readFill_56 fl_X1_18 hF (fun v6 hF => ?_)
        refine x_bipush 10 (by decide) dX1_readFill_59 ?_
        refine x_icmp_eq 81 dX1_readFill_61 (by decide) hF (fun hF => ?_) (fun hF => ?_)
        · refine x_bipush 6 (by decide) dX1_readFill_81 ?_
          refine x_goto 88 dX1_readFill_83 (by decide) ?_
          exact x_iret dX1_readFill_88 rfl (by cases hF; rfl)
        · refine x_aload_n 0 dX1_readFill_64 rfl rfl ?_
          refine x_geti_r dX1_readFill_65 fl_X1_18 hF (fun v7 hF => ?_)
          refine x_iconst 5 (by decide) dX1_readFill_68 ?_
          refine x_icmp_lt 86 dX1_readFill_69 (by decide) hF (fun hF => ?_) (fun hF => ?_)
          · refine x_bipush 8 (by decide) dX1_readFill_86 ?_
            exact x_iret dX1_readFill_88 rfl (by cases hF; rfl)
          · refine x_aload_n 0 dX1_readFill_72 rfl rfl ?_
            refine x_geti_r dX1_readFill_73 fl_X1_18 hF (fun v8 hF => ?_)
            refine x_bipush 9 (by decide) dX1_readFill_76 ?_
            refine x_icmp_gt 86 dX1_readFill_78 (by decide) hF (fun hF => ?_) (fun hF => ?_)
            · refine x_bipush 8 (by decide) dX1_readFill_86 ?_
              exact x_iret dX1_readFill_88 rfl (by cases hF; rfl)
            · refine x_bipush 6 (by decide) dX1_readFill_81 ?_
              refine x_goto 88 dX1_readFill_83 (by decide) ?_
              exact x_iret dX1_readFill_88 rfl (by cases hF; rfl)
    · refine x_aload_n 0 dX1_readFill_35 rfl rfl ?_
      refine x_geti_r dX1_readFill_36 fl_X1_18 hF (fun v9 hF => ?_)
      refine x_bipush 100 (by decide) dX1_readFill_39 ?_
      refine x_icmp_gt 47 dX1_readFill_41 (by decide) hF (fun hF => ?_) (fun hF => ?_)
      · refine x_aload_n 0 dX1_readFill_47 rfl rfl ?_
        refine x_geti_r dX1_readFill_48 fl_X1_18 hF (fun v10 hF => ?_)
        refine x_iconst 1 (by decide) dX1_readFill_51 ?_
        refine x_icmp_eq 81 dX1_readFill_52 (by decide) hF (fun hF => ?_) (fun hF => ?_)
        · refine x_bipush 6 (by decide) dX1_readFill_81 ?_
          refine x_goto 88 dX1_readFill_83 (by decide) ?_
          exact x_iret dX1_readFill_88 rfl (by cases hF; rfl)
        · refine x_aload_n 0 dX1_readFill_55 rfl rfl ?_
          refine x_geti_r dX1_readFill_56 fl_X1_18 hF (fun v11 hF => ?_)
          refine x_bipush 10 (by decide) dX1_readFill_59 ?_
          refine x_icmp_eq 81 dX1_readFill_61 (by decide) hF (fun hF => ?_) (fun hF => ?_)
          · refine x_bipush 6 (by decide) dX1_readFill_81 ?_
            refine x_goto 88 dX1_readFill_83 (by decide) ?_
            exact x_iret dX1_readFill_88 rfl (by cases hF; rfl)
          · refine x_aload_n 0 dX1_readFill_64 rfl rfl ?_
            refine x_geti_r dX1_readFill_65 fl_X1_18 hF (fun v12 hF => ?_)
            refine x_iconst 5 (by decide) dX1_readFill_68 ?_
            refine x_icmp_lt 86 dX1_readFill_69 (by decide) hF (fun hF => ?_) (fun hF => ?_)
            · refine x_bipush 8 (by decide) dX1_readFill_86 ?_
              exact x_iret dX1_readFill_88 rfl (by cases hF; rfl)
            · refine x_aload_n 0 dX1_readFill_72 rfl rfl ?_
              refine x_geti_r dX1_readFill_73 fl_X1_18 hF (fun v13 hF => ?_)
              refine x_bipush 9 (by decide) dX1_readFill_76 ?_
              refine x_icmp_gt 86 dX1_readFill_78 (by decide) hF (fun hF => ?_) (fun hF => ?_)
              · refine x_bipush 8 (by decide) dX1_readFill_86 ?_
                exact x_iret dX1_readFill_88 rfl (by cases hF; rfl)
              · refine x_bipush 6 (by decide) dX1_readFill_81 ?_
                refine x_goto 88 dX1_readFill_83 (by decide) ?_
                exact x_iret dX1_readFill_88 rfl (by cases hF; rfl)
      · refine x_bipush 7 (by decide) dX1_readFill_44 ?_
        exact x_iret dX1_readFill_46 rfl (by cases hF; rfl)
  · refine x_bipush 8 (by decide) dX1_readFill_7 ?_
    exact x_iret dX1_readFill_9 rfl (by cases hF; rfl)
def F_X1_modeAfter (N : Nat) (f : XM) (this : Nat) (p0 : Int32) : Option (Int32 × XM) :=
  if p0 = 59 then
    (x_cv f 1 this (F_X1_isComplete N f this)).bind fun z9 =>
    if (x_b z9) = 0 then
      (x_geti f 1 this 0).bind fun v10 =>
      if v10 = 0 then
        (x_cv f 1 this (F_X1_readLetter N f this p0)).bind fun z11 =>
        some (z11.1, z11.2)
      else if v10 = 1 then
        (x_cv f 1 this (F_X1_readKey N f this p0)).bind fun z12 =>
        some (z12.1, z12.2)
      else if v10 = 2 then
        (x_cv f 1 this (F_X1_readKey N f this p0)).bind fun z13 =>
        some (z13.1, z13.2)
      else if v10 = 3 then
        (x_cv f 1 this (F_X1_readValue N f this p0)).bind fun z14 =>
        some (z14.1, z14.2)
      else if v10 = 4 then
        (x_cv f 1 this (F_X1_readValue N f this p0)).bind fun z15 =>
        some (z15.1, z15.2)
      else if v10 = 5 then
        (x_cv f 1 this (F_X1_readFill N f this p0)).bind fun z16 =>
        some (z16.1, z16.2)
      else if v10 = 6 then
        (x_cv f 1 this (F_X1_readFill N f this p0)).bind fun z17 =>
        some (z17.1, z17.2)
      else 
      some (8, f)
    else
      some (0, f)
  else
    (x_geti f 1 this 0).bind fun v1 =>
    if v1 = 0 then
      (x_cv f 1 this (F_X1_readLetter N f this p0)).bind fun z2 =>
      some (z2.1, z2.2)
    else if v1 = 1 then
      (x_cv f 1 this (F_X1_readKey N f this p0)).bind fun z3 =>
      some (z3.1, z3.2)
    else if v1 = 2 then
      (x_cv f 1 this (F_X1_readKey N f this p0)).bind fun z4 =>
      some (z4.1, z4.2)
    else if v1 = 3 then
      (x_cv f 1 this (F_X1_readValue N f this p0)).bind fun z5 =>
      some (z5.1, z5.2)
    else if v1 = 4 then
      (x_cv f 1 this (F_X1_readValue N f this p0)).bind fun z6 =>
      some (z6.1, z6.2)
    else if v1 = 5 then
      (x_cv f 1 this (F_X1_readFill N f this p0)).bind fun z7 =>
      some (z7.1, z7.2)
    else if v1 = 6 then
      (x_cv f 1 this (F_X1_readFill N f this p0)).bind fun z8 =>
      some (z8.1, z8.2)
    else 
    some (8, f)
set_option maxRecDepth 20000 in
set_option maxHeartbeats 4000000 in
theorem c_X1_modeAfter (N : Nat) (f : XM) (this : Nat) (p0 : Int32) (n : Nat) (r : (Int32 × XM)) (hF : F_X1_modeAfter N f this p0 = some r) : x_Ct mX1_modeAfter 2 41 0 0 [.ref this, .int p0] (f, n) (xr_im r n) := by
  unfold F_X1_modeAfter at hF
  refine x_ct (by decide) rfl (Nat.le_of_ble_eq_true rfl) ?_
  show X mX1_modeAfter 2 41 _ _ 0 0 0 [(0, .ref this), (1, .int p0)] [] (f, n)
  refine x_iload_n 1 dX1_modeAfter_0 rfl rfl ?_
  refine x_bipush 59 (by decide) dX1_modeAfter_1 ?_
  refine x_icmp_ne 15 dX1_modeAfter_3 (by decide) hF (fun hF => ?_) (fun hF => ?_)
  · refine x_aload_n 0 dX1_modeAfter_15 rfl rfl ?_
    refine x_geti_r dX1_modeAfter_16 fl_X1_11 hF (fun v1 hF => ?_)
    refine x_swc 0 60 dX1_modeAfter_19 (by decide) rfl (by decide) hF (fun hF => ?_) (fun e0 hF => ?_)
    · refine x_aload_n 0 dX1_modeAfter_60 rfl rfl ?_
      refine x_iload_n 1 dX1_modeAfter_61 rfl rfl ?_
      obtain ⟨z2, hzz2, hF⟩ := x_bind hF
      obtain ⟨⟨fsz2, hbz2⟩, hzz2⟩ := x_cv_sp hzz2
      refine x_callv (As := [.int p0]) (rest := []) 0 0 dX1_modeAfter_62 mi_X1_readLetter ml_X1_43 rfl rfl (Nat.le_of_ble_eq_true rfl) ⟨by decide, by decide⟩ (by omega) (by omega) hbz2 rfl (c_X1_readLetter N _ _ _ _ _ hzz2) (x_K.some ?_) x_KX.none
      exact x_iret dX1_modeAfter_65 rfl (by cases hF; rfl)
    refine x_swc 1 66 dX1_modeAfter_19 (by decide) rfl (by decide) hF (fun hF => ?_) (fun e1 hF => ?_)
    · refine x_aload_n 0 dX1_modeAfter_66 rfl rfl ?_
      refine x_iload_n 1 dX1_modeAfter_67 rfl rfl ?_
      obtain ⟨z3, hzz3, hF⟩ := x_bind hF
      obtain ⟨⟨fsz3, hbz3⟩, hzz3⟩ := x_cv_sp hzz3
      refine x_callv (As := [.int p0]) (rest := []) 0 0 dX1_modeAfter_68 mi_X1_readKey ml_X1_46 rfl rfl (Nat.le_of_ble_eq_true rfl) ⟨by decide, by decide⟩ (by omega) (by omega) hbz3 rfl (c_X1_readKey N _ _ _ _ _ hzz3) (x_K.some ?_) x_KX.none
      exact x_iret dX1_modeAfter_71 rfl (by cases hF; rfl)
    refine x_swc 2 66 dX1_modeAfter_19 (by decide) rfl (by decide) hF (fun hF => ?_) (fun e2 hF => ?_)
    · refine x_aload_n 0 dX1_modeAfter_66 rfl rfl ?_
      refine x_iload_n 1 dX1_modeAfter_67 rfl rfl ?_
      obtain ⟨z4, hzz4, hF⟩ := x_bind hF
      obtain ⟨⟨fsz4, hbz4⟩, hzz4⟩ := x_cv_sp hzz4
      refine x_callv (As := [.int p0]) (rest := []) 0 0 dX1_modeAfter_68 mi_X1_readKey ml_X1_46 rfl rfl (Nat.le_of_ble_eq_true rfl) ⟨by decide, by decide⟩ (by omega) (by omega) hbz4 rfl (c_X1_readKey N _ _ _ _ _ hzz4) (x_K.some ?_) x_KX.none
      exact x_iret dX1_modeAfter_71 rfl (by cases hF; rfl)
    refine x_swc 3 72 dX1_modeAfter_19 (by decide) rfl (by decide) hF (fun hF => ?_) (fun e3 hF => ?_)
    · refine x_aload_n 0 dX1_modeAfter_72 rfl rfl ?_
      refine x_iload_n 1 dX1_modeAfter_73 rfl rfl ?_
      obtain ⟨z5, hzz5, hF⟩ := x_bind hF
      obtain ⟨⟨fsz5, hbz5⟩, hzz5⟩ := x_cv_sp hzz5
      refine x_callv (As := [.int p0]) (rest := []) 0 0 dX1_modeAfter_74 mi_X1_readValue ml_X1_49 rfl rfl (Nat.le_of_ble_eq_true rfl) ⟨by decide, by decide⟩ (by omega) (by omega) hbz5 rfl (c_X1_readValue N _ _ _ _ _ hzz5) (x_K.some ?_) x_KX.none
      exact x_iret dX1_modeAfter_77 rfl (by cases hF; rfl)
    refine x_swc 4 72 dX1_modeAfter_19 (by decide) rfl (by decide) hF (fun hF => ?_) (fun e4 hF => ?_)
    · refine x_aload_n 0 dX1_modeAfter_72 rfl rfl ?_
      refine x_iload_n 1 dX1_modeAfter_73 rfl rfl ?_
      obtain ⟨z6, hzz6, hF⟩ := x_bind hF
      obtain ⟨⟨fsz6, hbz6⟩, hzz6⟩ := x_cv_sp hzz6
      refine x_callv (As := [.int p0]) (rest := []) 0 0 dX1_modeAfter_74 mi_X1_readValue ml_X1_49 rfl rfl (Nat.le_of_ble_eq_true rfl) ⟨by decide, by decide⟩ (by omega) (by omega) hbz6 rfl (c_X1_readValue N _ _ _ _ _ hzz6) (x_K.some ?_) x_KX.none
      exact x_iret dX1_modeAfter_77 rfl (by cases hF; rfl)
    refine x_swc 5 78 dX1_modeAfter_19 (by decide) rfl (by decide) hF (fun hF => ?_) (fun e5 hF => ?_)
    · refine x_aload_n 0 dX1_modeAfter_78 rfl rfl ?_
      refine x_iload_n 1 dX1_modeAfter_79 rfl rfl ?_
      obtain ⟨z7, hzz7, hF⟩ := x_bind hF
      obtain ⟨⟨fsz7, hbz7⟩, hzz7⟩ := x_cv_sp hzz7
      refine x_callv (As := [.int p0]) (rest := []) 0 0 dX1_modeAfter_80 mi_X1_readFill ml_X1_52 rfl rfl (Nat.le_of_ble_eq_true rfl) ⟨by decide, by decide⟩ (by omega) (by omega) hbz7 rfl (c_X1_readFill N _ _ _ _ _ hzz7) (x_K.some ?_) x_KX.none
      exact x_iret dX1_modeAfter_83 rfl (by cases hF; rfl)
    refine x_swc 6 78 dX1_modeAfter_19 (by decide) rfl (by decide) hF (fun hF => ?_) (fun e6 hF => ?_)
    · refine x_aload_n 0 dX1_modeAfter_78 rfl rfl ?_
      refine x_iload_n 1 dX1_modeAfter_79 rfl rfl ?_
      obtain ⟨z8, hzz8, hF⟩ := x_bind hF
      obtain ⟨⟨fsz8, hbz8⟩, hzz8⟩ := x_cv_sp hzz8
      refine x_callv (As := [.int p0]) (rest := []) 0 0 dX1_modeAfter_80 mi_X1_readFill ml_X1_52 rfl rfl (Nat.le_of_ble_eq_true rfl) ⟨by decide, by decide⟩ (by omega) (by omega) hbz8 rfl (c_X1_readFill N _ _ _ _ _ hzz8) (x_K.some ?_) x_KX.none
      exact x_iret dX1_modeAfter_83 rfl (by cases hF; rfl)
    refine x_swd 84 dX1_modeAfter_19 (by decide) ?_ ?_
    · intro i hi
      match i, hi with
      | 0, _ => exact Or.inr (fun h9 => e0 (x_toInt h9))
      | 1, _ => exact Or.inr (fun h9 => e1 (x_toInt h9))
      | 2, _ => exact Or.inr (fun h9 => e2 (x_toInt h9))
      | 3, _ => exact Or.inr (fun h9 => e3 (x_toInt h9))
      | 4, _ => exact Or.inr (fun h9 => e4 (x_toInt h9))
      | 5, _ => exact Or.inr (fun h9 => e5 (x_toInt h9))
      | 6, _ => exact Or.inr (fun h9 => e6 (x_toInt h9))
      | i + 7, hi => exact absurd hi (by show ¬ i + 7 < 7; omega)
    refine ⟨by decide, ?_⟩
    refine x_bipush 8 (by decide) dX1_modeAfter_84 ?_
    exact x_iret dX1_modeAfter_86 rfl (by cases hF; rfl)
  · refine x_aload_n 0 dX1_modeAfter_6 rfl rfl ?_
    obtain ⟨z9, hzz9, hF⟩ := x_bind hF
    obtain ⟨⟨fsz9, hbz9⟩, hzz9⟩ := x_cv_sp hzz9
    refine x_callv (As := []) (rest := []) 0 0 dX1_modeAfter_7 mi_X1_isComplete ml_X1_35 rfl rfl (Nat.le_of_ble_eq_true rfl) ⟨by decide, by decide⟩ (by omega) (by omega) hbz9 rfl (c_X1_isComplete N _ _ _ _ hzz9) (x_K.some ?_) x_KX.none
    refine x_if_eq 15 dX1_modeAfter_10 (by decide) hF (fun hF => ?_) (fun hF => ?_)
    · refine x_aload_n 0 dX1_modeAfter_15 rfl rfl ?_
      refine x_geti_r dX1_modeAfter_16 fl_X1_11 hF (fun v10 hF => ?_)
      refine x_swc 0 60 dX1_modeAfter_19 (by decide) rfl (by decide) hF (fun hF => ?_) (fun e0 hF => ?_)
      · refine x_aload_n 0 dX1_modeAfter_60 rfl rfl ?_
        refine x_iload_n 1 dX1_modeAfter_61 rfl rfl ?_
        obtain ⟨z11, hzz11, hF⟩ := x_bind hF
        obtain ⟨⟨fsz11, hbz11⟩, hzz11⟩ := x_cv_sp hzz11
        refine x_callv (As := [.int p0]) (rest := []) 0 0 dX1_modeAfter_62 mi_X1_readLetter ml_X1_43 rfl rfl (Nat.le_of_ble_eq_true rfl) ⟨by decide, by decide⟩ (by omega) (by omega) hbz11 rfl (c_X1_readLetter N _ _ _ _ _ hzz11) (x_K.some ?_) x_KX.none
        exact x_iret dX1_modeAfter_65 rfl (by cases hF; rfl)
      refine x_swc 1 66 dX1_modeAfter_19 (by decide) rfl (by decide) hF (fun hF => ?_) (fun e1 hF => ?_)
      · refine x_aload_n 0 dX1_modeAfter_66 rfl rfl ?_
        refine x_iload_n 1 dX1_modeAfter_67 rfl rfl ?_
        obtain ⟨z12, hzz12, hF⟩ := x_bind hF
        obtain ⟨⟨fsz12, hbz12⟩, hzz12⟩ := x_cv_sp hzz12
        refine x_callv (As := [.int p0]) (rest := []) 0 0 dX1_modeAfter_68 mi_X1_readKey ml_X1_46 rfl rfl (Nat.le_of_ble_eq_true rfl) ⟨by decide, by decide⟩ (by omega) (by omega) hbz12 rfl (c_X1_readKey N _ _ _ _ _ hzz12) (x_K.some ?_) x_KX.none
        exact x_iret dX1_modeAfter_71 rfl (by cases hF; rfl)
      refine x_swc 2 66 dX1_modeAfter_19 (by decide) rfl (by decide) hF (fun hF => ?_) (fun e2 hF => ?_)
      · refine x_aload_n 0 dX1_modeAfter_66 rfl rfl ?_
        refine x_iload_n 1 dX1_modeAfter_67 rfl rfl ?_
        obtain ⟨z13, hzz13, hF⟩ := x_bind hF
        obtain ⟨⟨fsz13, hbz13⟩, hzz13⟩ := x_cv_sp hzz13
        refine x_callv (As := [.int p0]) (rest := []) 0 0 dX1_modeAfter_68 mi_X1_readKey ml_X1_46 rfl rfl (Nat.le_of_ble_eq_true rfl) ⟨by decide, by decide⟩ (by omega) (by omega) hbz13 rfl (c_X1_readKey N _ _ _ _ _ hzz13) (x_K.some ?_) x_KX.none
        exact x_iret dX1_modeAfter_71 rfl (by cases hF; rfl)
      refine x_swc 3 72 dX1_modeAfter_19 (by decide) rfl (by decide) hF (fun hF => ?_) (fun e3 hF => ?_)
      · refine x_aload_n 0 dX1_modeAfter_72 rfl rfl ?_
        refine x_iload_n 1 dX1_modeAfter_73 rfl rfl ?_
        obtain ⟨z14, hzz14, hF⟩ := x_bind hF
        obtain ⟨⟨fsz14, hbz14⟩, hzz14⟩ := x_cv_sp hzz14
        refine x_callv (As := [.int p0]) (rest := []) 0 0 dX1_modeAfter_74 mi_X1_readValue ml_X1_49 rfl rfl (Nat.le_of_ble_eq_true rfl) ⟨by decide, by decide⟩ (by omega) (by omega) hbz14 rfl (c_X1_readValue N _ _ _ _ _ hzz14) (x_K.some ?_) x_KX.none
        exact x_iret dX1_modeAfter_77 rfl (by cases hF; rfl)
      refine x_swc 4 72 dX1_modeAfter_19 (by decide) rfl (by decide) hF (fun hF => ?_) (fun e4 hF => ?_)
      · refine x_aload_n 0 dX1_modeAfter_72 rfl rfl ?_
        refine x_iload_n 1 dX1_modeAfter_73 rfl rfl ?_
        obtain ⟨z15, hzz15, hF⟩ := x_bind hF
        obtain ⟨⟨fsz15, hbz15⟩, hzz15⟩ := x_cv_sp hzz15
        refine x_callv (As := [.int p0]) (rest := []) 0 0 dX1_modeAfter_74 mi_X1_readValue ml_X1_49 rfl rfl (Nat.le_of_ble_eq_true rfl) ⟨by decide, by decide⟩ (by omega) (by omega) hbz15 rfl (c_X1_readValue N _ _ _ _ _ hzz15) (x_K.some ?_) x_KX.none
        exact x_iret dX1_modeAfter_77 rfl (by cases hF; rfl)
      refine x_swc 5 78 dX1_modeAfter_19 (by decide) rfl (by decide) hF (fun hF => ?_) (fun e5 hF => ?_)
      · refine x_aload_n 0 dX1_modeAfter_78 rfl rfl ?_
        refine x_iload_n 1 dX1_modeAfter_79 rfl rfl ?_
        obtain ⟨z16, hzz16, hF⟩ := x_bind hF
        obtain ⟨⟨fsz16, hbz16⟩, hzz16⟩ := x_cv_sp hzz16
        refine x_callv (As := [.int p0]) (rest := []) 0 0 dX1_modeAfter_80 mi_X1_readFill ml_X1_52 rfl rfl (Nat.le_of_ble_eq_true rfl) ⟨by decide, by decide⟩ (by omega) (by omega) hbz16 rfl (c_X1_readFill N _ _ _ _ _ hzz16) (x_K.some ?_) x_KX.none
        exact x_iret dX1_modeAfter_83 rfl (by cases hF; rfl)
      refine x_swc 6 78 dX1_modeAfter_19 (by decide) rfl (by decide) hF (fun hF => ?_) (fun e6 hF => ?_)
      · refine x_aload_n 0 dX1_modeAfter_78 rfl rfl ?_
        refine x_iload_n 1 dX1_modeAfter_79 rfl rfl ?_
        obtain ⟨z17, hzz17, hF⟩ := x_bind hF
        obtain ⟨⟨fsz17, hbz17⟩, hzz17⟩ := x_cv_sp hzz17
        refine x_callv (As := [.int p0]) (rest := []) 0 0 dX1_modeAfter_80 mi_X1_readFill ml_X1_52 rfl rfl (Nat.le_of_ble_eq_true rfl) ⟨by decide, by decide⟩ (by omega) (by omega) hbz17 rfl (c_X1_readFill N _ _ _ _ _ hzz17) (x_K.some ?_) x_KX.none
        exact x_iret dX1_modeAfter_83 rfl (by cases hF; rfl)
      refine x_swd 84 dX1_modeAfter_19 (by decide) ?_ ?_
      · intro i hi
        match i, hi with
        | 0, _ => exact Or.inr (fun h9 => e0 (x_toInt h9))
        | 1, _ => exact Or.inr (fun h9 => e1 (x_toInt h9))
        | 2, _ => exact Or.inr (fun h9 => e2 (x_toInt h9))
        | 3, _ => exact Or.inr (fun h9 => e3 (x_toInt h9))
        | 4, _ => exact Or.inr (fun h9 => e4 (x_toInt h9))
        | 5, _ => exact Or.inr (fun h9 => e5 (x_toInt h9))
        | 6, _ => exact Or.inr (fun h9 => e6 (x_toInt h9))
        | i + 7, hi => exact absurd hi (by show ¬ i + 7 < 7; omega)
      refine ⟨by decide, ?_⟩
      refine x_bipush 8 (by decide) dX1_modeAfter_84 ?_
      exact x_iret dX1_modeAfter_86 rfl (by cases hF; rfl)
    · refine x_iconst 0 (by decide) dX1_modeAfter_13 ?_
      exact x_iret dX1_modeAfter_14 rfl (by cases hF; rfl)
def F_X1_accepts (N : Nat) (f : XM) (this : Nat) (p0 : Int32) : Option (Bool × XM) :=
  (x_cv f 1 this (F_X1_modeAfter N f this p0)).bind fun z1 =>
  (x_puti z1.2 1 this 0 z1.1).bind fun f2 =>
  (x_geti f2 1 this 0).bind fun v3 =>
  if v3 = 8 then
    some (false, f2)
  else
    some (true, f2)
set_option maxRecDepth 20000 in
set_option maxHeartbeats 4000000 in
theorem c_X1_accepts (N : Nat) (f : XM) (this : Nat) (p0 : Int32) (n : Nat) (r : (Bool × XM)) (hF : F_X1_accepts N f this p0 = some r) : x_Ct mX1_accepts 3 62 0 0 [.ref this, .int p0] (f, n) (xr_zm r n) := by
  unfold F_X1_accepts at hF
  refine x_ct (by decide) rfl (Nat.le_of_ble_eq_true rfl) ?_
  show X mX1_accepts 3 62 _ _ 0 0 0 [(0, .ref this), (1, .int p0)] [] (f, n)
  refine x_aload_n 0 dX1_accepts_0 rfl rfl ?_
  refine x_aload_n 0 dX1_accepts_1 rfl rfl ?_
  refine x_iload_n 1 dX1_accepts_2 rfl rfl ?_
  obtain ⟨z1, hzz1, hF⟩ := x_bind hF
  obtain ⟨⟨fsz1, hbz1⟩, hzz1⟩ := x_cv_sp hzz1
  refine x_callv (As := [.int p0]) (rest := [.ref this]) 0 0 dX1_accepts_3 mi_X1_modeAfter ml_X1_39 rfl rfl (Nat.le_of_ble_eq_true rfl) ⟨by decide, by decide⟩ (by omega) (by omega) hbz1 rfl (c_X1_modeAfter N _ _ _ _ _ hzz1) (x_K.some ?_) x_KX.none
  refine x_puti_r dX1_accepts_6 fl_X1_11 (fun h9 => by cases h9) hF (fun f2 hF => ?_)
  refine x_aload_n 0 dX1_accepts_9 rfl rfl ?_
  refine x_geti_r dX1_accepts_10 fl_X1_11 hF (fun v3 hF => ?_)
  refine x_bipush 8 (by decide) dX1_accepts_13 ?_
  refine x_icmp_eq 22 dX1_accepts_15 (by decide) hF (fun hF => ?_) (fun hF => ?_)
  · refine x_iconst 0 (by decide) dX1_accepts_22 ?_
    exact x_zret dX1_accepts_23 rfl (Or.inl rfl) (by cases hF; rfl)
  · refine x_iconst 1 (by decide) dX1_accepts_18 ?_
    refine x_goto 23 dX1_accepts_19 (by decide) ?_
    exact x_zret dX1_accepts_23 rfl (Or.inr rfl) (by cases hF; rfl)
def F_X1_errorIn_L6 (N : Nat) (c0 : Nat) (c1 : Nat) (c2 : Int32) (K : Int32 → XM → Option (Int32 × XM)) : Nat → Int32 → XM → Option (Int32 × XM)
  | 0, _, _ => none
  | k + 1, x3, f =>
    if c2 ≤ x3 then
      K x3 f
    else
      (x_alen f c1).bind fun v3 =>
      if v3 ≤ x3 then
        K x3 f
      else
        (x_ald f c1 x3).bind fun v4 =>
        (x_cv f 1 c0 (F_X1_accepts N f c0 v4)).bind fun z5 =>
        if (x_b z5.1) = 0 then
          some (x3, z5.2)
        else
          F_X1_errorIn_L6 N c0 c1 c2 K k (x3 + 1) z5.2
def F_X1_errorIn (N : Nat) (f : XM) (this : Nat) (p0 : Nat) (p1 : Int32) : Option (Int32 × XM) :=
  (x_cv f 1 this (F_X1_begin N f this)).bind fun z1 =>
  F_X1_errorIn_L6 N this p0 p1 (fun y3_6 g6 =>
  some (p1, g6)) N 0 z1
set_option maxRecDepth 20000 in
set_option maxHeartbeats 4000000 in
theorem w_X1_errorIn_L6 (N : Nat) (c0 : Nat) (c1 : Nat) (c2 : Int32) (K : Int32 → XM → Option (Int32 × XM)) (n : Nat) (r : (Int32 × XM)) {rc rs : Nat} : ∀ (k : Nat) (x3 : Int32) (f : XM), F_X1_errorIn_L6 N c0 c1 c2 K k x3 f = some r → (∀ (x3 : Int32) (f : XM), K x3 f = some r → X mX1_errorIn 4 83 (x_end (xr_im r n)) x_noRO rc rs 35 [(0, .ref c0), (1, .ref c1), (2, .int c2), (3, .int x3)] [] (f, n)) → X mX1_errorIn 4 83 (x_end (xr_im r n)) x_noRO rc rs 6 [(0, .ref c0), (1, .ref c1), (2, .int c2), (3, .int x3)] [] (f, n) := by
  intro k
  induction k with
  | zero =>
    intro x3 f hF
    exact absurd hF (by intro h9; cases h9)
  | succ k ih =>
    intro x3 f hF hK
    have ih := fun x3 f hF => ih x3 f hF hK
    rw [F_X1_errorIn_L6] at hF
    refine x_iload_n 3 dX1_errorIn_6 rfl rfl ?_
    refine x_iload_n 2 dX1_errorIn_7 rfl rfl ?_
    refine x_icmp_ge 35 dX1_errorIn_8 (by decide) hF (fun hF => ?_) (fun hF => ?_)
    · refine x_sub [0, 1, 2, 3] rfl ?_
      exact hK _ _ hF
    · refine x_iload_n 3 dX1_errorIn_11 rfl rfl ?_
      refine x_aload_n 1 dX1_errorIn_12 rfl rfl ?_
      refine x_alen_r dX1_errorIn_13 hF (fun v3 hF => ?_)
      refine x_icmp_ge 35 dX1_errorIn_14 (by decide) hF (fun hF => ?_) (fun hF => ?_)
      · refine x_sub [0, 1, 2, 3] rfl ?_
        exact hK _ _ hF
      · refine x_aload_n 0 dX1_errorIn_17 rfl rfl ?_
        refine x_aload_n 1 dX1_errorIn_18 rfl rfl ?_
        refine x_iload_n 3 dX1_errorIn_19 rfl rfl ?_
        refine x_ald_r dX1_errorIn_20 hF (fun v4 hF => ?_)
        obtain ⟨z5, hzz5, hF⟩ := x_bind hF
        obtain ⟨⟨fsz5, hbz5⟩, hzz5⟩ := x_cv_sp hzz5
        refine x_callv (As := [.int v4]) (rest := []) (rc + 0) (rs + 0) dX1_errorIn_21 mi_X1_accepts ml_X1_27 rfl rfl (Nat.le_of_ble_eq_true rfl) ⟨by decide, by decide⟩ (by omega) (by omega) hbz5 rfl (c_X1_accepts N _ _ _ _ _ hzz5) (x_K.some ?_) x_KX.none
        refine x_if_ne 29 dX1_errorIn_24 (by decide) hF (fun hF => ?_) (fun hF => ?_)
        · refine x_iinc (x3 + 1) (lv' := [(3, .int (x3 + 1)), (0, .ref c0), (1, .ref c1), (2, .int c2)]) dX1_errorIn_29 3 rfl (by rfl) (by decide) rfl ?_
          refine x_goto 6 dX1_errorIn_32 (by decide) ?_
          refine x_sub [1, 2, 3, 0] rfl ?_
          exact ih _ _ hF
        · refine x_iload_n 3 dX1_errorIn_27 rfl rfl ?_
          exact x_iret dX1_errorIn_28 rfl (by cases hF; rfl)
set_option maxRecDepth 20000 in
set_option maxHeartbeats 4000000 in
theorem c_X1_errorIn (N : Nat) (f : XM) (this : Nat) (p0 : Nat) (p1 : Int32) (n : Nat) (r : (Int32 × XM)) (hF : F_X1_errorIn N f this p0 p1 = some r) : x_Ct mX1_errorIn 4 83 0 0 [.ref this, .ref p0, .int p1] (f, n) (xr_im r n) := by
  unfold F_X1_errorIn at hF
  refine x_ct (by decide) rfl (Nat.le_of_ble_eq_true rfl) ?_
  show X mX1_errorIn 4 83 _ _ 0 0 0 [(0, .ref this), (1, .ref p0), (2, .int p1)] [] (f, n)
  refine x_aload_n 0 dX1_errorIn_0 rfl rfl ?_
  obtain ⟨z1, hzz1, hF⟩ := x_bind hF
  obtain ⟨⟨fsz1, hbz1⟩, hzz1⟩ := x_cv_sp hzz1
  refine x_callv (As := []) (rest := []) 0 0 dX1_errorIn_1 mi_X1_begin ml_X1_24 rfl rfl (Nat.le_of_ble_eq_true rfl) ⟨by decide, by decide⟩ (by omega) (by omega) hbz1 rfl (c_X1_begin N _ _ _ _ hzz1) (x_K.none ?_) x_KX.none
  refine x_iconst 0 (by decide) dX1_errorIn_4 ?_
  refine x_istore_n (i := 3) (lv' := [(3, .int 0), (0, .ref this), (1, .ref p0), (2, .int p1)]) dX1_errorIn_5 rfl (by decide) rfl ?_
  refine x_sub [1, 2, 3, 0] rfl ?_
  refine w_X1_errorIn_L6 N _ _ _ _ _ r _ _ _ hF (fun y3_6 g6 hF => ?_)
  refine x_iload_n 2 dX1_errorIn_35 rfl rfl ?_
  exact x_iret dX1_errorIn_36 rfl (by cases hF; rfl)
def F_X1_tellsOrders (N : Nat) (f : XM) (this : Nat) (p0 : Nat) (p1 : Int32) : Option (Bool × XM) :=
  (x_cv f 1 this (F_X1_errorIn N f this p0 p1)).bind fun z1 =>
  if z1.1 = p1 then
    (x_cv z1.2 1 this (F_X1_isComplete N z1.2 this)).bind fun z2 =>
    if (x_b z2) = 0 then
      some (false, z1.2)
    else
      some (true, z1.2)
  else
    some (false, z1.2)
set_option maxRecDepth 20000 in
set_option maxHeartbeats 4000000 in
theorem c_X1_tellsOrders (N : Nat) (f : XM) (this : Nat) (p0 : Nat) (p1 : Int32) (n : Nat) (r : (Bool × XM)) (hF : F_X1_tellsOrders N f this p0 p1 = some r) : x_Ct mX1_tellsOrders 5 106 0 0 [.ref this, .ref p0, .int p1] (f, n) (xr_zm r n) := by
  unfold F_X1_tellsOrders at hF
  refine x_ct (by decide) rfl (Nat.le_of_ble_eq_true rfl) ?_
  show X mX1_tellsOrders 5 106 _ _ 0 0 0 [(0, .ref this), (1, .ref p0), (2, .int p1)] [] (f, n)
  refine x_aload_n 0 dX1_tellsOrders_0 rfl rfl ?_
  refine x_aload_n 1 dX1_tellsOrders_1 rfl rfl ?_
  refine x_iload_n 2 dX1_tellsOrders_2 rfl rfl ?_
  obtain ⟨z1, hzz1, hF⟩ := x_bind hF
  obtain ⟨⟨fsz1, hbz1⟩, hzz1⟩ := x_cv_sp hzz1
  refine x_callv (As := [.ref p0, .int p1]) (rest := []) 0 0 dX1_tellsOrders_3 mi_X1_errorIn ml_X1_31 rfl rfl (Nat.le_of_ble_eq_true rfl) ⟨by decide, by decide⟩ (by omega) (by omega) hbz1 rfl (c_X1_errorIn N _ _ _ _ _ _ hzz1) (x_K.some ?_) x_KX.none
  refine x_iload_n 2 dX1_tellsOrders_6 rfl rfl ?_
  refine x_icmp_ne 21 dX1_tellsOrders_7 (by decide) hF (fun hF => ?_) (fun hF => ?_)
  · refine x_iconst 0 (by decide) dX1_tellsOrders_21 ?_
    exact x_zret dX1_tellsOrders_22 rfl (Or.inl rfl) (by cases hF; rfl)
  · refine x_aload_n 0 dX1_tellsOrders_10 rfl rfl ?_
    obtain ⟨z2, hzz2, hF⟩ := x_bind hF
    obtain ⟨⟨fsz2, hbz2⟩, hzz2⟩ := x_cv_sp hzz2
    refine x_callv (As := []) (rest := []) 0 0 dX1_tellsOrders_11 mi_X1_isComplete ml_X1_35 rfl rfl (Nat.le_of_ble_eq_true rfl) ⟨by decide, by decide⟩ (by omega) (by omega) hbz2 rfl (c_X1_isComplete N _ _ _ _ hzz2) (x_K.some ?_) x_KX.none
    refine x_if_eq 21 dX1_tellsOrders_14 (by decide) hF (fun hF => ?_) (fun hF => ?_)
    · refine x_iconst 0 (by decide) dX1_tellsOrders_21 ?_
      exact x_zret dX1_tellsOrders_22 rfl (Or.inl rfl) (by cases hF; rfl)
    · refine x_iconst 1 (by decide) dX1_tellsOrders_17 ?_
      refine x_goto 22 dX1_tellsOrders_18 (by decide) ?_
      exact x_zret dX1_tellsOrders_22 rfl (Or.inr rfl) (by cases hF; rfl)
def F_X4_addEntry_L52 (N : Nat) (c0 : Nat) (c1 : Int32) (c2 : Int32) (c3 : Int32) (c4 : Int32) (K : Int32 → XM → Option XM) : Nat → Int32 → XM → Option XM
  | 0, _, _ => none
  | k + 1, x5, f =>
    if x5 ≤ c4 then
      K x5 f
    else
      (x_getr f 4 c0 1).bind fun v17 =>
      (x_getr f 4 c0 1).bind fun v18 =>
      Option.bind v18 fun a19 =>
      (x_ald f a19 (x5 - 1)).bind fun v20 =>
      Option.bind v17 fun a21 =>
      (x_ast f a21 x5 v20).bind fun f22 =>
      F_X4_addEntry_L52 N c0 c1 c2 c3 c4 K k (x5 + (-1)) f22
def F_X4_addEntry (N : Nat) (f : XM) (this : Nat) (p0 : Int32) (p1 : Int32) (p2 : Int32) : Option XM :=
  (x_getr f 4 this 0).bind fun v1 =>
  Option.bind v1 fun a2 =>
  (x_cv f 2 a2 (F_X2_firstFrom N f a2 p0)).bind fun z3 =>
  if z3 < 0 then
    some f
  else
    (x_getr f 4 this 0).bind fun v4 =>
    Option.bind v4 fun a5 =>
    (x_geti f 2 a5 2).bind fun v6 =>
    if v6 < z3 then
      some f
    else
      (x_getr f 4 this 0).bind fun v7 =>
      Option.bind v7 fun a8 =>
      (x_geti f 2 a8 2).bind fun v9 =>
      (x_getr f 4 this 1).bind fun v10 =>
      Option.bind v10 fun a11 =>
      (x_alen f a11).bind fun v12 =>
      if v9 < v12 then
        (x_getr f 4 this 0).bind fun v13 =>
        Option.bind v13 fun a14 =>
        (x_geti f 2 a14 2).bind fun v15 =>
        F_X4_addEntry_L52 N this p0 p1 p2 z3 (fun y5_23 g23 =>
        (x_getr g23 4 this 1).bind fun v24 =>
        Option.bind v24 fun a25 =>
        (x_ast g23 a25 z3 p2).bind fun f26 =>
        (x_getr f26 4 this 0).bind fun v27 =>
        Option.bind v27 fun a28 =>
        (x_cv f26 2 a28 (F_X2_addAt N f26 a28 z3 p0 p1)).bind fun z29 =>
        some z29) N v15 f
      else
        some f
set_option maxRecDepth 20000 in
set_option maxHeartbeats 4000000 in
theorem w_X4_addEntry_L52 (N : Nat) (c0 : Nat) (c1 : Int32) (c2 : Int32) (c3 : Int32) (c4 : Int32) (K : Int32 → XM → Option XM) (n : Nat) (r : XM) {rc rs : Nat} : ∀ (k : Nat) (x5 : Int32) (f : XM), F_X4_addEntry_L52 N c0 c1 c2 c3 c4 K k x5 f = some r → (∀ (x5 : Int32) (f : XM), K x5 f = some r → X mX4_addEntry 1 25 (x_end (xr_vm r n)) x_noRO rc rs 81 [(0, .ref c0), (1, .int c1), (2, .int c2), (3, .int c3), (4, .int c4), (5, .int x5)] [] (f, n)) → X mX4_addEntry 1 25 (x_end (xr_vm r n)) x_noRO rc rs 52 [(0, .ref c0), (1, .int c1), (2, .int c2), (3, .int c3), (4, .int c4), (5, .int x5)] [] (f, n) := by
  intro k
  induction k with
  | zero =>
    intro x5 f hF
    exact absurd hF (by intro h9; cases h9)
  | succ k ih =>
    intro x5 f hF hK
    have ih := fun x5 f hF => ih x5 f hF hK
    rw [F_X4_addEntry_L52] at hF
    refine x_iload 5 dX4_addEntry_52 rfl ?_
    refine x_iload 4 dX4_addEntry_54 rfl ?_
    refine x_icmp_le 81 dX4_addEntry_56 (by decide) hF (fun hF => ?_) (fun hF => ?_)
    · refine x_sub [0, 1, 2, 3, 4, 5] rfl ?_
      exact hK _ _ hF
    · refine x_aload_n 0 dX4_addEntry_59 rfl rfl ?_
      refine x_getr_r dX4_addEntry_60 fl_X4_20 hF (fun v17 hF => ?_)
      refine x_iload 5 dX4_addEntry_63 rfl ?_
      refine x_aload_n 0 dX4_addEntry_65 rfl rfl ?_
      refine x_getr_r dX4_addEntry_66 fl_X4_20 hF (fun v18 hF => ?_)
      refine x_iload 5 dX4_addEntry_69 rfl ?_
      refine x_iconst 1 (by decide) dX4_addEntry_71 ?_
      refine x_isub dX4_addEntry_72 ?_
      refine x_nn hF (fun a19 ha19 hF => ?_)
      rw [ha19]
      refine x_ald_r dX4_addEntry_73 hF (fun v20 hF => ?_)
      refine x_nn hF (fun a21 ha21 hF => ?_)
      rw [ha21]
      refine x_ast_r dX4_addEntry_74 hF (fun f22 hF => ?_)
      refine x_iinc (x5 + (-1)) (lv' := [(5, .int (x5 + (-1))), (0, .ref c0), (1, .int c1), (2, .int c2), (3, .int c3), (4, .int c4)]) dX4_addEntry_75 5 rfl (by rfl) (by decide) rfl ?_
      refine x_goto 52 dX4_addEntry_78 (by decide) ?_
      refine x_sub [1, 2, 3, 4, 5, 0] rfl ?_
      exact ih _ _ hF
set_option maxRecDepth 20000 in
set_option maxHeartbeats 4000000 in
theorem c_X4_addEntry (N : Nat) (f : XM) (this : Nat) (p0 : Int32) (p1 : Int32) (p2 : Int32) (n : Nat) (r : XM) (hF : F_X4_addEntry N f this p0 p1 p2 = some r) : x_Ct mX4_addEntry 1 25 0 0 [.ref this, .int p0, .int p1, .int p2] (f, n) (xr_vm r n) := by
  unfold F_X4_addEntry at hF
  refine x_ct (by decide) rfl (Nat.le_of_ble_eq_true rfl) ?_
  show X mX4_addEntry 1 25 _ _ 0 0 0 [(0, .ref this), (1, .int p0), (2, .int p1), (3, .int p2)] [] (f, n)
  refine x_aload_n 0 dX4_addEntry_0 rfl rfl ?_
  refine x_getr_r dX4_addEntry_1 fl_X4_14 hF (fun v1 hF => ?_)
  refine x_iload_n 1 dX4_addEntry_4 rfl rfl ?_
  refine x_nn hF (fun a2 ha2 hF => ?_)
  rw [ha2]
  obtain ⟨z3, hzz3, hF⟩ := x_bind hF
  obtain ⟨⟨fsz3, hbz3⟩, hzz3⟩ := x_cv_sp hzz3
  refine x_callv (As := [.int p0]) (rest := []) 0 0 dX4_addEntry_5 mi_X2_firstFrom ml_X4_58 rfl rfl (Nat.le_of_ble_eq_true rfl) ⟨by decide, by decide⟩ (by omega) (by omega) hbz3 rfl (c_X2_firstFrom N _ _ _ _ _ hzz3) (x_K.some ?_) x_KX.none
  refine x_istore (i := 4) (lv' := [(4, .int z3), (0, .ref this), (1, .int p0), (2, .int p1), (3, .int p2)]) dX4_addEntry_8 (by decide) rfl ?_
  refine x_iload 0 dX4_addEntry_10 rfl ?_
  refine x_if_lt 42 dX4_addEntry_12 (by decide) hF (fun hF => ?_) (fun hF => ?_)
  · exact x_vret dX4_addEntry_42 rfl (by cases hF; rfl)
  · refine x_iload 0 dX4_addEntry_15 rfl ?_
    refine x_aload_n 1 dX4_addEntry_17 rfl rfl ?_
    refine x_getr_r dX4_addEntry_18 fl_X4_14 hF (fun v4 hF => ?_)
    refine x_nn hF (fun a5 ha5 hF => ?_)
    rw [ha5]
    refine x_geti_r dX4_addEntry_21 fl_X4_31 hF (fun v6 hF => ?_)
    refine x_icmp_gt 42 dX4_addEntry_24 (by decide) hF (fun hF => ?_) (fun hF => ?_)
    · exact x_vret dX4_addEntry_42 rfl (by cases hF; rfl)
    · refine x_aload_n 1 dX4_addEntry_27 rfl rfl ?_
      refine x_getr_r dX4_addEntry_28 fl_X4_14 hF (fun v7 hF => ?_)
      refine x_nn hF (fun a8 ha8 hF => ?_)
      rw [ha8]
      refine x_geti_r dX4_addEntry_31 fl_X4_31 hF (fun v9 hF => ?_)
      refine x_aload_n 1 dX4_addEntry_34 rfl rfl ?_
      refine x_getr_r dX4_addEntry_35 fl_X4_20 hF (fun v10 hF => ?_)
      refine x_nn hF (fun a11 ha11 hF => ?_)
      rw [ha11]
      refine x_alen_r dX4_addEntry_38 hF (fun v12 hF => ?_)
      refine x_icmp_lt 43 dX4_addEntry_39 (by decide) hF (fun hF => ?_) (fun hF => ?_)
      · refine x_aload_n 1 dX4_addEntry_43 rfl rfl ?_
        refine x_getr_r dX4_addEntry_44 fl_X4_14 hF (fun v13 hF => ?_)
        refine x_nn hF (fun a14 ha14 hF => ?_)
        rw [ha14]
        refine x_geti_r dX4_addEntry_47 fl_X4_31 hF (fun v15 hF => ?_)
        refine x_istore (i := 5) (lv' := [(5, .int v15), (4, .int z3), (0, .ref this), (1, .int p0), (2, .int p1), (3, .int p2)]) dX4_addEntry_50 (by decide) rfl ?_
        refine x_sub [2, 3, 4, 5, 1, 0] rfl ?_
        refine w_X4_addEntry_L52 N _ _ _ _ _ _ _ r _ _ _ hF (fun y5_23 g23 hF => ?_)
        refine x_aload_n 0 dX4_addEntry_81 rfl rfl ?_
        refine x_getr_r dX4_addEntry_82 fl_X4_20 hF (fun v24 hF => ?_)
        refine x_iload 4 dX4_addEntry_85 rfl ?_
        refine x_iload_n 3 dX4_addEntry_87 rfl rfl ?_
        refine x_nn hF (fun a25 ha25 hF => ?_)
        rw [ha25]
        refine x_ast_r dX4_addEntry_88 hF (fun f26 hF => ?_)
        refine x_aload_n 0 dX4_addEntry_89 rfl rfl ?_
        refine x_getr_r dX4_addEntry_90 fl_X4_14 hF (fun v27 hF => ?_)
        refine x_iload 4 dX4_addEntry_93 rfl ?_
        refine x_iload_n 1 dX4_addEntry_95 rfl rfl ?_
        refine x_iload_n 2 dX4_addEntry_96 rfl rfl ?_
        refine x_nn hF (fun a28 ha28 hF => ?_)
        rw [ha28]
        obtain ⟨z29, hzz29, hF⟩ := x_bind hF
        obtain ⟨⟨fsz29, hbz29⟩, hzz29⟩ := x_cv_sp hzz29
        refine x_callv (As := [.int z3, .int p0, .int p1]) (rest := []) 0 0 dX4_addEntry_97 mi_X2_addAt ml_X4_95 rfl rfl (Nat.le_of_ble_eq_true rfl) ⟨by decide, by decide⟩ (by omega) (by omega) hbz29 rfl (c_X2_addAt N _ _ _ _ _ _ _ hzz29) (x_K.none ?_) x_KX.none
        exact x_vret dX4_addEntry_100 rfl (by cases hF; rfl)
      · exact x_vret dX4_addEntry_42 rfl (by cases hF; rfl)
def F_X4_overflowCount_L31 (N : Nat) (f : XM) (c0 : Nat) (c3 : Int32) (K : Int32 → Int32 → Option Int32) : Nat → Int32 → Int32 → Option Int32
  | 0, _, _ => none
  | k + 1, x2, x4 =>
    if c3 ≤ x4 then
      K x2 x4
    else
      (x_cv f 4 c0 (F_X4_placeOn N f c0 x4)).bind fun z10 =>
      if z10 ≤ 0 then
        F_X4_overflowCount_L31 N f c0 c3 K k x2 (x4 + 1)
      else
        F_X4_overflowCount_L31 N f c0 c3 K k (x2 + 1) (x4 + 1)
def F_X4_overflowCount (N : Nat) (f : XM) (this : Nat) (p0 : Int32) : Option Int32 :=
  (x_getr f 4 this 0).bind fun v1 =>
  (x_cv f 4 this (F_X4_boundOn N f this (p0 + 1))).bind fun z2 =>
  Option.bind v1 fun a3 =>
  (x_cv f 2 a3 (F_X2_firstFrom N f a3 z2)).bind fun z4 =>
  (x_getr f 4 this 0).bind fun v5 =>
  (x_cv f 4 this (F_X4_boundOn N f this p0)).bind fun z6 =>
  Option.bind v5 fun a7 =>
  (x_cv f 2 a7 (F_X2_firstFrom N f a7 z6)).bind fun z8 =>
  F_X4_overflowCount_L31 N f this z4 (fun y2_11 y4_11 =>
  some y2_11) N 0 z8
set_option maxRecDepth 20000 in
set_option maxHeartbeats 4000000 in
theorem w_X4_overflowCount_L31 (N : Nat) (f : XM) (c0 : Nat) (c3 : Int32) (K : Int32 → Int32 → Option Int32) (n : Nat) (r : Int32) {rc rs : Nat} : ∀ (k : Nat) (x2 : Int32) (x4 : Int32), F_X4_overflowCount_L31 N f c0 c3 K k x2 x4 = some r → (∀ (x2 : Int32) (x4 : Int32), K x2 x4 = some r → X mX4_overflowCount 1 25 (x_end (xr_ip r (f, n))) x_noRO rc rs 55 [(0, .ref c0), (2, .int x2), (3, .int c3), (4, .int x4)] [] (f, n)) → X mX4_overflowCount 1 25 (x_end (xr_ip r (f, n))) x_noRO rc rs 31 [(0, .ref c0), (2, .int x2), (3, .int c3), (4, .int x4)] [] (f, n) := by
  intro k
  induction k with
  | zero =>
    intro x2 x4 hF
    exact absurd hF (by intro h9; cases h9)
  | succ k ih =>
    intro x2 x4 hF hK
    have ih := fun x2 x4 hF => ih x2 x4 hF hK
    rw [F_X4_overflowCount_L31] at hF
    refine x_iload 3 dX4_overflowCount_31 rfl ?_
    refine x_iload_n 2 dX4_overflowCount_33 rfl rfl ?_
    refine x_icmp_ge 55 dX4_overflowCount_34 (by decide) hF (fun hF => ?_) (fun hF => ?_)
    · refine x_sub [0, 1, 2, 3] rfl ?_
      exact hK _ _ hF
    · refine x_aload_n 0 dX4_overflowCount_37 rfl rfl ?_
      refine x_iload 3 dX4_overflowCount_38 rfl ?_
      obtain ⟨z10, hzz10, hF⟩ := x_bind hF
      obtain ⟨⟨fsz10, hbz10⟩, hzz10⟩ := x_cv_sp hzz10
      refine x_callv (As := [.int x4]) (rest := []) (rc + 0) (rs + 0) dX4_overflowCount_40 mi_X4_placeOn ml_X4_61 rfl rfl (Nat.le_of_ble_eq_true rfl) ⟨by decide, by decide⟩ (by omega) (by omega) hbz10 rfl (c_X4_placeOn N _ _ _ _ _ hzz10) (x_K.some ?_) x_KX.none
      refine x_if_le 49 dX4_overflowCount_43 (by decide) hF (fun hF => ?_) (fun hF => ?_)
      · refine x_iinc (x4 + 1) (lv' := [(4, .int (x4 + 1)), (0, .ref c0), (2, .int x2), (3, .int c3)]) dX4_overflowCount_49 3 rfl (by rfl) (by decide) rfl ?_
        refine x_goto 31 dX4_overflowCount_52 (by decide) ?_
        refine x_sub [1, 2, 3, 0] rfl ?_
        exact ih _ _ hF
      · refine x_iinc (x2 + 1) (lv' := [(2, .int (x2 + 1)), (0, .ref c0), (3, .int c3), (4, .int x4)]) dX4_overflowCount_46 1 rfl (by rfl) (by decide) rfl ?_
        refine x_iinc (x4 + 1) (lv' := [(4, .int (x4 + 1)), (2, .int (x2 + 1)), (0, .ref c0), (3, .int c3)]) dX4_overflowCount_49 3 rfl (by rfl) (by decide) rfl ?_
        refine x_goto 31 dX4_overflowCount_52 (by decide) ?_
        refine x_sub [2, 1, 3, 0] rfl ?_
        exact ih _ _ hF
set_option maxRecDepth 20000 in
set_option maxHeartbeats 4000000 in
theorem c_X4_overflowCount (N : Nat) (f : XM) (this : Nat) (p0 : Int32) (n : Nat) (r : Int32) (hF : F_X4_overflowCount N f this p0 = some r) : x_Ct mX4_overflowCount 1 25 0 0 [.ref this, .int p0] (f, n) (xr_ip r (f, n)) := by
  unfold F_X4_overflowCount at hF
  refine x_ct (by decide) rfl (Nat.le_of_ble_eq_true rfl) ?_
  show X mX4_overflowCount 1 25 _ _ 0 0 0 [(0, .ref this), (1, .int p0)] [] (f, n)
  refine x_iconst 0 (by decide) dX4_overflowCount_0 ?_
  refine x_istore_n (i := 2) (lv' := [(2, .int 0), (0, .ref this), (1, .int p0)]) dX4_overflowCount_1 rfl (by decide) rfl ?_
  refine x_aload_n 1 dX4_overflowCount_2 rfl rfl ?_
  refine x_getr_r dX4_overflowCount_3 fl_X4_14 hF (fun v1 hF => ?_)
  refine x_aload_n 1 dX4_overflowCount_6 rfl rfl ?_
  refine x_iload_n 2 dX4_overflowCount_7 rfl rfl ?_
  refine x_iconst 1 (by decide) dX4_overflowCount_8 ?_
  refine x_iadd dX4_overflowCount_9 ?_
  obtain ⟨z2, hzz2, hF⟩ := x_bind hF
  obtain ⟨⟨fsz2, hbz2⟩, hzz2⟩ := x_cv_sp hzz2
  refine x_callv (As := [.int (p0 + 1)]) (rest := [va_rf v1]) 0 0 dX4_overflowCount_10 mi_X4_boundOn ml_X4_55 rfl rfl (by simp only [List.map_cons, List.map_nil, x_rfc]; exact Nat.le_of_ble_eq_true rfl) ⟨by decide, by decide⟩ (by omega) (by omega) hbz2 rfl (c_X4_boundOn N _ _ _ _ _ hzz2) (x_K.some ?_) x_KX.none
  refine x_nn hF (fun a3 ha3 hF => ?_)
  rw [ha3]
  obtain ⟨z4, hzz4, hF⟩ := x_bind hF
  obtain ⟨⟨fsz4, hbz4⟩, hzz4⟩ := x_cv_sp hzz4
  refine x_callv (As := [.int z2]) (rest := []) 0 0 dX4_overflowCount_13 mi_X2_firstFrom ml_X4_58 rfl rfl (Nat.le_of_ble_eq_true rfl) ⟨by decide, by decide⟩ (by omega) (by omega) hbz4 rfl (c_X2_firstFrom N _ _ _ _ _ hzz4) (x_K.some ?_) x_KX.none
  refine x_istore_n (i := 3) (lv' := [(3, .int z4), (2, .int 0), (0, .ref this), (1, .int p0)]) dX4_overflowCount_16 rfl (by decide) rfl ?_
  refine x_aload_n 2 dX4_overflowCount_17 rfl rfl ?_
  refine x_getr_r dX4_overflowCount_18 fl_X4_14 hF (fun v5 hF => ?_)
  refine x_aload_n 2 dX4_overflowCount_21 rfl rfl ?_
  refine x_iload_n 3 dX4_overflowCount_22 rfl rfl ?_
  obtain ⟨z6, hzz6, hF⟩ := x_bind hF
  obtain ⟨⟨fsz6, hbz6⟩, hzz6⟩ := x_cv_sp hzz6
  refine x_callv (As := [.int p0]) (rest := [va_rf v5]) 0 0 dX4_overflowCount_23 mi_X4_boundOn ml_X4_55 rfl rfl (by simp only [List.map_cons, List.map_nil, x_rfc]; exact Nat.le_of_ble_eq_true rfl) ⟨by decide, by decide⟩ (by omega) (by omega) hbz6 rfl (c_X4_boundOn N _ _ _ _ _ hzz6) (x_K.some ?_) x_KX.none
  refine x_nn hF (fun a7 ha7 hF => ?_)
  rw [ha7]
  obtain ⟨z8, hzz8, hF⟩ := x_bind hF
  obtain ⟨⟨fsz8, hbz8⟩, hzz8⟩ := x_cv_sp hzz8
  refine x_callv (As := [.int z6]) (rest := []) 0 0 dX4_overflowCount_26 mi_X2_firstFrom ml_X4_58 rfl rfl (Nat.le_of_ble_eq_true rfl) ⟨by decide, by decide⟩ (by omega) (by omega) hbz8 rfl (c_X2_firstFrom N _ _ _ _ _ hzz8) (x_K.some ?_) x_KX.none
  refine x_istore (i := 4) (lv' := [(4, .int z8), (3, .int z4), (2, .int 0), (0, .ref this), (1, .int p0)]) dX4_overflowCount_29 (by decide) rfl ?_
  refine x_sub [3, 2, 1, 0] rfl ?_
  refine w_X4_overflowCount_L31 N _ _ _ _ _ r _ _ _ hF (fun y2_11 y4_11 hF => ?_)
  refine x_iload_n 1 dX4_overflowCount_55 rfl rfl ?_
  exact x_iret dX4_overflowCount_56 rfl (by cases hF; rfl)
def F_X4_write (N : Nat) (f : XM) (this : Nat) (p0 : Int32) (p1 : Int32) : Option (Int32 × XM) :=
  (x_getr f 4 this 0).bind fun v1 =>
  Option.bind v1 fun a2 =>
  (x_cv f 2 a2 (F_X2_placeOf N f a2 p0)).bind fun z3 =>
  if z3 = (-1) then
    (x_getr f 4 this 0).bind fun v4 =>
    Option.bind v4 fun a5 =>
    (x_cv f 2 a5 (F_X2_isFull N f a5)).bind fun z6 =>
    if (x_b z6) = 0 then
      (x_cv f 4 this (F_X4_leafOfKey N f this p0)).bind fun z7 =>
      if z7 = (-1) then
        (x_geti f 4 this 3).bind fun v8 =>
        if z7 = (v8 - 1) then
          (x_getr f 4 this 0).bind fun v21 =>
          (x_getr f 4 this 0).bind fun v22 =>
          Option.bind v22 fun a23 =>
          (x_geti f 2 a23 2).bind fun v24 =>
          Option.bind v21 fun a25 =>
          (x_cv f 2 a25 (F_X2_keyOn N f a25 (v24 - 1))).bind fun z26 =>
          if p0 ≤ z26 then
            if z7 = (-1) then
              (x_cv f 4 this (F_X4_addLeaf N f this p0)).bind fun z27 =>
              (x_cv z27 4 this (F_X4_addEntry N z27 this p0 p1 0)).bind fun z28 =>
              some (3, z28)
            else
              if (0 : Int32) = 0 then
                (x_cv f 4 this (F_X4_overflowCount N f this z7)).bind fun z29 =>
                (x_cv f 4 this (F_X4_addEntry N f this p0 p1 (z29 + 1))).bind fun z30 =>
                some (2, z30)
              else
                (x_geti f 4 this 3).bind fun v31 =>
                (x_getr f 4 this 2).bind fun v32 =>
                Option.bind v32 fun a33 =>
                (x_alen f a33).bind fun v34 =>
                if v34 ≤ v31 then
                  (x_cv f 4 this (F_X4_overflowCount N f this z7)).bind fun z35 =>
                  (x_cv f 4 this (F_X4_addEntry N f this p0 p1 (z35 + 1))).bind fun z36 =>
                  some (2, z36)
                else
                  (x_cv f 4 this (F_X4_addLeaf N f this p0)).bind fun z37 =>
                  (x_cv z37 4 this (F_X4_addEntry N z37 this p0 p1 0)).bind fun z38 =>
                  some (3, z38)
          else
            if z7 = (-1) then
              (x_cv f 4 this (F_X4_addLeaf N f this p0)).bind fun z39 =>
              (x_cv z39 4 this (F_X4_addEntry N z39 this p0 p1 0)).bind fun z40 =>
              some (3, z40)
            else
              if (1 : Int32) = 0 then
                (x_cv f 4 this (F_X4_overflowCount N f this z7)).bind fun z41 =>
                (x_cv f 4 this (F_X4_addEntry N f this p0 p1 (z41 + 1))).bind fun z42 =>
                some (2, z42)
              else
                (x_geti f 4 this 3).bind fun v43 =>
                (x_getr f 4 this 2).bind fun v44 =>
                Option.bind v44 fun a45 =>
                (x_alen f a45).bind fun v46 =>
                if v46 ≤ v43 then
                  (x_cv f 4 this (F_X4_overflowCount N f this z7)).bind fun z47 =>
                  (x_cv f 4 this (F_X4_addEntry N f this p0 p1 (z47 + 1))).bind fun z48 =>
                  some (2, z48)
                else
                  (x_cv f 4 this (F_X4_addLeaf N f this p0)).bind fun z49 =>
                  (x_cv z49 4 this (F_X4_addEntry N z49 this p0 p1 0)).bind fun z50 =>
                  some (3, z50)
        else
          if z7 = (-1) then
            (x_cv f 4 this (F_X4_addLeaf N f this p0)).bind fun z9 =>
            (x_cv z9 4 this (F_X4_addEntry N z9 this p0 p1 0)).bind fun z10 =>
            some (3, z10)
          else
            if (0 : Int32) = 0 then
              (x_cv f 4 this (F_X4_overflowCount N f this z7)).bind fun z11 =>
              (x_cv f 4 this (F_X4_addEntry N f this p0 p1 (z11 + 1))).bind fun z12 =>
              some (2, z12)
            else
              (x_geti f 4 this 3).bind fun v13 =>
              (x_getr f 4 this 2).bind fun v14 =>
              Option.bind v14 fun a15 =>
              (x_alen f a15).bind fun v16 =>
              if v16 ≤ v13 then
                (x_cv f 4 this (F_X4_overflowCount N f this z7)).bind fun z17 =>
                (x_cv f 4 this (F_X4_addEntry N f this p0 p1 (z17 + 1))).bind fun z18 =>
                some (2, z18)
              else
                (x_cv f 4 this (F_X4_addLeaf N f this p0)).bind fun z19 =>
                (x_cv z19 4 this (F_X4_addEntry N z19 this p0 p1 0)).bind fun z20 =>
                some (3, z20)
      else
        (x_cv f 4 this (F_X4_ownCount N f this z7)).bind fun z51 =>
        (x_geti f 4 this 4).bind fun v52 =>
        if v52 ≤ z51 then
          (x_geti f 4 this 3).bind fun v53 =>
          if z7 = (v53 - 1) then
            (x_getr f 4 this 0).bind fun v66 =>
            (x_getr f 4 this 0).bind fun v67 =>
            Option.bind v67 fun a68 =>
            (x_geti f 2 a68 2).bind fun v69 =>
            Option.bind v66 fun a70 =>
            (x_cv f 2 a70 (F_X2_keyOn N f a70 (v69 - 1))).bind fun z71 =>
            if p0 ≤ z71 then
              if z7 = (-1) then
                (x_cv f 4 this (F_X4_addLeaf N f this p0)).bind fun z72 =>
                (x_cv z72 4 this (F_X4_addEntry N z72 this p0 p1 0)).bind fun z73 =>
                some (3, z73)
              else
                if (0 : Int32) = 0 then
                  (x_cv f 4 this (F_X4_overflowCount N f this z7)).bind fun z74 =>
                  (x_cv f 4 this (F_X4_addEntry N f this p0 p1 (z74 + 1))).bind fun z75 =>
                  some (2, z75)
                else
                  (x_geti f 4 this 3).bind fun v76 =>
                  (x_getr f 4 this 2).bind fun v77 =>
                  Option.bind v77 fun a78 =>
                  (x_alen f a78).bind fun v79 =>
                  if v79 ≤ v76 then
                    (x_cv f 4 this (F_X4_overflowCount N f this z7)).bind fun z80 =>
                    (x_cv f 4 this (F_X4_addEntry N f this p0 p1 (z80 + 1))).bind fun z81 =>
                    some (2, z81)
                  else
                    (x_cv f 4 this (F_X4_addLeaf N f this p0)).bind fun z82 =>
                    (x_cv z82 4 this (F_X4_addEntry N z82 this p0 p1 0)).bind fun z83 =>
                    some (3, z83)
            else
              if z7 = (-1) then
                (x_cv f 4 this (F_X4_addLeaf N f this p0)).bind fun z84 =>
                (x_cv z84 4 this (F_X4_addEntry N z84 this p0 p1 0)).bind fun z85 =>
                some (3, z85)
              else
                if (1 : Int32) = 0 then
                  (x_cv f 4 this (F_X4_overflowCount N f this z7)).bind fun z86 =>
                  (x_cv f 4 this (F_X4_addEntry N f this p0 p1 (z86 + 1))).bind fun z87 =>
                  some (2, z87)
                else
                  (x_geti f 4 this 3).bind fun v88 =>
                  (x_getr f 4 this 2).bind fun v89 =>
                  Option.bind v89 fun a90 =>
                  (x_alen f a90).bind fun v91 =>
                  if v91 ≤ v88 then
                    (x_cv f 4 this (F_X4_overflowCount N f this z7)).bind fun z92 =>
                    (x_cv f 4 this (F_X4_addEntry N f this p0 p1 (z92 + 1))).bind fun z93 =>
                    some (2, z93)
                  else
                    (x_cv f 4 this (F_X4_addLeaf N f this p0)).bind fun z94 =>
                    (x_cv z94 4 this (F_X4_addEntry N z94 this p0 p1 0)).bind fun z95 =>
                    some (3, z95)
          else
            if z7 = (-1) then
              (x_cv f 4 this (F_X4_addLeaf N f this p0)).bind fun z54 =>
              (x_cv z54 4 this (F_X4_addEntry N z54 this p0 p1 0)).bind fun z55 =>
              some (3, z55)
            else
              if (0 : Int32) = 0 then
                (x_cv f 4 this (F_X4_overflowCount N f this z7)).bind fun z56 =>
                (x_cv f 4 this (F_X4_addEntry N f this p0 p1 (z56 + 1))).bind fun z57 =>
                some (2, z57)
              else
                (x_geti f 4 this 3).bind fun v58 =>
                (x_getr f 4 this 2).bind fun v59 =>
                Option.bind v59 fun a60 =>
                (x_alen f a60).bind fun v61 =>
                if v61 ≤ v58 then
                  (x_cv f 4 this (F_X4_overflowCount N f this z7)).bind fun z62 =>
                  (x_cv f 4 this (F_X4_addEntry N f this p0 p1 (z62 + 1))).bind fun z63 =>
                  some (2, z63)
                else
                  (x_cv f 4 this (F_X4_addLeaf N f this p0)).bind fun z64 =>
                  (x_cv z64 4 this (F_X4_addEntry N z64 this p0 p1 0)).bind fun z65 =>
                  some (3, z65)
        else
          (x_cv f 4 this (F_X4_addEntry N f this p0 p1 0)).bind fun z96 =>
          some (1, z96)
    else
      some ((-1), f)
  else
    (x_getr f 4 this 0).bind fun v97 =>
    Option.bind v97 fun a98 =>
    (x_cv f 2 a98 (F_X2_setValue N f a98 z3 p1)).bind fun z99 =>
    some (0, z99)
set_option maxRecDepth 20000 in
set_option maxHeartbeats 4000000 in
theorem c_X4_write (N : Nat) (f : XM) (this : Nat) (p0 : Int32) (p1 : Int32) (n : Nat) (r : (Int32 × XM)) (hF : F_X4_write N f this p0 p1 = some r) : x_Ct mX4_write 2 50 0 0 [.ref this, .int p0, .int p1] (f, n) (xr_im r n) := by
  unfold F_X4_write at hF
  refine x_ct (by decide) rfl (Nat.le_of_ble_eq_true rfl) ?_
  show X mX4_write 2 50 _ _ 0 0 0 [(0, .ref this), (1, .int p0), (2, .int p1)] [] (f, n)
  refine x_aload_n 0 dX4_write_0 rfl rfl ?_
  refine x_getr_r dX4_write_1 fl_X4_14 hF (fun v1 hF => ?_)
  refine x_iload_n 1 dX4_write_4 rfl rfl ?_
  refine x_nn hF (fun a2 ha2 hF => ?_)
  rw [ha2]
  obtain ⟨z3, hzz3, hF⟩ := x_bind hF
  obtain ⟨⟨fsz3, hbz3⟩, hzz3⟩ := x_cv_sp hzz3
  refine x_callv (As := [.int p0]) (rest := []) 0 0 dX4_write_5 mi_X2_placeOf ml_X4_74 rfl rfl (Nat.le_of_ble_eq_true rfl) ⟨by decide, by decide⟩ (by omega) (by omega) hbz3 rfl (c_X2_placeOf N _ _ _ _ _ hzz3) (x_K.some ?_) x_KX.none
  refine x_istore_n (i := 3) (lv' := [(3, .int z3), (0, .ref this), (1, .int p0), (2, .int p1)]) dX4_write_8 rfl (by decide) rfl ?_
  refine x_iload_n 0 dX4_write_9 rfl rfl ?_
  refine x_iconst (-1) (by decide) dX4_write_10 ?_
  refine x_icmp_eq 25 dX4_write_11 (by decide) hF (fun hF => ?_) (fun hF => ?_)
  · refine x_aload_n 1 dX4_write_25 rfl rfl ?_
    refine x_getr_r dX4_write_26 fl_X4_14 hF (fun v4 hF => ?_)
    refine x_nn hF (fun a5 ha5 hF => ?_)
    rw [ha5]
    obtain ⟨z6, hzz6, hF⟩ := x_bind hF
    obtain ⟨⟨fsz6, hbz6⟩, hzz6⟩ := x_cv_sp hzz6
    refine x_callv (As := []) (rest := []) 0 0 dX4_write_29 mi_X2_isFull ml_X4_81 rfl rfl (Nat.le_of_ble_eq_true rfl) ⟨by decide, by decide⟩ (by omega) (by omega) hbz6 rfl (c_X2_isFull N _ _ _ _ hzz6) (x_K.some ?_) x_KX.none
    refine x_if_eq 37 dX4_write_32 (by decide) hF (fun hF => ?_) (fun hF => ?_)
    · refine x_aload_n 1 dX4_write_37 rfl rfl ?_
      refine x_iload_n 2 dX4_write_38 rfl rfl ?_
      obtain ⟨z7, hzz7, hF⟩ := x_bind hF
      obtain ⟨⟨fsz7, hbz7⟩, hzz7⟩ := x_cv_sp hzz7
      refine x_callv (As := [.int p0]) (rest := []) 0 0 dX4_write_39 mi_X4_leafOfKey ml_X4_85 rfl rfl (Nat.le_of_ble_eq_true rfl) ⟨by decide, by decide⟩ (by omega) (by omega) hbz7 rfl (c_X4_leafOfKey N _ _ _ _ _ hzz7) (x_K.some ?_) x_KX.none
      refine x_istore (i := 4) (lv' := [(4, .int z7), (3, .int z3), (0, .ref this), (1, .int p0), (2, .int p1)]) dX4_write_42 (by decide) rfl ?_
      refine x_iload 0 dX4_write_44 rfl ?_
      refine x_iconst (-1) (by decide) dX4_write_46 ?_
      refine x_icmp_eq 72 dX4_write_47 (by decide) hF (fun hF => ?_) (fun hF => ?_)
      · refine x_iload 0 dX4_write_72 rfl ?_
        refine x_aload_n 2 dX4_write_74 rfl rfl ?_
        refine x_geti_r dX4_write_75 fl_X4_39 hF (fun v8 hF => ?_)
        refine x_iconst 1 (by decide) dX4_write_78 ?_
        refine x_isub dX4_write_79 ?_
        refine x_icmp_ne 107 dX4_write_80 (by decide) hF (fun hF => ?_) (fun hF => ?_)
        · refine x_iconst 0 (by decide) dX4_write_107 ?_
          refine x_istore (i := 5) (lv' := [(5, .int 0), (4, .int z7), (3, .int z3), (0, .ref this), (1, .int p0), (2, .int p1)]) dX4_write_108 (by decide) rfl ?_
          refine x_iload 1 dX4_write_110 rfl ?_
          refine x_iconst (-1) (by decide) dX4_write_112 ?_
          refine x_icmp_eq 133 dX4_write_113 (by decide) hF (fun hF => ?_) (fun hF => ?_)
          · refine x_aload_n 3 dX4_write_133 rfl rfl ?_
            refine x_iload_n 4 dX4_write_134 rfl rfl ?_
            obtain ⟨z9, hzz9, hF⟩ := x_bind hF
            obtain ⟨⟨fsz9, hbz9⟩, hzz9⟩ := x_cv_sp hzz9
            refine x_callv (As := [.int p0]) (rest := []) 0 0 dX4_write_135 mi_X4_addLeaf ml_X4_52 rfl rfl (Nat.le_of_ble_eq_true rfl) ⟨by decide, by decide⟩ (by omega) (by omega) hbz9 rfl (c_X4_addLeaf N _ _ _ _ _ hzz9) (x_K.none ?_) x_KX.none
            refine x_aload_n 3 dX4_write_138 rfl rfl ?_
            refine x_iload_n 4 dX4_write_139 rfl rfl ?_
            refine x_iload_n 5 dX4_write_140 rfl rfl ?_
            refine x_iconst 0 (by decide) dX4_write_141 ?_
            obtain ⟨z10, hzz10, hF⟩ := x_bind hF
            obtain ⟨⟨fsz10, hbz10⟩, hzz10⟩ := x_cv_sp hzz10
            refine x_callv (As := [.int p0, .int p1, .int 0]) (rest := []) 0 0 dX4_write_142 mi_X4_addEntry ml_X4_91 rfl rfl (Nat.le_of_ble_eq_true rfl) ⟨by decide, by decide⟩ (by omega) (by omega) hbz10 rfl (c_X4_addEntry N _ _ _ _ _ _ _ hzz10) (x_K.none ?_) x_KX.none
            refine x_iconst 3 (by decide) dX4_write_145 ?_
            exact x_iret dX4_write_146 rfl (by cases hF; rfl)
          · refine x_iload 0 dX4_write_116 rfl ?_
            refine x_if_eq 147 dX4_write_118 (by decide) hF (fun hF => ?_) (fun hF => ?_)
            · refine x_aload_n 3 dX4_write_147 rfl rfl ?_
              refine x_iload_n 4 dX4_write_148 rfl rfl ?_
              refine x_iload_n 5 dX4_write_149 rfl rfl ?_
              refine x_aload_n 3 dX4_write_150 rfl rfl ?_
              refine x_iload 1 dX4_write_151 rfl ?_
              obtain ⟨z11, hzz11, hF⟩ := x_bind hF
              obtain ⟨⟨fsz11, hbz11⟩, hzz11⟩ := x_cv_sp hzz11
              refine x_callv (As := [.int z7]) (rest := [.int p1, .int p0, .ref this]) 0 0 dX4_write_153 mi_X4_overflowCount ml_X4_64 rfl rfl (Nat.le_of_ble_eq_true rfl) ⟨by decide, by decide⟩ (by omega) (by omega) hbz11 rfl (c_X4_overflowCount N _ _ _ _ _ hzz11) (x_K.some ?_) x_KX.none
              refine x_iconst 1 (by decide) dX4_write_156 ?_
              refine x_iadd dX4_write_157 ?_
              obtain ⟨z12, hzz12, hF⟩ := x_bind hF
              obtain ⟨⟨fsz12, hbz12⟩, hzz12⟩ := x_cv_sp hzz12
              refine x_callv (As := [.int p0, .int p1, .int (z11 + 1)]) (rest := []) 0 0 dX4_write_158 mi_X4_addEntry ml_X4_91 rfl rfl (Nat.le_of_ble_eq_true rfl) ⟨by decide, by decide⟩ (by omega) (by omega) hbz12 rfl (c_X4_addEntry N _ _ _ _ _ _ _ hzz12) (x_K.none ?_) x_KX.none
              refine x_iconst 2 (by decide) dX4_write_161 ?_
              exact x_iret dX4_write_162 rfl (by cases hF; rfl)
            · refine x_aload_n 3 dX4_write_121 rfl rfl ?_
              refine x_geti_r dX4_write_122 fl_X4_39 hF (fun v13 hF => ?_)
              refine x_aload_n 3 dX4_write_125 rfl rfl ?_
              refine x_getr_r dX4_write_126 fl_X4_24 hF (fun v14 hF => ?_)
              refine x_nn hF (fun a15 ha15 hF => ?_)
              rw [ha15]
              refine x_alen_r dX4_write_129 hF (fun v16 hF => ?_)
              refine x_icmp_ge 147 dX4_write_130 (by decide) hF (fun hF => ?_) (fun hF => ?_)
              · refine x_aload_n 3 dX4_write_147 rfl rfl ?_
                refine x_iload_n 4 dX4_write_148 rfl rfl ?_
                refine x_iload_n 5 dX4_write_149 rfl rfl ?_
                refine x_aload_n 3 dX4_write_150 rfl rfl ?_
                refine x_iload 1 dX4_write_151 rfl ?_
                obtain ⟨z17, hzz17, hF⟩ := x_bind hF
                obtain ⟨⟨fsz17, hbz17⟩, hzz17⟩ := x_cv_sp hzz17
                refine x_callv (As := [.int z7]) (rest := [.int p1, .int p0, .ref this]) 0 0 dX4_write_153 mi_X4_overflowCount ml_X4_64 rfl rfl (Nat.le_of_ble_eq_true rfl) ⟨by decide, by decide⟩ (by omega) (by omega) hbz17 rfl (c_X4_overflowCount N _ _ _ _ _ hzz17) (x_K.some ?_) x_KX.none
                refine x_iconst 1 (by decide) dX4_write_156 ?_
                refine x_iadd dX4_write_157 ?_
                obtain ⟨z18, hzz18, hF⟩ := x_bind hF
                obtain ⟨⟨fsz18, hbz18⟩, hzz18⟩ := x_cv_sp hzz18
                refine x_callv (As := [.int p0, .int p1, .int (z17 + 1)]) (rest := []) 0 0 dX4_write_158 mi_X4_addEntry ml_X4_91 rfl rfl (Nat.le_of_ble_eq_true rfl) ⟨by decide, by decide⟩ (by omega) (by omega) hbz18 rfl (c_X4_addEntry N _ _ _ _ _ _ _ hzz18) (x_K.none ?_) x_KX.none
                refine x_iconst 2 (by decide) dX4_write_161 ?_
                exact x_iret dX4_write_162 rfl (by cases hF; rfl)
              · refine x_aload_n 3 dX4_write_133 rfl rfl ?_
                refine x_iload_n 4 dX4_write_134 rfl rfl ?_
                obtain ⟨z19, hzz19, hF⟩ := x_bind hF
                obtain ⟨⟨fsz19, hbz19⟩, hzz19⟩ := x_cv_sp hzz19
                refine x_callv (As := [.int p0]) (rest := []) 0 0 dX4_write_135 mi_X4_addLeaf ml_X4_52 rfl rfl (Nat.le_of_ble_eq_true rfl) ⟨by decide, by decide⟩ (by omega) (by omega) hbz19 rfl (c_X4_addLeaf N _ _ _ _ _ hzz19) (x_K.none ?_) x_KX.none
                refine x_aload_n 3 dX4_write_138 rfl rfl ?_
                refine x_iload_n 4 dX4_write_139 rfl rfl ?_
                refine x_iload_n 5 dX4_write_140 rfl rfl ?_
                refine x_iconst 0 (by decide) dX4_write_141 ?_
                obtain ⟨z20, hzz20, hF⟩ := x_bind hF
                obtain ⟨⟨fsz20, hbz20⟩, hzz20⟩ := x_cv_sp hzz20
                refine x_callv (As := [.int p0, .int p1, .int 0]) (rest := []) 0 0 dX4_write_142 mi_X4_addEntry ml_X4_91 rfl rfl (Nat.le_of_ble_eq_true rfl) ⟨by decide, by decide⟩ (by omega) (by omega) hbz20 rfl (c_X4_addEntry N _ _ _ _ _ _ _ hzz20) (x_K.none ?_) x_KX.none
                refine x_iconst 3 (by decide) dX4_write_145 ?_
                exact x_iret dX4_write_146 rfl (by cases hF; rfl)
        · refine x_iload_n 3 dX4_write_83 rfl rfl ?_
          refine x_aload_n 2 dX4_write_84 rfl rfl ?_
          refine x_getr_r dX4_write_85 fl_X4_14 hF (fun v21 hF => ?_)
          refine x_aload_n 2 dX4_write_88 rfl rfl ?_
          refine x_getr_r dX4_write_89 fl_X4_14 hF (fun v22 hF => ?_)
          refine x_nn hF (fun a23 ha23 hF => ?_)
          rw [ha23]
          refine x_geti_r dX4_write_92 fl_X4_31 hF (fun v24 hF => ?_)
          refine x_iconst 1 (by decide) dX4_write_95 ?_
          refine x_isub dX4_write_96 ?_
          refine x_nn hF (fun a25 ha25 hF => ?_)
          rw [ha25]
          obtain ⟨z26, hzz26, hF⟩ := x_bind hF
          obtain ⟨⟨fsz26, hbz26⟩, hzz26⟩ := x_cv_sp hzz26
          refine x_callv (As := [.int (v24 - 1)]) (rest := [.int p0]) 0 0 dX4_write_97 mi_X2_keyOn ml_X4_48 rfl rfl (Nat.le_of_ble_eq_true rfl) ⟨by decide, by decide⟩ (by omega) (by omega) hbz26 rfl (c_X2_keyOn N _ _ _ _ _ hzz26) (x_K.some ?_) x_KX.none
          refine x_icmp_le 107 dX4_write_100 (by decide) hF (fun hF => ?_) (fun hF => ?_)
          · refine x_iconst 0 (by decide) dX4_write_107 ?_
            refine x_istore (i := 5) (lv' := [(5, .int 0), (4, .int z7), (3, .int z3), (0, .ref this), (1, .int p0), (2, .int p1)]) dX4_write_108 (by decide) rfl ?_
            refine x_iload 1 dX4_write_110 rfl ?_
            refine x_iconst (-1) (by decide) dX4_write_112 ?_
            refine x_icmp_eq 133 dX4_write_113 (by decide) hF (fun hF => ?_) (fun hF => ?_)
            · refine x_aload_n 3 dX4_write_133 rfl rfl ?_
              refine x_iload_n 4 dX4_write_134 rfl rfl ?_
              obtain ⟨z27, hzz27, hF⟩ := x_bind hF
              obtain ⟨⟨fsz27, hbz27⟩, hzz27⟩ := x_cv_sp hzz27
              refine x_callv (As := [.int p0]) (rest := []) 0 0 dX4_write_135 mi_X4_addLeaf ml_X4_52 rfl rfl (Nat.le_of_ble_eq_true rfl) ⟨by decide, by decide⟩ (by omega) (by omega) hbz27 rfl (c_X4_addLeaf N _ _ _ _ _ hzz27) (x_K.none ?_) x_KX.none
              refine x_aload_n 3 dX4_write_138 rfl rfl ?_
              refine x_iload_n 4 dX4_write_139 rfl rfl ?_
              refine x_iload_n 5 dX4_write_140 rfl rfl ?_
              refine x_iconst 0 (by decide) dX4_write_141 ?_
              obtain ⟨z28, hzz28, hF⟩ := x_bind hF
              obtain ⟨⟨fsz28, hbz28⟩, hzz28⟩ := x_cv_sp hzz28
              refine x_callv (As := [.int p0, .int p1, .int 0]) (rest := []) 0 0 dX4_write_142 mi_X4_addEntry ml_X4_91 rfl rfl (Nat.le_of_ble_eq_true rfl) ⟨by decide, by decide⟩ (by omega) (by omega) hbz28 rfl (c_X4_addEntry N _ _ _ _ _ _ _ hzz28) (x_K.none ?_) x_KX.none
              refine x_iconst 3 (by decide) dX4_write_145 ?_
              exact x_iret dX4_write_146 rfl (by cases hF; rfl)
            · refine x_iload 0 dX4_write_116 rfl ?_
              refine x_if_eq 147 dX4_write_118 (by decide) hF (fun hF => ?_) (fun hF => ?_)
              · refine x_aload_n 3 dX4_write_147 rfl rfl ?_
                refine x_iload_n 4 dX4_write_148 rfl rfl ?_
                refine x_iload_n 5 dX4_write_149 rfl rfl ?_
                refine x_aload_n 3 dX4_write_150 rfl rfl ?_
                refine x_iload 1 dX4_write_151 rfl ?_
                obtain ⟨z29, hzz29, hF⟩ := x_bind hF
                obtain ⟨⟨fsz29, hbz29⟩, hzz29⟩ := x_cv_sp hzz29
                refine x_callv (As := [.int z7]) (rest := [.int p1, .int p0, .ref this]) 0 0 dX4_write_153 mi_X4_overflowCount ml_X4_64 rfl rfl (Nat.le_of_ble_eq_true rfl) ⟨by decide, by decide⟩ (by omega) (by omega) hbz29 rfl (c_X4_overflowCount N _ _ _ _ _ hzz29) (x_K.some ?_) x_KX.none
                refine x_iconst 1 (by decide) dX4_write_156 ?_
                refine x_iadd dX4_write_157 ?_
                obtain ⟨z30, hzz30, hF⟩ := x_bind hF
                obtain ⟨⟨fsz30, hbz30⟩, hzz30⟩ := x_cv_sp hzz30
                refine x_callv (As := [.int p0, .int p1, .int (z29 + 1)]) (rest := []) 0 0 dX4_write_158 mi_X4_addEntry ml_X4_91 rfl rfl (Nat.le_of_ble_eq_true rfl) ⟨by decide, by decide⟩ (by omega) (by omega) hbz30 rfl (c_X4_addEntry N _ _ _ _ _ _ _ hzz30) (x_K.none ?_) x_KX.none
                refine x_iconst 2 (by decide) dX4_write_161 ?_
                exact x_iret dX4_write_162 rfl (by cases hF; rfl)
              · refine x_aload_n 3 dX4_write_121 rfl rfl ?_
                refine x_geti_r dX4_write_122 fl_X4_39 hF (fun v31 hF => ?_)
                refine x_aload_n 3 dX4_write_125 rfl rfl ?_
                refine x_getr_r dX4_write_126 fl_X4_24 hF (fun v32 hF => ?_)
                refine x_nn hF (fun a33 ha33 hF => ?_)
                rw [ha33]
                refine x_alen_r dX4_write_129 hF (fun v34 hF => ?_)
                refine x_icmp_ge 147 dX4_write_130 (by decide) hF (fun hF => ?_) (fun hF => ?_)
                · refine x_aload_n 3 dX4_write_147 rfl rfl ?_
                  refine x_iload_n 4 dX4_write_148 rfl rfl ?_
                  refine x_iload_n 5 dX4_write_149 rfl rfl ?_
                  refine x_aload_n 3 dX4_write_150 rfl rfl ?_
                  refine x_iload 1 dX4_write_151 rfl ?_
                  obtain ⟨z35, hzz35, hF⟩ := x_bind hF
                  obtain ⟨⟨fsz35, hbz35⟩, hzz35⟩ := x_cv_sp hzz35
                  refine x_callv (As := [.int z7]) (rest := [.int p1, .int p0, .ref this]) 0 0 dX4_write_153 mi_X4_overflowCount ml_X4_64 rfl rfl (Nat.le_of_ble_eq_true rfl) ⟨by decide, by decide⟩ (by omega) (by omega) hbz35 rfl (c_X4_overflowCount N _ _ _ _ _ hzz35) (x_K.some ?_) x_KX.none
                  refine x_iconst 1 (by decide) dX4_write_156 ?_
                  refine x_iadd dX4_write_157 ?_
                  obtain ⟨z36, hzz36, hF⟩ := x_bind hF
                  obtain ⟨⟨fsz36, hbz36⟩, hzz36⟩ := x_cv_sp hzz36
                  refine x_callv (As := [.int p0, .int p1, .int (z35 + 1)]) (rest := []) 0 0 dX4_write_158 mi_X4_addEntry ml_X4_91 rfl rfl (Nat.le_of_ble_eq_true rfl) ⟨by decide, by decide⟩ (by omega) (by omega) hbz36 rfl (c_X4_addEntry N _ _ _ _ _ _ _ hzz36) (x_K.none ?_) x_KX.none
                  refine x_iconst 2 (by decide) dX4_write_161 ?_
                  exact x_iret dX4_write_162 rfl (by cases hF; rfl)
                · refine x_aload_n 3 dX4_write_133 rfl rfl ?_
                  refine x_iload_n 4 dX4_write_134 rfl rfl ?_
                  obtain ⟨z37, hzz37, hF⟩ := x_bind hF
                  obtain ⟨⟨fsz37, hbz37⟩, hzz37⟩ := x_cv_sp hzz37
                  refine x_callv (As := [.int p0]) (rest := []) 0 0 dX4_write_135 mi_X4_addLeaf ml_X4_52 rfl rfl (Nat.le_of_ble_eq_true rfl) ⟨by decide, by decide⟩ (by omega) (by omega) hbz37 rfl (c_X4_addLeaf N _ _ _ _ _ hzz37) (x_K.none ?_) x_KX.none
                  refine x_aload_n 3 dX4_write_138 rfl rfl ?_
                  refine x_iload_n 4 dX4_write_139 rfl rfl ?_
                  refine x_iload_n 5 dX4_write_140 rfl rfl ?_
                  refine x_iconst 0 (by decide) dX4_write_141 ?_
                  obtain ⟨z38, hzz38, hF⟩ := x_bind hF
                  obtain ⟨⟨fsz38, hbz38⟩, hzz38⟩ := x_cv_sp hzz38
                  refine x_callv (As := [.int p0, .int p1, .int 0]) (rest := []) 0 0 dX4_write_142 mi_X4_addEntry ml_X4_91 rfl rfl (Nat.le_of_ble_eq_true rfl) ⟨by decide, by decide⟩ (by omega) (by omega) hbz38 rfl (c_X4_addEntry N _ _ _ _ _ _ _ hzz38) (x_K.none ?_) x_KX.none
                  refine x_iconst 3 (by decide) dX4_write_145 ?_
                  exact x_iret dX4_write_146 rfl (by cases hF; rfl)
          · refine x_iconst 1 (by decide) dX4_write_103 ?_
            refine x_goto 108 dX4_write_104 (by decide) ?_
            refine x_istore (i := 5) (lv' := [(5, .int 1), (4, .int z7), (3, .int z3), (0, .ref this), (1, .int p0), (2, .int p1)]) dX4_write_108 (by decide) rfl ?_
            refine x_iload 1 dX4_write_110 rfl ?_
            refine x_iconst (-1) (by decide) dX4_write_112 ?_
            refine x_icmp_eq 133 dX4_write_113 (by decide) hF (fun hF => ?_) (fun hF => ?_)
            · refine x_aload_n 3 dX4_write_133 rfl rfl ?_
              refine x_iload_n 4 dX4_write_134 rfl rfl ?_
              obtain ⟨z39, hzz39, hF⟩ := x_bind hF
              obtain ⟨⟨fsz39, hbz39⟩, hzz39⟩ := x_cv_sp hzz39
              refine x_callv (As := [.int p0]) (rest := []) 0 0 dX4_write_135 mi_X4_addLeaf ml_X4_52 rfl rfl (Nat.le_of_ble_eq_true rfl) ⟨by decide, by decide⟩ (by omega) (by omega) hbz39 rfl (c_X4_addLeaf N _ _ _ _ _ hzz39) (x_K.none ?_) x_KX.none
              refine x_aload_n 3 dX4_write_138 rfl rfl ?_
              refine x_iload_n 4 dX4_write_139 rfl rfl ?_
              refine x_iload_n 5 dX4_write_140 rfl rfl ?_
              refine x_iconst 0 (by decide) dX4_write_141 ?_
              obtain ⟨z40, hzz40, hF⟩ := x_bind hF
              obtain ⟨⟨fsz40, hbz40⟩, hzz40⟩ := x_cv_sp hzz40
              refine x_callv (As := [.int p0, .int p1, .int 0]) (rest := []) 0 0 dX4_write_142 mi_X4_addEntry ml_X4_91 rfl rfl (Nat.le_of_ble_eq_true rfl) ⟨by decide, by decide⟩ (by omega) (by omega) hbz40 rfl (c_X4_addEntry N _ _ _ _ _ _ _ hzz40) (x_K.none ?_) x_KX.none
              refine x_iconst 3 (by decide) dX4_write_145 ?_
              exact x_iret dX4_write_146 rfl (by cases hF; rfl)
            · refine x_iload 0 dX4_write_116 rfl ?_
              refine x_if_eq 147 dX4_write_118 (by decide) hF (fun hF => ?_) (fun hF => ?_)
              · refine x_aload_n 3 dX4_write_147 rfl rfl ?_
                refine x_iload_n 4 dX4_write_148 rfl rfl ?_
                refine x_iload_n 5 dX4_write_149 rfl rfl ?_
                refine x_aload_n 3 dX4_write_150 rfl rfl ?_
                refine x_iload 1 dX4_write_151 rfl ?_
                obtain ⟨z41, hzz41, hF⟩ := x_bind hF
                obtain ⟨⟨fsz41, hbz41⟩, hzz41⟩ := x_cv_sp hzz41
                refine x_callv (As := [.int z7]) (rest := [.int p1, .int p0, .ref this]) 0 0 dX4_write_153 mi_X4_overflowCount ml_X4_64 rfl rfl (Nat.le_of_ble_eq_true rfl) ⟨by decide, by decide⟩ (by omega) (by omega) hbz41 rfl (c_X4_overflowCount N _ _ _ _ _ hzz41) (x_K.some ?_) x_KX.none
                refine x_iconst 1 (by decide) dX4_write_156 ?_
                refine x_iadd dX4_write_157 ?_
                obtain ⟨z42, hzz42, hF⟩ := x_bind hF
                obtain ⟨⟨fsz42, hbz42⟩, hzz42⟩ := x_cv_sp hzz42
                refine x_callv (As := [.int p0, .int p1, .int (z41 + 1)]) (rest := []) 0 0 dX4_write_158 mi_X4_addEntry ml_X4_91 rfl rfl (Nat.le_of_ble_eq_true rfl) ⟨by decide, by decide⟩ (by omega) (by omega) hbz42 rfl (c_X4_addEntry N _ _ _ _ _ _ _ hzz42) (x_K.none ?_) x_KX.none
                refine x_iconst 2 (by decide) dX4_write_161 ?_
                exact x_iret dX4_write_162 rfl (by cases hF; rfl)
              · refine x_aload_n 3 dX4_write_121 rfl rfl ?_
                refine x_geti_r dX4_write_122 fl_X4_39 hF (fun v43 hF => ?_)
                refine x_aload_n 3 dX4_write_125 rfl rfl ?_
                refine x_getr_r dX4_write_126 fl_X4_24 hF (fun v44 hF => ?_)
                refine x_nn hF (fun a45 ha45 hF => ?_)
                rw [ha45]
                refine x_alen_r dX4_write_129 hF (fun v46 hF => ?_)
                refine x_icmp_ge 147 dX4_write_130 (by decide) hF (fun hF => ?_) (fun hF => ?_)
                · refine x_aload_n 3 dX4_write_147 rfl rfl ?_
                  refine x_iload_n 4 dX4_write_148 rfl rfl ?_
                  refine x_iload_n 5 dX4_write_149 rfl rfl ?_
                  refine x_aload_n 3 dX4_write_150 rfl rfl ?_
                  refine x_iload 1 dX4_write_151 rfl ?_
                  obtain ⟨z47, hzz47, hF⟩ := x_bind hF
                  obtain ⟨⟨fsz47, hbz47⟩, hzz47⟩ := x_cv_sp hzz47
                  refine x_callv (As := [.int z7]) (rest := [.int p1, .int p0, .ref this]) 0 0 dX4_write_153 mi_X4_overflowCount ml_X4_64 rfl rfl (Nat.le_of_ble_eq_true rfl) ⟨by decide, by decide⟩ (by omega) (by omega) hbz47 rfl (c_X4_overflowCount N _ _ _ _ _ hzz47) (x_K.some ?_) x_KX.none
                  refine x_iconst 1 (by decide) dX4_write_156 ?_
                  refine x_iadd dX4_write_157 ?_
                  obtain ⟨z48, hzz48, hF⟩ := x_bind hF
                  obtain ⟨⟨fsz48, hbz48⟩, hzz48⟩ := x_cv_sp hzz48
                  refine x_callv (As := [.int p0, .int p1, .int (z47 + 1)]) (rest := []) 0 0 dX4_write_158 mi_X4_addEntry ml_X4_91 rfl rfl (Nat.le_of_ble_eq_true rfl) ⟨by decide, by decide⟩ (by omega) (by omega) hbz48 rfl (c_X4_addEntry N _ _ _ _ _ _ _ hzz48) (x_K.none ?_) x_KX.none
                  refine x_iconst 2 (by decide) dX4_write_161 ?_
                  exact x_iret dX4_write_162 rfl (by cases hF; rfl)
                · refine x_aload_n 3 dX4_write_133 rfl rfl ?_
                  refine x_iload_n 4 dX4_write_134 rfl rfl ?_
                  obtain ⟨z49, hzz49, hF⟩ := x_bind hF
                  obtain ⟨⟨fsz49, hbz49⟩, hzz49⟩ := x_cv_sp hzz49
                  refine x_callv (As := [.int p0]) (rest := []) 0 0 dX4_write_135 mi_X4_addLeaf ml_X4_52 rfl rfl (Nat.le_of_ble_eq_true rfl) ⟨by decide, by decide⟩ (by omega) (by omega) hbz49 rfl (c_X4_addLeaf N _ _ _ _ _ hzz49) (x_K.none ?_) x_KX.none
                  refine x_aload_n 3 dX4_write_138 rfl rfl ?_
                  refine x_iload_n 4 dX4_write_139 rfl rfl ?_
                  refine x_iload_n 5 dX4_write_140 rfl rfl ?_
                  refine x_iconst 0 (by decide) dX4_write_141 ?_
                  obtain ⟨z50, hzz50, hF⟩ := x_bind hF
                  obtain ⟨⟨fsz50, hbz50⟩, hzz50⟩ := x_cv_sp hzz50
                  refine x_callv (As := [.int p0, .int p1, .int 0]) (rest := []) 0 0 dX4_write_142 mi_X4_addEntry ml_X4_91 rfl rfl (Nat.le_of_ble_eq_true rfl) ⟨by decide, by decide⟩ (by omega) (by omega) hbz50 rfl (c_X4_addEntry N _ _ _ _ _ _ _ hzz50) (x_K.none ?_) x_KX.none
                  refine x_iconst 3 (by decide) dX4_write_145 ?_
                  exact x_iret dX4_write_146 rfl (by cases hF; rfl)
      · refine x_aload_n 2 dX4_write_50 rfl rfl ?_
        refine x_iload 0 dX4_write_51 rfl ?_
        obtain ⟨z51, hzz51, hF⟩ := x_bind hF
        obtain ⟨⟨fsz51, hbz51⟩, hzz51⟩ := x_cv_sp hzz51
        refine x_callv (As := [.int z7]) (rest := []) 0 0 dX4_write_53 mi_X4_ownCount ml_X4_88 rfl rfl (Nat.le_of_ble_eq_true rfl) ⟨by decide, by decide⟩ (by omega) (by omega) hbz51 rfl (c_X4_ownCount N _ _ _ _ _ hzz51) (x_K.some ?_) x_KX.none
        refine x_aload_n 2 dX4_write_56 rfl rfl ?_
        refine x_geti_r dX4_write_57 fl_X4_42 hF (fun v52 hF => ?_)
        refine x_icmp_ge 72 dX4_write_60 (by decide) hF (fun hF => ?_) (fun hF => ?_)
        · refine x_iload 0 dX4_write_72 rfl ?_
          refine x_aload_n 2 dX4_write_74 rfl rfl ?_
          refine x_geti_r dX4_write_75 fl_X4_39 hF (fun v53 hF => ?_)
          refine x_iconst 1 (by decide) dX4_write_78 ?_
          refine x_isub dX4_write_79 ?_
          refine x_icmp_ne 107 dX4_write_80 (by decide) hF (fun hF => ?_) (fun hF => ?_)
          · refine x_iconst 0 (by decide) dX4_write_107 ?_
            refine x_istore (i := 5) (lv' := [(5, .int 0), (4, .int z7), (3, .int z3), (0, .ref this), (1, .int p0), (2, .int p1)]) dX4_write_108 (by decide) rfl ?_
            refine x_iload 1 dX4_write_110 rfl ?_
            refine x_iconst (-1) (by decide) dX4_write_112 ?_
            refine x_icmp_eq 133 dX4_write_113 (by decide) hF (fun hF => ?_) (fun hF => ?_)
            · refine x_aload_n 3 dX4_write_133 rfl rfl ?_
              refine x_iload_n 4 dX4_write_134 rfl rfl ?_
              obtain ⟨z54, hzz54, hF⟩ := x_bind hF
              obtain ⟨⟨fsz54, hbz54⟩, hzz54⟩ := x_cv_sp hzz54
              refine x_callv (As := [.int p0]) (rest := []) 0 0 dX4_write_135 mi_X4_addLeaf ml_X4_52 rfl rfl (Nat.le_of_ble_eq_true rfl) ⟨by decide, by decide⟩ (by omega) (by omega) hbz54 rfl (c_X4_addLeaf N _ _ _ _ _ hzz54) (x_K.none ?_) x_KX.none
              refine x_aload_n 3 dX4_write_138 rfl rfl ?_
              refine x_iload_n 4 dX4_write_139 rfl rfl ?_
              refine x_iload_n 5 dX4_write_140 rfl rfl ?_
              refine x_iconst 0 (by decide) dX4_write_141 ?_
              obtain ⟨z55, hzz55, hF⟩ := x_bind hF
              obtain ⟨⟨fsz55, hbz55⟩, hzz55⟩ := x_cv_sp hzz55
              refine x_callv (As := [.int p0, .int p1, .int 0]) (rest := []) 0 0 dX4_write_142 mi_X4_addEntry ml_X4_91 rfl rfl (Nat.le_of_ble_eq_true rfl) ⟨by decide, by decide⟩ (by omega) (by omega) hbz55 rfl (c_X4_addEntry N _ _ _ _ _ _ _ hzz55) (x_K.none ?_) x_KX.none
              refine x_iconst 3 (by decide) dX4_write_145 ?_
              exact x_iret dX4_write_146 rfl (by cases hF; rfl)
            · refine x_iload 0 dX4_write_116 rfl ?_
              refine x_if_eq 147 dX4_write_118 (by decide) hF (fun hF => ?_) (fun hF => ?_)
              · refine x_aload_n 3 dX4_write_147 rfl rfl ?_
                refine x_iload_n 4 dX4_write_148 rfl rfl ?_
                refine x_iload_n 5 dX4_write_149 rfl rfl ?_
                refine x_aload_n 3 dX4_write_150 rfl rfl ?_
                refine x_iload 1 dX4_write_151 rfl ?_
                obtain ⟨z56, hzz56, hF⟩ := x_bind hF
                obtain ⟨⟨fsz56, hbz56⟩, hzz56⟩ := x_cv_sp hzz56
                refine x_callv (As := [.int z7]) (rest := [.int p1, .int p0, .ref this]) 0 0 dX4_write_153 mi_X4_overflowCount ml_X4_64 rfl rfl (Nat.le_of_ble_eq_true rfl) ⟨by decide, by decide⟩ (by omega) (by omega) hbz56 rfl (c_X4_overflowCount N _ _ _ _ _ hzz56) (x_K.some ?_) x_KX.none
                refine x_iconst 1 (by decide) dX4_write_156 ?_
                refine x_iadd dX4_write_157 ?_
                obtain ⟨z57, hzz57, hF⟩ := x_bind hF
                obtain ⟨⟨fsz57, hbz57⟩, hzz57⟩ := x_cv_sp hzz57
                refine x_callv (As := [.int p0, .int p1, .int (z56 + 1)]) (rest := []) 0 0 dX4_write_158 mi_X4_addEntry ml_X4_91 rfl rfl (Nat.le_of_ble_eq_true rfl) ⟨by decide, by decide⟩ (by omega) (by omega) hbz57 rfl (c_X4_addEntry N _ _ _ _ _ _ _ hzz57) (x_K.none ?_) x_KX.none
                refine x_iconst 2 (by decide) dX4_write_161 ?_
                exact x_iret dX4_write_162 rfl (by cases hF; rfl)
              · refine x_aload_n 3 dX4_write_121 rfl rfl ?_
                refine x_geti_r dX4_write_122 fl_X4_39 hF (fun v58 hF => ?_)
                refine x_aload_n 3 dX4_write_125 rfl rfl ?_
                refine x_getr_r dX4_write_126 fl_X4_24 hF (fun v59 hF => ?_)
                refine x_nn hF (fun a60 ha60 hF => ?_)
                rw [ha60]
                refine x_alen_r dX4_write_129 hF (fun v61 hF => ?_)
                refine x_icmp_ge 147 dX4_write_130 (by decide) hF (fun hF => ?_) (fun hF => ?_)
                · refine x_aload_n 3 dX4_write_147 rfl rfl ?_
                  refine x_iload_n 4 dX4_write_148 rfl rfl ?_
                  refine x_iload_n 5 dX4_write_149 rfl rfl ?_
                  refine x_aload_n 3 dX4_write_150 rfl rfl ?_
                  refine x_iload 1 dX4_write_151 rfl ?_
                  obtain ⟨z62, hzz62, hF⟩ := x_bind hF
                  obtain ⟨⟨fsz62, hbz62⟩, hzz62⟩ := x_cv_sp hzz62
                  refine x_callv (As := [.int z7]) (rest := [.int p1, .int p0, .ref this]) 0 0 dX4_write_153 mi_X4_overflowCount ml_X4_64 rfl rfl (Nat.le_of_ble_eq_true rfl) ⟨by decide, by decide⟩ (by omega) (by omega) hbz62 rfl (c_X4_overflowCount N _ _ _ _ _ hzz62) (x_K.some ?_) x_KX.none
                  refine x_iconst 1 (by decide) dX4_write_156 ?_
                  refine x_iadd dX4_write_157 ?_
                  obtain ⟨z63, hzz63, hF⟩ := x_bind hF
                  obtain ⟨⟨fsz63, hbz63⟩, hzz63⟩ := x_cv_sp hzz63
                  refine x_callv (As := [.int p0, .int p1, .int (z62 + 1)]) (rest := []) 0 0 dX4_write_158 mi_X4_addEntry ml_X4_91 rfl rfl (Nat.le_of_ble_eq_true rfl) ⟨by decide, by decide⟩ (by omega) (by omega) hbz63 rfl (c_X4_addEntry N _ _ _ _ _ _ _ hzz63) (x_K.none ?_) x_KX.none
                  refine x_iconst 2 (by decide) dX4_write_161 ?_
                  exact x_iret dX4_write_162 rfl (by cases hF; rfl)
                · refine x_aload_n 3 dX4_write_133 rfl rfl ?_
                  refine x_iload_n 4 dX4_write_134 rfl rfl ?_
                  obtain ⟨z64, hzz64, hF⟩ := x_bind hF
                  obtain ⟨⟨fsz64, hbz64⟩, hzz64⟩ := x_cv_sp hzz64
                  refine x_callv (As := [.int p0]) (rest := []) 0 0 dX4_write_135 mi_X4_addLeaf ml_X4_52 rfl rfl (Nat.le_of_ble_eq_true rfl) ⟨by decide, by decide⟩ (by omega) (by omega) hbz64 rfl (c_X4_addLeaf N _ _ _ _ _ hzz64) (x_K.none ?_) x_KX.none
                  refine x_aload_n 3 dX4_write_138 rfl rfl ?_
                  refine x_iload_n 4 dX4_write_139 rfl rfl ?_
                  refine x_iload_n 5 dX4_write_140 rfl rfl ?_
                  refine x_iconst 0 (by decide) dX4_write_141 ?_
                  obtain ⟨z65, hzz65, hF⟩ := x_bind hF
                  obtain ⟨⟨fsz65, hbz65⟩, hzz65⟩ := x_cv_sp hzz65
                  refine x_callv (As := [.int p0, .int p1, .int 0]) (rest := []) 0 0 dX4_write_142 mi_X4_addEntry ml_X4_91 rfl rfl (Nat.le_of_ble_eq_true rfl) ⟨by decide, by decide⟩ (by omega) (by omega) hbz65 rfl (c_X4_addEntry N _ _ _ _ _ _ _ hzz65) (x_K.none ?_) x_KX.none
                  refine x_iconst 3 (by decide) dX4_write_145 ?_
                  exact x_iret dX4_write_146 rfl (by cases hF; rfl)
          · refine x_iload_n 3 dX4_write_83 rfl rfl ?_
            refine x_aload_n 2 dX4_write_84 rfl rfl ?_
            refine x_getr_r dX4_write_85 fl_X4_14 hF (fun v66 hF => ?_)
            refine x_aload_n 2 dX4_write_88 rfl rfl ?_
            refine x_getr_r dX4_write_89 fl_X4_14 hF (fun v67 hF => ?_)
            refine x_nn hF (fun a68 ha68 hF => ?_)
            rw [ha68]
            refine x_geti_r dX4_write_92 fl_X4_31 hF (fun v69 hF => ?_)
            refine x_iconst 1 (by decide) dX4_write_95 ?_
            refine x_isub dX4_write_96 ?_
            refine x_nn hF (fun a70 ha70 hF => ?_)
            rw [ha70]
            obtain ⟨z71, hzz71, hF⟩ := x_bind hF
            obtain ⟨⟨fsz71, hbz71⟩, hzz71⟩ := x_cv_sp hzz71
            refine x_callv (As := [.int (v69 - 1)]) (rest := [.int p0]) 0 0 dX4_write_97 mi_X2_keyOn ml_X4_48 rfl rfl (Nat.le_of_ble_eq_true rfl) ⟨by decide, by decide⟩ (by omega) (by omega) hbz71 rfl (c_X2_keyOn N _ _ _ _ _ hzz71) (x_K.some ?_) x_KX.none
            refine x_icmp_le 107 dX4_write_100 (by decide) hF (fun hF => ?_) (fun hF => ?_)
            · refine x_iconst 0 (by decide) dX4_write_107 ?_
              refine x_istore (i := 5) (lv' := [(5, .int 0), (4, .int z7), (3, .int z3), (0, .ref this), (1, .int p0), (2, .int p1)]) dX4_write_108 (by decide) rfl ?_
              refine x_iload 1 dX4_write_110 rfl ?_
              refine x_iconst (-1) (by decide) dX4_write_112 ?_
              refine x_icmp_eq 133 dX4_write_113 (by decide) hF (fun hF => ?_) (fun hF => ?_)
              · refine x_aload_n 3 dX4_write_133 rfl rfl ?_
                refine x_iload_n 4 dX4_write_134 rfl rfl ?_
                obtain ⟨z72, hzz72, hF⟩ := x_bind hF
                obtain ⟨⟨fsz72, hbz72⟩, hzz72⟩ := x_cv_sp hzz72
                refine x_callv (As := [.int p0]) (rest := []) 0 0 dX4_write_135 mi_X4_addLeaf ml_X4_52 rfl rfl (Nat.le_of_ble_eq_true rfl) ⟨by decide, by decide⟩ (by omega) (by omega) hbz72 rfl (c_X4_addLeaf N _ _ _ _ _ hzz72) (x_K.none ?_) x_KX.none
                refine x_aload_n 3 dX4_write_138 rfl rfl ?_
                refine x_iload_n 4 dX4_write_139 rfl rfl ?_
                refine x_iload_n 5 dX4_write_140 rfl rfl ?_
                refine x_iconst 0 (by decide) dX4_write_141 ?_
                obtain ⟨z73, hzz73, hF⟩ := x_bind hF
                obtain ⟨⟨fsz73, hbz73⟩, hzz73⟩ := x_cv_sp hzz73
                refine x_callv (As := [.int p0, .int p1, .int 0]) (rest := []) 0 0 dX4_write_142 mi_X4_addEntry ml_X4_91 rfl rfl (Nat.le_of_ble_eq_true rfl) ⟨by decide, by decide⟩ (by omega) (by omega) hbz73 rfl (c_X4_addEntry N _ _ _ _ _ _ _ hzz73) (x_K.none ?_) x_KX.none
                refine x_iconst 3 (by decide) dX4_write_145 ?_
                exact x_iret dX4_write_146 rfl (by cases hF; rfl)
              · refine x_iload 0 dX4_write_116 rfl ?_
                refine x_if_eq 147 dX4_write_118 (by decide) hF (fun hF => ?_) (fun hF => ?_)
                · refine x_aload_n 3 dX4_write_147 rfl rfl ?_
                  refine x_iload_n 4 dX4_write_148 rfl rfl ?_
                  refine x_iload_n 5 dX4_write_149 rfl rfl ?_
                  refine x_aload_n 3 dX4_write_150 rfl rfl ?_
                  refine x_iload 1 dX4_write_151 rfl ?_
                  obtain ⟨z74, hzz74, hF⟩ := x_bind hF
                  obtain ⟨⟨fsz74, hbz74⟩, hzz74⟩ := x_cv_sp hzz74
                  refine x_callv (As := [.int z7]) (rest := [.int p1, .int p0, .ref this]) 0 0 dX4_write_153 mi_X4_overflowCount ml_X4_64 rfl rfl (Nat.le_of_ble_eq_true rfl) ⟨by decide, by decide⟩ (by omega) (by omega) hbz74 rfl (c_X4_overflowCount N _ _ _ _ _ hzz74) (x_K.some ?_) x_KX.none
                  refine x_iconst 1 (by decide) dX4_write_156 ?_
                  refine x_iadd dX4_write_157 ?_
                  obtain ⟨z75, hzz75, hF⟩ := x_bind hF
                  obtain ⟨⟨fsz75, hbz75⟩, hzz75⟩ := x_cv_sp hzz75
                  refine x_callv (As := [.int p0, .int p1, .int (z74 + 1)]) (rest := []) 0 0 dX4_write_158 mi_X4_addEntry ml_X4_91 rfl rfl (Nat.le_of_ble_eq_true rfl) ⟨by decide, by decide⟩ (by omega) (by omega) hbz75 rfl (c_X4_addEntry N _ _ _ _ _ _ _ hzz75) (x_K.none ?_) x_KX.none
                  refine x_iconst 2 (by decide) dX4_write_161 ?_
                  exact x_iret dX4_write_162 rfl (by cases hF; rfl)
                · refine x_aload_n 3 dX4_write_121 rfl rfl ?_
                  refine x_geti_r dX4_write_122 fl_X4_39 hF (fun v76 hF => ?_)
                  refine x_aload_n 3 dX4_write_125 rfl rfl ?_
                  refine x_getr_r dX4_write_126 fl_X4_24 hF (fun v77 hF => ?_)
                  refine x_nn hF (fun a78 ha78 hF => ?_)
                  rw [ha78]
                  refine x_alen_r dX4_write_129 hF (fun v79 hF => ?_)
                  refine x_icmp_ge 147 dX4_write_130 (by decide) hF (fun hF => ?_) (fun hF => ?_)
                  · refine x_aload_n 3 dX4_write_147 rfl rfl ?_
                    refine x_iload_n 4 dX4_write_148 rfl rfl ?_
                    refine x_iload_n 5 dX4_write_149 rfl rfl ?_
                    refine x_aload_n 3 dX4_write_150 rfl rfl ?_
                    refine x_iload 1 dX4_write_151 rfl ?_
                    obtain ⟨z80, hzz80, hF⟩ := x_bind hF
                    obtain ⟨⟨fsz80, hbz80⟩, hzz80⟩ := x_cv_sp hzz80
                    refine x_callv (As := [.int z7]) (rest := [.int p1, .int p0, .ref this]) 0 0 dX4_write_153 mi_X4_overflowCount ml_X4_64 rfl rfl (Nat.le_of_ble_eq_true rfl) ⟨by decide, by decide⟩ (by omega) (by omega) hbz80 rfl (c_X4_overflowCount N _ _ _ _ _ hzz80) (x_K.some ?_) x_KX.none
                    refine x_iconst 1 (by decide) dX4_write_156 ?_
                    refine x_iadd dX4_write_157 ?_
                    obtain ⟨z81, hzz81, hF⟩ := x_bind hF
                    obtain ⟨⟨fsz81, hbz81⟩, hzz81⟩ := x_cv_sp hzz81
                    refine x_callv (As := [.int p0, .int p1, .int (z80 + 1)]) (rest := []) 0 0 dX4_write_158 mi_X4_addEntry ml_X4_91 rfl rfl (Nat.le_of_ble_eq_true rfl) ⟨by decide, by decide⟩ (by omega) (by omega) hbz81 rfl (c_X4_addEntry N _ _ _ _ _ _ _ hzz81) (x_K.none ?_) x_KX.none
                    refine x_iconst 2 (by decide) dX4_write_161 ?_
                    exact x_iret dX4_write_162 rfl (by cases hF; rfl)
                  · refine x_aload_n 3 dX4_write_133 rfl rfl ?_
                    refine x_iload_n 4 dX4_write_134 rfl rfl ?_
                    obtain ⟨z82, hzz82, hF⟩ := x_bind hF
                    obtain ⟨⟨fsz82, hbz82⟩, hzz82⟩ := x_cv_sp hzz82
                    refine x_callv (As := [.int p0]) (rest := []) 0 0 dX4_write_135 mi_X4_addLeaf ml_X4_52 rfl rfl (Nat.le_of_ble_eq_true rfl) ⟨by decide, by decide⟩ (by omega) (by omega) hbz82 rfl (c_X4_addLeaf N _ _ _ _ _ hzz82) (x_K.none ?_) x_KX.none
                    refine x_aload_n 3 dX4_write_138 rfl rfl ?_
                    refine x_iload_n 4 dX4_write_139 rfl rfl ?_
                    refine x_iload_n 5 dX4_write_140 rfl rfl ?_
                    refine x_iconst 0 (by decide) dX4_write_141 ?_
                    obtain ⟨z83, hzz83, hF⟩ := x_bind hF
                    obtain ⟨⟨fsz83, hbz83⟩, hzz83⟩ := x_cv_sp hzz83
                    refine x_callv (As := [.int p0, .int p1, .int 0]) (rest := []) 0 0 dX4_write_142 mi_X4_addEntry ml_X4_91 rfl rfl (Nat.le_of_ble_eq_true rfl) ⟨by decide, by decide⟩ (by omega) (by omega) hbz83 rfl (c_X4_addEntry N _ _ _ _ _ _ _ hzz83) (x_K.none ?_) x_KX.none
                    refine x_iconst 3 (by decide) dX4_write_145 ?_
                    exact x_iret dX4_write_146 rfl (by cases hF; rfl)
            · refine x_iconst 1 (by decide) dX4_write_103 ?_
              refine x_goto 108 dX4_write_104 (by decide) ?_
              refine x_istore (i := 5) (lv' := [(5, .int 1), (4, .int z7), (3, .int z3), (0, .ref this), (1, .int p0), (2, .int p1)]) dX4_write_108 (by decide) rfl ?_
              refine x_iload 1 dX4_write_110 rfl ?_
              refine x_iconst (-1) (by decide) dX4_write_112 ?_
              refine x_icmp_eq 133 dX4_write_113 (by decide) hF (fun hF => ?_) (fun hF => ?_)
              · refine x_aload_n 3 dX4_write_133 rfl rfl ?_
                refine x_iload_n 4 dX4_write_134 rfl rfl ?_
                obtain ⟨z84, hzz84, hF⟩ := x_bind hF
                obtain ⟨⟨fsz84, hbz84⟩, hzz84⟩ := x_cv_sp hzz84
                refine x_callv (As := [.int p0]) (rest := []) 0 0 dX4_write_135 mi_X4_addLeaf ml_X4_52 rfl rfl (Nat.le_of_ble_eq_true rfl) ⟨by decide, by decide⟩ (by omega) (by omega) hbz84 rfl (c_X4_addLeaf N _ _ _ _ _ hzz84) (x_K.none ?_) x_KX.none
                refine x_aload_n 3 dX4_write_138 rfl rfl ?_
                refine x_iload_n 4 dX4_write_139 rfl rfl ?_
                refine x_iload_n 5 dX4_write_140 rfl rfl ?_
                refine x_iconst 0 (by decide) dX4_write_141 ?_
                obtain ⟨z85, hzz85, hF⟩ := x_bind hF
                obtain ⟨⟨fsz85, hbz85⟩, hzz85⟩ := x_cv_sp hzz85
                refine x_callv (As := [.int p0, .int p1, .int 0]) (rest := []) 0 0 dX4_write_142 mi_X4_addEntry ml_X4_91 rfl rfl (Nat.le_of_ble_eq_true rfl) ⟨by decide, by decide⟩ (by omega) (by omega) hbz85 rfl (c_X4_addEntry N _ _ _ _ _ _ _ hzz85) (x_K.none ?_) x_KX.none
                refine x_iconst 3 (by decide) dX4_write_145 ?_
                exact x_iret dX4_write_146 rfl (by cases hF; rfl)
              · refine x_iload 0 dX4_write_116 rfl ?_
                refine x_if_eq 147 dX4_write_118 (by decide) hF (fun hF => ?_) (fun hF => ?_)
                · refine x_aload_n 3 dX4_write_147 rfl rfl ?_
                  refine x_iload_n 4 dX4_write_148 rfl rfl ?_
                  refine x_iload_n 5 dX4_write_149 rfl rfl ?_
                  refine x_aload_n 3 dX4_write_150 rfl rfl ?_
                  refine x_iload 1 dX4_write_151 rfl ?_
                  obtain ⟨z86, hzz86, hF⟩ := x_bind hF
                  obtain ⟨⟨fsz86, hbz86⟩, hzz86⟩ := x_cv_sp hzz86
                  refine x_callv (As := [.int z7]) (rest := [.int p1, .int p0, .ref this]) 0 0 dX4_write_153 mi_X4_overflowCount ml_X4_64 rfl rfl (Nat.le_of_ble_eq_true rfl) ⟨by decide, by decide⟩ (by omega) (by omega) hbz86 rfl (c_X4_overflowCount N _ _ _ _ _ hzz86) (x_K.some ?_) x_KX.none
                  refine x_iconst 1 (by decide) dX4_write_156 ?_
                  refine x_iadd dX4_write_157 ?_
                  obtain ⟨z87, hzz87, hF⟩ := x_bind hF
                  obtain ⟨⟨fsz87, hbz87⟩, hzz87⟩ := x_cv_sp hzz87
                  refine x_callv (As := [.int p0, .int p1, .int (z86 + 1)]) (rest := []) 0 0 dX4_write_158 mi_X4_addEntry ml_X4_91 rfl rfl (Nat.le_of_ble_eq_true rfl) ⟨by decide, by decide⟩ (by omega) (by omega) hbz87 rfl (c_X4_addEntry N _ _ _ _ _ _ _ hzz87) (x_K.none ?_) x_KX.none
                  refine x_iconst 2 (by decide) dX4_write_161 ?_
                  exact x_iret dX4_write_162 rfl (by cases hF; rfl)
                · refine x_aload_n 3 dX4_write_121 rfl rfl ?_
                  refine x_geti_r dX4_write_122 fl_X4_39 hF (fun v88 hF => ?_)
                  refine x_aload_n 3 dX4_write_125 rfl rfl ?_
                  refine x_getr_r dX4_write_126 fl_X4_24 hF (fun v89 hF => ?_)
                  refine x_nn hF (fun a90 ha90 hF => ?_)
                  rw [ha90]
                  refine x_alen_r dX4_write_129 hF (fun v91 hF => ?_)
                  refine x_icmp_ge 147 dX4_write_130 (by decide) hF (fun hF => ?_) (fun hF => ?_)
                  · refine x_aload_n 3 dX4_write_147 rfl rfl ?_
                    refine x_iload_n 4 dX4_write_148 rfl rfl ?_
                    refine x_iload_n 5 dX4_write_149 rfl rfl ?_
                    refine x_aload_n 3 dX4_write_150 rfl rfl ?_
                    refine x_iload 1 dX4_write_151 rfl ?_
                    obtain ⟨z92, hzz92, hF⟩ := x_bind hF
                    obtain ⟨⟨fsz92, hbz92⟩, hzz92⟩ := x_cv_sp hzz92
                    refine x_callv (As := [.int z7]) (rest := [.int p1, .int p0, .ref this]) 0 0 dX4_write_153 mi_X4_overflowCount ml_X4_64 rfl rfl (Nat.le_of_ble_eq_true rfl) ⟨by decide, by decide⟩ (by omega) (by omega) hbz92 rfl (c_X4_overflowCount N _ _ _ _ _ hzz92) (x_K.some ?_) x_KX.none
                    refine x_iconst 1 (by decide) dX4_write_156 ?_
                    refine x_iadd dX4_write_157 ?_
                    obtain ⟨z93, hzz93, hF⟩ := x_bind hF
                    obtain ⟨⟨fsz93, hbz93⟩, hzz93⟩ := x_cv_sp hzz93
                    refine x_callv (As := [.int p0, .int p1, .int (z92 + 1)]) (rest := []) 0 0 dX4_write_158 mi_X4_addEntry ml_X4_91 rfl rfl (Nat.le_of_ble_eq_true rfl) ⟨by decide, by decide⟩ (by omega) (by omega) hbz93 rfl (c_X4_addEntry N _ _ _ _ _ _ _ hzz93) (x_K.none ?_) x_KX.none
                    refine x_iconst 2 (by decide) dX4_write_161 ?_
                    exact x_iret dX4_write_162 rfl (by cases hF; rfl)
                  · refine x_aload_n 3 dX4_write_133 rfl rfl ?_
                    refine x_iload_n 4 dX4_write_134 rfl rfl ?_
                    obtain ⟨z94, hzz94, hF⟩ := x_bind hF
                    obtain ⟨⟨fsz94, hbz94⟩, hzz94⟩ := x_cv_sp hzz94
                    refine x_callv (As := [.int p0]) (rest := []) 0 0 dX4_write_135 mi_X4_addLeaf ml_X4_52 rfl rfl (Nat.le_of_ble_eq_true rfl) ⟨by decide, by decide⟩ (by omega) (by omega) hbz94 rfl (c_X4_addLeaf N _ _ _ _ _ hzz94) (x_K.none ?_) x_KX.none
                    refine x_aload_n 3 dX4_write_138 rfl rfl ?_
                    refine x_iload_n 4 dX4_write_139 rfl rfl ?_
                    refine x_iload_n 5 dX4_write_140 rfl rfl ?_
                    refine x_iconst 0 (by decide) dX4_write_141 ?_
                    obtain ⟨z95, hzz95, hF⟩ := x_bind hF
                    obtain ⟨⟨fsz95, hbz95⟩, hzz95⟩ := x_cv_sp hzz95
                    refine x_callv (As := [.int p0, .int p1, .int 0]) (rest := []) 0 0 dX4_write_142 mi_X4_addEntry ml_X4_91 rfl rfl (Nat.le_of_ble_eq_true rfl) ⟨by decide, by decide⟩ (by omega) (by omega) hbz95 rfl (c_X4_addEntry N _ _ _ _ _ _ _ hzz95) (x_K.none ?_) x_KX.none
                    refine x_iconst 3 (by decide) dX4_write_145 ?_
                    exact x_iret dX4_write_146 rfl (by cases hF; rfl)
        · refine x_aload_n 2 dX4_write_63 rfl rfl ?_
          refine x_iload_n 3 dX4_write_64 rfl rfl ?_
          refine x_iload_n 4 dX4_write_65 rfl rfl ?_
          refine x_iconst 0 (by decide) dX4_write_66 ?_
          obtain ⟨z96, hzz96, hF⟩ := x_bind hF
          obtain ⟨⟨fsz96, hbz96⟩, hzz96⟩ := x_cv_sp hzz96
          refine x_callv (As := [.int p0, .int p1, .int 0]) (rest := []) 0 0 dX4_write_67 mi_X4_addEntry ml_X4_91 rfl rfl (Nat.le_of_ble_eq_true rfl) ⟨by decide, by decide⟩ (by omega) (by omega) hbz96 rfl (c_X4_addEntry N _ _ _ _ _ _ _ hzz96) (x_K.none ?_) x_KX.none
          refine x_iconst 1 (by decide) dX4_write_70 ?_
          exact x_iret dX4_write_71 rfl (by cases hF; rfl)
    · refine x_iconst (-1) (by decide) dX4_write_35 ?_
      exact x_iret dX4_write_36 rfl (by cases hF; rfl)
  · refine x_aload_n 1 dX4_write_14 rfl rfl ?_
    refine x_getr_r dX4_write_15 fl_X4_14 hF (fun v97 hF => ?_)
    refine x_iload_n 0 dX4_write_18 rfl rfl ?_
    refine x_iload_n 3 dX4_write_19 rfl rfl ?_
    refine x_nn hF (fun a98 ha98 hF => ?_)
    rw [ha98]
    obtain ⟨z99, hzz99, hF⟩ := x_bind hF
    obtain ⟨⟨fsz99, hbz99⟩, hzz99⟩ := x_cv_sp hzz99
    refine x_callv (As := [.int z3, .int p1]) (rest := []) 0 0 dX4_write_20 mi_X2_setValue ml_X4_77 rfl rfl (Nat.le_of_ble_eq_true rfl) ⟨by decide, by decide⟩ (by omega) (by omega) hbz99 rfl (c_X2_setValue N _ _ _ _ _ _ hzz99) (x_K.none ?_) x_KX.none
    refine x_iconst 0 (by decide) dX4_write_23 ?_
    exact x_iret dX4_write_24 rfl (by cases hF; rfl)
def F_X3_writeEntry (N : Nat) (f : XM) (this : Nat) (p0 : Int32) (p1 : Int32) : Option (Int32 × XM) :=
  (x_cv f 3 this (F_X3_runTelling N f this p0)).bind fun z1 =>
  if z1 = (-1) then
    (x_getr f 3 this 3).bind fun v2 =>
    Option.bind v2 fun a3 =>
    (x_geti f 4 a3 4).bind fun v4 =>
    if v4 = 0 then
      (x_getr f 3 this 3).bind fun v8 =>
      (x_geti f 3 this 4).bind fun v9 =>
      Option.bind v8 fun a10 =>
      (x_puti f 4 a10 4 v9).bind fun f11 =>
      (x_getr f11 3 this 3).bind fun v12 =>
      (x_geti f11 3 this 5).bind fun v13 =>
      Option.bind v12 fun a14 =>
      (x_puti f11 4 a14 5 v13).bind fun f15 =>
      (x_getr f15 3 this 3).bind fun v16 =>
      Option.bind v16 fun a17 =>
      (x_cv f15 4 a17 (F_X4_write N f15 a17 p0 p1)).bind fun z18 =>
      some (z18.1, z18.2)
    else
      (x_getr f 3 this 3).bind fun v5 =>
      Option.bind v5 fun a6 =>
      (x_cv f 4 a6 (F_X4_write N f a6 p0 p1)).bind fun z7 =>
      some (z7.1, z7.2)
  else
    some ((-1), f)
set_option maxRecDepth 20000 in
set_option maxHeartbeats 4000000 in
theorem c_X3_writeEntry (N : Nat) (f : XM) (this : Nat) (p0 : Int32) (p1 : Int32) (n : Nat) (r : (Int32 × XM)) (hF : F_X3_writeEntry N f this p0 p1 = some r) : x_Ct mX3_writeEntry 3 75 0 0 [.ref this, .int p0, .int p1] (f, n) (xr_im r n) := by
  unfold F_X3_writeEntry at hF
  refine x_ct (by decide) rfl (Nat.le_of_ble_eq_true rfl) ?_
  show X mX3_writeEntry 3 75 _ _ 0 0 0 [(0, .ref this), (1, .int p0), (2, .int p1)] [] (f, n)
  refine x_aload_n 0 dX3_writeEntry_0 rfl rfl ?_
  refine x_iload_n 1 dX3_writeEntry_1 rfl rfl ?_
  obtain ⟨z1, hzz1, hF⟩ := x_bind hF
  obtain ⟨⟨fsz1, hbz1⟩, hzz1⟩ := x_cv_sp hzz1
  refine x_callv (As := [.int p0]) (rest := []) 0 0 dX3_writeEntry_2 mi_X3_runTelling ml_X3_105 rfl rfl (Nat.le_of_ble_eq_true rfl) ⟨by decide, by decide⟩ (by omega) (by omega) hbz1 rfl (c_X3_runTelling N _ _ _ _ _ hzz1) (x_K.some ?_) x_KX.none
  refine x_iconst (-1) (by decide) dX3_writeEntry_5 ?_
  refine x_icmp_eq 11 dX3_writeEntry_6 (by decide) hF (fun hF => ?_) (fun hF => ?_)
  · refine x_aload_n 0 dX3_writeEntry_11 rfl rfl ?_
    refine x_getr_r dX3_writeEntry_12 fl_X3_27 hF (fun v2 hF => ?_)
    refine x_nn hF (fun a3 ha3 hF => ?_)
    rw [ha3]
    refine x_geti_r dX3_writeEntry_15 fl_X3_100 hF (fun v4 hF => ?_)
    refine x_if_ne 43 dX3_writeEntry_18 (by decide) hF (fun hF => ?_) (fun hF => ?_)
    · refine x_aload_n 0 dX3_writeEntry_43 rfl rfl ?_
      refine x_getr_r dX3_writeEntry_44 fl_X3_27 hF (fun v5 hF => ?_)
      refine x_iload_n 1 dX3_writeEntry_47 rfl rfl ?_
      refine x_iload_n 2 dX3_writeEntry_48 rfl rfl ?_
      refine x_nn hF (fun a6 ha6 hF => ?_)
      rw [ha6]
      obtain ⟨z7, hzz7, hF⟩ := x_bind hF
      obtain ⟨⟨fsz7, hbz7⟩, hzz7⟩ := x_cv_sp hzz7
      refine x_callv (As := [.int p0, .int p1]) (rest := []) 0 0 dX3_writeEntry_49 mi_X4_write ml_X3_108 rfl rfl (Nat.le_of_ble_eq_true rfl) ⟨by decide, by decide⟩ (by omega) (by omega) hbz7 rfl (c_X4_write N _ _ _ _ _ _ hzz7) (x_K.some ?_) x_KX.none
      exact x_iret dX3_writeEntry_52 rfl (by cases hF; rfl)
    · refine x_aload_n 0 dX3_writeEntry_21 rfl rfl ?_
      refine x_getr_r dX3_writeEntry_22 fl_X3_27 hF (fun v8 hF => ?_)
      refine x_aload_n 0 dX3_writeEntry_25 rfl rfl ?_
      refine x_geti_r dX3_writeEntry_26 fl_X3_31 hF (fun v9 hF => ?_)
      refine x_nn hF (fun a10 ha10 hF => ?_)
      rw [ha10]
      refine x_puti_r dX3_writeEntry_29 fl_X3_100 (fun h9 => by cases h9) hF (fun f11 hF => ?_)
      refine x_aload_n 0 dX3_writeEntry_32 rfl rfl ?_
      refine x_getr_r dX3_writeEntry_33 fl_X3_27 hF (fun v12 hF => ?_)
      refine x_aload_n 0 dX3_writeEntry_36 rfl rfl ?_
      refine x_geti_r dX3_writeEntry_37 fl_X3_35 hF (fun v13 hF => ?_)
      refine x_nn hF (fun a14 ha14 hF => ?_)
      rw [ha14]
      refine x_puti_r dX3_writeEntry_40 fl_X3_101 (fun h9 => by cases h9) hF (fun f15 hF => ?_)
      refine x_aload_n 0 dX3_writeEntry_43 rfl rfl ?_
      refine x_getr_r dX3_writeEntry_44 fl_X3_27 hF (fun v16 hF => ?_)
      refine x_iload_n 1 dX3_writeEntry_47 rfl rfl ?_
      refine x_iload_n 2 dX3_writeEntry_48 rfl rfl ?_
      refine x_nn hF (fun a17 ha17 hF => ?_)
      rw [ha17]
      obtain ⟨z18, hzz18, hF⟩ := x_bind hF
      obtain ⟨⟨fsz18, hbz18⟩, hzz18⟩ := x_cv_sp hzz18
      refine x_callv (As := [.int p0, .int p1]) (rest := []) 0 0 dX3_writeEntry_49 mi_X4_write ml_X3_108 rfl rfl (Nat.le_of_ble_eq_true rfl) ⟨by decide, by decide⟩ (by omega) (by omega) hbz18 rfl (c_X4_write N _ _ _ _ _ _ hzz18) (x_K.some ?_) x_KX.none
      exact x_iret dX3_writeEntry_52 rfl (by cases hF; rfl)
  · refine x_iconst (-1) (by decide) dX3_writeEntry_9 ?_
    exact x_iret dX3_writeEntry_10 rfl (by cases hF; rfl)
def F_X3_standsByGoing_L18 (N : Nat) (f : XM) (c0 : Nat) (c1 : Int32) (K : Bool → Int32 → Option Bool) : Nat → Bool → Int32 → Option Bool
  | 0, _, _ => none
  | k + 1, x2, x3 =>
    if x3 < 0 then
      K x2 x3
    else
      (x_cv f 3 c0 (F_X3_runOn N f c0 x3)).bind fun z8 =>
      Option.elim z8
        (F_X3_standsByGoing_L18 N f c0 c1 K k x2 (x3 + (-1)))
        (fun a9 => (x_cv f 2 a9 (F_X2_standsAfter N f a9 c1 x2)).bind fun z10 =>
        F_X3_standsByGoing_L18 N f c0 c1 K k z10 (x3 + (-1)))
def F_X3_standsByGoing (N : Nat) (f : XM) (this : Nat) (p0 : Int32) : Option Bool :=
  (x_getr f 3 this 3).bind fun v1 =>
  Option.bind v1 fun a2 =>
  (x_getr f 4 a2 0).bind fun v3 =>
  Option.bind v3 fun a4 =>
  (x_cv f 2 a4 (F_X2_standsAfter N f a4 p0 false)).bind fun z5 =>
  (x_geti f 3 this 2).bind fun v6 =>
  F_X3_standsByGoing_L18 N f this p0 (fun y2_11 y3_11 =>
  some y2_11) N z5 v6
set_option maxRecDepth 20000 in
set_option maxHeartbeats 4000000 in
theorem w_X3_standsByGoing_L18 (N : Nat) (f : XM) (c0 : Nat) (c1 : Int32) (K : Bool → Int32 → Option Bool) (n : Nat) (r : Bool) {rc rs : Nat} : ∀ (k : Nat) (x2 : Bool) (x3 : Int32), F_X3_standsByGoing_L18 N f c0 c1 K k x2 x3 = some r → (∀ (x2 : Bool) (x3 : Int32), K x2 x3 = some r → X mX3_standsByGoing 2 45 (x_end (xr_zp r (f, n))) x_noRO rc rs 48 [(0, .ref c0), (1, .int c1), (2, .int (x_b x2)), (3, .int x3)] [] (f, n)) → X mX3_standsByGoing 2 45 (x_end (xr_zp r (f, n))) x_noRO rc rs 18 [(0, .ref c0), (1, .int c1), (2, .int (x_b x2)), (3, .int x3)] [] (f, n) := by
  intro k
  induction k with
  | zero =>
    intro x2 x3 hF
    exact absurd hF (by intro h9; cases h9)
  | succ k ih =>
    intro x2 x3 hF hK
    have ih := fun x2 x3 hF => ih x2 x3 hF hK
    rw [F_X3_standsByGoing_L18] at hF
    refine x_iload_n 3 dX3_standsByGoing_18 rfl rfl ?_
    refine x_if_lt 48 dX3_standsByGoing_19 (by decide) hF (fun hF => ?_) (fun hF => ?_)
    · refine x_sub [0, 1, 2, 3] rfl ?_
      exact hK _ _ hF
    · refine x_aload_n 0 dX3_standsByGoing_22 rfl rfl ?_
      refine x_iload_n 3 dX3_standsByGoing_23 rfl rfl ?_
      obtain ⟨z8, hzz8, hF⟩ := x_bind hF
      obtain ⟨⟨fsz8, hbz8⟩, hzz8⟩ := x_cv_sp hzz8
      refine x_callv (As := [.int x3]) (rest := []) (rc + 0) (rs + 0) dX3_standsByGoing_24 mi_X3_runOn ml_X3_115 rfl rfl (Nat.le_of_ble_eq_true rfl) ⟨by decide, by decide⟩ (by omega) (by omega) hbz8 rfl (c_X3_runOn N _ _ _ _ _ hzz8) (x_K.some ?_) x_KX.none
      refine x_astoreq (i := 4) (lv' := [(4, va_rf z8), (0, .ref c0), (1, .int c1), (2, .int (x_b x2)), (3, .int x3)]) dX3_standsByGoing_27 (by decide) rfl ?_
      refine x_aloadq 0 dX3_standsByGoing_29 rfl ?_
      refine x_ifnull 42 dX3_standsByGoing_31 (by decide) hF (fun _ hF => ?_) (fun a9 ha9 hF => ?_)
      · refine x_iinc (x3 + (-1)) (lv' := [(3, .int (x3 + (-1))), (4, va_rf z8), (0, .ref c0), (1, .int c1), (2, .int (x_b x2))]) dX3_standsByGoing_42 4 rfl (by rfl) (by decide) rfl ?_
        refine x_goto 18 dX3_standsByGoing_45 (by decide) ?_
        refine x_sub [2, 3, 4, 0] rfl ?_
        exact ih _ _ hF
      · (try rw [ha9])
        refine x_aload 0 dX3_standsByGoing_34 rfl ?_
        refine x_iload_n 2 dX3_standsByGoing_36 rfl rfl ?_
        refine x_iload_n 3 dX3_standsByGoing_37 rfl rfl ?_
        obtain ⟨z10, hzz10, hF⟩ := x_bind hF
        obtain ⟨⟨fsz10, hbz10⟩, hzz10⟩ := x_cv_sp hzz10
        refine x_callv (As := [.int c1, .int (x_b x2)]) (rest := []) (rc + 0) (rs + 0) dX3_standsByGoing_38 mi_X2_standsAfter ml_X3_124 rfl rfl (Nat.le_of_ble_eq_true rfl) ⟨by decide, by decide⟩ (by omega) (by omega) hbz10 rfl (c_X2_standsAfter N _ _ _ _ _ _ hzz10) (x_K.some ?_) x_KX.none
        refine x_istore_n (i := 2) (lv' := [(2, .int (x_b z10)), (4, .ref a9), (0, .ref c0), (1, .int c1), (3, .int x3)]) dX3_standsByGoing_41 rfl (by decide) rfl ?_
        refine x_iinc (x3 + (-1)) (lv' := [(3, .int (x3 + (-1))), (2, .int (x_b z10)), (4, .ref a9), (0, .ref c0), (1, .int c1)]) dX3_standsByGoing_42 4 rfl (by rfl) (by decide) rfl ?_
        refine x_goto 18 dX3_standsByGoing_45 (by decide) ?_
        refine x_sub [3, 4, 1, 0] rfl ?_
        exact ih _ _ hF
set_option maxRecDepth 20000 in
set_option maxHeartbeats 4000000 in
theorem c_X3_standsByGoing (N : Nat) (f : XM) (this : Nat) (p0 : Int32) (n : Nat) (r : Bool) (hF : F_X3_standsByGoing N f this p0 = some r) : x_Ct mX3_standsByGoing 2 45 0 0 [.ref this, .int p0] (f, n) (xr_zp r (f, n)) := by
  unfold F_X3_standsByGoing at hF
  refine x_ct (by decide) rfl (Nat.le_of_ble_eq_true rfl) ?_
  show X mX3_standsByGoing 2 45 _ _ 0 0 0 [(0, .ref this), (1, .int p0)] [] (f, n)
  refine x_aload_n 0 dX3_standsByGoing_0 rfl rfl ?_
  refine x_getr_r dX3_standsByGoing_1 fl_X3_27 hF (fun v1 hF => ?_)
  refine x_nn hF (fun a2 ha2 hF => ?_)
  rw [ha2]
  refine x_getr_r dX3_standsByGoing_4 fl_X3_118 hF (fun v3 hF => ?_)
  refine x_iload_n 1 dX3_standsByGoing_7 rfl rfl ?_
  refine x_iconst 0 (by decide) dX3_standsByGoing_8 ?_
  refine x_nn hF (fun a4 ha4 hF => ?_)
  rw [ha4]
  obtain ⟨z5, hzz5, hF⟩ := x_bind hF
  obtain ⟨⟨fsz5, hbz5⟩, hzz5⟩ := x_cv_sp hzz5
  refine x_callv (As := [.int p0, .int (x_b false)]) (rest := []) 0 0 dX3_standsByGoing_9 mi_X2_standsAfter ml_X3_124 rfl rfl (Nat.le_of_ble_eq_true rfl) ⟨by decide, by decide⟩ (by omega) (by omega) hbz5 rfl (c_X2_standsAfter N _ _ _ _ _ _ hzz5) (x_K.some ?_) x_KX.none
  refine x_istore_n (i := 2) (lv' := [(2, .int (x_b z5)), (0, .ref this), (1, .int p0)]) dX3_standsByGoing_12 rfl (by decide) rfl ?_
  refine x_aload_n 1 dX3_standsByGoing_13 rfl rfl ?_
  refine x_geti_r dX3_standsByGoing_14 fl_X3_42 hF (fun v6 hF => ?_)
  refine x_istore_n (i := 3) (lv' := [(3, .int v6), (2, .int (x_b z5)), (0, .ref this), (1, .int p0)]) dX3_standsByGoing_17 rfl (by decide) rfl ?_
  refine x_sub [2, 3, 1, 0] rfl ?_
  refine w_X3_standsByGoing_L18 N _ _ _ _ _ r _ _ _ hF (fun y2_11 y3_11 hF => ?_)
  refine x_iload_n 2 dX3_standsByGoing_48 rfl rfl ?_
  exact x_zret dX3_standsByGoing_49 rfl (x_b_01 y2_11) (by cases hF; rfl)
def F_X3_standingValue (N : Nat) (f : XM) (this : Nat) (p0 : Int32) : Option Int32 :=
  (x_cv f 3 this (F_X3_runTelling N f this p0)).bind fun z1 =>
  (x_cv f 3 this (F_X3_runOn N f this z1)).bind fun z2 =>
  Option.elim z2
    ((x_getr f 3 this 3).bind fun v4 =>
    Option.bind v4 fun a5 =>
    (x_getr f 4 a5 0).bind fun v6 =>
    Option.bind v6 fun a7 =>
    (x_cv f 2 a7 (F_X2_placeOf N f a7 p0)).bind fun z8 =>
    (x_cv f 2 a7 (F_X2_valueOn N f a7 z8)).bind fun z9 =>
    some z9)
    (fun a3 => (x_cv f 2 a3 (F_X2_placeOf N f a3 p0)).bind fun z10 =>
    (x_cv f 2 a3 (F_X2_valueOn N f a3 z10)).bind fun z11 =>
    some z11)
set_option maxRecDepth 20000 in
set_option maxHeartbeats 4000000 in
theorem c_X3_standingValue (N : Nat) (f : XM) (this : Nat) (p0 : Int32) (n : Nat) (r : Int32) (hF : F_X3_standingValue N f this p0 = some r) : x_Ct mX3_standingValue 3 70 0 0 [.ref this, .int p0] (f, n) (xr_ip r (f, n)) := by
  unfold F_X3_standingValue at hF
  refine x_ct (by decide) rfl (Nat.le_of_ble_eq_true rfl) ?_
  show X mX3_standingValue 3 70 _ _ 0 0 0 [(0, .ref this), (1, .int p0)] [] (f, n)
  refine x_aload_n 0 dX3_standingValue_0 rfl rfl ?_
  refine x_aload_n 0 dX3_standingValue_1 rfl rfl ?_
  refine x_iload_n 1 dX3_standingValue_2 rfl rfl ?_
  obtain ⟨z1, hzz1, hF⟩ := x_bind hF
  obtain ⟨⟨fsz1, hbz1⟩, hzz1⟩ := x_cv_sp hzz1
  refine x_callv (As := [.int p0]) (rest := [.ref this]) 0 0 dX3_standingValue_3 mi_X3_runTelling ml_X3_105 rfl rfl (Nat.le_of_ble_eq_true rfl) ⟨by decide, by decide⟩ (by omega) (by omega) hbz1 rfl (c_X3_runTelling N _ _ _ _ _ hzz1) (x_K.some ?_) x_KX.none
  obtain ⟨z2, hzz2, hF⟩ := x_bind hF
  obtain ⟨⟨fsz2, hbz2⟩, hzz2⟩ := x_cv_sp hzz2
  refine x_callv (As := [.int z1]) (rest := []) 0 0 dX3_standingValue_6 mi_X3_runOn ml_X3_115 rfl rfl (Nat.le_of_ble_eq_true rfl) ⟨by decide, by decide⟩ (by omega) (by omega) hbz2 rfl (c_X3_runOn N _ _ _ _ _ hzz2) (x_K.some ?_) x_KX.none
  refine x_astore_nq (i := 2) (lv' := [(2, va_rf z2), (0, .ref this), (1, .int p0)]) dX3_standingValue_9 rfl (by decide) rfl ?_
  refine x_aload_nq 0 dX3_standingValue_10 rfl rfl ?_
  refine x_ifnonnull 24 dX3_standingValue_11 (by decide) hF (fun _ hF => ?_) (fun a3 ha3 hF => ?_)
  · refine x_aload_n 1 dX3_standingValue_14 rfl rfl ?_
    refine x_getr_r dX3_standingValue_15 fl_X3_27 hF (fun v4 hF => ?_)
    refine x_nn hF (fun a5 ha5 hF => ?_)
    rw [ha5]
    refine x_getr_r dX3_standingValue_18 fl_X3_118 hF (fun v6 hF => ?_)
    refine x_goto 25 dX3_standingValue_21 (by decide) ?_
    refine x_astore_nq (i := 3) (lv' := [(3, va_rf v6), (2, va_rf z2), (0, .ref this), (1, .int p0)]) dX3_standingValue_25 rfl (by decide) (by simp [x_rfc, List.filter]) ?_
    refine x_aload_nq 0 dX3_standingValue_26 rfl rfl ?_
    refine x_aload_nq 0 dX3_standingValue_27 rfl rfl ?_
    refine x_iload_n 3 dX3_standingValue_28 rfl rfl ?_
    refine x_nn hF (fun a7 ha7 hF => ?_)
    rw [ha7]
    obtain ⟨z8, hzz8, hF⟩ := x_bind hF
    obtain ⟨⟨fsz8, hbz8⟩, hzz8⟩ := x_cv_sp hzz8
    refine x_callv (As := [.int p0]) (rest := [.ref a7]) 0 0 dX3_standingValue_29 mi_X2_placeOf ml_X3_58 rfl rfl (Nat.le_of_ble_eq_true rfl) ⟨by decide, by decide⟩ (by omega) (by omega) hbz8 rfl (c_X2_placeOf N _ _ _ _ _ hzz8) (x_K.some ?_) x_KX.none
    obtain ⟨z9, hzz9, hF⟩ := x_bind hF
    obtain ⟨⟨fsz9, hbz9⟩, hzz9⟩ := x_cv_sp hzz9
    refine x_callv (As := [.int z8]) (rest := []) 0 0 dX3_standingValue_32 mi_X2_valueOn ml_X3_121 rfl rfl (Nat.le_of_ble_eq_true rfl) ⟨by decide, by decide⟩ (by omega) (by omega) hbz9 rfl (c_X2_valueOn N _ _ _ _ _ hzz9) (x_K.some ?_) x_KX.none
    exact x_iret dX3_standingValue_35 rfl (by cases hF; rfl)
  · (try rw [ha3])
    refine x_aload_n 0 dX3_standingValue_24 rfl rfl ?_
    refine x_astore_n (i := 3) (lv' := [(3, .ref a3), (2, .ref a3), (0, .ref this), (1, .int p0)]) dX3_standingValue_25 rfl (by decide) rfl ?_
    refine x_aload_n 0 dX3_standingValue_26 rfl rfl ?_
    refine x_aload_n 0 dX3_standingValue_27 rfl rfl ?_
    refine x_iload_n 3 dX3_standingValue_28 rfl rfl ?_
    obtain ⟨z10, hzz10, hF⟩ := x_bind hF
    obtain ⟨⟨fsz10, hbz10⟩, hzz10⟩ := x_cv_sp hzz10
    refine x_callv (As := [.int p0]) (rest := [.ref a3]) 0 0 dX3_standingValue_29 mi_X2_placeOf ml_X3_58 rfl rfl (Nat.le_of_ble_eq_true rfl) ⟨by decide, by decide⟩ (by omega) (by omega) hbz10 rfl (c_X2_placeOf N _ _ _ _ _ hzz10) (x_K.some ?_) x_KX.none
    obtain ⟨z11, hzz11, hF⟩ := x_bind hF
    obtain ⟨⟨fsz11, hbz11⟩, hzz11⟩ := x_cv_sp hzz11
    refine x_callv (As := [.int z10]) (rest := []) 0 0 dX3_standingValue_32 mi_X2_valueOn ml_X3_121 rfl rfl (Nat.le_of_ble_eq_true rfl) ⟨by decide, by decide⟩ (by omega) (by omega) hbz11 rfl (c_X2_valueOn N _ _ _ _ _ hzz11) (x_K.some ?_) x_KX.none
    exact x_iret dX3_standingValue_35 rfl (by cases hF; rfl)
def F_X4_ownEntry_L18 (N : Nat) (f : XM) (c0 : Nat) (c4 : Int32) (K : Int32 → Int32 → Option Int32) : Nat → Int32 → Int32 → Option Int32
  | 0, _, _ => none
  | k + 1, x3, x5 =>
    if c4 ≤ x5 then
      K x3 x5
    else
      if x3 < 0 then
        K x3 x5
      else
        (x_cv f 4 c0 (F_X4_placeOn N f c0 x5)).bind fun z4 =>
        if z4 = 0 then
          if x3 = 0 then
            some x5
          else
            F_X4_ownEntry_L18 N f c0 c4 K k (x3 + (-1)) (x5 + 1)
        else
          F_X4_ownEntry_L18 N f c0 c4 K k x3 (x5 + 1)
def F_X4_ownEntry (N : Nat) (f : XM) (this : Nat) (p0 : Int32) (p1 : Int32) : Option Int32 :=
  (x_cv f 4 this (F_X4_firstEntry N f this (p0 + 1))).bind fun z1 =>
  (x_cv f 4 this (F_X4_firstEntry N f this p0)).bind fun z2 =>
  F_X4_ownEntry_L18 N f this z1 (fun y3_5 y5_5 =>
  some (-1)) N p1 z2
set_option maxRecDepth 20000 in
set_option maxHeartbeats 4000000 in
theorem w_X4_ownEntry_L18 (N : Nat) (f : XM) (c0 : Nat) (c4 : Int32) (K : Int32 → Int32 → Option Int32) (n : Nat) (r : Int32) {rc rs : Nat} : ∀ (k : Nat) (x3 : Int32) (x5 : Int32), F_X4_ownEntry_L18 N f c0 c4 K k x3 x5 = some r → (∀ (x3 : Int32) (x5 : Int32), K x3 x5 = some r → X mX4_ownEntry 2 46 (x_end (xr_ip r (f, n))) x_noRO rc rs 54 [(0, .ref c0), (3, .int x3), (4, .int c4), (5, .int x5)] [] (f, n)) → X mX4_ownEntry 2 46 (x_end (xr_ip r (f, n))) x_noRO rc rs 18 [(0, .ref c0), (3, .int x3), (4, .int c4), (5, .int x5)] [] (f, n) := by
  intro k
  induction k with
  | zero =>
    intro x3 x5 hF
    exact absurd hF (by intro h9; cases h9)
  | succ k ih =>
    intro x3 x5 hF hK
    have ih := fun x3 x5 hF => ih x3 x5 hF hK
    rw [F_X4_ownEntry_L18] at hF
    refine x_iload 3 dX4_ownEntry_18 rfl ?_
    refine x_iload 2 dX4_ownEntry_20 rfl ?_
    refine x_icmp_ge 54 dX4_ownEntry_22 (by decide) hF (fun hF => ?_) (fun hF => ?_)
    · refine x_sub [0, 1, 2, 3] rfl ?_
      exact hK _ _ hF
    · refine x_iload_n 1 dX4_ownEntry_25 rfl rfl ?_
      refine x_if_lt 54 dX4_ownEntry_26 (by decide) hF (fun hF => ?_) (fun hF => ?_)
      · refine x_sub [0, 1, 2, 3] rfl ?_
        exact hK _ _ hF
      · refine x_aload_n 0 dX4_ownEntry_29 rfl rfl ?_
        refine x_iload 3 dX4_ownEntry_30 rfl ?_
        obtain ⟨z4, hzz4, hF⟩ := x_bind hF
        obtain ⟨⟨fsz4, hbz4⟩, hzz4⟩ := x_cv_sp hzz4
        refine x_callv (As := [.int x5]) (rest := []) (rc + 0) (rs + 0) dX4_ownEntry_32 mi_X4_placeOn ml_X4_61 rfl rfl (Nat.le_of_ble_eq_true rfl) ⟨by decide, by decide⟩ (by omega) (by omega) hbz4 rfl (c_X4_placeOn N _ _ _ _ _ hzz4) (x_K.some ?_) x_KX.none
        refine x_if_ne 48 dX4_ownEntry_35 (by decide) hF (fun hF => ?_) (fun hF => ?_)
        · refine x_iinc (x5 + 1) (lv' := [(5, .int (x5 + 1)), (0, .ref c0), (3, .int x3), (4, .int c4)]) dX4_ownEntry_48 3 rfl (by rfl) (by decide) rfl ?_
          refine x_goto 18 dX4_ownEntry_51 (by decide) ?_
          refine x_sub [1, 2, 3, 0] rfl ?_
          exact ih _ _ hF
        · refine x_iload_n 1 dX4_ownEntry_38 rfl rfl ?_
          refine x_if_ne 45 dX4_ownEntry_39 (by decide) hF (fun hF => ?_) (fun hF => ?_)
          · refine x_iinc (x3 + (-1)) (lv' := [(3, .int (x3 + (-1))), (0, .ref c0), (4, .int c4), (5, .int x5)]) dX4_ownEntry_45 1 rfl (by rfl) (by decide) rfl ?_
            refine x_iinc (x5 + 1) (lv' := [(5, .int (x5 + 1)), (3, .int (x3 + (-1))), (0, .ref c0), (4, .int c4)]) dX4_ownEntry_48 3 rfl (by rfl) (by decide) rfl ?_
            refine x_goto 18 dX4_ownEntry_51 (by decide) ?_
            refine x_sub [2, 1, 3, 0] rfl ?_
            exact ih _ _ hF
          · refine x_iload 3 dX4_ownEntry_42 rfl ?_
            exact x_iret dX4_ownEntry_44 rfl (by cases hF; rfl)
set_option maxRecDepth 20000 in
set_option maxHeartbeats 4000000 in
theorem c_X4_ownEntry (N : Nat) (f : XM) (this : Nat) (p0 : Int32) (p1 : Int32) (n : Nat) (r : Int32) (hF : F_X4_ownEntry N f this p0 p1 = some r) : x_Ct mX4_ownEntry 2 46 0 0 [.ref this, .int p0, .int p1] (f, n) (xr_ip r (f, n)) := by
  unfold F_X4_ownEntry at hF
  refine x_ct (by decide) rfl (Nat.le_of_ble_eq_true rfl) ?_
  show X mX4_ownEntry 2 46 _ _ 0 0 0 [(0, .ref this), (1, .int p0), (2, .int p1)] [] (f, n)
  refine x_iload_n 2 dX4_ownEntry_0 rfl rfl ?_
  refine x_istore_n (i := 3) (lv' := [(3, .int p1), (0, .ref this), (1, .int p0), (2, .int p1)]) dX4_ownEntry_1 rfl (by decide) rfl ?_
  refine x_aload_n 1 dX4_ownEntry_2 rfl rfl ?_
  refine x_iload_n 2 dX4_ownEntry_3 rfl rfl ?_
  refine x_iconst 1 (by decide) dX4_ownEntry_4 ?_
  refine x_iadd dX4_ownEntry_5 ?_
  obtain ⟨z1, hzz1, hF⟩ := x_bind hF
  obtain ⟨⟨fsz1, hbz1⟩, hzz1⟩ := x_cv_sp hzz1
  refine x_callv (As := [.int (p0 + 1)]) (rest := []) 0 0 dX4_ownEntry_6 mi_X4_firstEntry ml_X4_71 rfl rfl (Nat.le_of_ble_eq_true rfl) ⟨by decide, by decide⟩ (by omega) (by omega) hbz1 rfl (c_X4_firstEntry N _ _ _ _ _ hzz1) (x_K.some ?_) x_KX.none
  refine x_istore (i := 4) (lv' := [(4, .int z1), (3, .int p1), (0, .ref this), (1, .int p0), (2, .int p1)]) dX4_ownEntry_9 (by decide) rfl ?_
  refine x_aload_n 2 dX4_ownEntry_11 rfl rfl ?_
  refine x_iload_n 3 dX4_ownEntry_12 rfl rfl ?_
  obtain ⟨z2, hzz2, hF⟩ := x_bind hF
  obtain ⟨⟨fsz2, hbz2⟩, hzz2⟩ := x_cv_sp hzz2
  refine x_callv (As := [.int p0]) (rest := []) 0 0 dX4_ownEntry_13 mi_X4_firstEntry ml_X4_71 rfl rfl (Nat.le_of_ble_eq_true rfl) ⟨by decide, by decide⟩ (by omega) (by omega) hbz2 rfl (c_X4_firstEntry N _ _ _ _ _ hzz2) (x_K.some ?_) x_KX.none
  refine x_istore (i := 5) (lv' := [(5, .int z2), (4, .int z1), (3, .int p1), (0, .ref this), (1, .int p0), (2, .int p1)]) dX4_ownEntry_16 (by decide) rfl ?_
  refine x_sub [3, 2, 1, 0] rfl ?_
  refine w_X4_ownEntry_L18 N _ _ _ _ _ r _ _ _ hF (fun y3_5 y5_5 hF => ?_)
  refine x_iconst (-1) (by decide) dX4_ownEntry_54 ?_
  exact x_iret dX4_ownEntry_55 rfl (by cases hF; rfl)
def F_X3_leavesOutOf (N : Nat) (f : XM) (this : Nat) (p0 : Int32) (p1 : Int32) : Option Int32 :=
  (x_cv f 3 this (F_X3_eachIfBuilt N f this p1)).bind fun z1 =>
  (F_X4_roundedUp N f p0 z1).bind fun z2 =>
  some z2
set_option maxRecDepth 20000 in
set_option maxHeartbeats 4000000 in
theorem c_X3_leavesOutOf (N : Nat) (f : XM) (this : Nat) (p0 : Int32) (p1 : Int32) (n : Nat) (r : Int32) (hF : F_X3_leavesOutOf N f this p0 p1 = some r) : x_Ct mX3_leavesOutOf 2 42 0 0 [.ref this, .int p0, .int p1] (f, n) (xr_ip r (f, n)) := by
  unfold F_X3_leavesOutOf at hF
  refine x_ct (by decide) rfl (Nat.le_of_ble_eq_true rfl) ?_
  show X mX3_leavesOutOf 2 42 _ _ 0 0 0 [(0, .ref this), (1, .int p0), (2, .int p1)] [] (f, n)
  refine x_iload_n 1 dX3_leavesOutOf_0 rfl rfl ?_
  refine x_aload_n 0 dX3_leavesOutOf_1 rfl rfl ?_
  refine x_iload_n 2 dX3_leavesOutOf_2 rfl rfl ?_
  obtain ⟨z1, hzz1, hF⟩ := x_bind hF
  obtain ⟨⟨fsz1, hbz1⟩, hzz1⟩ := x_cv_sp hzz1
  refine x_callv (As := [.int p1]) (rest := [.int p0]) 0 0 dX3_leavesOutOf_3 mi_X3_eachIfBuilt ml_X3_93 rfl rfl (Nat.le_of_ble_eq_true rfl) ⟨by decide, by decide⟩ (by omega) (by omega) hbz1 rfl (c_X3_eachIfBuilt N _ _ _ _ _ hzz1) (x_K.some ?_) x_KX.none
  obtain ⟨z2, hzz2, hF⟩ := x_bind hF
  refine x_calls (As := [.int p0, .int z1]) (rest := []) 0 0 dX3_leavesOutOf_6 mi_X4_roundedUp rfl ml_X3_146 rfl rfl (Nat.le_of_ble_eq_true rfl) ⟨by decide, by decide⟩ (by omega) (by omega) (c_X4_roundedUp N _ _ _ _ _ hzz2) (x_K.some ?_) x_KX.none
  exact x_iret dX3_leavesOutOf_9 rfl (by cases hF; rfl)
def F_X3_levelsOutOf (N : Nat) (f : XM) (this : Nat) (p0 : Int32) (p1 : Int32) : Option Int32 :=
  (x_cv f 3 this (F_X3_leavesOutOf N f this p0 p1)).bind fun z1 =>
  (x_geti f 3 this 5).bind fun v2 =>
  (F_X4_levelsAbove N f z1 v2).bind fun z3 =>
  some z3
set_option maxRecDepth 20000 in
set_option maxHeartbeats 4000000 in
theorem c_X3_levelsOutOf (N : Nat) (f : XM) (this : Nat) (p0 : Int32) (p1 : Int32) (n : Nat) (r : Int32) (hF : F_X3_levelsOutOf N f this p0 p1 = some r) : x_Ct mX3_levelsOutOf 3 64 0 0 [.ref this, .int p0, .int p1] (f, n) (xr_ip r (f, n)) := by
  unfold F_X3_levelsOutOf at hF
  refine x_ct (by decide) rfl (Nat.le_of_ble_eq_true rfl) ?_
  show X mX3_levelsOutOf 3 64 _ _ 0 0 0 [(0, .ref this), (1, .int p0), (2, .int p1)] [] (f, n)
  refine x_aload_n 0 dX3_levelsOutOf_0 rfl rfl ?_
  refine x_iload_n 1 dX3_levelsOutOf_1 rfl rfl ?_
  refine x_iload_n 2 dX3_levelsOutOf_2 rfl rfl ?_
  obtain ⟨z1, hzz1, hF⟩ := x_bind hF
  obtain ⟨⟨fsz1, hbz1⟩, hzz1⟩ := x_cv_sp hzz1
  refine x_callv (As := [.int p0, .int p1]) (rest := []) 0 0 dX3_levelsOutOf_3 mi_X3_leavesOutOf ml_X3_149 rfl rfl (Nat.le_of_ble_eq_true rfl) ⟨by decide, by decide⟩ (by omega) (by omega) hbz1 rfl (c_X3_leavesOutOf N _ _ _ _ _ _ hzz1) (x_K.some ?_) x_KX.none
  refine x_aload_n 0 dX3_levelsOutOf_6 rfl rfl ?_
  refine x_geti_r dX3_levelsOutOf_7 fl_X3_35 hF (fun v2 hF => ?_)
  obtain ⟨z3, hzz3, hF⟩ := x_bind hF
  refine x_calls (As := [.int z1, .int v2]) (rest := []) 0 0 dX3_levelsOutOf_10 mi_X4_levelsAbove rfl ml_X3_152 rfl rfl (Nat.le_of_ble_eq_true rfl) ⟨by decide, by decide⟩ (by omega) (by omega) (c_X4_levelsAbove N _ _ _ _ _ hzz3) (x_K.some ?_) x_KX.none
  exact x_iret dX3_levelsOutOf_13 rfl (by cases hF; rfl)
def F_X0_merge (N : Nat) (f : XM) (this : Nat) (p0 : Nat) (p1 : Nat) : Option (Option Nat × XM) :=
  (x_getr f 0 this 0).bind fun v1 =>
  Option.bind v1 fun a2 =>
  (x_cv f 2 a2 (F_X2_mergeOf N f a2 p0 p1)).bind fun z3 =>
  (x_getr z3 0 this 0).bind fun v4 =>
  some (v4, z3)
set_option maxRecDepth 20000 in
set_option maxHeartbeats 4000000 in
theorem c_X0_merge (N : Nat) (f : XM) (this : Nat) (p0 : Nat) (p1 : Nat) (n : Nat) (r : (Option Nat × XM)) (hF : F_X0_merge N f this p0 p1 = some r) : x_Ct mX0_merge 2 49 0 0 [.ref this, .ref p0, .ref p1] (f, n) (xr_qm r n) := by
  unfold F_X0_merge at hF
  refine x_ct (by decide) rfl (Nat.le_of_ble_eq_true rfl) ?_
  show X mX0_merge 2 49 _ _ 0 0 0 [(0, .ref this), (1, .ref p0), (2, .ref p1)] [] (f, n)
  refine x_aload_n 0 dX0_merge_0 rfl rfl ?_
  refine x_getr_r dX0_merge_1 fl_X0_14 hF (fun v1 hF => ?_)
  refine x_aload_n 1 dX0_merge_4 rfl rfl ?_
  refine x_aload_n 2 dX0_merge_5 rfl rfl ?_
  refine x_nn hF (fun a2 ha2 hF => ?_)
  rw [ha2]
  obtain ⟨z3, hzz3, hF⟩ := x_bind hF
  obtain ⟨⟨fsz3, hbz3⟩, hzz3⟩ := x_cv_sp hzz3
  refine x_callv (As := [.ref p0, .ref p1]) (rest := []) 0 0 dX0_merge_6 mi_X2_mergeOf ml_X0_44 rfl rfl (Nat.le_of_ble_eq_true rfl) ⟨by decide, by decide⟩ (by omega) (by omega) hbz3 rfl (c_X2_mergeOf N _ _ _ _ _ _ hzz3) (x_K.none ?_) x_KX.none
  refine x_aload_n 0 dX0_merge_9 rfl rfl ?_
  refine x_getr_r dX0_merge_10 fl_X0_14 hF (fun v4 hF => ?_)
  exact x_aret (r := v4) dX0_merge_13 rfl (by cases hF; rfl)
def F_X3_mergeOldest_L59 (N : Nat) (c0 : Nat) (c3 : Nat) (c4 : Nat) (K : Int32 → XM → Option (Int32 × XM)) : Nat → Int32 → XM → Option (Int32 × XM)
  | 0, _, _ => none
  | k + 1, x5, f =>
    (x_getr f 3 c0 1).bind fun v11 =>
    Option.bind v11 fun a12 =>
    (x_alen f a12).bind fun v13 =>
    if v13 ≤ x5 then
      K x5 f
    else
      (x_getr f 3 c0 1).bind fun v14 =>
      (x_getr f 3 c0 1).bind fun v15 =>
      Option.bind v15 fun a16 =>
      (x_aldr f 2 a16 x5).bind fun v17 =>
      Option.bind v14 fun a18 =>
      (x_astr f 2 a18 (x5 - 1) v17).bind fun f19 =>
      F_X3_mergeOldest_L59 N c0 c3 c4 K k (x5 + 1) f19
def F_X3_mergeOldest (N : Nat) (f : XM) (this : Nat) (p0 : Nat) : Option (Int32 × XM) :=
  (x_cv f 3 this (F_X3_closedOn N f this 0)).bind fun z1 =>
  (x_cv f 3 this (F_X3_closedOn N f this 1)).bind fun z2 =>
  (x_geti f 3 this 2).bind fun v3 =>
  if v3 < 2 then
    some ((-1), f)
  else
    Option.elim z1
      (some ((-1), f))
      (fun a4 => Option.elim z2
        (some ((-1), f))
        (fun a5 => (x_cv f 0 p0 (F_X0_merge N f p0 a4 a5)).bind fun z6 =>
        Option.bind z6.1 fun a7 =>
        (x_geti z6.2 2 a7 2).bind fun v8 =>
        if v8 ≤ 60 then
          (x_cv z6.2 2 a4 (F_X2_copyFrom N z6.2 a4 a7)).bind fun z9 =>
          F_X3_mergeOldest_L59 N this a5 a7 (fun y5_20 g20 =>
          (x_getr g20 3 this 1).bind fun v21 =>
          (x_getr g20 3 this 1).bind fun v22 =>
          Option.bind v22 fun a23 =>
          (x_alen g20 a23).bind fun v24 =>
          Option.bind v21 fun a25 =>
          (x_astr g20 2 a25 (v24 - 1) (some a5)).bind fun f26 =>
          (x_geti f26 3 this 2).bind fun v27 =>
          (x_puti f26 3 this 2 (v27 - 1)).bind fun f28 =>
          (x_geti f28 2 a7 2).bind fun v29 =>
          some (v29, f28)) N 2 z9
        else
          some ((-1), z6.2)))
set_option maxRecDepth 20000 in
set_option maxHeartbeats 4000000 in
theorem w_X3_mergeOldest_L59 (N : Nat) (c0 : Nat) (c3 : Nat) (c4 : Nat) (K : Int32 → XM → Option (Int32 × XM)) (n : Nat) (r : (Int32 × XM)) {rc rs : Nat} : ∀ (k : Nat) (x5 : Int32) (f : XM), F_X3_mergeOldest_L59 N c0 c3 c4 K k x5 f = some r → (∀ (x5 : Int32) (f : XM), K x5 f = some r → X mX3_mergeOldest 3 90 (x_end (xr_im r n)) x_noRO rc rs 91 [(0, .ref c0), (3, .ref c3), (4, .ref c4), (5, .int x5)] [] (f, n)) → X mX3_mergeOldest 3 90 (x_end (xr_im r n)) x_noRO rc rs 59 [(0, .ref c0), (3, .ref c3), (4, .ref c4), (5, .int x5)] [] (f, n) := by
  intro k
  induction k with
  | zero =>
    intro x5 f hF
    exact absurd hF (by intro h9; cases h9)
  | succ k ih =>
    intro x5 f hF hK
    have ih := fun x5 f hF => ih x5 f hF hK
    rw [F_X3_mergeOldest_L59] at hF
    refine x_iload 3 dX3_mergeOldest_59 rfl ?_
    refine x_aload_n 0 dX3_mergeOldest_61 rfl rfl ?_
    refine x_getr_r dX3_mergeOldest_62 fl_X3_20 hF (fun v11 hF => ?_)
    refine x_nn hF (fun a12 ha12 hF => ?_)
    rw [ha12]
    refine x_alen_r dX3_mergeOldest_65 hF (fun v13 hF => ?_)
    refine x_icmp_ge 91 dX3_mergeOldest_66 (by decide) hF (fun hF => ?_) (fun hF => ?_)
    · refine x_sub [0, 1, 2, 3] rfl ?_
      exact hK _ _ hF
    · refine x_aload_n 0 dX3_mergeOldest_69 rfl rfl ?_
      refine x_getr_r dX3_mergeOldest_70 fl_X3_20 hF (fun v14 hF => ?_)
      refine x_iload 3 dX3_mergeOldest_73 rfl ?_
      refine x_iconst 1 (by decide) dX3_mergeOldest_75 ?_
      refine x_isub dX3_mergeOldest_76 ?_
      refine x_aload_n 0 dX3_mergeOldest_77 rfl rfl ?_
      refine x_getr_r dX3_mergeOldest_78 fl_X3_20 hF (fun v15 hF => ?_)
      refine x_iload 3 dX3_mergeOldest_81 rfl ?_
      refine x_nn hF (fun a16 ha16 hF => ?_)
      rw [ha16]
      refine x_aldr_r 2 dX3_mergeOldest_83 hF (fun v17 hF => ?_)
      refine x_nn hF (fun a18 ha18 hF => ?_)
      rw [ha18]
      refine x_astr_r (r := v17) 2 dX3_mergeOldest_84 hF (fun f19 hF => ?_)
      refine x_iinc (x5 + 1) (lv' := [(5, .int (x5 + 1)), (0, .ref c0), (3, .ref c3), (4, .ref c4)]) dX3_mergeOldest_85 3 rfl (by rfl) (by decide) rfl ?_
      refine x_goto 59 dX3_mergeOldest_88 (by decide) ?_
      refine x_sub [1, 2, 3, 0] rfl ?_
      exact ih _ _ hF
set_option maxRecDepth 20000 in
set_option maxHeartbeats 4000000 in
theorem c_X3_mergeOldest (N : Nat) (f : XM) (this : Nat) (p0 : Nat) (n : Nat) (r : (Int32 × XM)) (hF : F_X3_mergeOldest N f this p0 = some r) : x_Ct mX3_mergeOldest 3 90 0 0 [.ref this, .ref p0] (f, n) (xr_im r n) := by
  unfold F_X3_mergeOldest at hF
  refine x_ct (by decide) rfl (Nat.le_of_ble_eq_true rfl) ?_
  show X mX3_mergeOldest 3 90 _ _ 0 0 0 [(0, .ref this), (1, .ref p0)] [] (f, n)
  refine x_aload_n 0 dX3_mergeOldest_0 rfl rfl ?_
  refine x_iconst 0 (by decide) dX3_mergeOldest_1 ?_
  obtain ⟨z1, hzz1, hF⟩ := x_bind hF
  obtain ⟨⟨fsz1, hbz1⟩, hzz1⟩ := x_cv_sp hzz1
  refine x_callv (As := [.int 0]) (rest := []) 0 0 dX3_mergeOldest_2 mi_X3_closedOn ml_X3_45 rfl rfl (Nat.le_of_ble_eq_true rfl) ⟨by decide, by decide⟩ (by omega) (by omega) hbz1 rfl (c_X3_closedOn N _ _ _ _ _ hzz1) (x_K.some ?_) x_KX.none
  refine x_astore_nq (i := 2) (lv' := [(2, va_rf z1), (0, .ref this), (1, .ref p0)]) dX3_mergeOldest_5 rfl (by decide) rfl ?_
  refine x_aload_n 1 dX3_mergeOldest_6 rfl rfl ?_
  refine x_iconst 1 (by decide) dX3_mergeOldest_7 ?_
  obtain ⟨z2, hzz2, hF⟩ := x_bind hF
  obtain ⟨⟨fsz2, hbz2⟩, hzz2⟩ := x_cv_sp hzz2
  refine x_callv (As := [.int 1]) (rest := []) 0 0 dX3_mergeOldest_8 mi_X3_closedOn ml_X3_45 rfl rfl (Nat.le_of_ble_eq_true rfl) ⟨by decide, by decide⟩ (by omega) (by omega) hbz2 rfl (c_X3_closedOn N _ _ _ _ _ hzz2) (x_K.some ?_) x_KX.none
  refine x_astore_nq (i := 3) (lv' := [(3, va_rf z2), (2, va_rf z1), (0, .ref this), (1, .ref p0)]) dX3_mergeOldest_11 rfl (by decide) (by simp [x_rfc, List.filter]) ?_
  refine x_aload_n 2 dX3_mergeOldest_12 rfl rfl ?_
  refine x_geti_r dX3_mergeOldest_13 fl_X3_42 hF (fun v3 hF => ?_)
  refine x_iconst 2 (by decide) dX3_mergeOldest_16 ?_
  refine x_icmp_lt 28 dX3_mergeOldest_17 (by decide) hF (fun hF => ?_) (fun hF => ?_)
  · refine x_iconst (-1) (by decide) dX3_mergeOldest_28 ?_
    exact x_iret dX3_mergeOldest_29 rfl (by cases hF; rfl)
  · refine x_aload_nq 1 dX3_mergeOldest_20 rfl rfl ?_
    refine x_ifnull 28 dX3_mergeOldest_21 (by decide) hF (fun _ hF => ?_) (fun a4 ha4 hF => ?_)
    · refine x_iconst (-1) (by decide) dX3_mergeOldest_28 ?_
      exact x_iret dX3_mergeOldest_29 rfl (by cases hF; rfl)
    · (try rw [ha4])
      refine x_aload_nq 0 dX3_mergeOldest_24 rfl rfl ?_
      refine x_ifnonnull 30 dX3_mergeOldest_25 (by decide) hF (fun _ hF => ?_) (fun a5 ha5 hF => ?_)
      · refine x_iconst (-1) (by decide) dX3_mergeOldest_28 ?_
        exact x_iret dX3_mergeOldest_29 rfl (by cases hF; rfl)
      · (try rw [ha5])
        refine x_aload_n 3 dX3_mergeOldest_30 rfl rfl ?_
        refine x_aload_n 1 dX3_mergeOldest_31 rfl rfl ?_
        refine x_aload_n 0 dX3_mergeOldest_32 rfl rfl ?_
        obtain ⟨z6, hzz6, hF⟩ := x_bind hF
        obtain ⟨⟨fsz6, hbz6⟩, hzz6⟩ := x_cv_sp hzz6
        refine x_callv (As := [.ref a4, .ref a5]) (rest := []) 0 0 dX3_mergeOldest_33 mi_X0_merge ml_X3_83 rfl rfl (Nat.le_of_ble_eq_true rfl) ⟨by decide, by decide⟩ (by omega) (by omega) hbz6 rfl (c_X0_merge N _ _ _ _ _ _ hzz6) (x_K.some ?_) x_KX.none
        refine x_astoreq (i := 4) (lv' := [(4, va_rf z6.1), (3, .ref a5), (2, .ref a4), (0, .ref this), (1, .ref p0)]) dX3_mergeOldest_36 (by decide) rfl ?_
        refine x_aloadq 0 dX3_mergeOldest_38 rfl ?_
        refine x_nn hF (fun a7 ha7 hF => ?_)
        rw [ha7]
        refine x_geti_r dX3_mergeOldest_40 fl_X3_66 hF (fun v8 hF => ?_)
        refine x_bipush 60 (by decide) dX3_mergeOldest_43 ?_
        refine x_icmp_le 50 dX3_mergeOldest_45 (by decide) hF (fun hF => ?_) (fun hF => ?_)
        · refine x_aload_n 2 dX3_mergeOldest_50 rfl rfl ?_
          refine x_aload 0 dX3_mergeOldest_51 rfl ?_
          obtain ⟨z9, hzz9, hF⟩ := x_bind hF
          obtain ⟨⟨fsz9, hbz9⟩, hzz9⟩ := x_cv_sp hzz9
          refine x_callv (As := [.ref a7]) (rest := []) 0 0 dX3_mergeOldest_53 mi_X2_copyFrom ml_X3_38 rfl rfl (Nat.le_of_ble_eq_true rfl) ⟨by decide, by decide⟩ (by omega) (by omega) hbz9 rfl (c_X2_copyFrom N _ _ _ _ _ hzz9) (x_K.none ?_) x_KX.none
          refine x_iconst 2 (by decide) dX3_mergeOldest_56 ?_
          refine x_istore (i := 5) (lv' := [(5, .int 2), (4, .ref a7), (3, .ref a5), (2, .ref a4), (0, .ref this), (1, .ref p0)]) dX3_mergeOldest_57 (by decide) rfl ?_
          refine x_sub [4, 2, 1, 0] rfl ?_
          refine w_X3_mergeOldest_L59 N _ _ _ _ _ r _ _ _ hF (fun y5_20 g20 hF => ?_)
          refine x_aload_n 0 dX3_mergeOldest_91 rfl rfl ?_
          refine x_getr_r dX3_mergeOldest_92 fl_X3_20 hF (fun v21 hF => ?_)
          refine x_aload_n 0 dX3_mergeOldest_95 rfl rfl ?_
          refine x_getr_r dX3_mergeOldest_96 fl_X3_20 hF (fun v22 hF => ?_)
          refine x_nn hF (fun a23 ha23 hF => ?_)
          rw [ha23]
          refine x_alen_r dX3_mergeOldest_99 hF (fun v24 hF => ?_)
          refine x_iconst 1 (by decide) dX3_mergeOldest_100 ?_
          refine x_isub dX3_mergeOldest_101 ?_
          refine x_aload_n 1 dX3_mergeOldest_102 rfl rfl ?_
          refine x_nn hF (fun a25 ha25 hF => ?_)
          rw [ha25]
          refine x_astr_r (r := (some a5)) 2 dX3_mergeOldest_103 hF (fun f26 hF => ?_)
          refine x_aload_n 0 dX3_mergeOldest_104 rfl rfl ?_
          refine x_dupr dX3_mergeOldest_105 ?_
          refine x_geti_r dX3_mergeOldest_106 fl_X3_42 hF (fun v27 hF => ?_)
          refine x_iconst 1 (by decide) dX3_mergeOldest_109 ?_
          refine x_isub dX3_mergeOldest_110 ?_
          refine x_puti_r dX3_mergeOldest_111 fl_X3_42 (fun h9 => by cases h9) hF (fun f28 hF => ?_)
          refine x_aload 2 dX3_mergeOldest_114 rfl ?_
          refine x_geti_r dX3_mergeOldest_116 fl_X3_66 hF (fun v29 hF => ?_)
          exact x_iret dX3_mergeOldest_119 rfl (by cases hF; rfl)
        · refine x_iconst (-1) (by decide) dX3_mergeOldest_48 ?_
          exact x_iret dX3_mergeOldest_49 rfl (by cases hF; rfl)
def F_X4_overflowLeafCount (N : Nat) (f : XM) (this : Nat) (p0 : Int32) : Option Int32 :=
  (x_cv f 4 this (F_X4_overflowCount N f this p0)).bind fun z1 =>
  (x_geti f 4 this 4).bind fun v2 =>
  (F_X4_roundedUp N f z1 v2).bind fun z3 =>
  some z3
set_option maxRecDepth 20000 in
set_option maxHeartbeats 4000000 in
theorem c_X4_overflowLeafCount (N : Nat) (f : XM) (this : Nat) (p0 : Int32) (n : Nat) (r : Int32) (hF : F_X4_overflowLeafCount N f this p0 = some r) : x_Ct mX4_overflowLeafCount 2 49 0 0 [.ref this, .int p0] (f, n) (xr_ip r (f, n)) := by
  unfold F_X4_overflowLeafCount at hF
  refine x_ct (by decide) rfl (Nat.le_of_ble_eq_true rfl) ?_
  show X mX4_overflowLeafCount 2 49 _ _ 0 0 0 [(0, .ref this), (1, .int p0)] [] (f, n)
  refine x_aload_n 0 dX4_overflowLeafCount_0 rfl rfl ?_
  refine x_iload_n 1 dX4_overflowLeafCount_1 rfl rfl ?_
  obtain ⟨z1, hzz1, hF⟩ := x_bind hF
  obtain ⟨⟨fsz1, hbz1⟩, hzz1⟩ := x_cv_sp hzz1
  refine x_callv (As := [.int p0]) (rest := []) 0 0 dX4_overflowLeafCount_2 mi_X4_overflowCount ml_X4_64 rfl rfl (Nat.le_of_ble_eq_true rfl) ⟨by decide, by decide⟩ (by omega) (by omega) hbz1 rfl (c_X4_overflowCount N _ _ _ _ _ hzz1) (x_K.some ?_) x_KX.none
  refine x_aload_n 0 dX4_overflowLeafCount_5 rfl rfl ?_
  refine x_geti_r dX4_overflowLeafCount_6 fl_X4_42 hF (fun v2 hF => ?_)
  obtain ⟨z3, hzz3, hF⟩ := x_bind hF
  refine x_calls (As := [.int z1, .int v2]) (rest := []) 0 0 dX4_overflowLeafCount_9 mi_X4_roundedUp rfl ml_X4_67 rfl rfl (Nat.le_of_ble_eq_true rfl) ⟨by decide, by decide⟩ (by omega) (by omega) (c_X4_roundedUp N _ _ _ _ _ hzz3) (x_K.some ?_) x_KX.none
  exact x_iret dX4_overflowLeafCount_12 rfl (by cases hF; rfl)
def F_X4_pagesRead (N : Nat) (f : XM) (this : Nat) (p0 : Int32) : Option Int32 :=
  (x_cv f 4 this (F_X4_leafOfKey N f this p0)).bind fun z1 =>
  if z1 = (-1) then
    some 0
  else
    (x_getr f 4 this 0).bind fun v2 =>
    Option.bind v2 fun a3 =>
    (x_cv f 2 a3 (F_X2_placeOf N f a3 p0)).bind fun z4 =>
    if z4 = (-1) then
      (x_cv f 4 this (F_X4_overflowCount N f this z1)).bind fun z9 =>
      (x_cv f 4 this (F_X4_levelCount N f this)).bind fun z10 =>
      (x_geti f 4 this 4).bind fun v11 =>
      (F_X4_roundedUp N f z9 v11).bind fun z12 =>
      some ((z10 + 1) + z12)
    else
      (x_cv f 4 this (F_X4_placeOn N f this z4)).bind fun z5 =>
      (x_cv f 4 this (F_X4_levelCount N f this)).bind fun z6 =>
      (x_geti f 4 this 4).bind fun v7 =>
      (F_X4_roundedUp N f z5 v7).bind fun z8 =>
      some ((z6 + 1) + z8)
set_option maxRecDepth 20000 in
set_option maxHeartbeats 4000000 in
theorem c_X4_pagesRead (N : Nat) (f : XM) (this : Nat) (p0 : Int32) (n : Nat) (r : Int32) (hF : F_X4_pagesRead N f this p0 = some r) : x_Ct mX4_pagesRead 2 49 0 0 [.ref this, .int p0] (f, n) (xr_ip r (f, n)) := by
  unfold F_X4_pagesRead at hF
  refine x_ct (by decide) rfl (Nat.le_of_ble_eq_true rfl) ?_
  show X mX4_pagesRead 2 49 _ _ 0 0 0 [(0, .ref this), (1, .int p0)] [] (f, n)
  refine x_aload_n 0 dX4_pagesRead_0 rfl rfl ?_
  refine x_iload_n 1 dX4_pagesRead_1 rfl rfl ?_
  obtain ⟨z1, hzz1, hF⟩ := x_bind hF
  obtain ⟨⟨fsz1, hbz1⟩, hzz1⟩ := x_cv_sp hzz1
  refine x_callv (As := [.int p0]) (rest := []) 0 0 dX4_pagesRead_2 mi_X4_leafOfKey ml_X4_85 rfl rfl (Nat.le_of_ble_eq_true rfl) ⟨by decide, by decide⟩ (by omega) (by omega) hbz1 rfl (c_X4_leafOfKey N _ _ _ _ _ hzz1) (x_K.some ?_) x_KX.none
  refine x_istore_n (i := 2) (lv' := [(2, .int z1), (0, .ref this), (1, .int p0)]) dX4_pagesRead_5 rfl (by decide) rfl ?_
  refine x_iload_n 0 dX4_pagesRead_6 rfl rfl ?_
  refine x_iconst (-1) (by decide) dX4_pagesRead_7 ?_
  refine x_icmp_ne 13 dX4_pagesRead_8 (by decide) hF (fun hF => ?_) (fun hF => ?_)
  · refine x_aload_n 1 dX4_pagesRead_13 rfl rfl ?_
    refine x_getr_r dX4_pagesRead_14 fl_X4_14 hF (fun v2 hF => ?_)
    refine x_iload_n 2 dX4_pagesRead_17 rfl rfl ?_
    refine x_nn hF (fun a3 ha3 hF => ?_)
    rw [ha3]
    obtain ⟨z4, hzz4, hF⟩ := x_bind hF
    obtain ⟨⟨fsz4, hbz4⟩, hzz4⟩ := x_cv_sp hzz4
    refine x_callv (As := [.int p0]) (rest := []) 0 0 dX4_pagesRead_18 mi_X2_placeOf ml_X4_74 rfl rfl (Nat.le_of_ble_eq_true rfl) ⟨by decide, by decide⟩ (by omega) (by omega) hbz4 rfl (c_X2_placeOf N _ _ _ _ _ hzz4) (x_K.some ?_) x_KX.none
    refine x_istore_n (i := 3) (lv' := [(3, .int z4), (2, .int z1), (0, .ref this), (1, .int p0)]) dX4_pagesRead_21 rfl (by decide) rfl ?_
    refine x_iload_n 0 dX4_pagesRead_22 rfl rfl ?_
    refine x_iconst (-1) (by decide) dX4_pagesRead_23 ?_
    refine x_icmp_ne 35 dX4_pagesRead_24 (by decide) hF (fun hF => ?_) (fun hF => ?_)
    · refine x_aload_n 2 dX4_pagesRead_35 rfl rfl ?_
      refine x_iload_n 0 dX4_pagesRead_36 rfl rfl ?_
      obtain ⟨z5, hzz5, hF⟩ := x_bind hF
      obtain ⟨⟨fsz5, hbz5⟩, hzz5⟩ := x_cv_sp hzz5
      refine x_callv (As := [.int z4]) (rest := []) 0 0 dX4_pagesRead_37 mi_X4_placeOn ml_X4_61 rfl rfl (Nat.le_of_ble_eq_true rfl) ⟨by decide, by decide⟩ (by omega) (by omega) hbz5 rfl (c_X4_placeOn N _ _ _ _ _ hzz5) (x_K.some ?_) x_KX.none
      refine x_istore (i := 4) (lv' := [(4, .int z5), (3, .int z4), (2, .int z1), (0, .ref this), (1, .int p0)]) dX4_pagesRead_40 (by decide) rfl ?_
      refine x_aload_n 3 dX4_pagesRead_42 rfl rfl ?_
      obtain ⟨z6, hzz6, hF⟩ := x_bind hF
      obtain ⟨⟨fsz6, hbz6⟩, hzz6⟩ := x_cv_sp hzz6
      refine x_callv (As := []) (rest := []) 0 0 dX4_pagesRead_43 mi_X4_levelCount ml_X4_107 rfl rfl (Nat.le_of_ble_eq_true rfl) ⟨by decide, by decide⟩ (by omega) (by omega) hbz6 rfl (c_X4_levelCount N _ _ _ _ hzz6) (x_K.some ?_) x_KX.none
      refine x_iconst 1 (by decide) dX4_pagesRead_46 ?_
      refine x_iadd dX4_pagesRead_47 ?_
      refine x_iload 0 dX4_pagesRead_48 rfl ?_
      refine x_aload_n 3 dX4_pagesRead_50 rfl rfl ?_
      refine x_geti_r dX4_pagesRead_51 fl_X4_42 hF (fun v7 hF => ?_)
      obtain ⟨z8, hzz8, hF⟩ := x_bind hF
      refine x_calls (As := [.int z5, .int v7]) (rest := [.int (z6 + 1)]) 0 0 dX4_pagesRead_54 mi_X4_roundedUp rfl ml_X4_67 rfl rfl (Nat.le_of_ble_eq_true rfl) ⟨by decide, by decide⟩ (by omega) (by omega) (c_X4_roundedUp N _ _ _ _ _ hzz8) (x_K.some ?_) x_KX.none
      refine x_iadd dX4_pagesRead_57 ?_
      exact x_iret dX4_pagesRead_58 rfl (by cases hF; rfl)
    · refine x_aload_n 2 dX4_pagesRead_27 rfl rfl ?_
      refine x_iload_n 1 dX4_pagesRead_28 rfl rfl ?_
      obtain ⟨z9, hzz9, hF⟩ := x_bind hF
      obtain ⟨⟨fsz9, hbz9⟩, hzz9⟩ := x_cv_sp hzz9
      refine x_callv (As := [.int z1]) (rest := []) 0 0 dX4_pagesRead_29 mi_X4_overflowCount ml_X4_64 rfl rfl (Nat.le_of_ble_eq_true rfl) ⟨by decide, by decide⟩ (by omega) (by omega) hbz9 rfl (c_X4_overflowCount N _ _ _ _ _ hzz9) (x_K.some ?_) x_KX.none
      refine x_goto 40 dX4_pagesRead_32 (by decide) ?_
      refine x_istore (i := 4) (lv' := [(4, .int z9), (3, .int z4), (2, .int z1), (0, .ref this), (1, .int p0)]) dX4_pagesRead_40 (by decide) rfl ?_
      refine x_aload_n 3 dX4_pagesRead_42 rfl rfl ?_
      obtain ⟨z10, hzz10, hF⟩ := x_bind hF
      obtain ⟨⟨fsz10, hbz10⟩, hzz10⟩ := x_cv_sp hzz10
      refine x_callv (As := []) (rest := []) 0 0 dX4_pagesRead_43 mi_X4_levelCount ml_X4_107 rfl rfl (Nat.le_of_ble_eq_true rfl) ⟨by decide, by decide⟩ (by omega) (by omega) hbz10 rfl (c_X4_levelCount N _ _ _ _ hzz10) (x_K.some ?_) x_KX.none
      refine x_iconst 1 (by decide) dX4_pagesRead_46 ?_
      refine x_iadd dX4_pagesRead_47 ?_
      refine x_iload 0 dX4_pagesRead_48 rfl ?_
      refine x_aload_n 3 dX4_pagesRead_50 rfl rfl ?_
      refine x_geti_r dX4_pagesRead_51 fl_X4_42 hF (fun v11 hF => ?_)
      obtain ⟨z12, hzz12, hF⟩ := x_bind hF
      refine x_calls (As := [.int z9, .int v11]) (rest := [.int (z10 + 1)]) 0 0 dX4_pagesRead_54 mi_X4_roundedUp rfl ml_X4_67 rfl rfl (Nat.le_of_ble_eq_true rfl) ⟨by decide, by decide⟩ (by omega) (by omega) (c_X4_roundedUp N _ _ _ _ _ hzz12) (x_K.some ?_) x_KX.none
      refine x_iadd dX4_pagesRead_57 ?_
      exact x_iret dX4_pagesRead_58 rfl (by cases hF; rfl)
  · refine x_iconst 0 (by decide) dX4_pagesRead_11 ?_
    exact x_iret dX4_pagesRead_12 rfl (by cases hF; rfl)
def F_X3_pagesRead_L4 (N : Nat) (f : XM) (c0 : Nat) (c1 : Int32) (K : Int32 → Int32 → Option Int32) : Nat → Int32 → Int32 → Option Int32
  | 0, _, _ => none
  | k + 1, x2, x3 =>
    (x_geti f 3 c0 2).bind fun v2 =>
    if v2 < x3 then
      K x2 x3
    else
      (x_cv f 3 c0 (F_X3_runOn N f c0 x3)).bind fun z3 =>
      Option.elim z3
        (F_X3_pagesRead_L4 N f c0 c1 K k x2 (x3 + 1))
        (fun a4 => (x_geti f 2 a4 2).bind fun v5 =>
        if v5 = 0 then
          F_X3_pagesRead_L4 N f c0 c1 K k x2 (x3 + 1)
        else
          (x_cv f 2 a4 (F_X2_placeOf N f a4 c1)).bind fun z6 =>
          if z6 = (-1) then
            F_X3_pagesRead_L4 N f c0 c1 K k (x2 + 1) (x3 + 1)
          else
            some (x2 + 1))
def F_X3_pagesRead (N : Nat) (f : XM) (this : Nat) (p0 : Int32) : Option Int32 :=
  F_X3_pagesRead_L4 N f this p0 (fun y2_7 y3_7 =>
  (x_getr f 3 this 3).bind fun v8 =>
  Option.bind v8 fun a9 =>
  (x_cv f 4 a9 (F_X4_pagesRead N f a9 p0)).bind fun z10 =>
  some (y2_7 + z10)) N 0 0
set_option maxRecDepth 20000 in
set_option maxHeartbeats 4000000 in
theorem w_X3_pagesRead_L4 (N : Nat) (f : XM) (c0 : Nat) (c1 : Int32) (K : Int32 → Int32 → Option Int32) (n : Nat) (r : Int32) {rc rs : Nat} : ∀ (k : Nat) (x2 : Int32) (x3 : Int32), F_X3_pagesRead_L4 N f c0 c1 K k x2 x3 = some r → (∀ (x2 : Int32) (x3 : Int32), K x2 x3 = some r → X mX3_pagesRead 3 73 (x_end (xr_ip r (f, n))) x_noRO rc rs 56 [(0, .ref c0), (1, .int c1), (2, .int x2), (3, .int x3)] [] (f, n)) → X mX3_pagesRead 3 73 (x_end (xr_ip r (f, n))) x_noRO rc rs 4 [(0, .ref c0), (1, .int c1), (2, .int x2), (3, .int x3)] [] (f, n) := by
  intro k
  induction k with
  | zero =>
    intro x2 x3 hF
    exact absurd hF (by intro h9; cases h9)
  | succ k ih =>
    intro x2 x3 hF hK
    have ih := fun x2 x3 hF => ih x2 x3 hF hK
    rw [F_X3_pagesRead_L4] at hF
    refine x_iload_n 3 dX3_pagesRead_4 rfl rfl ?_
    refine x_aload_n 0 dX3_pagesRead_5 rfl rfl ?_
    refine x_geti_r dX3_pagesRead_6 fl_X3_42 hF (fun v2 hF => ?_)
    refine x_icmp_gt 56 dX3_pagesRead_9 (by decide) hF (fun hF => ?_) (fun hF => ?_)
    · refine x_sub [0, 1, 2, 3] rfl ?_
      exact hK _ _ hF
    · refine x_aload_n 0 dX3_pagesRead_12 rfl rfl ?_
      refine x_iload_n 3 dX3_pagesRead_13 rfl rfl ?_
      obtain ⟨z3, hzz3, hF⟩ := x_bind hF
      obtain ⟨⟨fsz3, hbz3⟩, hzz3⟩ := x_cv_sp hzz3
      refine x_callv (As := [.int x3]) (rest := []) (rc + 0) (rs + 0) dX3_pagesRead_14 mi_X3_runOn ml_X3_115 rfl rfl (Nat.le_of_ble_eq_true rfl) ⟨by decide, by decide⟩ (by omega) (by omega) hbz3 rfl (c_X3_runOn N _ _ _ _ _ hzz3) (x_K.some ?_) x_KX.none
      refine x_astoreq (i := 4) (lv' := [(4, va_rf z3), (0, .ref c0), (1, .int c1), (2, .int x2), (3, .int x3)]) dX3_pagesRead_17 (by decide) rfl ?_
      refine x_aloadq 0 dX3_pagesRead_19 rfl ?_
      refine x_ifnull 50 dX3_pagesRead_21 (by decide) hF (fun _ hF => ?_) (fun a4 ha4 hF => ?_)
      · refine x_iinc (x3 + 1) (lv' := [(3, .int (x3 + 1)), (4, va_rf z3), (0, .ref c0), (1, .int c1), (2, .int x2)]) dX3_pagesRead_50 4 rfl (by rfl) (by decide) rfl ?_
        refine x_goto 4 dX3_pagesRead_53 (by decide) ?_
        refine x_sub [2, 3, 4, 0] rfl ?_
        exact ih _ _ hF
      · (try rw [ha4])
        refine x_aload 0 dX3_pagesRead_24 rfl ?_
        refine x_geti_r dX3_pagesRead_26 fl_X3_66 hF (fun v5 hF => ?_)
        refine x_if_ne 35 dX3_pagesRead_29 (by decide) hF (fun hF => ?_) (fun hF => ?_)
        · refine x_iinc (x2 + 1) (lv' := [(2, .int (x2 + 1)), (4, .ref a4), (0, .ref c0), (1, .int c1), (3, .int x3)]) dX3_pagesRead_35 3 rfl (by rfl) (by decide) rfl ?_
          refine x_aload 1 dX3_pagesRead_38 rfl ?_
          refine x_iload_n 3 dX3_pagesRead_40 rfl rfl ?_
          obtain ⟨z6, hzz6, hF⟩ := x_bind hF
          obtain ⟨⟨fsz6, hbz6⟩, hzz6⟩ := x_cv_sp hzz6
          refine x_callv (As := [.int c1]) (rest := []) (rc + 0) (rs + 0) dX3_pagesRead_41 mi_X2_placeOf ml_X3_58 rfl rfl (Nat.le_of_ble_eq_true rfl) ⟨by decide, by decide⟩ (by omega) (by omega) hbz6 rfl (c_X2_placeOf N _ _ _ _ _ hzz6) (x_K.some ?_) x_KX.none
          refine x_iconst (-1) (by decide) dX3_pagesRead_44 ?_
          refine x_icmp_eq 50 dX3_pagesRead_45 (by decide) hF (fun hF => ?_) (fun hF => ?_)
          · refine x_iinc (x3 + 1) (lv' := [(3, .int (x3 + 1)), (2, .int (x2 + 1)), (4, .ref a4), (0, .ref c0), (1, .int c1)]) dX3_pagesRead_50 4 rfl (by rfl) (by decide) rfl ?_
            refine x_goto 4 dX3_pagesRead_53 (by decide) ?_
            refine x_sub [3, 4, 1, 0] rfl ?_
            exact ih _ _ hF
          · refine x_iload_n 0 dX3_pagesRead_48 rfl rfl ?_
            exact x_iret dX3_pagesRead_49 rfl (by cases hF; rfl)
        · refine x_goto 50 dX3_pagesRead_32 (by decide) ?_
          refine x_iinc (x3 + 1) (lv' := [(3, .int (x3 + 1)), (4, .ref a4), (0, .ref c0), (1, .int c1), (2, .int x2)]) dX3_pagesRead_50 4 rfl (by rfl) (by decide) rfl ?_
          refine x_goto 4 dX3_pagesRead_53 (by decide) ?_
          refine x_sub [2, 3, 4, 0] rfl ?_
          exact ih _ _ hF
set_option maxRecDepth 20000 in
set_option maxHeartbeats 4000000 in
theorem c_X3_pagesRead (N : Nat) (f : XM) (this : Nat) (p0 : Int32) (n : Nat) (r : Int32) (hF : F_X3_pagesRead N f this p0 = some r) : x_Ct mX3_pagesRead 3 73 0 0 [.ref this, .int p0] (f, n) (xr_ip r (f, n)) := by
  unfold F_X3_pagesRead at hF
  refine x_ct (by decide) rfl (Nat.le_of_ble_eq_true rfl) ?_
  show X mX3_pagesRead 3 73 _ _ 0 0 0 [(0, .ref this), (1, .int p0)] [] (f, n)
  refine x_iconst 0 (by decide) dX3_pagesRead_0 ?_
  refine x_istore_n (i := 2) (lv' := [(2, .int 0), (0, .ref this), (1, .int p0)]) dX3_pagesRead_1 rfl (by decide) rfl ?_
  refine x_iconst 0 (by decide) dX3_pagesRead_2 ?_
  refine x_istore_n (i := 3) (lv' := [(3, .int 0), (2, .int 0), (0, .ref this), (1, .int p0)]) dX3_pagesRead_3 rfl (by decide) rfl ?_
  refine x_sub [2, 3, 1, 0] rfl ?_
  refine w_X3_pagesRead_L4 N _ _ _ _ _ r _ _ _ hF (fun y2_7 y3_7 hF => ?_)
  refine x_iload_n 2 dX3_pagesRead_56 rfl rfl ?_
  refine x_aload_n 0 dX3_pagesRead_57 rfl rfl ?_
  refine x_getr_r dX3_pagesRead_58 fl_X3_27 hF (fun v8 hF => ?_)
  refine x_iload_n 1 dX3_pagesRead_61 rfl rfl ?_
  refine x_nn hF (fun a9 ha9 hF => ?_)
  rw [ha9]
  obtain ⟨z10, hzz10, hF⟩ := x_bind hF
  obtain ⟨⟨fsz10, hbz10⟩, hzz10⟩ := x_cv_sp hzz10
  refine x_callv (As := [.int p0]) (rest := [.int y2_7]) 0 0 dX3_pagesRead_62 mi_X4_pagesRead ml_X3_128 rfl rfl (Nat.le_of_ble_eq_true rfl) ⟨by decide, by decide⟩ (by omega) (by omega) hbz10 rfl (c_X4_pagesRead N _ _ _ _ _ hzz10) (x_K.some ?_) x_KX.none
  refine x_iadd dX3_pagesRead_65 ?_
  exact x_iret dX3_pagesRead_66 rfl (by cases hF; rfl)
def F_X0_init (N : Nat) (h : XH) (this : Nat) : Option XH :=
  (x_new (h.1, h.2) 2 [.null, .null, .int 0]).bind fun z1 =>
  (F_X2_init N (z1.2.1, z1.2.2) z1.1 532).bind fun z2 =>
  (x_putr z2.1 0 this 0 (some z1.1)).bind fun f3 =>
  (x_new (f3, z2.2) 2 [.null, .null, .int 0]).bind fun z4 =>
  (F_X2_init N (z4.2.1, z4.2.2) z4.1 532).bind fun z5 =>
  (x_putr z5.1 0 this 1 (some z4.1)).bind fun f6 =>
  some (f6, z5.2)
set_option maxRecDepth 20000 in
set_option maxHeartbeats 4000000 in
theorem c_X0_init (N : Nat) (h : XH) (this : Nat) (r : XH) (hF : F_X0_init N h this = some r) : x_Ct mX0_init 2 42 6 2134 [.ref this] h (xr_va r) := by
  unfold F_X0_init at hF
  refine x_ct (by decide) rfl (Nat.le_of_ble_eq_true rfl) ?_
  show X mX0_init 2 42 _ _ 6 2134 0 [(0, .ref this)] [] h
  refine x_aload_n 0 dX0_init_0 rfl rfl ?_
  refine x_oinit dX0_init_1 ml_X0_3 jd_oi jd_oc (by decide) (by decide) (Nat.le_of_ble_eq_true rfl) ?_
  refine x_aload_n 0 dX0_init_4 rfl rfl ?_
  refine x_new_r 5 2131 dX0_init_5 cl_X0_9 (by omega) (by omega) hF (fun z1 hF => ?_)
  refine x_dupr dX0_init_8 ?_
  refine x_sipush 532 (by decide) dX0_init_9 ?_
  obtain ⟨z2, hzz2, hF⟩ := x_bind hF
  refine x_calli (As := [.int 532]) (rest := [.ref z1.1, .ref this]) 3 1067 dX0_init_12 mi_X2_init ml_X0_11 rfl rfl (Nat.le_of_ble_eq_true rfl) ⟨by decide, by decide⟩ (by omega) (by omega) (c_X2_init N _ _ _ _ 1064 (by decide) hzz2) ?_
  refine x_toX (st' := [.ref z1.1, .ref this]) rfl ?_
  refine x_putr_r (v := (some z1.1)) dX0_init_15 fl_X0_14 rfl (fun h9 => by cases h9) hF (fun f3 hF => ?_)
  refine x_aload_n 0 dX0_init_18 rfl rfl ?_
  refine x_new_r 2 1064 dX0_init_19 cl_X0_9 (by omega) (by omega) hF (fun z4 hF => ?_)
  refine x_dupr dX0_init_22 ?_
  refine x_sipush 532 (by decide) dX0_init_23 ?_
  obtain ⟨z5, hzz5, hF⟩ := x_bind hF
  refine x_calli (As := [.int 532]) (rest := [.ref z4.1, .ref this]) 0 0 dX0_init_26 mi_X2_init ml_X0_11 rfl rfl (Nat.le_of_ble_eq_true rfl) ⟨by decide, by decide⟩ (by omega) (by omega) (c_X2_init N _ _ _ _ 1064 (by decide) hzz5) ?_
  refine x_toX (st' := [.ref z4.1, .ref this]) rfl ?_
  refine x_putr_r (v := (some z4.1)) dX0_init_29 fl_X0_20 rfl (fun h9 => by cases h9) hF (fun f6 hF => ?_)
  exact x_vret dX0_init_32 rfl (by cases hF; rfl)
def F_X1_init (N : Nat) (f : XM) (this : Nat) : Option Unit :=
  some ()
set_option maxRecDepth 20000 in
set_option maxHeartbeats 4000000 in
theorem c_X1_init (N : Nat) (f : XM) (this : Nat) (n : Nat) (r : Unit) (hF : F_X1_init N f this = some r) : x_Ct mX1_init 1 20 0 0 [.ref this] (f, n) (xr_vp r (f, n)) := by
  unfold F_X1_init at hF
  refine x_ct (by decide) rfl (Nat.le_of_ble_eq_true rfl) ?_
  show X mX1_init 1 20 _ _ 0 0 0 [(0, .ref this)] [] (f, n)
  refine x_aload_n 0 dX1_init_0 rfl rfl ?_
  refine x_oinit dX1_init_1 ml_X1_3 jd_oi jd_oc (by decide) (by decide) (Nat.le_of_ble_eq_true rfl) ?_
  exact x_vret dX1_init_4 rfl (by cases hF; rfl)
def F_X3_toldCount_L4 (N : Nat) (f : XM) (c0 : Nat) (K : Int32 → Int32 → Option Int32) : Nat → Int32 → Int32 → Option Int32
  | 0, _, _ => none
  | k + 1, x1, x2 =>
    (x_geti f 3 c0 2).bind fun v2 =>
    if v2 < x2 then
      K x1 x2
    else
      (x_cv f 3 c0 (F_X3_runOn N f c0 x2)).bind fun z3 =>
      Option.elim z3
        (F_X3_toldCount_L4 N f c0 K k x1 (x2 + 1))
        (fun a4 => (x_geti f 2 a4 2).bind fun v5 =>
        F_X3_toldCount_L4 N f c0 K k (x1 + v5) (x2 + 1))
def F_X3_toldCount (N : Nat) (f : XM) (this : Nat) : Option Int32 :=
  F_X3_toldCount_L4 N f this (fun y1_6 y2_6 =>
  some y1_6) N 0 0
set_option maxRecDepth 20000 in
set_option maxHeartbeats 4000000 in
theorem w_X3_toldCount_L4 (N : Nat) (f : XM) (c0 : Nat) (K : Int32 → Int32 → Option Int32) (n : Nat) (r : Int32) {rc rs : Nat} : ∀ (k : Nat) (x1 : Int32) (x2 : Int32), F_X3_toldCount_L4 N f c0 K k x1 x2 = some r → (∀ (x1 : Int32) (x2 : Int32), K x1 x2 = some r → X mX3_toldCount 1 22 (x_end (xr_ip r (f, n))) x_noRO rc rs 35 [(0, .ref c0), (1, .int x1), (2, .int x2)] [] (f, n)) → X mX3_toldCount 1 22 (x_end (xr_ip r (f, n))) x_noRO rc rs 4 [(0, .ref c0), (1, .int x1), (2, .int x2)] [] (f, n) := by
  intro k
  induction k with
  | zero =>
    intro x1 x2 hF
    exact absurd hF (by intro h9; cases h9)
  | succ k ih =>
    intro x1 x2 hF hK
    have ih := fun x1 x2 hF => ih x1 x2 hF hK
    rw [F_X3_toldCount_L4] at hF
    refine x_iload_n 2 dX3_toldCount_4 rfl rfl ?_
    refine x_aload_n 0 dX3_toldCount_5 rfl rfl ?_
    refine x_geti_r dX3_toldCount_6 fl_X3_42 hF (fun v2 hF => ?_)
    refine x_icmp_gt 35 dX3_toldCount_9 (by decide) hF (fun hF => ?_) (fun hF => ?_)
    · refine x_sub [0, 1, 2] rfl ?_
      exact hK _ _ hF
    · refine x_aload_n 0 dX3_toldCount_12 rfl rfl ?_
      refine x_iload_n 2 dX3_toldCount_13 rfl rfl ?_
      obtain ⟨z3, hzz3, hF⟩ := x_bind hF
      obtain ⟨⟨fsz3, hbz3⟩, hzz3⟩ := x_cv_sp hzz3
      refine x_callv (As := [.int x2]) (rest := []) (rc + 0) (rs + 0) dX3_toldCount_14 mi_X3_runOn ml_X3_115 rfl rfl (Nat.le_of_ble_eq_true rfl) ⟨by decide, by decide⟩ (by omega) (by omega) hbz3 rfl (c_X3_runOn N _ _ _ _ _ hzz3) (x_K.some ?_) x_KX.none
      refine x_astore_nq (i := 3) (lv' := [(3, va_rf z3), (0, .ref c0), (1, .int x1), (2, .int x2)]) dX3_toldCount_17 rfl (by decide) rfl ?_
      refine x_aload_nq 0 dX3_toldCount_18 rfl rfl ?_
      refine x_ifnull 29 dX3_toldCount_19 (by decide) hF (fun _ hF => ?_) (fun a4 ha4 hF => ?_)
      · refine x_iinc (x2 + 1) (lv' := [(2, .int (x2 + 1)), (3, va_rf z3), (0, .ref c0), (1, .int x1)]) dX3_toldCount_29 3 rfl (by rfl) (by decide) rfl ?_
        refine x_goto 4 dX3_toldCount_32 (by decide) ?_
        refine x_sub [2, 3, 0] rfl ?_
        exact ih _ _ hF
      · (try rw [ha4])
        refine x_iload_n 2 dX3_toldCount_22 rfl rfl ?_
        refine x_aload_n 0 dX3_toldCount_23 rfl rfl ?_
        refine x_geti_r dX3_toldCount_24 fl_X3_66 hF (fun v5 hF => ?_)
        refine x_iadd dX3_toldCount_27 ?_
        refine x_istore_n (i := 1) (lv' := [(1, .int (x1 + v5)), (3, .ref a4), (0, .ref c0), (2, .int x2)]) dX3_toldCount_28 rfl (by decide) rfl ?_
        refine x_iinc (x2 + 1) (lv' := [(2, .int (x2 + 1)), (1, .int (x1 + v5)), (3, .ref a4), (0, .ref c0)]) dX3_toldCount_29 3 rfl (by rfl) (by decide) rfl ?_
        refine x_goto 4 dX3_toldCount_32 (by decide) ?_
        refine x_sub [3, 1, 0] rfl ?_
        exact ih _ _ hF
set_option maxRecDepth 20000 in
set_option maxHeartbeats 4000000 in
theorem c_X3_toldCount (N : Nat) (f : XM) (this : Nat) (n : Nat) (r : Int32) (hF : F_X3_toldCount N f this = some r) : x_Ct mX3_toldCount 1 22 0 0 [.ref this] (f, n) (xr_ip r (f, n)) := by
  unfold F_X3_toldCount at hF
  refine x_ct (by decide) rfl (Nat.le_of_ble_eq_true rfl) ?_
  show X mX3_toldCount 1 22 _ _ 0 0 0 [(0, .ref this)] [] (f, n)
  refine x_iconst 0 (by decide) dX3_toldCount_0 ?_
  refine x_istore_n (i := 1) (lv' := [(1, .int 0), (0, .ref this)]) dX3_toldCount_1 rfl (by decide) rfl ?_
  refine x_iconst 0 (by decide) dX3_toldCount_2 ?_
  refine x_istore_n (i := 2) (lv' := [(2, .int 0), (1, .int 0), (0, .ref this)]) dX3_toldCount_3 rfl (by decide) rfl ?_
  refine x_sub [2, 1, 0] rfl ?_
  refine w_X3_toldCount_L4 N _ _ _ _ r _ _ _ hF (fun y1_6 y2_6 hF => ?_)
  refine x_iload_n 1 dX3_toldCount_35 rfl rfl ?_
  exact x_iret dX3_toldCount_36 rfl (by cases hF; rfl)
def F_X4_shareInOverflow_L4 (N : Nat) (f : XM) (c0 : Nat) (K : Int32 → Int32 → Option UInt64) : Nat → Int32 → Int32 → Option UInt64
  | 0, _, _ => none
  | k + 1, x1, x2 =>
    (x_getr f 4 c0 0).bind fun v2 =>
    Option.bind v2 fun a3 =>
    (x_geti f 2 a3 2).bind fun v4 =>
    if v4 ≤ x2 then
      K x1 x2
    else
      (x_cv f 4 c0 (F_X4_placeOn N f c0 x2)).bind fun z5 =>
      if z5 ≤ 0 then
        F_X4_shareInOverflow_L4 N f c0 K k x1 (x2 + 1)
      else
        F_X4_shareInOverflow_L4 N f c0 K k (x1 + 1) (x2 + 1)
def F_X4_shareInOverflow (N : Nat) (f : XM) (this : Nat) : Option UInt64 :=
  F_X4_shareInOverflow_L4 N f this (fun y1_6 y2_6 =>
  (x_getr f 4 this 0).bind fun v7 =>
  Option.bind v7 fun a8 =>
  (x_geti f 2 a8 2).bind fun v9 =>
  if 0 < v9 then
    (x_getr f 4 this 0).bind fun v10 =>
    Option.bind v10 fun a11 =>
    (x_geti f 2 a11 2).bind fun v12 =>
    (x_dn (FP.ddiv (FP.i2d y1_6) (FP.i2d v12))).bind fun v13 =>
    some v13
  else
    some FP.dconst0) N 0 0
set_option maxRecDepth 20000 in
set_option maxHeartbeats 4000000 in
theorem w_X4_shareInOverflow_L4 (N : Nat) (f : XM) (c0 : Nat) (K : Int32 → Int32 → Option UInt64) (n : Nat) (r : UInt64) {rc rs : Nat} : ∀ (k : Nat) (x1 : Int32) (x2 : Int32), F_X4_shareInOverflow_L4 N f c0 K k x1 x2 = some r → (∀ (x1 : Int32) (x2 : Int32), K x1 x2 = some r → X mX4_shareInOverflow 1 21 (x_end (xr_dp r (f, n))) x_noRO rc rs 32 [(0, .ref c0), (1, .int x1), (2, .int x2)] [] (f, n)) → X mX4_shareInOverflow 1 21 (x_end (xr_dp r (f, n))) x_noRO rc rs 4 [(0, .ref c0), (1, .int x1), (2, .int x2)] [] (f, n) := by
  intro k
  induction k with
  | zero =>
    intro x1 x2 hF
    exact absurd hF (by intro h9; cases h9)
  | succ k ih =>
    intro x1 x2 hF hK
    have ih := fun x1 x2 hF => ih x1 x2 hF hK
    rw [F_X4_shareInOverflow_L4] at hF
    refine x_iload_n 2 dX4_shareInOverflow_4 rfl rfl ?_
    refine x_aload_n 0 dX4_shareInOverflow_5 rfl rfl ?_
    refine x_getr_r dX4_shareInOverflow_6 fl_X4_14 hF (fun v2 hF => ?_)
    refine x_nn hF (fun a3 ha3 hF => ?_)
    rw [ha3]
    refine x_geti_r dX4_shareInOverflow_9 fl_X4_31 hF (fun v4 hF => ?_)
    refine x_icmp_ge 32 dX4_shareInOverflow_12 (by decide) hF (fun hF => ?_) (fun hF => ?_)
    · refine x_sub [0, 1, 2] rfl ?_
      exact hK _ _ hF
    · refine x_aload_n 0 dX4_shareInOverflow_15 rfl rfl ?_
      refine x_iload_n 2 dX4_shareInOverflow_16 rfl rfl ?_
      obtain ⟨z5, hzz5, hF⟩ := x_bind hF
      obtain ⟨⟨fsz5, hbz5⟩, hzz5⟩ := x_cv_sp hzz5
      refine x_callv (As := [.int x2]) (rest := []) (rc + 0) (rs + 0) dX4_shareInOverflow_17 mi_X4_placeOn ml_X4_61 rfl rfl (Nat.le_of_ble_eq_true rfl) ⟨by decide, by decide⟩ (by omega) (by omega) hbz5 rfl (c_X4_placeOn N _ _ _ _ _ hzz5) (x_K.some ?_) x_KX.none
      refine x_if_le 26 dX4_shareInOverflow_20 (by decide) hF (fun hF => ?_) (fun hF => ?_)
      · refine x_iinc (x2 + 1) (lv' := [(2, .int (x2 + 1)), (0, .ref c0), (1, .int x1)]) dX4_shareInOverflow_26 2 rfl (by rfl) (by decide) rfl ?_
        refine x_goto 4 dX4_shareInOverflow_29 (by decide) ?_
        refine x_sub [1, 2, 0] rfl ?_
        exact ih _ _ hF
      · refine x_iinc (x1 + 1) (lv' := [(1, .int (x1 + 1)), (0, .ref c0), (2, .int x2)]) dX4_shareInOverflow_23 1 rfl (by rfl) (by decide) rfl ?_
        refine x_iinc (x2 + 1) (lv' := [(2, .int (x2 + 1)), (1, .int (x1 + 1)), (0, .ref c0)]) dX4_shareInOverflow_26 2 rfl (by rfl) (by decide) rfl ?_
        refine x_goto 4 dX4_shareInOverflow_29 (by decide) ?_
        refine x_sub [2, 1, 0] rfl ?_
        exact ih _ _ hF
set_option maxRecDepth 20000 in
set_option maxHeartbeats 4000000 in
theorem c_X4_shareInOverflow (N : Nat) (f : XM) (this : Nat) (n : Nat) (r : UInt64) (hF : F_X4_shareInOverflow N f this = some r) : x_Ct mX4_shareInOverflow 1 21 0 0 [.ref this] (f, n) (xr_dp r (f, n)) := by
  unfold F_X4_shareInOverflow at hF
  refine x_ct (by decide) rfl (Nat.le_of_ble_eq_true rfl) ?_
  show X mX4_shareInOverflow 1 21 _ _ 0 0 0 [(0, .ref this)] [] (f, n)
  refine x_iconst 0 (by decide) dX4_shareInOverflow_0 ?_
  refine x_istore_n (i := 1) (lv' := [(1, .int 0), (0, .ref this)]) dX4_shareInOverflow_1 rfl (by decide) rfl ?_
  refine x_iconst 0 (by decide) dX4_shareInOverflow_2 ?_
  refine x_istore_n (i := 2) (lv' := [(2, .int 0), (1, .int 0), (0, .ref this)]) dX4_shareInOverflow_3 rfl (by decide) rfl ?_
  refine x_sub [2, 1, 0] rfl ?_
  refine w_X4_shareInOverflow_L4 N _ _ _ _ r _ _ _ hF (fun y1_6 y2_6 hF => ?_)
  refine x_aload_n 0 dX4_shareInOverflow_32 rfl rfl ?_
  refine x_getr_r dX4_shareInOverflow_33 fl_X4_14 hF (fun v7 hF => ?_)
  refine x_nn hF (fun a8 ha8 hF => ?_)
  rw [ha8]
  refine x_geti_r dX4_shareInOverflow_36 fl_X4_31 hF (fun v9 hF => ?_)
  refine x_if_gt 46 dX4_shareInOverflow_39 (by decide) hF (fun hF => ?_) (fun hF => ?_)
  · refine x_iload_n 1 dX4_shareInOverflow_46 rfl rfl ?_
    refine x_i2d dX4_shareInOverflow_47 ?_
    refine x_aload_n 0 dX4_shareInOverflow_48 rfl rfl ?_
    refine x_getr_r dX4_shareInOverflow_49 fl_X4_14 hF (fun v10 hF => ?_)
    refine x_nn hF (fun a11 ha11 hF => ?_)
    rw [ha11]
    refine x_geti_r dX4_shareInOverflow_52 fl_X4_31 hF (fun v12 hF => ?_)
    refine x_i2d dX4_shareInOverflow_55 ?_
    refine x_ddiv dX4_shareInOverflow_56 hF (fun v13 hF => ?_)
    exact x_dret dX4_shareInOverflow_57 rfl (by cases hF; rfl)
  · refine x_dconst0 dX4_shareInOverflow_42 ?_
    refine x_goto 57 dX4_shareInOverflow_43 (by decide) ?_
    exact x_dret dX4_shareInOverflow_57 rfl (by cases hF; rfl)
