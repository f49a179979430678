def F_X6_digest_L76 (N : Nat) (c0 : Nat) (K : Int64 → Int32 → XM → Option (Int64 × XM)) : Nat → Int64 → Int32 → XM → Option (Int64 × XM)
  | 0, _, _, _ => none
  | k + 1, x1, x3, f =>
    if 100 < x3 then
      K x1 x3 f
    else
      (x_cv f 6 c0 (F_X6_leavesBuilt N f c0 x3)).bind fun z15 =>
      (x_cv z15.2 6 c0 (F_X6_leavesBuilt N z15.2 c0 x3)).bind fun z16 =>
      (x_getr z16.2 6 c0 0).bind fun v17 =>
      Option.bind v17 fun a18 =>
      (x_ald z16.2 a18 1).bind fun v19 =>
      (x_cv z16.2 6 c0 (F_X6_levelsOf N z16.2 c0 z16.1 v19)).bind fun z20 =>
      F_X6_digest_L76 N c0 K k (((31 : Int64) * (((31 : Int64) * x1) + (z15.1 : Int32).toInt64)) + (z20 : Int32).toInt64) (x3 + 50) z16.2
def F_X6_digest_L200 (N : Nat) (f : XM) (c0 : Nat) (K : Int64 → Int32 → Option (Int64 × XM)) : Nat → Int64 → Int32 → Option (Int64 × XM)
  | 0, _, _ => none
  | k + 1, x1, x3 =>
    (x_geti f 6 c0 10).bind fun v35 =>
    if v35 ≤ x3 then
      K x1 x3
    else
      (x_getr f 6 c0 9).bind fun v36 =>
      Option.bind v36 fun a37 =>
      (x_ald f a37 x3).bind fun v38 =>
      F_X6_digest_L200 N f c0 K k (((31 : Int64) * x1) + (v38 : Int32).toInt64) (x3 + 1)
def F_X6_digest (N : Nat) (f : XM) (this : Nat) : Option (Int64 × XM) :=
  (x_puti f 6 this 11 0).bind fun f1 =>
  (x_cv f1 6 this (F_X6_runsIn N f1 this (4391 : Int64))).bind fun z2 =>
  (x_cv f1 6 this (F_X6_leavesIn N f1 this z2)).bind fun z3 =>
  (x_cv f1 6 this (F_X6_nodesIn N f1 this z3)).bind fun z4 =>
  (x_cv f1 6 this (F_X6_keysIn N f1 this z4)).bind fun z5 =>
  (x_getr z5.2 6 this 0).bind fun v6 =>
  Option.bind v6 fun a7 =>
  (x_ald z5.2 a7 4).bind fun v8 =>
  (x_getr z5.2 6 this 0).bind fun v9 =>
  Option.bind v9 fun a10 =>
  (x_ald z5.2 a10 5).bind fun v11 =>
  (x_cv z5.2 6 this (F_X6_allTold N z5.2 this)).bind fun z12 =>
  (x_cv z5.2 6 this (F_X6_worst N z5.2 this)).bind fun z13 =>
  F_X6_digest_L76 N this (fun y1_21 y3_21 g21 =>
  (x_geti g21 6 this 2).bind fun v22 =>
  (x_cv g21 6 this (F_X6_share N g21 this)).bind fun z23 =>
  (F_Jxe99ae_doubleToLongBits_ccdee N g21 z23).bind fun z24 =>
  (x_cv g21 6 this (F_X6_mean N g21 this)).bind fun z25 =>
  (F_Jxe99ae_doubleToLongBits_ccdee N z25.2 z25.1).bind fun z26 =>
  (x_getr z25.2 6 this 4).bind fun v27 =>
  Option.bind v27 fun a28 =>
  (x_ald z25.2 a28 0).bind fun v29 =>
  (x_getr z25.2 6 this 4).bind fun v30 =>
  Option.bind v30 fun a31 =>
  (x_ald z25.2 a31 1).bind fun v32 =>
  (x_geti z25.2 6 this 10).bind fun v33 =>
  F_X6_digest_L200 N z25.2 this (fun y1_39 y3_39 =>
  some (y1_39, z25.2)) N (((31 : Int64) * (((31 : Int64) * (((31 : Int64) * (((31 : Int64) * (((31 : Int64) * (((31 : Int64) * y1_21) + (v22 : Int32).toInt64)) + z24)) + z26)) + (v29 : Int32).toInt64)) + (v32 : Int32).toInt64)) + (v33 : Int32).toInt64) 0) N (((31 : Int64) * (((31 : Int64) * (((31 : Int64) * (((31 : Int64) * z5.1) + (v8 : Int32).toInt64)) + (v11 : Int32).toInt64)) + (z12 : Int32).toInt64)) + (z13.1 : Int32).toInt64) 50 z13.2
set_option maxRecDepth 20000 in
set_option maxHeartbeats 4000000 in
theorem w_X6_digest_L76 (N : Nat) (c0 : Nat) (K : Int64 → Int32 → XM → Option (Int64 × XM)) (n : Nat) (r : (Int64 × XM)) {rc rs : Nat} : ∀ (k : Nat) (x1 : Int64) (x3 : Int32) (f : XM), F_X6_digest_L76 N c0 K k x1 x3 f = some r → (∀ (x1 : Int64) (x3 : Int32) (f : XM), K x1 x3 f = some r → X mX6_digest 7 164 (x_end (xr_lm r n)) x_noRO rc rs 122 [(0, .ref c0), (1, .long x1), (3, .int x3)] [] (f, n)) → X mX6_digest 7 164 (x_end (xr_lm r n)) x_noRO rc rs 76 [(0, .ref c0), (1, .long x1), (3, .int x3)] [] (f, n) := by
  intro k
  induction k with
  | zero =>
    intro x1 x3 f hF
    exact absurd hF (by intro h9; cases h9)
  | succ k ih =>
    intro x1 x3 f hF hK
    have ih := fun x1 x3 f hF => ih x1 x3 f hF hK
    rw [F_X6_digest_L76] at hF
    refine x_iload_n 2 dX6_digest_76 rfl rfl ?_
    refine x_bipush 100 (by decide) dX6_digest_77 ?_
    refine x_icmp_gt 122 dX6_digest_79 (by decide) hF (fun hF => ?_) (fun hF => ?_)
    · refine x_sub [0, 1, 2] rfl ?_
      exact hK _ _ _ hF
    · refine x_ldc2 kc_X6_283 dX6_digest_82 ?_
      refine x_ldc2 kc_X6_283 dX6_digest_85 ?_
      refine x_lload_n 1 dX6_digest_88 rfl rfl ?_
      refine x_lmul dX6_digest_89 ?_
      refine x_aload_n 0 dX6_digest_90 rfl rfl ?_
      refine x_iload_n 2 dX6_digest_91 rfl rfl ?_
      obtain ⟨z15, hzz15, hF⟩ := x_bind hF
      obtain ⟨⟨fsz15, hbz15⟩, hzz15⟩ := x_cv_sp hzz15
      refine x_callv (As := [.int x3]) (rest := [.long ((31 : Int64) * x1), .long (31 : Int64)]) (rc + 0) (rs + 0) dX6_digest_92 mi_X6_leavesBuilt ml_X6_280 rfl rfl (Nat.le_of_ble_eq_true rfl) ⟨by decide, by decide⟩ (by omega) (by omega) hbz15 rfl (c_X6_leavesBuilt N _ _ _ _ _ hzz15) (x_K.some ?_) x_KX.none
      refine x_i2l dX6_digest_95 ?_
      refine x_ladd dX6_digest_96 ?_
      refine x_lmul dX6_digest_97 ?_
      refine x_aload_n 0 dX6_digest_98 rfl rfl ?_
      refine x_aload_n 0 dX6_digest_99 rfl rfl ?_
      refine x_iload_n 2 dX6_digest_100 rfl rfl ?_
      obtain ⟨z16, hzz16, hF⟩ := x_bind hF
      obtain ⟨⟨fsz16, hbz16⟩, hzz16⟩ := x_cv_sp hzz16
      refine x_callv (As := [.int x3]) (rest := [.ref c0, .long ((31 : Int64) * (((31 : Int64) * x1) + (z15.1 : Int32).toInt64))]) (rc + 0) (rs + 0) dX6_digest_101 mi_X6_leavesBuilt ml_X6_280 rfl rfl (Nat.le_of_ble_eq_true rfl) ⟨by decide, by decide⟩ (by omega) (by omega) hbz16 rfl (c_X6_leavesBuilt N _ _ _ _ _ hzz16) (x_K.some ?_) x_KX.none
      refine x_aload_n 0 dX6_digest_104 rfl rfl ?_
      refine x_getr_r dX6_digest_105 fl_X6_7 hF (fun v17 hF => ?_)
      refine x_iconst 1 (by decide) dX6_digest_108 ?_
      refine x_nn hF (fun a18 ha18 hF => ?_)
      rw [ha18]
      refine x_ald_r dX6_digest_109 hF (fun v19 hF => ?_)
      obtain ⟨z20, hzz20, hF⟩ := x_bind hF
      obtain ⟨⟨fsz20, hbz20⟩, hzz20⟩ := x_cv_sp hzz20
      refine x_callv (As := [.int z16.1, .int v19]) (rest := [.long ((31 : Int64) * (((31 : Int64) * x1) + (z15.1 : Int32).toInt64))]) (rc + 0) (rs + 0) dX6_digest_110 mi_X6_levelsOf ml_X6_117 rfl rfl (Nat.le_of_ble_eq_true rfl) ⟨by decide, by decide⟩ (by omega) (by omega) hbz20 rfl (c_X6_levelsOf N _ _ _ _ _ _ hzz20) (x_K.some ?_) x_KX.none
      refine x_i2l dX6_digest_113 ?_
      refine x_ladd dX6_digest_114 ?_
      refine x_lstore_n (i := 1) (lv' := [(1, .long (((31 : Int64) * (((31 : Int64) * x1) + (z15.1 : Int32).toInt64)) + (z20 : Int32).toInt64)), (0, .ref c0), (3, .int x3)]) dX6_digest_115 rfl (by decide) rfl ?_
      refine x_iinc (x3 + 50) (lv' := [(3, .int (x3 + 50)), (1, .long (((31 : Int64) * (((31 : Int64) * x1) + (z15.1 : Int32).toInt64)) + (z20 : Int32).toInt64)), (0, .ref c0)]) dX6_digest_116 2 rfl (by rfl) (by decide) rfl ?_
      refine x_goto 76 dX6_digest_119 (by decide) ?_
      refine x_sub [2, 1, 0] rfl ?_
      exact ih _ _ _ hF
set_option maxRecDepth 20000 in
set_option maxHeartbeats 4000000 in
theorem w_X6_digest_L200 (N : Nat) (f : XM) (c0 : Nat) (K : Int64 → Int32 → Option (Int64 × XM)) (n : Nat) (r : (Int64 × XM)) {rc rs : Nat} : ∀ (k : Nat) (x1 : Int64) (x3 : Int32), F_X6_digest_L200 N f c0 K k x1 x3 = some r → (∀ (x1 : Int64) (x3 : Int32), K x1 x3 = some r → X mX6_digest 7 164 (x_end (xr_lm r n)) x_noRO rc rs 228 [(0, .ref c0), (1, .long x1), (3, .int x3)] [] (f, n)) → X mX6_digest 7 164 (x_end (xr_lm r n)) x_noRO rc rs 200 [(0, .ref c0), (1, .long x1), (3, .int x3)] [] (f, n) := by
  intro k
  induction k with
  | zero =>
    intro x1 x3 hF
    exact absurd hF (by intro h9; cases h9)
  | succ k ih =>
    intro x1 x3 hF hK
    have ih := fun x1 x3 hF => ih x1 x3 hF hK
    rw [F_X6_digest_L200] at hF
    refine x_iload_n 2 dX6_digest_200 rfl rfl ?_
    refine x_aload_n 0 dX6_digest_201 rfl rfl ?_
    refine x_geti_r dX6_digest_202 fl_X6_184 hF (fun v35 hF => ?_)
    refine x_icmp_ge 228 dX6_digest_205 (by decide) hF (fun hF => ?_) (fun hF => ?_)
    · refine x_sub [0, 1, 2] rfl ?_
      exact hK _ _ hF
    · refine x_ldc2 kc_X6_283 dX6_digest_208 ?_
      refine x_lload_n 1 dX6_digest_211 rfl rfl ?_
      refine x_lmul dX6_digest_212 ?_
      refine x_aload_n 0 dX6_digest_213 rfl rfl ?_
      refine x_getr_r dX6_digest_214 fl_X6_32 hF (fun v36 hF => ?_)
      refine x_iload_n 2 dX6_digest_217 rfl rfl ?_
      refine x_nn hF (fun a37 ha37 hF => ?_)
      rw [ha37]
      refine x_ald_r dX6_digest_218 hF (fun v38 hF => ?_)
      refine x_i2l dX6_digest_219 ?_
      refine x_ladd dX6_digest_220 ?_
      refine x_lstore_n (i := 1) (lv' := [(1, .long (((31 : Int64) * x1) + (v38 : Int32).toInt64)), (0, .ref c0), (3, .int x3)]) dX6_digest_221 rfl (by decide) rfl ?_
      refine x_iinc (x3 + 1) (lv' := [(3, .int (x3 + 1)), (1, .long (((31 : Int64) * x1) + (v38 : Int32).toInt64)), (0, .ref c0)]) dX6_digest_222 2 rfl (by rfl) (by decide) rfl ?_
      refine x_goto 200 dX6_digest_225 (by decide) ?_
      refine x_sub [2, 1, 0] rfl ?_
      exact ih _ _ hF
set_option maxRecDepth 20000 in
set_option maxHeartbeats 4000000 in
theorem c_X6_digest (N : Nat) (f : XM) (this : Nat) (n : Nat) (r : (Int64 × XM)) (hF : F_X6_digest N f this = some r) : x_Ct mX6_digest 7 164 0 0 [.ref this] (f, n) (xr_lm r n) := by
  unfold F_X6_digest at hF
  refine x_ct (by decide) rfl (Nat.le_of_ble_eq_true rfl) ?_
  show X mX6_digest 7 164 _ _ 0 0 0 [(0, .ref this)] [] (f, n)
  refine x_aload_n 0 dX6_digest_0 rfl rfl ?_
  refine x_iconst 0 (by decide) dX6_digest_1 ?_
  refine x_puti_r dX6_digest_2 fl_X6_38 (fun h9 => by cases h9) hF (fun f1 hF => ?_)
  refine x_aload_n 0 dX6_digest_5 rfl rfl ?_
  refine x_aload_n 0 dX6_digest_6 rfl rfl ?_
  refine x_aload_n 0 dX6_digest_7 rfl rfl ?_
  refine x_aload_n 0 dX6_digest_8 rfl rfl ?_
  refine x_ldc2 kc_X6_285 dX6_digest_9 ?_
  obtain ⟨z2, hzz2, hF⟩ := x_bind hF
  obtain ⟨⟨fsz2, hbz2⟩, hzz2⟩ := x_cv_sp hzz2
  refine x_callv (As := [.long (4391 : Int64)]) (rest := [.ref this, .ref this, .ref this]) 0 0 dX6_digest_12 mi_X6_runsIn ml_X6_287 rfl rfl (Nat.le_of_ble_eq_true rfl) ⟨by decide, by decide⟩ (by omega) (by omega) hbz2 rfl (c_X6_runsIn N _ _ _ _ _ hzz2) (x_K.some ?_) x_KX.none
  obtain ⟨z3, hzz3, hF⟩ := x_bind hF
  obtain ⟨⟨fsz3, hbz3⟩, hzz3⟩ := x_cv_sp hzz3
  refine x_callv (As := [.long z2]) (rest := [.ref this, .ref this]) 0 0 dX6_digest_15 mi_X6_leavesIn ml_X6_291 rfl rfl (Nat.le_of_ble_eq_true rfl) ⟨by decide, by decide⟩ (by omega) (by omega) hbz3 rfl (c_X6_leavesIn N _ _ _ _ _ hzz3) (x_K.some ?_) x_KX.none
  obtain ⟨z4, hzz4, hF⟩ := x_bind hF
  obtain ⟨⟨fsz4, hbz4⟩, hzz4⟩ := x_cv_sp hzz4
  refine x_callv (As := [.long z3]) (rest := [.ref this]) 0 0 dX6_digest_18 mi_X6_nodesIn ml_X6_294 rfl rfl (Nat.le_of_ble_eq_true rfl) ⟨by decide, by decide⟩ (by omega) (by omega) hbz4 rfl (c_X6_nodesIn N _ _ _ _ _ hzz4) (x_K.some ?_) x_KX.none
  obtain ⟨z5, hzz5, hF⟩ := x_bind hF
  obtain ⟨⟨fsz5, hbz5⟩, hzz5⟩ := x_cv_sp hzz5
  refine x_callv (As := [.long z4]) (rest := []) 0 0 dX6_digest_21 mi_X6_keysIn ml_X6_297 rfl rfl (Nat.le_of_ble_eq_true rfl) ⟨by decide, by decide⟩ (by omega) (by omega) hbz5 rfl (c_X6_keysIn N _ _ _ _ _ hzz5) (x_K.some ?_) x_KX.none
  refine x_lstore_n (i := 1) (lv' := [(1, .long z5.1), (0, .ref this)]) dX6_digest_24 rfl (by decide) rfl ?_
  refine x_ldc2 kc_X6_283 dX6_digest_25 ?_
  refine x_ldc2 kc_X6_283 dX6_digest_28 ?_
  refine x_lload_n 0 dX6_digest_31 rfl rfl ?_
  refine x_lmul dX6_digest_32 ?_
  refine x_aload_n 1 dX6_digest_33 rfl rfl ?_
  refine x_getr_r dX6_digest_34 fl_X6_7 hF (fun v6 hF => ?_)
  refine x_iconst 4 (by decide) dX6_digest_37 ?_
  refine x_nn hF (fun a7 ha7 hF => ?_)
  rw [ha7]
  refine x_ald_r dX6_digest_38 hF (fun v8 hF => ?_)
  refine x_i2l dX6_digest_39 ?_
  refine x_ladd dX6_digest_40 ?_
  refine x_lmul dX6_digest_41 ?_
  refine x_aload_n 1 dX6_digest_42 rfl rfl ?_
  refine x_getr_r dX6_digest_43 fl_X6_7 hF (fun v9 hF => ?_)
  refine x_iconst 5 (by decide) dX6_digest_46 ?_
  refine x_nn hF (fun a10 ha10 hF => ?_)
  rw [ha10]
  refine x_ald_r dX6_digest_47 hF (fun v11 hF => ?_)
  refine x_i2l dX6_digest_48 ?_
  refine x_ladd dX6_digest_49 ?_
  refine x_lstore_n (i := 1) (lv' := [(1, .long (((31 : Int64) * (((31 : Int64) * z5.1) + (v8 : Int32).toInt64)) + (v11 : Int32).toInt64)), (0, .ref this)]) dX6_digest_50 rfl (by decide) rfl ?_
  refine x_ldc2 kc_X6_283 dX6_digest_51 ?_
  refine x_ldc2 kc_X6_283 dX6_digest_54 ?_
  refine x_lload_n 0 dX6_digest_57 rfl rfl ?_
  refine x_lmul dX6_digest_58 ?_
  refine x_aload_n 1 dX6_digest_59 rfl rfl ?_
  obtain ⟨z12, hzz12, hF⟩ := x_bind hF
  obtain ⟨⟨fsz12, hbz12⟩, hzz12⟩ := x_cv_sp hzz12
  refine x_callv (As := []) (rest := [.long ((31 : Int64) * (((31 : Int64) * (((31 : Int64) * z5.1) + (v8 : Int32).toInt64)) + (v11 : Int32).toInt64)), .long (31 : Int64)]) 0 0 dX6_digest_60 mi_X6_allTold ml_X6_264 rfl rfl (Nat.le_of_ble_eq_true rfl) ⟨by decide, by decide⟩ (by omega) (by omega) hbz12 rfl (c_X6_allTold N _ _ _ _ hzz12) (x_K.some ?_) x_KX.none
  refine x_i2l dX6_digest_63 ?_
  refine x_ladd dX6_digest_64 ?_
  refine x_lmul dX6_digest_65 ?_
  refine x_aload_n 1 dX6_digest_66 rfl rfl ?_
  obtain ⟨z13, hzz13, hF⟩ := x_bind hF
  obtain ⟨⟨fsz13, hbz13⟩, hzz13⟩ := x_cv_sp hzz13
  refine x_callv (As := []) (rest := [.long ((31 : Int64) * (((31 : Int64) * (((31 : Int64) * (((31 : Int64) * z5.1) + (v8 : Int32).toInt64)) + (v11 : Int32).toInt64)) + (z12 : Int32).toInt64))]) 0 0 dX6_digest_67 mi_X6_worst ml_X6_274 rfl rfl (Nat.le_of_ble_eq_true rfl) ⟨by decide, by decide⟩ (by omega) (by omega) hbz13 rfl (c_X6_worst N _ _ _ _ hzz13) (x_K.some ?_) x_KX.none
  refine x_i2l dX6_digest_70 ?_
  refine x_ladd dX6_digest_71 ?_
  refine x_lstore_n (i := 1) (lv' := [(1, .long (((31 : Int64) * (((31 : Int64) * (((31 : Int64) * (((31 : Int64) * z5.1) + (v8 : Int32).toInt64)) + (v11 : Int32).toInt64)) + (z12 : Int32).toInt64)) + (z13.1 : Int32).toInt64)), (0, .ref this)]) dX6_digest_72 rfl (by decide) rfl ?_
  refine x_bipush 50 (by decide) dX6_digest_73 ?_
  refine x_istore_n (i := 3) (lv' := [(3, .int 50), (1, .long (((31 : Int64) * (((31 : Int64) * (((31 : Int64) * (((31 : Int64) * z5.1) + (v8 : Int32).toInt64)) + (v11 : Int32).toInt64)) + (z12 : Int32).toInt64)) + (z13.1 : Int32).toInt64)), (0, .ref this)]) dX6_digest_75 rfl (by decide) rfl ?_
  refine x_sub [2, 1, 0] rfl ?_
  refine w_X6_digest_L76 N _ _ _ r _ _ _ _ hF (fun y1_21 y3_21 g21 hF => ?_)
  refine x_ldc2 kc_X6_283 dX6_digest_122 ?_
  refine x_lload_n 1 dX6_digest_125 rfl rfl ?_
  refine x_lmul dX6_digest_126 ?_
  refine x_aload_n 0 dX6_digest_127 rfl rfl ?_
  refine x_geti_r dX6_digest_128 fl_X6_42 hF (fun v22 hF => ?_)
  refine x_i2l dX6_digest_131 ?_
  refine x_ladd dX6_digest_132 ?_
  refine x_lstore_n (i := 1) (lv' := [(1, .long (((31 : Int64) * y1_21) + (v22 : Int32).toInt64)), (0, .ref this), (3, .int y3_21)]) dX6_digest_133 rfl (by decide) rfl ?_
  refine x_ldc2 kc_X6_283 dX6_digest_134 ?_
  refine x_ldc2 kc_X6_283 dX6_digest_137 ?_
  refine x_lload_n 0 dX6_digest_140 rfl rfl ?_
  refine x_lmul dX6_digest_141 ?_
  refine x_aload_n 1 dX6_digest_142 rfl rfl ?_
  obtain ⟨z23, hzz23, hF⟩ := x_bind hF
  obtain ⟨⟨fsz23, hbz23⟩, hzz23⟩ := x_cv_sp hzz23
  refine x_callv (As := []) (rest := [.long ((31 : Int64) * (((31 : Int64) * y1_21) + (v22 : Int32).toInt64)), .long (31 : Int64)]) 0 0 dX6_digest_143 mi_X6_share ml_X6_267 rfl rfl (Nat.le_of_ble_eq_true rfl) ⟨by decide, by decide⟩ (by omega) (by omega) hbz23 rfl (c_X6_share N _ _ _ _ hzz23) (x_K.some ?_) x_KX.none
  obtain ⟨z24, hzz24, hF⟩ := x_bind hF
  refine x_calls (As := [.double z23]) (rest := [.long ((31 : Int64) * (((31 : Int64) * y1_21) + (v22 : Int32).toInt64)), .long (31 : Int64)]) 0 0 dX6_digest_146 mi_Jxe99ae_doubleToLongBits_ccdee rfl ml_X6_300 rfl rfl (Nat.le_of_ble_eq_true rfl) ⟨by decide, by decide⟩ (by omega) (by omega) (c_Jxe99ae_doubleToLongBits_ccdee N _ _ _ _ hzz24) (x_K.some ?_) x_KX.none
  refine x_ladd dX6_digest_149 ?_
  refine x_lmul dX6_digest_150 ?_
  refine x_aload_n 1 dX6_digest_151 rfl rfl ?_
  obtain ⟨z25, hzz25, hF⟩ := x_bind hF
  obtain ⟨⟨fsz25, hbz25⟩, hzz25⟩ := x_cv_sp hzz25
  refine x_callv (As := []) (rest := [.long ((31 : Int64) * (((31 : Int64) * (((31 : Int64) * y1_21) + (v22 : Int32).toInt64)) + z24))]) 0 0 dX6_digest_152 mi_X6_mean ml_X6_271 rfl rfl (Nat.le_of_ble_eq_true rfl) ⟨by decide, by decide⟩ (by omega) (by omega) hbz25 rfl (c_X6_mean N _ _ _ _ hzz25) (x_K.some ?_) x_KX.none
  obtain ⟨z26, hzz26, hF⟩ := x_bind hF
  refine x_calls (As := [.double z25.1]) (rest := [.long ((31 : Int64) * (((31 : Int64) * (((31 : Int64) * y1_21) + (v22 : Int32).toInt64)) + z24))]) 0 0 dX6_digest_155 mi_Jxe99ae_doubleToLongBits_ccdee rfl ml_X6_300 rfl rfl (Nat.le_of_ble_eq_true rfl) ⟨by decide, by decide⟩ (by omega) (by omega) (c_Jxe99ae_doubleToLongBits_ccdee N _ _ _ _ hzz26) (x_K.some ?_) x_KX.none
  refine x_ladd dX6_digest_158 ?_
  refine x_lstore_n (i := 1) (lv' := [(1, .long (((31 : Int64) * (((31 : Int64) * (((31 : Int64) * y1_21) + (v22 : Int32).toInt64)) + z24)) + z26)), (0, .ref this), (3, .int y3_21)]) dX6_digest_159 rfl (by decide) rfl ?_
  refine x_ldc2 kc_X6_283 dX6_digest_160 ?_
  refine x_ldc2 kc_X6_283 dX6_digest_163 ?_
  refine x_lload_n 0 dX6_digest_166 rfl rfl ?_
  refine x_lmul dX6_digest_167 ?_
  refine x_aload_n 1 dX6_digest_168 rfl rfl ?_
  refine x_getr_r dX6_digest_169 fl_X6_20 hF (fun v27 hF => ?_)
  refine x_iconst 0 (by decide) dX6_digest_172 ?_
  refine x_nn hF (fun a28 ha28 hF => ?_)
  rw [ha28]
  refine x_ald_r dX6_digest_173 hF (fun v29 hF => ?_)
  refine x_i2l dX6_digest_174 ?_
  refine x_ladd dX6_digest_175 ?_
  refine x_lmul dX6_digest_176 ?_
  refine x_aload_n 1 dX6_digest_177 rfl rfl ?_
  refine x_getr_r dX6_digest_178 fl_X6_20 hF (fun v30 hF => ?_)
  refine x_iconst 1 (by decide) dX6_digest_181 ?_
  refine x_nn hF (fun a31 ha31 hF => ?_)
  rw [ha31]
  refine x_ald_r dX6_digest_182 hF (fun v32 hF => ?_)
  refine x_i2l dX6_digest_183 ?_
  refine x_ladd dX6_digest_184 ?_
  refine x_lstore_n (i := 1) (lv' := [(1, .long (((31 : Int64) * (((31 : Int64) * (((31 : Int64) * (((31 : Int64) * (((31 : Int64) * y1_21) + (v22 : Int32).toInt64)) + z24)) + z26)) + (v29 : Int32).toInt64)) + (v32 : Int32).toInt64)), (0, .ref this), (3, .int y3_21)]) dX6_digest_185 rfl (by decide) rfl ?_
  refine x_ldc2 kc_X6_283 dX6_digest_186 ?_
  refine x_lload_n 0 dX6_digest_189 rfl rfl ?_
  refine x_lmul dX6_digest_190 ?_
  refine x_aload_n 1 dX6_digest_191 rfl rfl ?_
  refine x_geti_r dX6_digest_192 fl_X6_184 hF (fun v33 hF => ?_)
  refine x_i2l dX6_digest_195 ?_
  refine x_ladd dX6_digest_196 ?_
  refine x_lstore_n (i := 1) (lv' := [(1, .long (((31 : Int64) * (((31 : Int64) * (((31 : Int64) * (((31 : Int64) * (((31 : Int64) * (((31 : Int64) * y1_21) + (v22 : Int32).toInt64)) + z24)) + z26)) + (v29 : Int32).toInt64)) + (v32 : Int32).toInt64)) + (v33 : Int32).toInt64)), (0, .ref this), (3, .int y3_21)]) dX6_digest_197 rfl (by decide) rfl ?_
  refine x_iconst 0 (by decide) dX6_digest_198 ?_
  refine x_istore_n (i := 3) (lv' := [(3, .int 0), (1, .long (((31 : Int64) * (((31 : Int64) * (((31 : Int64) * (((31 : Int64) * (((31 : Int64) * (((31 : Int64) * y1_21) + (v22 : Int32).toInt64)) + z24)) + z26)) + (v29 : Int32).toInt64)) + (v32 : Int32).toInt64)) + (v33 : Int32).toInt64)), (0, .ref this)]) dX6_digest_199 rfl (by decide) rfl ?_
  refine x_sub [2, 1, 0] rfl ?_
  refine w_X6_digest_L200 N _ _ _ _ r _ _ _ hF (fun y1_39 y3_39 hF => ?_)
  refine x_lload_n 1 dX6_digest_228 rfl rfl ?_
  exact x_lret dX6_digest_229 rfl (by cases hF; rfl)
def F_X6_writes_L30 (N : Nat) (c0 : Nat) (c1 : Int32) (c2 : Int32) (c3 : Int32) (c5 : Int32) (K : Int32 → XM → Option XM) : Nat → Int32 → XM → Option XM
  | 0, _, _ => none
  | k + 1, x4, f =>
    if x4 ≤ 0 then
      K x4 f
    else
      (x_cv f 6 c0 (F_X6_key N f c0 c1 (x4 - 1))).bind fun z7 =>
      if z7 ≤ c2 then
        K x4 f
      else
        (x_getr f 6 c0 0).bind fun v8 =>
        (x_cv f 6 c0 (F_X6_key N f c0 c1 (x4 - 1))).bind fun z9 =>
        Option.bind v8 fun a10 =>
        (x_ast f a10 ((c5 + 1) + (2 * x4)) z9).bind fun f11 =>
        (x_getr f11 6 c0 0).bind fun v12 =>
        (x_cv f11 6 c0 (F_X6_value N f11 c0 c1 (x4 - 1))).bind fun z13 =>
        Option.bind v12 fun a14 =>
        (x_ast f11 a14 ((c5 + 2) + (2 * x4)) z13).bind fun f15 =>
        F_X6_writes_L30 N c0 c1 c2 c3 c5 K k (x4 + (-1)) f15
def F_X6_writes (N : Nat) (f : XM) (this : Nat) (p0 : Int32) (p1 : Int32) (p2 : Int32) : Option XM :=
  (x_cv f 6 this (F_X6_placeIn N f this p0 p1)).bind fun z1 =>
  if z1 = (-1) then
    (x_cv f 6 this (F_X6_size N f this p0)).bind fun z5 =>
    F_X6_writes_L30 N this p0 p1 p2 (9 + (121 * p0)) (fun y4_16 g16 =>
    (x_getr g16 6 this 0).bind fun v17 =>
    Option.bind v17 fun a18 =>
    (x_ald g16 a18 (9 + (121 * p0))).bind fun v19 =>
    (x_ast g16 a18 (9 + (121 * p0)) (v19 + 1)).bind fun f20 =>
    (x_getr f20 6 this 0).bind fun v21 =>
    Option.bind v21 fun a22 =>
    (x_ast f20 a22 (((9 + (121 * p0)) + 1) + (2 * y4_16)) p1).bind fun f23 =>
    (x_getr f23 6 this 0).bind fun v24 =>
    Option.bind v24 fun a25 =>
    (x_ast f23 a25 (((9 + (121 * p0)) + 2) + (2 * y4_16)) p2).bind fun f26 =>
    some f26) N z5 f
  else
    (x_getr f 6 this 0).bind fun v2 =>
    Option.bind v2 fun a3 =>
    (x_ast f a3 (((9 + (121 * p0)) + 2) + (2 * z1)) p2).bind fun f4 =>
    some f4
set_option maxRecDepth 20000 in
set_option maxHeartbeats 4000000 in
theorem w_X6_writes_L30 (N : Nat) (c0 : Nat) (c1 : Int32) (c2 : Int32) (c3 : Int32) (c5 : Int32) (K : Int32 → XM → Option XM) (n : Nat) (r : XM) {rc rs : Nat} : ∀ (k : Nat) (x4 : Int32) (f : XM), F_X6_writes_L30 N c0 c1 c2 c3 c5 K k x4 f = some r → (∀ (x4 : Int32) (f : XM), K x4 f = some r → X mX6_writes 2 45 (x_end (xr_vm r n)) x_noRO rc rs 100 [(0, .ref c0), (1, .int c1), (2, .int c2), (3, .int c3), (4, .int x4), (5, .int c5)] [] (f, n)) → X mX6_writes 2 45 (x_end (xr_vm r n)) x_noRO rc rs 30 [(0, .ref c0), (1, .int c1), (2, .int c2), (3, .int c3), (4, .int x4), (5, .int c5)] [] (f, n) := by
  intro k
  induction k with
  | zero =>
    intro x4 f hF
    exact absurd hF (by intro h9; cases h9)
  | succ k ih =>
    intro x4 f hF hK
    have ih := fun x4 f hF => ih x4 f hF hK
    rw [F_X6_writes_L30] at hF
    refine x_iload 4 dX6_writes_30 rfl ?_
    refine x_if_le 100 dX6_writes_32 (by decide) hF (fun hF => ?_) (fun hF => ?_)
    · refine x_sub [0, 1, 2, 3, 4, 5] rfl ?_
      exact hK _ _ hF
    · refine x_aload_n 0 dX6_writes_35 rfl rfl ?_
      refine x_iload_n 1 dX6_writes_36 rfl rfl ?_
      refine x_iload 4 dX6_writes_37 rfl ?_
      refine x_iconst 1 (by decide) dX6_writes_39 ?_
      refine x_isub dX6_writes_40 ?_
      obtain ⟨z7, hzz7, hF⟩ := x_bind hF
      obtain ⟨⟨fsz7, hbz7⟩, hzz7⟩ := x_cv_sp hzz7
      refine x_callv (As := [.int c1, .int (x4 - 1)]) (rest := []) (rc + 0) (rs + 0) dX6_writes_41 mi_X6_key ml_X6_58 rfl rfl (Nat.le_of_ble_eq_true rfl) ⟨by decide, by decide⟩ (by omega) (by omega) hbz7 rfl (c_X6_key N _ _ _ _ _ _ hzz7) (x_K.some ?_) x_KX.none
      refine x_iload_n 2 dX6_writes_44 rfl rfl ?_
      refine x_icmp_le 100 dX6_writes_45 (by decide) hF (fun hF => ?_) (fun hF => ?_)
      · refine x_sub [0, 1, 2, 3, 4, 5] rfl ?_
        exact hK _ _ hF
      · refine x_aload_n 0 dX6_writes_48 rfl rfl ?_
        refine x_getr_r dX6_writes_49 fl_X6_7 hF (fun v8 hF => ?_)
        refine x_iload 5 dX6_writes_52 rfl ?_
        refine x_iconst 1 (by decide) dX6_writes_54 ?_
        refine x_iadd dX6_writes_55 ?_
        refine x_iconst 2 (by decide) dX6_writes_56 ?_
        refine x_iload 4 dX6_writes_57 rfl ?_
        refine x_imul dX6_writes_59 ?_
        refine x_iadd dX6_writes_60 ?_
        refine x_aload_n 0 dX6_writes_61 rfl rfl ?_
        refine x_iload_n 1 dX6_writes_62 rfl rfl ?_
        refine x_iload 4 dX6_writes_63 rfl ?_
        refine x_iconst 1 (by decide) dX6_writes_65 ?_
        refine x_isub dX6_writes_66 ?_
        obtain ⟨z9, hzz9, hF⟩ := x_bind hF
        obtain ⟨⟨fsz9, hbz9⟩, hzz9⟩ := x_cv_sp hzz9
        refine x_callv (As := [.int c1, .int (x4 - 1)]) (rest := [.int ((c5 + 1) + (2 * x4)), va_rf v8]) (rc + 0) (rs + 0) dX6_writes_67 mi_X6_key ml_X6_58 rfl rfl (by simp only [List.map_cons, List.map_nil, x_rfc]; exact Nat.le_of_ble_eq_true rfl) ⟨by decide, by decide⟩ (by omega) (by omega) hbz9 rfl (c_X6_key N _ _ _ _ _ _ hzz9) (x_K.some ?_) x_KX.none
        refine x_nn hF (fun a10 ha10 hF => ?_)
        rw [ha10]
        refine x_ast_r dX6_writes_70 hF (fun f11 hF => ?_)
        refine x_aload_n 0 dX6_writes_71 rfl rfl ?_
        refine x_getr_r dX6_writes_72 fl_X6_7 hF (fun v12 hF => ?_)
        refine x_iload 5 dX6_writes_75 rfl ?_
        refine x_iconst 2 (by decide) dX6_writes_77 ?_
        refine x_iadd dX6_writes_78 ?_
        refine x_iconst 2 (by decide) dX6_writes_79 ?_
        refine x_iload 4 dX6_writes_80 rfl ?_
        refine x_imul dX6_writes_82 ?_
        refine x_iadd dX6_writes_83 ?_
        refine x_aload_n 0 dX6_writes_84 rfl rfl ?_
        refine x_iload_n 1 dX6_writes_85 rfl rfl ?_
        refine x_iload 4 dX6_writes_86 rfl ?_
        refine x_iconst 1 (by decide) dX6_writes_88 ?_
        refine x_isub dX6_writes_89 ?_
        obtain ⟨z13, hzz13, hF⟩ := x_bind hF
        obtain ⟨⟨fsz13, hbz13⟩, hzz13⟩ := x_cv_sp hzz13
        refine x_callv (As := [.int c1, .int (x4 - 1)]) (rest := [.int ((c5 + 2) + (2 * x4)), va_rf v12]) (rc + 0) (rs + 0) dX6_writes_90 mi_X6_value ml_X6_65 rfl rfl (by simp only [List.map_cons, List.map_nil, x_rfc]; exact Nat.le_of_ble_eq_true rfl) ⟨by decide, by decide⟩ (by omega) (by omega) hbz13 rfl (c_X6_value N _ _ _ _ _ _ hzz13) (x_K.some ?_) x_KX.none
        refine x_nn hF (fun a14 ha14 hF => ?_)
        rw [ha14]
        refine x_ast_r dX6_writes_93 hF (fun f15 hF => ?_)
        refine x_iinc (x4 + (-1)) (lv' := [(4, .int (x4 + (-1))), (0, .ref c0), (1, .int c1), (2, .int c2), (3, .int c3), (5, .int c5)]) dX6_writes_94 4 rfl (by rfl) (by decide) rfl ?_
        refine x_goto 30 dX6_writes_97 (by decide) ?_
        refine x_sub [1, 2, 3, 4, 0, 5] rfl ?_
        exact ih _ _ hF
set_option maxRecDepth 20000 in
set_option maxHeartbeats 4000000 in
theorem c_X6_writes (N : Nat) (f : XM) (this : Nat) (p0 : Int32) (p1 : Int32) (p2 : Int32) (n : Nat) (r : XM) (hF : F_X6_writes N f this p0 p1 p2 = some r) : x_Ct mX6_writes 2 45 0 0 [.ref this, .int p0, .int p1, .int p2] (f, n) (xr_vm r n) := by
  unfold F_X6_writes at hF
  refine x_ct (by decide) rfl (Nat.le_of_ble_eq_true rfl) ?_
  show X mX6_writes 2 45 _ _ 0 0 0 [(0, .ref this), (1, .int p0), (2, .int p1), (3, .int p2)] [] (f, n)
  refine x_aload_n 0 dX6_writes_0 rfl rfl ?_
  refine x_iload_n 1 dX6_writes_1 rfl rfl ?_
  refine x_iload_n 2 dX6_writes_2 rfl rfl ?_
  obtain ⟨z1, hzz1, hF⟩ := x_bind hF
  obtain ⟨⟨fsz1, hbz1⟩, hzz1⟩ := x_cv_sp hzz1
  refine x_callv (As := [.int p0, .int p1]) (rest := []) 0 0 dX6_writes_3 mi_X6_placeIn ml_X6_62 rfl rfl (Nat.le_of_ble_eq_true rfl) ⟨by decide, by decide⟩ (by omega) (by omega) hbz1 rfl (c_X6_placeIn N _ _ _ _ _ _ hzz1) (x_K.some ?_) x_KX.none
  refine x_istore (i := 4) (lv' := [(4, .int z1), (0, .ref this), (1, .int p0), (2, .int p1), (3, .int p2)]) dX6_writes_6 (by decide) rfl ?_
  refine x_bipush 9 (by decide) dX6_writes_8 ?_
  refine x_bipush 121 (by decide) dX6_writes_10 ?_
  refine x_iload_n 2 dX6_writes_12 rfl rfl ?_
  refine x_imul dX6_writes_13 ?_
  refine x_iadd dX6_writes_14 ?_
  refine x_istore (i := 5) (lv' := [(5, .int (9 + (121 * p0))), (4, .int z1), (0, .ref this), (1, .int p0), (2, .int p1), (3, .int p2)]) dX6_writes_15 (by decide) rfl ?_
  refine x_iload 1 dX6_writes_17 rfl ?_
  refine x_iconst (-1) (by decide) dX6_writes_19 ?_
  refine x_icmp_ne 126 dX6_writes_20 (by decide) hF (fun hF => ?_) (fun hF => ?_)
  · refine x_aload_n 2 dX6_writes_126 rfl rfl ?_
    refine x_getr_r dX6_writes_127 fl_X6_7 hF (fun v2 hF => ?_)
    refine x_iload 0 dX6_writes_130 rfl ?_
    refine x_iconst 2 (by decide) dX6_writes_132 ?_
    refine x_iadd dX6_writes_133 ?_
    refine x_iconst 2 (by decide) dX6_writes_134 ?_
    refine x_iload 1 dX6_writes_135 rfl ?_
    refine x_imul dX6_writes_137 ?_
    refine x_iadd dX6_writes_138 ?_
    refine x_iload_n 5 dX6_writes_139 rfl rfl ?_
    refine x_nn hF (fun a3 ha3 hF => ?_)
    rw [ha3]
    refine x_ast_r dX6_writes_140 hF (fun f4 hF => ?_)
    exact x_vret dX6_writes_141 rfl (by cases hF; rfl)
  · refine x_aload_n 2 dX6_writes_23 rfl rfl ?_
    refine x_iload_n 3 dX6_writes_24 rfl rfl ?_
    obtain ⟨z5, hzz5, hF⟩ := x_bind hF
    obtain ⟨⟨fsz5, hbz5⟩, hzz5⟩ := x_cv_sp hzz5
    refine x_callv (As := [.int p0]) (rest := []) 0 0 dX6_writes_25 mi_X6_size ml_X6_54 rfl rfl (Nat.le_of_ble_eq_true rfl) ⟨by decide, by decide⟩ (by omega) (by omega) hbz5 rfl (c_X6_size N _ _ _ _ _ hzz5) (x_K.some ?_) x_KX.none
    refine x_istore (i := 4) (lv' := [(4, .int z5), (5, .int (9 + (121 * p0))), (0, .ref this), (1, .int p0), (2, .int p1), (3, .int p2)]) dX6_writes_28 (by decide) rfl ?_
    refine x_sub [2, 3, 4, 5, 0, 1] rfl ?_
    refine w_X6_writes_L30 N _ _ _ _ _ _ _ r _ _ _ hF (fun y4_16 g16 hF => ?_)
    refine x_aload_n 0 dX6_writes_100 rfl rfl ?_
    refine x_getr_r dX6_writes_101 fl_X6_7 hF (fun v17 hF => ?_)
    refine x_iload 5 dX6_writes_104 rfl ?_
    refine x_nn hF (fun a18 ha18 hF => ?_)
    rw [ha18]
    refine x_dup2ri dX6_writes_106 ?_
    refine x_ald_r dX6_writes_107 hF (fun v19 hF => ?_)
    refine x_iconst 1 (by decide) dX6_writes_108 ?_
    refine x_iadd dX6_writes_109 ?_
    refine x_ast_r dX6_writes_110 hF (fun f20 hF => ?_)
    refine x_aload_n 0 dX6_writes_111 rfl rfl ?_
    refine x_getr_r dX6_writes_112 fl_X6_7 hF (fun v21 hF => ?_)
    refine x_iload 5 dX6_writes_115 rfl ?_
    refine x_iconst 1 (by decide) dX6_writes_117 ?_
    refine x_iadd dX6_writes_118 ?_
    refine x_iconst 2 (by decide) dX6_writes_119 ?_
    refine x_iload 4 dX6_writes_120 rfl ?_
    refine x_imul dX6_writes_122 ?_
    refine x_iadd dX6_writes_123 ?_
    refine x_iload_n 2 dX6_writes_124 rfl rfl ?_
    refine x_nn hF (fun a22 ha22 hF => ?_)
    rw [ha22]
    refine x_ast_r dX6_writes_125 hF (fun f23 hF => ?_)
    refine x_aload_n 0 dX6_writes_126 rfl rfl ?_
    refine x_getr_r dX6_writes_127 fl_X6_7 hF (fun v24 hF => ?_)
    refine x_iload 5 dX6_writes_130 rfl ?_
    refine x_iconst 2 (by decide) dX6_writes_132 ?_
    refine x_iadd dX6_writes_133 ?_
    refine x_iconst 2 (by decide) dX6_writes_134 ?_
    refine x_iload 4 dX6_writes_135 rfl ?_
    refine x_imul dX6_writes_137 ?_
    refine x_iadd dX6_writes_138 ?_
    refine x_iload_n 3 dX6_writes_139 rfl rfl ?_
    refine x_nn hF (fun a25 ha25 hF => ?_)
    rw [ha25]
    refine x_ast_r dX6_writes_140 hF (fun f26 hF => ?_)
    exact x_vret dX6_writes_141 rfl (by cases hF; rfl)
def F_X6_tells (N : Nat) (f : XM) (this : Nat) (p0 : Int32) (p1 : Int32) : Option (Int32 × XM) :=
  (x_cv f 6 this (F_X6_writes N f this 0 p0 p1)).bind fun z1 =>
  (x_cv z1 6 this (F_X6_size N z1 this 0)).bind fun z2 =>
  some (z2, z1)
set_option maxRecDepth 20000 in
set_option maxHeartbeats 4000000 in
theorem c_X6_tells (N : Nat) (f : XM) (this : Nat) (p0 : Int32) (p1 : Int32) (n : Nat) (r : (Int32 × XM)) (hF : F_X6_tells N f this p0 p1 = some r) : x_Ct mX6_tells 3 70 0 0 [.ref this, .int p0, .int p1] (f, n) (xr_im r n) := by
  unfold F_X6_tells at hF
  refine x_ct (by decide) rfl (Nat.le_of_ble_eq_true rfl) ?_
  show X mX6_tells 3 70 _ _ 0 0 0 [(0, .ref this), (1, .int p0), (2, .int p1)] [] (f, n)
  refine x_aload_n 0 dX6_tells_0 rfl rfl ?_
  refine x_iconst 0 (by decide) dX6_tells_1 ?_
  refine x_iload_n 1 dX6_tells_2 rfl rfl ?_
  refine x_iload_n 2 dX6_tells_3 rfl rfl ?_
  obtain ⟨z1, hzz1, hF⟩ := x_bind hF
  obtain ⟨⟨fsz1, hbz1⟩, hzz1⟩ := x_cv_sp hzz1
  refine x_callv (As := [.int 0, .int p0, .int p1]) (rest := []) 0 0 dX6_tells_4 mi_X6_writes ml_X6_68 rfl rfl (Nat.le_of_ble_eq_true rfl) ⟨by decide, by decide⟩ (by omega) (by omega) hbz1 rfl (c_X6_writes N _ _ _ _ _ _ _ hzz1) (x_K.none ?_) x_KX.none
  refine x_aload_n 0 dX6_tells_7 rfl rfl ?_
  refine x_iconst 0 (by decide) dX6_tells_8 ?_
  obtain ⟨z2, hzz2, hF⟩ := x_bind hF
  obtain ⟨⟨fsz2, hbz2⟩, hzz2⟩ := x_cv_sp hzz2
  refine x_callv (As := [.int 0]) (rest := []) 0 0 dX6_tells_9 mi_X6_size ml_X6_54 rfl rfl (Nat.le_of_ble_eq_true rfl) ⟨by decide, by decide⟩ (by omega) (by omega) hbz2 rfl (c_X6_size N _ _ _ _ _ hzz2) (x_K.some ?_) x_KX.none
  exact x_iret dX6_tells_12 rfl (by cases hF; rfl)
def F_X6_drop (N : Nat) (f : XM) (this : Nat) (p0 : Int32) : Option (Int32 × XM) :=
  (F_X6_isKey N f p0).bind fun z1 =>
  if (x_b z1) = 0 then
    (x_puti f 6 this 11 1).bind fun f15 =>
    (x_geti f15 6 this 11).bind fun v16 =>
    if v16 ≤ 0 then
      (x_getr f15 6 this 0).bind fun v17 =>
      Option.bind v17 fun a18 =>
      (x_cv f15 6 this (F_X6_saves N f15 this a18)).bind fun z19 =>
      (x_cv z19 6 this (F_X6_tells N z19 this p0 (-1))).bind fun z20 =>
      some (z20.1, z20.2)
    else
      some (0, f15)
  else
    (x_cv f 6 this (F_X6_canWrite N f this p0)).bind fun z2 =>
    if (x_b z2) = 0 then
      (x_puti f 6 this 11 2).bind fun f3 =>
      (x_geti f3 6 this 11).bind fun v4 =>
      if v4 ≤ 0 then
        (x_getr f3 6 this 0).bind fun v5 =>
        Option.bind v5 fun a6 =>
        (x_cv f3 6 this (F_X6_saves N f3 this a6)).bind fun z7 =>
        (x_cv z7 6 this (F_X6_tells N z7 this p0 (-1))).bind fun z8 =>
        some (z8.1, z8.2)
      else
        some (0, f3)
    else
      (x_puti f 6 this 11 0).bind fun f9 =>
      (x_geti f9 6 this 11).bind fun v10 =>
      if v10 ≤ 0 then
        (x_getr f9 6 this 0).bind fun v11 =>
        Option.bind v11 fun a12 =>
        (x_cv f9 6 this (F_X6_saves N f9 this a12)).bind fun z13 =>
        (x_cv z13 6 this (F_X6_tells N z13 this p0 (-1))).bind fun z14 =>
        some (z14.1, z14.2)
      else
        some (0, f9)
set_option maxRecDepth 20000 in
set_option maxHeartbeats 4000000 in
theorem c_X6_drop (N : Nat) (f : XM) (this : Nat) (p0 : Int32) (n : Nat) (r : (Int32 × XM)) (hF : F_X6_drop N f this p0 = some r) : x_Ct mX6_drop 4 92 0 0 [.ref this, .int p0] (f, n) (xr_im r n) := by
  unfold F_X6_drop at hF
  refine x_ct (by decide) rfl (Nat.le_of_ble_eq_true rfl) ?_
  show X mX6_drop 4 92 _ _ 0 0 0 [(0, .ref this), (1, .int p0)] [] (f, n)
  refine x_aload_n 0 dX6_drop_0 rfl rfl ?_
  refine x_iload_n 1 dX6_drop_1 rfl rfl ?_
  obtain ⟨z1, hzz1, hF⟩ := x_bind hF
  refine x_calls (As := [.int p0]) (rest := [.ref this]) 0 0 dX6_drop_2 mi_X6_isKey rfl ml_X6_129 rfl rfl (Nat.le_of_ble_eq_true rfl) ⟨by decide, by decide⟩ (by omega) (by omega) (c_X6_isKey N _ _ _ _ hzz1) (x_K.some ?_) x_KX.none
  refine x_if_ne 12 dX6_drop_5 (by decide) hF (fun hF => ?_) (fun hF => ?_)
  · refine x_aload_n 0 dX6_drop_12 rfl rfl ?_
    refine x_iload_n 1 dX6_drop_13 rfl rfl ?_
    obtain ⟨z2, hzz2, hF⟩ := x_bind hF
    obtain ⟨⟨fsz2, hbz2⟩, hzz2⟩ := x_cv_sp hzz2
    refine x_callv (As := [.int p0]) (rest := [.ref this]) 0 0 dX6_drop_14 mi_X6_canWrite ml_X6_136 rfl rfl (Nat.le_of_ble_eq_true rfl) ⟨by decide, by decide⟩ (by omega) (by omega) hbz2 rfl (c_X6_canWrite N _ _ _ _ _ hzz2) (x_K.some ?_) x_KX.none
    refine x_if_eq 24 dX6_drop_17 (by decide) hF (fun hF => ?_) (fun hF => ?_)
    · refine x_iconst 2 (by decide) dX6_drop_24 ?_
      refine x_puti_r dX6_drop_25 fl_X6_38 (fun h9 => by cases h9) hF (fun f3 hF => ?_)
      refine x_aload_n 0 dX6_drop_28 rfl rfl ?_
      refine x_geti_r dX6_drop_29 fl_X6_38 hF (fun v4 hF => ?_)
      refine x_if_le 37 dX6_drop_32 (by decide) hF (fun hF => ?_) (fun hF => ?_)
      · refine x_aload_n 0 dX6_drop_37 rfl rfl ?_
        refine x_aload_n 0 dX6_drop_38 rfl rfl ?_
        refine x_getr_r dX6_drop_39 fl_X6_7 hF (fun v5 hF => ?_)
        refine x_nn hF (fun a6 ha6 hF => ?_)
        rw [ha6]
        obtain ⟨z7, hzz7, hF⟩ := x_bind hF
        obtain ⟨⟨fsz7, hbz7⟩, hzz7⟩ := x_cv_sp hzz7
        refine x_callv (As := [.ref a6]) (rest := []) 0 0 dX6_drop_42 mi_X6_saves ml_X6_139 rfl rfl (Nat.le_of_ble_eq_true rfl) ⟨by decide, by decide⟩ (by omega) (by omega) hbz7 rfl (c_X6_saves N _ _ _ _ _ hzz7) (x_K.none ?_) x_KX.none
        refine x_aload_n 0 dX6_drop_45 rfl rfl ?_
        refine x_iload_n 1 dX6_drop_46 rfl rfl ?_
        refine x_iconst (-1) (by decide) dX6_drop_47 ?_
        obtain ⟨z8, hzz8, hF⟩ := x_bind hF
        obtain ⟨⟨fsz8, hbz8⟩, hzz8⟩ := x_cv_sp hzz8
        refine x_callv (As := [.int p0, .int (-1)]) (rest := []) 0 0 dX6_drop_48 mi_X6_tells ml_X6_143 rfl rfl (Nat.le_of_ble_eq_true rfl) ⟨by decide, by decide⟩ (by omega) (by omega) hbz8 rfl (c_X6_tells N _ _ _ _ _ _ hzz8) (x_K.some ?_) x_KX.none
        exact x_iret dX6_drop_51 rfl (by cases hF; rfl)
      · refine x_iconst 0 (by decide) dX6_drop_35 ?_
        exact x_iret dX6_drop_36 rfl (by cases hF; rfl)
    · refine x_iconst 0 (by decide) dX6_drop_20 ?_
      refine x_goto 25 dX6_drop_21 (by decide) ?_
      refine x_puti_r dX6_drop_25 fl_X6_38 (fun h9 => by cases h9) hF (fun f9 hF => ?_)
      refine x_aload_n 0 dX6_drop_28 rfl rfl ?_
      refine x_geti_r dX6_drop_29 fl_X6_38 hF (fun v10 hF => ?_)
      refine x_if_le 37 dX6_drop_32 (by decide) hF (fun hF => ?_) (fun hF => ?_)
      · refine x_aload_n 0 dX6_drop_37 rfl rfl ?_
        refine x_aload_n 0 dX6_drop_38 rfl rfl ?_
        refine x_getr_r dX6_drop_39 fl_X6_7 hF (fun v11 hF => ?_)
        refine x_nn hF (fun a12 ha12 hF => ?_)
        rw [ha12]
        obtain ⟨z13, hzz13, hF⟩ := x_bind hF
        obtain ⟨⟨fsz13, hbz13⟩, hzz13⟩ := x_cv_sp hzz13
        refine x_callv (As := [.ref a12]) (rest := []) 0 0 dX6_drop_42 mi_X6_saves ml_X6_139 rfl rfl (Nat.le_of_ble_eq_true rfl) ⟨by decide, by decide⟩ (by omega) (by omega) hbz13 rfl (c_X6_saves N _ _ _ _ _ hzz13) (x_K.none ?_) x_KX.none
        refine x_aload_n 0 dX6_drop_45 rfl rfl ?_
        refine x_iload_n 1 dX6_drop_46 rfl rfl ?_
        refine x_iconst (-1) (by decide) dX6_drop_47 ?_
        obtain ⟨z14, hzz14, hF⟩ := x_bind hF
        obtain ⟨⟨fsz14, hbz14⟩, hzz14⟩ := x_cv_sp hzz14
        refine x_callv (As := [.int p0, .int (-1)]) (rest := []) 0 0 dX6_drop_48 mi_X6_tells ml_X6_143 rfl rfl (Nat.le_of_ble_eq_true rfl) ⟨by decide, by decide⟩ (by omega) (by omega) hbz14 rfl (c_X6_tells N _ _ _ _ _ _ hzz14) (x_K.some ?_) x_KX.none
        exact x_iret dX6_drop_51 rfl (by cases hF; rfl)
      · refine x_iconst 0 (by decide) dX6_drop_35 ?_
        exact x_iret dX6_drop_36 rfl (by cases hF; rfl)
  · refine x_iconst 1 (by decide) dX6_drop_8 ?_
    refine x_goto 25 dX6_drop_9 (by decide) ?_
    refine x_puti_r dX6_drop_25 fl_X6_38 (fun h9 => by cases h9) hF (fun f15 hF => ?_)
    refine x_aload_n 0 dX6_drop_28 rfl rfl ?_
    refine x_geti_r dX6_drop_29 fl_X6_38 hF (fun v16 hF => ?_)
    refine x_if_le 37 dX6_drop_32 (by decide) hF (fun hF => ?_) (fun hF => ?_)
    · refine x_aload_n 0 dX6_drop_37 rfl rfl ?_
      refine x_aload_n 0 dX6_drop_38 rfl rfl ?_
      refine x_getr_r dX6_drop_39 fl_X6_7 hF (fun v17 hF => ?_)
      refine x_nn hF (fun a18 ha18 hF => ?_)
      rw [ha18]
      obtain ⟨z19, hzz19, hF⟩ := x_bind hF
      obtain ⟨⟨fsz19, hbz19⟩, hzz19⟩ := x_cv_sp hzz19
      refine x_callv (As := [.ref a18]) (rest := []) 0 0 dX6_drop_42 mi_X6_saves ml_X6_139 rfl rfl (Nat.le_of_ble_eq_true rfl) ⟨by decide, by decide⟩ (by omega) (by omega) hbz19 rfl (c_X6_saves N _ _ _ _ _ hzz19) (x_K.none ?_) x_KX.none
      refine x_aload_n 0 dX6_drop_45 rfl rfl ?_
      refine x_iload_n 1 dX6_drop_46 rfl rfl ?_
      refine x_iconst (-1) (by decide) dX6_drop_47 ?_
      obtain ⟨z20, hzz20, hF⟩ := x_bind hF
      obtain ⟨⟨fsz20, hbz20⟩, hzz20⟩ := x_cv_sp hzz20
      refine x_callv (As := [.int p0, .int (-1)]) (rest := []) 0 0 dX6_drop_48 mi_X6_tells ml_X6_143 rfl rfl (Nat.le_of_ble_eq_true rfl) ⟨by decide, by decide⟩ (by omega) (by omega) hbz20 rfl (c_X6_tells N _ _ _ _ _ _ hzz20) (x_K.some ?_) x_KX.none
      exact x_iret dX6_drop_51 rfl (by cases hF; rfl)
    · refine x_iconst 0 (by decide) dX6_drop_35 ?_
      exact x_iret dX6_drop_36 rfl (by cases hF; rfl)
def F_X6_entries (N : Nat) (f : XM) (this : Nat) : Option (Int32 × XM) :=
  (x_puti f 6 this 11 0).bind fun f1 =>
  (x_getr f1 6 this 0).bind fun v2 =>
  Option.bind v2 fun a3 =>
  (x_ald f1 a3 7).bind fun v4 =>
  some (v4, f1)
set_option maxRecDepth 20000 in
set_option maxHeartbeats 4000000 in
theorem c_X6_entries (N : Nat) (f : XM) (this : Nat) (n : Nat) (r : (Int32 × XM)) (hF : F_X6_entries N f this = some r) : x_Ct mX6_entries 0 0 0 0 [.ref this] (f, n) (xr_im r n) := by
  unfold F_X6_entries at hF
  refine x_ct (by decide) rfl (Nat.le_of_ble_eq_true rfl) ?_
  show X mX6_entries 0 0 _ _ 0 0 0 [(0, .ref this)] [] (f, n)
  refine x_aload_n 0 dX6_entries_0 rfl rfl ?_
  refine x_iconst 0 (by decide) dX6_entries_1 ?_
  refine x_puti_r dX6_entries_2 fl_X6_38 (fun h9 => by cases h9) hF (fun f1 hF => ?_)
  refine x_aload_n 0 dX6_entries_5 rfl rfl ?_
  refine x_getr_r dX6_entries_6 fl_X6_7 hF (fun v2 hF => ?_)
  refine x_bipush 7 (by decide) dX6_entries_9 ?_
  refine x_nn hF (fun a3 ha3 hF => ?_)
  rw [ha3]
  refine x_ald_r dX6_entries_11 hF (fun v4 hF => ?_)
  exact x_iret dX6_entries_12 rfl (by cases hF; rfl)
def F_X6_isLeaf (N : Nat) (f : XM) (this : Nat) (p0 : Int32) : Option Bool :=
  (x_getr f 6 this 0).bind fun v1 =>
  Option.bind v1 fun a2 =>
  (x_ald f a2 8).bind fun v3 =>
  (F_X6_in N f p0 0 (v3 - 1)).bind fun z4 =>
  some z4
set_option maxRecDepth 20000 in
set_option maxHeartbeats 4000000 in
theorem c_X6_isLeaf (N : Nat) (f : XM) (this : Nat) (p0 : Int32) (n : Nat) (r : Bool) (hF : F_X6_isLeaf N f this p0 = some r) : x_Ct mX6_isLeaf 1 22 0 0 [.ref this, .int p0] (f, n) (xr_zp r (f, n)) := by
  unfold F_X6_isLeaf at hF
  refine x_ct (by decide) rfl (Nat.le_of_ble_eq_true rfl) ?_
  show X mX6_isLeaf 1 22 _ _ 0 0 0 [(0, .ref this), (1, .int p0)] [] (f, n)
  refine x_iload_n 1 dX6_isLeaf_0 rfl rfl ?_
  refine x_iconst 0 (by decide) dX6_isLeaf_1 ?_
  refine x_aload_n 0 dX6_isLeaf_2 rfl rfl ?_
  refine x_getr_r dX6_isLeaf_3 fl_X6_7 hF (fun v1 hF => ?_)
  refine x_bipush 8 (by decide) dX6_isLeaf_6 ?_
  refine x_nn hF (fun a2 ha2 hF => ?_)
  rw [ha2]
  refine x_ald_r dX6_isLeaf_8 hF (fun v3 hF => ?_)
  refine x_iconst 1 (by decide) dX6_isLeaf_9 ?_
  refine x_isub dX6_isLeaf_10 ?_
  obtain ⟨z4, hzz4, hF⟩ := x_bind hF
  refine x_calls (As := [.int p0, .int 0, .int (v3 - 1)]) (rest := []) 0 0 dX6_isLeaf_11 mi_X6_in rfl ml_X6_50 rfl rfl (Nat.le_of_ble_eq_true rfl) ⟨by decide, by decide⟩ (by omega) (by omega) (c_X6_in N _ _ _ _ _ _ hzz4) (x_K.some ?_) x_KX.none
  exact x_zret dX6_isLeaf_14 rfl (x_b_01 z4) (by cases hF; rfl)
def F_X6_entriesOf (N : Nat) (f : XM) (this : Nat) (p0 : Int32) : Option (Int32 × XM) :=
  (x_cv f 6 this (F_X6_isLeaf N f this p0)).bind fun z1 =>
  if (x_b z1) = 0 then
    (x_puti f 6 this 11 1).bind fun f2 =>
    (x_geti f2 6 this 11).bind fun v3 =>
    if v3 ≤ 0 then
      (x_cv f2 6 this (F_X6_own N f2 this p0)).bind fun z4 =>
      some (z4, f2)
    else
      some (0, f2)
  else
    (x_puti f 6 this 11 0).bind fun f5 =>
    (x_geti f5 6 this 11).bind fun v6 =>
    if v6 ≤ 0 then
      (x_cv f5 6 this (F_X6_own N f5 this p0)).bind fun z7 =>
      some (z7, f5)
    else
      some (0, f5)
set_option maxRecDepth 20000 in
set_option maxHeartbeats 4000000 in
theorem c_X6_entriesOf (N : Nat) (f : XM) (this : Nat) (p0 : Int32) (n : Nat) (r : (Int32 × XM)) (hF : F_X6_entriesOf N f this p0 = some r) : x_Ct mX6_entriesOf 2 45 0 0 [.ref this, .int p0] (f, n) (xr_im r n) := by
  unfold F_X6_entriesOf at hF
  refine x_ct (by decide) rfl (Nat.le_of_ble_eq_true rfl) ?_
  show X mX6_entriesOf 2 45 _ _ 0 0 0 [(0, .ref this), (1, .int p0)] [] (f, n)
  refine x_aload_n 0 dX6_entriesOf_0 rfl rfl ?_
  refine x_aload_n 0 dX6_entriesOf_1 rfl rfl ?_
  refine x_iload_n 1 dX6_entriesOf_2 rfl rfl ?_
  obtain ⟨z1, hzz1, hF⟩ := x_bind hF
  obtain ⟨⟨fsz1, hbz1⟩, hzz1⟩ := x_cv_sp hzz1
  refine x_callv (As := [.int p0]) (rest := [.ref this]) 0 0 dX6_entriesOf_3 mi_X6_isLeaf ml_X6_243 rfl rfl (Nat.le_of_ble_eq_true rfl) ⟨by decide, by decide⟩ (by omega) (by omega) hbz1 rfl (c_X6_isLeaf N _ _ _ _ _ hzz1) (x_K.some ?_) x_KX.none
  refine x_if_eq 13 dX6_entriesOf_6 (by decide) hF (fun hF => ?_) (fun hF => ?_)
  · refine x_iconst 1 (by decide) dX6_entriesOf_13 ?_
    refine x_puti_r dX6_entriesOf_14 fl_X6_38 (fun h9 => by cases h9) hF (fun f2 hF => ?_)
    refine x_aload_n 0 dX6_entriesOf_17 rfl rfl ?_
    refine x_geti_r dX6_entriesOf_18 fl_X6_38 hF (fun v3 hF => ?_)
    refine x_if_le 28 dX6_entriesOf_21 (by decide) hF (fun hF => ?_) (fun hF => ?_)
    · refine x_aload_n 0 dX6_entriesOf_28 rfl rfl ?_
      refine x_iload_n 1 dX6_entriesOf_29 rfl rfl ?_
      obtain ⟨z4, hzz4, hF⟩ := x_bind hF
      obtain ⟨⟨fsz4, hbz4⟩, hzz4⟩ := x_cv_sp hzz4
      refine x_callv (As := [.int p0]) (rest := []) 0 0 dX6_entriesOf_30 mi_X6_own ml_X6_98 rfl rfl (Nat.le_of_ble_eq_true rfl) ⟨by decide, by decide⟩ (by omega) (by omega) hbz4 rfl (c_X6_own N _ _ _ _ _ hzz4) (x_K.some ?_) x_KX.none
      exact x_iret dX6_entriesOf_33 rfl (by cases hF; rfl)
    · refine x_iconst 0 (by decide) dX6_entriesOf_24 ?_
      refine x_goto 33 dX6_entriesOf_25 (by decide) ?_
      exact x_iret dX6_entriesOf_33 rfl (by cases hF; rfl)
  · refine x_iconst 0 (by decide) dX6_entriesOf_9 ?_
    refine x_goto 14 dX6_entriesOf_10 (by decide) ?_
    refine x_puti_r dX6_entriesOf_14 fl_X6_38 (fun h9 => by cases h9) hF (fun f5 hF => ?_)
    refine x_aload_n 0 dX6_entriesOf_17 rfl rfl ?_
    refine x_geti_r dX6_entriesOf_18 fl_X6_38 hF (fun v6 hF => ?_)
    refine x_if_le 28 dX6_entriesOf_21 (by decide) hF (fun hF => ?_) (fun hF => ?_)
    · refine x_aload_n 0 dX6_entriesOf_28 rfl rfl ?_
      refine x_iload_n 1 dX6_entriesOf_29 rfl rfl ?_
      obtain ⟨z7, hzz7, hF⟩ := x_bind hF
      obtain ⟨⟨fsz7, hbz7⟩, hzz7⟩ := x_cv_sp hzz7
      refine x_callv (As := [.int p0]) (rest := []) 0 0 dX6_entriesOf_30 mi_X6_own ml_X6_98 rfl rfl (Nat.le_of_ble_eq_true rfl) ⟨by decide, by decide⟩ (by omega) (by omega) hbz7 rfl (c_X6_own N _ _ _ _ _ hzz7) (x_K.some ?_) x_KX.none
      exact x_iret dX6_entriesOf_33 rfl (by cases hF; rfl)
    · refine x_iconst 0 (by decide) dX6_entriesOf_24 ?_
      refine x_goto 33 dX6_entriesOf_25 (by decide) ?_
      exact x_iret dX6_entriesOf_33 rfl (by cases hF; rfl)
def F_X6_erases_L27 (N : Nat) (c0 : Nat) (c2 : Int32) (c3 : Int32) (K : Int32 → XM → Option (Int32 × XM)) : Nat → Int32 → XM → Option (Int32 × XM)
  | 0, _, _ => none
  | k + 1, x4, f =>
    if 4 ≤ x4 then
      K x4 f
    else
      (x_getr f 6 c0 0).bind fun v8 =>
      (x_getr f 6 c0 0).bind fun v9 =>
      (x_getr f 6 c0 0).bind fun v10 =>
      Option.bind v10 fun a11 =>
      (x_ald f a11 7).bind fun v12 =>
      Option.bind v9 fun a13 =>
      (x_ald f a13 ((856 + (4 * v12)) + x4)).bind fun v14 =>
      Option.bind v8 fun a15 =>
      (x_ast f a15 ((856 + (4 * c2)) + x4) v14).bind fun f16 =>
      F_X6_erases_L27 N c0 c2 c3 K k (x4 + 1) f16
def F_X6_erases (N : Nat) (f : XM) (this : Nat) (p0 : Int32) : Option (Int32 × XM) :=
  (x_cv f 6 this (F_X6_entryOf N f this p0)).bind fun z1 =>
  (x_cv f 6 this (F_X6_entry N f this z1 1)).bind fun z2 =>
  (x_getr f 6 this 0).bind fun v3 =>
  Option.bind v3 fun a4 =>
  (x_ald f a4 7).bind fun v5 =>
  (x_ast f a4 7 (v5 - 1)).bind fun f6 =>
  F_X6_erases_L27 N this z1 z2 (fun y4_17 g17 =>
  some (z2, g17)) N 0 f6
set_option maxRecDepth 20000 in
set_option maxHeartbeats 4000000 in
theorem w_X6_erases_L27 (N : Nat) (c0 : Nat) (c2 : Int32) (c3 : Int32) (K : Int32 → XM → Option (Int32 × XM)) (n : Nat) (r : (Int32 × XM)) {rc rs : Nat} : ∀ (k : Nat) (x4 : Int32) (f : XM), F_X6_erases_L27 N c0 c2 c3 K k x4 f = some r → (∀ (x4 : Int32) (f : XM), K x4 f = some r → X mX6_erases 2 44 (x_end (xr_im r n)) x_noRO rc rs 75 [(0, .ref c0), (2, .int c2), (3, .int c3), (4, .int x4)] [] (f, n)) → X mX6_erases 2 44 (x_end (xr_im r n)) x_noRO rc rs 27 [(0, .ref c0), (2, .int c2), (3, .int c3), (4, .int x4)] [] (f, n) := by
  intro k
  induction k with
  | zero =>
    intro x4 f hF
    exact absurd hF (by intro h9; cases h9)
  | succ k ih =>
    intro x4 f hF hK
    have ih := fun x4 f hF => ih x4 f hF hK
    rw [F_X6_erases_L27] at hF
    refine x_iload 3 dX6_erases_27 rfl ?_
    refine x_iconst 4 (by decide) dX6_erases_29 ?_
    refine x_icmp_ge 75 dX6_erases_30 (by decide) hF (fun hF => ?_) (fun hF => ?_)
    · refine x_sub [0, 1, 2, 3] rfl ?_
      exact hK _ _ hF
    · refine x_aload_n 0 dX6_erases_33 rfl rfl ?_
      refine x_getr_r dX6_erases_34 fl_X6_7 hF (fun v8 hF => ?_)
      refine x_sipush 856 (by decide) dX6_erases_37 ?_
      refine x_iconst 4 (by decide) dX6_erases_40 ?_
      refine x_iload_n 1 dX6_erases_41 rfl rfl ?_
      refine x_imul dX6_erases_42 ?_
      refine x_iadd dX6_erases_43 ?_
      refine x_iload 3 dX6_erases_44 rfl ?_
      refine x_iadd dX6_erases_46 ?_
      refine x_aload_n 0 dX6_erases_47 rfl rfl ?_
      refine x_getr_r dX6_erases_48 fl_X6_7 hF (fun v9 hF => ?_)
      refine x_sipush 856 (by decide) dX6_erases_51 ?_
      refine x_iconst 4 (by decide) dX6_erases_54 ?_
      refine x_aload_n 0 dX6_erases_55 rfl rfl ?_
      refine x_getr_r dX6_erases_56 fl_X6_7 hF (fun v10 hF => ?_)
      refine x_bipush 7 (by decide) dX6_erases_59 ?_
      refine x_nn hF (fun a11 ha11 hF => ?_)
      rw [ha11]
      refine x_ald_r dX6_erases_61 hF (fun v12 hF => ?_)
      refine x_imul dX6_erases_62 ?_
      refine x_iadd dX6_erases_63 ?_
      refine x_iload 3 dX6_erases_64 rfl ?_
      refine x_iadd dX6_erases_66 ?_
      refine x_nn hF (fun a13 ha13 hF => ?_)
      rw [ha13]
      refine x_ald_r dX6_erases_67 hF (fun v14 hF => ?_)
      refine x_nn hF (fun a15 ha15 hF => ?_)
      rw [ha15]
      refine x_ast_r dX6_erases_68 hF (fun f16 hF => ?_)
      refine x_iinc (x4 + 1) (lv' := [(4, .int (x4 + 1)), (0, .ref c0), (2, .int c2), (3, .int c3)]) dX6_erases_69 3 rfl (by rfl) (by decide) rfl ?_
      refine x_goto 27 dX6_erases_72 (by decide) ?_
      refine x_sub [1, 2, 3, 0] rfl ?_
      exact ih _ _ hF
set_option maxRecDepth 20000 in
set_option maxHeartbeats 4000000 in
theorem c_X6_erases (N : Nat) (f : XM) (this : Nat) (p0 : Int32) (n : Nat) (r : (Int32 × XM)) (hF : F_X6_erases N f this p0 = some r) : x_Ct mX6_erases 2 44 0 0 [.ref this, .int p0] (f, n) (xr_im r n) := by
  unfold F_X6_erases at hF
  refine x_ct (by decide) rfl (Nat.le_of_ble_eq_true rfl) ?_
  show X mX6_erases 2 44 _ _ 0 0 0 [(0, .ref this), (1, .int p0)] [] (f, n)
  refine x_aload_n 0 dX6_erases_0 rfl rfl ?_
  refine x_iload_n 1 dX6_erases_1 rfl rfl ?_
  obtain ⟨z1, hzz1, hF⟩ := x_bind hF
  obtain ⟨⟨fsz1, hbz1⟩, hzz1⟩ := x_cv_sp hzz1
  refine x_callv (As := [.int p0]) (rest := []) 0 0 dX6_erases_2 mi_X6_entryOf ml_X6_88 rfl rfl (Nat.le_of_ble_eq_true rfl) ⟨by decide, by decide⟩ (by omega) (by omega) hbz1 rfl (c_X6_entryOf N _ _ _ _ _ hzz1) (x_K.some ?_) x_KX.none
  refine x_istore_n (i := 2) (lv' := [(2, .int z1), (0, .ref this), (1, .int p0)]) dX6_erases_5 rfl (by decide) rfl ?_
  refine x_aload_n 1 dX6_erases_6 rfl rfl ?_
  refine x_iload_n 0 dX6_erases_7 rfl rfl ?_
  refine x_iconst 1 (by decide) dX6_erases_8 ?_
  obtain ⟨z2, hzz2, hF⟩ := x_bind hF
  obtain ⟨⟨fsz2, hbz2⟩, hzz2⟩ := x_cv_sp hzz2
  refine x_callv (As := [.int z1, .int 1]) (rest := []) 0 0 dX6_erases_9 mi_X6_entry ml_X6_72 rfl rfl (Nat.le_of_ble_eq_true rfl) ⟨by decide, by decide⟩ (by omega) (by omega) hbz2 rfl (c_X6_entry N _ _ _ _ _ _ hzz2) (x_K.some ?_) x_KX.none
  refine x_istore_n (i := 3) (lv' := [(3, .int z2), (2, .int z1), (0, .ref this), (1, .int p0)]) dX6_erases_12 rfl (by decide) rfl ?_
  refine x_aload_n 2 dX6_erases_13 rfl rfl ?_
  refine x_getr_r dX6_erases_14 fl_X6_7 hF (fun v3 hF => ?_)
  refine x_bipush 7 (by decide) dX6_erases_17 ?_
  refine x_nn hF (fun a4 ha4 hF => ?_)
  rw [ha4]
  refine x_dup2ri dX6_erases_19 ?_
  refine x_ald_r dX6_erases_20 hF (fun v5 hF => ?_)
  refine x_iconst 1 (by decide) dX6_erases_21 ?_
  refine x_isub dX6_erases_22 ?_
  refine x_ast_r dX6_erases_23 hF (fun f6 hF => ?_)
  refine x_iconst 0 (by decide) dX6_erases_24 ?_
  refine x_istore (i := 4) (lv' := [(4, .int 0), (3, .int z2), (2, .int z1), (0, .ref this), (1, .int p0)]) dX6_erases_25 (by decide) rfl ?_
  refine x_sub [3, 2, 1, 0] rfl ?_
  refine w_X6_erases_L27 N _ _ _ _ _ r _ _ _ hF (fun y4_17 g17 hF => ?_)
  refine x_iload_n 2 dX6_erases_75 rfl rfl ?_
  exact x_iret dX6_erases_76 rfl (by cases hF; rfl)
def F_X6_erase (N : Nat) (f : XM) (this : Nat) (p0 : Int32) : Option (Int32 × XM) :=
  (F_X6_isKey N f p0).bind fun z1 =>
  if (x_b z1) = 0 then
    (x_puti f 6 this 11 1).bind fun f15 =>
    (x_geti f15 6 this 11).bind fun v16 =>
    if v16 ≤ 0 then
      (x_getr f15 6 this 0).bind fun v17 =>
      Option.bind v17 fun a18 =>
      (x_cv f15 6 this (F_X6_saves N f15 this a18)).bind fun z19 =>
      (x_cv z19 6 this (F_X6_erases N z19 this p0)).bind fun z20 =>
      some (z20.1, z20.2)
    else
      some (0, f15)
  else
    (x_cv f 6 this (F_X6_canErase N f this p0)).bind fun z2 =>
    if (x_b z2) = 0 then
      (x_puti f 6 this 11 2).bind fun f3 =>
      (x_geti f3 6 this 11).bind fun v4 =>
      if v4 ≤ 0 then
        (x_getr f3 6 this 0).bind fun v5 =>
        Option.bind v5 fun a6 =>
        (x_cv f3 6 this (F_X6_saves N f3 this a6)).bind fun z7 =>
        (x_cv z7 6 this (F_X6_erases N z7 this p0)).bind fun z8 =>
        some (z8.1, z8.2)
      else
        some (0, f3)
    else
      (x_puti f 6 this 11 0).bind fun f9 =>
      (x_geti f9 6 this 11).bind fun v10 =>
      if v10 ≤ 0 then
        (x_getr f9 6 this 0).bind fun v11 =>
        Option.bind v11 fun a12 =>
        (x_cv f9 6 this (F_X6_saves N f9 this a12)).bind fun z13 =>
        (x_cv z13 6 this (F_X6_erases N z13 this p0)).bind fun z14 =>
        some (z14.1, z14.2)
      else
        some (0, f9)
set_option maxRecDepth 20000 in
set_option maxHeartbeats 4000000 in
theorem c_X6_erase (N : Nat) (f : XM) (this : Nat) (p0 : Int32) (n : Nat) (r : (Int32 × XM)) (hF : F_X6_erase N f this p0 = some r) : x_Ct mX6_erase 4 88 0 0 [.ref this, .int p0] (f, n) (xr_im r n) := by
  unfold F_X6_erase at hF
  refine x_ct (by decide) rfl (Nat.le_of_ble_eq_true rfl) ?_
  show X mX6_erase 4 88 _ _ 0 0 0 [(0, .ref this), (1, .int p0)] [] (f, n)
  refine x_aload_n 0 dX6_erase_0 rfl rfl ?_
  refine x_iload_n 1 dX6_erase_1 rfl rfl ?_
  obtain ⟨z1, hzz1, hF⟩ := x_bind hF
  refine x_calls (As := [.int p0]) (rest := [.ref this]) 0 0 dX6_erase_2 mi_X6_isKey rfl ml_X6_129 rfl rfl (Nat.le_of_ble_eq_true rfl) ⟨by decide, by decide⟩ (by omega) (by omega) (c_X6_isKey N _ _ _ _ hzz1) (x_K.some ?_) x_KX.none
  refine x_if_ne 12 dX6_erase_5 (by decide) hF (fun hF => ?_) (fun hF => ?_)
  · refine x_aload_n 0 dX6_erase_12 rfl rfl ?_
    refine x_iload_n 1 dX6_erase_13 rfl rfl ?_
    obtain ⟨z2, hzz2, hF⟩ := x_bind hF
    obtain ⟨⟨fsz2, hbz2⟩, hzz2⟩ := x_cv_sp hzz2
    refine x_callv (As := [.int p0]) (rest := [.ref this]) 0 0 dX6_erase_14 mi_X6_canErase ml_X6_174 rfl rfl (Nat.le_of_ble_eq_true rfl) ⟨by decide, by decide⟩ (by omega) (by omega) hbz2 rfl (c_X6_canErase N _ _ _ _ _ hzz2) (x_K.some ?_) x_KX.none
    refine x_if_eq 24 dX6_erase_17 (by decide) hF (fun hF => ?_) (fun hF => ?_)
    · refine x_iconst 2 (by decide) dX6_erase_24 ?_
      refine x_puti_r dX6_erase_25 fl_X6_38 (fun h9 => by cases h9) hF (fun f3 hF => ?_)
      refine x_aload_n 0 dX6_erase_28 rfl rfl ?_
      refine x_geti_r dX6_erase_29 fl_X6_38 hF (fun v4 hF => ?_)
      refine x_if_le 37 dX6_erase_32 (by decide) hF (fun hF => ?_) (fun hF => ?_)
      · refine x_aload_n 0 dX6_erase_37 rfl rfl ?_
        refine x_aload_n 0 dX6_erase_38 rfl rfl ?_
        refine x_getr_r dX6_erase_39 fl_X6_7 hF (fun v5 hF => ?_)
        refine x_nn hF (fun a6 ha6 hF => ?_)
        rw [ha6]
        obtain ⟨z7, hzz7, hF⟩ := x_bind hF
        obtain ⟨⟨fsz7, hbz7⟩, hzz7⟩ := x_cv_sp hzz7
        refine x_callv (As := [.ref a6]) (rest := []) 0 0 dX6_erase_42 mi_X6_saves ml_X6_139 rfl rfl (Nat.le_of_ble_eq_true rfl) ⟨by decide, by decide⟩ (by omega) (by omega) hbz7 rfl (c_X6_saves N _ _ _ _ _ hzz7) (x_K.none ?_) x_KX.none
        refine x_aload_n 0 dX6_erase_45 rfl rfl ?_
        refine x_iload_n 1 dX6_erase_46 rfl rfl ?_
        obtain ⟨z8, hzz8, hF⟩ := x_bind hF
        obtain ⟨⟨fsz8, hbz8⟩, hzz8⟩ := x_cv_sp hzz8
        refine x_callv (As := [.int p0]) (rest := []) 0 0 dX6_erase_47 mi_X6_erases ml_X6_177 rfl rfl (Nat.le_of_ble_eq_true rfl) ⟨by decide, by decide⟩ (by omega) (by omega) hbz8 rfl (c_X6_erases N _ _ _ _ _ hzz8) (x_K.some ?_) x_KX.none
        exact x_iret dX6_erase_50 rfl (by cases hF; rfl)
      · refine x_iconst 0 (by decide) dX6_erase_35 ?_
        exact x_iret dX6_erase_36 rfl (by cases hF; rfl)
    · refine x_iconst 0 (by decide) dX6_erase_20 ?_
      refine x_goto 25 dX6_erase_21 (by decide) ?_
      refine x_puti_r dX6_erase_25 fl_X6_38 (fun h9 => by cases h9) hF (fun f9 hF => ?_)
      refine x_aload_n 0 dX6_erase_28 rfl rfl ?_
      refine x_geti_r dX6_erase_29 fl_X6_38 hF (fun v10 hF => ?_)
      refine x_if_le 37 dX6_erase_32 (by decide) hF (fun hF => ?_) (fun hF => ?_)
      · refine x_aload_n 0 dX6_erase_37 rfl rfl ?_
        refine x_aload_n 0 dX6_erase_38 rfl rfl ?_
        refine x_getr_r dX6_erase_39 fl_X6_7 hF (fun v11 hF => ?_)
        refine x_nn hF (fun a12 ha12 hF => ?_)
        rw [ha12]
        obtain ⟨z13, hzz13, hF⟩ := x_bind hF
        obtain ⟨⟨fsz13, hbz13⟩, hzz13⟩ := x_cv_sp hzz13
        refine x_callv (As := [.ref a12]) (rest := []) 0 0 dX6_erase_42 mi_X6_saves ml_X6_139 rfl rfl (Nat.le_of_ble_eq_true rfl) ⟨by decide, by decide⟩ (by omega) (by omega) hbz13 rfl (c_X6_saves N _ _ _ _ _ hzz13) (x_K.none ?_) x_KX.none
        refine x_aload_n 0 dX6_erase_45 rfl rfl ?_
        refine x_iload_n 1 dX6_erase_46 rfl rfl ?_
        obtain ⟨z14, hzz14, hF⟩ := x_bind hF
        obtain ⟨⟨fsz14, hbz14⟩, hzz14⟩ := x_cv_sp hzz14
        refine x_callv (As := [.int p0]) (rest := []) 0 0 dX6_erase_47 mi_X6_erases ml_X6_177 rfl rfl (Nat.le_of_ble_eq_true rfl) ⟨by decide, by decide⟩ (by omega) (by omega) hbz14 rfl (c_X6_erases N _ _ _ _ _ hzz14) (x_K.some ?_) x_KX.none
        exact x_iret dX6_erase_50 rfl (by cases hF; rfl)
      · refine x_iconst 0 (by decide) dX6_erase_35 ?_
        exact x_iret dX6_erase_36 rfl (by cases hF; rfl)
  · refine x_iconst 1 (by decide) dX6_erase_8 ?_
    refine x_goto 25 dX6_erase_9 (by decide) ?_
    refine x_puti_r dX6_erase_25 fl_X6_38 (fun h9 => by cases h9) hF (fun f15 hF => ?_)
    refine x_aload_n 0 dX6_erase_28 rfl rfl ?_
    refine x_geti_r dX6_erase_29 fl_X6_38 hF (fun v16 hF => ?_)
    refine x_if_le 37 dX6_erase_32 (by decide) hF (fun hF => ?_) (fun hF => ?_)
    · refine x_aload_n 0 dX6_erase_37 rfl rfl ?_
      refine x_aload_n 0 dX6_erase_38 rfl rfl ?_
      refine x_getr_r dX6_erase_39 fl_X6_7 hF (fun v17 hF => ?_)
      refine x_nn hF (fun a18 ha18 hF => ?_)
      rw [ha18]
      obtain ⟨z19, hzz19, hF⟩ := x_bind hF
      obtain ⟨⟨fsz19, hbz19⟩, hzz19⟩ := x_cv_sp hzz19
      refine x_callv (As := [.ref a18]) (rest := []) 0 0 dX6_erase_42 mi_X6_saves ml_X6_139 rfl rfl (Nat.le_of_ble_eq_true rfl) ⟨by decide, by decide⟩ (by omega) (by omega) hbz19 rfl (c_X6_saves N _ _ _ _ _ hzz19) (x_K.none ?_) x_KX.none
      refine x_aload_n 0 dX6_erase_45 rfl rfl ?_
      refine x_iload_n 1 dX6_erase_46 rfl rfl ?_
      obtain ⟨z20, hzz20, hF⟩ := x_bind hF
      obtain ⟨⟨fsz20, hbz20⟩, hzz20⟩ := x_cv_sp hzz20
      refine x_callv (As := [.int p0]) (rest := []) 0 0 dX6_erase_47 mi_X6_erases ml_X6_177 rfl rfl (Nat.le_of_ble_eq_true rfl) ⟨by decide, by decide⟩ (by omega) (by omega) hbz20 rfl (c_X6_erases N _ _ _ _ _ hzz20) (x_K.some ?_) x_KX.none
      exact x_iret dX6_erase_50 rfl (by cases hF; rfl)
    · refine x_iconst 0 (by decide) dX6_erase_35 ?_
      exact x_iret dX6_erase_36 rfl (by cases hF; rfl)
def F_X6_figure (N : Nat) (f : XM) (this : Nat) : Option Int32 :=
  (x_geti f 6 this 12).bind fun v1 =>
  (x_geti f 6 this 10).bind fun v2 =>
  if v2 ≤ v1 then
    some (-1)
  else
    (x_getr f 6 this 9).bind fun v3 =>
    (x_geti f 6 this 12).bind fun v4 =>
    Option.bind v3 fun a5 =>
    (x_ald f a5 v4).bind fun v6 =>
    (F_X6_in N f v6 48 57).bind fun z7 =>
    if (x_b z7) = 0 then
      some (-1)
    else
      (x_getr f 6 this 9).bind fun v8 =>
      (x_geti f 6 this 12).bind fun v9 =>
      Option.bind v8 fun a10 =>
      (x_ald f a10 v9).bind fun v11 =>
      some (v11 - 48)
set_option maxRecDepth 20000 in
set_option maxHeartbeats 4000000 in
theorem c_X6_figure (N : Nat) (f : XM) (this : Nat) (n : Nat) (r : Int32) (hF : F_X6_figure N f this = some r) : x_Ct mX6_figure 1 22 0 0 [.ref this] (f, n) (xr_ip r (f, n)) := by
  unfold F_X6_figure at hF
  refine x_ct (by decide) rfl (Nat.le_of_ble_eq_true rfl) ?_
  show X mX6_figure 1 22 _ _ 0 0 0 [(0, .ref this)] [] (f, n)
  refine x_aload_n 0 dX6_figure_0 rfl rfl ?_
  refine x_geti_r dX6_figure_1 fl_X6_187 hF (fun v1 hF => ?_)
  refine x_aload_n 0 dX6_figure_4 rfl rfl ?_
  refine x_geti_r dX6_figure_5 fl_X6_184 hF (fun v2 hF => ?_)
  refine x_icmp_ge 45 dX6_figure_8 (by decide) hF (fun hF => ?_) (fun hF => ?_)
  · refine x_iconst (-1) (by decide) dX6_figure_45 ?_
    exact x_iret dX6_figure_46 rfl (by cases hF; rfl)
  · refine x_aload_n 0 dX6_figure_11 rfl rfl ?_
    refine x_getr_r dX6_figure_12 fl_X6_32 hF (fun v3 hF => ?_)
    refine x_aload_n 0 dX6_figure_15 rfl rfl ?_
    refine x_geti_r dX6_figure_16 fl_X6_187 hF (fun v4 hF => ?_)
    refine x_nn hF (fun a5 ha5 hF => ?_)
    rw [ha5]
    refine x_ald_r dX6_figure_19 hF (fun v6 hF => ?_)
    refine x_bipush 48 (by decide) dX6_figure_20 ?_
    refine x_bipush 57 (by decide) dX6_figure_22 ?_
    obtain ⟨z7, hzz7, hF⟩ := x_bind hF
    refine x_calls (As := [.int v6, .int 48, .int 57]) (rest := []) 0 0 dX6_figure_24 mi_X6_in rfl ml_X6_50 rfl rfl (Nat.le_of_ble_eq_true rfl) ⟨by decide, by decide⟩ (by omega) (by omega) (c_X6_in N _ _ _ _ _ _ hzz7) (x_K.some ?_) x_KX.none
    refine x_if_eq 45 dX6_figure_27 (by decide) hF (fun hF => ?_) (fun hF => ?_)
    · refine x_iconst (-1) (by decide) dX6_figure_45 ?_
      exact x_iret dX6_figure_46 rfl (by cases hF; rfl)
    · refine x_aload_n 0 dX6_figure_30 rfl rfl ?_
      refine x_getr_r dX6_figure_31 fl_X6_32 hF (fun v8 hF => ?_)
      refine x_aload_n 0 dX6_figure_34 rfl rfl ?_
      refine x_geti_r dX6_figure_35 fl_X6_187 hF (fun v9 hF => ?_)
      refine x_nn hF (fun a10 ha10 hF => ?_)
      rw [ha10]
      refine x_ald_r dX6_figure_38 hF (fun v11 hF => ?_)
      refine x_bipush 48 (by decide) dX6_figure_39 ?_
      refine x_isub dX6_figure_41 ?_
      refine x_goto 46 dX6_figure_42 (by decide) ?_
      exact x_iret dX6_figure_46 rfl (by cases hF; rfl)
def F_X6_isNumber_L22 (N : Nat) (c0 : Nat) (c1 : Int32) (c2 : Int32) (K : Int32 → XM → Option (Bool × XM)) : Nat → Int32 → XM → Option (Bool × XM)
  | 0, _, _ => none
  | k + 1, x3, f =>
    if x3 ≤ 0 then
      K x3 f
    else
      (x_cv f 6 c0 (F_X6_figure N f c0)).bind fun z5 =>
      if z5 = (-1) then
        K x3 f
      else
        (x_cv f 6 c0 (F_X6_figure N f c0)).bind fun z6 =>
        if c2 < ((10 * x3) + z6) then
          K x3 f
        else
          (x_cv f 6 c0 (F_X6_figure N f c0)).bind fun z7 =>
          (x_geti f 6 c0 12).bind fun v8 =>
          (x_puti f 6 c0 12 (v8 + 1)).bind fun f9 =>
          F_X6_isNumber_L22 N c0 c1 c2 K k ((10 * x3) + z7) f9
def F_X6_isNumber (N : Nat) (f : XM) (this : Nat) (p0 : Int32) (p1 : Int32) : Option (Bool × XM) :=
  (x_cv f 6 this (F_X6_figure N f this)).bind fun z1 =>
  if z1 = (-1) then
    some (false, f)
  else
    (x_geti f 6 this 12).bind fun v2 =>
    (x_puti f 6 this 12 (v2 + 1)).bind fun f3 =>
    F_X6_isNumber_L22 N this p0 p1 (fun y3_10 g10 =>
    (x_getr g10 6 this 13).bind fun v11 =>
    (x_geti g10 6 this 14).bind fun v12 =>
    Option.bind v11 fun a13 =>
    (x_ast g10 a13 ((3 * v12) + p0) y3_10).bind fun f14 =>
    some (true, f14)) N z1 f3
set_option maxRecDepth 20000 in
set_option maxHeartbeats 4000000 in
theorem w_X6_isNumber_L22 (N : Nat) (c0 : Nat) (c1 : Int32) (c2 : Int32) (K : Int32 → XM → Option (Bool × XM)) (n : Nat) (r : (Bool × XM)) {rc rs : Nat} : ∀ (k : Nat) (x3 : Int32) (f : XM), F_X6_isNumber_L22 N c0 c1 c2 K k x3 f = some r → (∀ (x3 : Int32) (f : XM), K x3 f = some r → X mX6_isNumber 2 42 (x_end (xr_zm r n)) x_noRO rc rs 70 [(0, .ref c0), (1, .int c1), (2, .int c2), (3, .int x3)] [] (f, n)) → X mX6_isNumber 2 42 (x_end (xr_zm r n)) x_noRO rc rs 22 [(0, .ref c0), (1, .int c1), (2, .int c2), (3, .int x3)] [] (f, n) := by
  intro k
  induction k with
  | zero =>
    intro x3 f hF
    exact absurd hF (by intro h9; cases h9)
  | succ k ih =>
    intro x3 f hF hK
    have ih := fun x3 f hF => ih x3 f hF hK
    rw [F_X6_isNumber_L22] at hF
    refine x_iload_n 3 dX6_isNumber_22 rfl rfl ?_
    refine x_if_le 70 dX6_isNumber_23 (by decide) hF (fun hF => ?_) (fun hF => ?_)
    · refine x_sub [0, 1, 2, 3] rfl ?_
      exact hK _ _ hF
    · refine x_aload_n 0 dX6_isNumber_26 rfl rfl ?_
      obtain ⟨z5, hzz5, hF⟩ := x_bind hF
      obtain ⟨⟨fsz5, hbz5⟩, hzz5⟩ := x_cv_sp hzz5
      refine x_callv (As := []) (rest := []) (rc + 0) (rs + 0) dX6_isNumber_27 mi_X6_figure ml_X6_190 rfl rfl (Nat.le_of_ble_eq_true rfl) ⟨by decide, by decide⟩ (by omega) (by omega) hbz5 rfl (c_X6_figure N _ _ _ _ hzz5) (x_K.some ?_) x_KX.none
      refine x_iconst (-1) (by decide) dX6_isNumber_30 ?_
      refine x_icmp_eq 70 dX6_isNumber_31 (by decide) hF (fun hF => ?_) (fun hF => ?_)
      · refine x_sub [0, 1, 2, 3] rfl ?_
        exact hK _ _ hF
      · refine x_bipush 10 (by decide) dX6_isNumber_34 ?_
        refine x_iload_n 3 dX6_isNumber_36 rfl rfl ?_
        refine x_imul dX6_isNumber_37 ?_
        refine x_aload_n 0 dX6_isNumber_38 rfl rfl ?_
        obtain ⟨z6, hzz6, hF⟩ := x_bind hF
        obtain ⟨⟨fsz6, hbz6⟩, hzz6⟩ := x_cv_sp hzz6
        refine x_callv (As := []) (rest := [.int (10 * x3)]) (rc + 0) (rs + 0) dX6_isNumber_39 mi_X6_figure ml_X6_190 rfl rfl (Nat.le_of_ble_eq_true rfl) ⟨by decide, by decide⟩ (by omega) (by omega) hbz6 rfl (c_X6_figure N _ _ _ _ hzz6) (x_K.some ?_) x_KX.none
        refine x_iadd dX6_isNumber_42 ?_
        refine x_iload_n 2 dX6_isNumber_43 rfl rfl ?_
        refine x_icmp_gt 70 dX6_isNumber_44 (by decide) hF (fun hF => ?_) (fun hF => ?_)
        · refine x_sub [0, 1, 2, 3] rfl ?_
          exact hK _ _ hF
        · refine x_bipush 10 (by decide) dX6_isNumber_47 ?_
          refine x_iload_n 3 dX6_isNumber_49 rfl rfl ?_
          refine x_imul dX6_isNumber_50 ?_
          refine x_aload_n 0 dX6_isNumber_51 rfl rfl ?_
          obtain ⟨z7, hzz7, hF⟩ := x_bind hF
          obtain ⟨⟨fsz7, hbz7⟩, hzz7⟩ := x_cv_sp hzz7
          refine x_callv (As := []) (rest := [.int (10 * x3)]) (rc + 0) (rs + 0) dX6_isNumber_52 mi_X6_figure ml_X6_190 rfl rfl (Nat.le_of_ble_eq_true rfl) ⟨by decide, by decide⟩ (by omega) (by omega) hbz7 rfl (c_X6_figure N _ _ _ _ hzz7) (x_K.some ?_) x_KX.none
          refine x_iadd dX6_isNumber_55 ?_
          refine x_istore_n (i := 3) (lv' := [(3, .int ((10 * x3) + z7)), (0, .ref c0), (1, .int c1), (2, .int c2)]) dX6_isNumber_56 rfl (by decide) rfl ?_
          refine x_aload_n 1 dX6_isNumber_57 rfl rfl ?_
          refine x_dupr dX6_isNumber_58 ?_
          refine x_geti_r dX6_isNumber_59 fl_X6_187 hF (fun v8 hF => ?_)
          refine x_iconst 1 (by decide) dX6_isNumber_62 ?_
          refine x_iadd dX6_isNumber_63 ?_
          refine x_puti_r dX6_isNumber_64 fl_X6_187 (fun h9 => by cases h9) hF (fun f9 hF => ?_)
          refine x_goto 22 dX6_isNumber_67 (by decide) ?_
          refine x_sub [1, 2, 3, 0] rfl ?_
          exact ih _ _ hF
set_option maxRecDepth 20000 in
set_option maxHeartbeats 4000000 in
theorem c_X6_isNumber (N : Nat) (f : XM) (this : Nat) (p0 : Int32) (p1 : Int32) (n : Nat) (r : (Bool × XM)) (hF : F_X6_isNumber N f this p0 p1 = some r) : x_Ct mX6_isNumber 2 42 0 0 [.ref this, .int p0, .int p1] (f, n) (xr_zm r n) := by
  unfold F_X6_isNumber at hF
  refine x_ct (by decide) rfl (Nat.le_of_ble_eq_true rfl) ?_
  show X mX6_isNumber 2 42 _ _ 0 0 0 [(0, .ref this), (1, .int p0), (2, .int p1)] [] (f, n)
  refine x_aload_n 0 dX6_isNumber_0 rfl rfl ?_
  obtain ⟨z1, hzz1, hF⟩ := x_bind hF
  obtain ⟨⟨fsz1, hbz1⟩, hzz1⟩ := x_cv_sp hzz1
  refine x_callv (As := []) (rest := []) 0 0 dX6_isNumber_1 mi_X6_figure ml_X6_190 rfl rfl (Nat.le_of_ble_eq_true rfl) ⟨by decide, by decide⟩ (by omega) (by omega) hbz1 rfl (c_X6_figure N _ _ _ _ hzz1) (x_K.some ?_) x_KX.none
  refine x_istore_n (i := 3) (lv' := [(3, .int z1), (0, .ref this), (1, .int p0), (2, .int p1)]) dX6_isNumber_4 rfl (by decide) rfl ?_
  refine x_iload_n 0 dX6_isNumber_5 rfl rfl ?_
  refine x_iconst (-1) (by decide) dX6_isNumber_6 ?_
  refine x_icmp_ne 12 dX6_isNumber_7 (by decide) hF (fun hF => ?_) (fun hF => ?_)
  · refine x_aload_n 1 dX6_isNumber_12 rfl rfl ?_
    refine x_dupr dX6_isNumber_13 ?_
    refine x_geti_r dX6_isNumber_14 fl_X6_187 hF (fun v2 hF => ?_)
    refine x_iconst 1 (by decide) dX6_isNumber_17 ?_
    refine x_iadd dX6_isNumber_18 ?_
    refine x_puti_r dX6_isNumber_19 fl_X6_187 (fun h9 => by cases h9) hF (fun f3 hF => ?_)
    refine x_sub [1, 2, 3, 0] rfl ?_
    refine w_X6_isNumber_L22 N _ _ _ _ _ r _ _ _ hF (fun y3_10 g10 hF => ?_)
    refine x_aload_n 0 dX6_isNumber_70 rfl rfl ?_
    refine x_getr_r dX6_isNumber_71 fl_X6_35 hF (fun v11 hF => ?_)
    refine x_iconst 3 (by decide) dX6_isNumber_74 ?_
    refine x_aload_n 0 dX6_isNumber_75 rfl rfl ?_
    refine x_geti_r dX6_isNumber_76 fl_X6_193 hF (fun v12 hF => ?_)
    refine x_imul dX6_isNumber_79 ?_
    refine x_iload_n 1 dX6_isNumber_80 rfl rfl ?_
    refine x_iadd dX6_isNumber_81 ?_
    refine x_iload_n 3 dX6_isNumber_82 rfl rfl ?_
    refine x_nn hF (fun a13 ha13 hF => ?_)
    rw [ha13]
    refine x_ast_r dX6_isNumber_83 hF (fun f14 hF => ?_)
    refine x_iconst 1 (by decide) dX6_isNumber_84 ?_
    exact x_zret dX6_isNumber_85 rfl (Or.inr rfl) (by cases hF; rfl)
  · refine x_iconst 0 (by decide) dX6_isNumber_10 ?_
    exact x_zret dX6_isNumber_11 rfl (Or.inl rfl) (by cases hF; rfl)
def F_X6_takes (N : Nat) (f : XM) (this : Nat) (p0 : Int32) : Option (Bool × XM) :=
  (x_geti f 6 this 12).bind fun v1 =>
  (x_geti f 6 this 10).bind fun v2 =>
  if v2 ≤ v1 then
    (x_geti f 6 this 12).bind fun v3 =>
    if (0 : Int32) = 0 then
      (x_puti f 6 this 12 (v3 + 0)).bind fun f4 =>
      some (false, f4)
    else
      (x_puti f 6 this 12 (v3 + 1)).bind fun f5 =>
      some (false, f5)
  else
    (x_getr f 6 this 9).bind fun v6 =>
    (x_geti f 6 this 12).bind fun v7 =>
    Option.bind v6 fun a8 =>
    (x_ald f a8 v7).bind fun v9 =>
    if v9 = p0 then
      (x_geti f 6 this 12).bind fun v13 =>
      if (1 : Int32) = 0 then
        (x_puti f 6 this 12 (v13 + 0)).bind fun f14 =>
        some (true, f14)
      else
        (x_puti f 6 this 12 (v13 + 1)).bind fun f15 =>
        some (true, f15)
    else
      (x_geti f 6 this 12).bind fun v10 =>
      if (0 : Int32) = 0 then
        (x_puti f 6 this 12 (v10 + 0)).bind fun f11 =>
        some (false, f11)
      else
        (x_puti f 6 this 12 (v10 + 1)).bind fun f12 =>
        some (false, f12)
set_option maxRecDepth 20000 in
set_option maxHeartbeats 4000000 in
theorem c_X6_takes (N : Nat) (f : XM) (this : Nat) (p0 : Int32) (n : Nat) (r : (Bool × XM)) (hF : F_X6_takes N f this p0 = some r) : x_Ct mX6_takes 0 0 0 0 [.ref this, .int p0] (f, n) (xr_zm r n) := by
  unfold F_X6_takes at hF
  refine x_ct (by decide) rfl (Nat.le_of_ble_eq_true rfl) ?_
  show X mX6_takes 0 0 _ _ 0 0 0 [(0, .ref this), (1, .int p0)] [] (f, n)
  refine x_aload_n 0 dX6_takes_0 rfl rfl ?_
  refine x_geti_r dX6_takes_1 fl_X6_187 hF (fun v1 hF => ?_)
  refine x_aload_n 0 dX6_takes_4 rfl rfl ?_
  refine x_geti_r dX6_takes_5 fl_X6_184 hF (fun v2 hF => ?_)
  refine x_icmp_ge 28 dX6_takes_8 (by decide) hF (fun hF => ?_) (fun hF => ?_)
  · refine x_iconst 0 (by decide) dX6_takes_28 ?_
    refine x_istore_n (i := 2) (lv' := [(2, .int 0), (0, .ref this), (1, .int p0)]) dX6_takes_29 rfl (by decide) rfl ?_
    refine x_aload_n 1 dX6_takes_30 rfl rfl ?_
    refine x_dupr dX6_takes_31 ?_
    refine x_geti_r dX6_takes_32 fl_X6_187 hF (fun v3 hF => ?_)
    refine x_iload_n 0 dX6_takes_35 rfl rfl ?_
    refine x_if_eq 43 dX6_takes_36 (by decide) hF (fun hF => ?_) (fun hF => ?_)
    · refine x_iconst 0 (by decide) dX6_takes_43 ?_
      refine x_iadd dX6_takes_44 ?_
      refine x_puti_r dX6_takes_45 fl_X6_187 (fun h9 => by cases h9) hF (fun f4 hF => ?_)
      refine x_iload_n 0 dX6_takes_48 rfl rfl ?_
      exact x_zret dX6_takes_49 rfl (Or.inl rfl) (by cases hF; rfl)
    · refine x_iconst 1 (by decide) dX6_takes_39 ?_
      refine x_goto 44 dX6_takes_40 (by decide) ?_
      refine x_iadd dX6_takes_44 ?_
      refine x_puti_r dX6_takes_45 fl_X6_187 (fun h9 => by cases h9) hF (fun f5 hF => ?_)
      refine x_iload_n 0 dX6_takes_48 rfl rfl ?_
      exact x_zret dX6_takes_49 rfl (Or.inl rfl) (by cases hF; rfl)
  · refine x_aload_n 0 dX6_takes_11 rfl rfl ?_
    refine x_getr_r dX6_takes_12 fl_X6_32 hF (fun v6 hF => ?_)
    refine x_aload_n 0 dX6_takes_15 rfl rfl ?_
    refine x_geti_r dX6_takes_16 fl_X6_187 hF (fun v7 hF => ?_)
    refine x_nn hF (fun a8 ha8 hF => ?_)
    rw [ha8]
    refine x_ald_r dX6_takes_19 hF (fun v9 hF => ?_)
    refine x_iload_n 1 dX6_takes_20 rfl rfl ?_
    refine x_icmp_ne 28 dX6_takes_21 (by decide) hF (fun hF => ?_) (fun hF => ?_)
    · refine x_iconst 0 (by decide) dX6_takes_28 ?_
      refine x_istore_n (i := 2) (lv' := [(2, .int 0), (0, .ref this), (1, .int p0)]) dX6_takes_29 rfl (by decide) rfl ?_
      refine x_aload_n 1 dX6_takes_30 rfl rfl ?_
      refine x_dupr dX6_takes_31 ?_
      refine x_geti_r dX6_takes_32 fl_X6_187 hF (fun v10 hF => ?_)
      refine x_iload_n 0 dX6_takes_35 rfl rfl ?_
      refine x_if_eq 43 dX6_takes_36 (by decide) hF (fun hF => ?_) (fun hF => ?_)
      · refine x_iconst 0 (by decide) dX6_takes_43 ?_
        refine x_iadd dX6_takes_44 ?_
        refine x_puti_r dX6_takes_45 fl_X6_187 (fun h9 => by cases h9) hF (fun f11 hF => ?_)
        refine x_iload_n 0 dX6_takes_48 rfl rfl ?_
        exact x_zret dX6_takes_49 rfl (Or.inl rfl) (by cases hF; rfl)
      · refine x_iconst 1 (by decide) dX6_takes_39 ?_
        refine x_goto 44 dX6_takes_40 (by decide) ?_
        refine x_iadd dX6_takes_44 ?_
        refine x_puti_r dX6_takes_45 fl_X6_187 (fun h9 => by cases h9) hF (fun f12 hF => ?_)
        refine x_iload_n 0 dX6_takes_48 rfl rfl ?_
        exact x_zret dX6_takes_49 rfl (Or.inl rfl) (by cases hF; rfl)
    · refine x_iconst 1 (by decide) dX6_takes_24 ?_
      refine x_goto 29 dX6_takes_25 (by decide) ?_
      refine x_istore_n (i := 2) (lv' := [(2, .int 1), (0, .ref this), (1, .int p0)]) dX6_takes_29 rfl (by decide) rfl ?_
      refine x_aload_n 1 dX6_takes_30 rfl rfl ?_
      refine x_dupr dX6_takes_31 ?_
      refine x_geti_r dX6_takes_32 fl_X6_187 hF (fun v13 hF => ?_)
      refine x_iload_n 0 dX6_takes_35 rfl rfl ?_
      refine x_if_eq 43 dX6_takes_36 (by decide) hF (fun hF => ?_) (fun hF => ?_)
      · refine x_iconst 0 (by decide) dX6_takes_43 ?_
        refine x_iadd dX6_takes_44 ?_
        refine x_puti_r dX6_takes_45 fl_X6_187 (fun h9 => by cases h9) hF (fun f14 hF => ?_)
        refine x_iload_n 0 dX6_takes_48 rfl rfl ?_
        exact x_zret dX6_takes_49 rfl (Or.inr rfl) (by cases hF; rfl)
      · refine x_iconst 1 (by decide) dX6_takes_39 ?_
        refine x_goto 44 dX6_takes_40 (by decide) ?_
        refine x_iadd dX6_takes_44 ?_
        refine x_puti_r dX6_takes_45 fl_X6_187 (fun h9 => by cases h9) hF (fun f15 hF => ?_)
        refine x_iload_n 0 dX6_takes_48 rfl rfl ?_
        exact x_zret dX6_takes_49 rfl (Or.inr rfl) (by cases hF; rfl)
def F_X6_isShare (N : Nat) (f : XM) (this : Nat) : Option (Bool × XM) :=
  (x_cv f 6 this (F_X6_figure N f this)).bind fun z1 =>
  if z1 = 1 then
    (x_geti f 6 this 12).bind fun v12 =>
    (x_puti f 6 this 12 (v12 + 1)).bind fun f13 =>
    (x_getr f13 6 this 13).bind fun v14 =>
    (x_geti f13 6 this 14).bind fun v15 =>
    Option.bind v14 fun a16 =>
    (x_ast f13 a16 ((3 * v15) + 1) 100).bind fun f17 =>
    (x_cv f17 6 this (F_X6_takes N f17 this 48)).bind fun z18 =>
    if (x_b z18.1) = 0 then
      some (false, z18.2)
    else
      (x_cv z18.2 6 this (F_X6_takes N z18.2 this 48)).bind fun z19 =>
      if (x_b z19.1) = 0 then
        some (false, z19.2)
      else
        some (true, z19.2)
  else
    if 5 ≤ z1 then
      (x_geti f 6 this 12).bind fun v2 =>
      (x_puti f 6 this 12 (v2 + 1)).bind fun f3 =>
      (x_cv f3 6 this (F_X6_figure N f3 this)).bind fun z4 =>
      (x_getr f3 6 this 13).bind fun v5 =>
      (x_geti f3 6 this 14).bind fun v6 =>
      Option.bind v5 fun a7 =>
      (x_ast f3 a7 ((3 * v6) + 1) ((10 * z1) + z4)).bind fun f8 =>
      (x_geti f8 6 this 12).bind fun v9 =>
      if z4 = (-1) then
        (x_puti f8 6 this 12 (v9 + 0)).bind fun f11 =>
        if z4 = (-1) then
          some (false, f11)
        else
          some (true, f11)
      else
        (x_puti f8 6 this 12 (v9 + 1)).bind fun f10 =>
        if z4 = (-1) then
          some (false, f10)
        else
          some (true, f10)
    else
      some (false, f)
set_option maxRecDepth 20000 in
set_option maxHeartbeats 4000000 in
theorem c_X6_isShare (N : Nat) (f : XM) (this : Nat) (n : Nat) (r : (Bool × XM)) (hF : F_X6_isShare N f this = some r) : x_Ct mX6_isShare 2 42 0 0 [.ref this] (f, n) (xr_zm r n) := by
  unfold F_X6_isShare at hF
  refine x_ct (by decide) rfl (Nat.le_of_ble_eq_true rfl) ?_
  show X mX6_isShare 2 42 _ _ 0 0 0 [(0, .ref this)] [] (f, n)
  refine x_aload_n 0 dX6_isShare_0 rfl rfl ?_
  obtain ⟨z1, hzz1, hF⟩ := x_bind hF
  obtain ⟨⟨fsz1, hbz1⟩, hzz1⟩ := x_cv_sp hzz1
  refine x_callv (As := []) (rest := []) 0 0 dX6_isShare_1 mi_X6_figure ml_X6_190 rfl rfl (Nat.le_of_ble_eq_true rfl) ⟨by decide, by decide⟩ (by omega) (by omega) hbz1 rfl (c_X6_figure N _ _ _ _ hzz1) (x_K.some ?_) x_KX.none
  refine x_istore_n (i := 1) (lv' := [(1, .int z1), (0, .ref this)]) dX6_isShare_4 rfl (by decide) rfl ?_
  refine x_iload_n 0 dX6_isShare_5 rfl rfl ?_
  refine x_iconst 1 (by decide) dX6_isShare_6 ?_
  refine x_icmp_ne 59 dX6_isShare_7 (by decide) hF (fun hF => ?_) (fun hF => ?_)
  · refine x_iload_n 0 dX6_isShare_59 rfl rfl ?_
    refine x_iconst 5 (by decide) dX6_isShare_60 ?_
    refine x_icmp_ge 66 dX6_isShare_61 (by decide) hF (fun hF => ?_) (fun hF => ?_)
    · refine x_aload_n 1 dX6_isShare_66 rfl rfl ?_
      refine x_dupr dX6_isShare_67 ?_
      refine x_geti_r dX6_isShare_68 fl_X6_187 hF (fun v2 hF => ?_)
      refine x_iconst 1 (by decide) dX6_isShare_71 ?_
      refine x_iadd dX6_isShare_72 ?_
      refine x_puti_r dX6_isShare_73 fl_X6_187 (fun h9 => by cases h9) hF (fun f3 hF => ?_)
      refine x_aload_n 1 dX6_isShare_76 rfl rfl ?_
      obtain ⟨z4, hzz4, hF⟩ := x_bind hF
      obtain ⟨⟨fsz4, hbz4⟩, hzz4⟩ := x_cv_sp hzz4
      refine x_callv (As := []) (rest := []) 0 0 dX6_isShare_77 mi_X6_figure ml_X6_190 rfl rfl (Nat.le_of_ble_eq_true rfl) ⟨by decide, by decide⟩ (by omega) (by omega) hbz4 rfl (c_X6_figure N _ _ _ _ hzz4) (x_K.some ?_) x_KX.none
      refine x_istore_n (i := 2) (lv' := [(2, .int z4), (1, .int z1), (0, .ref this)]) dX6_isShare_80 rfl (by decide) rfl ?_
      refine x_aload_n 2 dX6_isShare_81 rfl rfl ?_
      refine x_getr_r dX6_isShare_82 fl_X6_35 hF (fun v5 hF => ?_)
      refine x_iconst 3 (by decide) dX6_isShare_85 ?_
      refine x_aload_n 2 dX6_isShare_86 rfl rfl ?_
      refine x_geti_r dX6_isShare_87 fl_X6_193 hF (fun v6 hF => ?_)
      refine x_imul dX6_isShare_90 ?_
      refine x_iconst 1 (by decide) dX6_isShare_91 ?_
      refine x_iadd dX6_isShare_92 ?_
      refine x_bipush 10 (by decide) dX6_isShare_93 ?_
      refine x_iload_n 1 dX6_isShare_95 rfl rfl ?_
      refine x_imul dX6_isShare_96 ?_
      refine x_iload_n 0 dX6_isShare_97 rfl rfl ?_
      refine x_iadd dX6_isShare_98 ?_
      refine x_nn hF (fun a7 ha7 hF => ?_)
      rw [ha7]
      refine x_ast_r dX6_isShare_99 hF (fun f8 hF => ?_)
      refine x_aload_n 2 dX6_isShare_100 rfl rfl ?_
      refine x_dupr dX6_isShare_101 ?_
      refine x_geti_r dX6_isShare_102 fl_X6_187 hF (fun v9 hF => ?_)
      refine x_iload_n 0 dX6_isShare_105 rfl rfl ?_
      refine x_iconst (-1) (by decide) dX6_isShare_106 ?_
      refine x_icmp_ne 114 dX6_isShare_107 (by decide) hF (fun hF => ?_) (fun hF => ?_)
      · refine x_iconst 1 (by decide) dX6_isShare_114 ?_
        refine x_iadd dX6_isShare_115 ?_
        refine x_puti_r dX6_isShare_116 fl_X6_187 (fun h9 => by cases h9) hF (fun f10 hF => ?_)
        refine x_iload_n 0 dX6_isShare_119 rfl rfl ?_
        refine x_iconst (-1) (by decide) dX6_isShare_120 ?_
        refine x_icmp_eq 128 dX6_isShare_121 (by decide) hF (fun hF => ?_) (fun hF => ?_)
        · refine x_iconst 0 (by decide) dX6_isShare_128 ?_
          exact x_zret dX6_isShare_129 rfl (Or.inl rfl) (by cases hF; rfl)
        · refine x_iconst 1 (by decide) dX6_isShare_124 ?_
          refine x_goto 129 dX6_isShare_125 (by decide) ?_
          exact x_zret dX6_isShare_129 rfl (Or.inr rfl) (by cases hF; rfl)
      · refine x_iconst 0 (by decide) dX6_isShare_110 ?_
        refine x_goto 115 dX6_isShare_111 (by decide) ?_
        refine x_iadd dX6_isShare_115 ?_
        refine x_puti_r dX6_isShare_116 fl_X6_187 (fun h9 => by cases h9) hF (fun f11 hF => ?_)
        refine x_iload_n 0 dX6_isShare_119 rfl rfl ?_
        refine x_iconst (-1) (by decide) dX6_isShare_120 ?_
        refine x_icmp_eq 128 dX6_isShare_121 (by decide) hF (fun hF => ?_) (fun hF => ?_)
        · refine x_iconst 0 (by decide) dX6_isShare_128 ?_
          exact x_zret dX6_isShare_129 rfl (Or.inl rfl) (by cases hF; rfl)
        · refine x_iconst 1 (by decide) dX6_isShare_124 ?_
          refine x_goto 129 dX6_isShare_125 (by decide) ?_
          exact x_zret dX6_isShare_129 rfl (Or.inr rfl) (by cases hF; rfl)
    · refine x_iconst 0 (by decide) dX6_isShare_64 ?_
      exact x_zret dX6_isShare_65 rfl (Or.inl rfl) (by cases hF; rfl)
  · refine x_aload_n 1 dX6_isShare_10 rfl rfl ?_
    refine x_dupr dX6_isShare_11 ?_
    refine x_geti_r dX6_isShare_12 fl_X6_187 hF (fun v12 hF => ?_)
    refine x_iconst 1 (by decide) dX6_isShare_15 ?_
    refine x_iadd dX6_isShare_16 ?_
    refine x_puti_r dX6_isShare_17 fl_X6_187 (fun h9 => by cases h9) hF (fun f13 hF => ?_)
    refine x_aload_n 1 dX6_isShare_20 rfl rfl ?_
    refine x_getr_r dX6_isShare_21 fl_X6_35 hF (fun v14 hF => ?_)
    refine x_iconst 3 (by decide) dX6_isShare_24 ?_
    refine x_aload_n 1 dX6_isShare_25 rfl rfl ?_
    refine x_geti_r dX6_isShare_26 fl_X6_193 hF (fun v15 hF => ?_)
    refine x_imul dX6_isShare_29 ?_
    refine x_iconst 1 (by decide) dX6_isShare_30 ?_
    refine x_iadd dX6_isShare_31 ?_
    refine x_bipush 100 (by decide) dX6_isShare_32 ?_
    refine x_nn hF (fun a16 ha16 hF => ?_)
    rw [ha16]
    refine x_ast_r dX6_isShare_34 hF (fun f17 hF => ?_)
    refine x_aload_n 1 dX6_isShare_35 rfl rfl ?_
    refine x_bipush 48 (by decide) dX6_isShare_36 ?_
    obtain ⟨z18, hzz18, hF⟩ := x_bind hF
    obtain ⟨⟨fsz18, hbz18⟩, hzz18⟩ := x_cv_sp hzz18
    refine x_callv (As := [.int 48]) (rest := []) 0 0 dX6_isShare_38 mi_X6_takes ml_X6_196 rfl rfl (Nat.le_of_ble_eq_true rfl) ⟨by decide, by decide⟩ (by omega) (by omega) hbz18 rfl (c_X6_takes N _ _ _ _ _ hzz18) (x_K.some ?_) x_KX.none
    refine x_if_eq 57 dX6_isShare_41 (by decide) hF (fun hF => ?_) (fun hF => ?_)
    · refine x_iconst 0 (by decide) dX6_isShare_57 ?_
      exact x_zret dX6_isShare_58 rfl (Or.inl rfl) (by cases hF; rfl)
    · refine x_aload_n 1 dX6_isShare_44 rfl rfl ?_
      refine x_bipush 48 (by decide) dX6_isShare_45 ?_
      obtain ⟨z19, hzz19, hF⟩ := x_bind hF
      obtain ⟨⟨fsz19, hbz19⟩, hzz19⟩ := x_cv_sp hzz19
      refine x_callv (As := [.int 48]) (rest := []) 0 0 dX6_isShare_47 mi_X6_takes ml_X6_196 rfl rfl (Nat.le_of_ble_eq_true rfl) ⟨by decide, by decide⟩ (by omega) (by omega) hbz19 rfl (c_X6_takes N _ _ _ _ _ hzz19) (x_K.some ?_) x_KX.none
      refine x_if_eq 57 dX6_isShare_50 (by decide) hF (fun hF => ?_) (fun hF => ?_)
      · refine x_iconst 0 (by decide) dX6_isShare_57 ?_
        exact x_zret dX6_isShare_58 rfl (Or.inl rfl) (by cases hF; rfl)
      · refine x_iconst 1 (by decide) dX6_isShare_53 ?_
        refine x_goto 58 dX6_isShare_54 (by decide) ?_
        exact x_zret dX6_isShare_58 rfl (Or.inr rfl) (by cases hF; rfl)
def F_X6_isOrder (N : Nat) (f : XM) (this : Nat) : Option (Bool × XM) :=
  (x_geti f 6 this 12).bind fun v1 =>
  (x_geti f 6 this 10).bind fun v2 =>
  if v1 = v2 then
    some (false, f)
  else
    (x_getr f 6 this 9).bind fun v3 =>
    (x_geti f 6 this 12).bind fun v4 =>
    Option.bind v3 fun a5 =>
    (x_ald f a5 v4).bind fun v6 =>
    (x_getr f 6 this 13).bind fun v7 =>
    (x_geti f 6 this 14).bind fun v8 =>
    Option.bind v7 fun a9 =>
    (x_ast f a9 (3 * v8) v6).bind fun f10 =>
    (x_geti f10 6 this 12).bind fun v11 =>
    (x_puti f10 6 this 12 (v11 + 1)).bind fun f12 =>
    if v6 = 98 then
      (x_cv f12 6 this (F_X6_isShare N f12 this)).bind fun z13 =>
      some (z13.1, z13.2)
    else if v6 = 99 then
      some (true, f12)
    else if v6 = 100 then
      (x_cv f12 6 this (F_X6_isNumber N f12 this 1 9999)).bind fun z14 =>
      some (z14.1, z14.2)
    else if v6 = 101 then
      (x_cv f12 6 this (F_X6_isNumber N f12 this 1 9999)).bind fun z15 =>
      some (z15.1, z15.2)
    else if v6 = 105 then
      (x_cv f12 6 this (F_X6_isNumber N f12 this 1 9999)).bind fun z16 =>
      if (x_b z16.1) = 0 then
        some (false, z16.2)
      else
        (x_cv z16.2 6 this (F_X6_takes N z16.2 this 61)).bind fun z17 =>
        if (x_b z17.1) = 0 then
          some (false, z17.2)
        else
          (x_cv z17.2 6 this (F_X6_isNumber N z17.2 this 2 99)).bind fun z18 =>
          if (x_b z18.1) = 0 then
            some (false, z18.2)
          else
            some (true, z18.2)
    else if v6 = 112 then
      (x_cv f12 6 this (F_X6_isNumber N f12 this 1 9999)).bind fun z19 =>
      if (x_b z19.1) = 0 then
        some (false, z19.2)
      else
        (x_cv z19.2 6 this (F_X6_takes N z19.2 this 61)).bind fun z20 =>
        if (x_b z20.1) = 0 then
          some (false, z20.2)
        else
          (x_cv z20.2 6 this (F_X6_isNumber N z20.2 this 2 99)).bind fun z21 =>
          if (x_b z21.1) = 0 then
            some (false, z21.2)
          else
            some (true, z21.2)
    else 
    (x_geti f12 6 this 12).bind fun v22 =>
    (x_puti f12 6 this 12 (v22 - 1)).bind fun f23 =>
    some (false, f23)
set_option maxRecDepth 20000 in
set_option maxHeartbeats 4000000 in
theorem c_X6_isOrder (N : Nat) (f : XM) (this : Nat) (n : Nat) (r : (Bool × XM)) (hF : F_X6_isOrder N f this = some r) : x_Ct mX6_isOrder 3 65 0 0 [.ref this] (f, n) (xr_zm r n) := by
  unfold F_X6_isOrder at hF
  refine x_ct (by decide) rfl (Nat.le_of_ble_eq_true rfl) ?_
  show X mX6_isOrder 3 65 _ _ 0 0 0 [(0, .ref this)] [] (f, n)
  refine x_aload_n 0 dX6_isOrder_0 rfl rfl ?_
  refine x_geti_r dX6_isOrder_1 fl_X6_187 hF (fun v1 hF => ?_)
  refine x_aload_n 0 dX6_isOrder_4 rfl rfl ?_
  refine x_geti_r dX6_isOrder_5 fl_X6_184 hF (fun v2 hF => ?_)
  refine x_icmp_ne 13 dX6_isOrder_8 (by decide) hF (fun hF => ?_) (fun hF => ?_)
  · refine x_aload_n 0 dX6_isOrder_13 rfl rfl ?_
    refine x_getr_r dX6_isOrder_14 fl_X6_32 hF (fun v3 hF => ?_)
    refine x_aload_n 0 dX6_isOrder_17 rfl rfl ?_
    refine x_geti_r dX6_isOrder_18 fl_X6_187 hF (fun v4 hF => ?_)
    refine x_nn hF (fun a5 ha5 hF => ?_)
    rw [ha5]
    refine x_ald_r dX6_isOrder_21 hF (fun v6 hF => ?_)
    refine x_istore_n (i := 1) (lv' := [(1, .int v6), (0, .ref this)]) dX6_isOrder_22 rfl (by decide) rfl ?_
    refine x_aload_n 1 dX6_isOrder_23 rfl rfl ?_
    refine x_getr_r dX6_isOrder_24 fl_X6_35 hF (fun v7 hF => ?_)
    refine x_iconst 3 (by decide) dX6_isOrder_27 ?_
    refine x_aload_n 1 dX6_isOrder_28 rfl rfl ?_
    refine x_geti_r dX6_isOrder_29 fl_X6_193 hF (fun v8 hF => ?_)
    refine x_imul dX6_isOrder_32 ?_
    refine x_iload_n 0 dX6_isOrder_33 rfl rfl ?_
    refine x_nn hF (fun a9 ha9 hF => ?_)
    rw [ha9]
    refine x_ast_r dX6_isOrder_34 hF (fun f10 hF => ?_)
    refine x_aload_n 1 dX6_isOrder_35 rfl rfl ?_
    refine x_dupr dX6_isOrder_36 ?_
    refine x_geti_r dX6_isOrder_37 fl_X6_187 hF (fun v11 hF => ?_)
    refine x_iconst 1 (by decide) dX6_isOrder_40 ?_
    refine x_iadd dX6_isOrder_41 ?_
    refine x_puti_r dX6_isOrder_42 fl_X6_187 (fun h9 => by cases h9) hF (fun f12 hF => ?_)
    refine x_iload_n 0 dX6_isOrder_45 rfl rfl ?_
    refine x_swc 98 167 dX6_isOrder_46 (by decide) rfl (by decide) hF (fun hF => ?_) (fun e98 hF => ?_)
    · refine x_aload_n 1 dX6_isOrder_167 rfl rfl ?_
      obtain ⟨z13, hzz13, hF⟩ := x_bind hF
      obtain ⟨⟨fsz13, hbz13⟩, hzz13⟩ := x_cv_sp hzz13
      refine x_callv (As := []) (rest := []) 0 0 dX6_isOrder_168 mi_X6_isShare ml_X6_203 rfl rfl (Nat.le_of_ble_eq_true rfl) ⟨by decide, by decide⟩ (by omega) (by omega) hbz13 rfl (c_X6_isShare N _ _ _ _ hzz13) (x_K.some ?_) x_KX.none
      exact x_zret dX6_isOrder_171 rfl (x_b_01 z13.1) (by cases hF; rfl)
    refine x_swc 99 165 dX6_isOrder_46 (by decide) rfl (by decide) hF (fun hF => ?_) (fun e99 hF => ?_)
    · refine x_iconst 1 (by decide) dX6_isOrder_165 ?_
      exact x_zret dX6_isOrder_166 rfl (Or.inr rfl) (by cases hF; rfl)
    refine x_swc 100 156 dX6_isOrder_46 (by decide) rfl (by decide) hF (fun hF => ?_) (fun e100 hF => ?_)
    · refine x_aload_n 1 dX6_isOrder_156 rfl rfl ?_
      refine x_iconst 1 (by decide) dX6_isOrder_157 ?_
      refine x_sipush 9999 (by decide) dX6_isOrder_158 ?_
      obtain ⟨z14, hzz14, hF⟩ := x_bind hF
      obtain ⟨⟨fsz14, hbz14⟩, hzz14⟩ := x_cv_sp hzz14
      refine x_callv (As := [.int 1, .int 9999]) (rest := []) 0 0 dX6_isOrder_161 mi_X6_isNumber ml_X6_199 rfl rfl (Nat.le_of_ble_eq_true rfl) ⟨by decide, by decide⟩ (by omega) (by omega) hbz14 rfl (c_X6_isNumber N _ _ _ _ _ _ hzz14) (x_K.some ?_) x_KX.none
      exact x_zret dX6_isOrder_164 rfl (x_b_01 z14.1) (by cases hF; rfl)
    refine x_swc 101 156 dX6_isOrder_46 (by decide) rfl (by decide) hF (fun hF => ?_) (fun e101 hF => ?_)
    · refine x_aload_n 1 dX6_isOrder_156 rfl rfl ?_
      refine x_iconst 1 (by decide) dX6_isOrder_157 ?_
      refine x_sipush 9999 (by decide) dX6_isOrder_158 ?_
      obtain ⟨z15, hzz15, hF⟩ := x_bind hF
      obtain ⟨⟨fsz15, hbz15⟩, hzz15⟩ := x_cv_sp hzz15
      refine x_callv (As := [.int 1, .int 9999]) (rest := []) 0 0 dX6_isOrder_161 mi_X6_isNumber ml_X6_199 rfl rfl (Nat.le_of_ble_eq_true rfl) ⟨by decide, by decide⟩ (by omega) (by omega) hbz15 rfl (c_X6_isNumber N _ _ _ _ _ _ hzz15) (x_K.some ?_) x_KX.none
      exact x_zret dX6_isOrder_164 rfl (x_b_01 z15.1) (by cases hF; rfl)
    refine x_swc 105 120 dX6_isOrder_46 (by decide) rfl (by decide) hF (fun hF => ?_) (fun e105 hF => ?_)
    · refine x_aload_n 1 dX6_isOrder_120 rfl rfl ?_
      refine x_iconst 1 (by decide) dX6_isOrder_121 ?_
      refine x_sipush 9999 (by decide) dX6_isOrder_122 ?_
      obtain ⟨z16, hzz16, hF⟩ := x_bind hF
      obtain ⟨⟨fsz16, hbz16⟩, hzz16⟩ := x_cv_sp hzz16
      refine x_callv (As := [.int 1, .int 9999]) (rest := []) 0 0 dX6_isOrder_125 mi_X6_isNumber ml_X6_199 rfl rfl (Nat.le_of_ble_eq_true rfl) ⟨by decide, by decide⟩ (by omega) (by omega) hbz16 rfl (c_X6_isNumber N _ _ _ _ _ _ hzz16) (x_K.some ?_) x_KX.none
      refine x_if_eq 154 dX6_isOrder_128 (by decide) hF (fun hF => ?_) (fun hF => ?_)
      · refine x_iconst 0 (by decide) dX6_isOrder_154 ?_
        exact x_zret dX6_isOrder_155 rfl (Or.inl rfl) (by cases hF; rfl)
      · refine x_aload_n 1 dX6_isOrder_131 rfl rfl ?_
        refine x_bipush 61 (by decide) dX6_isOrder_132 ?_
        obtain ⟨z17, hzz17, hF⟩ := x_bind hF
        obtain ⟨⟨fsz17, hbz17⟩, hzz17⟩ := x_cv_sp hzz17
        refine x_callv (As := [.int 61]) (rest := []) 0 0 dX6_isOrder_134 mi_X6_takes ml_X6_196 rfl rfl (Nat.le_of_ble_eq_true rfl) ⟨by decide, by decide⟩ (by omega) (by omega) hbz17 rfl (c_X6_takes N _ _ _ _ _ hzz17) (x_K.some ?_) x_KX.none
        refine x_if_eq 154 dX6_isOrder_137 (by decide) hF (fun hF => ?_) (fun hF => ?_)
        · refine x_iconst 0 (by decide) dX6_isOrder_154 ?_
          exact x_zret dX6_isOrder_155 rfl (Or.inl rfl) (by cases hF; rfl)
        · refine x_aload_n 1 dX6_isOrder_140 rfl rfl ?_
          refine x_iconst 2 (by decide) dX6_isOrder_141 ?_
          refine x_bipush 99 (by decide) dX6_isOrder_142 ?_
          obtain ⟨z18, hzz18, hF⟩ := x_bind hF
          obtain ⟨⟨fsz18, hbz18⟩, hzz18⟩ := x_cv_sp hzz18
          refine x_callv (As := [.int 2, .int 99]) (rest := []) 0 0 dX6_isOrder_144 mi_X6_isNumber ml_X6_199 rfl rfl (Nat.le_of_ble_eq_true rfl) ⟨by decide, by decide⟩ (by omega) (by omega) hbz18 rfl (c_X6_isNumber N _ _ _ _ _ _ hzz18) (x_K.some ?_) x_KX.none
          refine x_if_eq 154 dX6_isOrder_147 (by decide) hF (fun hF => ?_) (fun hF => ?_)
          · refine x_iconst 0 (by decide) dX6_isOrder_154 ?_
            exact x_zret dX6_isOrder_155 rfl (Or.inl rfl) (by cases hF; rfl)
          · refine x_iconst 1 (by decide) dX6_isOrder_150 ?_
            refine x_goto 155 dX6_isOrder_151 (by decide) ?_
            exact x_zret dX6_isOrder_155 rfl (Or.inr rfl) (by cases hF; rfl)
    refine x_swc 112 120 dX6_isOrder_46 (by decide) rfl (by decide) hF (fun hF => ?_) (fun e112 hF => ?_)
    · refine x_aload_n 1 dX6_isOrder_120 rfl rfl ?_
      refine x_iconst 1 (by decide) dX6_isOrder_121 ?_
      refine x_sipush 9999 (by decide) dX6_isOrder_122 ?_
      obtain ⟨z19, hzz19, hF⟩ := x_bind hF
      obtain ⟨⟨fsz19, hbz19⟩, hzz19⟩ := x_cv_sp hzz19
      refine x_callv (As := [.int 1, .int 9999]) (rest := []) 0 0 dX6_isOrder_125 mi_X6_isNumber ml_X6_199 rfl rfl (Nat.le_of_ble_eq_true rfl) ⟨by decide, by decide⟩ (by omega) (by omega) hbz19 rfl (c_X6_isNumber N _ _ _ _ _ _ hzz19) (x_K.some ?_) x_KX.none
      refine x_if_eq 154 dX6_isOrder_128 (by decide) hF (fun hF => ?_) (fun hF => ?_)
      · refine x_iconst 0 (by decide) dX6_isOrder_154 ?_
        exact x_zret dX6_isOrder_155 rfl (Or.inl rfl) (by cases hF; rfl)
      · refine x_aload_n 1 dX6_isOrder_131 rfl rfl ?_
        refine x_bipush 61 (by decide) dX6_isOrder_132 ?_
        obtain ⟨z20, hzz20, hF⟩ := x_bind hF
        obtain ⟨⟨fsz20, hbz20⟩, hzz20⟩ := x_cv_sp hzz20
        refine x_callv (As := [.int 61]) (rest := []) 0 0 dX6_isOrder_134 mi_X6_takes ml_X6_196 rfl rfl (Nat.le_of_ble_eq_true rfl) ⟨by decide, by decide⟩ (by omega) (by omega) hbz20 rfl (c_X6_takes N _ _ _ _ _ hzz20) (x_K.some ?_) x_KX.none
        refine x_if_eq 154 dX6_isOrder_137 (by decide) hF (fun hF => ?_) (fun hF => ?_)
        · refine x_iconst 0 (by decide) dX6_isOrder_154 ?_
          exact x_zret dX6_isOrder_155 rfl (Or.inl rfl) (by cases hF; rfl)
        · refine x_aload_n 1 dX6_isOrder_140 rfl rfl ?_
          refine x_iconst 2 (by decide) dX6_isOrder_141 ?_
          refine x_bipush 99 (by decide) dX6_isOrder_142 ?_
          obtain ⟨z21, hzz21, hF⟩ := x_bind hF
          obtain ⟨⟨fsz21, hbz21⟩, hzz21⟩ := x_cv_sp hzz21
          refine x_callv (As := [.int 2, .int 99]) (rest := []) 0 0 dX6_isOrder_144 mi_X6_isNumber ml_X6_199 rfl rfl (Nat.le_of_ble_eq_true rfl) ⟨by decide, by decide⟩ (by omega) (by omega) hbz21 rfl (c_X6_isNumber N _ _ _ _ _ _ hzz21) (x_K.some ?_) x_KX.none
          refine x_if_eq 154 dX6_isOrder_147 (by decide) hF (fun hF => ?_) (fun hF => ?_)
          · refine x_iconst 0 (by decide) dX6_isOrder_154 ?_
            exact x_zret dX6_isOrder_155 rfl (Or.inl rfl) (by cases hF; rfl)
          · refine x_iconst 1 (by decide) dX6_isOrder_150 ?_
            refine x_goto 155 dX6_isOrder_151 (by decide) ?_
            exact x_zret dX6_isOrder_155 rfl (Or.inr rfl) (by cases hF; rfl)
    refine x_swd 172 dX6_isOrder_46 (by decide) ?_ ?_
    · intro i hi
      match i, hi with
      | 0, _ => exact Or.inr (fun h9 => e98 (x_toInt h9))
      | 1, _ => exact Or.inr (fun h9 => e99 (x_toInt h9))
      | 2, _ => exact Or.inr (fun h9 => e100 (x_toInt h9))
      | 3, _ => exact Or.inr (fun h9 => e101 (x_toInt h9))
      | 4, _ => exact Or.inl rfl
      | 5, _ => exact Or.inl rfl
      | 6, _ => exact Or.inl rfl
      | 7, _ => exact Or.inr (fun h9 => e105 (x_toInt h9))
      | 8, _ => exact Or.inl rfl
      | 9, _ => exact Or.inl rfl
      | 10, _ => exact Or.inl rfl
      | 11, _ => exact Or.inl rfl
      | 12, _ => exact Or.inl rfl
      | 13, _ => exact Or.inl rfl
      | 14, _ => exact Or.inr (fun h9 => e112 (x_toInt h9))
      | i + 15, hi => exact absurd hi (by show ¬ i + 15 < 15; omega)
    refine ⟨by decide, ?_⟩
    refine x_aload_n 1 dX6_isOrder_172 rfl rfl ?_
    refine x_dupr dX6_isOrder_173 ?_
    refine x_geti_r dX6_isOrder_174 fl_X6_187 hF (fun v22 hF => ?_)
    refine x_iconst 1 (by decide) dX6_isOrder_177 ?_
    refine x_isub dX6_isOrder_178 ?_
    refine x_puti_r dX6_isOrder_179 fl_X6_187 (fun h9 => by cases h9) hF (fun f23 hF => ?_)
    refine x_iconst 0 (by decide) dX6_isOrder_182 ?_
    exact x_zret dX6_isOrder_183 rfl (Or.inl rfl) (by cases hF; rfl)
  · refine x_iconst 0 (by decide) dX6_isOrder_11 ?_
    exact x_zret dX6_isOrder_12 rfl (Or.inl rfl) (by cases hF; rfl)
def F_X6_isWhole_L12 (N : Nat) (c0 : Nat) (K : Bool → XM → Option (Bool × XM)) : Nat → Bool → XM → Option (Bool × XM)
  | 0, _, _ => none
  | k + 1, x1, f =>
    if (x_b x1) = 0 then
      K x1 f
    else
      (x_cv f 6 c0 (F_X6_isOrder N f c0)).bind fun z4 =>
      if (x_b z4.1) = 0 then
        some (false, z4.2)
      else
        (x_geti z4.2 6 c0 14).bind fun v5 =>
        (x_puti z4.2 6 c0 14 (v5 + 1)).bind fun f6 =>
        (x_cv f6 6 c0 (F_X6_takes N f6 c0 59)).bind fun z7 =>
        F_X6_isWhole_L12 N c0 K k z7.1 z7.2
def F_X6_isWhole (N : Nat) (f : XM) (this : Nat) : Option (Bool × XM) :=
  (x_puti f 6 this 12 0).bind fun f1 =>
  (x_puti f1 6 this 14 0).bind fun f2 =>
  F_X6_isWhole_L12 N this (fun y1_8 g8 =>
  (x_geti g8 6 this 12).bind fun v9 =>
  (x_geti g8 6 this 10).bind fun v10 =>
  if v9 = v10 then
    some (true, g8)
  else
    some (false, g8)) N true f2
set_option maxRecDepth 20000 in
set_option maxHeartbeats 4000000 in
theorem w_X6_isWhole_L12 (N : Nat) (c0 : Nat) (K : Bool → XM → Option (Bool × XM)) (n : Nat) (r : (Bool × XM)) {rc rs : Nat} : ∀ (k : Nat) (x1 : Bool) (f : XM), F_X6_isWhole_L12 N c0 K k x1 f = some r → (∀ (x1 : Bool) (f : XM), K x1 f = some r → X mX6_isWhole 4 86 (x_end (xr_zm r n)) x_noRO rc rs 45 [(0, .ref c0), (1, .int (x_b x1))] [] (f, n)) → X mX6_isWhole 4 86 (x_end (xr_zm r n)) x_noRO rc rs 12 [(0, .ref c0), (1, .int (x_b x1))] [] (f, n) := by
  intro k
  induction k with
  | zero =>
    intro x1 f hF
    exact absurd hF (by intro h9; cases h9)
  | succ k ih =>
    intro x1 f hF hK
    have ih := fun x1 f hF => ih x1 f hF hK
    rw [F_X6_isWhole_L12] at hF
    refine x_iload_n 1 dX6_isWhole_12 rfl rfl ?_
    refine x_if_eq 45 dX6_isWhole_13 (by decide) hF (fun hF => ?_) (fun hF => ?_)
    · refine x_sub [0, 1] rfl ?_
      exact hK _ _ hF
    · refine x_aload_n 0 dX6_isWhole_16 rfl rfl ?_
      obtain ⟨z4, hzz4, hF⟩ := x_bind hF
      obtain ⟨⟨fsz4, hbz4⟩, hzz4⟩ := x_cv_sp hzz4
      refine x_callv (As := []) (rest := []) (rc + 0) (rs + 0) dX6_isWhole_17 mi_X6_isOrder ml_X6_206 rfl rfl (Nat.le_of_ble_eq_true rfl) ⟨by decide, by decide⟩ (by omega) (by omega) hbz4 rfl (c_X6_isOrder N _ _ _ _ hzz4) (x_K.some ?_) x_KX.none
      refine x_if_ne 25 dX6_isWhole_20 (by decide) hF (fun hF => ?_) (fun hF => ?_)
      · refine x_aload_n 0 dX6_isWhole_25 rfl rfl ?_
        refine x_dupr dX6_isWhole_26 ?_
        refine x_geti_r dX6_isWhole_27 fl_X6_193 hF (fun v5 hF => ?_)
        refine x_iconst 1 (by decide) dX6_isWhole_30 ?_
        refine x_iadd dX6_isWhole_31 ?_
        refine x_puti_r dX6_isWhole_32 fl_X6_193 (fun h9 => by cases h9) hF (fun f6 hF => ?_)
        refine x_aload_n 0 dX6_isWhole_35 rfl rfl ?_
        refine x_bipush 59 (by decide) dX6_isWhole_36 ?_
        obtain ⟨z7, hzz7, hF⟩ := x_bind hF
        obtain ⟨⟨fsz7, hbz7⟩, hzz7⟩ := x_cv_sp hzz7
        refine x_callv (As := [.int 59]) (rest := []) (rc + 0) (rs + 0) dX6_isWhole_38 mi_X6_takes ml_X6_196 rfl rfl (Nat.le_of_ble_eq_true rfl) ⟨by decide, by decide⟩ (by omega) (by omega) hbz7 rfl (c_X6_takes N _ _ _ _ _ hzz7) (x_K.some ?_) x_KX.none
        refine x_istore_n (i := 1) (lv' := [(1, .int (x_b z7.1)), (0, .ref c0)]) dX6_isWhole_41 rfl (by decide) rfl ?_
        refine x_goto 12 dX6_isWhole_42 (by decide) ?_
        refine x_sub [1, 0] rfl ?_
        exact ih _ _ hF
      · refine x_iconst 0 (by decide) dX6_isWhole_23 ?_
        exact x_zret dX6_isWhole_24 rfl (Or.inl rfl) (by cases hF; rfl)
set_option maxRecDepth 20000 in
set_option maxHeartbeats 4000000 in
theorem c_X6_isWhole (N : Nat) (f : XM) (this : Nat) (n : Nat) (r : (Bool × XM)) (hF : F_X6_isWhole N f this = some r) : x_Ct mX6_isWhole 4 86 0 0 [.ref this] (f, n) (xr_zm r n) := by
  unfold F_X6_isWhole at hF
  refine x_ct (by decide) rfl (Nat.le_of_ble_eq_true rfl) ?_
  show X mX6_isWhole 4 86 _ _ 0 0 0 [(0, .ref this)] [] (f, n)
  refine x_aload_n 0 dX6_isWhole_0 rfl rfl ?_
  refine x_iconst 0 (by decide) dX6_isWhole_1 ?_
  refine x_puti_r dX6_isWhole_2 fl_X6_187 (fun h9 => by cases h9) hF (fun f1 hF => ?_)
  refine x_aload_n 0 dX6_isWhole_5 rfl rfl ?_
  refine x_iconst 0 (by decide) dX6_isWhole_6 ?_
  refine x_puti_r dX6_isWhole_7 fl_X6_193 (fun h9 => by cases h9) hF (fun f2 hF => ?_)
  refine x_iconst 1 (by decide) dX6_isWhole_10 ?_
  refine x_istore_n (i := 1) (lv' := [(1, .int (x_b true)), (0, .ref this)]) dX6_isWhole_11 rfl (by decide) rfl ?_
  refine x_sub [1, 0] rfl ?_
  refine w_X6_isWhole_L12 N _ _ _ r _ _ _ hF (fun y1_8 g8 hF => ?_)
  refine x_aload_n 0 dX6_isWhole_45 rfl rfl ?_
  refine x_geti_r dX6_isWhole_46 fl_X6_187 hF (fun v9 hF => ?_)
  refine x_aload_n 0 dX6_isWhole_49 rfl rfl ?_
  refine x_geti_r dX6_isWhole_50 fl_X6_184 hF (fun v10 hF => ?_)
  refine x_icmp_ne 60 dX6_isWhole_53 (by decide) hF (fun hF => ?_) (fun hF => ?_)
  · refine x_iconst 0 (by decide) dX6_isWhole_60 ?_
    exact x_zret dX6_isWhole_61 rfl (Or.inl rfl) (by cases hF; rfl)
  · refine x_iconst 1 (by decide) dX6_isWhole_56 ?_
    refine x_goto 61 dX6_isWhole_57 (by decide) ?_
    exact x_zret dX6_isWhole_61 rfl (Or.inr rfl) (by cases hF; rfl)
def F_X6_firstError (N : Nat) (f : XM) (this : Nat) : Option (Int32 × XM) :=
  (x_puti f 6 this 11 0).bind fun f1 =>
  (x_cv f1 6 this (F_X6_isWhole N f1 this)).bind fun z2 =>
  if (x_b z2.1) = 0 then
    (x_geti z2.2 6 this 12).bind fun v3 =>
    some (v3, z2.2)
  else
    (x_geti z2.2 6 this 10).bind fun v4 =>
    some (v4, z2.2)
set_option maxRecDepth 20000 in
set_option maxHeartbeats 4000000 in
theorem c_X6_firstError (N : Nat) (f : XM) (this : Nat) (n : Nat) (r : (Int32 × XM)) (hF : F_X6_firstError N f this = some r) : x_Ct mX6_firstError 5 107 0 0 [.ref this] (f, n) (xr_im r n) := by
  unfold F_X6_firstError at hF
  refine x_ct (by decide) rfl (Nat.le_of_ble_eq_true rfl) ?_
  show X mX6_firstError 5 107 _ _ 0 0 0 [(0, .ref this)] [] (f, n)
  refine x_aload_n 0 dX6_firstError_0 rfl rfl ?_
  refine x_iconst 0 (by decide) dX6_firstError_1 ?_
  refine x_puti_r dX6_firstError_2 fl_X6_38 (fun h9 => by cases h9) hF (fun f1 hF => ?_)
  refine x_aload_n 0 dX6_firstError_5 rfl rfl ?_
  obtain ⟨z2, hzz2, hF⟩ := x_bind hF
  obtain ⟨⟨fsz2, hbz2⟩, hzz2⟩ := x_cv_sp hzz2
  refine x_callv (As := []) (rest := []) 0 0 dX6_firstError_6 mi_X6_isWhole ml_X6_209 rfl rfl (Nat.le_of_ble_eq_true rfl) ⟨by decide, by decide⟩ (by omega) (by omega) hbz2 rfl (c_X6_isWhole N _ _ _ _ hzz2) (x_K.some ?_) x_KX.none
  refine x_if_eq 19 dX6_firstError_9 (by decide) hF (fun hF => ?_) (fun hF => ?_)
  · refine x_aload_n 0 dX6_firstError_19 rfl rfl ?_
    refine x_geti_r dX6_firstError_20 fl_X6_187 hF (fun v3 hF => ?_)
    exact x_iret dX6_firstError_23 rfl (by cases hF; rfl)
  · refine x_aload_n 0 dX6_firstError_12 rfl rfl ?_
    refine x_geti_r dX6_firstError_13 fl_X6_184 hF (fun v4 hF => ?_)
    refine x_goto 23 dX6_firstError_16 (by decide) ?_
    exact x_iret dX6_firstError_23 rfl (by cases hF; rfl)
def F_X6_greatest_L13 (N : Nat) (f : XM) (c0 : Nat) (c1 : Int32) (c2 : Int32) (K : Int32 → Int32 → Option Int32) : Nat → Int32 → Int32 → Option Int32
  | 0, _, _ => none
  | k + 1, x3, x4 =>
    (x_getr f 6 c0 0).bind fun v2 =>
    Option.bind v2 fun a3 =>
    (x_ald f a3 7).bind fun v4 =>
    if v4 ≤ x4 then
      K x3 x4
    else
      (x_cv f 6 c0 (F_X6_entry N f c0 x4 2)).bind fun z5 =>
      if z5 = c1 then
        (x_cv f 6 c0 (F_X6_entry N f c0 x4 c2)).bind fun z6 =>
        if z6 ≤ x3 then
          F_X6_greatest_L13 N f c0 c1 c2 K k x3 (x4 + 1)
        else
          (x_cv f 6 c0 (F_X6_entry N f c0 x4 c2)).bind fun z7 =>
          F_X6_greatest_L13 N f c0 c1 c2 K k z7 (x4 + 1)
      else
        F_X6_greatest_L13 N f c0 c1 c2 K k x3 (x4 + 1)
def F_X6_greatest (N : Nat) (f : XM) (this : Nat) (p0 : Int32) (p1 : Int32) : Option Int32 :=
  if p1 = 0 then
    F_X6_greatest_L13 N f this p0 p1 (fun y3_16 y4_16 =>
    some y3_16) N (-1) 0
  else
    F_X6_greatest_L13 N f this p0 p1 (fun y3_8 y4_8 =>
    some y3_8) N 0 0
set_option maxRecDepth 20000 in
set_option maxHeartbeats 4000000 in
theorem w_X6_greatest_L13 (N : Nat) (f : XM) (c0 : Nat) (c1 : Int32) (c2 : Int32) (K : Int32 → Int32 → Option Int32) (n : Nat) (r : Int32) {rc rs : Nat} : ∀ (k : Nat) (x3 : Int32) (x4 : Int32), F_X6_greatest_L13 N f c0 c1 c2 K k x3 x4 = some r → (∀ (x3 : Int32) (x4 : Int32), K x3 x4 = some r → X mX6_greatest 1 22 (x_end (xr_ip r (f, n))) x_noRO rc rs 65 [(0, .ref c0), (1, .int c1), (2, .int c2), (3, .int x3), (4, .int x4)] [] (f, n)) → X mX6_greatest 1 22 (x_end (xr_ip r (f, n))) x_noRO rc rs 13 [(0, .ref c0), (1, .int c1), (2, .int c2), (3, .int x3), (4, .int x4)] [] (f, n) := by
  intro k
  induction k with
  | zero =>
    intro x3 x4 hF
    exact absurd hF (by intro h9; cases h9)
  | succ k ih =>
    intro x3 x4 hF hK
    have ih := fun x3 x4 hF => ih x3 x4 hF hK
    rw [F_X6_greatest_L13] at hF
    refine x_iload 4 dX6_greatest_13 rfl ?_
    refine x_aload_n 0 dX6_greatest_15 rfl rfl ?_
    refine x_getr_r dX6_greatest_16 fl_X6_7 hF (fun v2 hF => ?_)
    refine x_bipush 7 (by decide) dX6_greatest_19 ?_
    refine x_nn hF (fun a3 ha3 hF => ?_)
    rw [ha3]
    refine x_ald_r dX6_greatest_21 hF (fun v4 hF => ?_)
    refine x_icmp_ge 65 dX6_greatest_22 (by decide) hF (fun hF => ?_) (fun hF => ?_)
    · refine x_sub [0, 1, 2, 3, 4] rfl ?_
      exact hK _ _ hF
    · refine x_aload_n 0 dX6_greatest_25 rfl rfl ?_
      refine x_iload 4 dX6_greatest_26 rfl ?_
      refine x_iconst 2 (by decide) dX6_greatest_28 ?_
      obtain ⟨z5, hzz5, hF⟩ := x_bind hF
      obtain ⟨⟨fsz5, hbz5⟩, hzz5⟩ := x_cv_sp hzz5
      refine x_callv (As := [.int x4, .int 2]) (rest := []) (rc + 0) (rs + 0) dX6_greatest_29 mi_X6_entry ml_X6_72 rfl rfl (Nat.le_of_ble_eq_true rfl) ⟨by decide, by decide⟩ (by omega) (by omega) hbz5 rfl (c_X6_entry N _ _ _ _ _ _ hzz5) (x_K.some ?_) x_KX.none
      refine x_iload_n 1 dX6_greatest_32 rfl rfl ?_
      refine x_icmp_ne 57 dX6_greatest_33 (by decide) hF (fun hF => ?_) (fun hF => ?_)
      · refine x_iload_n 3 dX6_greatest_57 rfl rfl ?_
        refine x_istore_n (i := 3) (lv' := [(3, .int x3), (0, .ref c0), (1, .int c1), (2, .int c2), (4, .int x4)]) dX6_greatest_58 rfl (by decide) rfl ?_
        refine x_iinc (x4 + 1) (lv' := [(4, .int (x4 + 1)), (3, .int x3), (0, .ref c0), (1, .int c1), (2, .int c2)]) dX6_greatest_59 4 rfl (by rfl) (by decide) rfl ?_
        refine x_goto 13 dX6_greatest_62 (by decide) ?_
        refine x_sub [2, 3, 4, 1, 0] rfl ?_
        exact ih _ _ hF
      · refine x_aload_n 0 dX6_greatest_36 rfl rfl ?_
        refine x_iload 4 dX6_greatest_37 rfl ?_
        refine x_iload_n 2 dX6_greatest_39 rfl rfl ?_
        obtain ⟨z6, hzz6, hF⟩ := x_bind hF
        obtain ⟨⟨fsz6, hbz6⟩, hzz6⟩ := x_cv_sp hzz6
        refine x_callv (As := [.int x4, .int c2]) (rest := []) (rc + 0) (rs + 0) dX6_greatest_40 mi_X6_entry ml_X6_72 rfl rfl (Nat.le_of_ble_eq_true rfl) ⟨by decide, by decide⟩ (by omega) (by omega) hbz6 rfl (c_X6_entry N _ _ _ _ _ _ hzz6) (x_K.some ?_) x_KX.none
        refine x_iload_n 3 dX6_greatest_43 rfl rfl ?_
        refine x_icmp_le 57 dX6_greatest_44 (by decide) hF (fun hF => ?_) (fun hF => ?_)
        · refine x_iload_n 3 dX6_greatest_57 rfl rfl ?_
          refine x_istore_n (i := 3) (lv' := [(3, .int x3), (0, .ref c0), (1, .int c1), (2, .int c2), (4, .int x4)]) dX6_greatest_58 rfl (by decide) rfl ?_
          refine x_iinc (x4 + 1) (lv' := [(4, .int (x4 + 1)), (3, .int x3), (0, .ref c0), (1, .int c1), (2, .int c2)]) dX6_greatest_59 4 rfl (by rfl) (by decide) rfl ?_
          refine x_goto 13 dX6_greatest_62 (by decide) ?_
          refine x_sub [2, 3, 4, 1, 0] rfl ?_
          exact ih _ _ hF
        · refine x_aload_n 0 dX6_greatest_47 rfl rfl ?_
          refine x_iload 4 dX6_greatest_48 rfl ?_
          refine x_iload_n 2 dX6_greatest_50 rfl rfl ?_
          obtain ⟨z7, hzz7, hF⟩ := x_bind hF
          obtain ⟨⟨fsz7, hbz7⟩, hzz7⟩ := x_cv_sp hzz7
          refine x_callv (As := [.int x4, .int c2]) (rest := []) (rc + 0) (rs + 0) dX6_greatest_51 mi_X6_entry ml_X6_72 rfl rfl (Nat.le_of_ble_eq_true rfl) ⟨by decide, by decide⟩ (by omega) (by omega) hbz7 rfl (c_X6_entry N _ _ _ _ _ _ hzz7) (x_K.some ?_) x_KX.none
          refine x_goto 58 dX6_greatest_54 (by decide) ?_
          refine x_istore_n (i := 3) (lv' := [(3, .int z7), (0, .ref c0), (1, .int c1), (2, .int c2), (4, .int x4)]) dX6_greatest_58 rfl (by decide) rfl ?_
          refine x_iinc (x4 + 1) (lv' := [(4, .int (x4 + 1)), (3, .int z7), (0, .ref c0), (1, .int c1), (2, .int c2)]) dX6_greatest_59 4 rfl (by rfl) (by decide) rfl ?_
          refine x_goto 13 dX6_greatest_62 (by decide) ?_
          refine x_sub [2, 3, 4, 1, 0] rfl ?_
          exact ih _ _ hF
set_option maxRecDepth 20000 in
set_option maxHeartbeats 4000000 in
theorem c_X6_greatest (N : Nat) (f : XM) (this : Nat) (p0 : Int32) (p1 : Int32) (n : Nat) (r : Int32) (hF : F_X6_greatest N f this p0 p1 = some r) : x_Ct mX6_greatest 1 22 0 0 [.ref this, .int p0, .int p1] (f, n) (xr_ip r (f, n)) := by
  unfold F_X6_greatest at hF
  refine x_ct (by decide) rfl (Nat.le_of_ble_eq_true rfl) ?_
  show X mX6_greatest 1 22 _ _ 0 0 0 [(0, .ref this), (1, .int p0), (2, .int p1)] [] (f, n)
  refine x_iload_n 2 dX6_greatest_0 rfl rfl ?_
  refine x_if_ne 8 dX6_greatest_1 (by decide) hF (fun hF => ?_) (fun hF => ?_)
  · refine x_iconst 0 (by decide) dX6_greatest_8 ?_
    refine x_istore_n (i := 3) (lv' := [(3, .int 0), (0, .ref this), (1, .int p0), (2, .int p1)]) dX6_greatest_9 rfl (by decide) rfl ?_
    refine x_iconst 0 (by decide) dX6_greatest_10 ?_
    refine x_istore (i := 4) (lv' := [(4, .int 0), (3, .int 0), (0, .ref this), (1, .int p0), (2, .int p1)]) dX6_greatest_11 (by decide) rfl ?_
    refine x_sub [2, 3, 4, 1, 0] rfl ?_
    refine w_X6_greatest_L13 N _ _ _ _ _ _ r _ _ _ hF (fun y3_8 y4_8 hF => ?_)
    refine x_iload_n 3 dX6_greatest_65 rfl rfl ?_
    exact x_iret dX6_greatest_66 rfl (by cases hF; rfl)
  · refine x_iconst (-1) (by decide) dX6_greatest_4 ?_
    refine x_goto 9 dX6_greatest_5 (by decide) ?_
    refine x_istore_n (i := 3) (lv' := [(3, .int (-1)), (0, .ref this), (1, .int p0), (2, .int p1)]) dX6_greatest_9 rfl (by decide) rfl ?_
    refine x_iconst 0 (by decide) dX6_greatest_10 ?_
    refine x_istore (i := 4) (lv' := [(4, .int 0), (3, .int (-1)), (0, .ref this), (1, .int p0), (2, .int p1)]) dX6_greatest_11 (by decide) rfl ?_
    refine x_sub [2, 3, 4, 1, 0] rfl ?_
    refine w_X6_greatest_L13 N _ _ _ _ _ _ r _ _ _ hF (fun y3_16 y4_16 hF => ?_)
    refine x_iload_n 3 dX6_greatest_65 rfl rfl ?_
    exact x_iret dX6_greatest_66 rfl (by cases hF; rfl)
def F_X6_inserts (N : Nat) (f : XM) (this : Nat) (p0 : Int32) (p1 : Int32) : Option (Int32 × XM) :=
  (x_cv f 6 this (F_X6_entryOf N f this p0)).bind fun z1 =>
  if z1 = (-1) then
    (x_getr f 6 this 0).bind fun v2 =>
    Option.bind v2 fun a3 =>
    (x_ald f a3 8).bind fun v4 =>
    if v4 = 0 then
      (x_cv f 6 this (F_X6_appends N f this p0 p1)).bind fun z20 =>
      some (3, z20)
    else
      (x_cv f 6 this (F_X6_leafOf N f this p0)).bind fun z5 =>
      (x_cv f 6 this (F_X6_own N f this z5)).bind fun z6 =>
      (x_getr f 6 this 0).bind fun v7 =>
      Option.bind v7 fun a8 =>
      (x_ald f a8 2).bind fun v9 =>
      if v9 ≤ z6 then
        (x_getr f 6 this 0).bind fun v10 =>
        Option.bind v10 fun a11 =>
        (x_ald f a11 8).bind fun v12 =>
        if z5 = (v12 - 1) then
          (x_cv f 6 this (F_X6_greatest N f this z5 0)).bind fun z15 =>
          if p0 ≤ z15 then
            (x_cv f 6 this (F_X6_greatest N f this z5 3)).bind fun z16 =>
            (x_cv f 6 this (F_X6_adds N f this p0 p1 z5 (z16 + 1))).bind fun z17 =>
            some (2, z17)
          else
            (x_cv f 6 this (F_X6_appends N f this p0 p1)).bind fun z18 =>
            some (3, z18)
        else
          (x_cv f 6 this (F_X6_greatest N f this z5 3)).bind fun z13 =>
          (x_cv f 6 this (F_X6_adds N f this p0 p1 z5 (z13 + 1))).bind fun z14 =>
          some (2, z14)
      else
        (x_cv f 6 this (F_X6_adds N f this p0 p1 z5 0)).bind fun z19 =>
        some (1, z19)
  else
    (x_getr f 6 this 0).bind fun v21 =>
    Option.bind v21 fun a22 =>
    (x_ast f a22 ((856 + (4 * z1)) + 1) p1).bind fun f23 =>
    some (0, f23)
set_option maxRecDepth 20000 in
set_option maxHeartbeats 4000000 in
theorem c_X6_inserts (N : Nat) (f : XM) (this : Nat) (p0 : Int32) (p1 : Int32) (n : Nat) (r : (Int32 × XM)) (hF : F_X6_inserts N f this p0 p1 = some r) : x_Ct mX6_inserts 2 47 0 0 [.ref this, .int p0, .int p1] (f, n) (xr_im r n) := by
  unfold F_X6_inserts at hF
  refine x_ct (by decide) rfl (Nat.le_of_ble_eq_true rfl) ?_
  show X mX6_inserts 2 47 _ _ 0 0 0 [(0, .ref this), (1, .int p0), (2, .int p1)] [] (f, n)
  refine x_aload_n 0 dX6_inserts_0 rfl rfl ?_
  refine x_iload_n 1 dX6_inserts_1 rfl rfl ?_
  obtain ⟨z1, hzz1, hF⟩ := x_bind hF
  obtain ⟨⟨fsz1, hbz1⟩, hzz1⟩ := x_cv_sp hzz1
  refine x_callv (As := [.int p0]) (rest := []) 0 0 dX6_inserts_2 mi_X6_entryOf ml_X6_88 rfl rfl (Nat.le_of_ble_eq_true rfl) ⟨by decide, by decide⟩ (by omega) (by omega) hbz1 rfl (c_X6_entryOf N _ _ _ _ _ hzz1) (x_K.some ?_) x_KX.none
  refine x_istore_n (i := 3) (lv' := [(3, .int z1), (0, .ref this), (1, .int p0), (2, .int p1)]) dX6_inserts_5 rfl (by decide) rfl ?_
  refine x_iload_n 0 dX6_inserts_6 rfl rfl ?_
  refine x_iconst (-1) (by decide) dX6_inserts_7 ?_
  refine x_icmp_eq 28 dX6_inserts_8 (by decide) hF (fun hF => ?_) (fun hF => ?_)
  · refine x_aload_n 1 dX6_inserts_28 rfl rfl ?_
    refine x_getr_r dX6_inserts_29 fl_X6_7 hF (fun v2 hF => ?_)
    refine x_bipush 8 (by decide) dX6_inserts_32 ?_
    refine x_nn hF (fun a3 ha3 hF => ?_)
    rw [ha3]
    refine x_ald_r dX6_inserts_34 hF (fun v4 hF => ?_)
    refine x_if_ne 46 dX6_inserts_35 (by decide) hF (fun hF => ?_) (fun hF => ?_)
    · refine x_aload_n 1 dX6_inserts_46 rfl rfl ?_
      refine x_iload_n 2 dX6_inserts_47 rfl rfl ?_
      obtain ⟨z5, hzz5, hF⟩ := x_bind hF
      obtain ⟨⟨fsz5, hbz5⟩, hzz5⟩ := x_cv_sp hzz5
      refine x_callv (As := [.int p0]) (rest := []) 0 0 dX6_inserts_48 mi_X6_leafOf ml_X6_95 rfl rfl (Nat.le_of_ble_eq_true rfl) ⟨by decide, by decide⟩ (by omega) (by omega) hbz5 rfl (c_X6_leafOf N _ _ _ _ _ hzz5) (x_K.some ?_) x_KX.none
      refine x_istore (i := 4) (lv' := [(4, .int z5), (3, .int z1), (0, .ref this), (1, .int p0), (2, .int p1)]) dX6_inserts_51 (by decide) rfl ?_
      refine x_aload_n 2 dX6_inserts_53 rfl rfl ?_
      refine x_iload 0 dX6_inserts_54 rfl ?_
      obtain ⟨z6, hzz6, hF⟩ := x_bind hF
      obtain ⟨⟨fsz6, hbz6⟩, hzz6⟩ := x_cv_sp hzz6
      refine x_callv (As := [.int z5]) (rest := []) 0 0 dX6_inserts_56 mi_X6_own ml_X6_98 rfl rfl (Nat.le_of_ble_eq_true rfl) ⟨by decide, by decide⟩ (by omega) (by omega) hbz6 rfl (c_X6_own N _ _ _ _ _ hzz6) (x_K.some ?_) x_KX.none
      refine x_aload_n 2 dX6_inserts_59 rfl rfl ?_
      refine x_getr_r dX6_inserts_60 fl_X6_7 hF (fun v7 hF => ?_)
      refine x_iconst 2 (by decide) dX6_inserts_63 ?_
      refine x_nn hF (fun a8 ha8 hF => ?_)
      rw [ha8]
      refine x_ald_r dX6_inserts_64 hF (fun v9 hF => ?_)
      refine x_icmp_ge 79 dX6_inserts_65 (by decide) hF (fun hF => ?_) (fun hF => ?_)
      · refine x_iload 0 dX6_inserts_79 rfl ?_
        refine x_aload_n 2 dX6_inserts_81 rfl rfl ?_
        refine x_getr_r dX6_inserts_82 fl_X6_7 hF (fun v10 hF => ?_)
        refine x_bipush 8 (by decide) dX6_inserts_85 ?_
        refine x_nn hF (fun a11 ha11 hF => ?_)
        rw [ha11]
        refine x_ald_r dX6_inserts_87 hF (fun v12 hF => ?_)
        refine x_iconst 1 (by decide) dX6_inserts_88 ?_
        refine x_isub dX6_inserts_89 ?_
        refine x_icmp_ne 112 dX6_inserts_90 (by decide) hF (fun hF => ?_) (fun hF => ?_)
        · refine x_aload_n 2 dX6_inserts_112 rfl rfl ?_
          refine x_iload_n 3 dX6_inserts_113 rfl rfl ?_
          refine x_iload_n 4 dX6_inserts_114 rfl rfl ?_
          refine x_iload 0 dX6_inserts_115 rfl ?_
          refine x_aload_n 2 dX6_inserts_117 rfl rfl ?_
          refine x_iload 0 dX6_inserts_118 rfl ?_
          refine x_iconst 3 (by decide) dX6_inserts_120 ?_
          obtain ⟨z13, hzz13, hF⟩ := x_bind hF
          obtain ⟨⟨fsz13, hbz13⟩, hzz13⟩ := x_cv_sp hzz13
          refine x_callv (As := [.int z5, .int 3]) (rest := [.int z5, .int p1, .int p0, .ref this]) 0 0 dX6_inserts_121 mi_X6_greatest ml_X6_101 rfl rfl (Nat.le_of_ble_eq_true rfl) ⟨by decide, by decide⟩ (by omega) (by omega) hbz13 rfl (c_X6_greatest N _ _ _ _ _ _ hzz13) (x_K.some ?_) x_KX.none
          refine x_iconst 1 (by decide) dX6_inserts_124 ?_
          refine x_iadd dX6_inserts_125 ?_
          obtain ⟨z14, hzz14, hF⟩ := x_bind hF
          obtain ⟨⟨fsz14, hbz14⟩, hzz14⟩ := x_cv_sp hzz14
          refine x_callv (As := [.int p0, .int p1, .int z5, .int (z13 + 1)]) (rest := []) 0 0 dX6_inserts_126 mi_X6_adds ml_X6_81 rfl rfl (Nat.le_of_ble_eq_true rfl) ⟨by decide, by decide⟩ (by omega) (by omega) hbz14 rfl (c_X6_adds N _ _ _ _ _ _ _ _ hzz14) (x_K.none ?_) x_KX.none
          refine x_iconst 2 (by decide) dX6_inserts_129 ?_
          exact x_iret dX6_inserts_130 rfl (by cases hF; rfl)
        · refine x_iload_n 3 dX6_inserts_93 rfl rfl ?_
          refine x_aload_n 2 dX6_inserts_94 rfl rfl ?_
          refine x_iload 0 dX6_inserts_95 rfl ?_
          refine x_iconst 0 (by decide) dX6_inserts_97 ?_
          obtain ⟨z15, hzz15, hF⟩ := x_bind hF
          obtain ⟨⟨fsz15, hbz15⟩, hzz15⟩ := x_cv_sp hzz15
          refine x_callv (As := [.int z5, .int 0]) (rest := [.int p0]) 0 0 dX6_inserts_98 mi_X6_greatest ml_X6_101 rfl rfl (Nat.le_of_ble_eq_true rfl) ⟨by decide, by decide⟩ (by omega) (by omega) hbz15 rfl (c_X6_greatest N _ _ _ _ _ _ hzz15) (x_K.some ?_) x_KX.none
          refine x_icmp_le 112 dX6_inserts_101 (by decide) hF (fun hF => ?_) (fun hF => ?_)
          · refine x_aload_n 2 dX6_inserts_112 rfl rfl ?_
            refine x_iload_n 3 dX6_inserts_113 rfl rfl ?_
            refine x_iload_n 4 dX6_inserts_114 rfl rfl ?_
            refine x_iload 0 dX6_inserts_115 rfl ?_
            refine x_aload_n 2 dX6_inserts_117 rfl rfl ?_
            refine x_iload 0 dX6_inserts_118 rfl ?_
            refine x_iconst 3 (by decide) dX6_inserts_120 ?_
            obtain ⟨z16, hzz16, hF⟩ := x_bind hF
            obtain ⟨⟨fsz16, hbz16⟩, hzz16⟩ := x_cv_sp hzz16
            refine x_callv (As := [.int z5, .int 3]) (rest := [.int z5, .int p1, .int p0, .ref this]) 0 0 dX6_inserts_121 mi_X6_greatest ml_X6_101 rfl rfl (Nat.le_of_ble_eq_true rfl) ⟨by decide, by decide⟩ (by omega) (by omega) hbz16 rfl (c_X6_greatest N _ _ _ _ _ _ hzz16) (x_K.some ?_) x_KX.none
            refine x_iconst 1 (by decide) dX6_inserts_124 ?_
            refine x_iadd dX6_inserts_125 ?_
            obtain ⟨z17, hzz17, hF⟩ := x_bind hF
            obtain ⟨⟨fsz17, hbz17⟩, hzz17⟩ := x_cv_sp hzz17
            refine x_callv (As := [.int p0, .int p1, .int z5, .int (z16 + 1)]) (rest := []) 0 0 dX6_inserts_126 mi_X6_adds ml_X6_81 rfl rfl (Nat.le_of_ble_eq_true rfl) ⟨by decide, by decide⟩ (by omega) (by omega) hbz17 rfl (c_X6_adds N _ _ _ _ _ _ _ _ hzz17) (x_K.none ?_) x_KX.none
            refine x_iconst 2 (by decide) dX6_inserts_129 ?_
            exact x_iret dX6_inserts_130 rfl (by cases hF; rfl)
          · refine x_aload_n 2 dX6_inserts_104 rfl rfl ?_
            refine x_iload_n 3 dX6_inserts_105 rfl rfl ?_
            refine x_iload_n 4 dX6_inserts_106 rfl rfl ?_
            obtain ⟨z18, hzz18, hF⟩ := x_bind hF
            obtain ⟨⟨fsz18, hbz18⟩, hzz18⟩ := x_cv_sp hzz18
            refine x_callv (As := [.int p0, .int p1]) (rest := []) 0 0 dX6_inserts_107 mi_X6_appends ml_X6_91 rfl rfl (Nat.le_of_ble_eq_true rfl) ⟨by decide, by decide⟩ (by omega) (by omega) hbz18 rfl (c_X6_appends N _ _ _ _ _ _ hzz18) (x_K.none ?_) x_KX.none
            refine x_iconst 3 (by decide) dX6_inserts_110 ?_
            exact x_iret dX6_inserts_111 rfl (by cases hF; rfl)
      · refine x_aload_n 2 dX6_inserts_68 rfl rfl ?_
        refine x_iload_n 3 dX6_inserts_69 rfl rfl ?_
        refine x_iload_n 4 dX6_inserts_70 rfl rfl ?_
        refine x_iload 0 dX6_inserts_71 rfl ?_
        refine x_iconst 0 (by decide) dX6_inserts_73 ?_
        obtain ⟨z19, hzz19, hF⟩ := x_bind hF
        obtain ⟨⟨fsz19, hbz19⟩, hzz19⟩ := x_cv_sp hzz19
        refine x_callv (As := [.int p0, .int p1, .int z5, .int 0]) (rest := []) 0 0 dX6_inserts_74 mi_X6_adds ml_X6_81 rfl rfl (Nat.le_of_ble_eq_true rfl) ⟨by decide, by decide⟩ (by omega) (by omega) hbz19 rfl (c_X6_adds N _ _ _ _ _ _ _ _ hzz19) (x_K.none ?_) x_KX.none
        refine x_iconst 1 (by decide) dX6_inserts_77 ?_
        exact x_iret dX6_inserts_78 rfl (by cases hF; rfl)
    · refine x_aload_n 1 dX6_inserts_38 rfl rfl ?_
      refine x_iload_n 2 dX6_inserts_39 rfl rfl ?_
      refine x_iload_n 3 dX6_inserts_40 rfl rfl ?_
      obtain ⟨z20, hzz20, hF⟩ := x_bind hF
      obtain ⟨⟨fsz20, hbz20⟩, hzz20⟩ := x_cv_sp hzz20
      refine x_callv (As := [.int p0, .int p1]) (rest := []) 0 0 dX6_inserts_41 mi_X6_appends ml_X6_91 rfl rfl (Nat.le_of_ble_eq_true rfl) ⟨by decide, by decide⟩ (by omega) (by omega) hbz20 rfl (c_X6_appends N _ _ _ _ _ _ hzz20) (x_K.none ?_) x_KX.none
      refine x_iconst 3 (by decide) dX6_inserts_44 ?_
      exact x_iret dX6_inserts_45 rfl (by cases hF; rfl)
  · refine x_aload_n 1 dX6_inserts_11 rfl rfl ?_
    refine x_getr_r dX6_inserts_12 fl_X6_7 hF (fun v21 hF => ?_)
    refine x_sipush 856 (by decide) dX6_inserts_15 ?_
    refine x_iconst 4 (by decide) dX6_inserts_18 ?_
    refine x_iload_n 0 dX6_inserts_19 rfl rfl ?_
    refine x_imul dX6_inserts_20 ?_
    refine x_iadd dX6_inserts_21 ?_
    refine x_iconst 1 (by decide) dX6_inserts_22 ?_
    refine x_iadd dX6_inserts_23 ?_
    refine x_iload_n 3 dX6_inserts_24 rfl rfl ?_
    refine x_nn hF (fun a22 ha22 hF => ?_)
    rw [ha22]
    refine x_ast_r dX6_inserts_25 hF (fun f23 hF => ?_)
    refine x_iconst 0 (by decide) dX6_inserts_26 ?_
    exact x_iret dX6_inserts_27 rfl (by cases hF; rfl)
def F_X6_follows (N : Nat) (f : XM) (this : Nat) (p0 : Int32) : Option (Bool × XM) :=
  (x_getr f 6 this 13).bind fun v1 =>
  Option.bind v1 fun a2 =>
  (x_ald f a2 ((3 * p0) + 1)).bind fun v3 =>
  (x_getr f 6 this 13).bind fun v4 =>
  Option.bind v4 fun a5 =>
  (x_ald f a5 ((3 * p0) + 2)).bind fun v6 =>
  (x_getr f 6 this 13).bind fun v7 =>
  Option.bind v7 fun a8 =>
  (x_ald f a8 (3 * p0)).bind fun v9 =>
  if v9 = 98 then
    (x_cv f 6 this (F_X6_canBuild N f this)).bind fun z10 =>
    if (x_b z10.1) = 0 then
      some (false, z10.2)
    else
      (x_cv z10.2 6 this (F_X6_makes N z10.2 this v3)).bind fun z11 =>
      if z11.1 < 0 then
        some (false, z11.2)
      else
        some (true, z11.2)
  else if v9 = 99 then
    (x_cv f 6 this (F_X6_canClose N f this)).bind fun z12 =>
    if (x_b z12) = 0 then
      some (false, f)
    else
      (x_cv f 6 this (F_X6_closes N f this)).bind fun z13 =>
      if z13.1 ≤ 0 then
        some (false, z13.2)
      else
        some (true, z13.2)
  else if v9 = 100 then
    (x_cv f 6 this (F_X6_canWrite N f this v3)).bind fun z14 =>
    if (x_b z14) = 0 then
      some (false, f)
    else
      (x_cv f 6 this (F_X6_tells N f this v3 (-1))).bind fun z15 =>
      if z15.1 ≤ 0 then
        some (false, z15.2)
      else
        some (true, z15.2)
  else if v9 = 105 then
    (x_cv f 6 this (F_X6_canInsert N f this v3)).bind fun z16 =>
    if (x_b z16) = 0 then
      some (false, f)
    else
      (x_cv f 6 this (F_X6_inserts N f this v3 v6)).bind fun z17 =>
      if z17.1 < 0 then
        some (false, z17.2)
      else
        some (true, z17.2)
  else if v9 = 112 then
    (x_cv f 6 this (F_X6_canWrite N f this v3)).bind fun z18 =>
    if (x_b z18) = 0 then
      some (false, f)
    else
      (x_cv f 6 this (F_X6_tells N f this v3 v6)).bind fun z19 =>
      if z19.1 ≤ 0 then
        some (false, z19.2)
      else
        some (true, z19.2)
  else 
  (x_cv f 6 this (F_X6_canErase N f this v3)).bind fun z20 =>
  if (x_b z20) = 0 then
    some (false, f)
  else
    (x_cv f 6 this (F_X6_erases N f this v3)).bind fun z21 =>
    if z21.1 < 0 then
      some (false, z21.2)
    else
      some (true, z21.2)
set_option maxRecDepth 20000 in
set_option maxHeartbeats 4000000 in
theorem c_X6_follows (N : Nat) (f : XM) (this : Nat) (p0 : Int32) (n : Nat) (r : (Bool × XM)) (hF : F_X6_follows N f this p0 = some r) : x_Ct mX6_follows 6 137 0 0 [.ref this, .int p0] (f, n) (xr_zm r n) := by
  unfold F_X6_follows at hF
  refine x_ct (by decide) rfl (Nat.le_of_ble_eq_true rfl) ?_
  show X mX6_follows 6 137 _ _ 0 0 0 [(0, .ref this), (1, .int p0)] [] (f, n)
  refine x_aload_n 0 dX6_follows_0 rfl rfl ?_
  refine x_getr_r dX6_follows_1 fl_X6_35 hF (fun v1 hF => ?_)
  refine x_iconst 3 (by decide) dX6_follows_4 ?_
  refine x_iload_n 1 dX6_follows_5 rfl rfl ?_
  refine x_imul dX6_follows_6 ?_
  refine x_iconst 1 (by decide) dX6_follows_7 ?_
  refine x_iadd dX6_follows_8 ?_
  refine x_nn hF (fun a2 ha2 hF => ?_)
  rw [ha2]
  refine x_ald_r dX6_follows_9 hF (fun v3 hF => ?_)
  refine x_istore_n (i := 2) (lv' := [(2, .int v3), (0, .ref this), (1, .int p0)]) dX6_follows_10 rfl (by decide) rfl ?_
  refine x_aload_n 1 dX6_follows_11 rfl rfl ?_
  refine x_getr_r dX6_follows_12 fl_X6_35 hF (fun v4 hF => ?_)
  refine x_iconst 3 (by decide) dX6_follows_15 ?_
  refine x_iload_n 2 dX6_follows_16 rfl rfl ?_
  refine x_imul dX6_follows_17 ?_
  refine x_iconst 2 (by decide) dX6_follows_18 ?_
  refine x_iadd dX6_follows_19 ?_
  refine x_nn hF (fun a5 ha5 hF => ?_)
  rw [ha5]
  refine x_ald_r dX6_follows_20 hF (fun v6 hF => ?_)
  refine x_istore_n (i := 3) (lv' := [(3, .int v6), (2, .int v3), (0, .ref this), (1, .int p0)]) dX6_follows_21 rfl (by decide) rfl ?_
  refine x_aload_n 2 dX6_follows_22 rfl rfl ?_
  refine x_getr_r dX6_follows_23 fl_X6_35 hF (fun v7 hF => ?_)
  refine x_iconst 3 (by decide) dX6_follows_26 ?_
  refine x_iload_n 3 dX6_follows_27 rfl rfl ?_
  refine x_imul dX6_follows_28 ?_
  refine x_nn hF (fun a8 ha8 hF => ?_)
  rw [ha8]
  refine x_ald_r dX6_follows_29 hF (fun v9 hF => ?_)
  refine x_swc 98 170 dX6_follows_30 (by decide) rfl (by decide) hF (fun hF => ?_) (fun e98 hF => ?_)
  · refine x_aload_n 2 dX6_follows_170 rfl rfl ?_
    obtain ⟨z10, hzz10, hF⟩ := x_bind hF
    obtain ⟨⟨fsz10, hbz10⟩, hzz10⟩ := x_cv_sp hzz10
    refine x_callv (As := []) (rest := []) 0 0 dX6_follows_171 mi_X6_canBuild ml_X6_162 rfl rfl (Nat.le_of_ble_eq_true rfl) ⟨by decide, by decide⟩ (by omega) (by omega) hbz10 rfl (c_X6_canBuild N _ _ _ _ hzz10) (x_K.some ?_) x_KX.none
    refine x_if_eq 189 dX6_follows_174 (by decide) hF (fun hF => ?_) (fun hF => ?_)
    · refine x_iconst 0 (by decide) dX6_follows_189 ?_
      exact x_zret dX6_follows_190 rfl (Or.inl rfl) (by cases hF; rfl)
    · refine x_aload_n 2 dX6_follows_177 rfl rfl ?_
      refine x_iload_n 1 dX6_follows_178 rfl rfl ?_
      obtain ⟨z11, hzz11, hF⟩ := x_bind hF
      obtain ⟨⟨fsz11, hbz11⟩, hzz11⟩ := x_cv_sp hzz11
      refine x_callv (As := [.int v3]) (rest := []) 0 0 dX6_follows_179 mi_X6_makes ml_X6_165 rfl rfl (Nat.le_of_ble_eq_true rfl) ⟨by decide, by decide⟩ (by omega) (by omega) hbz11 rfl (c_X6_makes N _ _ _ _ _ hzz11) (x_K.some ?_) x_KX.none
      refine x_if_lt 189 dX6_follows_182 (by decide) hF (fun hF => ?_) (fun hF => ?_)
      · refine x_iconst 0 (by decide) dX6_follows_189 ?_
        exact x_zret dX6_follows_190 rfl (Or.inl rfl) (by cases hF; rfl)
      · refine x_iconst 1 (by decide) dX6_follows_185 ?_
        refine x_goto 190 dX6_follows_186 (by decide) ?_
        exact x_zret dX6_follows_190 rfl (Or.inr rfl) (by cases hF; rfl)
  refine x_swc 99 150 dX6_follows_30 (by decide) rfl (by decide) hF (fun hF => ?_) (fun e99 hF => ?_)
  · refine x_aload_n 2 dX6_follows_150 rfl rfl ?_
    obtain ⟨z12, hzz12, hF⟩ := x_bind hF
    obtain ⟨⟨fsz12, hbz12⟩, hzz12⟩ := x_cv_sp hzz12
    refine x_callv (As := []) (rest := []) 0 0 dX6_follows_151 mi_X6_canClose ml_X6_146 rfl rfl (Nat.le_of_ble_eq_true rfl) ⟨by decide, by decide⟩ (by omega) (by omega) hbz12 rfl (c_X6_canClose N _ _ _ _ hzz12) (x_K.some ?_) x_KX.none
    refine x_if_eq 168 dX6_follows_154 (by decide) hF (fun hF => ?_) (fun hF => ?_)
    · refine x_iconst 0 (by decide) dX6_follows_168 ?_
      exact x_zret dX6_follows_169 rfl (Or.inl rfl) (by cases hF; rfl)
    · refine x_aload_n 2 dX6_follows_157 rfl rfl ?_
      obtain ⟨z13, hzz13, hF⟩ := x_bind hF
      obtain ⟨⟨fsz13, hbz13⟩, hzz13⟩ := x_cv_sp hzz13
      refine x_callv (As := []) (rest := []) 0 0 dX6_follows_158 mi_X6_closes ml_X6_150 rfl rfl (Nat.le_of_ble_eq_true rfl) ⟨by decide, by decide⟩ (by omega) (by omega) hbz13 rfl (c_X6_closes N _ _ _ _ hzz13) (x_K.some ?_) x_KX.none
      refine x_if_le 168 dX6_follows_161 (by decide) hF (fun hF => ?_) (fun hF => ?_)
      · refine x_iconst 0 (by decide) dX6_follows_168 ?_
        exact x_zret dX6_follows_169 rfl (Or.inl rfl) (by cases hF; rfl)
      · refine x_iconst 1 (by decide) dX6_follows_164 ?_
        refine x_goto 169 dX6_follows_165 (by decide) ?_
        exact x_zret dX6_follows_169 rfl (Or.inr rfl) (by cases hF; rfl)
  refine x_swc 100 127 dX6_follows_30 (by decide) rfl (by decide) hF (fun hF => ?_) (fun e100 hF => ?_)
  · refine x_aload_n 2 dX6_follows_127 rfl rfl ?_
    refine x_iload_n 1 dX6_follows_128 rfl rfl ?_
    obtain ⟨z14, hzz14, hF⟩ := x_bind hF
    obtain ⟨⟨fsz14, hbz14⟩, hzz14⟩ := x_cv_sp hzz14
    refine x_callv (As := [.int v3]) (rest := []) 0 0 dX6_follows_129 mi_X6_canWrite ml_X6_136 rfl rfl (Nat.le_of_ble_eq_true rfl) ⟨by decide, by decide⟩ (by omega) (by omega) hbz14 rfl (c_X6_canWrite N _ _ _ _ _ hzz14) (x_K.some ?_) x_KX.none
    refine x_if_eq 148 dX6_follows_132 (by decide) hF (fun hF => ?_) (fun hF => ?_)
    · refine x_iconst 0 (by decide) dX6_follows_148 ?_
      exact x_zret dX6_follows_149 rfl (Or.inl rfl) (by cases hF; rfl)
    · refine x_aload_n 2 dX6_follows_135 rfl rfl ?_
      refine x_iload_n 1 dX6_follows_136 rfl rfl ?_
      refine x_iconst (-1) (by decide) dX6_follows_137 ?_
      obtain ⟨z15, hzz15, hF⟩ := x_bind hF
      obtain ⟨⟨fsz15, hbz15⟩, hzz15⟩ := x_cv_sp hzz15
      refine x_callv (As := [.int v3, .int (-1)]) (rest := []) 0 0 dX6_follows_138 mi_X6_tells ml_X6_143 rfl rfl (Nat.le_of_ble_eq_true rfl) ⟨by decide, by decide⟩ (by omega) (by omega) hbz15 rfl (c_X6_tells N _ _ _ _ _ _ hzz15) (x_K.some ?_) x_KX.none
      refine x_if_le 148 dX6_follows_141 (by decide) hF (fun hF => ?_) (fun hF => ?_)
      · refine x_iconst 0 (by decide) dX6_follows_148 ?_
        exact x_zret dX6_follows_149 rfl (Or.inl rfl) (by cases hF; rfl)
      · refine x_iconst 1 (by decide) dX6_follows_144 ?_
        refine x_goto 149 dX6_follows_145 (by decide) ?_
        exact x_zret dX6_follows_149 rfl (Or.inr rfl) (by cases hF; rfl)
  refine x_swc 105 191 dX6_follows_30 (by decide) rfl (by decide) hF (fun hF => ?_) (fun e105 hF => ?_)
  · refine x_aload_n 2 dX6_follows_191 rfl rfl ?_
    refine x_iload_n 1 dX6_follows_192 rfl rfl ?_
    obtain ⟨z16, hzz16, hF⟩ := x_bind hF
    obtain ⟨⟨fsz16, hbz16⟩, hzz16⟩ := x_cv_sp hzz16
    refine x_callv (As := [.int v3]) (rest := []) 0 0 dX6_follows_193 mi_X6_canInsert ml_X6_168 rfl rfl (Nat.le_of_ble_eq_true rfl) ⟨by decide, by decide⟩ (by omega) (by omega) hbz16 rfl (c_X6_canInsert N _ _ _ _ _ hzz16) (x_K.some ?_) x_KX.none
    refine x_if_eq 212 dX6_follows_196 (by decide) hF (fun hF => ?_) (fun hF => ?_)
    · refine x_iconst 0 (by decide) dX6_follows_212 ?_
      exact x_zret dX6_follows_213 rfl (Or.inl rfl) (by cases hF; rfl)
    · refine x_aload_n 2 dX6_follows_199 rfl rfl ?_
      refine x_iload_n 1 dX6_follows_200 rfl rfl ?_
      refine x_iload_n 0 dX6_follows_201 rfl rfl ?_
      obtain ⟨z17, hzz17, hF⟩ := x_bind hF
      obtain ⟨⟨fsz17, hbz17⟩, hzz17⟩ := x_cv_sp hzz17
      refine x_callv (As := [.int v3, .int v6]) (rest := []) 0 0 dX6_follows_202 mi_X6_inserts ml_X6_171 rfl rfl (Nat.le_of_ble_eq_true rfl) ⟨by decide, by decide⟩ (by omega) (by omega) hbz17 rfl (c_X6_inserts N _ _ _ _ _ _ hzz17) (x_K.some ?_) x_KX.none
      refine x_if_lt 212 dX6_follows_205 (by decide) hF (fun hF => ?_) (fun hF => ?_)
      · refine x_iconst 0 (by decide) dX6_follows_212 ?_
        exact x_zret dX6_follows_213 rfl (Or.inl rfl) (by cases hF; rfl)
      · refine x_iconst 1 (by decide) dX6_follows_208 ?_
        refine x_goto 213 dX6_follows_209 (by decide) ?_
        exact x_zret dX6_follows_213 rfl (Or.inr rfl) (by cases hF; rfl)
  refine x_swc 112 104 dX6_follows_30 (by decide) rfl (by decide) hF (fun hF => ?_) (fun e112 hF => ?_)
  · refine x_aload_n 2 dX6_follows_104 rfl rfl ?_
    refine x_iload_n 1 dX6_follows_105 rfl rfl ?_
    obtain ⟨z18, hzz18, hF⟩ := x_bind hF
    obtain ⟨⟨fsz18, hbz18⟩, hzz18⟩ := x_cv_sp hzz18
    refine x_callv (As := [.int v3]) (rest := []) 0 0 dX6_follows_106 mi_X6_canWrite ml_X6_136 rfl rfl (Nat.le_of_ble_eq_true rfl) ⟨by decide, by decide⟩ (by omega) (by omega) hbz18 rfl (c_X6_canWrite N _ _ _ _ _ hzz18) (x_K.some ?_) x_KX.none
    refine x_if_eq 125 dX6_follows_109 (by decide) hF (fun hF => ?_) (fun hF => ?_)
    · refine x_iconst 0 (by decide) dX6_follows_125 ?_
      exact x_zret dX6_follows_126 rfl (Or.inl rfl) (by cases hF; rfl)
    · refine x_aload_n 2 dX6_follows_112 rfl rfl ?_
      refine x_iload_n 1 dX6_follows_113 rfl rfl ?_
      refine x_iload_n 0 dX6_follows_114 rfl rfl ?_
      obtain ⟨z19, hzz19, hF⟩ := x_bind hF
      obtain ⟨⟨fsz19, hbz19⟩, hzz19⟩ := x_cv_sp hzz19
      refine x_callv (As := [.int v3, .int v6]) (rest := []) 0 0 dX6_follows_115 mi_X6_tells ml_X6_143 rfl rfl (Nat.le_of_ble_eq_true rfl) ⟨by decide, by decide⟩ (by omega) (by omega) hbz19 rfl (c_X6_tells N _ _ _ _ _ _ hzz19) (x_K.some ?_) x_KX.none
      refine x_if_le 125 dX6_follows_118 (by decide) hF (fun hF => ?_) (fun hF => ?_)
      · refine x_iconst 0 (by decide) dX6_follows_125 ?_
        exact x_zret dX6_follows_126 rfl (Or.inl rfl) (by cases hF; rfl)
      · refine x_iconst 1 (by decide) dX6_follows_121 ?_
        refine x_goto 126 dX6_follows_122 (by decide) ?_
        exact x_zret dX6_follows_126 rfl (Or.inr rfl) (by cases hF; rfl)
  refine x_swd 214 dX6_follows_30 (by decide) ?_ ?_
  · intro i hi
    match i, hi with
    | 0, _ => exact Or.inr (fun h9 => e98 (x_toInt h9))
    | 1, _ => exact Or.inr (fun h9 => e99 (x_toInt h9))
    | 2, _ => exact Or.inr (fun h9 => e100 (x_toInt h9))
    | 3, _ => exact Or.inl rfl
    | 4, _ => exact Or.inl rfl
    | 5, _ => exact Or.inl rfl
    | 6, _ => exact Or.inl rfl
    | 7, _ => exact Or.inr (fun h9 => e105 (x_toInt h9))
    | 8, _ => exact Or.inl rfl
    | 9, _ => exact Or.inl rfl
    | 10, _ => exact Or.inl rfl
    | 11, _ => exact Or.inl rfl
    | 12, _ => exact Or.inl rfl
    | 13, _ => exact Or.inl rfl
    | 14, _ => exact Or.inr (fun h9 => e112 (x_toInt h9))
    | i + 15, hi => exact absurd hi (by show ¬ i + 15 < 15; omega)
  refine ⟨by decide, ?_⟩
  refine x_aload_n 2 dX6_follows_214 rfl rfl ?_
  refine x_iload_n 1 dX6_follows_215 rfl rfl ?_
  obtain ⟨z20, hzz20, hF⟩ := x_bind hF
  obtain ⟨⟨fsz20, hbz20⟩, hzz20⟩ := x_cv_sp hzz20
  refine x_callv (As := [.int v3]) (rest := []) 0 0 dX6_follows_216 mi_X6_canErase ml_X6_174 rfl rfl (Nat.le_of_ble_eq_true rfl) ⟨by decide, by decide⟩ (by omega) (by omega) hbz20 rfl (c_X6_canErase N _ _ _ _ _ hzz20) (x_K.some ?_) x_KX.none
  refine x_if_eq 234 dX6_follows_219 (by decide) hF (fun hF => ?_) (fun hF => ?_)
  · refine x_iconst 0 (by decide) dX6_follows_234 ?_
    exact x_zret dX6_follows_235 rfl (Or.inl rfl) (by cases hF; rfl)
  · refine x_aload_n 2 dX6_follows_222 rfl rfl ?_
    refine x_iload_n 1 dX6_follows_223 rfl rfl ?_
    obtain ⟨z21, hzz21, hF⟩ := x_bind hF
    obtain ⟨⟨fsz21, hbz21⟩, hzz21⟩ := x_cv_sp hzz21
    refine x_callv (As := [.int v3]) (rest := []) 0 0 dX6_follows_224 mi_X6_erases ml_X6_177 rfl rfl (Nat.le_of_ble_eq_true rfl) ⟨by decide, by decide⟩ (by omega) (by omega) hbz21 rfl (c_X6_erases N _ _ _ _ _ hzz21) (x_K.some ?_) x_KX.none
    refine x_if_lt 234 dX6_follows_227 (by decide) hF (fun hF => ?_) (fun hF => ?_)
    · refine x_iconst 0 (by decide) dX6_follows_234 ?_
      exact x_zret dX6_follows_235 rfl (Or.inl rfl) (by cases hF; rfl)
    · refine x_iconst 1 (by decide) dX6_follows_230 ?_
      refine x_goto 235 dX6_follows_231 (by decide) ?_
      exact x_zret dX6_follows_235 rfl (Or.inr rfl) (by cases hF; rfl)
def F_X6_refuses (N : Nat) (f : XM) (this : Nat) (p0 : Int32) : Option (Int32 × XM) :=
  (x_puti f 6 this 11 p0).bind fun f1 =>
  some (0, f1)
set_option maxRecDepth 20000 in
set_option maxHeartbeats 4000000 in
theorem c_X6_refuses (N : Nat) (f : XM) (this : Nat) (p0 : Int32) (n : Nat) (r : (Int32 × XM)) (hF : F_X6_refuses N f this p0 = some r) : x_Ct mX6_refuses 0 0 0 0 [.ref this, .int p0] (f, n) (xr_im r n) := by
  unfold F_X6_refuses at hF
  refine x_ct (by decide) rfl (Nat.le_of_ble_eq_true rfl) ?_
  show X mX6_refuses 0 0 _ _ 0 0 0 [(0, .ref this), (1, .int p0)] [] (f, n)
  refine x_aload_n 0 dX6_refuses_0 rfl rfl ?_
  refine x_iload_n 1 dX6_refuses_1 rfl rfl ?_
  refine x_puti_r dX6_refuses_2 fl_X6_38 (fun h9 => by cases h9) hF (fun f1 hF => ?_)
  refine x_iconst 0 (by decide) dX6_refuses_5 ?_
  exact x_iret dX6_refuses_6 rfl (by cases hF; rfl)
def F_X6_follow_L40 (N : Nat) (c0 : Nat) (K : Int32 → XM → Option (Int32 × XM)) : Nat → Int32 → XM → Option (Int32 × XM)
  | 0, _, _ => none
  | k + 1, x1, f =>
    (x_geti f 6 c0 14).bind fun v10 =>
    if v10 ≤ x1 then
      K x1 f
    else
      (x_cv f 6 c0 (F_X6_follows N f c0 x1)).bind fun z11 =>
      if (x_b z11.1) = 0 then
        K x1 z11.2
      else
        F_X6_follow_L40 N c0 K k (x1 + 1) z11.2
def F_X6_follow (N : Nat) (f : XM) (this : Nat) : Option (Int32 × XM) :=
  (x_cv f 6 this (F_X6_isWhole N f this)).bind fun z1 =>
  if (x_b z1.1) = 0 then
    (x_puti z1.2 6 this 11 1).bind fun f2 =>
    (x_geti f2 6 this 11).bind fun v3 =>
    if v3 ≤ 0 then
      (x_getr f2 6 this 0).bind fun v4 =>
      (x_getr f2 6 this 5).bind fun v5 =>
      Option.bind v5 fun a6 =>
      Option.bind v4 fun a7 =>
      (F_X6_lays N f2 a7 0 a6 0).bind fun z8 =>
      F_X6_follow_L40 N this (fun y1_12 g12 =>
      (x_geti g12 6 this 14).bind fun v13 =>
      if v13 ≤ y1_12 then
        (x_getr g12 6 this 5).bind fun v14 =>
        Option.bind v14 fun a15 =>
        (x_cv g12 6 this (F_X6_saves N g12 this a15)).bind fun z16 =>
        (x_puti z16 6 this 10 0).bind fun f17 =>
        (x_cv f17 6 this (F_X6_finds N f17 this)).bind fun z18 =>
        some (z18.1, z18.2)
      else
        (x_getr g12 6 this 5).bind fun v19 =>
        (x_getr g12 6 this 0).bind fun v20 =>
        Option.bind v20 fun a21 =>
        Option.bind v19 fun a22 =>
        (F_X6_lays N g12 a22 0 a21 0).bind fun z23 =>
        (x_cv z23 6 this (F_X6_refuses N z23 this 2)).bind fun z24 =>
        some (z24.1, z24.2)) N 0 z8
    else
      some (0, f2)
  else
    (x_puti z1.2 6 this 11 0).bind fun f25 =>
    (x_geti f25 6 this 11).bind fun v26 =>
    if v26 ≤ 0 then
      (x_getr f25 6 this 0).bind fun v27 =>
      (x_getr f25 6 this 5).bind fun v28 =>
      Option.bind v28 fun a29 =>
      Option.bind v27 fun a30 =>
      (F_X6_lays N f25 a30 0 a29 0).bind fun z31 =>
      F_X6_follow_L40 N this (fun y1_35 g35 =>
      (x_geti g35 6 this 14).bind fun v36 =>
      if v36 ≤ y1_35 then
        (x_getr g35 6 this 5).bind fun v37 =>
        Option.bind v37 fun a38 =>
        (x_cv g35 6 this (F_X6_saves N g35 this a38)).bind fun z39 =>
        (x_puti z39 6 this 10 0).bind fun f40 =>
        (x_cv f40 6 this (F_X6_finds N f40 this)).bind fun z41 =>
        some (z41.1, z41.2)
      else
        (x_getr g35 6 this 5).bind fun v42 =>
        (x_getr g35 6 this 0).bind fun v43 =>
        Option.bind v43 fun a44 =>
        Option.bind v42 fun a45 =>
        (F_X6_lays N g35 a45 0 a44 0).bind fun z46 =>
        (x_cv z46 6 this (F_X6_refuses N z46 this 2)).bind fun z47 =>
        some (z47.1, z47.2)) N 0 z31
    else
      some (0, f25)
set_option maxRecDepth 20000 in
set_option maxHeartbeats 4000000 in
theorem w_X6_follow_L40 (N : Nat) (c0 : Nat) (K : Int32 → XM → Option (Int32 × XM)) (n : Nat) (r : (Int32 × XM)) {rc rs : Nat} : ∀ (k : Nat) (x1 : Int32) (f : XM), F_X6_follow_L40 N c0 K k x1 f = some r → (∀ (x1 : Int32) (f : XM), K x1 f = some r → X mX6_follow 7 160 (x_end (xr_im r n)) x_noRO rc rs 62 [(0, .ref c0), (1, .int x1)] [] (f, n)) → X mX6_follow 7 160 (x_end (xr_im r n)) x_noRO rc rs 40 [(0, .ref c0), (1, .int x1)] [] (f, n) := by
  intro k
  induction k with
  | zero =>
    intro x1 f hF
    exact absurd hF (by intro h9; cases h9)
  | succ k ih =>
    intro x1 f hF hK
    have ih := fun x1 f hF => ih x1 f hF hK
    rw [F_X6_follow_L40] at hF
    refine x_iload_n 1 dX6_follow_40 rfl rfl ?_
    refine x_aload_n 0 dX6_follow_41 rfl rfl ?_
    refine x_geti_r dX6_follow_42 fl_X6_193 hF (fun v10 hF => ?_)
    refine x_icmp_ge 62 dX6_follow_45 (by decide) hF (fun hF => ?_) (fun hF => ?_)
    · refine x_sub [0, 1] rfl ?_
      exact hK _ _ hF
    · refine x_aload_n 0 dX6_follow_48 rfl rfl ?_
      refine x_iload_n 1 dX6_follow_49 rfl rfl ?_
      obtain ⟨z11, hzz11, hF⟩ := x_bind hF
      obtain ⟨⟨fsz11, hbz11⟩, hzz11⟩ := x_cv_sp hzz11
      refine x_callv (As := [.int x1]) (rest := []) (rc + 0) (rs + 0) dX6_follow_50 mi_X6_follows ml_X6_212 rfl rfl (Nat.le_of_ble_eq_true rfl) ⟨by decide, by decide⟩ (by omega) (by omega) hbz11 rfl (c_X6_follows N _ _ _ _ _ hzz11) (x_K.some ?_) x_KX.none
      refine x_if_eq 62 dX6_follow_53 (by decide) hF (fun hF => ?_) (fun hF => ?_)
      · refine x_sub [0, 1] rfl ?_
        exact hK _ _ hF
      · refine x_iinc (x1 + 1) (lv' := [(1, .int (x1 + 1)), (0, .ref c0)]) dX6_follow_56 1 rfl (by rfl) (by decide) rfl ?_
        refine x_goto 40 dX6_follow_59 (by decide) ?_
        refine x_sub [1, 0] rfl ?_
        exact ih _ _ hF
set_option maxRecDepth 20000 in
set_option maxHeartbeats 4000000 in
theorem c_X6_follow (N : Nat) (f : XM) (this : Nat) (n : Nat) (r : (Int32 × XM)) (hF : F_X6_follow N f this = some r) : x_Ct mX6_follow 7 160 0 0 [.ref this] (f, n) (xr_im r n) := by
  unfold F_X6_follow at hF
  refine x_ct (by decide) rfl (Nat.le_of_ble_eq_true rfl) ?_
  show X mX6_follow 7 160 _ _ 0 0 0 [(0, .ref this)] [] (f, n)
  refine x_aload_n 0 dX6_follow_0 rfl rfl ?_
  refine x_aload_n 0 dX6_follow_1 rfl rfl ?_
  obtain ⟨z1, hzz1, hF⟩ := x_bind hF
  obtain ⟨⟨fsz1, hbz1⟩, hzz1⟩ := x_cv_sp hzz1
  refine x_callv (As := []) (rest := [.ref this]) 0 0 dX6_follow_2 mi_X6_isWhole ml_X6_209 rfl rfl (Nat.le_of_ble_eq_true rfl) ⟨by decide, by decide⟩ (by omega) (by omega) hbz1 rfl (c_X6_isWhole N _ _ _ _ hzz1) (x_K.some ?_) x_KX.none
  refine x_if_eq 12 dX6_follow_5 (by decide) hF (fun hF => ?_) (fun hF => ?_)
  · refine x_iconst 1 (by decide) dX6_follow_12 ?_
    refine x_puti_r dX6_follow_13 fl_X6_38 (fun h9 => by cases h9) hF (fun f2 hF => ?_)
    refine x_aload_n 0 dX6_follow_16 rfl rfl ?_
    refine x_geti_r dX6_follow_17 fl_X6_38 hF (fun v3 hF => ?_)
    refine x_if_le 25 dX6_follow_20 (by decide) hF (fun hF => ?_) (fun hF => ?_)
    · refine x_aload_n 0 dX6_follow_25 rfl rfl ?_
      refine x_getr_r dX6_follow_26 fl_X6_7 hF (fun v4 hF => ?_)
      refine x_iconst 0 (by decide) dX6_follow_29 ?_
      refine x_aload_n 0 dX6_follow_30 rfl rfl ?_
      refine x_getr_r dX6_follow_31 fl_X6_23 hF (fun v5 hF => ?_)
      refine x_iconst 0 (by decide) dX6_follow_34 ?_
      refine x_nn hF (fun a6 ha6 hF => ?_)
      rw [ha6]
      refine x_nn hF (fun a7 ha7 hF => ?_)
      rw [ha7]
      obtain ⟨z8, hzz8, hF⟩ := x_bind hF
      refine x_calls (As := [.ref a7, .int 0, .ref a6, .int 0]) (rest := []) 0 0 dX6_follow_35 mi_X6_lays rfl ml_X6_46 rfl rfl (Nat.le_of_ble_eq_true rfl) ⟨by decide, by decide⟩ (by omega) (by omega) (c_X6_lays N _ _ _ _ _ _ _ hzz8) (x_K.none ?_) x_KX.none
      refine x_iconst 0 (by decide) dX6_follow_38 ?_
      refine x_istore_n (i := 1) (lv' := [(1, .int 0), (0, .ref this)]) dX6_follow_39 rfl (by decide) rfl ?_
      refine x_sub [1, 0] rfl ?_
      refine w_X6_follow_L40 N _ _ _ r _ _ _ hF (fun y1_12 g12 hF => ?_)
      refine x_iload_n 1 dX6_follow_62 rfl rfl ?_
      refine x_aload_n 0 dX6_follow_63 rfl rfl ?_
      refine x_geti_r dX6_follow_64 fl_X6_193 hF (fun v13 hF => ?_)
      refine x_icmp_ge 89 dX6_follow_67 (by decide) hF (fun hF => ?_) (fun hF => ?_)
      · refine x_aload_n 0 dX6_follow_89 rfl rfl ?_
        refine x_aload_n 0 dX6_follow_90 rfl rfl ?_
        refine x_getr_r dX6_follow_91 fl_X6_23 hF (fun v14 hF => ?_)
        refine x_nn hF (fun a15 ha15 hF => ?_)
        rw [ha15]
        obtain ⟨z16, hzz16, hF⟩ := x_bind hF
        obtain ⟨⟨fsz16, hbz16⟩, hzz16⟩ := x_cv_sp hzz16
        refine x_callv (As := [.ref a15]) (rest := []) 0 0 dX6_follow_94 mi_X6_saves ml_X6_139 rfl rfl (Nat.le_of_ble_eq_true rfl) ⟨by decide, by decide⟩ (by omega) (by omega) hbz16 rfl (c_X6_saves N _ _ _ _ _ hzz16) (x_K.none ?_) x_KX.none
        refine x_aload_n 0 dX6_follow_97 rfl rfl ?_
        refine x_iconst 0 (by decide) dX6_follow_98 ?_
        refine x_puti_r dX6_follow_99 fl_X6_184 (fun h9 => by cases h9) hF (fun f17 hF => ?_)
        refine x_aload_n 0 dX6_follow_102 rfl rfl ?_
        obtain ⟨z18, hzz18, hF⟩ := x_bind hF
        obtain ⟨⟨fsz18, hbz18⟩, hzz18⟩ := x_cv_sp hzz18
        refine x_callv (As := []) (rest := []) 0 0 dX6_follow_103 mi_X6_finds ml_X6_113 rfl rfl (Nat.le_of_ble_eq_true rfl) ⟨by decide, by decide⟩ (by omega) (by omega) hbz18 rfl (c_X6_finds N _ _ _ _ hzz18) (x_K.some ?_) x_KX.none
        exact x_iret dX6_follow_106 rfl (by cases hF; rfl)
      · refine x_aload_n 0 dX6_follow_70 rfl rfl ?_
        refine x_getr_r dX6_follow_71 fl_X6_23 hF (fun v19 hF => ?_)
        refine x_iconst 0 (by decide) dX6_follow_74 ?_
        refine x_aload_n 0 dX6_follow_75 rfl rfl ?_
        refine x_getr_r dX6_follow_76 fl_X6_7 hF (fun v20 hF => ?_)
        refine x_iconst 0 (by decide) dX6_follow_79 ?_
        refine x_nn hF (fun a21 ha21 hF => ?_)
        rw [ha21]
        refine x_nn hF (fun a22 ha22 hF => ?_)
        rw [ha22]
        obtain ⟨z23, hzz23, hF⟩ := x_bind hF
        refine x_calls (As := [.ref a22, .int 0, .ref a21, .int 0]) (rest := []) 0 0 dX6_follow_80 mi_X6_lays rfl ml_X6_46 rfl rfl (Nat.le_of_ble_eq_true rfl) ⟨by decide, by decide⟩ (by omega) (by omega) (c_X6_lays N _ _ _ _ _ _ _ hzz23) (x_K.none ?_) x_KX.none
        refine x_aload_n 0 dX6_follow_83 rfl rfl ?_
        refine x_iconst 2 (by decide) dX6_follow_84 ?_
        obtain ⟨z24, hzz24, hF⟩ := x_bind hF
        obtain ⟨⟨fsz24, hbz24⟩, hzz24⟩ := x_cv_sp hzz24
        refine x_callv (As := [.int 2]) (rest := []) 0 0 dX6_follow_85 mi_X6_refuses ml_X6_215 rfl rfl (Nat.le_of_ble_eq_true rfl) ⟨by decide, by decide⟩ (by omega) (by omega) hbz24 rfl (c_X6_refuses N _ _ _ _ _ hzz24) (x_K.some ?_) x_KX.none
        exact x_iret dX6_follow_88 rfl (by cases hF; rfl)
    · refine x_iconst 0 (by decide) dX6_follow_23 ?_
      exact x_iret dX6_follow_24 rfl (by cases hF; rfl)
  · refine x_iconst 0 (by decide) dX6_follow_8 ?_
    refine x_goto 13 dX6_follow_9 (by decide) ?_
    refine x_puti_r dX6_follow_13 fl_X6_38 (fun h9 => by cases h9) hF (fun f25 hF => ?_)
    refine x_aload_n 0 dX6_follow_16 rfl rfl ?_
    refine x_geti_r dX6_follow_17 fl_X6_38 hF (fun v26 hF => ?_)
    refine x_if_le 25 dX6_follow_20 (by decide) hF (fun hF => ?_) (fun hF => ?_)
    · refine x_aload_n 0 dX6_follow_25 rfl rfl ?_
      refine x_getr_r dX6_follow_26 fl_X6_7 hF (fun v27 hF => ?_)
      refine x_iconst 0 (by decide) dX6_follow_29 ?_
      refine x_aload_n 0 dX6_follow_30 rfl rfl ?_
      refine x_getr_r dX6_follow_31 fl_X6_23 hF (fun v28 hF => ?_)
      refine x_iconst 0 (by decide) dX6_follow_34 ?_
      refine x_nn hF (fun a29 ha29 hF => ?_)
      rw [ha29]
      refine x_nn hF (fun a30 ha30 hF => ?_)
      rw [ha30]
      obtain ⟨z31, hzz31, hF⟩ := x_bind hF
      refine x_calls (As := [.ref a30, .int 0, .ref a29, .int 0]) (rest := []) 0 0 dX6_follow_35 mi_X6_lays rfl ml_X6_46 rfl rfl (Nat.le_of_ble_eq_true rfl) ⟨by decide, by decide⟩ (by omega) (by omega) (c_X6_lays N _ _ _ _ _ _ _ hzz31) (x_K.none ?_) x_KX.none
      refine x_iconst 0 (by decide) dX6_follow_38 ?_
      refine x_istore_n (i := 1) (lv' := [(1, .int 0), (0, .ref this)]) dX6_follow_39 rfl (by decide) rfl ?_
      refine x_sub [1, 0] rfl ?_
      refine w_X6_follow_L40 N _ _ _ r _ _ _ hF (fun y1_35 g35 hF => ?_)
      refine x_iload_n 1 dX6_follow_62 rfl rfl ?_
      refine x_aload_n 0 dX6_follow_63 rfl rfl ?_
      refine x_geti_r dX6_follow_64 fl_X6_193 hF (fun v36 hF => ?_)
      refine x_icmp_ge 89 dX6_follow_67 (by decide) hF (fun hF => ?_) (fun hF => ?_)
      · refine x_aload_n 0 dX6_follow_89 rfl rfl ?_
        refine x_aload_n 0 dX6_follow_90 rfl rfl ?_
        refine x_getr_r dX6_follow_91 fl_X6_23 hF (fun v37 hF => ?_)
        refine x_nn hF (fun a38 ha38 hF => ?_)
        rw [ha38]
        obtain ⟨z39, hzz39, hF⟩ := x_bind hF
        obtain ⟨⟨fsz39, hbz39⟩, hzz39⟩ := x_cv_sp hzz39
        refine x_callv (As := [.ref a38]) (rest := []) 0 0 dX6_follow_94 mi_X6_saves ml_X6_139 rfl rfl (Nat.le_of_ble_eq_true rfl) ⟨by decide, by decide⟩ (by omega) (by omega) hbz39 rfl (c_X6_saves N _ _ _ _ _ hzz39) (x_K.none ?_) x_KX.none
        refine x_aload_n 0 dX6_follow_97 rfl rfl ?_
        refine x_iconst 0 (by decide) dX6_follow_98 ?_
        refine x_puti_r dX6_follow_99 fl_X6_184 (fun h9 => by cases h9) hF (fun f40 hF => ?_)
        refine x_aload_n 0 dX6_follow_102 rfl rfl ?_
        obtain ⟨z41, hzz41, hF⟩ := x_bind hF
        obtain ⟨⟨fsz41, hbz41⟩, hzz41⟩ := x_cv_sp hzz41
        refine x_callv (As := []) (rest := []) 0 0 dX6_follow_103 mi_X6_finds ml_X6_113 rfl rfl (Nat.le_of_ble_eq_true rfl) ⟨by decide, by decide⟩ (by omega) (by omega) hbz41 rfl (c_X6_finds N _ _ _ _ hzz41) (x_K.some ?_) x_KX.none
        exact x_iret dX6_follow_106 rfl (by cases hF; rfl)
      · refine x_aload_n 0 dX6_follow_70 rfl rfl ?_
        refine x_getr_r dX6_follow_71 fl_X6_23 hF (fun v42 hF => ?_)
        refine x_iconst 0 (by decide) dX6_follow_74 ?_
        refine x_aload_n 0 dX6_follow_75 rfl rfl ?_
        refine x_getr_r dX6_follow_76 fl_X6_7 hF (fun v43 hF => ?_)
        refine x_iconst 0 (by decide) dX6_follow_79 ?_
        refine x_nn hF (fun a44 ha44 hF => ?_)
        rw [ha44]
        refine x_nn hF (fun a45 ha45 hF => ?_)
        rw [ha45]
        obtain ⟨z46, hzz46, hF⟩ := x_bind hF
        refine x_calls (As := [.ref a45, .int 0, .ref a44, .int 0]) (rest := []) 0 0 dX6_follow_80 mi_X6_lays rfl ml_X6_46 rfl rfl (Nat.le_of_ble_eq_true rfl) ⟨by decide, by decide⟩ (by omega) (by omega) (c_X6_lays N _ _ _ _ _ _ _ hzz46) (x_K.none ?_) x_KX.none
        refine x_aload_n 0 dX6_follow_83 rfl rfl ?_
        refine x_iconst 2 (by decide) dX6_follow_84 ?_
        obtain ⟨z47, hzz47, hF⟩ := x_bind hF
        obtain ⟨⟨fsz47, hbz47⟩, hzz47⟩ := x_cv_sp hzz47
        refine x_callv (As := [.int 2]) (rest := []) 0 0 dX6_follow_85 mi_X6_refuses ml_X6_215 rfl rfl (Nat.le_of_ble_eq_true rfl) ⟨by decide, by decide⟩ (by omega) (by omega) hbz47 rfl (c_X6_refuses N _ _ _ _ _ hzz47) (x_K.some ?_) x_KX.none
        exact x_iret dX6_follow_88 rfl (by cases hF; rfl)
    · refine x_iconst 0 (by decide) dX6_follow_23 ?_
      exact x_iret dX6_follow_24 rfl (by cases hF; rfl)
def F_X6_found (N : Nat) (f : XM) (this : Nat) : Option (Int32 × XM) :=
  (x_puti f 6 this 11 0).bind fun f1 =>
  (x_cv f1 6 this (F_X6_finds N f1 this)).bind fun z2 =>
  some (z2.1, z2.2)
set_option maxRecDepth 20000 in
set_option maxHeartbeats 4000000 in
theorem c_X6_found (N : Nat) (f : XM) (this : Nat) (n : Nat) (r : (Int32 × XM)) (hF : F_X6_found N f this = some r) : x_Ct mX6_found 5 112 0 0 [.ref this] (f, n) (xr_im r n) := by
  unfold F_X6_found at hF
  refine x_ct (by decide) rfl (Nat.le_of_ble_eq_true rfl) ?_
  show X mX6_found 5 112 _ _ 0 0 0 [(0, .ref this)] [] (f, n)
  refine x_aload_n 0 dX6_found_0 rfl rfl ?_
  refine x_iconst 0 (by decide) dX6_found_1 ?_
  refine x_puti_r dX6_found_2 fl_X6_38 (fun h9 => by cases h9) hF (fun f1 hF => ?_)
  refine x_aload_n 0 dX6_found_5 rfl rfl ?_
  obtain ⟨z2, hzz2, hF⟩ := x_bind hF
  obtain ⟨⟨fsz2, hbz2⟩, hzz2⟩ := x_cv_sp hzz2
  refine x_callv (As := []) (rest := []) 0 0 dX6_found_6 mi_X6_finds ml_X6_113 rfl rfl (Nat.le_of_ble_eq_true rfl) ⟨by decide, by decide⟩ (by omega) (by omega) hbz2 rfl (c_X6_finds N _ _ _ _ hzz2) (x_K.some ?_) x_KX.none
  exact x_iret dX6_found_9 rfl (by cases hF; rfl)
def F_X6_goBack (N : Nat) (f : XM) (this : Nat) (p0 : Int32) : Option XM :=
  (F_X6_in N f p0 0 1).bind fun z1 =>
  if (x_b z1) = 0 then
    (x_puti f 6 this 11 1).bind fun f25 =>
    (x_geti f25 6 this 11).bind fun v26 =>
    if v26 = 0 then
      (x_getr f25 6 this 0).bind fun v27 =>
      Option.bind v27 fun a28 =>
      (x_cv f25 6 this (F_X6_saves N f25 this a28)).bind fun z29 =>
      (x_getr z29 6 this 3).bind fun v30 =>
      (x_getr z29 6 this 0).bind fun v31 =>
      Option.bind v31 fun a32 =>
      Option.bind v30 fun a33 =>
      (F_X6_lays N z29 a33 (6696 * p0) a32 0).bind fun z34 =>
      some z34
    else
      some f25
  else
    (x_getr f 6 this 4).bind fun v2 =>
    Option.bind v2 fun a3 =>
    (x_ald f a3 p0).bind fun v4 =>
    if v4 = 0 then
      (x_puti f 6 this 11 2).bind fun f15 =>
      (x_geti f15 6 this 11).bind fun v16 =>
      if v16 = 0 then
        (x_getr f15 6 this 0).bind fun v17 =>
        Option.bind v17 fun a18 =>
        (x_cv f15 6 this (F_X6_saves N f15 this a18)).bind fun z19 =>
        (x_getr z19 6 this 3).bind fun v20 =>
        (x_getr z19 6 this 0).bind fun v21 =>
        Option.bind v21 fun a22 =>
        Option.bind v20 fun a23 =>
        (F_X6_lays N z19 a23 (6696 * p0) a22 0).bind fun z24 =>
        some z24
      else
        some f15
    else
      (x_puti f 6 this 11 0).bind fun f5 =>
      (x_geti f5 6 this 11).bind fun v6 =>
      if v6 = 0 then
        (x_getr f5 6 this 0).bind fun v7 =>
        Option.bind v7 fun a8 =>
        (x_cv f5 6 this (F_X6_saves N f5 this a8)).bind fun z9 =>
        (x_getr z9 6 this 3).bind fun v10 =>
        (x_getr z9 6 this 0).bind fun v11 =>
        Option.bind v11 fun a12 =>
        Option.bind v10 fun a13 =>
        (F_X6_lays N z9 a13 (6696 * p0) a12 0).bind fun z14 =>
        some z14
      else
        some f5
set_option maxRecDepth 20000 in
set_option maxHeartbeats 4000000 in
theorem c_X6_goBack (N : Nat) (f : XM) (this : Nat) (p0 : Int32) (n : Nat) (r : XM) (hF : F_X6_goBack N f this p0 = some r) : x_Ct mX6_goBack 2 46 0 0 [.ref this, .int p0] (f, n) (xr_vm r n) := by
  unfold F_X6_goBack at hF
  refine x_ct (by decide) rfl (Nat.le_of_ble_eq_true rfl) ?_
  show X mX6_goBack 2 46 _ _ 0 0 0 [(0, .ref this), (1, .int p0)] [] (f, n)
  refine x_aload_n 0 dX6_goBack_0 rfl rfl ?_
  refine x_iload_n 1 dX6_goBack_1 rfl rfl ?_
  refine x_iconst 0 (by decide) dX6_goBack_2 ?_
  refine x_iconst 1 (by decide) dX6_goBack_3 ?_
  obtain ⟨z1, hzz1, hF⟩ := x_bind hF
  refine x_calls (As := [.int p0, .int 0, .int 1]) (rest := [.ref this]) 0 0 dX6_goBack_4 mi_X6_in rfl ml_X6_50 rfl rfl (Nat.le_of_ble_eq_true rfl) ⟨by decide, by decide⟩ (by omega) (by omega) (c_X6_in N _ _ _ _ _ _ hzz1) (x_K.some ?_) x_KX.none
  refine x_if_ne 14 dX6_goBack_7 (by decide) hF (fun hF => ?_) (fun hF => ?_)
  · refine x_aload_n 0 dX6_goBack_14 rfl rfl ?_
    refine x_getr_r dX6_goBack_15 fl_X6_20 hF (fun v2 hF => ?_)
    refine x_iload_n 1 dX6_goBack_18 rfl rfl ?_
    refine x_nn hF (fun a3 ha3 hF => ?_)
    rw [ha3]
    refine x_ald_r dX6_goBack_19 hF (fun v4 hF => ?_)
    refine x_if_ne 27 dX6_goBack_20 (by decide) hF (fun hF => ?_) (fun hF => ?_)
    · refine x_iconst 0 (by decide) dX6_goBack_27 ?_
      refine x_puti_r dX6_goBack_28 fl_X6_38 (fun h9 => by cases h9) hF (fun f5 hF => ?_)
      refine x_aload_n 0 dX6_goBack_31 rfl rfl ?_
      refine x_geti_r dX6_goBack_32 fl_X6_38 hF (fun v6 hF => ?_)
      refine x_if_ne 63 dX6_goBack_35 (by decide) hF (fun hF => ?_) (fun hF => ?_)
      · exact x_vret dX6_goBack_63 rfl (by cases hF; rfl)
      · refine x_aload_n 0 dX6_goBack_38 rfl rfl ?_
        refine x_aload_n 0 dX6_goBack_39 rfl rfl ?_
        refine x_getr_r dX6_goBack_40 fl_X6_7 hF (fun v7 hF => ?_)
        refine x_nn hF (fun a8 ha8 hF => ?_)
        rw [ha8]
        obtain ⟨z9, hzz9, hF⟩ := x_bind hF
        obtain ⟨⟨fsz9, hbz9⟩, hzz9⟩ := x_cv_sp hzz9
        refine x_callv (As := [.ref a8]) (rest := []) 0 0 dX6_goBack_43 mi_X6_saves ml_X6_139 rfl rfl (Nat.le_of_ble_eq_true rfl) ⟨by decide, by decide⟩ (by omega) (by omega) hbz9 rfl (c_X6_saves N _ _ _ _ _ hzz9) (x_K.none ?_) x_KX.none
        refine x_aload_n 0 dX6_goBack_46 rfl rfl ?_
        refine x_getr_r dX6_goBack_47 fl_X6_17 hF (fun v10 hF => ?_)
        refine x_sipush 6696 (by decide) dX6_goBack_50 ?_
        refine x_iload_n 1 dX6_goBack_53 rfl rfl ?_
        refine x_imul dX6_goBack_54 ?_
        refine x_aload_n 0 dX6_goBack_55 rfl rfl ?_
        refine x_getr_r dX6_goBack_56 fl_X6_7 hF (fun v11 hF => ?_)
        refine x_iconst 0 (by decide) dX6_goBack_59 ?_
        refine x_nn hF (fun a12 ha12 hF => ?_)
        rw [ha12]
        refine x_nn hF (fun a13 ha13 hF => ?_)
        rw [ha13]
        obtain ⟨z14, hzz14, hF⟩ := x_bind hF
        refine x_calls (As := [.ref a13, .int (6696 * p0), .ref a12, .int 0]) (rest := []) 0 0 dX6_goBack_60 mi_X6_lays rfl ml_X6_46 rfl rfl (Nat.le_of_ble_eq_true rfl) ⟨by decide, by decide⟩ (by omega) (by omega) (c_X6_lays N _ _ _ _ _ _ _ hzz14) (x_K.none ?_) x_KX.none
        exact x_vret dX6_goBack_63 rfl (by cases hF; rfl)
    · refine x_iconst 2 (by decide) dX6_goBack_23 ?_
      refine x_goto 28 dX6_goBack_24 (by decide) ?_
      refine x_puti_r dX6_goBack_28 fl_X6_38 (fun h9 => by cases h9) hF (fun f15 hF => ?_)
      refine x_aload_n 0 dX6_goBack_31 rfl rfl ?_
      refine x_geti_r dX6_goBack_32 fl_X6_38 hF (fun v16 hF => ?_)
      refine x_if_ne 63 dX6_goBack_35 (by decide) hF (fun hF => ?_) (fun hF => ?_)
      · exact x_vret dX6_goBack_63 rfl (by cases hF; rfl)
      · refine x_aload_n 0 dX6_goBack_38 rfl rfl ?_
        refine x_aload_n 0 dX6_goBack_39 rfl rfl ?_
        refine x_getr_r dX6_goBack_40 fl_X6_7 hF (fun v17 hF => ?_)
        refine x_nn hF (fun a18 ha18 hF => ?_)
        rw [ha18]
        obtain ⟨z19, hzz19, hF⟩ := x_bind hF
        obtain ⟨⟨fsz19, hbz19⟩, hzz19⟩ := x_cv_sp hzz19
        refine x_callv (As := [.ref a18]) (rest := []) 0 0 dX6_goBack_43 mi_X6_saves ml_X6_139 rfl rfl (Nat.le_of_ble_eq_true rfl) ⟨by decide, by decide⟩ (by omega) (by omega) hbz19 rfl (c_X6_saves N _ _ _ _ _ hzz19) (x_K.none ?_) x_KX.none
        refine x_aload_n 0 dX6_goBack_46 rfl rfl ?_
        refine x_getr_r dX6_goBack_47 fl_X6_17 hF (fun v20 hF => ?_)
        refine x_sipush 6696 (by decide) dX6_goBack_50 ?_
        refine x_iload_n 1 dX6_goBack_53 rfl rfl ?_
        refine x_imul dX6_goBack_54 ?_
        refine x_aload_n 0 dX6_goBack_55 rfl rfl ?_
        refine x_getr_r dX6_goBack_56 fl_X6_7 hF (fun v21 hF => ?_)
        refine x_iconst 0 (by decide) dX6_goBack_59 ?_
        refine x_nn hF (fun a22 ha22 hF => ?_)
        rw [ha22]
        refine x_nn hF (fun a23 ha23 hF => ?_)
        rw [ha23]
        obtain ⟨z24, hzz24, hF⟩ := x_bind hF
        refine x_calls (As := [.ref a23, .int (6696 * p0), .ref a22, .int 0]) (rest := []) 0 0 dX6_goBack_60 mi_X6_lays rfl ml_X6_46 rfl rfl (Nat.le_of_ble_eq_true rfl) ⟨by decide, by decide⟩ (by omega) (by omega) (c_X6_lays N _ _ _ _ _ _ _ hzz24) (x_K.none ?_) x_KX.none
        exact x_vret dX6_goBack_63 rfl (by cases hF; rfl)
  · refine x_iconst 1 (by decide) dX6_goBack_10 ?_
    refine x_goto 28 dX6_goBack_11 (by decide) ?_
    refine x_puti_r dX6_goBack_28 fl_X6_38 (fun h9 => by cases h9) hF (fun f25 hF => ?_)
    refine x_aload_n 0 dX6_goBack_31 rfl rfl ?_
    refine x_geti_r dX6_goBack_32 fl_X6_38 hF (fun v26 hF => ?_)
    refine x_if_ne 63 dX6_goBack_35 (by decide) hF (fun hF => ?_) (fun hF => ?_)
    · exact x_vret dX6_goBack_63 rfl (by cases hF; rfl)
    · refine x_aload_n 0 dX6_goBack_38 rfl rfl ?_
      refine x_aload_n 0 dX6_goBack_39 rfl rfl ?_
      refine x_getr_r dX6_goBack_40 fl_X6_7 hF (fun v27 hF => ?_)
      refine x_nn hF (fun a28 ha28 hF => ?_)
      rw [ha28]
      obtain ⟨z29, hzz29, hF⟩ := x_bind hF
      obtain ⟨⟨fsz29, hbz29⟩, hzz29⟩ := x_cv_sp hzz29
      refine x_callv (As := [.ref a28]) (rest := []) 0 0 dX6_goBack_43 mi_X6_saves ml_X6_139 rfl rfl (Nat.le_of_ble_eq_true rfl) ⟨by decide, by decide⟩ (by omega) (by omega) hbz29 rfl (c_X6_saves N _ _ _ _ _ hzz29) (x_K.none ?_) x_KX.none
      refine x_aload_n 0 dX6_goBack_46 rfl rfl ?_
      refine x_getr_r dX6_goBack_47 fl_X6_17 hF (fun v30 hF => ?_)
      refine x_sipush 6696 (by decide) dX6_goBack_50 ?_
      refine x_iload_n 1 dX6_goBack_53 rfl rfl ?_
      refine x_imul dX6_goBack_54 ?_
      refine x_aload_n 0 dX6_goBack_55 rfl rfl ?_
      refine x_getr_r dX6_goBack_56 fl_X6_7 hF (fun v31 hF => ?_)
      refine x_iconst 0 (by decide) dX6_goBack_59 ?_
      refine x_nn hF (fun a32 ha32 hF => ?_)
      rw [ha32]
      refine x_nn hF (fun a33 ha33 hF => ?_)
      rw [ha33]
      obtain ⟨z34, hzz34, hF⟩ := x_bind hF
      refine x_calls (As := [.ref a33, .int (6696 * p0), .ref a32, .int 0]) (rest := []) 0 0 dX6_goBack_60 mi_X6_lays rfl ml_X6_46 rfl rfl (Nat.le_of_ble_eq_true rfl) ⟨by decide, by decide⟩ (by omega) (by omega) (c_X6_lays N _ _ _ _ _ _ _ hzz34) (x_K.none ?_) x_KX.none
      exact x_vret dX6_goBack_63 rfl (by cases hF; rfl)
def F_X6_init (N : Nat) (h : XH) (this : Nat) : Option XH :=
  (x_newi (h.1, h.2) 6696).bind fun z1 =>
  (x_putr z1.2.1 6 this 0 (some z1.1)).bind fun f2 =>
  (x_newi (f2, z1.2.2) 40176).bind fun z3 =>
  (x_putr z3.2.1 6 this 1 (some z3.1)).bind fun f4 =>
  (x_newi (f4, z3.2.2) 13392).bind fun z5 =>
  (x_putr z5.2.1 6 this 3 (some z5.1)).bind fun f6 =>
  (x_newi (f6, z5.2.2) 2).bind fun z7 =>
  (x_putr z7.2.1 6 this 4 (some z7.1)).bind fun f8 =>
  (x_newi (f8, z7.2.2) 6696).bind fun z9 =>
  (x_putr z9.2.1 6 this 5 (some z9.1)).bind fun f10 =>
  (x_newi (f10, z9.2.2) 240).bind fun z11 =>
  (x_putr z11.2.1 6 this 6 (some z11.1)).bind fun f12 =>
  (x_newi (f12, z11.2.2) 1200).bind fun z13 =>
  (x_putr z13.2.1 6 this 7 (some z13.1)).bind fun f14 =>
  (x_newi (f14, z13.2.2) 60).bind fun z15 =>
  (x_putr z15.2.1 6 this 9 (some z15.1)).bind fun f16 =>
  (x_newi (f16, z15.2.2) 93).bind fun z17 =>
  (x_putr z17.2.1 6 this 13 (some z17.1)).bind fun f18 =>
  (x_getr f18 6 this 0).bind fun v19 =>
  Option.bind v19 fun a20 =>
  (x_ast f18 a20 0 4).bind fun f21 =>
  (x_getr f21 6 this 0).bind fun v22 =>
  Option.bind v22 fun a23 =>
  (x_ast f21 a23 1 3).bind fun f24 =>
  some (f24, z17.2.2)
set_option maxRecDepth 20000 in
set_option maxHeartbeats 4000000 in
theorem c_X6_init (N : Nat) (h : XH) (this : Nat) (r : XH) (hF : F_X6_init N h this = some r) : x_Ct mX6_init 1 20 9 68555 [.ref this] h (xr_va r) := by
  unfold F_X6_init at hF
  refine x_ct (by decide) rfl (Nat.le_of_ble_eq_true rfl) ?_
  show X mX6_init 1 20 _ _ 9 68555 0 [(0, .ref this)] [] h
  refine x_aload_n 0 dX6_init_0 rfl rfl ?_
  refine x_oinit dX6_init_1 ml_X6_1 jd_oi jd_oc (by decide) (by decide) (Nat.le_of_ble_eq_true rfl) ?_
  refine x_aload_n 0 dX6_init_4 rfl rfl ?_
  refine x_sipush 6696 (by decide) dX6_init_5 ?_
  refine x_newi_r 8 61859 dX6_init_8 ac_int (by omega) (by show 61859 + 6696 ≤ 68555; omega) hF (fun z1 hF => ?_)
  refine x_putr_r (v := (some z1.1)) dX6_init_10 fl_X6_7 rfl (fun h9 => ⟨rfl, rfl⟩) hF (fun f2 hF => ?_)
  refine x_aload_n 0 dX6_init_13 rfl rfl ?_
  refine x_ldc kc_X6_13 dX6_init_14 ?_
  refine x_newi_r 7 21683 dX6_init_16 ac_int (by omega) (by show 21683 + 40176 ≤ 61859; omega) hF (fun z3 hF => ?_)
  refine x_putr_r (v := (some z3.1)) dX6_init_18 fl_X6_14 rfl (fun h9 => ⟨rfl, rfl⟩) hF (fun f4 hF => ?_)
  refine x_aload_n 0 dX6_init_21 rfl rfl ?_
  refine x_sipush 13392 (by decide) dX6_init_22 ?_
  refine x_newi_r 6 8291 dX6_init_25 ac_int (by omega) (by show 8291 + 13392 ≤ 21683; omega) hF (fun z5 hF => ?_)
  refine x_putr_r (v := (some z5.1)) dX6_init_27 fl_X6_17 rfl (fun h9 => ⟨rfl, rfl⟩) hF (fun f6 hF => ?_)
  refine x_aload_n 0 dX6_init_30 rfl rfl ?_
  refine x_iconst 2 (by decide) dX6_init_31 ?_
  refine x_newi_r 5 8289 dX6_init_32 ac_int (by omega) (by show 8289 + 2 ≤ 8291; omega) hF (fun z7 hF => ?_)
  refine x_putr_r (v := (some z7.1)) dX6_init_34 fl_X6_20 rfl (fun h9 => ⟨rfl, rfl⟩) hF (fun f8 hF => ?_)
  refine x_aload_n 0 dX6_init_37 rfl rfl ?_
  refine x_sipush 6696 (by decide) dX6_init_38 ?_
  refine x_newi_r 4 1593 dX6_init_41 ac_int (by omega) (by show 1593 + 6696 ≤ 8289; omega) hF (fun z9 hF => ?_)
  refine x_putr_r (v := (some z9.1)) dX6_init_43 fl_X6_23 rfl (fun h9 => ⟨rfl, rfl⟩) hF (fun f10 hF => ?_)
  refine x_aload_n 0 dX6_init_46 rfl rfl ?_
  refine x_sipush 240 (by decide) dX6_init_47 ?_
  refine x_newi_r 3 1353 dX6_init_50 ac_int (by omega) (by show 1353 + 240 ≤ 1593; omega) hF (fun z11 hF => ?_)
  refine x_putr_r (v := (some z11.1)) dX6_init_52 fl_X6_26 rfl (fun h9 => ⟨rfl, rfl⟩) hF (fun f12 hF => ?_)
  refine x_aload_n 0 dX6_init_55 rfl rfl ?_
  refine x_sipush 1200 (by decide) dX6_init_56 ?_
  refine x_newi_r 2 153 dX6_init_59 ac_int (by omega) (by show 153 + 1200 ≤ 1353; omega) hF (fun z13 hF => ?_)
  refine x_putr_r (v := (some z13.1)) dX6_init_61 fl_X6_29 rfl (fun h9 => ⟨rfl, rfl⟩) hF (fun f14 hF => ?_)
  refine x_aload_n 0 dX6_init_64 rfl rfl ?_
  refine x_bipush 60 (by decide) dX6_init_65 ?_
  refine x_newi_r 1 93 dX6_init_67 ac_int (by omega) (by show 93 + 60 ≤ 153; omega) hF (fun z15 hF => ?_)
  refine x_putr_r (v := (some z15.1)) dX6_init_69 fl_X6_32 rfl (fun h9 => ⟨rfl, rfl⟩) hF (fun f16 hF => ?_)
  refine x_aload_n 0 dX6_init_72 rfl rfl ?_
  refine x_bipush 93 (by decide) dX6_init_73 ?_
  refine x_newi_r 0 0 dX6_init_75 ac_int (by omega) (by show 0 + 93 ≤ 93; omega) hF (fun z17 hF => ?_)
  refine x_putr_r (v := (some z17.1)) dX6_init_77 fl_X6_35 rfl (fun h9 => ⟨rfl, rfl⟩) hF (fun f18 hF => ?_)
  refine x_aload_n 0 dX6_init_80 rfl rfl ?_
  refine x_getr_r dX6_init_81 fl_X6_7 hF (fun v19 hF => ?_)
  refine x_iconst 0 (by decide) dX6_init_84 ?_
  refine x_iconst 4 (by decide) dX6_init_85 ?_
  refine x_nn hF (fun a20 ha20 hF => ?_)
  rw [ha20]
  refine x_ast_r dX6_init_86 hF (fun f21 hF => ?_)
  refine x_aload_n 0 dX6_init_87 rfl rfl ?_
  refine x_getr_r dX6_init_88 fl_X6_7 hF (fun v22 hF => ?_)
  refine x_iconst 1 (by decide) dX6_init_91 ?_
  refine x_iconst 3 (by decide) dX6_init_92 ?_
  refine x_nn hF (fun a23 ha23 hF => ?_)
  rw [ha23]
  refine x_ast_r dX6_init_93 hF (fun f24 hF => ?_)
  exact x_vret dX6_init_94 rfl (by cases hF; rfl)
def F_X6_isValue (N : Nat) (f : XM) (p0 : Int32) : Option Bool :=
  (F_X6_in N f p0 0 99).bind fun z1 =>
  some z1
set_option maxRecDepth 20000 in
set_option maxHeartbeats 4000000 in
theorem c_X6_isValue (N : Nat) (f : XM) (p0 : Int32) (n : Nat) (r : Bool) (hF : F_X6_isValue N f p0 = some r) : x_Ct mX6_isValue 1 22 0 0 [.int p0] (f, n) (xr_zp r (f, n)) := by
  unfold F_X6_isValue at hF
  refine x_ct (by decide) rfl (Nat.le_of_ble_eq_true rfl) ?_
  show X mX6_isValue 1 22 _ _ 0 0 0 [(0, .int p0)] [] (f, n)
  refine x_iload_n 0 dX6_isValue_0 rfl rfl ?_
  refine x_iconst 0 (by decide) dX6_isValue_1 ?_
  refine x_bipush 99 (by decide) dX6_isValue_2 ?_
  obtain ⟨z1, hzz1, hF⟩ := x_bind hF
  refine x_calls (As := [.int p0, .int 0, .int 99]) (rest := []) 0 0 dX6_isValue_4 mi_X6_in rfl ml_X6_50 rfl rfl (Nat.le_of_ble_eq_true rfl) ⟨by decide, by decide⟩ (by omega) (by omega) (c_X6_in N _ _ _ _ _ _ hzz1) (x_K.some ?_) x_KX.none
  exact x_zret dX6_isValue_7 rfl (x_b_01 z1) (by cases hF; rfl)
def F_X6_insert (N : Nat) (f : XM) (this : Nat) (p0 : Int32) (p1 : Int32) : Option (Int32 × XM) :=
  (F_X6_isKey N f p0).bind fun z1 =>
  if (x_b z1) = 0 then
    (x_puti f 6 this 11 1).bind fun f2 =>
    (x_geti f2 6 this 11).bind fun v3 =>
    if v3 ≤ 0 then
      (x_getr f2 6 this 0).bind fun v4 =>
      Option.bind v4 fun a5 =>
      (x_cv f2 6 this (F_X6_saves N f2 this a5)).bind fun z6 =>
      (x_cv z6 6 this (F_X6_inserts N z6 this p0 p1)).bind fun z7 =>
      some (z7.1, z7.2)
    else
      some (0, f2)
  else
    (F_X6_isValue N f p1).bind fun z8 =>
    if (x_b z8) = 0 then
      (x_puti f 6 this 11 1).bind fun f22 =>
      (x_geti f22 6 this 11).bind fun v23 =>
      if v23 ≤ 0 then
        (x_getr f22 6 this 0).bind fun v24 =>
        Option.bind v24 fun a25 =>
        (x_cv f22 6 this (F_X6_saves N f22 this a25)).bind fun z26 =>
        (x_cv z26 6 this (F_X6_inserts N z26 this p0 p1)).bind fun z27 =>
        some (z27.1, z27.2)
      else
        some (0, f22)
    else
      (x_cv f 6 this (F_X6_canInsert N f this p0)).bind fun z9 =>
      if (x_b z9) = 0 then
        (x_puti f 6 this 11 2).bind fun f10 =>
        (x_geti f10 6 this 11).bind fun v11 =>
        if v11 ≤ 0 then
          (x_getr f10 6 this 0).bind fun v12 =>
          Option.bind v12 fun a13 =>
          (x_cv f10 6 this (F_X6_saves N f10 this a13)).bind fun z14 =>
          (x_cv z14 6 this (F_X6_inserts N z14 this p0 p1)).bind fun z15 =>
          some (z15.1, z15.2)
        else
          some (0, f10)
      else
        (x_puti f 6 this 11 0).bind fun f16 =>
        (x_geti f16 6 this 11).bind fun v17 =>
        if v17 ≤ 0 then
          (x_getr f16 6 this 0).bind fun v18 =>
          Option.bind v18 fun a19 =>
          (x_cv f16 6 this (F_X6_saves N f16 this a19)).bind fun z20 =>
          (x_cv z20 6 this (F_X6_inserts N z20 this p0 p1)).bind fun z21 =>
          some (z21.1, z21.2)
        else
          some (0, f16)
set_option maxRecDepth 20000 in
set_option maxHeartbeats 4000000 in
theorem c_X6_insert (N : Nat) (f : XM) (this : Nat) (p0 : Int32) (p1 : Int32) (n : Nat) (r : (Int32 × XM)) (hF : F_X6_insert N f this p0 p1 = some r) : x_Ct mX6_insert 4 88 0 0 [.ref this, .int p0, .int p1] (f, n) (xr_im r n) := by
  unfold F_X6_insert at hF
  refine x_ct (by decide) rfl (Nat.le_of_ble_eq_true rfl) ?_
  show X mX6_insert 4 88 _ _ 0 0 0 [(0, .ref this), (1, .int p0), (2, .int p1)] [] (f, n)
  refine x_aload_n 0 dX6_insert_0 rfl rfl ?_
  refine x_iload_n 1 dX6_insert_1 rfl rfl ?_
  obtain ⟨z1, hzz1, hF⟩ := x_bind hF
  refine x_calls (As := [.int p0]) (rest := [.ref this]) 0 0 dX6_insert_2 mi_X6_isKey rfl ml_X6_129 rfl rfl (Nat.le_of_ble_eq_true rfl) ⟨by decide, by decide⟩ (by omega) (by omega) (c_X6_isKey N _ _ _ _ hzz1) (x_K.some ?_) x_KX.none
  refine x_if_eq 15 dX6_insert_5 (by decide) hF (fun hF => ?_) (fun hF => ?_)
  · refine x_iconst 1 (by decide) dX6_insert_15 ?_
    refine x_goto 32 dX6_insert_16 (by decide) ?_
    refine x_puti_r dX6_insert_32 fl_X6_38 (fun h9 => by cases h9) hF (fun f2 hF => ?_)
    refine x_aload_n 0 dX6_insert_35 rfl rfl ?_
    refine x_geti_r dX6_insert_36 fl_X6_38 hF (fun v3 hF => ?_)
    refine x_if_le 44 dX6_insert_39 (by decide) hF (fun hF => ?_) (fun hF => ?_)
    · refine x_aload_n 0 dX6_insert_44 rfl rfl ?_
      refine x_aload_n 0 dX6_insert_45 rfl rfl ?_
      refine x_getr_r dX6_insert_46 fl_X6_7 hF (fun v4 hF => ?_)
      refine x_nn hF (fun a5 ha5 hF => ?_)
      rw [ha5]
      obtain ⟨z6, hzz6, hF⟩ := x_bind hF
      obtain ⟨⟨fsz6, hbz6⟩, hzz6⟩ := x_cv_sp hzz6
      refine x_callv (As := [.ref a5]) (rest := []) 0 0 dX6_insert_49 mi_X6_saves ml_X6_139 rfl rfl (Nat.le_of_ble_eq_true rfl) ⟨by decide, by decide⟩ (by omega) (by omega) hbz6 rfl (c_X6_saves N _ _ _ _ _ hzz6) (x_K.none ?_) x_KX.none
      refine x_aload_n 0 dX6_insert_52 rfl rfl ?_
      refine x_iload_n 1 dX6_insert_53 rfl rfl ?_
      refine x_iload_n 2 dX6_insert_54 rfl rfl ?_
      obtain ⟨z7, hzz7, hF⟩ := x_bind hF
      obtain ⟨⟨fsz7, hbz7⟩, hzz7⟩ := x_cv_sp hzz7
      refine x_callv (As := [.int p0, .int p1]) (rest := []) 0 0 dX6_insert_55 mi_X6_inserts ml_X6_171 rfl rfl (Nat.le_of_ble_eq_true rfl) ⟨by decide, by decide⟩ (by omega) (by omega) hbz7 rfl (c_X6_inserts N _ _ _ _ _ _ hzz7) (x_K.some ?_) x_KX.none
      exact x_iret dX6_insert_58 rfl (by cases hF; rfl)
    · refine x_iconst 0 (by decide) dX6_insert_42 ?_
      exact x_iret dX6_insert_43 rfl (by cases hF; rfl)
  · refine x_iload_n 2 dX6_insert_8 rfl rfl ?_
    obtain ⟨z8, hzz8, hF⟩ := x_bind hF
    refine x_calls (As := [.int p1]) (rest := [.ref this]) 0 0 dX6_insert_9 mi_X6_isValue rfl ml_X6_133 rfl rfl (Nat.le_of_ble_eq_true rfl) ⟨by decide, by decide⟩ (by omega) (by omega) (c_X6_isValue N _ _ _ _ hzz8) (x_K.some ?_) x_KX.none
    refine x_if_ne 19 dX6_insert_12 (by decide) hF (fun hF => ?_) (fun hF => ?_)
    · refine x_aload_n 0 dX6_insert_19 rfl rfl ?_
      refine x_iload_n 1 dX6_insert_20 rfl rfl ?_
      obtain ⟨z9, hzz9, hF⟩ := x_bind hF
      obtain ⟨⟨fsz9, hbz9⟩, hzz9⟩ := x_cv_sp hzz9
      refine x_callv (As := [.int p0]) (rest := [.ref this]) 0 0 dX6_insert_21 mi_X6_canInsert ml_X6_168 rfl rfl (Nat.le_of_ble_eq_true rfl) ⟨by decide, by decide⟩ (by omega) (by omega) hbz9 rfl (c_X6_canInsert N _ _ _ _ _ hzz9) (x_K.some ?_) x_KX.none
      refine x_if_eq 31 dX6_insert_24 (by decide) hF (fun hF => ?_) (fun hF => ?_)
      · refine x_iconst 2 (by decide) dX6_insert_31 ?_
        refine x_puti_r dX6_insert_32 fl_X6_38 (fun h9 => by cases h9) hF (fun f10 hF => ?_)
        refine x_aload_n 0 dX6_insert_35 rfl rfl ?_
        refine x_geti_r dX6_insert_36 fl_X6_38 hF (fun v11 hF => ?_)
        refine x_if_le 44 dX6_insert_39 (by decide) hF (fun hF => ?_) (fun hF => ?_)
        · refine x_aload_n 0 dX6_insert_44 rfl rfl ?_
          refine x_aload_n 0 dX6_insert_45 rfl rfl ?_
          refine x_getr_r dX6_insert_46 fl_X6_7 hF (fun v12 hF => ?_)
          refine x_nn hF (fun a13 ha13 hF => ?_)
          rw [ha13]
          obtain ⟨z14, hzz14, hF⟩ := x_bind hF
          obtain ⟨⟨fsz14, hbz14⟩, hzz14⟩ := x_cv_sp hzz14
          refine x_callv (As := [.ref a13]) (rest := []) 0 0 dX6_insert_49 mi_X6_saves ml_X6_139 rfl rfl (Nat.le_of_ble_eq_true rfl) ⟨by decide, by decide⟩ (by omega) (by omega) hbz14 rfl (c_X6_saves N _ _ _ _ _ hzz14) (x_K.none ?_) x_KX.none
          refine x_aload_n 0 dX6_insert_52 rfl rfl ?_
          refine x_iload_n 1 dX6_insert_53 rfl rfl ?_
          refine x_iload_n 2 dX6_insert_54 rfl rfl ?_
          obtain ⟨z15, hzz15, hF⟩ := x_bind hF
          obtain ⟨⟨fsz15, hbz15⟩, hzz15⟩ := x_cv_sp hzz15
          refine x_callv (As := [.int p0, .int p1]) (rest := []) 0 0 dX6_insert_55 mi_X6_inserts ml_X6_171 rfl rfl (Nat.le_of_ble_eq_true rfl) ⟨by decide, by decide⟩ (by omega) (by omega) hbz15 rfl (c_X6_inserts N _ _ _ _ _ _ hzz15) (x_K.some ?_) x_KX.none
          exact x_iret dX6_insert_58 rfl (by cases hF; rfl)
        · refine x_iconst 0 (by decide) dX6_insert_42 ?_
          exact x_iret dX6_insert_43 rfl (by cases hF; rfl)
      · refine x_iconst 0 (by decide) dX6_insert_27 ?_
        refine x_goto 32 dX6_insert_28 (by decide) ?_
        refine x_puti_r dX6_insert_32 fl_X6_38 (fun h9 => by cases h9) hF (fun f16 hF => ?_)
        refine x_aload_n 0 dX6_insert_35 rfl rfl ?_
        refine x_geti_r dX6_insert_36 fl_X6_38 hF (fun v17 hF => ?_)
        refine x_if_le 44 dX6_insert_39 (by decide) hF (fun hF => ?_) (fun hF => ?_)
        · refine x_aload_n 0 dX6_insert_44 rfl rfl ?_
          refine x_aload_n 0 dX6_insert_45 rfl rfl ?_
          refine x_getr_r dX6_insert_46 fl_X6_7 hF (fun v18 hF => ?_)
          refine x_nn hF (fun a19 ha19 hF => ?_)
          rw [ha19]
          obtain ⟨z20, hzz20, hF⟩ := x_bind hF
          obtain ⟨⟨fsz20, hbz20⟩, hzz20⟩ := x_cv_sp hzz20
          refine x_callv (As := [.ref a19]) (rest := []) 0 0 dX6_insert_49 mi_X6_saves ml_X6_139 rfl rfl (Nat.le_of_ble_eq_true rfl) ⟨by decide, by decide⟩ (by omega) (by omega) hbz20 rfl (c_X6_saves N _ _ _ _ _ hzz20) (x_K.none ?_) x_KX.none
          refine x_aload_n 0 dX6_insert_52 rfl rfl ?_
          refine x_iload_n 1 dX6_insert_53 rfl rfl ?_
          refine x_iload_n 2 dX6_insert_54 rfl rfl ?_
          obtain ⟨z21, hzz21, hF⟩ := x_bind hF
          obtain ⟨⟨fsz21, hbz21⟩, hzz21⟩ := x_cv_sp hzz21
          refine x_callv (As := [.int p0, .int p1]) (rest := []) 0 0 dX6_insert_55 mi_X6_inserts ml_X6_171 rfl rfl (Nat.le_of_ble_eq_true rfl) ⟨by decide, by decide⟩ (by omega) (by omega) hbz21 rfl (c_X6_inserts N _ _ _ _ _ _ hzz21) (x_K.some ?_) x_KX.none
          exact x_iret dX6_insert_58 rfl (by cases hF; rfl)
        · refine x_iconst 0 (by decide) dX6_insert_42 ?_
          exact x_iret dX6_insert_43 rfl (by cases hF; rfl)
    · refine x_iconst 1 (by decide) dX6_insert_15 ?_
      refine x_goto 32 dX6_insert_16 (by decide) ?_
      refine x_puti_r dX6_insert_32 fl_X6_38 (fun h9 => by cases h9) hF (fun f22 hF => ?_)
      refine x_aload_n 0 dX6_insert_35 rfl rfl ?_
      refine x_geti_r dX6_insert_36 fl_X6_38 hF (fun v23 hF => ?_)
      refine x_if_le 44 dX6_insert_39 (by decide) hF (fun hF => ?_) (fun hF => ?_)
      · refine x_aload_n 0 dX6_insert_44 rfl rfl ?_
        refine x_aload_n 0 dX6_insert_45 rfl rfl ?_
        refine x_getr_r dX6_insert_46 fl_X6_7 hF (fun v24 hF => ?_)
        refine x_nn hF (fun a25 ha25 hF => ?_)
        rw [ha25]
        obtain ⟨z26, hzz26, hF⟩ := x_bind hF
        obtain ⟨⟨fsz26, hbz26⟩, hzz26⟩ := x_cv_sp hzz26
        refine x_callv (As := [.ref a25]) (rest := []) 0 0 dX6_insert_49 mi_X6_saves ml_X6_139 rfl rfl (Nat.le_of_ble_eq_true rfl) ⟨by decide, by decide⟩ (by omega) (by omega) hbz26 rfl (c_X6_saves N _ _ _ _ _ hzz26) (x_K.none ?_) x_KX.none
        refine x_aload_n 0 dX6_insert_52 rfl rfl ?_
        refine x_iload_n 1 dX6_insert_53 rfl rfl ?_
        refine x_iload_n 2 dX6_insert_54 rfl rfl ?_
        obtain ⟨z27, hzz27, hF⟩ := x_bind hF
        obtain ⟨⟨fsz27, hbz27⟩, hzz27⟩ := x_cv_sp hzz27
        refine x_callv (As := [.int p0, .int p1]) (rest := []) 0 0 dX6_insert_55 mi_X6_inserts ml_X6_171 rfl rfl (Nat.le_of_ble_eq_true rfl) ⟨by decide, by decide⟩ (by omega) (by omega) hbz27 rfl (c_X6_inserts N _ _ _ _ _ _ hzz27) (x_K.some ?_) x_KX.none
        exact x_iret dX6_insert_58 rfl (by cases hF; rfl)
      · refine x_iconst 0 (by decide) dX6_insert_42 ?_
        exact x_iret dX6_insert_43 rfl (by cases hF; rfl)
def F_X6_isFound (N : Nat) (f : XM) (this : Nat) (p0 : Int32) : Option (Bool × XM) :=
  (F_X6_isKey N f p0).bind fun z1 =>
  if (x_b z1) = 0 then
    (x_puti f 6 this 11 1).bind fun f2 =>
    (x_geti f2 6 this 11).bind fun v3 =>
    if v3 = 0 then
      (x_cv f2 6 this (F_X6_valueBy N f2 this p0)).bind fun z4 =>
      if z4 = (-1) then
        some (false, f2)
      else
        some (true, f2)
    else
      some (false, f2)
  else
    (x_puti f 6 this 11 0).bind fun f5 =>
    (x_geti f5 6 this 11).bind fun v6 =>
    if v6 = 0 then
      (x_cv f5 6 this (F_X6_valueBy N f5 this p0)).bind fun z7 =>
      if z7 = (-1) then
        some (false, f5)
      else
        some (true, f5)
    else
      some (false, f5)
set_option maxRecDepth 20000 in
set_option maxHeartbeats 4000000 in
theorem c_X6_isFound (N : Nat) (f : XM) (this : Nat) (p0 : Int32) (n : Nat) (r : (Bool × XM)) (hF : F_X6_isFound N f this p0 = some r) : x_Ct mX6_isFound 4 90 0 0 [.ref this, .int p0] (f, n) (xr_zm r n) := by
  unfold F_X6_isFound at hF
  refine x_ct (by decide) rfl (Nat.le_of_ble_eq_true rfl) ?_
  show X mX6_isFound 4 90 _ _ 0 0 0 [(0, .ref this), (1, .int p0)] [] (f, n)
  refine x_aload_n 0 dX6_isFound_0 rfl rfl ?_
  refine x_iload_n 1 dX6_isFound_1 rfl rfl ?_
  obtain ⟨z1, hzz1, hF⟩ := x_bind hF
  refine x_calls (As := [.int p0]) (rest := [.ref this]) 0 0 dX6_isFound_2 mi_X6_isKey rfl ml_X6_129 rfl rfl (Nat.le_of_ble_eq_true rfl) ⟨by decide, by decide⟩ (by omega) (by omega) (c_X6_isKey N _ _ _ _ hzz1) (x_K.some ?_) x_KX.none
  refine x_if_eq 12 dX6_isFound_5 (by decide) hF (fun hF => ?_) (fun hF => ?_)
  · refine x_iconst 1 (by decide) dX6_isFound_12 ?_
    refine x_puti_r dX6_isFound_13 fl_X6_38 (fun h9 => by cases h9) hF (fun f2 hF => ?_)
    refine x_aload_n 0 dX6_isFound_16 rfl rfl ?_
    refine x_geti_r dX6_isFound_17 fl_X6_38 hF (fun v3 hF => ?_)
    refine x_if_ne 36 dX6_isFound_20 (by decide) hF (fun hF => ?_) (fun hF => ?_)
    · refine x_iconst 0 (by decide) dX6_isFound_36 ?_
      exact x_zret dX6_isFound_37 rfl (Or.inl rfl) (by cases hF; rfl)
    · refine x_aload_n 0 dX6_isFound_23 rfl rfl ?_
      refine x_iload_n 1 dX6_isFound_24 rfl rfl ?_
      obtain ⟨z4, hzz4, hF⟩ := x_bind hF
      obtain ⟨⟨fsz4, hbz4⟩, hzz4⟩ := x_cv_sp hzz4
      refine x_callv (As := [.int p0]) (rest := []) 0 0 dX6_isFound_25 mi_X6_valueBy ml_X6_110 rfl rfl (Nat.le_of_ble_eq_true rfl) ⟨by decide, by decide⟩ (by omega) (by omega) hbz4 rfl (c_X6_valueBy N _ _ _ _ _ hzz4) (x_K.some ?_) x_KX.none
      refine x_iconst (-1) (by decide) dX6_isFound_28 ?_
      refine x_icmp_eq 36 dX6_isFound_29 (by decide) hF (fun hF => ?_) (fun hF => ?_)
      · refine x_iconst 0 (by decide) dX6_isFound_36 ?_
        exact x_zret dX6_isFound_37 rfl (Or.inl rfl) (by cases hF; rfl)
      · refine x_iconst 1 (by decide) dX6_isFound_32 ?_
        refine x_goto 37 dX6_isFound_33 (by decide) ?_
        exact x_zret dX6_isFound_37 rfl (Or.inr rfl) (by cases hF; rfl)
  · refine x_iconst 0 (by decide) dX6_isFound_8 ?_
    refine x_goto 13 dX6_isFound_9 (by decide) ?_
    refine x_puti_r dX6_isFound_13 fl_X6_38 (fun h9 => by cases h9) hF (fun f5 hF => ?_)
    refine x_aload_n 0 dX6_isFound_16 rfl rfl ?_
    refine x_geti_r dX6_isFound_17 fl_X6_38 hF (fun v6 hF => ?_)
    refine x_if_ne 36 dX6_isFound_20 (by decide) hF (fun hF => ?_) (fun hF => ?_)
    · refine x_iconst 0 (by decide) dX6_isFound_36 ?_
      exact x_zret dX6_isFound_37 rfl (Or.inl rfl) (by cases hF; rfl)
    · refine x_aload_n 0 dX6_isFound_23 rfl rfl ?_
      refine x_iload_n 1 dX6_isFound_24 rfl rfl ?_
      obtain ⟨z7, hzz7, hF⟩ := x_bind hF
      obtain ⟨⟨fsz7, hbz7⟩, hzz7⟩ := x_cv_sp hzz7
      refine x_callv (As := [.int p0]) (rest := []) 0 0 dX6_isFound_25 mi_X6_valueBy ml_X6_110 rfl rfl (Nat.le_of_ble_eq_true rfl) ⟨by decide, by decide⟩ (by omega) (by omega) hbz7 rfl (c_X6_valueBy N _ _ _ _ _ hzz7) (x_K.some ?_) x_KX.none
      refine x_iconst (-1) (by decide) dX6_isFound_28 ?_
      refine x_icmp_eq 36 dX6_isFound_29 (by decide) hF (fun hF => ?_) (fun hF => ?_)
      · refine x_iconst 0 (by decide) dX6_isFound_36 ?_
        exact x_zret dX6_isFound_37 rfl (Or.inl rfl) (by cases hF; rfl)
      · refine x_iconst 1 (by decide) dX6_isFound_32 ?_
        refine x_goto 37 dX6_isFound_33 (by decide) ?_
        exact x_zret dX6_isFound_37 rfl (Or.inr rfl) (by cases hF; rfl)
def F_X6_isFoundByGoing (N : Nat) (f : XM) (this : Nat) (p0 : Int32) : Option (Bool × XM) :=
  (x_cv f 6 this (F_X6_isFound N f this p0)).bind fun z1 =>
  some (z1.1, z1.2)
set_option maxRecDepth 20000 in
set_option maxHeartbeats 4000000 in
theorem c_X6_isFoundByGoing (N : Nat) (f : XM) (this : Nat) (p0 : Int32) (n : Nat) (r : (Bool × XM)) (hF : F_X6_isFoundByGoing N f this p0 = some r) : x_Ct mX6_isFoundByGoing 5 111 0 0 [.ref this, .int p0] (f, n) (xr_zm r n) := by
  unfold F_X6_isFoundByGoing at hF
  refine x_ct (by decide) rfl (Nat.le_of_ble_eq_true rfl) ?_
  show X mX6_isFoundByGoing 5 111 _ _ 0 0 0 [(0, .ref this), (1, .int p0)] [] (f, n)
  refine x_aload_n 0 dX6_isFoundByGoing_0 rfl rfl ?_
  refine x_iload_n 1 dX6_isFoundByGoing_1 rfl rfl ?_
  obtain ⟨z1, hzz1, hF⟩ := x_bind hF
  obtain ⟨⟨fsz1, hbz1⟩, hzz1⟩ := x_cv_sp hzz1
  refine x_callv (As := [.int p0]) (rest := []) 0 0 dX6_isFoundByGoing_2 mi_X6_isFound ml_X6_218 rfl rfl (Nat.le_of_ble_eq_true rfl) ⟨by decide, by decide⟩ (by omega) (by omega) hbz1 rfl (c_X6_isFound N _ _ _ _ _ hzz1) (x_K.some ?_) x_KX.none
  exact x_zret dX6_isFoundByGoing_5 rfl (x_b_01 z1.1) (by cases hF; rfl)
def F_X6_isFoundByTree (N : Nat) (f : XM) (this : Nat) (p0 : Int32) : Option (Bool × XM) :=
  (x_cv f 6 this (F_X6_isFound N f this p0)).bind fun z1 =>
  some (z1.1, z1.2)
set_option maxRecDepth 20000 in
set_option maxHeartbeats 4000000 in
theorem c_X6_isFoundByTree (N : Nat) (f : XM) (this : Nat) (p0 : Int32) (n : Nat) (r : (Bool × XM)) (hF : F_X6_isFoundByTree N f this p0 = some r) : x_Ct mX6_isFoundByTree 5 111 0 0 [.ref this, .int p0] (f, n) (xr_zm r n) := by
  unfold F_X6_isFoundByTree at hF
  refine x_ct (by decide) rfl (Nat.le_of_ble_eq_true rfl) ?_
  show X mX6_isFoundByTree 5 111 _ _ 0 0 0 [(0, .ref this), (1, .int p0)] [] (f, n)
  refine x_aload_n 0 dX6_isFoundByTree_0 rfl rfl ?_
  refine x_iload_n 1 dX6_isFoundByTree_1 rfl rfl ?_
  obtain ⟨z1, hzz1, hF⟩ := x_bind hF
  obtain ⟨⟨fsz1, hbz1⟩, hzz1⟩ := x_cv_sp hzz1
  refine x_callv (As := [.int p0]) (rest := []) 0 0 dX6_isFoundByTree_2 mi_X6_isFound ml_X6_218 rfl rfl (Nat.le_of_ble_eq_true rfl) ⟨by decide, by decide⟩ (by omega) (by omega) hbz1 rfl (c_X6_isFound N _ _ _ _ _ hzz1) (x_K.some ?_) x_KX.none
  exact x_zret dX6_isFoundByTree_5 rfl (x_b_01 z1.1) (by cases hF; rfl)
def F_X6_isRun (N : Nat) (f : XM) (this : Nat) (p0 : Int32) : Option Bool :=
  (x_getr f 6 this 0).bind fun v1 =>
  Option.bind v1 fun a2 =>
  (x_ald f a2 6).bind fun v3 =>
  (F_X6_in N f p0 0 v3).bind fun z4 =>
  some z4
set_option maxRecDepth 20000 in
set_option maxHeartbeats 4000000 in
theorem c_X6_isRun (N : Nat) (f : XM) (this : Nat) (p0 : Int32) (n : Nat) (r : Bool) (hF : F_X6_isRun N f this p0 = some r) : x_Ct mX6_isRun 1 22 0 0 [.ref this, .int p0] (f, n) (xr_zp r (f, n)) := by
  unfold F_X6_isRun at hF
  refine x_ct (by decide) rfl (Nat.le_of_ble_eq_true rfl) ?_
  show X mX6_isRun 1 22 _ _ 0 0 0 [(0, .ref this), (1, .int p0)] [] (f, n)
  refine x_iload_n 1 dX6_isRun_0 rfl rfl ?_
  refine x_iconst 0 (by decide) dX6_isRun_1 ?_
  refine x_aload_n 0 dX6_isRun_2 rfl rfl ?_
  refine x_getr_r dX6_isRun_3 fl_X6_7 hF (fun v1 hF => ?_)
  refine x_bipush 6 (by decide) dX6_isRun_6 ?_
  refine x_nn hF (fun a2 ha2 hF => ?_)
  rw [ha2]
  refine x_ald_r dX6_isRun_8 hF (fun v3 hF => ?_)
  obtain ⟨z4, hzz4, hF⟩ := x_bind hF
  refine x_calls (As := [.int p0, .int 0, .int v3]) (rest := []) 0 0 dX6_isRun_9 mi_X6_in rfl ml_X6_50 rfl rfl (Nat.le_of_ble_eq_true rfl) ⟨by decide, by decide⟩ (by omega) (by omega) (c_X6_in N _ _ _ _ _ _ hzz4) (x_K.some ?_) x_KX.none
  exact x_zret dX6_isRun_12 rfl (x_b_01 z4) (by cases hF; rfl)
def F_X6_isPlace (N : Nat) (f : XM) (this : Nat) (p0 : Int32) (p1 : Int32) : Option Bool :=
  (x_cv f 6 this (F_X6_isRun N f this p0)).bind fun z1 =>
  if (x_b z1) = 0 then
    some false
  else
    (x_cv f 6 this (F_X6_size N f this p0)).bind fun z2 =>
    (F_X6_in N f p1 0 (z2 - 1)).bind fun z3 =>
    if (x_b z3) = 0 then
      some false
    else
      some true
set_option maxRecDepth 20000 in
set_option maxHeartbeats 4000000 in
theorem c_X6_isPlace (N : Nat) (f : XM) (this : Nat) (p0 : Int32) (p1 : Int32) (n : Nat) (r : Bool) (hF : F_X6_isPlace N f this p0 p1 = some r) : x_Ct mX6_isPlace 2 43 0 0 [.ref this, .int p0, .int p1] (f, n) (xr_zp r (f, n)) := by
  unfold F_X6_isPlace at hF
  refine x_ct (by decide) rfl (Nat.le_of_ble_eq_true rfl) ?_
  show X mX6_isPlace 2 43 _ _ 0 0 0 [(0, .ref this), (1, .int p0), (2, .int p1)] [] (f, n)
  refine x_aload_n 0 dX6_isPlace_0 rfl rfl ?_
  refine x_iload_n 1 dX6_isPlace_1 rfl rfl ?_
  obtain ⟨z1, hzz1, hF⟩ := x_bind hF
  obtain ⟨⟨fsz1, hbz1⟩, hzz1⟩ := x_cv_sp hzz1
  refine x_callv (As := [.int p0]) (rest := []) 0 0 dX6_isPlace_2 mi_X6_isRun ml_X6_237 rfl rfl (Nat.le_of_ble_eq_true rfl) ⟨by decide, by decide⟩ (by omega) (by omega) hbz1 rfl (c_X6_isRun N _ _ _ _ _ hzz1) (x_K.some ?_) x_KX.none
  refine x_if_eq 27 dX6_isPlace_5 (by decide) hF (fun hF => ?_) (fun hF => ?_)
  · refine x_iconst 0 (by decide) dX6_isPlace_27 ?_
    exact x_zret dX6_isPlace_28 rfl (Or.inl rfl) (by cases hF; rfl)
  · refine x_iload_n 2 dX6_isPlace_8 rfl rfl ?_
    refine x_iconst 0 (by decide) dX6_isPlace_9 ?_
    refine x_aload_n 0 dX6_isPlace_10 rfl rfl ?_
    refine x_iload_n 1 dX6_isPlace_11 rfl rfl ?_
    obtain ⟨z2, hzz2, hF⟩ := x_bind hF
    obtain ⟨⟨fsz2, hbz2⟩, hzz2⟩ := x_cv_sp hzz2
    refine x_callv (As := [.int p0]) (rest := [.int 0, .int p1]) 0 0 dX6_isPlace_12 mi_X6_size ml_X6_54 rfl rfl (Nat.le_of_ble_eq_true rfl) ⟨by decide, by decide⟩ (by omega) (by omega) hbz2 rfl (c_X6_size N _ _ _ _ _ hzz2) (x_K.some ?_) x_KX.none
    refine x_iconst 1 (by decide) dX6_isPlace_15 ?_
    refine x_isub dX6_isPlace_16 ?_
    obtain ⟨z3, hzz3, hF⟩ := x_bind hF
    refine x_calls (As := [.int p1, .int 0, .int (z2 - 1)]) (rest := []) 0 0 dX6_isPlace_17 mi_X6_in rfl ml_X6_50 rfl rfl (Nat.le_of_ble_eq_true rfl) ⟨by decide, by decide⟩ (by omega) (by omega) (c_X6_in N _ _ _ _ _ _ hzz3) (x_K.some ?_) x_KX.none
    refine x_if_eq 27 dX6_isPlace_20 (by decide) hF (fun hF => ?_) (fun hF => ?_)
    · refine x_iconst 0 (by decide) dX6_isPlace_27 ?_
      exact x_zret dX6_isPlace_28 rfl (Or.inl rfl) (by cases hF; rfl)
    · refine x_iconst 1 (by decide) dX6_isPlace_23 ?_
      refine x_goto 28 dX6_isPlace_24 (by decide) ?_
      exact x_zret dX6_isPlace_28 rfl (Or.inr rfl) (by cases hF; rfl)
def F_X6_isGoneIn (N : Nat) (f : XM) (this : Nat) (p0 : Int32) (p1 : Int32) : Option (Bool × XM) :=
  (x_cv f 6 this (F_X6_isPlace N f this p0 p1)).bind fun z1 =>
  if (x_b z1) = 0 then
    (x_puti f 6 this 11 1).bind fun f2 =>
    (x_geti f2 6 this 11).bind fun v3 =>
    if v3 = 0 then
      (x_cv f2 6 this (F_X6_value N f2 this p0 p1)).bind fun z4 =>
      if z4 = (-1) then
        some (true, f2)
      else
        some (false, f2)
    else
      some (false, f2)
  else
    (x_puti f 6 this 11 0).bind fun f5 =>
    (x_geti f5 6 this 11).bind fun v6 =>
    if v6 = 0 then
      (x_cv f5 6 this (F_X6_value N f5 this p0 p1)).bind fun z7 =>
      if z7 = (-1) then
        some (true, f5)
      else
        some (false, f5)
    else
      some (false, f5)
set_option maxRecDepth 20000 in
set_option maxHeartbeats 4000000 in
theorem c_X6_isGoneIn (N : Nat) (f : XM) (this : Nat) (p0 : Int32) (p1 : Int32) (n : Nat) (r : (Bool × XM)) (hF : F_X6_isGoneIn N f this p0 p1 = some r) : x_Ct mX6_isGoneIn 3 65 0 0 [.ref this, .int p0, .int p1] (f, n) (xr_zm r n) := by
  unfold F_X6_isGoneIn at hF
  refine x_ct (by decide) rfl (Nat.le_of_ble_eq_true rfl) ?_
  show X mX6_isGoneIn 3 65 _ _ 0 0 0 [(0, .ref this), (1, .int p0), (2, .int p1)] [] (f, n)
  refine x_aload_n 0 dX6_isGoneIn_0 rfl rfl ?_
  refine x_aload_n 0 dX6_isGoneIn_1 rfl rfl ?_
  refine x_iload_n 1 dX6_isGoneIn_2 rfl rfl ?_
  refine x_iload_n 2 dX6_isGoneIn_3 rfl rfl ?_
  obtain ⟨z1, hzz1, hF⟩ := x_bind hF
  obtain ⟨⟨fsz1, hbz1⟩, hzz1⟩ := x_cv_sp hzz1
  refine x_callv (As := [.int p0, .int p1]) (rest := [.ref this]) 0 0 dX6_isGoneIn_4 mi_X6_isPlace ml_X6_240 rfl rfl (Nat.le_of_ble_eq_true rfl) ⟨by decide, by decide⟩ (by omega) (by omega) hbz1 rfl (c_X6_isPlace N _ _ _ _ _ _ hzz1) (x_K.some ?_) x_KX.none
  refine x_if_eq 14 dX6_isGoneIn_7 (by decide) hF (fun hF => ?_) (fun hF => ?_)
  · refine x_iconst 1 (by decide) dX6_isGoneIn_14 ?_
    refine x_puti_r dX6_isGoneIn_15 fl_X6_38 (fun h9 => by cases h9) hF (fun f2 hF => ?_)
    refine x_aload_n 0 dX6_isGoneIn_18 rfl rfl ?_
    refine x_geti_r dX6_isGoneIn_19 fl_X6_38 hF (fun v3 hF => ?_)
    refine x_if_ne 39 dX6_isGoneIn_22 (by decide) hF (fun hF => ?_) (fun hF => ?_)
    · refine x_iconst 0 (by decide) dX6_isGoneIn_39 ?_
      exact x_zret dX6_isGoneIn_40 rfl (Or.inl rfl) (by cases hF; rfl)
    · refine x_aload_n 0 dX6_isGoneIn_25 rfl rfl ?_
      refine x_iload_n 1 dX6_isGoneIn_26 rfl rfl ?_
      refine x_iload_n 2 dX6_isGoneIn_27 rfl rfl ?_
      obtain ⟨z4, hzz4, hF⟩ := x_bind hF
      obtain ⟨⟨fsz4, hbz4⟩, hzz4⟩ := x_cv_sp hzz4
      refine x_callv (As := [.int p0, .int p1]) (rest := []) 0 0 dX6_isGoneIn_28 mi_X6_value ml_X6_65 rfl rfl (Nat.le_of_ble_eq_true rfl) ⟨by decide, by decide⟩ (by omega) (by omega) hbz4 rfl (c_X6_value N _ _ _ _ _ _ hzz4) (x_K.some ?_) x_KX.none
      refine x_iconst (-1) (by decide) dX6_isGoneIn_31 ?_
      refine x_icmp_ne 39 dX6_isGoneIn_32 (by decide) hF (fun hF => ?_) (fun hF => ?_)
      · refine x_iconst 0 (by decide) dX6_isGoneIn_39 ?_
        exact x_zret dX6_isGoneIn_40 rfl (Or.inl rfl) (by cases hF; rfl)
      · refine x_iconst 1 (by decide) dX6_isGoneIn_35 ?_
        refine x_goto 40 dX6_isGoneIn_36 (by decide) ?_
        exact x_zret dX6_isGoneIn_40 rfl (Or.inr rfl) (by cases hF; rfl)
  · refine x_iconst 0 (by decide) dX6_isGoneIn_10 ?_
    refine x_goto 15 dX6_isGoneIn_11 (by decide) ?_
    refine x_puti_r dX6_isGoneIn_15 fl_X6_38 (fun h9 => by cases h9) hF (fun f5 hF => ?_)
    refine x_aload_n 0 dX6_isGoneIn_18 rfl rfl ?_
    refine x_geti_r dX6_isGoneIn_19 fl_X6_38 hF (fun v6 hF => ?_)
    refine x_if_ne 39 dX6_isGoneIn_22 (by decide) hF (fun hF => ?_) (fun hF => ?_)
    · refine x_iconst 0 (by decide) dX6_isGoneIn_39 ?_
      exact x_zret dX6_isGoneIn_40 rfl (Or.inl rfl) (by cases hF; rfl)
    · refine x_aload_n 0 dX6_isGoneIn_25 rfl rfl ?_
      refine x_iload_n 1 dX6_isGoneIn_26 rfl rfl ?_
      refine x_iload_n 2 dX6_isGoneIn_27 rfl rfl ?_
      obtain ⟨z7, hzz7, hF⟩ := x_bind hF
      obtain ⟨⟨fsz7, hbz7⟩, hzz7⟩ := x_cv_sp hzz7
      refine x_callv (As := [.int p0, .int p1]) (rest := []) 0 0 dX6_isGoneIn_28 mi_X6_value ml_X6_65 rfl rfl (Nat.le_of_ble_eq_true rfl) ⟨by decide, by decide⟩ (by omega) (by omega) hbz7 rfl (c_X6_value N _ _ _ _ _ _ hzz7) (x_K.some ?_) x_KX.none
      refine x_iconst (-1) (by decide) dX6_isGoneIn_31 ?_
      refine x_icmp_ne 39 dX6_isGoneIn_32 (by decide) hF (fun hF => ?_) (fun hF => ?_)
      · refine x_iconst 0 (by decide) dX6_isGoneIn_39 ?_
        exact x_zret dX6_isGoneIn_40 rfl (Or.inl rfl) (by cases hF; rfl)
      · refine x_iconst 1 (by decide) dX6_isGoneIn_35 ?_
        refine x_goto 40 dX6_isGoneIn_36 (by decide) ?_
        exact x_zret dX6_isGoneIn_40 rfl (Or.inr rfl) (by cases hF; rfl)
def F_X6_keep (N : Nat) (f : XM) (this : Nat) (p0 : Int32) : Option XM :=
  (F_X6_in N f p0 0 1).bind fun z1 =>
  if (x_b z1) = 0 then
    (x_puti f 6 this 11 1).bind fun f2 =>
    (x_geti f2 6 this 11).bind fun v3 =>
    if v3 = 0 then
      (x_getr f2 6 this 0).bind fun v4 =>
      (x_getr f2 6 this 3).bind fun v5 =>
      Option.bind v5 fun a6 =>
      Option.bind v4 fun a7 =>
      (F_X6_lays N f2 a7 0 a6 (6696 * p0)).bind fun z8 =>
      (x_getr z8 6 this 4).bind fun v9 =>
      Option.bind v9 fun a10 =>
      (x_ast z8 a10 p0 1).bind fun f11 =>
      some f11
    else
      some f2
  else
    (x_puti f 6 this 11 0).bind fun f12 =>
    (x_geti f12 6 this 11).bind fun v13 =>
    if v13 = 0 then
      (x_getr f12 6 this 0).bind fun v14 =>
      (x_getr f12 6 this 3).bind fun v15 =>
      Option.bind v15 fun a16 =>
      Option.bind v14 fun a17 =>
      (F_X6_lays N f12 a17 0 a16 (6696 * p0)).bind fun z18 =>
      (x_getr z18 6 this 4).bind fun v19 =>
      Option.bind v19 fun a20 =>
      (x_ast z18 a20 p0 1).bind fun f21 =>
      some f21
    else
      some f12
set_option maxRecDepth 20000 in
set_option maxHeartbeats 4000000 in
theorem c_X6_keep (N : Nat) (f : XM) (this : Nat) (p0 : Int32) (n : Nat) (r : XM) (hF : F_X6_keep N f this p0 = some r) : x_Ct mX6_keep 1 24 0 0 [.ref this, .int p0] (f, n) (xr_vm r n) := by
  unfold F_X6_keep at hF
  refine x_ct (by decide) rfl (Nat.le_of_ble_eq_true rfl) ?_
  show X mX6_keep 1 24 _ _ 0 0 0 [(0, .ref this), (1, .int p0)] [] (f, n)
  refine x_aload_n 0 dX6_keep_0 rfl rfl ?_
  refine x_iload_n 1 dX6_keep_1 rfl rfl ?_
  refine x_iconst 0 (by decide) dX6_keep_2 ?_
  refine x_iconst 1 (by decide) dX6_keep_3 ?_
  obtain ⟨z1, hzz1, hF⟩ := x_bind hF
  refine x_calls (As := [.int p0, .int 0, .int 1]) (rest := [.ref this]) 0 0 dX6_keep_4 mi_X6_in rfl ml_X6_50 rfl rfl (Nat.le_of_ble_eq_true rfl) ⟨by decide, by decide⟩ (by omega) (by omega) (c_X6_in N _ _ _ _ _ _ hzz1) (x_K.some ?_) x_KX.none
  refine x_if_eq 14 dX6_keep_7 (by decide) hF (fun hF => ?_) (fun hF => ?_)
  · refine x_iconst 1 (by decide) dX6_keep_14 ?_
    refine x_puti_r dX6_keep_15 fl_X6_38 (fun h9 => by cases h9) hF (fun f2 hF => ?_)
    refine x_aload_n 0 dX6_keep_18 rfl rfl ?_
    refine x_geti_r dX6_keep_19 fl_X6_38 hF (fun v3 hF => ?_)
    refine x_if_ne 49 dX6_keep_22 (by decide) hF (fun hF => ?_) (fun hF => ?_)
    · exact x_vret dX6_keep_49 rfl (by cases hF; rfl)
    · refine x_aload_n 0 dX6_keep_25 rfl rfl ?_
      refine x_getr_r dX6_keep_26 fl_X6_7 hF (fun v4 hF => ?_)
      refine x_iconst 0 (by decide) dX6_keep_29 ?_
      refine x_aload_n 0 dX6_keep_30 rfl rfl ?_
      refine x_getr_r dX6_keep_31 fl_X6_17 hF (fun v5 hF => ?_)
      refine x_sipush 6696 (by decide) dX6_keep_34 ?_
      refine x_iload_n 1 dX6_keep_37 rfl rfl ?_
      refine x_imul dX6_keep_38 ?_
      refine x_nn hF (fun a6 ha6 hF => ?_)
      rw [ha6]
      refine x_nn hF (fun a7 ha7 hF => ?_)
      rw [ha7]
      obtain ⟨z8, hzz8, hF⟩ := x_bind hF
      refine x_calls (As := [.ref a7, .int 0, .ref a6, .int (6696 * p0)]) (rest := []) 0 0 dX6_keep_39 mi_X6_lays rfl ml_X6_46 rfl rfl (Nat.le_of_ble_eq_true rfl) ⟨by decide, by decide⟩ (by omega) (by omega) (c_X6_lays N _ _ _ _ _ _ _ hzz8) (x_K.none ?_) x_KX.none
      refine x_aload_n 0 dX6_keep_42 rfl rfl ?_
      refine x_getr_r dX6_keep_43 fl_X6_20 hF (fun v9 hF => ?_)
      refine x_iload_n 1 dX6_keep_46 rfl rfl ?_
      refine x_iconst 1 (by decide) dX6_keep_47 ?_
      refine x_nn hF (fun a10 ha10 hF => ?_)
      rw [ha10]
      refine x_ast_r dX6_keep_48 hF (fun f11 hF => ?_)
      exact x_vret dX6_keep_49 rfl (by cases hF; rfl)
  · refine x_iconst 0 (by decide) dX6_keep_10 ?_
    refine x_goto 15 dX6_keep_11 (by decide) ?_
    refine x_puti_r dX6_keep_15 fl_X6_38 (fun h9 => by cases h9) hF (fun f12 hF => ?_)
    refine x_aload_n 0 dX6_keep_18 rfl rfl ?_
    refine x_geti_r dX6_keep_19 fl_X6_38 hF (fun v13 hF => ?_)
    refine x_if_ne 49 dX6_keep_22 (by decide) hF (fun hF => ?_) (fun hF => ?_)
    · exact x_vret dX6_keep_49 rfl (by cases hF; rfl)
    · refine x_aload_n 0 dX6_keep_25 rfl rfl ?_
      refine x_getr_r dX6_keep_26 fl_X6_7 hF (fun v14 hF => ?_)
      refine x_iconst 0 (by decide) dX6_keep_29 ?_
      refine x_aload_n 0 dX6_keep_30 rfl rfl ?_
      refine x_getr_r dX6_keep_31 fl_X6_17 hF (fun v15 hF => ?_)
      refine x_sipush 6696 (by decide) dX6_keep_34 ?_
      refine x_iload_n 1 dX6_keep_37 rfl rfl ?_
      refine x_imul dX6_keep_38 ?_
      refine x_nn hF (fun a16 ha16 hF => ?_)
      rw [ha16]
      refine x_nn hF (fun a17 ha17 hF => ?_)
      rw [ha17]
      obtain ⟨z18, hzz18, hF⟩ := x_bind hF
      refine x_calls (As := [.ref a17, .int 0, .ref a16, .int (6696 * p0)]) (rest := []) 0 0 dX6_keep_39 mi_X6_lays rfl ml_X6_46 rfl rfl (Nat.le_of_ble_eq_true rfl) ⟨by decide, by decide⟩ (by omega) (by omega) (c_X6_lays N _ _ _ _ _ _ _ hzz18) (x_K.none ?_) x_KX.none
      refine x_aload_n 0 dX6_keep_42 rfl rfl ?_
      refine x_getr_r dX6_keep_43 fl_X6_20 hF (fun v19 hF => ?_)
      refine x_iload_n 1 dX6_keep_46 rfl rfl ?_
      refine x_iconst 1 (by decide) dX6_keep_47 ?_
      refine x_nn hF (fun a20 ha20 hF => ?_)
      rw [ha20]
      refine x_ast_r dX6_keep_48 hF (fun f21 hF => ?_)
      exact x_vret dX6_keep_49 rfl (by cases hF; rfl)
def F_X6_keyAt (N : Nat) (f : XM) (this : Nat) (p0 : Int32) : Option (Int32 × XM) :=
  (x_cv f 6 this (F_X6_finds N f this)).bind fun z1 =>
  (F_X6_in N z1.2 p0 0 (z1.1 - 1)).bind fun z2 =>
  if (x_b z2) = 0 then
    (x_puti z1.2 6 this 11 1).bind fun f3 =>
    (x_geti f3 6 this 11).bind fun v4 =>
    if v4 ≤ 0 then
      (x_getr f3 6 this 7).bind fun v5 =>
      Option.bind v5 fun a6 =>
      (x_ald f3 a6 (2 * p0)).bind fun v7 =>
      some (v7, f3)
    else
      some (0, f3)
  else
    (x_puti z1.2 6 this 11 0).bind fun f8 =>
    (x_geti f8 6 this 11).bind fun v9 =>
    if v9 ≤ 0 then
      (x_getr f8 6 this 7).bind fun v10 =>
      Option.bind v10 fun a11 =>
      (x_ald f8 a11 (2 * p0)).bind fun v12 =>
      some (v12, f8)
    else
      some (0, f8)
set_option maxRecDepth 20000 in
set_option maxHeartbeats 4000000 in
theorem c_X6_keyAt (N : Nat) (f : XM) (this : Nat) (p0 : Int32) (n : Nat) (r : (Int32 × XM)) (hF : F_X6_keyAt N f this p0 = some r) : x_Ct mX6_keyAt 5 112 0 0 [.ref this, .int p0] (f, n) (xr_im r n) := by
  unfold F_X6_keyAt at hF
  refine x_ct (by decide) rfl (Nat.le_of_ble_eq_true rfl) ?_
  show X mX6_keyAt 5 112 _ _ 0 0 0 [(0, .ref this), (1, .int p0)] [] (f, n)
  refine x_aload_n 0 dX6_keyAt_0 rfl rfl ?_
  refine x_iload_n 1 dX6_keyAt_1 rfl rfl ?_
  refine x_iconst 0 (by decide) dX6_keyAt_2 ?_
  refine x_aload_n 0 dX6_keyAt_3 rfl rfl ?_
  obtain ⟨z1, hzz1, hF⟩ := x_bind hF
  obtain ⟨⟨fsz1, hbz1⟩, hzz1⟩ := x_cv_sp hzz1
  refine x_callv (As := []) (rest := [.int 0, .int p0, .ref this]) 0 0 dX6_keyAt_4 mi_X6_finds ml_X6_113 rfl rfl (Nat.le_of_ble_eq_true rfl) ⟨by decide, by decide⟩ (by omega) (by omega) hbz1 rfl (c_X6_finds N _ _ _ _ hzz1) (x_K.some ?_) x_KX.none
  refine x_iconst 1 (by decide) dX6_keyAt_7 ?_
  refine x_isub dX6_keyAt_8 ?_
  obtain ⟨z2, hzz2, hF⟩ := x_bind hF
  refine x_calls (As := [.int p0, .int 0, .int (z1.1 - 1)]) (rest := [.ref this]) 0 0 dX6_keyAt_9 mi_X6_in rfl ml_X6_50 rfl rfl (Nat.le_of_ble_eq_true rfl) ⟨by decide, by decide⟩ (by omega) (by omega) (c_X6_in N _ _ _ _ _ _ hzz2) (x_K.some ?_) x_KX.none
  refine x_if_eq 19 dX6_keyAt_12 (by decide) hF (fun hF => ?_) (fun hF => ?_)
  · refine x_iconst 1 (by decide) dX6_keyAt_19 ?_
    refine x_puti_r dX6_keyAt_20 fl_X6_38 (fun h9 => by cases h9) hF (fun f3 hF => ?_)
    refine x_aload_n 0 dX6_keyAt_23 rfl rfl ?_
    refine x_geti_r dX6_keyAt_24 fl_X6_38 hF (fun v4 hF => ?_)
    refine x_if_le 34 dX6_keyAt_27 (by decide) hF (fun hF => ?_) (fun hF => ?_)
    · refine x_aload_n 0 dX6_keyAt_34 rfl rfl ?_
      refine x_getr_r dX6_keyAt_35 fl_X6_29 hF (fun v5 hF => ?_)
      refine x_iconst 2 (by decide) dX6_keyAt_38 ?_
      refine x_iload_n 1 dX6_keyAt_39 rfl rfl ?_
      refine x_imul dX6_keyAt_40 ?_
      refine x_nn hF (fun a6 ha6 hF => ?_)
      rw [ha6]
      refine x_ald_r dX6_keyAt_41 hF (fun v7 hF => ?_)
      exact x_iret dX6_keyAt_42 rfl (by cases hF; rfl)
    · refine x_iconst 0 (by decide) dX6_keyAt_30 ?_
      refine x_goto 42 dX6_keyAt_31 (by decide) ?_
      exact x_iret dX6_keyAt_42 rfl (by cases hF; rfl)
  · refine x_iconst 0 (by decide) dX6_keyAt_15 ?_
    refine x_goto 20 dX6_keyAt_16 (by decide) ?_
    refine x_puti_r dX6_keyAt_20 fl_X6_38 (fun h9 => by cases h9) hF (fun f8 hF => ?_)
    refine x_aload_n 0 dX6_keyAt_23 rfl rfl ?_
    refine x_geti_r dX6_keyAt_24 fl_X6_38 hF (fun v9 hF => ?_)
    refine x_if_le 34 dX6_keyAt_27 (by decide) hF (fun hF => ?_) (fun hF => ?_)
    · refine x_aload_n 0 dX6_keyAt_34 rfl rfl ?_
      refine x_getr_r dX6_keyAt_35 fl_X6_29 hF (fun v10 hF => ?_)
      refine x_iconst 2 (by decide) dX6_keyAt_38 ?_
      refine x_iload_n 1 dX6_keyAt_39 rfl rfl ?_
      refine x_imul dX6_keyAt_40 ?_
      refine x_nn hF (fun a11 ha11 hF => ?_)
      rw [ha11]
      refine x_ald_r dX6_keyAt_41 hF (fun v12 hF => ?_)
      exact x_iret dX6_keyAt_42 rfl (by cases hF; rfl)
    · refine x_iconst 0 (by decide) dX6_keyAt_30 ?_
      refine x_goto 42 dX6_keyAt_31 (by decide) ?_
      exact x_iret dX6_keyAt_42 rfl (by cases hF; rfl)
def F_X6_keyBeside (N : Nat) (f : XM) (this : Nat) (p0 : Int32) (p1 : Bool) : Option (Int32 × XM) :=
  (F_X6_isKey N f p0).bind fun z1 =>
  if (x_b z1) = 0 then
    (x_puti f 6 this 11 1).bind fun f15 =>
    (x_geti f15 6 this 11).bind fun v16 =>
    if v16 ≤ 0 then
      (x_getr f15 6 this 7).bind fun v17 =>
      (x_cv f15 6 this (F_X6_beside N f15 this p0 p1)).bind fun z18 =>
      Option.bind v17 fun a19 =>
      (x_ald z18.2 a19 (2 * z18.1)).bind fun v20 =>
      some (v20, z18.2)
    else
      some (0, f15)
  else
    (x_cv f 6 this (F_X6_beside N f this p0 p1)).bind fun z2 =>
    if z2.1 = (-1) then
      (x_puti z2.2 6 this 11 2).bind fun f9 =>
      (x_geti f9 6 this 11).bind fun v10 =>
      if v10 ≤ 0 then
        (x_getr f9 6 this 7).bind fun v11 =>
        (x_cv f9 6 this (F_X6_beside N f9 this p0 p1)).bind fun z12 =>
        Option.bind v11 fun a13 =>
        (x_ald z12.2 a13 (2 * z12.1)).bind fun v14 =>
        some (v14, z12.2)
      else
        some (0, f9)
    else
      (x_puti z2.2 6 this 11 0).bind fun f3 =>
      (x_geti f3 6 this 11).bind fun v4 =>
      if v4 ≤ 0 then
        (x_getr f3 6 this 7).bind fun v5 =>
        (x_cv f3 6 this (F_X6_beside N f3 this p0 p1)).bind fun z6 =>
        Option.bind v5 fun a7 =>
        (x_ald z6.2 a7 (2 * z6.1)).bind fun v8 =>
        some (v8, z6.2)
      else
        some (0, f3)
set_option maxRecDepth 20000 in
set_option maxHeartbeats 4000000 in
theorem c_X6_keyBeside (N : Nat) (f : XM) (this : Nat) (p0 : Int32) (p1 : Bool) (n : Nat) (r : (Int32 × XM)) (hF : F_X6_keyBeside N f this p0 p1 = some r) : x_Ct mX6_keyBeside 6 136 0 0 [.ref this, .int p0, .int (x_b p1)] (f, n) (xr_im r n) := by
  unfold F_X6_keyBeside at hF
  refine x_ct (by decide) rfl (Nat.le_of_ble_eq_true rfl) ?_
  show X mX6_keyBeside 6 136 _ _ 0 0 0 [(0, .ref this), (1, .int p0), (2, .int (x_b p1))] [] (f, n)
  refine x_aload_n 0 dX6_keyBeside_0 rfl rfl ?_
  refine x_iload_n 1 dX6_keyBeside_1 rfl rfl ?_
  obtain ⟨z1, hzz1, hF⟩ := x_bind hF
  refine x_calls (As := [.int p0]) (rest := [.ref this]) 0 0 dX6_keyBeside_2 mi_X6_isKey rfl ml_X6_129 rfl rfl (Nat.le_of_ble_eq_true rfl) ⟨by decide, by decide⟩ (by omega) (by omega) (c_X6_isKey N _ _ _ _ hzz1) (x_K.some ?_) x_KX.none
  refine x_if_ne 12 dX6_keyBeside_5 (by decide) hF (fun hF => ?_) (fun hF => ?_)
  · refine x_aload_n 0 dX6_keyBeside_12 rfl rfl ?_
    refine x_iload_n 1 dX6_keyBeside_13 rfl rfl ?_
    refine x_iload_n 2 dX6_keyBeside_14 rfl rfl ?_
    obtain ⟨z2, hzz2, hF⟩ := x_bind hF
    obtain ⟨⟨fsz2, hbz2⟩, hzz2⟩ := x_cv_sp hzz2
    refine x_callv (As := [.int p0, .int (x_b p1)]) (rest := [.ref this]) 0 0 dX6_keyBeside_15 mi_X6_beside ml_X6_230 rfl rfl (Nat.le_of_ble_eq_true rfl) ⟨by decide, by decide⟩ (by omega) (by omega) hbz2 rfl (c_X6_beside N _ _ _ _ _ _ hzz2) (x_K.some ?_) x_KX.none
    refine x_iconst (-1) (by decide) dX6_keyBeside_18 ?_
    refine x_icmp_ne 26 dX6_keyBeside_19 (by decide) hF (fun hF => ?_) (fun hF => ?_)
    · refine x_iconst 0 (by decide) dX6_keyBeside_26 ?_
      refine x_puti_r dX6_keyBeside_27 fl_X6_38 (fun h9 => by cases h9) hF (fun f3 hF => ?_)
      refine x_aload_n 0 dX6_keyBeside_30 rfl rfl ?_
      refine x_geti_r dX6_keyBeside_31 fl_X6_38 hF (fun v4 hF => ?_)
      refine x_if_le 41 dX6_keyBeside_34 (by decide) hF (fun hF => ?_) (fun hF => ?_)
      · refine x_aload_n 0 dX6_keyBeside_41 rfl rfl ?_
        refine x_getr_r dX6_keyBeside_42 fl_X6_29 hF (fun v5 hF => ?_)
        refine x_iconst 2 (by decide) dX6_keyBeside_45 ?_
        refine x_aload_n 0 dX6_keyBeside_46 rfl rfl ?_
        refine x_iload_n 1 dX6_keyBeside_47 rfl rfl ?_
        refine x_iload_n 2 dX6_keyBeside_48 rfl rfl ?_
        obtain ⟨z6, hzz6, hF⟩ := x_bind hF
        obtain ⟨⟨fsz6, hbz6⟩, hzz6⟩ := x_cv_sp hzz6
        refine x_callv (As := [.int p0, .int (x_b p1)]) (rest := [.int 2, va_rf v5]) 0 0 dX6_keyBeside_49 mi_X6_beside ml_X6_230 rfl rfl (by simp only [List.map_cons, List.map_nil, x_rfc]; exact Nat.le_of_ble_eq_true rfl) ⟨by decide, by decide⟩ (by omega) (by omega) hbz6 rfl (c_X6_beside N _ _ _ _ _ _ hzz6) (x_K.some ?_) x_KX.none
        refine x_imul dX6_keyBeside_52 ?_
        refine x_nn hF (fun a7 ha7 hF => ?_)
        rw [ha7]
        refine x_ald_r dX6_keyBeside_53 hF (fun v8 hF => ?_)
        exact x_iret dX6_keyBeside_54 rfl (by cases hF; rfl)
      · refine x_iconst 0 (by decide) dX6_keyBeside_37 ?_
        refine x_goto 54 dX6_keyBeside_38 (by decide) ?_
        exact x_iret dX6_keyBeside_54 rfl (by cases hF; rfl)
    · refine x_iconst 2 (by decide) dX6_keyBeside_22 ?_
      refine x_goto 27 dX6_keyBeside_23 (by decide) ?_
      refine x_puti_r dX6_keyBeside_27 fl_X6_38 (fun h9 => by cases h9) hF (fun f9 hF => ?_)
      refine x_aload_n 0 dX6_keyBeside_30 rfl rfl ?_
      refine x_geti_r dX6_keyBeside_31 fl_X6_38 hF (fun v10 hF => ?_)
      refine x_if_le 41 dX6_keyBeside_34 (by decide) hF (fun hF => ?_) (fun hF => ?_)
      · refine x_aload_n 0 dX6_keyBeside_41 rfl rfl ?_
        refine x_getr_r dX6_keyBeside_42 fl_X6_29 hF (fun v11 hF => ?_)
        refine x_iconst 2 (by decide) dX6_keyBeside_45 ?_
        refine x_aload_n 0 dX6_keyBeside_46 rfl rfl ?_
        refine x_iload_n 1 dX6_keyBeside_47 rfl rfl ?_
        refine x_iload_n 2 dX6_keyBeside_48 rfl rfl ?_
        obtain ⟨z12, hzz12, hF⟩ := x_bind hF
        obtain ⟨⟨fsz12, hbz12⟩, hzz12⟩ := x_cv_sp hzz12
        refine x_callv (As := [.int p0, .int (x_b p1)]) (rest := [.int 2, va_rf v11]) 0 0 dX6_keyBeside_49 mi_X6_beside ml_X6_230 rfl rfl (by simp only [List.map_cons, List.map_nil, x_rfc]; exact Nat.le_of_ble_eq_true rfl) ⟨by decide, by decide⟩ (by omega) (by omega) hbz12 rfl (c_X6_beside N _ _ _ _ _ _ hzz12) (x_K.some ?_) x_KX.none
        refine x_imul dX6_keyBeside_52 ?_
        refine x_nn hF (fun a13 ha13 hF => ?_)
        rw [ha13]
        refine x_ald_r dX6_keyBeside_53 hF (fun v14 hF => ?_)
        exact x_iret dX6_keyBeside_54 rfl (by cases hF; rfl)
      · refine x_iconst 0 (by decide) dX6_keyBeside_37 ?_
        refine x_goto 54 dX6_keyBeside_38 (by decide) ?_
        exact x_iret dX6_keyBeside_54 rfl (by cases hF; rfl)
  · refine x_iconst 1 (by decide) dX6_keyBeside_8 ?_
    refine x_goto 27 dX6_keyBeside_9 (by decide) ?_
    refine x_puti_r dX6_keyBeside_27 fl_X6_38 (fun h9 => by cases h9) hF (fun f15 hF => ?_)
    refine x_aload_n 0 dX6_keyBeside_30 rfl rfl ?_
    refine x_geti_r dX6_keyBeside_31 fl_X6_38 hF (fun v16 hF => ?_)
    refine x_if_le 41 dX6_keyBeside_34 (by decide) hF (fun hF => ?_) (fun hF => ?_)
    · refine x_aload_n 0 dX6_keyBeside_41 rfl rfl ?_
      refine x_getr_r dX6_keyBeside_42 fl_X6_29 hF (fun v17 hF => ?_)
      refine x_iconst 2 (by decide) dX6_keyBeside_45 ?_
      refine x_aload_n 0 dX6_keyBeside_46 rfl rfl ?_
      refine x_iload_n 1 dX6_keyBeside_47 rfl rfl ?_
      refine x_iload_n 2 dX6_keyBeside_48 rfl rfl ?_
      obtain ⟨z18, hzz18, hF⟩ := x_bind hF
      obtain ⟨⟨fsz18, hbz18⟩, hzz18⟩ := x_cv_sp hzz18
      refine x_callv (As := [.int p0, .int (x_b p1)]) (rest := [.int 2, va_rf v17]) 0 0 dX6_keyBeside_49 mi_X6_beside ml_X6_230 rfl rfl (by simp only [List.map_cons, List.map_nil, x_rfc]; exact Nat.le_of_ble_eq_true rfl) ⟨by decide, by decide⟩ (by omega) (by omega) hbz18 rfl (c_X6_beside N _ _ _ _ _ _ hzz18) (x_K.some ?_) x_KX.none
      refine x_imul dX6_keyBeside_52 ?_
      refine x_nn hF (fun a19 ha19 hF => ?_)
      rw [ha19]
      refine x_ald_r dX6_keyBeside_53 hF (fun v20 hF => ?_)
      exact x_iret dX6_keyBeside_54 rfl (by cases hF; rfl)
    · refine x_iconst 0 (by decide) dX6_keyBeside_37 ?_
      refine x_goto 54 dX6_keyBeside_38 (by decide) ?_
      exact x_iret dX6_keyBeside_54 rfl (by cases hF; rfl)
def F_X6_keyBefore (N : Nat) (f : XM) (this : Nat) (p0 : Int32) : Option (Int32 × XM) :=
  (x_cv f 6 this (F_X6_keyBeside N f this p0 false)).bind fun z1 =>
  some (z1.1, z1.2)
set_option maxRecDepth 20000 in
set_option maxHeartbeats 4000000 in
theorem c_X6_keyBefore (N : Nat) (f : XM) (this : Nat) (p0 : Int32) (n : Nat) (r : (Int32 × XM)) (hF : F_X6_keyBefore N f this p0 = some r) : x_Ct mX6_keyBefore 7 158 0 0 [.ref this, .int p0] (f, n) (xr_im r n) := by
  unfold F_X6_keyBefore at hF
  refine x_ct (by decide) rfl (Nat.le_of_ble_eq_true rfl) ?_
  show X mX6_keyBefore 7 158 _ _ 0 0 0 [(0, .ref this), (1, .int p0)] [] (f, n)
  refine x_aload_n 0 dX6_keyBefore_0 rfl rfl ?_
  refine x_iload_n 1 dX6_keyBefore_1 rfl rfl ?_
  refine x_iconst 0 (by decide) dX6_keyBefore_2 ?_
  obtain ⟨z1, hzz1, hF⟩ := x_bind hF
  obtain ⟨⟨fsz1, hbz1⟩, hzz1⟩ := x_cv_sp hzz1
  refine x_callv (As := [.int p0, .int (x_b false)]) (rest := []) 0 0 dX6_keyBefore_3 mi_X6_keyBeside ml_X6_234 rfl rfl (Nat.le_of_ble_eq_true rfl) ⟨by decide, by decide⟩ (by omega) (by omega) hbz1 rfl (c_X6_keyBeside N _ _ _ _ _ _ hzz1) (x_K.some ?_) x_KX.none
  exact x_iret dX6_keyBefore_6 rfl (by cases hF; rfl)
def F_X6_keyIn (N : Nat) (f : XM) (this : Nat) (p0 : Int32) (p1 : Int32) : Option (Int32 × XM) :=
  (x_cv f 6 this (F_X6_isPlace N f this p0 p1)).bind fun z1 =>
  if (x_b z1) = 0 then
    (x_puti f 6 this 11 1).bind fun f2 =>
    (x_geti f2 6 this 11).bind fun v3 =>
    if v3 ≤ 0 then
      (x_cv f2 6 this (F_X6_key N f2 this p0 p1)).bind fun z4 =>
      some (z4, f2)
    else
      some (0, f2)
  else
    (x_puti f 6 this 11 0).bind fun f5 =>
    (x_geti f5 6 this 11).bind fun v6 =>
    if v6 ≤ 0 then
      (x_cv f5 6 this (F_X6_key N f5 this p0 p1)).bind fun z7 =>
      some (z7, f5)
    else
      some (0, f5)
set_option maxRecDepth 20000 in
set_option maxHeartbeats 4000000 in
theorem c_X6_keyIn (N : Nat) (f : XM) (this : Nat) (p0 : Int32) (p1 : Int32) (n : Nat) (r : (Int32 × XM)) (hF : F_X6_keyIn N f this p0 p1 = some r) : x_Ct mX6_keyIn 3 65 0 0 [.ref this, .int p0, .int p1] (f, n) (xr_im r n) := by
  unfold F_X6_keyIn at hF
  refine x_ct (by decide) rfl (Nat.le_of_ble_eq_true rfl) ?_
  show X mX6_keyIn 3 65 _ _ 0 0 0 [(0, .ref this), (1, .int p0), (2, .int p1)] [] (f, n)
  refine x_aload_n 0 dX6_keyIn_0 rfl rfl ?_
  refine x_aload_n 0 dX6_keyIn_1 rfl rfl ?_
  refine x_iload_n 1 dX6_keyIn_2 rfl rfl ?_
  refine x_iload_n 2 dX6_keyIn_3 rfl rfl ?_
  obtain ⟨z1, hzz1, hF⟩ := x_bind hF
  obtain ⟨⟨fsz1, hbz1⟩, hzz1⟩ := x_cv_sp hzz1
  refine x_callv (As := [.int p0, .int p1]) (rest := [.ref this]) 0 0 dX6_keyIn_4 mi_X6_isPlace ml_X6_240 rfl rfl (Nat.le_of_ble_eq_true rfl) ⟨by decide, by decide⟩ (by omega) (by omega) hbz1 rfl (c_X6_isPlace N _ _ _ _ _ _ hzz1) (x_K.some ?_) x_KX.none
  refine x_if_eq 14 dX6_keyIn_7 (by decide) hF (fun hF => ?_) (fun hF => ?_)
  · refine x_iconst 1 (by decide) dX6_keyIn_14 ?_
    refine x_puti_r dX6_keyIn_15 fl_X6_38 (fun h9 => by cases h9) hF (fun f2 hF => ?_)
    refine x_aload_n 0 dX6_keyIn_18 rfl rfl ?_
    refine x_geti_r dX6_keyIn_19 fl_X6_38 hF (fun v3 hF => ?_)
    refine x_if_le 29 dX6_keyIn_22 (by decide) hF (fun hF => ?_) (fun hF => ?_)
    · refine x_aload_n 0 dX6_keyIn_29 rfl rfl ?_
      refine x_iload_n 1 dX6_keyIn_30 rfl rfl ?_
      refine x_iload_n 2 dX6_keyIn_31 rfl rfl ?_
      obtain ⟨z4, hzz4, hF⟩ := x_bind hF
      obtain ⟨⟨fsz4, hbz4⟩, hzz4⟩ := x_cv_sp hzz4
      refine x_callv (As := [.int p0, .int p1]) (rest := []) 0 0 dX6_keyIn_32 mi_X6_key ml_X6_58 rfl rfl (Nat.le_of_ble_eq_true rfl) ⟨by decide, by decide⟩ (by omega) (by omega) hbz4 rfl (c_X6_key N _ _ _ _ _ _ hzz4) (x_K.some ?_) x_KX.none
      exact x_iret dX6_keyIn_35 rfl (by cases hF; rfl)
    · refine x_iconst 0 (by decide) dX6_keyIn_25 ?_
      refine x_goto 35 dX6_keyIn_26 (by decide) ?_
      exact x_iret dX6_keyIn_35 rfl (by cases hF; rfl)
  · refine x_iconst 0 (by decide) dX6_keyIn_10 ?_
    refine x_goto 15 dX6_keyIn_11 (by decide) ?_
    refine x_puti_r dX6_keyIn_15 fl_X6_38 (fun h9 => by cases h9) hF (fun f5 hF => ?_)
    refine x_aload_n 0 dX6_keyIn_18 rfl rfl ?_
    refine x_geti_r dX6_keyIn_19 fl_X6_38 hF (fun v6 hF => ?_)
    refine x_if_le 29 dX6_keyIn_22 (by decide) hF (fun hF => ?_) (fun hF => ?_)
    · refine x_aload_n 0 dX6_keyIn_29 rfl rfl ?_
      refine x_iload_n 1 dX6_keyIn_30 rfl rfl ?_
      refine x_iload_n 2 dX6_keyIn_31 rfl rfl ?_
      obtain ⟨z7, hzz7, hF⟩ := x_bind hF
      obtain ⟨⟨fsz7, hbz7⟩, hzz7⟩ := x_cv_sp hzz7
      refine x_callv (As := [.int p0, .int p1]) (rest := []) 0 0 dX6_keyIn_32 mi_X6_key ml_X6_58 rfl rfl (Nat.le_of_ble_eq_true rfl) ⟨by decide, by decide⟩ (by omega) (by omega) hbz7 rfl (c_X6_key N _ _ _ _ _ _ hzz7) (x_K.some ?_) x_KX.none
      exact x_iret dX6_keyIn_35 rfl (by cases hF; rfl)
    · refine x_iconst 0 (by decide) dX6_keyIn_25 ?_
      refine x_goto 35 dX6_keyIn_26 (by decide) ?_
      exact x_iret dX6_keyIn_35 rfl (by cases hF; rfl)
def F_X6_leafFor (N : Nat) (f : XM) (this : Nat) (p0 : Int32) : Option (Int32 × XM) :=
  (F_X6_isKey N f p0).bind fun z1 =>
  if (x_b z1) = 0 then
    (x_puti f 6 this 11 1).bind fun f11 =>
    (x_geti f11 6 this 11).bind fun v12 =>
    if v12 ≤ 0 then
      (x_cv f11 6 this (F_X6_leafOf N f11 this p0)).bind fun z13 =>
      some (z13, f11)
    else
      some (0, f11)
  else
    (x_getr f 6 this 0).bind fun v2 =>
    Option.bind v2 fun a3 =>
    (x_ald f a3 8).bind fun v4 =>
    if v4 = 0 then
      (x_puti f 6 this 11 2).bind fun f8 =>
      (x_geti f8 6 this 11).bind fun v9 =>
      if v9 ≤ 0 then
        (x_cv f8 6 this (F_X6_leafOf N f8 this p0)).bind fun z10 =>
        some (z10, f8)
      else
        some (0, f8)
    else
      (x_puti f 6 this 11 0).bind fun f5 =>
      (x_geti f5 6 this 11).bind fun v6 =>
      if v6 ≤ 0 then
        (x_cv f5 6 this (F_X6_leafOf N f5 this p0)).bind fun z7 =>
        some (z7, f5)
      else
        some (0, f5)
set_option maxRecDepth 20000 in
set_option maxHeartbeats 4000000 in
theorem c_X6_leafFor (N : Nat) (f : XM) (this : Nat) (p0 : Int32) (n : Nat) (r : (Int32 × XM)) (hF : F_X6_leafFor N f this p0 = some r) : x_Ct mX6_leafFor 2 46 0 0 [.ref this, .int p0] (f, n) (xr_im r n) := by
  unfold F_X6_leafFor at hF
  refine x_ct (by decide) rfl (Nat.le_of_ble_eq_true rfl) ?_
  show X mX6_leafFor 2 46 _ _ 0 0 0 [(0, .ref this), (1, .int p0)] [] (f, n)
  refine x_aload_n 0 dX6_leafFor_0 rfl rfl ?_
  refine x_iload_n 1 dX6_leafFor_1 rfl rfl ?_
  obtain ⟨z1, hzz1, hF⟩ := x_bind hF
  refine x_calls (As := [.int p0]) (rest := [.ref this]) 0 0 dX6_leafFor_2 mi_X6_isKey rfl ml_X6_129 rfl rfl (Nat.le_of_ble_eq_true rfl) ⟨by decide, by decide⟩ (by omega) (by omega) (c_X6_isKey N _ _ _ _ hzz1) (x_K.some ?_) x_KX.none
  refine x_if_ne 12 dX6_leafFor_5 (by decide) hF (fun hF => ?_) (fun hF => ?_)
  · refine x_aload_n 0 dX6_leafFor_12 rfl rfl ?_
    refine x_getr_r dX6_leafFor_13 fl_X6_7 hF (fun v2 hF => ?_)
    refine x_bipush 8 (by decide) dX6_leafFor_16 ?_
    refine x_nn hF (fun a3 ha3 hF => ?_)
    rw [ha3]
    refine x_ald_r dX6_leafFor_18 hF (fun v4 hF => ?_)
    refine x_if_ne 26 dX6_leafFor_19 (by decide) hF (fun hF => ?_) (fun hF => ?_)
    · refine x_iconst 0 (by decide) dX6_leafFor_26 ?_
      refine x_puti_r dX6_leafFor_27 fl_X6_38 (fun h9 => by cases h9) hF (fun f5 hF => ?_)
      refine x_aload_n 0 dX6_leafFor_30 rfl rfl ?_
      refine x_geti_r dX6_leafFor_31 fl_X6_38 hF (fun v6 hF => ?_)
      refine x_if_le 41 dX6_leafFor_34 (by decide) hF (fun hF => ?_) (fun hF => ?_)
      · refine x_aload_n 0 dX6_leafFor_41 rfl rfl ?_
        refine x_iload_n 1 dX6_leafFor_42 rfl rfl ?_
        obtain ⟨z7, hzz7, hF⟩ := x_bind hF
        obtain ⟨⟨fsz7, hbz7⟩, hzz7⟩ := x_cv_sp hzz7
        refine x_callv (As := [.int p0]) (rest := []) 0 0 dX6_leafFor_43 mi_X6_leafOf ml_X6_95 rfl rfl (Nat.le_of_ble_eq_true rfl) ⟨by decide, by decide⟩ (by omega) (by omega) hbz7 rfl (c_X6_leafOf N _ _ _ _ _ hzz7) (x_K.some ?_) x_KX.none
        exact x_iret dX6_leafFor_46 rfl (by cases hF; rfl)
      · refine x_iconst 0 (by decide) dX6_leafFor_37 ?_
        refine x_goto 46 dX6_leafFor_38 (by decide) ?_
        exact x_iret dX6_leafFor_46 rfl (by cases hF; rfl)
    · refine x_iconst 2 (by decide) dX6_leafFor_22 ?_
      refine x_goto 27 dX6_leafFor_23 (by decide) ?_
      refine x_puti_r dX6_leafFor_27 fl_X6_38 (fun h9 => by cases h9) hF (fun f8 hF => ?_)
      refine x_aload_n 0 dX6_leafFor_30 rfl rfl ?_
      refine x_geti_r dX6_leafFor_31 fl_X6_38 hF (fun v9 hF => ?_)
      refine x_if_le 41 dX6_leafFor_34 (by decide) hF (fun hF => ?_) (fun hF => ?_)
      · refine x_aload_n 0 dX6_leafFor_41 rfl rfl ?_
        refine x_iload_n 1 dX6_leafFor_42 rfl rfl ?_
        obtain ⟨z10, hzz10, hF⟩ := x_bind hF
        obtain ⟨⟨fsz10, hbz10⟩, hzz10⟩ := x_cv_sp hzz10
        refine x_callv (As := [.int p0]) (rest := []) 0 0 dX6_leafFor_43 mi_X6_leafOf ml_X6_95 rfl rfl (Nat.le_of_ble_eq_true rfl) ⟨by decide, by decide⟩ (by omega) (by omega) hbz10 rfl (c_X6_leafOf N _ _ _ _ _ hzz10) (x_K.some ?_) x_KX.none
        exact x_iret dX6_leafFor_46 rfl (by cases hF; rfl)
      · refine x_iconst 0 (by decide) dX6_leafFor_37 ?_
        refine x_goto 46 dX6_leafFor_38 (by decide) ?_
        exact x_iret dX6_leafFor_46 rfl (by cases hF; rfl)
  · refine x_iconst 1 (by decide) dX6_leafFor_8 ?_
    refine x_goto 27 dX6_leafFor_9 (by decide) ?_
    refine x_puti_r dX6_leafFor_27 fl_X6_38 (fun h9 => by cases h9) hF (fun f11 hF => ?_)
    refine x_aload_n 0 dX6_leafFor_30 rfl rfl ?_
    refine x_geti_r dX6_leafFor_31 fl_X6_38 hF (fun v12 hF => ?_)
    refine x_if_le 41 dX6_leafFor_34 (by decide) hF (fun hF => ?_) (fun hF => ?_)
    · refine x_aload_n 0 dX6_leafFor_41 rfl rfl ?_
      refine x_iload_n 1 dX6_leafFor_42 rfl rfl ?_
      obtain ⟨z13, hzz13, hF⟩ := x_bind hF
      obtain ⟨⟨fsz13, hbz13⟩, hzz13⟩ := x_cv_sp hzz13
      refine x_callv (As := [.int p0]) (rest := []) 0 0 dX6_leafFor_43 mi_X6_leafOf ml_X6_95 rfl rfl (Nat.le_of_ble_eq_true rfl) ⟨by decide, by decide⟩ (by omega) (by omega) hbz13 rfl (c_X6_leafOf N _ _ _ _ _ hzz13) (x_K.some ?_) x_KX.none
      exact x_iret dX6_leafFor_46 rfl (by cases hF; rfl)
    · refine x_iconst 0 (by decide) dX6_leafFor_37 ?_
      refine x_goto 46 dX6_leafFor_38 (by decide) ?_
      exact x_iret dX6_leafFor_46 rfl (by cases hF; rfl)
def F_X6_leafKey (N : Nat) (f : XM) (this : Nat) (p0 : Int32) (p1 : Int32) : Option (Int32 × XM) :=
  (x_cv f 6 this (F_X6_isLeaf N f this p0)).bind fun z1 =>
  if (x_b z1) = 0 then
    (x_puti f 6 this 11 1).bind fun f2 =>
    (x_geti f2 6 this 11).bind fun v3 =>
    if v3 ≤ 0 then
      (x_cv f2 6 this (F_X6_entryAt N f2 this p0 p1)).bind fun z4 =>
      (x_cv f2 6 this (F_X6_entry N f2 this z4 0)).bind fun z5 =>
      some (z5, f2)
    else
      some (0, f2)
  else
    (x_cv f 6 this (F_X6_entryAt N f this p0 p1)).bind fun z6 =>
    if z6 = (-1) then
      (x_puti f 6 this 11 1).bind fun f7 =>
      (x_geti f7 6 this 11).bind fun v8 =>
      if v8 ≤ 0 then
        (x_cv f7 6 this (F_X6_entryAt N f7 this p0 p1)).bind fun z9 =>
        (x_cv f7 6 this (F_X6_entry N f7 this z9 0)).bind fun z10 =>
        some (z10, f7)
      else
        some (0, f7)
    else
      (x_puti f 6 this 11 0).bind fun f11 =>
      (x_geti f11 6 this 11).bind fun v12 =>
      if v12 ≤ 0 then
        (x_cv f11 6 this (F_X6_entryAt N f11 this p0 p1)).bind fun z13 =>
        (x_cv f11 6 this (F_X6_entry N f11 this z13 0)).bind fun z14 =>
        some (z14, f11)
      else
        some (0, f11)
set_option maxRecDepth 20000 in
set_option maxHeartbeats 4000000 in
theorem c_X6_leafKey (N : Nat) (f : XM) (this : Nat) (p0 : Int32) (p1 : Int32) (n : Nat) (r : (Int32 × XM)) (hF : F_X6_leafKey N f this p0 p1 = some r) : x_Ct mX6_leafKey 2 48 0 0 [.ref this, .int p0, .int p1] (f, n) (xr_im r n) := by
  unfold F_X6_leafKey at hF
  refine x_ct (by decide) rfl (Nat.le_of_ble_eq_true rfl) ?_
  show X mX6_leafKey 2 48 _ _ 0 0 0 [(0, .ref this), (1, .int p0), (2, .int p1)] [] (f, n)
  refine x_aload_n 0 dX6_leafKey_0 rfl rfl ?_
  refine x_aload_n 0 dX6_leafKey_1 rfl rfl ?_
  refine x_iload_n 1 dX6_leafKey_2 rfl rfl ?_
  obtain ⟨z1, hzz1, hF⟩ := x_bind hF
  obtain ⟨⟨fsz1, hbz1⟩, hzz1⟩ := x_cv_sp hzz1
  refine x_callv (As := [.int p0]) (rest := [.ref this]) 0 0 dX6_leafKey_3 mi_X6_isLeaf ml_X6_243 rfl rfl (Nat.le_of_ble_eq_true rfl) ⟨by decide, by decide⟩ (by omega) (by omega) hbz1 rfl (c_X6_isLeaf N _ _ _ _ _ hzz1) (x_K.some ?_) x_KX.none
  refine x_if_eq 23 dX6_leafKey_6 (by decide) hF (fun hF => ?_) (fun hF => ?_)
  · refine x_iconst 1 (by decide) dX6_leafKey_23 ?_
    refine x_puti_r dX6_leafKey_24 fl_X6_38 (fun h9 => by cases h9) hF (fun f2 hF => ?_)
    refine x_aload_n 0 dX6_leafKey_27 rfl rfl ?_
    refine x_geti_r dX6_leafKey_28 fl_X6_38 hF (fun v3 hF => ?_)
    refine x_if_le 38 dX6_leafKey_31 (by decide) hF (fun hF => ?_) (fun hF => ?_)
    · refine x_aload_n 0 dX6_leafKey_38 rfl rfl ?_
      refine x_aload_n 0 dX6_leafKey_39 rfl rfl ?_
      refine x_iload_n 1 dX6_leafKey_40 rfl rfl ?_
      refine x_iload_n 2 dX6_leafKey_41 rfl rfl ?_
      obtain ⟨z4, hzz4, hF⟩ := x_bind hF
      obtain ⟨⟨fsz4, hbz4⟩, hzz4⟩ := x_cv_sp hzz4
      refine x_callv (As := [.int p0, .int p1]) (rest := [.ref this]) 0 0 dX6_leafKey_42 mi_X6_entryAt ml_X6_246 rfl rfl (Nat.le_of_ble_eq_true rfl) ⟨by decide, by decide⟩ (by omega) (by omega) hbz4 rfl (c_X6_entryAt N _ _ _ _ _ _ hzz4) (x_K.some ?_) x_KX.none
      refine x_iconst 0 (by decide) dX6_leafKey_45 ?_
      obtain ⟨z5, hzz5, hF⟩ := x_bind hF
      obtain ⟨⟨fsz5, hbz5⟩, hzz5⟩ := x_cv_sp hzz5
      refine x_callv (As := [.int z4, .int 0]) (rest := []) 0 0 dX6_leafKey_46 mi_X6_entry ml_X6_72 rfl rfl (Nat.le_of_ble_eq_true rfl) ⟨by decide, by decide⟩ (by omega) (by omega) hbz5 rfl (c_X6_entry N _ _ _ _ _ _ hzz5) (x_K.some ?_) x_KX.none
      exact x_iret dX6_leafKey_49 rfl (by cases hF; rfl)
    · refine x_iconst 0 (by decide) dX6_leafKey_34 ?_
      refine x_goto 49 dX6_leafKey_35 (by decide) ?_
      exact x_iret dX6_leafKey_49 rfl (by cases hF; rfl)
  · refine x_aload_n 0 dX6_leafKey_9 rfl rfl ?_
    refine x_iload_n 1 dX6_leafKey_10 rfl rfl ?_
    refine x_iload_n 2 dX6_leafKey_11 rfl rfl ?_
    obtain ⟨z6, hzz6, hF⟩ := x_bind hF
    obtain ⟨⟨fsz6, hbz6⟩, hzz6⟩ := x_cv_sp hzz6
    refine x_callv (As := [.int p0, .int p1]) (rest := [.ref this]) 0 0 dX6_leafKey_12 mi_X6_entryAt ml_X6_246 rfl rfl (Nat.le_of_ble_eq_true rfl) ⟨by decide, by decide⟩ (by omega) (by omega) hbz6 rfl (c_X6_entryAt N _ _ _ _ _ _ hzz6) (x_K.some ?_) x_KX.none
    refine x_iconst (-1) (by decide) dX6_leafKey_15 ?_
    refine x_icmp_eq 23 dX6_leafKey_16 (by decide) hF (fun hF => ?_) (fun hF => ?_)
    · refine x_iconst 1 (by decide) dX6_leafKey_23 ?_
      refine x_puti_r dX6_leafKey_24 fl_X6_38 (fun h9 => by cases h9) hF (fun f7 hF => ?_)
      refine x_aload_n 0 dX6_leafKey_27 rfl rfl ?_
      refine x_geti_r dX6_leafKey_28 fl_X6_38 hF (fun v8 hF => ?_)
      refine x_if_le 38 dX6_leafKey_31 (by decide) hF (fun hF => ?_) (fun hF => ?_)
      · refine x_aload_n 0 dX6_leafKey_38 rfl rfl ?_
        refine x_aload_n 0 dX6_leafKey_39 rfl rfl ?_
        refine x_iload_n 1 dX6_leafKey_40 rfl rfl ?_
        refine x_iload_n 2 dX6_leafKey_41 rfl rfl ?_
        obtain ⟨z9, hzz9, hF⟩ := x_bind hF
        obtain ⟨⟨fsz9, hbz9⟩, hzz9⟩ := x_cv_sp hzz9
        refine x_callv (As := [.int p0, .int p1]) (rest := [.ref this]) 0 0 dX6_leafKey_42 mi_X6_entryAt ml_X6_246 rfl rfl (Nat.le_of_ble_eq_true rfl) ⟨by decide, by decide⟩ (by omega) (by omega) hbz9 rfl (c_X6_entryAt N _ _ _ _ _ _ hzz9) (x_K.some ?_) x_KX.none
        refine x_iconst 0 (by decide) dX6_leafKey_45 ?_
        obtain ⟨z10, hzz10, hF⟩ := x_bind hF
        obtain ⟨⟨fsz10, hbz10⟩, hzz10⟩ := x_cv_sp hzz10
        refine x_callv (As := [.int z9, .int 0]) (rest := []) 0 0 dX6_leafKey_46 mi_X6_entry ml_X6_72 rfl rfl (Nat.le_of_ble_eq_true rfl) ⟨by decide, by decide⟩ (by omega) (by omega) hbz10 rfl (c_X6_entry N _ _ _ _ _ _ hzz10) (x_K.some ?_) x_KX.none
        exact x_iret dX6_leafKey_49 rfl (by cases hF; rfl)
      · refine x_iconst 0 (by decide) dX6_leafKey_34 ?_
        refine x_goto 49 dX6_leafKey_35 (by decide) ?_
        exact x_iret dX6_leafKey_49 rfl (by cases hF; rfl)
    · refine x_iconst 0 (by decide) dX6_leafKey_19 ?_
      refine x_goto 24 dX6_leafKey_20 (by decide) ?_
      refine x_puti_r dX6_leafKey_24 fl_X6_38 (fun h9 => by cases h9) hF (fun f11 hF => ?_)
      refine x_aload_n 0 dX6_leafKey_27 rfl rfl ?_
      refine x_geti_r dX6_leafKey_28 fl_X6_38 hF (fun v12 hF => ?_)
      refine x_if_le 38 dX6_leafKey_31 (by decide) hF (fun hF => ?_) (fun hF => ?_)
      · refine x_aload_n 0 dX6_leafKey_38 rfl rfl ?_
        refine x_aload_n 0 dX6_leafKey_39 rfl rfl ?_
        refine x_iload_n 1 dX6_leafKey_40 rfl rfl ?_
        refine x_iload_n 2 dX6_leafKey_41 rfl rfl ?_
        obtain ⟨z13, hzz13, hF⟩ := x_bind hF
        obtain ⟨⟨fsz13, hbz13⟩, hzz13⟩ := x_cv_sp hzz13
        refine x_callv (As := [.int p0, .int p1]) (rest := [.ref this]) 0 0 dX6_leafKey_42 mi_X6_entryAt ml_X6_246 rfl rfl (Nat.le_of_ble_eq_true rfl) ⟨by decide, by decide⟩ (by omega) (by omega) hbz13 rfl (c_X6_entryAt N _ _ _ _ _ _ hzz13) (x_K.some ?_) x_KX.none
        refine x_iconst 0 (by decide) dX6_leafKey_45 ?_
        obtain ⟨z14, hzz14, hF⟩ := x_bind hF
        obtain ⟨⟨fsz14, hbz14⟩, hzz14⟩ := x_cv_sp hzz14
        refine x_callv (As := [.int z13, .int 0]) (rest := []) 0 0 dX6_leafKey_46 mi_X6_entry ml_X6_72 rfl rfl (Nat.le_of_ble_eq_true rfl) ⟨by decide, by decide⟩ (by omega) (by omega) hbz14 rfl (c_X6_entry N _ _ _ _ _ _ hzz14) (x_K.some ?_) x_KX.none
        exact x_iret dX6_leafKey_49 rfl (by cases hF; rfl)
      · refine x_iconst 0 (by decide) dX6_leafKey_34 ?_
        refine x_goto 49 dX6_leafKey_35 (by decide) ?_
        exact x_iret dX6_leafKey_49 rfl (by cases hF; rfl)
def F_X6_leaves (N : Nat) (f : XM) (this : Nat) : Option (Int32 × XM) :=
  (x_puti f 6 this 11 0).bind fun f1 =>
  (x_getr f1 6 this 0).bind fun v2 =>
  Option.bind v2 fun a3 =>
  (x_ald f1 a3 8).bind fun v4 =>
  some (v4, f1)
set_option maxRecDepth 20000 in
set_option maxHeartbeats 4000000 in
theorem c_X6_leaves (N : Nat) (f : XM) (this : Nat) (n : Nat) (r : (Int32 × XM)) (hF : F_X6_leaves N f this = some r) : x_Ct mX6_leaves 0 0 0 0 [.ref this] (f, n) (xr_im r n) := by
  unfold F_X6_leaves at hF
  refine x_ct (by decide) rfl (Nat.le_of_ble_eq_true rfl) ?_
  show X mX6_leaves 0 0 _ _ 0 0 0 [(0, .ref this)] [] (f, n)
  refine x_aload_n 0 dX6_leaves_0 rfl rfl ?_
  refine x_iconst 0 (by decide) dX6_leaves_1 ?_
  refine x_puti_r dX6_leaves_2 fl_X6_38 (fun h9 => by cases h9) hF (fun f1 hF => ?_)
  refine x_aload_n 0 dX6_leaves_5 rfl rfl ?_
  refine x_getr_r dX6_leaves_6 fl_X6_7 hF (fun v2 hF => ?_)
  refine x_bipush 8 (by decide) dX6_leaves_9 ?_
  refine x_nn hF (fun a3 ha3 hF => ?_)
  rw [ha3]
  refine x_ald_r dX6_leaves_11 hF (fun v4 hF => ?_)
  exact x_iret dX6_leaves_12 rfl (by cases hF; rfl)
def F_X6_leavesIfBuilt (N : Nat) (f : XM) (this : Nat) (p0 : Int32) : Option (Int32 × XM) :=
  (F_X6_isFill N f p0).bind fun z1 =>
  if (x_b z1) = 0 then
    (x_puti f 6 this 11 1).bind fun f2 =>
    (x_geti f2 6 this 11).bind fun v3 =>
    if v3 ≤ 0 then
      (x_cv f2 6 this (F_X6_leavesBuilt N f2 this p0)).bind fun z4 =>
      some (z4.1, z4.2)
    else
      some (0, f2)
  else
    (x_puti f 6 this 11 0).bind fun f5 =>
    (x_geti f5 6 this 11).bind fun v6 =>
    if v6 ≤ 0 then
      (x_cv f5 6 this (F_X6_leavesBuilt N f5 this p0)).bind fun z7 =>
      some (z7.1, z7.2)
    else
      some (0, f5)
set_option maxRecDepth 20000 in
set_option maxHeartbeats 4000000 in
theorem c_X6_leavesIfBuilt (N : Nat) (f : XM) (this : Nat) (p0 : Int32) (n : Nat) (r : (Int32 × XM)) (hF : F_X6_leavesIfBuilt N f this p0 = some r) : x_Ct mX6_leavesIfBuilt 6 133 0 0 [.ref this, .int p0] (f, n) (xr_im r n) := by
  unfold F_X6_leavesIfBuilt at hF
  refine x_ct (by decide) rfl (Nat.le_of_ble_eq_true rfl) ?_
  show X mX6_leavesIfBuilt 6 133 _ _ 0 0 0 [(0, .ref this), (1, .int p0)] [] (f, n)
  refine x_aload_n 0 dX6_leavesIfBuilt_0 rfl rfl ?_
  refine x_iload_n 1 dX6_leavesIfBuilt_1 rfl rfl ?_
  obtain ⟨z1, hzz1, hF⟩ := x_bind hF
  refine x_calls (As := [.int p0]) (rest := [.ref this]) 0 0 dX6_leavesIfBuilt_2 mi_X6_isFill rfl ml_X6_159 rfl rfl (Nat.le_of_ble_eq_true rfl) ⟨by decide, by decide⟩ (by omega) (by omega) (c_X6_isFill N _ _ _ _ hzz1) (x_K.some ?_) x_KX.none
  refine x_if_eq 12 dX6_leavesIfBuilt_5 (by decide) hF (fun hF => ?_) (fun hF => ?_)
  · refine x_iconst 1 (by decide) dX6_leavesIfBuilt_12 ?_
    refine x_puti_r dX6_leavesIfBuilt_13 fl_X6_38 (fun h9 => by cases h9) hF (fun f2 hF => ?_)
    refine x_aload_n 0 dX6_leavesIfBuilt_16 rfl rfl ?_
    refine x_geti_r dX6_leavesIfBuilt_17 fl_X6_38 hF (fun v3 hF => ?_)
    refine x_if_le 27 dX6_leavesIfBuilt_20 (by decide) hF (fun hF => ?_) (fun hF => ?_)
    · refine x_aload_n 0 dX6_leavesIfBuilt_27 rfl rfl ?_
      refine x_iload_n 1 dX6_leavesIfBuilt_28 rfl rfl ?_
      obtain ⟨z4, hzz4, hF⟩ := x_bind hF
      obtain ⟨⟨fsz4, hbz4⟩, hzz4⟩ := x_cv_sp hzz4
      refine x_callv (As := [.int p0]) (rest := []) 0 0 dX6_leavesIfBuilt_29 mi_X6_leavesBuilt ml_X6_280 rfl rfl (Nat.le_of_ble_eq_true rfl) ⟨by decide, by decide⟩ (by omega) (by omega) hbz4 rfl (c_X6_leavesBuilt N _ _ _ _ _ hzz4) (x_K.some ?_) x_KX.none
      exact x_iret dX6_leavesIfBuilt_32 rfl (by cases hF; rfl)
    · refine x_iconst 0 (by decide) dX6_leavesIfBuilt_23 ?_
      refine x_goto 32 dX6_leavesIfBuilt_24 (by decide) ?_
      exact x_iret dX6_leavesIfBuilt_32 rfl (by cases hF; rfl)
  · refine x_iconst 0 (by decide) dX6_leavesIfBuilt_8 ?_
    refine x_goto 13 dX6_leavesIfBuilt_9 (by decide) ?_
    refine x_puti_r dX6_leavesIfBuilt_13 fl_X6_38 (fun h9 => by cases h9) hF (fun f5 hF => ?_)
    refine x_aload_n 0 dX6_leavesIfBuilt_16 rfl rfl ?_
    refine x_geti_r dX6_leavesIfBuilt_17 fl_X6_38 hF (fun v6 hF => ?_)
    refine x_if_le 27 dX6_leavesIfBuilt_20 (by decide) hF (fun hF => ?_) (fun hF => ?_)
    · refine x_aload_n 0 dX6_leavesIfBuilt_27 rfl rfl ?_
      refine x_iload_n 1 dX6_leavesIfBuilt_28 rfl rfl ?_
      obtain ⟨z7, hzz7, hF⟩ := x_bind hF
      obtain ⟨⟨fsz7, hbz7⟩, hzz7⟩ := x_cv_sp hzz7
      refine x_callv (As := [.int p0]) (rest := []) 0 0 dX6_leavesIfBuilt_29 mi_X6_leavesBuilt ml_X6_280 rfl rfl (Nat.le_of_ble_eq_true rfl) ⟨by decide, by decide⟩ (by omega) (by omega) hbz7 rfl (c_X6_leavesBuilt N _ _ _ _ _ hzz7) (x_K.some ?_) x_KX.none
      exact x_iret dX6_leavesIfBuilt_32 rfl (by cases hF; rfl)
    · refine x_iconst 0 (by decide) dX6_leavesIfBuilt_23 ?_
      refine x_goto 32 dX6_leavesIfBuilt_24 (by decide) ?_
      exact x_iret dX6_leavesIfBuilt_32 rfl (by cases hF; rfl)
def F_X6_levels (N : Nat) (f : XM) (this : Nat) : Option (Int32 × XM) :=
  (x_puti f 6 this 11 0).bind fun f1 =>
  (x_cv f1 6 this (F_X6_allLevels N f1 this)).bind fun z2 =>
  some (z2, f1)
set_option maxRecDepth 20000 in
set_option maxHeartbeats 4000000 in
theorem c_X6_levels (N : Nat) (f : XM) (this : Nat) (n : Nat) (r : (Int32 × XM)) (hF : F_X6_levels N f this = some r) : x_Ct mX6_levels 2 44 0 0 [.ref this] (f, n) (xr_im r n) := by
  unfold F_X6_levels at hF
  refine x_ct (by decide) rfl (Nat.le_of_ble_eq_true rfl) ?_
  show X mX6_levels 2 44 _ _ 0 0 0 [(0, .ref this)] [] (f, n)
  refine x_aload_n 0 dX6_levels_0 rfl rfl ?_
  refine x_iconst 0 (by decide) dX6_levels_1 ?_
  refine x_puti_r dX6_levels_2 fl_X6_38 (fun h9 => by cases h9) hF (fun f1 hF => ?_)
  refine x_aload_n 0 dX6_levels_5 rfl rfl ?_
  obtain ⟨z2, hzz2, hF⟩ := x_bind hF
  obtain ⟨⟨fsz2, hbz2⟩, hzz2⟩ := x_cv_sp hzz2
  refine x_callv (As := []) (rest := []) 0 0 dX6_levels_6 mi_X6_allLevels ml_X6_120 rfl rfl (Nat.le_of_ble_eq_true rfl) ⟨by decide, by decide⟩ (by omega) (by omega) hbz2 rfl (c_X6_allLevels N _ _ _ _ hzz2) (x_K.some ?_) x_KX.none
  exact x_iret dX6_levels_9 rfl (by cases hF; rfl)
def F_X6_levelsIfBuilt (N : Nat) (f : XM) (this : Nat) (p0 : Int32) : Option (Int32 × XM) :=
  (F_X6_isFill N f p0).bind fun z1 =>
  if (x_b z1) = 0 then
    (x_puti f 6 this 11 1).bind fun f2 =>
    (x_geti f2 6 this 11).bind fun v3 =>
    if v3 ≤ 0 then
      (x_cv f2 6 this (F_X6_leavesBuilt N f2 this p0)).bind fun z4 =>
      (x_getr z4.2 6 this 0).bind fun v5 =>
      Option.bind v5 fun a6 =>
      (x_ald z4.2 a6 1).bind fun v7 =>
      (x_cv z4.2 6 this (F_X6_levelsOf N z4.2 this z4.1 v7)).bind fun z8 =>
      some (z8, z4.2)
    else
      some (0, f2)
  else
    (x_puti f 6 this 11 0).bind fun f9 =>
    (x_geti f9 6 this 11).bind fun v10 =>
    if v10 ≤ 0 then
      (x_cv f9 6 this (F_X6_leavesBuilt N f9 this p0)).bind fun z11 =>
      (x_getr z11.2 6 this 0).bind fun v12 =>
      Option.bind v12 fun a13 =>
      (x_ald z11.2 a13 1).bind fun v14 =>
      (x_cv z11.2 6 this (F_X6_levelsOf N z11.2 this z11.1 v14)).bind fun z15 =>
      some (z15, z11.2)
    else
      some (0, f9)
set_option maxRecDepth 20000 in
set_option maxHeartbeats 4000000 in
theorem c_X6_levelsIfBuilt (N : Nat) (f : XM) (this : Nat) (p0 : Int32) (n : Nat) (r : (Int32 × XM)) (hF : F_X6_levelsIfBuilt N f this p0 = some r) : x_Ct mX6_levelsIfBuilt 6 133 0 0 [.ref this, .int p0] (f, n) (xr_im r n) := by
  unfold F_X6_levelsIfBuilt at hF
  refine x_ct (by decide) rfl (Nat.le_of_ble_eq_true rfl) ?_
  show X mX6_levelsIfBuilt 6 133 _ _ 0 0 0 [(0, .ref this), (1, .int p0)] [] (f, n)
  refine x_aload_n 0 dX6_levelsIfBuilt_0 rfl rfl ?_
  refine x_iload_n 1 dX6_levelsIfBuilt_1 rfl rfl ?_
  obtain ⟨z1, hzz1, hF⟩ := x_bind hF
  refine x_calls (As := [.int p0]) (rest := [.ref this]) 0 0 dX6_levelsIfBuilt_2 mi_X6_isFill rfl ml_X6_159 rfl rfl (Nat.le_of_ble_eq_true rfl) ⟨by decide, by decide⟩ (by omega) (by omega) (c_X6_isFill N _ _ _ _ hzz1) (x_K.some ?_) x_KX.none
  refine x_if_eq 12 dX6_levelsIfBuilt_5 (by decide) hF (fun hF => ?_) (fun hF => ?_)
  · refine x_iconst 1 (by decide) dX6_levelsIfBuilt_12 ?_
    refine x_puti_r dX6_levelsIfBuilt_13 fl_X6_38 (fun h9 => by cases h9) hF (fun f2 hF => ?_)
    refine x_aload_n 0 dX6_levelsIfBuilt_16 rfl rfl ?_
    refine x_geti_r dX6_levelsIfBuilt_17 fl_X6_38 hF (fun v3 hF => ?_)
    refine x_if_le 27 dX6_levelsIfBuilt_20 (by decide) hF (fun hF => ?_) (fun hF => ?_)
    · refine x_aload_n 0 dX6_levelsIfBuilt_27 rfl rfl ?_
      refine x_aload_n 0 dX6_levelsIfBuilt_28 rfl rfl ?_
      refine x_iload_n 1 dX6_levelsIfBuilt_29 rfl rfl ?_
      obtain ⟨z4, hzz4, hF⟩ := x_bind hF
      obtain ⟨⟨fsz4, hbz4⟩, hzz4⟩ := x_cv_sp hzz4
      refine x_callv (As := [.int p0]) (rest := [.ref this]) 0 0 dX6_levelsIfBuilt_30 mi_X6_leavesBuilt ml_X6_280 rfl rfl (Nat.le_of_ble_eq_true rfl) ⟨by decide, by decide⟩ (by omega) (by omega) hbz4 rfl (c_X6_leavesBuilt N _ _ _ _ _ hzz4) (x_K.some ?_) x_KX.none
      refine x_aload_n 0 dX6_levelsIfBuilt_33 rfl rfl ?_
      refine x_getr_r dX6_levelsIfBuilt_34 fl_X6_7 hF (fun v5 hF => ?_)
      refine x_iconst 1 (by decide) dX6_levelsIfBuilt_37 ?_
      refine x_nn hF (fun a6 ha6 hF => ?_)
      rw [ha6]
      refine x_ald_r dX6_levelsIfBuilt_38 hF (fun v7 hF => ?_)
      obtain ⟨z8, hzz8, hF⟩ := x_bind hF
      obtain ⟨⟨fsz8, hbz8⟩, hzz8⟩ := x_cv_sp hzz8
      refine x_callv (As := [.int z4.1, .int v7]) (rest := []) 0 0 dX6_levelsIfBuilt_39 mi_X6_levelsOf ml_X6_117 rfl rfl (Nat.le_of_ble_eq_true rfl) ⟨by decide, by decide⟩ (by omega) (by omega) hbz8 rfl (c_X6_levelsOf N _ _ _ _ _ _ hzz8) (x_K.some ?_) x_KX.none
      exact x_iret dX6_levelsIfBuilt_42 rfl (by cases hF; rfl)
    · refine x_iconst 0 (by decide) dX6_levelsIfBuilt_23 ?_
      refine x_goto 42 dX6_levelsIfBuilt_24 (by decide) ?_
      exact x_iret dX6_levelsIfBuilt_42 rfl (by cases hF; rfl)
  · refine x_iconst 0 (by decide) dX6_levelsIfBuilt_8 ?_
    refine x_goto 13 dX6_levelsIfBuilt_9 (by decide) ?_
    refine x_puti_r dX6_levelsIfBuilt_13 fl_X6_38 (fun h9 => by cases h9) hF (fun f9 hF => ?_)
    refine x_aload_n 0 dX6_levelsIfBuilt_16 rfl rfl ?_
    refine x_geti_r dX6_levelsIfBuilt_17 fl_X6_38 hF (fun v10 hF => ?_)
    refine x_if_le 27 dX6_levelsIfBuilt_20 (by decide) hF (fun hF => ?_) (fun hF => ?_)
    · refine x_aload_n 0 dX6_levelsIfBuilt_27 rfl rfl ?_
      refine x_aload_n 0 dX6_levelsIfBuilt_28 rfl rfl ?_
      refine x_iload_n 1 dX6_levelsIfBuilt_29 rfl rfl ?_
      obtain ⟨z11, hzz11, hF⟩ := x_bind hF
      obtain ⟨⟨fsz11, hbz11⟩, hzz11⟩ := x_cv_sp hzz11
      refine x_callv (As := [.int p0]) (rest := [.ref this]) 0 0 dX6_levelsIfBuilt_30 mi_X6_leavesBuilt ml_X6_280 rfl rfl (Nat.le_of_ble_eq_true rfl) ⟨by decide, by decide⟩ (by omega) (by omega) hbz11 rfl (c_X6_leavesBuilt N _ _ _ _ _ hzz11) (x_K.some ?_) x_KX.none
      refine x_aload_n 0 dX6_levelsIfBuilt_33 rfl rfl ?_
      refine x_getr_r dX6_levelsIfBuilt_34 fl_X6_7 hF (fun v12 hF => ?_)
      refine x_iconst 1 (by decide) dX6_levelsIfBuilt_37 ?_
      refine x_nn hF (fun a13 ha13 hF => ?_)
      rw [ha13]
      refine x_ald_r dX6_levelsIfBuilt_38 hF (fun v14 hF => ?_)
      obtain ⟨z15, hzz15, hF⟩ := x_bind hF
      obtain ⟨⟨fsz15, hbz15⟩, hzz15⟩ := x_cv_sp hzz15
      refine x_callv (As := [.int z11.1, .int v14]) (rest := []) 0 0 dX6_levelsIfBuilt_39 mi_X6_levelsOf ml_X6_117 rfl rfl (Nat.le_of_ble_eq_true rfl) ⟨by decide, by decide⟩ (by omega) (by omega) hbz15 rfl (c_X6_levelsOf N _ _ _ _ _ _ hzz15) (x_K.some ?_) x_KX.none
      exact x_iret dX6_levelsIfBuilt_42 rfl (by cases hF; rfl)
    · refine x_iconst 0 (by decide) dX6_levelsIfBuilt_23 ?_
      refine x_goto 42 dX6_levelsIfBuilt_24 (by decide) ?_
      exact x_iret dX6_levelsIfBuilt_42 rfl (by cases hF; rfl)
def F_X6_meanPages (N : Nat) (f : XM) (this : Nat) : Option (UInt64 × XM) :=
  (x_puti f 6 this 11 0).bind fun f1 =>
  (x_cv f1 6 this (F_X6_mean N f1 this)).bind fun z2 =>
  some (z2.1, z2.2)
set_option maxRecDepth 20000 in
set_option maxHeartbeats 4000000 in
theorem c_X6_meanPages (N : Nat) (f : XM) (this : Nat) (n : Nat) (r : (UInt64 × XM)) (hF : F_X6_meanPages N f this = some r) : x_Ct mX6_meanPages 6 136 0 0 [.ref this] (f, n) (xr_dm r n) := by
  unfold F_X6_meanPages at hF
  refine x_ct (by decide) rfl (Nat.le_of_ble_eq_true rfl) ?_
  show X mX6_meanPages 6 136 _ _ 0 0 0 [(0, .ref this)] [] (f, n)
  refine x_aload_n 0 dX6_meanPages_0 rfl rfl ?_
  refine x_iconst 0 (by decide) dX6_meanPages_1 ?_
  refine x_puti_r dX6_meanPages_2 fl_X6_38 (fun h9 => by cases h9) hF (fun f1 hF => ?_)
  refine x_aload_n 0 dX6_meanPages_5 rfl rfl ?_
  obtain ⟨z2, hzz2, hF⟩ := x_bind hF
  obtain ⟨⟨fsz2, hbz2⟩, hzz2⟩ := x_cv_sp hzz2
  refine x_callv (As := []) (rest := []) 0 0 dX6_meanPages_6 mi_X6_mean ml_X6_271 rfl rfl (Nat.le_of_ble_eq_true rfl) ⟨by decide, by decide⟩ (by omega) (by omega) hbz2 rfl (c_X6_mean N _ _ _ _ hzz2) (x_K.some ?_) x_KX.none
  exact x_dret dX6_meanPages_9 rfl (by cases hF; rfl)
def F_X6_together_L16 (N : Nat) (f : XM) (c0 : Nat) (c1 : Int32) (K : Int32 → Int32 → Option Int32) : Nat → Int32 → Int32 → Option Int32
  | 0, _, _ => none
  | k + 1, x2, x3 =>
    (x_cv f 6 c0 (F_X6_size N f c0 (c1 - 1))).bind fun z6 =>
    if z6 ≤ x3 then
      K x2 x3
    else
      (x_cv f 6 c0 (F_X6_key N f c0 (c1 - 1) x3)).bind fun z7 =>
      (x_cv f 6 c0 (F_X6_placeIn N f c0 c1 z7)).bind fun z8 =>
      if z8 = (-1) then
        F_X6_together_L16 N f c0 c1 K k (x2 + 1) (x3 + 1)
      else
        F_X6_together_L16 N f c0 c1 K k (x2 + 0) (x3 + 1)
def F_X6_together (N : Nat) (f : XM) (this : Nat) : Option Int32 :=
  (x_getr f 6 this 0).bind fun v1 =>
  Option.bind v1 fun a2 =>
  (x_ald f a2 6).bind fun v3 =>
  (x_cv f 6 this (F_X6_size N f this v3)).bind fun z4 =>
  F_X6_together_L16 N f this v3 (fun y2_9 y3_9 =>
  some y2_9) N z4 0
set_option maxRecDepth 20000 in
set_option maxHeartbeats 4000000 in
theorem w_X6_together_L16 (N : Nat) (f : XM) (c0 : Nat) (c1 : Int32) (K : Int32 → Int32 → Option Int32) (n : Nat) (r : Int32) {rc rs : Nat} : ∀ (k : Nat) (x2 : Int32) (x3 : Int32), F_X6_together_L16 N f c0 c1 K k x2 x3 = some r → (∀ (x2 : Int32) (x3 : Int32), K x2 x3 = some r → X mX6_together 2 45 (x_end (xr_ip r (f, n))) x_noRO rc rs 58 [(0, .ref c0), (1, .int c1), (2, .int x2), (3, .int x3)] [] (f, n)) → X mX6_together 2 45 (x_end (xr_ip r (f, n))) x_noRO rc rs 16 [(0, .ref c0), (1, .int c1), (2, .int x2), (3, .int x3)] [] (f, n) := by
  intro k
  induction k with
  | zero =>
    intro x2 x3 hF
    exact absurd hF (by intro h9; cases h9)
  | succ k ih =>
    intro x2 x3 hF hK
    have ih := fun x2 x3 hF => ih x2 x3 hF hK
    rw [F_X6_together_L16] at hF
    refine x_iload_n 3 dX6_together_16 rfl rfl ?_
    refine x_aload_n 0 dX6_together_17 rfl rfl ?_
    refine x_iload_n 1 dX6_together_18 rfl rfl ?_
    refine x_iconst 1 (by decide) dX6_together_19 ?_
    refine x_isub dX6_together_20 ?_
    obtain ⟨z6, hzz6, hF⟩ := x_bind hF
    obtain ⟨⟨fsz6, hbz6⟩, hzz6⟩ := x_cv_sp hzz6
    refine x_callv (As := [.int (c1 - 1)]) (rest := [.int x3]) (rc + 0) (rs + 0) dX6_together_21 mi_X6_size ml_X6_54 rfl rfl (Nat.le_of_ble_eq_true rfl) ⟨by decide, by decide⟩ (by omega) (by omega) hbz6 rfl (c_X6_size N _ _ _ _ _ hzz6) (x_K.some ?_) x_KX.none
    refine x_icmp_ge 58 dX6_together_24 (by decide) hF (fun hF => ?_) (fun hF => ?_)
    · refine x_sub [0, 1, 2, 3] rfl ?_
      exact hK _ _ hF
    · refine x_iload_n 2 dX6_together_27 rfl rfl ?_
      refine x_aload_n 0 dX6_together_28 rfl rfl ?_
      refine x_iload_n 1 dX6_together_29 rfl rfl ?_
      refine x_aload_n 0 dX6_together_30 rfl rfl ?_
      refine x_iload_n 1 dX6_together_31 rfl rfl ?_
      refine x_iconst 1 (by decide) dX6_together_32 ?_
      refine x_isub dX6_together_33 ?_
      refine x_iload_n 3 dX6_together_34 rfl rfl ?_
      obtain ⟨z7, hzz7, hF⟩ := x_bind hF
      obtain ⟨⟨fsz7, hbz7⟩, hzz7⟩ := x_cv_sp hzz7
      refine x_callv (As := [.int (c1 - 1), .int x3]) (rest := [.int c1, .ref c0, .int x2]) (rc + 0) (rs + 0) dX6_together_35 mi_X6_key ml_X6_58 rfl rfl (Nat.le_of_ble_eq_true rfl) ⟨by decide, by decide⟩ (by omega) (by omega) hbz7 rfl (c_X6_key N _ _ _ _ _ _ hzz7) (x_K.some ?_) x_KX.none
      obtain ⟨z8, hzz8, hF⟩ := x_bind hF
      obtain ⟨⟨fsz8, hbz8⟩, hzz8⟩ := x_cv_sp hzz8
      refine x_callv (As := [.int c1, .int z7]) (rest := [.int x2]) (rc + 0) (rs + 0) dX6_together_38 mi_X6_placeIn ml_X6_62 rfl rfl (Nat.le_of_ble_eq_true rfl) ⟨by decide, by decide⟩ (by omega) (by omega) hbz8 rfl (c_X6_placeIn N _ _ _ _ _ _ hzz8) (x_K.some ?_) x_KX.none
      refine x_iconst (-1) (by decide) dX6_together_41 ?_
      refine x_icmp_ne 49 dX6_together_42 (by decide) hF (fun hF => ?_) (fun hF => ?_)
      · refine x_iconst 0 (by decide) dX6_together_49 ?_
        refine x_iadd dX6_together_50 ?_
        refine x_istore_n (i := 2) (lv' := [(2, .int (x2 + 0)), (0, .ref c0), (1, .int c1), (3, .int x3)]) dX6_together_51 rfl (by decide) rfl ?_
        refine x_iinc (x3 + 1) (lv' := [(3, .int (x3 + 1)), (2, .int (x2 + 0)), (0, .ref c0), (1, .int c1)]) dX6_together_52 3 rfl (by rfl) (by decide) rfl ?_
        refine x_goto 16 dX6_together_55 (by decide) ?_
        refine x_sub [2, 3, 1, 0] rfl ?_
        exact ih _ _ hF
      · refine x_iconst 1 (by decide) dX6_together_45 ?_
        refine x_goto 50 dX6_together_46 (by decide) ?_
        refine x_iadd dX6_together_50 ?_
        refine x_istore_n (i := 2) (lv' := [(2, .int (x2 + 1)), (0, .ref c0), (1, .int c1), (3, .int x3)]) dX6_together_51 rfl (by decide) rfl ?_
        refine x_iinc (x3 + 1) (lv' := [(3, .int (x3 + 1)), (2, .int (x2 + 1)), (0, .ref c0), (1, .int c1)]) dX6_together_52 3 rfl (by rfl) (by decide) rfl ?_
        refine x_goto 16 dX6_together_55 (by decide) ?_
        refine x_sub [2, 3, 1, 0] rfl ?_
        exact ih _ _ hF
set_option maxRecDepth 20000 in
set_option maxHeartbeats 4000000 in
theorem c_X6_together (N : Nat) (f : XM) (this : Nat) (n : Nat) (r : Int32) (hF : F_X6_together N f this = some r) : x_Ct mX6_together 2 45 0 0 [.ref this] (f, n) (xr_ip r (f, n)) := by
  unfold F_X6_together at hF
  refine x_ct (by decide) rfl (Nat.le_of_ble_eq_true rfl) ?_
  show X mX6_together 2 45 _ _ 0 0 0 [(0, .ref this)] [] (f, n)
  refine x_aload_n 0 dX6_together_0 rfl rfl ?_
  refine x_getr_r dX6_together_1 fl_X6_7 hF (fun v1 hF => ?_)
  refine x_bipush 6 (by decide) dX6_together_4 ?_
  refine x_nn hF (fun a2 ha2 hF => ?_)
  rw [ha2]
  refine x_ald_r dX6_together_6 hF (fun v3 hF => ?_)
  refine x_istore_n (i := 1) (lv' := [(1, .int v3), (0, .ref this)]) dX6_together_7 rfl (by decide) rfl ?_
  refine x_aload_n 1 dX6_together_8 rfl rfl ?_
  refine x_iload_n 0 dX6_together_9 rfl rfl ?_
  obtain ⟨z4, hzz4, hF⟩ := x_bind hF
  obtain ⟨⟨fsz4, hbz4⟩, hzz4⟩ := x_cv_sp hzz4
  refine x_callv (As := [.int v3]) (rest := []) 0 0 dX6_together_10 mi_X6_size ml_X6_54 rfl rfl (Nat.le_of_ble_eq_true rfl) ⟨by decide, by decide⟩ (by omega) (by omega) hbz4 rfl (c_X6_size N _ _ _ _ _ hzz4) (x_K.some ?_) x_KX.none
  refine x_istore_n (i := 2) (lv' := [(2, .int z4), (1, .int v3), (0, .ref this)]) dX6_together_13 rfl (by decide) rfl ?_
  refine x_iconst 0 (by decide) dX6_together_14 ?_
  refine x_istore_n (i := 3) (lv' := [(3, .int 0), (2, .int z4), (1, .int v3), (0, .ref this)]) dX6_together_15 rfl (by decide) rfl ?_
  refine x_sub [3, 2, 1, 0] rfl ?_
  refine w_X6_together_L16 N _ _ _ _ _ r _ _ _ hF (fun y2_9 y3_9 hF => ?_)
  refine x_iload_n 2 dX6_together_58 rfl rfl ?_
  exact x_iret dX6_together_59 rfl (by cases hF; rfl)
def F_X6_merges_L22 (N : Nat) (c0 : Nat) (c1 : Int32) (c3 : Int32) (K : Int32 → Int32 → XM → Option (Int32 × XM)) : Nat → Int32 → Int32 → XM → Option (Int32 × XM)
  | 0, _, _, _ => none
  | k + 1, x2, x4, f =>
    (x_cv f 6 c0 (F_X6_size N f c0 c3)).bind fun z6 =>
    if z6 ≤ x4 then
      K x2 x4 f
    else
      (x_getr f 6 c0 6).bind fun v7 =>
      (x_cv f 6 c0 (F_X6_key N f c0 c3 x4)).bind fun z8 =>
      Option.bind v7 fun a9 =>
      (x_ast f a9 (2 * x2) z8).bind fun f10 =>
      (x_getr f10 6 c0 6).bind fun v11 =>
      (x_cv f10 6 c0 (F_X6_value N f10 c0 c3 x4)).bind fun z12 =>
      Option.bind v11 fun a13 =>
      (x_ast f10 a13 ((2 * x2) + 1) z12).bind fun f14 =>
      F_X6_merges_L22 N c0 c1 c3 K k (x2 + 1) (x4 + 1) f14
def F_X6_merges_L12 (N : Nat) (c0 : Nat) (c1 : Int32) (K : Int32 → Int32 → XM → Option (Int32 × XM)) : Nat → Int32 → Int32 → XM → Option (Int32 × XM)
  | 0, _, _, _ => none
  | k + 1, x2, x3, f =>
    if x3 < (c1 - 1) then
      K x2 x3 f
    else
      F_X6_merges_L22 N c0 c1 x3 (fun y2_15 y4_15 g15 =>
      F_X6_merges_L12 N c0 c1 K k y2_15 (x3 + (-1)) g15) N x2 0 f
def F_X6_merges_L111 (N : Nat) (c0 : Nat) (c2 : Int32) (K : Int32 → XM → Option (Int32 × XM)) : Nat → Int32 → XM → Option (Int32 × XM)
  | 0, _, _ => none
  | k + 1, x3, f =>
    if c2 ≤ x3 then
      K x3 f
    else
      (x_getr f 6 c0 0).bind fun v28 =>
      Option.bind v28 fun a29 =>
      (x_ald f a29 6).bind fun v30 =>
      (x_getr f 6 c0 6).bind fun v31 =>
      Option.bind v31 fun a32 =>
      (x_ald f a32 (2 * x3)).bind fun v33 =>
      (x_getr f 6 c0 6).bind fun v34 =>
      Option.bind v34 fun a35 =>
      (x_ald f a35 ((2 * x3) + 1)).bind fun v36 =>
      (x_cv f 6 c0 (F_X6_writes N f c0 v30 v33 v36)).bind fun z37 =>
      F_X6_merges_L111 N c0 c2 K k (x3 + 1) z37
def F_X6_merges (N : Nat) (f : XM) (this : Nat) : Option (Int32 × XM) :=
  (x_getr f 6 this 0).bind fun v1 =>
  Option.bind v1 fun a2 =>
  (x_ald f a2 6).bind fun v3 =>
  F_X6_merges_L12 N this v3 (fun y2_16 y3_16 g16 =>
  (x_getr g16 6 this 0).bind fun v17 =>
  Option.bind v17 fun a18 =>
  (x_ald g16 a18 6).bind fun v19 =>
  (x_ast g16 a18 6 (v19 - 1)).bind fun f20 =>
  (x_getr f20 6 this 0).bind fun v21 =>
  (x_getr f20 6 this 0).bind fun v22 =>
  Option.bind v22 fun a23 =>
  (x_ald f20 a23 6).bind fun v24 =>
  Option.bind v21 fun a25 =>
  (x_ast f20 a25 (9 + (121 * v24)) 0).bind fun f26 =>
  F_X6_merges_L111 N this y2_16 (fun y3_38 g38 =>
  (x_getr g38 6 this 0).bind fun v39 =>
  Option.bind v39 fun a40 =>
  (x_ald g38 a40 6).bind fun v41 =>
  (x_cv g38 6 this (F_X6_size N g38 this v41)).bind fun z42 =>
  some (z42, g38)) N 0 f26) N 0 v3 f
set_option maxRecDepth 20000 in
set_option maxHeartbeats 4000000 in
theorem w_X6_merges_L22 (N : Nat) (c0 : Nat) (c1 : Int32) (c3 : Int32) (K : Int32 → Int32 → XM → Option (Int32 × XM)) (n : Nat) (r : (Int32 × XM)) {rc rs : Nat} : ∀ (k : Nat) (x2 : Int32) (x4 : Int32) (f : XM), F_X6_merges_L22 N c0 c1 c3 K k x2 x4 f = some r → (∀ (x2 : Int32) (x4 : Int32) (f : XM), K x2 x4 f = some r → X mX6_merges 3 70 (x_end (xr_im r n)) x_noRO rc rs 73 [(0, .ref c0), (1, .int c1), (2, .int x2), (3, .int c3), (4, .int x4)] [] (f, n)) → X mX6_merges 3 70 (x_end (xr_im r n)) x_noRO rc rs 22 [(0, .ref c0), (1, .int c1), (2, .int x2), (3, .int c3), (4, .int x4)] [] (f, n) := by
  intro k
  induction k with
  | zero =>
    intro x2 x4 f hF
    exact absurd hF (by intro h9; cases h9)
  | succ k ih =>
    intro x2 x4 f hF hK
    have ih := fun x2 x4 f hF => ih x2 x4 f hF hK
    rw [F_X6_merges_L22] at hF
    refine x_iload 4 dX6_merges_22 rfl ?_
    refine x_aload_n 0 dX6_merges_24 rfl rfl ?_
    refine x_iload_n 3 dX6_merges_25 rfl rfl ?_
    obtain ⟨z6, hzz6, hF⟩ := x_bind hF
    obtain ⟨⟨fsz6, hbz6⟩, hzz6⟩ := x_cv_sp hzz6
    refine x_callv (As := [.int c3]) (rest := [.int x4]) (rc + 0) (rs + 0) dX6_merges_26 mi_X6_size ml_X6_54 rfl rfl (Nat.le_of_ble_eq_true rfl) ⟨by decide, by decide⟩ (by omega) (by omega) hbz6 rfl (c_X6_size N _ _ _ _ _ hzz6) (x_K.some ?_) x_KX.none
    refine x_icmp_ge 73 dX6_merges_29 (by decide) hF (fun hF => ?_) (fun hF => ?_)
    · refine x_sub [0, 1, 2, 3, 4] rfl ?_
      exact hK _ _ _ hF
    · refine x_aload_n 0 dX6_merges_32 rfl rfl ?_
      refine x_getr_r dX6_merges_33 fl_X6_26 hF (fun v7 hF => ?_)
      refine x_iconst 2 (by decide) dX6_merges_36 ?_
      refine x_iload_n 2 dX6_merges_37 rfl rfl ?_
      refine x_imul dX6_merges_38 ?_
      refine x_aload_n 0 dX6_merges_39 rfl rfl ?_
      refine x_iload_n 3 dX6_merges_40 rfl rfl ?_
      refine x_iload 4 dX6_merges_41 rfl ?_
      obtain ⟨z8, hzz8, hF⟩ := x_bind hF
      obtain ⟨⟨fsz8, hbz8⟩, hzz8⟩ := x_cv_sp hzz8
      refine x_callv (As := [.int c3, .int x4]) (rest := [.int (2 * x2), va_rf v7]) (rc + 0) (rs + 0) dX6_merges_43 mi_X6_key ml_X6_58 rfl rfl (by simp only [List.map_cons, List.map_nil, x_rfc]; exact Nat.le_of_ble_eq_true rfl) ⟨by decide, by decide⟩ (by omega) (by omega) hbz8 rfl (c_X6_key N _ _ _ _ _ _ hzz8) (x_K.some ?_) x_KX.none
      refine x_nn hF (fun a9 ha9 hF => ?_)
      rw [ha9]
      refine x_ast_r dX6_merges_46 hF (fun f10 hF => ?_)
      refine x_aload_n 0 dX6_merges_47 rfl rfl ?_
      refine x_getr_r dX6_merges_48 fl_X6_26 hF (fun v11 hF => ?_)
      refine x_iconst 2 (by decide) dX6_merges_51 ?_
      refine x_iload_n 2 dX6_merges_52 rfl rfl ?_
      refine x_imul dX6_merges_53 ?_
      refine x_iconst 1 (by decide) dX6_merges_54 ?_
      refine x_iadd dX6_merges_55 ?_
      refine x_aload_n 0 dX6_merges_56 rfl rfl ?_
      refine x_iload_n 3 dX6_merges_57 rfl rfl ?_
      refine x_iload 4 dX6_merges_58 rfl ?_
      obtain ⟨z12, hzz12, hF⟩ := x_bind hF
      obtain ⟨⟨fsz12, hbz12⟩, hzz12⟩ := x_cv_sp hzz12
      refine x_callv (As := [.int c3, .int x4]) (rest := [.int ((2 * x2) + 1), va_rf v11]) (rc + 0) (rs + 0) dX6_merges_60 mi_X6_value ml_X6_65 rfl rfl (by simp only [List.map_cons, List.map_nil, x_rfc]; exact Nat.le_of_ble_eq_true rfl) ⟨by decide, by decide⟩ (by omega) (by omega) hbz12 rfl (c_X6_value N _ _ _ _ _ _ hzz12) (x_K.some ?_) x_KX.none
      refine x_nn hF (fun a13 ha13 hF => ?_)
      rw [ha13]
      refine x_ast_r dX6_merges_63 hF (fun f14 hF => ?_)
      refine x_iinc (x2 + 1) (lv' := [(2, .int (x2 + 1)), (0, .ref c0), (1, .int c1), (3, .int c3), (4, .int x4)]) dX6_merges_64 2 rfl (by rfl) (by decide) rfl ?_
      refine x_iinc (x4 + 1) (lv' := [(4, .int (x4 + 1)), (2, .int (x2 + 1)), (0, .ref c0), (1, .int c1), (3, .int c3)]) dX6_merges_67 4 rfl (by rfl) (by decide) rfl ?_
      refine x_goto 22 dX6_merges_70 (by decide) ?_
      refine x_sub [2, 3, 1, 4, 0] rfl ?_
      exact ih _ _ _ hF
set_option maxRecDepth 20000 in
set_option maxHeartbeats 4000000 in
theorem w_X6_merges_L12 (N : Nat) (c0 : Nat) (c1 : Int32) (K : Int32 → Int32 → XM → Option (Int32 × XM)) (n : Nat) (r : (Int32 × XM)) {rc rs : Nat} : ∀ (k : Nat) (x2 : Int32) (x3 : Int32) (f : XM), F_X6_merges_L12 N c0 c1 K k x2 x3 f = some r → (∀ (x2 : Int32) (x3 : Int32) (f : XM), K x2 x3 f = some r → X mX6_merges 3 70 (x_end (xr_im r n)) x_noRO rc rs 79 [(0, .ref c0), (1, .int c1), (2, .int x2), (3, .int x3)] [] (f, n)) → X mX6_merges 3 70 (x_end (xr_im r n)) x_noRO rc rs 12 [(0, .ref c0), (1, .int c1), (2, .int x2), (3, .int x3)] [] (f, n) := by
  intro k
  induction k with
  | zero =>
    intro x2 x3 f hF
    exact absurd hF (by intro h9; cases h9)
  | succ k ih =>
    intro x2 x3 f hF hK
    have ih := fun x2 x3 f hF => ih x2 x3 f hF hK
    rw [F_X6_merges_L12] at hF
    refine x_iload_n 3 dX6_merges_12 rfl rfl ?_
    refine x_iload_n 1 dX6_merges_13 rfl rfl ?_
    refine x_iconst 1 (by decide) dX6_merges_14 ?_
    refine x_isub dX6_merges_15 ?_
    refine x_icmp_lt 79 dX6_merges_16 (by decide) hF (fun hF => ?_) (fun hF => ?_)
    · refine x_sub [0, 1, 2, 3] rfl ?_
      exact hK _ _ _ hF
    · refine x_iconst 0 (by decide) dX6_merges_19 ?_
      refine x_istore (i := 4) (lv' := [(4, .int 0), (0, .ref c0), (1, .int c1), (2, .int x2), (3, .int x3)]) dX6_merges_20 (by decide) rfl ?_
      refine x_sub [1, 2, 3, 4, 0] rfl ?_
      refine w_X6_merges_L22 N _ _ _ _ _ r _ _ _ _ hF (fun y2_15 y4_15 g15 hF => ?_)
      refine x_iinc (x3 + (-1)) (lv' := [(3, .int (x3 + (-1))), (0, .ref c0), (1, .int c1), (2, .int y2_15), (4, .int y4_15)]) dX6_merges_73 3 rfl (by rfl) (by decide) rfl ?_
      refine x_goto 12 dX6_merges_76 (by decide) ?_
      refine x_sub [1, 2, 3, 0] rfl ?_
      exact ih _ _ _ hF
set_option maxRecDepth 20000 in
set_option maxHeartbeats 4000000 in
theorem w_X6_merges_L111 (N : Nat) (c0 : Nat) (c2 : Int32) (K : Int32 → XM → Option (Int32 × XM)) (n : Nat) (r : (Int32 × XM)) {rc rs : Nat} : ∀ (k : Nat) (x3 : Int32) (f : XM), F_X6_merges_L111 N c0 c2 K k x3 f = some r → (∀ (x3 : Int32) (f : XM), K x3 f = some r → X mX6_merges 3 70 (x_end (xr_im r n)) x_noRO rc rs 151 [(0, .ref c0), (2, .int c2), (3, .int x3)] [] (f, n)) → X mX6_merges 3 70 (x_end (xr_im r n)) x_noRO rc rs 111 [(0, .ref c0), (2, .int c2), (3, .int x3)] [] (f, n) := by
  intro k
  induction k with
  | zero =>
    intro x3 f hF
    exact absurd hF (by intro h9; cases h9)
  | succ k ih =>
    intro x3 f hF hK
    have ih := fun x3 f hF => ih x3 f hF hK
    rw [F_X6_merges_L111] at hF
    refine x_iload_n 2 dX6_merges_111 rfl rfl ?_
    refine x_iload_n 1 dX6_merges_112 rfl rfl ?_
    refine x_icmp_ge 151 dX6_merges_113 (by decide) hF (fun hF => ?_) (fun hF => ?_)
    · refine x_sub [0, 1, 2] rfl ?_
      exact hK _ _ hF
    · refine x_aload_n 0 dX6_merges_116 rfl rfl ?_
      refine x_aload_n 0 dX6_merges_117 rfl rfl ?_
      refine x_getr_r dX6_merges_118 fl_X6_7 hF (fun v28 hF => ?_)
      refine x_bipush 6 (by decide) dX6_merges_121 ?_
      refine x_nn hF (fun a29 ha29 hF => ?_)
      rw [ha29]
      refine x_ald_r dX6_merges_123 hF (fun v30 hF => ?_)
      refine x_aload_n 0 dX6_merges_124 rfl rfl ?_
      refine x_getr_r dX6_merges_125 fl_X6_26 hF (fun v31 hF => ?_)
      refine x_iconst 2 (by decide) dX6_merges_128 ?_
      refine x_iload_n 2 dX6_merges_129 rfl rfl ?_
      refine x_imul dX6_merges_130 ?_
      refine x_nn hF (fun a32 ha32 hF => ?_)
      rw [ha32]
      refine x_ald_r dX6_merges_131 hF (fun v33 hF => ?_)
      refine x_aload_n 0 dX6_merges_132 rfl rfl ?_
      refine x_getr_r dX6_merges_133 fl_X6_26 hF (fun v34 hF => ?_)
      refine x_iconst 2 (by decide) dX6_merges_136 ?_
      refine x_iload_n 2 dX6_merges_137 rfl rfl ?_
      refine x_imul dX6_merges_138 ?_
      refine x_iconst 1 (by decide) dX6_merges_139 ?_
      refine x_iadd dX6_merges_140 ?_
      refine x_nn hF (fun a35 ha35 hF => ?_)
      rw [ha35]
      refine x_ald_r dX6_merges_141 hF (fun v36 hF => ?_)
      obtain ⟨z37, hzz37, hF⟩ := x_bind hF
      obtain ⟨⟨fsz37, hbz37⟩, hzz37⟩ := x_cv_sp hzz37
      refine x_callv (As := [.int v30, .int v33, .int v36]) (rest := []) (rc + 0) (rs + 0) dX6_merges_142 mi_X6_writes ml_X6_68 rfl rfl (Nat.le_of_ble_eq_true rfl) ⟨by decide, by decide⟩ (by omega) (by omega) hbz37 rfl (c_X6_writes N _ _ _ _ _ _ _ hzz37) (x_K.none ?_) x_KX.none
      refine x_iinc (x3 + 1) (lv' := [(3, .int (x3 + 1)), (0, .ref c0), (2, .int c2)]) dX6_merges_145 2 rfl (by rfl) (by decide) rfl ?_
      refine x_goto 111 dX6_merges_148 (by decide) ?_
      refine x_sub [1, 2, 0] rfl ?_
      exact ih _ _ hF
set_option maxRecDepth 20000 in
set_option maxHeartbeats 4000000 in
theorem c_X6_merges (N : Nat) (f : XM) (this : Nat) (n : Nat) (r : (Int32 × XM)) (hF : F_X6_merges N f this = some r) : x_Ct mX6_merges 3 70 0 0 [.ref this] (f, n) (xr_im r n) := by
  unfold F_X6_merges at hF
  refine x_ct (by decide) rfl (Nat.le_of_ble_eq_true rfl) ?_
  show X mX6_merges 3 70 _ _ 0 0 0 [(0, .ref this)] [] (f, n)
  refine x_aload_n 0 dX6_merges_0 rfl rfl ?_
  refine x_getr_r dX6_merges_1 fl_X6_7 hF (fun v1 hF => ?_)
  refine x_bipush 6 (by decide) dX6_merges_4 ?_
  refine x_nn hF (fun a2 ha2 hF => ?_)
  rw [ha2]
  refine x_ald_r dX6_merges_6 hF (fun v3 hF => ?_)
  refine x_istore_n (i := 1) (lv' := [(1, .int v3), (0, .ref this)]) dX6_merges_7 rfl (by decide) rfl ?_
  refine x_iconst 0 (by decide) dX6_merges_8 ?_
  refine x_istore_n (i := 2) (lv' := [(2, .int 0), (1, .int v3), (0, .ref this)]) dX6_merges_9 rfl (by decide) rfl ?_
  refine x_iload_n 1 dX6_merges_10 rfl rfl ?_
  refine x_istore_n (i := 3) (lv' := [(3, .int v3), (2, .int 0), (1, .int v3), (0, .ref this)]) dX6_merges_11 rfl (by decide) rfl ?_
  refine x_sub [3, 2, 1, 0] rfl ?_
  refine w_X6_merges_L12 N _ _ _ _ r _ _ _ _ hF (fun y2_16 y3_16 g16 hF => ?_)
  refine x_aload_n 0 dX6_merges_79 rfl rfl ?_
  refine x_getr_r dX6_merges_80 fl_X6_7 hF (fun v17 hF => ?_)
  refine x_bipush 6 (by decide) dX6_merges_83 ?_
  refine x_nn hF (fun a18 ha18 hF => ?_)
  rw [ha18]
  refine x_dup2ri dX6_merges_85 ?_
  refine x_ald_r dX6_merges_86 hF (fun v19 hF => ?_)
  refine x_iconst 1 (by decide) dX6_merges_87 ?_
  refine x_isub dX6_merges_88 ?_
  refine x_ast_r dX6_merges_89 hF (fun f20 hF => ?_)
  refine x_aload_n 0 dX6_merges_90 rfl rfl ?_
  refine x_getr_r dX6_merges_91 fl_X6_7 hF (fun v21 hF => ?_)
  refine x_bipush 9 (by decide) dX6_merges_94 ?_
  refine x_bipush 121 (by decide) dX6_merges_96 ?_
  refine x_aload_n 0 dX6_merges_98 rfl rfl ?_
  refine x_getr_r dX6_merges_99 fl_X6_7 hF (fun v22 hF => ?_)
  refine x_bipush 6 (by decide) dX6_merges_102 ?_
  refine x_nn hF (fun a23 ha23 hF => ?_)
  rw [ha23]
  refine x_ald_r dX6_merges_104 hF (fun v24 hF => ?_)
  refine x_imul dX6_merges_105 ?_
  refine x_iadd dX6_merges_106 ?_
  refine x_iconst 0 (by decide) dX6_merges_107 ?_
  refine x_nn hF (fun a25 ha25 hF => ?_)
  rw [ha25]
  refine x_ast_r dX6_merges_108 hF (fun f26 hF => ?_)
  refine x_iconst 0 (by decide) dX6_merges_109 ?_
  refine x_istore_n (i := 3) (lv' := [(3, .int 0), (0, .ref this), (1, .int v3), (2, .int y2_16)]) dX6_merges_110 rfl (by decide) rfl ?_
  refine x_sub [1, 3, 0] rfl ?_
  refine w_X6_merges_L111 N _ _ _ _ r _ _ _ hF (fun y3_38 g38 hF => ?_)
  refine x_aload_n 0 dX6_merges_151 rfl rfl ?_
  refine x_aload_n 0 dX6_merges_152 rfl rfl ?_
  refine x_getr_r dX6_merges_153 fl_X6_7 hF (fun v39 hF => ?_)
  refine x_bipush 6 (by decide) dX6_merges_156 ?_
  refine x_nn hF (fun a40 ha40 hF => ?_)
  rw [ha40]
  refine x_ald_r dX6_merges_158 hF (fun v41 hF => ?_)
  obtain ⟨z42, hzz42, hF⟩ := x_bind hF
  obtain ⟨⟨fsz42, hbz42⟩, hzz42⟩ := x_cv_sp hzz42
  refine x_callv (As := [.int v41]) (rest := []) 0 0 dX6_merges_159 mi_X6_size ml_X6_54 rfl rfl (Nat.le_of_ble_eq_true rfl) ⟨by decide, by decide⟩ (by omega) (by omega) hbz42 rfl (c_X6_size N _ _ _ _ _ hzz42) (x_K.some ?_) x_KX.none
  exact x_iret dX6_merges_162 rfl (by cases hF; rfl)
def F_X6_mergeRuns (N : Nat) (f : XM) (this : Nat) : Option (Int32 × XM) :=
  (x_getr f 6 this 0).bind fun v1 =>
  Option.bind v1 fun a2 =>
  (x_ald f a2 6).bind fun v3 =>
  if v3 < 2 then
    (x_puti f 6 this 11 1).bind fun f4 =>
    (x_geti f4 6 this 11).bind fun v5 =>
    if v5 ≤ 0 then
      (x_getr f4 6 this 0).bind fun v6 =>
      Option.bind v6 fun a7 =>
      (x_cv f4 6 this (F_X6_saves N f4 this a7)).bind fun z8 =>
      (x_cv z8 6 this (F_X6_merges N z8 this)).bind fun z9 =>
      some (z9.1, z9.2)
    else
      some (0, f4)
  else
    (x_cv f 6 this (F_X6_together N f this)).bind fun z10 =>
    if z10 ≤ 60 then
      (x_puti f 6 this 11 0).bind fun f11 =>
      (x_geti f11 6 this 11).bind fun v12 =>
      if v12 ≤ 0 then
        (x_getr f11 6 this 0).bind fun v13 =>
        Option.bind v13 fun a14 =>
        (x_cv f11 6 this (F_X6_saves N f11 this a14)).bind fun z15 =>
        (x_cv z15 6 this (F_X6_merges N z15 this)).bind fun z16 =>
        some (z16.1, z16.2)
      else
        some (0, f11)
    else
      (x_puti f 6 this 11 1).bind fun f17 =>
      (x_geti f17 6 this 11).bind fun v18 =>
      if v18 ≤ 0 then
        (x_getr f17 6 this 0).bind fun v19 =>
        Option.bind v19 fun a20 =>
        (x_cv f17 6 this (F_X6_saves N f17 this a20)).bind fun z21 =>
        (x_cv z21 6 this (F_X6_merges N z21 this)).bind fun z22 =>
        some (z22.1, z22.2)
      else
        some (0, f17)
set_option maxRecDepth 20000 in
set_option maxHeartbeats 4000000 in
theorem c_X6_mergeRuns (N : Nat) (f : XM) (this : Nat) (n : Nat) (r : (Int32 × XM)) (hF : F_X6_mergeRuns N f this = some r) : x_Ct mX6_mergeRuns 4 94 0 0 [.ref this] (f, n) (xr_im r n) := by
  unfold F_X6_mergeRuns at hF
  refine x_ct (by decide) rfl (Nat.le_of_ble_eq_true rfl) ?_
  show X mX6_mergeRuns 4 94 _ _ 0 0 0 [(0, .ref this)] [] (f, n)
  refine x_aload_n 0 dX6_mergeRuns_0 rfl rfl ?_
  refine x_aload_n 0 dX6_mergeRuns_1 rfl rfl ?_
  refine x_getr_r dX6_mergeRuns_2 fl_X6_7 hF (fun v1 hF => ?_)
  refine x_bipush 6 (by decide) dX6_mergeRuns_5 ?_
  refine x_nn hF (fun a2 ha2 hF => ?_)
  rw [ha2]
  refine x_ald_r dX6_mergeRuns_7 hF (fun v3 hF => ?_)
  refine x_iconst 2 (by decide) dX6_mergeRuns_8 ?_
  refine x_icmp_lt 21 dX6_mergeRuns_9 (by decide) hF (fun hF => ?_) (fun hF => ?_)
  · refine x_iconst 1 (by decide) dX6_mergeRuns_21 ?_
    refine x_goto 26 dX6_mergeRuns_22 (by decide) ?_
    refine x_puti_r dX6_mergeRuns_26 fl_X6_38 (fun h9 => by cases h9) hF (fun f4 hF => ?_)
    refine x_aload_n 0 dX6_mergeRuns_29 rfl rfl ?_
    refine x_geti_r dX6_mergeRuns_30 fl_X6_38 hF (fun v5 hF => ?_)
    refine x_if_le 38 dX6_mergeRuns_33 (by decide) hF (fun hF => ?_) (fun hF => ?_)
    · refine x_aload_n 0 dX6_mergeRuns_38 rfl rfl ?_
      refine x_aload_n 0 dX6_mergeRuns_39 rfl rfl ?_
      refine x_getr_r dX6_mergeRuns_40 fl_X6_7 hF (fun v6 hF => ?_)
      refine x_nn hF (fun a7 ha7 hF => ?_)
      rw [ha7]
      obtain ⟨z8, hzz8, hF⟩ := x_bind hF
      obtain ⟨⟨fsz8, hbz8⟩, hzz8⟩ := x_cv_sp hzz8
      refine x_callv (As := [.ref a7]) (rest := []) 0 0 dX6_mergeRuns_43 mi_X6_saves ml_X6_139 rfl rfl (Nat.le_of_ble_eq_true rfl) ⟨by decide, by decide⟩ (by omega) (by omega) hbz8 rfl (c_X6_saves N _ _ _ _ _ hzz8) (x_K.none ?_) x_KX.none
      refine x_aload_n 0 dX6_mergeRuns_46 rfl rfl ?_
      obtain ⟨z9, hzz9, hF⟩ := x_bind hF
      obtain ⟨⟨fsz9, hbz9⟩, hzz9⟩ := x_cv_sp hzz9
      refine x_callv (As := []) (rest := []) 0 0 dX6_mergeRuns_47 mi_X6_merges ml_X6_156 rfl rfl (Nat.le_of_ble_eq_true rfl) ⟨by decide, by decide⟩ (by omega) (by omega) hbz9 rfl (c_X6_merges N _ _ _ _ hzz9) (x_K.some ?_) x_KX.none
      exact x_iret dX6_mergeRuns_50 rfl (by cases hF; rfl)
    · refine x_iconst 0 (by decide) dX6_mergeRuns_36 ?_
      exact x_iret dX6_mergeRuns_37 rfl (by cases hF; rfl)
  · refine x_aload_n 0 dX6_mergeRuns_12 rfl rfl ?_
    obtain ⟨z10, hzz10, hF⟩ := x_bind hF
    obtain ⟨⟨fsz10, hbz10⟩, hzz10⟩ := x_cv_sp hzz10
    refine x_callv (As := []) (rest := [.ref this]) 0 0 dX6_mergeRuns_13 mi_X6_together ml_X6_153 rfl rfl (Nat.le_of_ble_eq_true rfl) ⟨by decide, by decide⟩ (by omega) (by omega) hbz10 rfl (c_X6_together N _ _ _ _ hzz10) (x_K.some ?_) x_KX.none
    refine x_bipush 60 (by decide) dX6_mergeRuns_16 ?_
    refine x_icmp_le 25 dX6_mergeRuns_18 (by decide) hF (fun hF => ?_) (fun hF => ?_)
    · refine x_iconst 0 (by decide) dX6_mergeRuns_25 ?_
      refine x_puti_r dX6_mergeRuns_26 fl_X6_38 (fun h9 => by cases h9) hF (fun f11 hF => ?_)
      refine x_aload_n 0 dX6_mergeRuns_29 rfl rfl ?_
      refine x_geti_r dX6_mergeRuns_30 fl_X6_38 hF (fun v12 hF => ?_)
      refine x_if_le 38 dX6_mergeRuns_33 (by decide) hF (fun hF => ?_) (fun hF => ?_)
      · refine x_aload_n 0 dX6_mergeRuns_38 rfl rfl ?_
        refine x_aload_n 0 dX6_mergeRuns_39 rfl rfl ?_
        refine x_getr_r dX6_mergeRuns_40 fl_X6_7 hF (fun v13 hF => ?_)
        refine x_nn hF (fun a14 ha14 hF => ?_)
        rw [ha14]
        obtain ⟨z15, hzz15, hF⟩ := x_bind hF
        obtain ⟨⟨fsz15, hbz15⟩, hzz15⟩ := x_cv_sp hzz15
        refine x_callv (As := [.ref a14]) (rest := []) 0 0 dX6_mergeRuns_43 mi_X6_saves ml_X6_139 rfl rfl (Nat.le_of_ble_eq_true rfl) ⟨by decide, by decide⟩ (by omega) (by omega) hbz15 rfl (c_X6_saves N _ _ _ _ _ hzz15) (x_K.none ?_) x_KX.none
        refine x_aload_n 0 dX6_mergeRuns_46 rfl rfl ?_
        obtain ⟨z16, hzz16, hF⟩ := x_bind hF
        obtain ⟨⟨fsz16, hbz16⟩, hzz16⟩ := x_cv_sp hzz16
        refine x_callv (As := []) (rest := []) 0 0 dX6_mergeRuns_47 mi_X6_merges ml_X6_156 rfl rfl (Nat.le_of_ble_eq_true rfl) ⟨by decide, by decide⟩ (by omega) (by omega) hbz16 rfl (c_X6_merges N _ _ _ _ hzz16) (x_K.some ?_) x_KX.none
        exact x_iret dX6_mergeRuns_50 rfl (by cases hF; rfl)
      · refine x_iconst 0 (by decide) dX6_mergeRuns_36 ?_
        exact x_iret dX6_mergeRuns_37 rfl (by cases hF; rfl)
    · refine x_iconst 1 (by decide) dX6_mergeRuns_21 ?_
      refine x_goto 26 dX6_mergeRuns_22 (by decide) ?_
      refine x_puti_r dX6_mergeRuns_26 fl_X6_38 (fun h9 => by cases h9) hF (fun f17 hF => ?_)
      refine x_aload_n 0 dX6_mergeRuns_29 rfl rfl ?_
      refine x_geti_r dX6_mergeRuns_30 fl_X6_38 hF (fun v18 hF => ?_)
      refine x_if_le 38 dX6_mergeRuns_33 (by decide) hF (fun hF => ?_) (fun hF => ?_)
      · refine x_aload_n 0 dX6_mergeRuns_38 rfl rfl ?_
        refine x_aload_n 0 dX6_mergeRuns_39 rfl rfl ?_
        refine x_getr_r dX6_mergeRuns_40 fl_X6_7 hF (fun v19 hF => ?_)
        refine x_nn hF (fun a20 ha20 hF => ?_)
        rw [ha20]
        obtain ⟨z21, hzz21, hF⟩ := x_bind hF
        obtain ⟨⟨fsz21, hbz21⟩, hzz21⟩ := x_cv_sp hzz21
        refine x_callv (As := [.ref a20]) (rest := []) 0 0 dX6_mergeRuns_43 mi_X6_saves ml_X6_139 rfl rfl (Nat.le_of_ble_eq_true rfl) ⟨by decide, by decide⟩ (by omega) (by omega) hbz21 rfl (c_X6_saves N _ _ _ _ _ hzz21) (x_K.none ?_) x_KX.none
        refine x_aload_n 0 dX6_mergeRuns_46 rfl rfl ?_
        obtain ⟨z22, hzz22, hF⟩ := x_bind hF
        obtain ⟨⟨fsz22, hbz22⟩, hzz22⟩ := x_cv_sp hzz22
        refine x_callv (As := []) (rest := []) 0 0 dX6_mergeRuns_47 mi_X6_merges ml_X6_156 rfl rfl (Nat.le_of_ble_eq_true rfl) ⟨by decide, by decide⟩ (by omega) (by omega) hbz22 rfl (c_X6_merges N _ _ _ _ hzz22) (x_K.some ?_) x_KX.none
        exact x_iret dX6_mergeRuns_50 rfl (by cases hF; rfl)
      · refine x_iconst 0 (by decide) dX6_mergeRuns_36 ?_
        exact x_iret dX6_mergeRuns_37 rfl (by cases hF; rfl)
def F_X6_nextKey (N : Nat) (f : XM) (this : Nat) (p0 : Int32) : Option (Int32 × XM) :=
  (x_cv f 6 this (F_X6_keyBeside N f this p0 true)).bind fun z1 =>
  some (z1.1, z1.2)
set_option maxRecDepth 20000 in
set_option maxHeartbeats 4000000 in
theorem c_X6_nextKey (N : Nat) (f : XM) (this : Nat) (p0 : Int32) (n : Nat) (r : (Int32 × XM)) (hF : F_X6_nextKey N f this p0 = some r) : x_Ct mX6_nextKey 7 158 0 0 [.ref this, .int p0] (f, n) (xr_im r n) := by
  unfold F_X6_nextKey at hF
  refine x_ct (by decide) rfl (Nat.le_of_ble_eq_true rfl) ?_
  show X mX6_nextKey 7 158 _ _ 0 0 0 [(0, .ref this), (1, .int p0)] [] (f, n)
  refine x_aload_n 0 dX6_nextKey_0 rfl rfl ?_
  refine x_iload_n 1 dX6_nextKey_1 rfl rfl ?_
  refine x_iconst 1 (by decide) dX6_nextKey_2 ?_
  obtain ⟨z1, hzz1, hF⟩ := x_bind hF
  obtain ⟨⟨fsz1, hbz1⟩, hzz1⟩ := x_cv_sp hzz1
  refine x_callv (As := [.int p0, .int (x_b true)]) (rest := []) 0 0 dX6_nextKey_3 mi_X6_keyBeside ml_X6_234 rfl rfl (Nat.le_of_ble_eq_true rfl) ⟨by decide, by decide⟩ (by omega) (by omega) hbz1 rfl (c_X6_keyBeside N _ _ _ _ _ _ hzz1) (x_K.some ?_) x_KX.none
  exact x_iret dX6_nextKey_6 rfl (by cases hF; rfl)
def F_X6_nodesAt (N : Nat) (f : XM) (this : Nat) (p0 : Int32) : Option (Int32 × XM) :=
  (x_cv f 6 this (F_X6_isLevel N f this p0)).bind fun z1 =>
  if (x_b z1) = 0 then
    (x_puti f 6 this 11 1).bind fun f2 =>
    (x_geti f2 6 this 11).bind fun v3 =>
    if v3 ≤ 0 then
      (x_cv f2 6 this (F_X6_nodes N f2 this p0)).bind fun z4 =>
      some (z4, f2)
    else
      some (0, f2)
  else
    (x_puti f 6 this 11 0).bind fun f5 =>
    (x_geti f5 6 this 11).bind fun v6 =>
    if v6 ≤ 0 then
      (x_cv f5 6 this (F_X6_nodes N f5 this p0)).bind fun z7 =>
      some (z7, f5)
    else
      some (0, f5)
set_option maxRecDepth 20000 in
set_option maxHeartbeats 4000000 in
theorem c_X6_nodesAt (N : Nat) (f : XM) (this : Nat) (p0 : Int32) (n : Nat) (r : (Int32 × XM)) (hF : F_X6_nodesAt N f this p0 = some r) : x_Ct mX6_nodesAt 3 65 0 0 [.ref this, .int p0] (f, n) (xr_im r n) := by
  unfold F_X6_nodesAt at hF
  refine x_ct (by decide) rfl (Nat.le_of_ble_eq_true rfl) ?_
  show X mX6_nodesAt 3 65 _ _ 0 0 0 [(0, .ref this), (1, .int p0)] [] (f, n)
  refine x_aload_n 0 dX6_nodesAt_0 rfl rfl ?_
  refine x_aload_n 0 dX6_nodesAt_1 rfl rfl ?_
  refine x_iload_n 1 dX6_nodesAt_2 rfl rfl ?_
  obtain ⟨z1, hzz1, hF⟩ := x_bind hF
  obtain ⟨⟨fsz1, hbz1⟩, hzz1⟩ := x_cv_sp hzz1
  refine x_callv (As := [.int p0]) (rest := [.ref this]) 0 0 dX6_nodesAt_3 mi_X6_isLevel ml_X6_249 rfl rfl (Nat.le_of_ble_eq_true rfl) ⟨by decide, by decide⟩ (by omega) (by omega) hbz1 rfl (c_X6_isLevel N _ _ _ _ _ hzz1) (x_K.some ?_) x_KX.none
  refine x_if_eq 13 dX6_nodesAt_6 (by decide) hF (fun hF => ?_) (fun hF => ?_)
  · refine x_iconst 1 (by decide) dX6_nodesAt_13 ?_
    refine x_puti_r dX6_nodesAt_14 fl_X6_38 (fun h9 => by cases h9) hF (fun f2 hF => ?_)
    refine x_aload_n 0 dX6_nodesAt_17 rfl rfl ?_
    refine x_geti_r dX6_nodesAt_18 fl_X6_38 hF (fun v3 hF => ?_)
    refine x_if_le 28 dX6_nodesAt_21 (by decide) hF (fun hF => ?_) (fun hF => ?_)
    · refine x_aload_n 0 dX6_nodesAt_28 rfl rfl ?_
      refine x_iload_n 1 dX6_nodesAt_29 rfl rfl ?_
      obtain ⟨z4, hzz4, hF⟩ := x_bind hF
      obtain ⟨⟨fsz4, hbz4⟩, hzz4⟩ := x_cv_sp hzz4
      refine x_callv (As := [.int p0]) (rest := []) 0 0 dX6_nodesAt_30 mi_X6_nodes ml_X6_252 rfl rfl (Nat.le_of_ble_eq_true rfl) ⟨by decide, by decide⟩ (by omega) (by omega) hbz4 rfl (c_X6_nodes N _ _ _ _ _ hzz4) (x_K.some ?_) x_KX.none
      exact x_iret dX6_nodesAt_33 rfl (by cases hF; rfl)
    · refine x_iconst 0 (by decide) dX6_nodesAt_24 ?_
      refine x_goto 33 dX6_nodesAt_25 (by decide) ?_
      exact x_iret dX6_nodesAt_33 rfl (by cases hF; rfl)
  · refine x_iconst 0 (by decide) dX6_nodesAt_9 ?_
    refine x_goto 14 dX6_nodesAt_10 (by decide) ?_
    refine x_puti_r dX6_nodesAt_14 fl_X6_38 (fun h9 => by cases h9) hF (fun f5 hF => ?_)
    refine x_aload_n 0 dX6_nodesAt_17 rfl rfl ?_
    refine x_geti_r dX6_nodesAt_18 fl_X6_38 hF (fun v6 hF => ?_)
    refine x_if_le 28 dX6_nodesAt_21 (by decide) hF (fun hF => ?_) (fun hF => ?_)
    · refine x_aload_n 0 dX6_nodesAt_28 rfl rfl ?_
      refine x_iload_n 1 dX6_nodesAt_29 rfl rfl ?_
      obtain ⟨z7, hzz7, hF⟩ := x_bind hF
      obtain ⟨⟨fsz7, hbz7⟩, hzz7⟩ := x_cv_sp hzz7
      refine x_callv (As := [.int p0]) (rest := []) 0 0 dX6_nodesAt_30 mi_X6_nodes ml_X6_252 rfl rfl (Nat.le_of_ble_eq_true rfl) ⟨by decide, by decide⟩ (by omega) (by omega) hbz7 rfl (c_X6_nodes N _ _ _ _ _ hzz7) (x_K.some ?_) x_KX.none
      exact x_iret dX6_nodesAt_33 rfl (by cases hF; rfl)
    · refine x_iconst 0 (by decide) dX6_nodesAt_24 ?_
      refine x_goto 33 dX6_nodesAt_25 (by decide) ?_
      exact x_iret dX6_nodesAt_33 rfl (by cases hF; rfl)
def F_X6_overflowLeaves (N : Nat) (f : XM) (this : Nat) (p0 : Int32) : Option (Int32 × XM) :=
  (x_cv f 6 this (F_X6_isLeaf N f this p0)).bind fun z1 =>
  if (x_b z1) = 0 then
    (x_puti f 6 this 11 1).bind fun f2 =>
    (x_geti f2 6 this 11).bind fun v3 =>
    if v3 ≤ 0 then
      (x_cv f2 6 this (F_X6_overs N f2 this p0)).bind fun z4 =>
      some (z4, f2)
    else
      some (0, f2)
  else
    (x_puti f 6 this 11 0).bind fun f5 =>
    (x_geti f5 6 this 11).bind fun v6 =>
    if v6 ≤ 0 then
      (x_cv f5 6 this (F_X6_overs N f5 this p0)).bind fun z7 =>
      some (z7, f5)
    else
      some (0, f5)
set_option maxRecDepth 20000 in
set_option maxHeartbeats 4000000 in
theorem c_X6_overflowLeaves (N : Nat) (f : XM) (this : Nat) (p0 : Int32) (n : Nat) (r : (Int32 × XM)) (hF : F_X6_overflowLeaves N f this p0 = some r) : x_Ct mX6_overflowLeaves 3 66 0 0 [.ref this, .int p0] (f, n) (xr_im r n) := by
  unfold F_X6_overflowLeaves at hF
  refine x_ct (by decide) rfl (Nat.le_of_ble_eq_true rfl) ?_
  show X mX6_overflowLeaves 3 66 _ _ 0 0 0 [(0, .ref this), (1, .int p0)] [] (f, n)
  refine x_aload_n 0 dX6_overflowLeaves_0 rfl rfl ?_
  refine x_aload_n 0 dX6_overflowLeaves_1 rfl rfl ?_
  refine x_iload_n 1 dX6_overflowLeaves_2 rfl rfl ?_
  obtain ⟨z1, hzz1, hF⟩ := x_bind hF
  obtain ⟨⟨fsz1, hbz1⟩, hzz1⟩ := x_cv_sp hzz1
  refine x_callv (As := [.int p0]) (rest := [.ref this]) 0 0 dX6_overflowLeaves_3 mi_X6_isLeaf ml_X6_243 rfl rfl (Nat.le_of_ble_eq_true rfl) ⟨by decide, by decide⟩ (by omega) (by omega) hbz1 rfl (c_X6_isLeaf N _ _ _ _ _ hzz1) (x_K.some ?_) x_KX.none
  refine x_if_eq 13 dX6_overflowLeaves_6 (by decide) hF (fun hF => ?_) (fun hF => ?_)
  · refine x_iconst 1 (by decide) dX6_overflowLeaves_13 ?_
    refine x_puti_r dX6_overflowLeaves_14 fl_X6_38 (fun h9 => by cases h9) hF (fun f2 hF => ?_)
    refine x_aload_n 0 dX6_overflowLeaves_17 rfl rfl ?_
    refine x_geti_r dX6_overflowLeaves_18 fl_X6_38 hF (fun v3 hF => ?_)
    refine x_if_le 28 dX6_overflowLeaves_21 (by decide) hF (fun hF => ?_) (fun hF => ?_)
    · refine x_aload_n 0 dX6_overflowLeaves_28 rfl rfl ?_
      refine x_iload_n 1 dX6_overflowLeaves_29 rfl rfl ?_
      obtain ⟨z4, hzz4, hF⟩ := x_bind hF
      obtain ⟨⟨fsz4, hbz4⟩, hzz4⟩ := x_cv_sp hzz4
      refine x_callv (As := [.int p0]) (rest := []) 0 0 dX6_overflowLeaves_30 mi_X6_overs ml_X6_123 rfl rfl (Nat.le_of_ble_eq_true rfl) ⟨by decide, by decide⟩ (by omega) (by omega) hbz4 rfl (c_X6_overs N _ _ _ _ _ hzz4) (x_K.some ?_) x_KX.none
      exact x_iret dX6_overflowLeaves_33 rfl (by cases hF; rfl)
    · refine x_iconst 0 (by decide) dX6_overflowLeaves_24 ?_
      refine x_goto 33 dX6_overflowLeaves_25 (by decide) ?_
      exact x_iret dX6_overflowLeaves_33 rfl (by cases hF; rfl)
  · refine x_iconst 0 (by decide) dX6_overflowLeaves_9 ?_
    refine x_goto 14 dX6_overflowLeaves_10 (by decide) ?_
    refine x_puti_r dX6_overflowLeaves_14 fl_X6_38 (fun h9 => by cases h9) hF (fun f5 hF => ?_)
    refine x_aload_n 0 dX6_overflowLeaves_17 rfl rfl ?_
    refine x_geti_r dX6_overflowLeaves_18 fl_X6_38 hF (fun v6 hF => ?_)
    refine x_if_le 28 dX6_overflowLeaves_21 (by decide) hF (fun hF => ?_) (fun hF => ?_)
    · refine x_aload_n 0 dX6_overflowLeaves_28 rfl rfl ?_
      refine x_iload_n 1 dX6_overflowLeaves_29 rfl rfl ?_
      obtain ⟨z7, hzz7, hF⟩ := x_bind hF
      obtain ⟨⟨fsz7, hbz7⟩, hzz7⟩ := x_cv_sp hzz7
      refine x_callv (As := [.int p0]) (rest := []) 0 0 dX6_overflowLeaves_30 mi_X6_overs ml_X6_123 rfl rfl (Nat.le_of_ble_eq_true rfl) ⟨by decide, by decide⟩ (by omega) (by omega) hbz7 rfl (c_X6_overs N _ _ _ _ _ hzz7) (x_K.some ?_) x_KX.none
      exact x_iret dX6_overflowLeaves_33 rfl (by cases hF; rfl)
    · refine x_iconst 0 (by decide) dX6_overflowLeaves_24 ?_
      refine x_goto 33 dX6_overflowLeaves_25 (by decide) ?_
      exact x_iret dX6_overflowLeaves_33 rfl (by cases hF; rfl)
def F_X6_overflowOf (N : Nat) (f : XM) (this : Nat) (p0 : Int32) : Option (Int32 × XM) :=
  (x_cv f 6 this (F_X6_isLeaf N f this p0)).bind fun z1 =>
  if (x_b z1) = 0 then
    (x_puti f 6 this 11 1).bind fun f2 =>
    (x_geti f2 6 this 11).bind fun v3 =>
    if v3 ≤ 0 then
      (x_cv f2 6 this (F_X6_over N f2 this p0)).bind fun z4 =>
      some (z4, f2)
    else
      some (0, f2)
  else
    (x_puti f 6 this 11 0).bind fun f5 =>
    (x_geti f5 6 this 11).bind fun v6 =>
    if v6 ≤ 0 then
      (x_cv f5 6 this (F_X6_over N f5 this p0)).bind fun z7 =>
      some (z7, f5)
    else
      some (0, f5)
set_option maxRecDepth 20000 in
set_option maxHeartbeats 4000000 in
theorem c_X6_overflowOf (N : Nat) (f : XM) (this : Nat) (p0 : Int32) (n : Nat) (r : (Int32 × XM)) (hF : F_X6_overflowOf N f this p0 = some r) : x_Ct mX6_overflowOf 2 45 0 0 [.ref this, .int p0] (f, n) (xr_im r n) := by
  unfold F_X6_overflowOf at hF
  refine x_ct (by decide) rfl (Nat.le_of_ble_eq_true rfl) ?_
  show X mX6_overflowOf 2 45 _ _ 0 0 0 [(0, .ref this), (1, .int p0)] [] (f, n)
  refine x_aload_n 0 dX6_overflowOf_0 rfl rfl ?_
  refine x_aload_n 0 dX6_overflowOf_1 rfl rfl ?_
  refine x_iload_n 1 dX6_overflowOf_2 rfl rfl ?_
  obtain ⟨z1, hzz1, hF⟩ := x_bind hF
  obtain ⟨⟨fsz1, hbz1⟩, hzz1⟩ := x_cv_sp hzz1
  refine x_callv (As := [.int p0]) (rest := [.ref this]) 0 0 dX6_overflowOf_3 mi_X6_isLeaf ml_X6_243 rfl rfl (Nat.le_of_ble_eq_true rfl) ⟨by decide, by decide⟩ (by omega) (by omega) hbz1 rfl (c_X6_isLeaf N _ _ _ _ _ hzz1) (x_K.some ?_) x_KX.none
  refine x_if_eq 13 dX6_overflowOf_6 (by decide) hF (fun hF => ?_) (fun hF => ?_)
  · refine x_iconst 1 (by decide) dX6_overflowOf_13 ?_
    refine x_puti_r dX6_overflowOf_14 fl_X6_38 (fun h9 => by cases h9) hF (fun f2 hF => ?_)
    refine x_aload_n 0 dX6_overflowOf_17 rfl rfl ?_
    refine x_geti_r dX6_overflowOf_18 fl_X6_38 hF (fun v3 hF => ?_)
    refine x_if_le 28 dX6_overflowOf_21 (by decide) hF (fun hF => ?_) (fun hF => ?_)
    · refine x_aload_n 0 dX6_overflowOf_28 rfl rfl ?_
      refine x_iload_n 1 dX6_overflowOf_29 rfl rfl ?_
      obtain ⟨z4, hzz4, hF⟩ := x_bind hF
      obtain ⟨⟨fsz4, hbz4⟩, hzz4⟩ := x_cv_sp hzz4
      refine x_callv (As := [.int p0]) (rest := []) 0 0 dX6_overflowOf_30 mi_X6_over ml_X6_78 rfl rfl (Nat.le_of_ble_eq_true rfl) ⟨by decide, by decide⟩ (by omega) (by omega) hbz4 rfl (c_X6_over N _ _ _ _ _ hzz4) (x_K.some ?_) x_KX.none
      exact x_iret dX6_overflowOf_33 rfl (by cases hF; rfl)
    · refine x_iconst 0 (by decide) dX6_overflowOf_24 ?_
      refine x_goto 33 dX6_overflowOf_25 (by decide) ?_
      exact x_iret dX6_overflowOf_33 rfl (by cases hF; rfl)
  · refine x_iconst 0 (by decide) dX6_overflowOf_9 ?_
    refine x_goto 14 dX6_overflowOf_10 (by decide) ?_
    refine x_puti_r dX6_overflowOf_14 fl_X6_38 (fun h9 => by cases h9) hF (fun f5 hF => ?_)
    refine x_aload_n 0 dX6_overflowOf_17 rfl rfl ?_
    refine x_geti_r dX6_overflowOf_18 fl_X6_38 hF (fun v6 hF => ?_)
    refine x_if_le 28 dX6_overflowOf_21 (by decide) hF (fun hF => ?_) (fun hF => ?_)
    · refine x_aload_n 0 dX6_overflowOf_28 rfl rfl ?_
      refine x_iload_n 1 dX6_overflowOf_29 rfl rfl ?_
      obtain ⟨z7, hzz7, hF⟩ := x_bind hF
      obtain ⟨⟨fsz7, hbz7⟩, hzz7⟩ := x_cv_sp hzz7
      refine x_callv (As := [.int p0]) (rest := []) 0 0 dX6_overflowOf_30 mi_X6_over ml_X6_78 rfl rfl (Nat.le_of_ble_eq_true rfl) ⟨by decide, by decide⟩ (by omega) (by omega) hbz7 rfl (c_X6_over N _ _ _ _ _ hzz7) (x_K.some ?_) x_KX.none
      exact x_iret dX6_overflowOf_33 rfl (by cases hF; rfl)
    · refine x_iconst 0 (by decide) dX6_overflowOf_24 ?_
      refine x_goto 33 dX6_overflowOf_25 (by decide) ?_
      exact x_iret dX6_overflowOf_33 rfl (by cases hF; rfl)
def F_X6_overflowShare (N : Nat) (f : XM) (this : Nat) : Option (UInt64 × XM) :=
  (x_puti f 6 this 11 0).bind fun f1 =>
  (x_cv f1 6 this (F_X6_share N f1 this)).bind fun z2 =>
  some (z2, f1)
set_option maxRecDepth 20000 in
set_option maxHeartbeats 4000000 in
theorem c_X6_overflowShare (N : Nat) (f : XM) (this : Nat) (n : Nat) (r : (UInt64 × XM)) (hF : F_X6_overflowShare N f this = some r) : x_Ct mX6_overflowShare 2 45 0 0 [.ref this] (f, n) (xr_dm r n) := by
  unfold F_X6_overflowShare at hF
  refine x_ct (by decide) rfl (Nat.le_of_ble_eq_true rfl) ?_
  show X mX6_overflowShare 2 45 _ _ 0 0 0 [(0, .ref this)] [] (f, n)
  refine x_aload_n 0 dX6_overflowShare_0 rfl rfl ?_
  refine x_iconst 0 (by decide) dX6_overflowShare_1 ?_
  refine x_puti_r dX6_overflowShare_2 fl_X6_38 (fun h9 => by cases h9) hF (fun f1 hF => ?_)
  refine x_aload_n 0 dX6_overflowShare_5 rfl rfl ?_
  obtain ⟨z2, hzz2, hF⟩ := x_bind hF
  obtain ⟨⟨fsz2, hbz2⟩, hzz2⟩ := x_cv_sp hzz2
  refine x_callv (As := []) (rest := []) 0 0 dX6_overflowShare_6 mi_X6_share ml_X6_267 rfl rfl (Nat.le_of_ble_eq_true rfl) ⟨by decide, by decide⟩ (by omega) (by omega) hbz2 rfl (c_X6_share N _ _ _ _ hzz2) (x_K.some ?_) x_KX.none
  exact x_dret dX6_overflowShare_9 rfl (by cases hF; rfl)
def F_X6_pagesFor (N : Nat) (f : XM) (this : Nat) (p0 : Int32) : Option (Int32 × XM) :=
  (F_X6_isKey N f p0).bind fun z1 =>
  if (x_b z1) = 0 then
    (x_puti f 6 this 11 1).bind fun f2 =>
    (x_geti f2 6 this 11).bind fun v3 =>
    if v3 ≤ 0 then
      (x_cv f2 6 this (F_X6_pages N f2 this p0)).bind fun z4 =>
      some (z4, f2)
    else
      some (0, f2)
  else
    (x_puti f 6 this 11 0).bind fun f5 =>
    (x_geti f5 6 this 11).bind fun v6 =>
    if v6 ≤ 0 then
      (x_cv f5 6 this (F_X6_pages N f5 this p0)).bind fun z7 =>
      some (z7, f5)
    else
      some (0, f5)
set_option maxRecDepth 20000 in
set_option maxHeartbeats 4000000 in
theorem c_X6_pagesFor (N : Nat) (f : XM) (this : Nat) (p0 : Int32) (n : Nat) (r : (Int32 × XM)) (hF : F_X6_pagesFor N f this p0 = some r) : x_Ct mX6_pagesFor 4 89 0 0 [.ref this, .int p0] (f, n) (xr_im r n) := by
  unfold F_X6_pagesFor at hF
  refine x_ct (by decide) rfl (Nat.le_of_ble_eq_true rfl) ?_
  show X mX6_pagesFor 4 89 _ _ 0 0 0 [(0, .ref this), (1, .int p0)] [] (f, n)
  refine x_aload_n 0 dX6_pagesFor_0 rfl rfl ?_
  refine x_iload_n 1 dX6_pagesFor_1 rfl rfl ?_
  obtain ⟨z1, hzz1, hF⟩ := x_bind hF
  refine x_calls (As := [.int p0]) (rest := [.ref this]) 0 0 dX6_pagesFor_2 mi_X6_isKey rfl ml_X6_129 rfl rfl (Nat.le_of_ble_eq_true rfl) ⟨by decide, by decide⟩ (by omega) (by omega) (c_X6_isKey N _ _ _ _ hzz1) (x_K.some ?_) x_KX.none
  refine x_if_eq 12 dX6_pagesFor_5 (by decide) hF (fun hF => ?_) (fun hF => ?_)
  · refine x_iconst 1 (by decide) dX6_pagesFor_12 ?_
    refine x_puti_r dX6_pagesFor_13 fl_X6_38 (fun h9 => by cases h9) hF (fun f2 hF => ?_)
    refine x_aload_n 0 dX6_pagesFor_16 rfl rfl ?_
    refine x_geti_r dX6_pagesFor_17 fl_X6_38 hF (fun v3 hF => ?_)
    refine x_if_le 27 dX6_pagesFor_20 (by decide) hF (fun hF => ?_) (fun hF => ?_)
    · refine x_aload_n 0 dX6_pagesFor_27 rfl rfl ?_
      refine x_iload_n 1 dX6_pagesFor_28 rfl rfl ?_
      obtain ⟨z4, hzz4, hF⟩ := x_bind hF
      obtain ⟨⟨fsz4, hbz4⟩, hzz4⟩ := x_cv_sp hzz4
      refine x_callv (As := [.int p0]) (rest := []) 0 0 dX6_pagesFor_29 mi_X6_pages ml_X6_221 rfl rfl (Nat.le_of_ble_eq_true rfl) ⟨by decide, by decide⟩ (by omega) (by omega) hbz4 rfl (c_X6_pages N _ _ _ _ _ hzz4) (x_K.some ?_) x_KX.none
      exact x_iret dX6_pagesFor_32 rfl (by cases hF; rfl)
    · refine x_iconst 0 (by decide) dX6_pagesFor_23 ?_
      refine x_goto 32 dX6_pagesFor_24 (by decide) ?_
      exact x_iret dX6_pagesFor_32 rfl (by cases hF; rfl)
  · refine x_iconst 0 (by decide) dX6_pagesFor_8 ?_
    refine x_goto 13 dX6_pagesFor_9 (by decide) ?_
    refine x_puti_r dX6_pagesFor_13 fl_X6_38 (fun h9 => by cases h9) hF (fun f5 hF => ?_)
    refine x_aload_n 0 dX6_pagesFor_16 rfl rfl ?_
    refine x_geti_r dX6_pagesFor_17 fl_X6_38 hF (fun v6 hF => ?_)
    refine x_if_le 27 dX6_pagesFor_20 (by decide) hF (fun hF => ?_) (fun hF => ?_)
    · refine x_aload_n 0 dX6_pagesFor_27 rfl rfl ?_
      refine x_iload_n 1 dX6_pagesFor_28 rfl rfl ?_
      obtain ⟨z7, hzz7, hF⟩ := x_bind hF
      obtain ⟨⟨fsz7, hbz7⟩, hzz7⟩ := x_cv_sp hzz7
      refine x_callv (As := [.int p0]) (rest := []) 0 0 dX6_pagesFor_29 mi_X6_pages ml_X6_221 rfl rfl (Nat.le_of_ble_eq_true rfl) ⟨by decide, by decide⟩ (by omega) (by omega) hbz7 rfl (c_X6_pages N _ _ _ _ _ hzz7) (x_K.some ?_) x_KX.none
      exact x_iret dX6_pagesFor_32 rfl (by cases hF; rfl)
    · refine x_iconst 0 (by decide) dX6_pagesFor_23 ?_
      refine x_goto 32 dX6_pagesFor_24 (by decide) ?_
      exact x_iret dX6_pagesFor_32 rfl (by cases hF; rfl)
def F_X6_put (N : Nat) (f : XM) (this : Nat) (p0 : Int32) (p1 : Int32) : Option (Int32 × XM) :=
  (F_X6_isKey N f p0).bind fun z1 =>
  if (x_b z1) = 0 then
    (x_puti f 6 this 11 1).bind fun f2 =>
    (x_geti f2 6 this 11).bind fun v3 =>
    if v3 ≤ 0 then
      (x_getr f2 6 this 0).bind fun v4 =>
      Option.bind v4 fun a5 =>
      (x_cv f2 6 this (F_X6_saves N f2 this a5)).bind fun z6 =>
      (x_cv z6 6 this (F_X6_tells N z6 this p0 p1)).bind fun z7 =>
      some (z7.1, z7.2)
    else
      some (0, f2)
  else
    (F_X6_isValue N f p1).bind fun z8 =>
    if (x_b z8) = 0 then
      (x_puti f 6 this 11 1).bind fun f22 =>
      (x_geti f22 6 this 11).bind fun v23 =>
      if v23 ≤ 0 then
        (x_getr f22 6 this 0).bind fun v24 =>
        Option.bind v24 fun a25 =>
        (x_cv f22 6 this (F_X6_saves N f22 this a25)).bind fun z26 =>
        (x_cv z26 6 this (F_X6_tells N z26 this p0 p1)).bind fun z27 =>
        some (z27.1, z27.2)
      else
        some (0, f22)
    else
      (x_cv f 6 this (F_X6_canWrite N f this p0)).bind fun z9 =>
      if (x_b z9) = 0 then
        (x_puti f 6 this 11 2).bind fun f10 =>
        (x_geti f10 6 this 11).bind fun v11 =>
        if v11 ≤ 0 then
          (x_getr f10 6 this 0).bind fun v12 =>
          Option.bind v12 fun a13 =>
          (x_cv f10 6 this (F_X6_saves N f10 this a13)).bind fun z14 =>
          (x_cv z14 6 this (F_X6_tells N z14 this p0 p1)).bind fun z15 =>
          some (z15.1, z15.2)
        else
          some (0, f10)
      else
        (x_puti f 6 this 11 0).bind fun f16 =>
        (x_geti f16 6 this 11).bind fun v17 =>
        if v17 ≤ 0 then
          (x_getr f16 6 this 0).bind fun v18 =>
          Option.bind v18 fun a19 =>
          (x_cv f16 6 this (F_X6_saves N f16 this a19)).bind fun z20 =>
          (x_cv z20 6 this (F_X6_tells N z20 this p0 p1)).bind fun z21 =>
          some (z21.1, z21.2)
        else
          some (0, f16)
set_option maxRecDepth 20000 in
set_option maxHeartbeats 4000000 in
theorem c_X6_put (N : Nat) (f : XM) (this : Nat) (p0 : Int32) (p1 : Int32) (n : Nat) (r : (Int32 × XM)) (hF : F_X6_put N f this p0 p1 = some r) : x_Ct mX6_put 4 92 0 0 [.ref this, .int p0, .int p1] (f, n) (xr_im r n) := by
  unfold F_X6_put at hF
  refine x_ct (by decide) rfl (Nat.le_of_ble_eq_true rfl) ?_
  show X mX6_put 4 92 _ _ 0 0 0 [(0, .ref this), (1, .int p0), (2, .int p1)] [] (f, n)
  refine x_aload_n 0 dX6_put_0 rfl rfl ?_
  refine x_iload_n 1 dX6_put_1 rfl rfl ?_
  obtain ⟨z1, hzz1, hF⟩ := x_bind hF
  refine x_calls (As := [.int p0]) (rest := [.ref this]) 0 0 dX6_put_2 mi_X6_isKey rfl ml_X6_129 rfl rfl (Nat.le_of_ble_eq_true rfl) ⟨by decide, by decide⟩ (by omega) (by omega) (c_X6_isKey N _ _ _ _ hzz1) (x_K.some ?_) x_KX.none
  refine x_if_eq 15 dX6_put_5 (by decide) hF (fun hF => ?_) (fun hF => ?_)
  · refine x_iconst 1 (by decide) dX6_put_15 ?_
    refine x_goto 32 dX6_put_16 (by decide) ?_
    refine x_puti_r dX6_put_32 fl_X6_38 (fun h9 => by cases h9) hF (fun f2 hF => ?_)
    refine x_aload_n 0 dX6_put_35 rfl rfl ?_
    refine x_geti_r dX6_put_36 fl_X6_38 hF (fun v3 hF => ?_)
    refine x_if_le 44 dX6_put_39 (by decide) hF (fun hF => ?_) (fun hF => ?_)
    · refine x_aload_n 0 dX6_put_44 rfl rfl ?_
      refine x_aload_n 0 dX6_put_45 rfl rfl ?_
      refine x_getr_r dX6_put_46 fl_X6_7 hF (fun v4 hF => ?_)
      refine x_nn hF (fun a5 ha5 hF => ?_)
      rw [ha5]
      obtain ⟨z6, hzz6, hF⟩ := x_bind hF
      obtain ⟨⟨fsz6, hbz6⟩, hzz6⟩ := x_cv_sp hzz6
      refine x_callv (As := [.ref a5]) (rest := []) 0 0 dX6_put_49 mi_X6_saves ml_X6_139 rfl rfl (Nat.le_of_ble_eq_true rfl) ⟨by decide, by decide⟩ (by omega) (by omega) hbz6 rfl (c_X6_saves N _ _ _ _ _ hzz6) (x_K.none ?_) x_KX.none
      refine x_aload_n 0 dX6_put_52 rfl rfl ?_
      refine x_iload_n 1 dX6_put_53 rfl rfl ?_
      refine x_iload_n 2 dX6_put_54 rfl rfl ?_
      obtain ⟨z7, hzz7, hF⟩ := x_bind hF
      obtain ⟨⟨fsz7, hbz7⟩, hzz7⟩ := x_cv_sp hzz7
      refine x_callv (As := [.int p0, .int p1]) (rest := []) 0 0 dX6_put_55 mi_X6_tells ml_X6_143 rfl rfl (Nat.le_of_ble_eq_true rfl) ⟨by decide, by decide⟩ (by omega) (by omega) hbz7 rfl (c_X6_tells N _ _ _ _ _ _ hzz7) (x_K.some ?_) x_KX.none
      exact x_iret dX6_put_58 rfl (by cases hF; rfl)
    · refine x_iconst 0 (by decide) dX6_put_42 ?_
      exact x_iret dX6_put_43 rfl (by cases hF; rfl)
  · refine x_iload_n 2 dX6_put_8 rfl rfl ?_
    obtain ⟨z8, hzz8, hF⟩ := x_bind hF
    refine x_calls (As := [.int p1]) (rest := [.ref this]) 0 0 dX6_put_9 mi_X6_isValue rfl ml_X6_133 rfl rfl (Nat.le_of_ble_eq_true rfl) ⟨by decide, by decide⟩ (by omega) (by omega) (c_X6_isValue N _ _ _ _ hzz8) (x_K.some ?_) x_KX.none
    refine x_if_ne 19 dX6_put_12 (by decide) hF (fun hF => ?_) (fun hF => ?_)
    · refine x_aload_n 0 dX6_put_19 rfl rfl ?_
      refine x_iload_n 1 dX6_put_20 rfl rfl ?_
      obtain ⟨z9, hzz9, hF⟩ := x_bind hF
      obtain ⟨⟨fsz9, hbz9⟩, hzz9⟩ := x_cv_sp hzz9
      refine x_callv (As := [.int p0]) (rest := [.ref this]) 0 0 dX6_put_21 mi_X6_canWrite ml_X6_136 rfl rfl (Nat.le_of_ble_eq_true rfl) ⟨by decide, by decide⟩ (by omega) (by omega) hbz9 rfl (c_X6_canWrite N _ _ _ _ _ hzz9) (x_K.some ?_) x_KX.none
      refine x_if_eq 31 dX6_put_24 (by decide) hF (fun hF => ?_) (fun hF => ?_)
      · refine x_iconst 2 (by decide) dX6_put_31 ?_
        refine x_puti_r dX6_put_32 fl_X6_38 (fun h9 => by cases h9) hF (fun f10 hF => ?_)
        refine x_aload_n 0 dX6_put_35 rfl rfl ?_
        refine x_geti_r dX6_put_36 fl_X6_38 hF (fun v11 hF => ?_)
        refine x_if_le 44 dX6_put_39 (by decide) hF (fun hF => ?_) (fun hF => ?_)
        · refine x_aload_n 0 dX6_put_44 rfl rfl ?_
          refine x_aload_n 0 dX6_put_45 rfl rfl ?_
          refine x_getr_r dX6_put_46 fl_X6_7 hF (fun v12 hF => ?_)
          refine x_nn hF (fun a13 ha13 hF => ?_)
          rw [ha13]
          obtain ⟨z14, hzz14, hF⟩ := x_bind hF
          obtain ⟨⟨fsz14, hbz14⟩, hzz14⟩ := x_cv_sp hzz14
          refine x_callv (As := [.ref a13]) (rest := []) 0 0 dX6_put_49 mi_X6_saves ml_X6_139 rfl rfl (Nat.le_of_ble_eq_true rfl) ⟨by decide, by decide⟩ (by omega) (by omega) hbz14 rfl (c_X6_saves N _ _ _ _ _ hzz14) (x_K.none ?_) x_KX.none
          refine x_aload_n 0 dX6_put_52 rfl rfl ?_
          refine x_iload_n 1 dX6_put_53 rfl rfl ?_
          refine x_iload_n 2 dX6_put_54 rfl rfl ?_
          obtain ⟨z15, hzz15, hF⟩ := x_bind hF
          obtain ⟨⟨fsz15, hbz15⟩, hzz15⟩ := x_cv_sp hzz15
          refine x_callv (As := [.int p0, .int p1]) (rest := []) 0 0 dX6_put_55 mi_X6_tells ml_X6_143 rfl rfl (Nat.le_of_ble_eq_true rfl) ⟨by decide, by decide⟩ (by omega) (by omega) hbz15 rfl (c_X6_tells N _ _ _ _ _ _ hzz15) (x_K.some ?_) x_KX.none
          exact x_iret dX6_put_58 rfl (by cases hF; rfl)
        · refine x_iconst 0 (by decide) dX6_put_42 ?_
          exact x_iret dX6_put_43 rfl (by cases hF; rfl)
      · refine x_iconst 0 (by decide) dX6_put_27 ?_
        refine x_goto 32 dX6_put_28 (by decide) ?_
        refine x_puti_r dX6_put_32 fl_X6_38 (fun h9 => by cases h9) hF (fun f16 hF => ?_)
        refine x_aload_n 0 dX6_put_35 rfl rfl ?_
        refine x_geti_r dX6_put_36 fl_X6_38 hF (fun v17 hF => ?_)
        refine x_if_le 44 dX6_put_39 (by decide) hF (fun hF => ?_) (fun hF => ?_)
        · refine x_aload_n 0 dX6_put_44 rfl rfl ?_
          refine x_aload_n 0 dX6_put_45 rfl rfl ?_
          refine x_getr_r dX6_put_46 fl_X6_7 hF (fun v18 hF => ?_)
          refine x_nn hF (fun a19 ha19 hF => ?_)
          rw [ha19]
          obtain ⟨z20, hzz20, hF⟩ := x_bind hF
          obtain ⟨⟨fsz20, hbz20⟩, hzz20⟩ := x_cv_sp hzz20
          refine x_callv (As := [.ref a19]) (rest := []) 0 0 dX6_put_49 mi_X6_saves ml_X6_139 rfl rfl (Nat.le_of_ble_eq_true rfl) ⟨by decide, by decide⟩ (by omega) (by omega) hbz20 rfl (c_X6_saves N _ _ _ _ _ hzz20) (x_K.none ?_) x_KX.none
          refine x_aload_n 0 dX6_put_52 rfl rfl ?_
          refine x_iload_n 1 dX6_put_53 rfl rfl ?_
          refine x_iload_n 2 dX6_put_54 rfl rfl ?_
          obtain ⟨z21, hzz21, hF⟩ := x_bind hF
          obtain ⟨⟨fsz21, hbz21⟩, hzz21⟩ := x_cv_sp hzz21
          refine x_callv (As := [.int p0, .int p1]) (rest := []) 0 0 dX6_put_55 mi_X6_tells ml_X6_143 rfl rfl (Nat.le_of_ble_eq_true rfl) ⟨by decide, by decide⟩ (by omega) (by omega) hbz21 rfl (c_X6_tells N _ _ _ _ _ _ hzz21) (x_K.some ?_) x_KX.none
          exact x_iret dX6_put_58 rfl (by cases hF; rfl)
        · refine x_iconst 0 (by decide) dX6_put_42 ?_
          exact x_iret dX6_put_43 rfl (by cases hF; rfl)
    · refine x_iconst 1 (by decide) dX6_put_15 ?_
      refine x_goto 32 dX6_put_16 (by decide) ?_
      refine x_puti_r dX6_put_32 fl_X6_38 (fun h9 => by cases h9) hF (fun f22 hF => ?_)
      refine x_aload_n 0 dX6_put_35 rfl rfl ?_
      refine x_geti_r dX6_put_36 fl_X6_38 hF (fun v23 hF => ?_)
      refine x_if_le 44 dX6_put_39 (by decide) hF (fun hF => ?_) (fun hF => ?_)
      · refine x_aload_n 0 dX6_put_44 rfl rfl ?_
        refine x_aload_n 0 dX6_put_45 rfl rfl ?_
        refine x_getr_r dX6_put_46 fl_X6_7 hF (fun v24 hF => ?_)
        refine x_nn hF (fun a25 ha25 hF => ?_)
        rw [ha25]
        obtain ⟨z26, hzz26, hF⟩ := x_bind hF
        obtain ⟨⟨fsz26, hbz26⟩, hzz26⟩ := x_cv_sp hzz26
        refine x_callv (As := [.ref a25]) (rest := []) 0 0 dX6_put_49 mi_X6_saves ml_X6_139 rfl rfl (Nat.le_of_ble_eq_true rfl) ⟨by decide, by decide⟩ (by omega) (by omega) hbz26 rfl (c_X6_saves N _ _ _ _ _ hzz26) (x_K.none ?_) x_KX.none
        refine x_aload_n 0 dX6_put_52 rfl rfl ?_
        refine x_iload_n 1 dX6_put_53 rfl rfl ?_
        refine x_iload_n 2 dX6_put_54 rfl rfl ?_
        obtain ⟨z27, hzz27, hF⟩ := x_bind hF
        obtain ⟨⟨fsz27, hbz27⟩, hzz27⟩ := x_cv_sp hzz27
        refine x_callv (As := [.int p0, .int p1]) (rest := []) 0 0 dX6_put_55 mi_X6_tells ml_X6_143 rfl rfl (Nat.le_of_ble_eq_true rfl) ⟨by decide, by decide⟩ (by omega) (by omega) hbz27 rfl (c_X6_tells N _ _ _ _ _ _ hzz27) (x_K.some ?_) x_KX.none
        exact x_iret dX6_put_58 rfl (by cases hF; rfl)
      · refine x_iconst 0 (by decide) dX6_put_42 ?_
        exact x_iret dX6_put_43 rfl (by cases hF; rfl)
def F_X6_runOf (N : Nat) (f : XM) (this : Nat) (p0 : Int32) : Option (Int32 × XM) :=
  (F_X6_isKey N f p0).bind fun z1 =>
  if (x_b z1) = 0 then
    (x_puti f 6 this 11 1).bind fun f9 =>
    (x_geti f9 6 this 11).bind fun v10 =>
    if v10 ≤ 0 then
      (x_cv f9 6 this (F_X6_runWith N f9 this p0)).bind fun z11 =>
      some (z11, f9)
    else
      some (0, f9)
  else
    (x_cv f 6 this (F_X6_runWith N f this p0)).bind fun z2 =>
    if z2 = (-1) then
      (x_puti f 6 this 11 2).bind fun f6 =>
      (x_geti f6 6 this 11).bind fun v7 =>
      if v7 ≤ 0 then
        (x_cv f6 6 this (F_X6_runWith N f6 this p0)).bind fun z8 =>
        some (z8, f6)
      else
        some (0, f6)
    else
      (x_puti f 6 this 11 0).bind fun f3 =>
      (x_geti f3 6 this 11).bind fun v4 =>
      if v4 ≤ 0 then
        (x_cv f3 6 this (F_X6_runWith N f3 this p0)).bind fun z5 =>
        some (z5, f3)
      else
        some (0, f3)
set_option maxRecDepth 20000 in
set_option maxHeartbeats 4000000 in
theorem c_X6_runOf (N : Nat) (f : XM) (this : Nat) (p0 : Int32) (n : Nat) (r : (Int32 × XM)) (hF : F_X6_runOf N f this p0 = some r) : x_Ct mX6_runOf 3 67 0 0 [.ref this, .int p0] (f, n) (xr_im r n) := by
  unfold F_X6_runOf at hF
  refine x_ct (by decide) rfl (Nat.le_of_ble_eq_true rfl) ?_
  show X mX6_runOf 3 67 _ _ 0 0 0 [(0, .ref this), (1, .int p0)] [] (f, n)
  refine x_aload_n 0 dX6_runOf_0 rfl rfl ?_
  refine x_iload_n 1 dX6_runOf_1 rfl rfl ?_
  obtain ⟨z1, hzz1, hF⟩ := x_bind hF
  refine x_calls (As := [.int p0]) (rest := [.ref this]) 0 0 dX6_runOf_2 mi_X6_isKey rfl ml_X6_129 rfl rfl (Nat.le_of_ble_eq_true rfl) ⟨by decide, by decide⟩ (by omega) (by omega) (c_X6_isKey N _ _ _ _ hzz1) (x_K.some ?_) x_KX.none
  refine x_if_ne 12 dX6_runOf_5 (by decide) hF (fun hF => ?_) (fun hF => ?_)
  · refine x_aload_n 0 dX6_runOf_12 rfl rfl ?_
    refine x_iload_n 1 dX6_runOf_13 rfl rfl ?_
    obtain ⟨z2, hzz2, hF⟩ := x_bind hF
    obtain ⟨⟨fsz2, hbz2⟩, hzz2⟩ := x_cv_sp hzz2
    refine x_callv (As := [.int p0]) (rest := [.ref this]) 0 0 dX6_runOf_14 mi_X6_runWith ml_X6_85 rfl rfl (Nat.le_of_ble_eq_true rfl) ⟨by decide, by decide⟩ (by omega) (by omega) hbz2 rfl (c_X6_runWith N _ _ _ _ _ hzz2) (x_K.some ?_) x_KX.none
    refine x_iconst (-1) (by decide) dX6_runOf_17 ?_
    refine x_icmp_ne 25 dX6_runOf_18 (by decide) hF (fun hF => ?_) (fun hF => ?_)
    · refine x_iconst 0 (by decide) dX6_runOf_25 ?_
      refine x_puti_r dX6_runOf_26 fl_X6_38 (fun h9 => by cases h9) hF (fun f3 hF => ?_)
      refine x_aload_n 0 dX6_runOf_29 rfl rfl ?_
      refine x_geti_r dX6_runOf_30 fl_X6_38 hF (fun v4 hF => ?_)
      refine x_if_le 40 dX6_runOf_33 (by decide) hF (fun hF => ?_) (fun hF => ?_)
      · refine x_aload_n 0 dX6_runOf_40 rfl rfl ?_
        refine x_iload_n 1 dX6_runOf_41 rfl rfl ?_
        obtain ⟨z5, hzz5, hF⟩ := x_bind hF
        obtain ⟨⟨fsz5, hbz5⟩, hzz5⟩ := x_cv_sp hzz5
        refine x_callv (As := [.int p0]) (rest := []) 0 0 dX6_runOf_42 mi_X6_runWith ml_X6_85 rfl rfl (Nat.le_of_ble_eq_true rfl) ⟨by decide, by decide⟩ (by omega) (by omega) hbz5 rfl (c_X6_runWith N _ _ _ _ _ hzz5) (x_K.some ?_) x_KX.none
        exact x_iret dX6_runOf_45 rfl (by cases hF; rfl)
      · refine x_iconst 0 (by decide) dX6_runOf_36 ?_
        refine x_goto 45 dX6_runOf_37 (by decide) ?_
        exact x_iret dX6_runOf_45 rfl (by cases hF; rfl)
    · refine x_iconst 2 (by decide) dX6_runOf_21 ?_
      refine x_goto 26 dX6_runOf_22 (by decide) ?_
      refine x_puti_r dX6_runOf_26 fl_X6_38 (fun h9 => by cases h9) hF (fun f6 hF => ?_)
      refine x_aload_n 0 dX6_runOf_29 rfl rfl ?_
      refine x_geti_r dX6_runOf_30 fl_X6_38 hF (fun v7 hF => ?_)
      refine x_if_le 40 dX6_runOf_33 (by decide) hF (fun hF => ?_) (fun hF => ?_)
      · refine x_aload_n 0 dX6_runOf_40 rfl rfl ?_
        refine x_iload_n 1 dX6_runOf_41 rfl rfl ?_
        obtain ⟨z8, hzz8, hF⟩ := x_bind hF
        obtain ⟨⟨fsz8, hbz8⟩, hzz8⟩ := x_cv_sp hzz8
        refine x_callv (As := [.int p0]) (rest := []) 0 0 dX6_runOf_42 mi_X6_runWith ml_X6_85 rfl rfl (Nat.le_of_ble_eq_true rfl) ⟨by decide, by decide⟩ (by omega) (by omega) hbz8 rfl (c_X6_runWith N _ _ _ _ _ hzz8) (x_K.some ?_) x_KX.none
        exact x_iret dX6_runOf_45 rfl (by cases hF; rfl)
      · refine x_iconst 0 (by decide) dX6_runOf_36 ?_
        refine x_goto 45 dX6_runOf_37 (by decide) ?_
        exact x_iret dX6_runOf_45 rfl (by cases hF; rfl)
  · refine x_iconst 1 (by decide) dX6_runOf_8 ?_
    refine x_goto 26 dX6_runOf_9 (by decide) ?_
    refine x_puti_r dX6_runOf_26 fl_X6_38 (fun h9 => by cases h9) hF (fun f9 hF => ?_)
    refine x_aload_n 0 dX6_runOf_29 rfl rfl ?_
    refine x_geti_r dX6_runOf_30 fl_X6_38 hF (fun v10 hF => ?_)
    refine x_if_le 40 dX6_runOf_33 (by decide) hF (fun hF => ?_) (fun hF => ?_)
    · refine x_aload_n 0 dX6_runOf_40 rfl rfl ?_
      refine x_iload_n 1 dX6_runOf_41 rfl rfl ?_
      obtain ⟨z11, hzz11, hF⟩ := x_bind hF
      obtain ⟨⟨fsz11, hbz11⟩, hzz11⟩ := x_cv_sp hzz11
      refine x_callv (As := [.int p0]) (rest := []) 0 0 dX6_runOf_42 mi_X6_runWith ml_X6_85 rfl rfl (Nat.le_of_ble_eq_true rfl) ⟨by decide, by decide⟩ (by omega) (by omega) hbz11 rfl (c_X6_runWith N _ _ _ _ _ hzz11) (x_K.some ?_) x_KX.none
      exact x_iret dX6_runOf_45 rfl (by cases hF; rfl)
    · refine x_iconst 0 (by decide) dX6_runOf_36 ?_
      refine x_goto 45 dX6_runOf_37 (by decide) ?_
      exact x_iret dX6_runOf_45 rfl (by cases hF; rfl)
def F_X6_runs (N : Nat) (f : XM) (this : Nat) : Option (Int32 × XM) :=
  (x_puti f 6 this 11 0).bind fun f1 =>
  (x_getr f1 6 this 0).bind fun v2 =>
  Option.bind v2 fun a3 =>
  (x_ald f1 a3 6).bind fun v4 =>
  some (v4, f1)
set_option maxRecDepth 20000 in
set_option maxHeartbeats 4000000 in
theorem c_X6_runs (N : Nat) (f : XM) (this : Nat) (n : Nat) (r : (Int32 × XM)) (hF : F_X6_runs N f this = some r) : x_Ct mX6_runs 0 0 0 0 [.ref this] (f, n) (xr_im r n) := by
  unfold F_X6_runs at hF
  refine x_ct (by decide) rfl (Nat.le_of_ble_eq_true rfl) ?_
  show X mX6_runs 0 0 _ _ 0 0 0 [(0, .ref this)] [] (f, n)
  refine x_aload_n 0 dX6_runs_0 rfl rfl ?_
  refine x_iconst 0 (by decide) dX6_runs_1 ?_
  refine x_puti_r dX6_runs_2 fl_X6_38 (fun h9 => by cases h9) hF (fun f1 hF => ?_)
  refine x_aload_n 0 dX6_runs_5 rfl rfl ?_
  refine x_getr_r dX6_runs_6 fl_X6_7 hF (fun v2 hF => ?_)
  refine x_bipush 6 (by decide) dX6_runs_9 ?_
  refine x_nn hF (fun a3 ha3 hF => ?_)
  rw [ha3]
  refine x_ald_r dX6_runs_11 hF (fun v4 hF => ?_)
  exact x_iret dX6_runs_12 rfl (by cases hF; rfl)
def F_X6_savedStates (N : Nat) (f : XM) (this : Nat) : Option (Int32 × XM) :=
  (x_puti f 6 this 11 0).bind fun f1 =>
  (x_geti f1 6 this 2).bind fun v2 =>
  some (v2, f1)
set_option maxRecDepth 20000 in
set_option maxHeartbeats 4000000 in
theorem c_X6_savedStates (N : Nat) (f : XM) (this : Nat) (n : Nat) (r : (Int32 × XM)) (hF : F_X6_savedStates N f this = some r) : x_Ct mX6_savedStates 0 0 0 0 [.ref this] (f, n) (xr_im r n) := by
  unfold F_X6_savedStates at hF
  refine x_ct (by decide) rfl (Nat.le_of_ble_eq_true rfl) ?_
  show X mX6_savedStates 0 0 _ _ 0 0 0 [(0, .ref this)] [] (f, n)
  refine x_aload_n 0 dX6_savedStates_0 rfl rfl ?_
  refine x_iconst 0 (by decide) dX6_savedStates_1 ?_
  refine x_puti_r dX6_savedStates_2 fl_X6_38 (fun h9 => by cases h9) hF (fun f1 hF => ?_)
  refine x_aload_n 0 dX6_savedStates_5 rfl rfl ?_
  refine x_geti_r dX6_savedStates_6 fl_X6_42 hF (fun v2 hF => ?_)
  exact x_iret dX6_savedStates_9 rfl (by cases hF; rfl)
def F_X6_sizeOf (N : Nat) (f : XM) (this : Nat) (p0 : Int32) : Option (Int32 × XM) :=
  (x_cv f 6 this (F_X6_isRun N f this p0)).bind fun z1 =>
  if (x_b z1) = 0 then
    (x_puti f 6 this 11 1).bind fun f2 =>
    (x_geti f2 6 this 11).bind fun v3 =>
    if v3 ≤ 0 then
      (x_cv f2 6 this (F_X6_size N f2 this p0)).bind fun z4 =>
      some (z4, f2)
    else
      some (0, f2)
  else
    (x_puti f 6 this 11 0).bind fun f5 =>
    (x_geti f5 6 this 11).bind fun v6 =>
    if v6 ≤ 0 then
      (x_cv f5 6 this (F_X6_size N f5 this p0)).bind fun z7 =>
      some (z7, f5)
    else
      some (0, f5)
set_option maxRecDepth 20000 in
set_option maxHeartbeats 4000000 in
theorem c_X6_sizeOf (N : Nat) (f : XM) (this : Nat) (p0 : Int32) (n : Nat) (r : (Int32 × XM)) (hF : F_X6_sizeOf N f this p0 = some r) : x_Ct mX6_sizeOf 2 43 0 0 [.ref this, .int p0] (f, n) (xr_im r n) := by
  unfold F_X6_sizeOf at hF
  refine x_ct (by decide) rfl (Nat.le_of_ble_eq_true rfl) ?_
  show X mX6_sizeOf 2 43 _ _ 0 0 0 [(0, .ref this), (1, .int p0)] [] (f, n)
  refine x_aload_n 0 dX6_sizeOf_0 rfl rfl ?_
  refine x_aload_n 0 dX6_sizeOf_1 rfl rfl ?_
  refine x_iload_n 1 dX6_sizeOf_2 rfl rfl ?_
  obtain ⟨z1, hzz1, hF⟩ := x_bind hF
  obtain ⟨⟨fsz1, hbz1⟩, hzz1⟩ := x_cv_sp hzz1
  refine x_callv (As := [.int p0]) (rest := [.ref this]) 0 0 dX6_sizeOf_3 mi_X6_isRun ml_X6_237 rfl rfl (Nat.le_of_ble_eq_true rfl) ⟨by decide, by decide⟩ (by omega) (by omega) hbz1 rfl (c_X6_isRun N _ _ _ _ _ hzz1) (x_K.some ?_) x_KX.none
  refine x_if_eq 13 dX6_sizeOf_6 (by decide) hF (fun hF => ?_) (fun hF => ?_)
  · refine x_iconst 1 (by decide) dX6_sizeOf_13 ?_
    refine x_puti_r dX6_sizeOf_14 fl_X6_38 (fun h9 => by cases h9) hF (fun f2 hF => ?_)
    refine x_aload_n 0 dX6_sizeOf_17 rfl rfl ?_
    refine x_geti_r dX6_sizeOf_18 fl_X6_38 hF (fun v3 hF => ?_)
    refine x_if_le 28 dX6_sizeOf_21 (by decide) hF (fun hF => ?_) (fun hF => ?_)
    · refine x_aload_n 0 dX6_sizeOf_28 rfl rfl ?_
      refine x_iload_n 1 dX6_sizeOf_29 rfl rfl ?_
      obtain ⟨z4, hzz4, hF⟩ := x_bind hF
      obtain ⟨⟨fsz4, hbz4⟩, hzz4⟩ := x_cv_sp hzz4
      refine x_callv (As := [.int p0]) (rest := []) 0 0 dX6_sizeOf_30 mi_X6_size ml_X6_54 rfl rfl (Nat.le_of_ble_eq_true rfl) ⟨by decide, by decide⟩ (by omega) (by omega) hbz4 rfl (c_X6_size N _ _ _ _ _ hzz4) (x_K.some ?_) x_KX.none
      exact x_iret dX6_sizeOf_33 rfl (by cases hF; rfl)
    · refine x_iconst 0 (by decide) dX6_sizeOf_24 ?_
      refine x_goto 33 dX6_sizeOf_25 (by decide) ?_
      exact x_iret dX6_sizeOf_33 rfl (by cases hF; rfl)
  · refine x_iconst 0 (by decide) dX6_sizeOf_9 ?_
    refine x_goto 14 dX6_sizeOf_10 (by decide) ?_
    refine x_puti_r dX6_sizeOf_14 fl_X6_38 (fun h9 => by cases h9) hF (fun f5 hF => ?_)
    refine x_aload_n 0 dX6_sizeOf_17 rfl rfl ?_
    refine x_geti_r dX6_sizeOf_18 fl_X6_38 hF (fun v6 hF => ?_)
    refine x_if_le 28 dX6_sizeOf_21 (by decide) hF (fun hF => ?_) (fun hF => ?_)
    · refine x_aload_n 0 dX6_sizeOf_28 rfl rfl ?_
      refine x_iload_n 1 dX6_sizeOf_29 rfl rfl ?_
      obtain ⟨z7, hzz7, hF⟩ := x_bind hF
      obtain ⟨⟨fsz7, hbz7⟩, hzz7⟩ := x_cv_sp hzz7
      refine x_callv (As := [.int p0]) (rest := []) 0 0 dX6_sizeOf_30 mi_X6_size ml_X6_54 rfl rfl (Nat.le_of_ble_eq_true rfl) ⟨by decide, by decide⟩ (by omega) (by omega) hbz7 rfl (c_X6_size N _ _ _ _ _ hzz7) (x_K.some ?_) x_KX.none
      exact x_iret dX6_sizeOf_33 rfl (by cases hF; rfl)
    · refine x_iconst 0 (by decide) dX6_sizeOf_24 ?_
      refine x_goto 33 dX6_sizeOf_25 (by decide) ?_
      exact x_iret dX6_sizeOf_33 rfl (by cases hF; rfl)
def F_X6_thrown (N : Nat) (f : XM) (this : Nat) : Option Int32 :=
  (x_geti f 6 this 11).bind fun v1 =>
  some v1
set_option maxRecDepth 20000 in
set_option maxHeartbeats 4000000 in
theorem c_X6_thrown (N : Nat) (f : XM) (this : Nat) (n : Nat) (r : Int32) (hF : F_X6_thrown N f this = some r) : x_Ct mX6_thrown 0 0 0 0 [.ref this] (f, n) (xr_ip r (f, n)) := by
  unfold F_X6_thrown at hF
  refine x_ct (by decide) rfl (Nat.le_of_ble_eq_true rfl) ?_
  show X mX6_thrown 0 0 _ _ 0 0 0 [(0, .ref this)] [] (f, n)
  refine x_aload_n 0 dX6_thrown_0 rfl rfl ?_
  refine x_geti_r dX6_thrown_1 fl_X6_38 hF (fun v1 hF => ?_)
  exact x_iret dX6_thrown_4 rfl (by cases hF; rfl)
def F_X6_told (N : Nat) (f : XM) (this : Nat) : Option (Int32 × XM) :=
  (x_puti f 6 this 11 0).bind fun f1 =>
  (x_cv f1 6 this (F_X6_allTold N f1 this)).bind fun z2 =>
  some (z2, f1)
set_option maxRecDepth 20000 in
set_option maxHeartbeats 4000000 in
theorem c_X6_told (N : Nat) (f : XM) (this : Nat) (n : Nat) (r : (Int32 × XM)) (hF : F_X6_told N f this = some r) : x_Ct mX6_told 2 43 0 0 [.ref this] (f, n) (xr_im r n) := by
  unfold F_X6_told at hF
  refine x_ct (by decide) rfl (Nat.le_of_ble_eq_true rfl) ?_
  show X mX6_told 2 43 _ _ 0 0 0 [(0, .ref this)] [] (f, n)
  refine x_aload_n 0 dX6_told_0 rfl rfl ?_
  refine x_iconst 0 (by decide) dX6_told_1 ?_
  refine x_puti_r dX6_told_2 fl_X6_38 (fun h9 => by cases h9) hF (fun f1 hF => ?_)
  refine x_aload_n 0 dX6_told_5 rfl rfl ?_
  obtain ⟨z2, hzz2, hF⟩ := x_bind hF
  obtain ⟨⟨fsz2, hbz2⟩, hzz2⟩ := x_cv_sp hzz2
  refine x_callv (As := []) (rest := []) 0 0 dX6_told_6 mi_X6_allTold ml_X6_264 rfl rfl (Nat.le_of_ble_eq_true rfl) ⟨by decide, by decide⟩ (by omega) (by omega) hbz2 rfl (c_X6_allTold N _ _ _ _ hzz2) (x_K.some ?_) x_KX.none
  exact x_iret dX6_told_9 rfl (by cases hF; rfl)
def F_X6_undo (N : Nat) (f : XM) (this : Nat) : Option XM :=
  (x_geti f 6 this 2).bind fun v1 =>
  if v1 = 0 then
    (x_puti f 6 this 11 1).bind fun f12 =>
    (x_geti f12 6 this 11).bind fun v13 =>
    if v13 = 0 then
      (x_geti f12 6 this 2).bind fun v14 =>
      (x_puti f12 6 this 2 (v14 - 1)).bind fun f15 =>
      (x_getr f15 6 this 1).bind fun v16 =>
      (x_geti f15 6 this 2).bind fun v17 =>
      (x_getr f15 6 this 0).bind fun v18 =>
      Option.bind v18 fun a19 =>
      Option.bind v16 fun a20 =>
      (F_X6_lays N f15 a20 (6696 * v17) a19 0).bind fun z21 =>
      some z21
    else
      some f12
  else
    (x_puti f 6 this 11 0).bind fun f2 =>
    (x_geti f2 6 this 11).bind fun v3 =>
    if v3 = 0 then
      (x_geti f2 6 this 2).bind fun v4 =>
      (x_puti f2 6 this 2 (v4 - 1)).bind fun f5 =>
      (x_getr f5 6 this 1).bind fun v6 =>
      (x_geti f5 6 this 2).bind fun v7 =>
      (x_getr f5 6 this 0).bind fun v8 =>
      Option.bind v8 fun a9 =>
      Option.bind v6 fun a10 =>
      (F_X6_lays N f5 a10 (6696 * v7) a9 0).bind fun z11 =>
      some z11
    else
      some f2
set_option maxRecDepth 20000 in
set_option maxHeartbeats 4000000 in
theorem c_X6_undo (N : Nat) (f : XM) (this : Nat) (n : Nat) (r : XM) (hF : F_X6_undo N f this = some r) : x_Ct mX6_undo 1 24 0 0 [.ref this] (f, n) (xr_vm r n) := by
  unfold F_X6_undo at hF
  refine x_ct (by decide) rfl (Nat.le_of_ble_eq_true rfl) ?_
  show X mX6_undo 1 24 _ _ 0 0 0 [(0, .ref this)] [] (f, n)
  refine x_aload_n 0 dX6_undo_0 rfl rfl ?_
  refine x_aload_n 0 dX6_undo_1 rfl rfl ?_
  refine x_geti_r dX6_undo_2 fl_X6_42 hF (fun v1 hF => ?_)
  refine x_if_ne 12 dX6_undo_5 (by decide) hF (fun hF => ?_) (fun hF => ?_)
  · refine x_iconst 0 (by decide) dX6_undo_12 ?_
    refine x_puti_r dX6_undo_13 fl_X6_38 (fun h9 => by cases h9) hF (fun f2 hF => ?_)
    refine x_aload_n 0 dX6_undo_16 rfl rfl ?_
    refine x_geti_r dX6_undo_17 fl_X6_38 hF (fun v3 hF => ?_)
    refine x_if_ne 53 dX6_undo_20 (by decide) hF (fun hF => ?_) (fun hF => ?_)
    · exact x_vret dX6_undo_53 rfl (by cases hF; rfl)
    · refine x_aload_n 0 dX6_undo_23 rfl rfl ?_
      refine x_dupr dX6_undo_24 ?_
      refine x_geti_r dX6_undo_25 fl_X6_42 hF (fun v4 hF => ?_)
      refine x_iconst 1 (by decide) dX6_undo_28 ?_
      refine x_isub dX6_undo_29 ?_
      refine x_puti_r dX6_undo_30 fl_X6_42 (fun h9 => by cases h9) hF (fun f5 hF => ?_)
      refine x_aload_n 0 dX6_undo_33 rfl rfl ?_
      refine x_getr_r dX6_undo_34 fl_X6_14 hF (fun v6 hF => ?_)
      refine x_sipush 6696 (by decide) dX6_undo_37 ?_
      refine x_aload_n 0 dX6_undo_40 rfl rfl ?_
      refine x_geti_r dX6_undo_41 fl_X6_42 hF (fun v7 hF => ?_)
      refine x_imul dX6_undo_44 ?_
      refine x_aload_n 0 dX6_undo_45 rfl rfl ?_
      refine x_getr_r dX6_undo_46 fl_X6_7 hF (fun v8 hF => ?_)
      refine x_iconst 0 (by decide) dX6_undo_49 ?_
      refine x_nn hF (fun a9 ha9 hF => ?_)
      rw [ha9]
      refine x_nn hF (fun a10 ha10 hF => ?_)
      rw [ha10]
      obtain ⟨z11, hzz11, hF⟩ := x_bind hF
      refine x_calls (As := [.ref a10, .int (6696 * v7), .ref a9, .int 0]) (rest := []) 0 0 dX6_undo_50 mi_X6_lays rfl ml_X6_46 rfl rfl (Nat.le_of_ble_eq_true rfl) ⟨by decide, by decide⟩ (by omega) (by omega) (c_X6_lays N _ _ _ _ _ _ _ hzz11) (x_K.none ?_) x_KX.none
      exact x_vret dX6_undo_53 rfl (by cases hF; rfl)
  · refine x_iconst 1 (by decide) dX6_undo_8 ?_
    refine x_goto 13 dX6_undo_9 (by decide) ?_
    refine x_puti_r dX6_undo_13 fl_X6_38 (fun h9 => by cases h9) hF (fun f12 hF => ?_)
    refine x_aload_n 0 dX6_undo_16 rfl rfl ?_
    refine x_geti_r dX6_undo_17 fl_X6_38 hF (fun v13 hF => ?_)
    refine x_if_ne 53 dX6_undo_20 (by decide) hF (fun hF => ?_) (fun hF => ?_)
    · exact x_vret dX6_undo_53 rfl (by cases hF; rfl)
    · refine x_aload_n 0 dX6_undo_23 rfl rfl ?_
      refine x_dupr dX6_undo_24 ?_
      refine x_geti_r dX6_undo_25 fl_X6_42 hF (fun v14 hF => ?_)
      refine x_iconst 1 (by decide) dX6_undo_28 ?_
      refine x_isub dX6_undo_29 ?_
      refine x_puti_r dX6_undo_30 fl_X6_42 (fun h9 => by cases h9) hF (fun f15 hF => ?_)
      refine x_aload_n 0 dX6_undo_33 rfl rfl ?_
      refine x_getr_r dX6_undo_34 fl_X6_14 hF (fun v16 hF => ?_)
      refine x_sipush 6696 (by decide) dX6_undo_37 ?_
      refine x_aload_n 0 dX6_undo_40 rfl rfl ?_
      refine x_geti_r dX6_undo_41 fl_X6_42 hF (fun v17 hF => ?_)
      refine x_imul dX6_undo_44 ?_
      refine x_aload_n 0 dX6_undo_45 rfl rfl ?_
      refine x_getr_r dX6_undo_46 fl_X6_7 hF (fun v18 hF => ?_)
      refine x_iconst 0 (by decide) dX6_undo_49 ?_
      refine x_nn hF (fun a19 ha19 hF => ?_)
      rw [ha19]
      refine x_nn hF (fun a20 ha20 hF => ?_)
      rw [ha20]
      obtain ⟨z21, hzz21, hF⟩ := x_bind hF
      refine x_calls (As := [.ref a20, .int (6696 * v17), .ref a19, .int 0]) (rest := []) 0 0 dX6_undo_50 mi_X6_lays rfl ml_X6_46 rfl rfl (Nat.le_of_ble_eq_true rfl) ⟨by decide, by decide⟩ (by omega) (by omega) (c_X6_lays N _ _ _ _ _ _ _ hzz21) (x_K.none ?_) x_KX.none
      exact x_vret dX6_undo_53 rfl (by cases hF; rfl)
def F_X6_valueOf (N : Nat) (f : XM) (this : Nat) (p0 : Int32) : Option (Int32 × XM) :=
  (F_X6_isKey N f p0).bind fun z1 =>
  if (x_b z1) = 0 then
    (x_puti f 6 this 11 1).bind fun f9 =>
    (x_geti f9 6 this 11).bind fun v10 =>
    if v10 ≤ 0 then
      (x_cv f9 6 this (F_X6_valueBy N f9 this p0)).bind fun z11 =>
      some (z11, f9)
    else
      some (0, f9)
  else
    (x_cv f 6 this (F_X6_valueBy N f this p0)).bind fun z2 =>
    if z2 = (-1) then
      (x_puti f 6 this 11 2).bind fun f6 =>
      (x_geti f6 6 this 11).bind fun v7 =>
      if v7 ≤ 0 then
        (x_cv f6 6 this (F_X6_valueBy N f6 this p0)).bind fun z8 =>
        some (z8, f6)
      else
        some (0, f6)
    else
      (x_puti f 6 this 11 0).bind fun f3 =>
      (x_geti f3 6 this 11).bind fun v4 =>
      if v4 ≤ 0 then
        (x_cv f3 6 this (F_X6_valueBy N f3 this p0)).bind fun z5 =>
        some (z5, f3)
      else
        some (0, f3)
set_option maxRecDepth 20000 in
set_option maxHeartbeats 4000000 in
theorem c_X6_valueOf (N : Nat) (f : XM) (this : Nat) (p0 : Int32) (n : Nat) (r : (Int32 × XM)) (hF : F_X6_valueOf N f this p0 = some r) : x_Ct mX6_valueOf 4 90 0 0 [.ref this, .int p0] (f, n) (xr_im r n) := by
  unfold F_X6_valueOf at hF
  refine x_ct (by decide) rfl (Nat.le_of_ble_eq_true rfl) ?_
  show X mX6_valueOf 4 90 _ _ 0 0 0 [(0, .ref this), (1, .int p0)] [] (f, n)
  refine x_aload_n 0 dX6_valueOf_0 rfl rfl ?_
  refine x_iload_n 1 dX6_valueOf_1 rfl rfl ?_
  obtain ⟨z1, hzz1, hF⟩ := x_bind hF
  refine x_calls (As := [.int p0]) (rest := [.ref this]) 0 0 dX6_valueOf_2 mi_X6_isKey rfl ml_X6_129 rfl rfl (Nat.le_of_ble_eq_true rfl) ⟨by decide, by decide⟩ (by omega) (by omega) (c_X6_isKey N _ _ _ _ hzz1) (x_K.some ?_) x_KX.none
  refine x_if_ne 12 dX6_valueOf_5 (by decide) hF (fun hF => ?_) (fun hF => ?_)
  · refine x_aload_n 0 dX6_valueOf_12 rfl rfl ?_
    refine x_iload_n 1 dX6_valueOf_13 rfl rfl ?_
    obtain ⟨z2, hzz2, hF⟩ := x_bind hF
    obtain ⟨⟨fsz2, hbz2⟩, hzz2⟩ := x_cv_sp hzz2
    refine x_callv (As := [.int p0]) (rest := [.ref this]) 0 0 dX6_valueOf_14 mi_X6_valueBy ml_X6_110 rfl rfl (Nat.le_of_ble_eq_true rfl) ⟨by decide, by decide⟩ (by omega) (by omega) hbz2 rfl (c_X6_valueBy N _ _ _ _ _ hzz2) (x_K.some ?_) x_KX.none
    refine x_iconst (-1) (by decide) dX6_valueOf_17 ?_
    refine x_icmp_ne 25 dX6_valueOf_18 (by decide) hF (fun hF => ?_) (fun hF => ?_)
    · refine x_iconst 0 (by decide) dX6_valueOf_25 ?_
      refine x_puti_r dX6_valueOf_26 fl_X6_38 (fun h9 => by cases h9) hF (fun f3 hF => ?_)
      refine x_aload_n 0 dX6_valueOf_29 rfl rfl ?_
      refine x_geti_r dX6_valueOf_30 fl_X6_38 hF (fun v4 hF => ?_)
      refine x_if_le 40 dX6_valueOf_33 (by decide) hF (fun hF => ?_) (fun hF => ?_)
      · refine x_aload_n 0 dX6_valueOf_40 rfl rfl ?_
        refine x_iload_n 1 dX6_valueOf_41 rfl rfl ?_
        obtain ⟨z5, hzz5, hF⟩ := x_bind hF
        obtain ⟨⟨fsz5, hbz5⟩, hzz5⟩ := x_cv_sp hzz5
        refine x_callv (As := [.int p0]) (rest := []) 0 0 dX6_valueOf_42 mi_X6_valueBy ml_X6_110 rfl rfl (Nat.le_of_ble_eq_true rfl) ⟨by decide, by decide⟩ (by omega) (by omega) hbz5 rfl (c_X6_valueBy N _ _ _ _ _ hzz5) (x_K.some ?_) x_KX.none
        exact x_iret dX6_valueOf_45 rfl (by cases hF; rfl)
      · refine x_iconst 0 (by decide) dX6_valueOf_36 ?_
        refine x_goto 45 dX6_valueOf_37 (by decide) ?_
        exact x_iret dX6_valueOf_45 rfl (by cases hF; rfl)
    · refine x_iconst 2 (by decide) dX6_valueOf_21 ?_
      refine x_goto 26 dX6_valueOf_22 (by decide) ?_
      refine x_puti_r dX6_valueOf_26 fl_X6_38 (fun h9 => by cases h9) hF (fun f6 hF => ?_)
      refine x_aload_n 0 dX6_valueOf_29 rfl rfl ?_
      refine x_geti_r dX6_valueOf_30 fl_X6_38 hF (fun v7 hF => ?_)
      refine x_if_le 40 dX6_valueOf_33 (by decide) hF (fun hF => ?_) (fun hF => ?_)
      · refine x_aload_n 0 dX6_valueOf_40 rfl rfl ?_
        refine x_iload_n 1 dX6_valueOf_41 rfl rfl ?_
        obtain ⟨z8, hzz8, hF⟩ := x_bind hF
        obtain ⟨⟨fsz8, hbz8⟩, hzz8⟩ := x_cv_sp hzz8
        refine x_callv (As := [.int p0]) (rest := []) 0 0 dX6_valueOf_42 mi_X6_valueBy ml_X6_110 rfl rfl (Nat.le_of_ble_eq_true rfl) ⟨by decide, by decide⟩ (by omega) (by omega) hbz8 rfl (c_X6_valueBy N _ _ _ _ _ hzz8) (x_K.some ?_) x_KX.none
        exact x_iret dX6_valueOf_45 rfl (by cases hF; rfl)
      · refine x_iconst 0 (by decide) dX6_valueOf_36 ?_
        refine x_goto 45 dX6_valueOf_37 (by decide) ?_
        exact x_iret dX6_valueOf_45 rfl (by cases hF; rfl)
  · refine x_iconst 1 (by decide) dX6_valueOf_8 ?_
    refine x_goto 26 dX6_valueOf_9 (by decide) ?_
    refine x_puti_r dX6_valueOf_26 fl_X6_38 (fun h9 => by cases h9) hF (fun f9 hF => ?_)
    refine x_aload_n 0 dX6_valueOf_29 rfl rfl ?_
    refine x_geti_r dX6_valueOf_30 fl_X6_38 hF (fun v10 hF => ?_)
    refine x_if_le 40 dX6_valueOf_33 (by decide) hF (fun hF => ?_) (fun hF => ?_)
    · refine x_aload_n 0 dX6_valueOf_40 rfl rfl ?_
      refine x_iload_n 1 dX6_valueOf_41 rfl rfl ?_
      obtain ⟨z11, hzz11, hF⟩ := x_bind hF
      obtain ⟨⟨fsz11, hbz11⟩, hzz11⟩ := x_cv_sp hzz11
      refine x_callv (As := [.int p0]) (rest := []) 0 0 dX6_valueOf_42 mi_X6_valueBy ml_X6_110 rfl rfl (Nat.le_of_ble_eq_true rfl) ⟨by decide, by decide⟩ (by omega) (by omega) hbz11 rfl (c_X6_valueBy N _ _ _ _ _ hzz11) (x_K.some ?_) x_KX.none
      exact x_iret dX6_valueOf_45 rfl (by cases hF; rfl)
    · refine x_iconst 0 (by decide) dX6_valueOf_36 ?_
      refine x_goto 45 dX6_valueOf_37 (by decide) ?_
      exact x_iret dX6_valueOf_45 rfl (by cases hF; rfl)
def F_X6_worstPages (N : Nat) (f : XM) (this : Nat) : Option (Int32 × XM) :=
  (x_puti f 6 this 11 0).bind fun f1 =>
  (x_cv f1 6 this (F_X6_worst N f1 this)).bind fun z2 =>
  some (z2.1, z2.2)
set_option maxRecDepth 20000 in
set_option maxHeartbeats 4000000 in
theorem c_X6_worstPages (N : Nat) (f : XM) (this : Nat) (n : Nat) (r : (Int32 × XM)) (hF : F_X6_worstPages N f this = some r) : x_Ct mX6_worstPages 6 135 0 0 [.ref this] (f, n) (xr_im r n) := by
  unfold F_X6_worstPages at hF
  refine x_ct (by decide) rfl (Nat.le_of_ble_eq_true rfl) ?_
  show X mX6_worstPages 6 135 _ _ 0 0 0 [(0, .ref this)] [] (f, n)
  refine x_aload_n 0 dX6_worstPages_0 rfl rfl ?_
  refine x_iconst 0 (by decide) dX6_worstPages_1 ?_
  refine x_puti_r dX6_worstPages_2 fl_X6_38 (fun h9 => by cases h9) hF (fun f1 hF => ?_)
  refine x_aload_n 0 dX6_worstPages_5 rfl rfl ?_
  obtain ⟨z2, hzz2, hF⟩ := x_bind hF
  obtain ⟨⟨fsz2, hbz2⟩, hzz2⟩ := x_cv_sp hzz2
  refine x_callv (As := []) (rest := []) 0 0 dX6_worstPages_6 mi_X6_worst ml_X6_274 rfl rfl (Nat.le_of_ble_eq_true rfl) ⟨by decide, by decide⟩ (by omega) (by omega) hbz2 rfl (c_X6_worst N _ _ _ _ hzz2) (x_K.some ?_) x_KX.none
  exact x_iret dX6_worstPages_9 rfl (by cases hF; rfl)
def F_X6_written (N : Nat) (f : XM) (this : Nat) : Option (Int32 × XM) :=
  (x_puti f 6 this 11 0).bind fun f1 =>
  (x_getr f1 6 this 0).bind fun v2 =>
  Option.bind v2 fun a3 =>
  (x_ald f1 a3 5).bind fun v4 =>
  some (v4, f1)
set_option maxRecDepth 20000 in
set_option maxHeartbeats 4000000 in
theorem c_X6_written (N : Nat) (f : XM) (this : Nat) (n : Nat) (r : (Int32 × XM)) (hF : F_X6_written N f this = some r) : x_Ct mX6_written 0 0 0 0 [.ref this] (f, n) (xr_im r n) := by
  unfold F_X6_written at hF
  refine x_ct (by decide) rfl (Nat.le_of_ble_eq_true rfl) ?_
  show X mX6_written 0 0 _ _ 0 0 0 [(0, .ref this)] [] (f, n)
  refine x_aload_n 0 dX6_written_0 rfl rfl ?_
  refine x_iconst 0 (by decide) dX6_written_1 ?_
  refine x_puti_r dX6_written_2 fl_X6_38 (fun h9 => by cases h9) hF (fun f1 hF => ?_)
  refine x_aload_n 0 dX6_written_5 rfl rfl ?_
  refine x_getr_r dX6_written_6 fl_X6_7 hF (fun v2 hF => ?_)
  refine x_iconst 5 (by decide) dX6_written_9 ?_
  refine x_nn hF (fun a3 ha3 hF => ?_)
  rw [ha3]
  refine x_ald_r dX6_written_10 hF (fun v4 hF => ?_)
  exact x_iret dX6_written_11 rfl (by cases hF; rfl)
