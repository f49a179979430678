def F_L_append (N : Nat) (h : XH) (p0 : Nat) (p1 : Int32) (p2 : Nat) : Option (Int32 × XM) :=
  (x_cv h.1 5 p0 (F_X5_append N h.1 p0 p1)).bind fun z1 =>
  x_se z1 (fun w2 =>
    (x_astl w2.2 p2 0 ((w2.1 : Int32).toInt64)).bind fun f4 =>
    some (0, f4))
    (fun e3 => if e3.1 = 0 then some (1, e3.2) else if e3.1 = 1 then some (2, e3.2) else none)
set_option maxRecDepth 20000 in
set_option maxHeartbeats 4000000 in
theorem c_L_append (N : Nat) (h : XH) (p0 : Nat) (p1 : Int32) (p2 : Nat) (r : (Int32 × XM)) (hF : F_L_append N h p0 p1 p2 = some r) : x_Cn mL_append 7 111 1 6 [.ref p0, .int p1, .ref p2] h (some (.int r.1), r.2) := by
  unfold F_L_append at hF
  refine x_cn (by decide) rfl (Nat.le_of_ble_eq_true rfl) ?_
  show X mL_append 7 111 _ _ 1 6 0 [(0, .ref p0), (1, .int p1), (2, .ref p2)] [] h
  refine x_aload_n 2 dL_append_0 rfl rfl ?_
  refine x_iconst 0 (by decide) dL_append_1 ?_
  refine x_aload_n 0 dL_append_2 rfl rfl ?_
  refine x_iload_n 1 dL_append_3 rfl rfl ?_
  obtain ⟨z1, hzz1, hF⟩ := x_bind hF
  obtain ⟨⟨fsz1, hbz1⟩, hzz1⟩ := x_cv_sp hzz1
  rcases z1 with w2 | e3
  · have hF := x_sel hF
    refine x_callv (As := [.int p1]) (rest := [.int 0, .ref p2]) 0 0 dL_append_4 mi_X5_append ml_L_43 rfl rfl (Nat.le_of_ble_eq_true rfl) ⟨by decide, by decide⟩ (by omega) (by omega) hbz1 rfl (c_X5_append N _ _ _ _ _ hzz1) (x_K.some ?_) x_KX.none
    refine x_i2l dL_append_7 ?_
    refine x_astl_r dL_append_8 hF (fun f4 hF => ?_)
    refine x_goto 18 dL_append_9 (by decide) ?_
    refine x_iconst 0 (by decide) dL_append_18 ?_
    exact x_iretn dL_append_19 rfl (by cases hF; rfl)
  · have hF := x_ser hF
    obtain ⟨e3c, e3f⟩ := e3
    by_cases hc0 : e3c = 0
    · subst hc0
      refine x_callv (As := [.int p1]) (rest := [.int 0, .ref p2]) 0 0 dL_append_4 mi_X5_append ml_L_43 rfl rfl (Nat.le_of_ble_eq_true rfl) ⟨by decide, by decide⟩ (by omega) (by omega) hbz1 rfl (c_X5_append N _ _ _ _ _ hzz1) x_K.inr (x_KX.catch (fun E hm hq => ?_))
      cases hq
      refine ⟨[], ⟨0, 9, 12, 13⟩, [⟨0, 9, 15, 15⟩], rfl, (fun z hz => absurd hz List.not_mem_nil), by decide, by decide, lk_IAE, ca_IAE, fun n9 q9 => ?_⟩
      refine x_astore_n (lv' := [(3, .ref q9), (0, .ref p0), (1, .int p1), (2, .ref p2)]) dL_append_12 rfl (by decide) rfl ?_
      refine x_iconst 1 (by decide) dL_append_13 ?_
      exact x_iretn dL_append_14 rfl (by cases hF; rfl)
    have hF := x_ifn hc0 hF
    by_cases hc1 : e3c = 1
    · subst hc1
      refine x_callv (As := [.int p1]) (rest := [.int 0, .ref p2]) 0 0 dL_append_4 mi_X5_append ml_L_43 rfl rfl (Nat.le_of_ble_eq_true rfl) ⟨by decide, by decide⟩ (by omega) (by omega) hbz1 rfl (c_X5_append N _ _ _ _ _ hzz1) x_K.inr (x_KX.catch (fun E hm hq => ?_))
      cases hq
      refine ⟨[⟨0, 9, 12, 13⟩], ⟨0, 9, 15, 15⟩, [], rfl, (fun z hz => by cases List.mem_singleton.mp hz; exact Or.inr ⟨by decide, x_IAE, lk_IAE, Or.inl ⟨rfl, rfl⟩⟩), by decide, by decide, lk_ISE, ca_ISE, fun n9 q9 => ?_⟩
      refine x_astore_n (lv' := [(3, .ref q9), (0, .ref p0), (1, .int p1), (2, .ref p2)]) dL_append_15 rfl (by decide) rfl ?_
      refine x_iconst 2 (by decide) dL_append_16 ?_
      exact x_iretn dL_append_17 rfl (by cases hF; rfl)
    have hF := x_ifn hc1 hF
    cases hF
def F_L_boundOf (N : Nat) (h : XH) (p0 : Nat) (p1 : Int32) (p2 : Int32) (p3 : Nat) : Option (Int32 × XM) :=
  (x_cv h.1 5 p0 (F_X5_boundOf N h.1 p0 p1 p2)).bind fun z1 =>
  x_se z1 (fun w2 =>
    (x_astl h.1 p3 0 ((w2 : Int32).toInt64)).bind fun f4 =>
    some (0, f4))
    (fun e3 => if e3 = 2 then some (1, h.1) else none)
set_option maxRecDepth 20000 in
set_option maxHeartbeats 4000000 in
theorem c_L_boundOf (N : Nat) (h : XH) (p0 : Nat) (p1 : Int32) (p2 : Int32) (p3 : Nat) (r : (Int32 × XM)) (hF : F_L_boundOf N h p0 p1 p2 p3 = some r) : x_Cn mL_boundOf 8 134 2 12 [.ref p0, .int p1, .int p2, .ref p3] h (some (.int r.1), r.2) := by
  unfold F_L_boundOf at hF
  refine x_cn (by decide) rfl (Nat.le_of_ble_eq_true rfl) ?_
  show X mL_boundOf 8 134 _ _ 2 12 0 [(0, .ref p0), (1, .int p1), (2, .int p2), (3, .ref p3)] [] h
  refine x_aload_n 3 dL_boundOf_0 rfl rfl ?_
  refine x_iconst 0 (by decide) dL_boundOf_1 ?_
  refine x_aload_n 0 dL_boundOf_2 rfl rfl ?_
  refine x_iload_n 1 dL_boundOf_3 rfl rfl ?_
  refine x_iload_n 2 dL_boundOf_4 rfl rfl ?_
  obtain ⟨z1, hzz1, hF⟩ := x_bind hF
  obtain ⟨⟨fsz1, hbz1⟩, hzz1⟩ := x_cv_sp hzz1
  rcases z1 with w2 | e3
  · have hF := x_sel hF
    refine x_callv (As := [.int p1, .int p2]) (rest := [.int 0, .ref p3]) 0 0 dL_boundOf_5 mi_X5_boundOf ml_L_120 rfl rfl (Nat.le_of_ble_eq_true rfl) ⟨by decide, by decide⟩ (by omega) (by omega) hbz1 rfl (c_X5_boundOf N _ _ _ _ _ _ hzz1) (x_K.some ?_) x_KX.none
    refine x_i2l dL_boundOf_8 ?_
    refine x_astl_r dL_boundOf_9 hF (fun f4 hF => ?_)
    refine x_goto 17 dL_boundOf_10 (by decide) ?_
    refine x_iconst 0 (by decide) dL_boundOf_17 ?_
    exact x_iretn dL_boundOf_18 rfl (by cases hF; rfl)
  · have hF := x_ser hF
    by_cases hc0 : e3 = 2
    · subst hc0
      refine x_callv (As := [.int p1, .int p2]) (rest := [.int 0, .ref p3]) 0 0 dL_boundOf_5 mi_X5_boundOf ml_L_120 rfl rfl (Nat.le_of_ble_eq_true rfl) ⟨by decide, by decide⟩ (by omega) (by omega) hbz1 rfl (c_X5_boundOf N _ _ _ _ _ _ hzz1) x_K.inr (x_KX.catch (fun E hm hq => ?_))
      cases hq
      refine ⟨[], ⟨0, 10, 13, 87⟩, [], rfl, (fun z hz => absurd hz List.not_mem_nil), by decide, by decide, lk_IOE, ca_IOE, fun n9 q9 => ?_⟩
      refine x_astore (lv' := [(4, .ref q9), (0, .ref p0), (1, .int p1), (2, .int p2), (3, .ref p3)]) dL_boundOf_13 (by decide) rfl ?_
      refine x_iconst 1 (by decide) dL_boundOf_15 ?_
      exact x_iretn dL_boundOf_16 rfl (by cases hF; rfl)
    have hF := x_ifn hc0 hF
    cases hF
def F_L_build (N : Nat) (h : XH) (p0 : Nat) (p1 : Int32) (p2 : Nat) : Option (Int32 × XM) :=
  (x_cv h.1 5 p0 (F_X5_build N (h.1, h.2) p0 p1)).bind fun z1 =>
  x_se z1 (fun w2 =>
    (x_astl w2.2.1 p2 0 ((w2.1 : Int32).toInt64)).bind fun f4 =>
    some (0, f4))
    (fun e3 => if e3.1 = 0 then some (1, e3.2) else if e3.1 = 1 then some (2, e3.2) else none)
set_option maxRecDepth 20000 in
set_option maxHeartbeats 4000000 in
theorem c_L_build (N : Nat) (h : XH) (p0 : Nat) (p1 : Int32) (p2 : Nat) (r : (Int32 × XM)) (hF : F_L_build N h p0 p1 p2 = some r) : x_Cn mL_build 8 158 33 1909 [.ref p0, .int p1, .ref p2] h (some (.int r.1), r.2) := by
  unfold F_L_build at hF
  refine x_cn (by decide) rfl (Nat.le_of_ble_eq_true rfl) ?_
  show X mL_build 8 158 _ _ 33 1909 0 [(0, .ref p0), (1, .int p1), (2, .ref p2)] [] h
  refine x_aload_n 2 dL_build_0 rfl rfl ?_
  refine x_iconst 0 (by decide) dL_build_1 ?_
  refine x_aload_n 0 dL_build_2 rfl rfl ?_
  refine x_iload_n 1 dL_build_3 rfl rfl ?_
  obtain ⟨z1, hzz1, hF⟩ := x_bind hF
  obtain ⟨⟨fsz1, hbz1⟩, hzz1⟩ := x_cv_sp hzz1
  rcases z1 with w2 | e3
  · have hF := x_sel hF
    refine x_callv (As := [.int p1]) (rest := [.int 0, .ref p2]) 0 0 dL_build_4 mi_X5_build ml_L_28 rfl rfl (Nat.le_of_ble_eq_true rfl) ⟨by decide, by decide⟩ (by omega) (by omega) hbz1 rfl (c_X5_build N _ _ _ _ hzz1) (x_K.some ?_) x_KX.none
    refine x_i2l dL_build_7 ?_
    refine x_astl_r dL_build_8 hF (fun f4 hF => ?_)
    refine x_goto 18 dL_build_9 (by decide) ?_
    refine x_iconst 0 (by decide) dL_build_18 ?_
    exact x_iretn dL_build_19 rfl (by cases hF; rfl)
  · have hF := x_ser hF
    obtain ⟨e3c, e3f⟩ := e3
    by_cases hc0 : e3c = 0
    · subst hc0
      refine x_callv (As := [.int p1]) (rest := [.int 0, .ref p2]) 0 0 dL_build_4 mi_X5_build ml_L_28 rfl rfl (Nat.le_of_ble_eq_true rfl) ⟨by decide, by decide⟩ (by omega) (by omega) hbz1 rfl (c_X5_build N _ _ _ _ hzz1) x_K.inr (x_KX.catch (fun E hm hq => ?_))
      cases hq
      refine ⟨[], ⟨0, 9, 12, 13⟩, [⟨0, 9, 15, 15⟩], rfl, (fun z hz => absurd hz List.not_mem_nil), by decide, by decide, lk_IAE, ca_IAE, fun n9 q9 => ?_⟩
      refine x_astore_n (lv' := [(3, .ref q9), (0, .ref p0), (1, .int p1), (2, .ref p2)]) dL_build_12 rfl (by decide) rfl ?_
      refine x_iconst 1 (by decide) dL_build_13 ?_
      exact x_iretn dL_build_14 rfl (by cases hF; rfl)
    have hF := x_ifn hc0 hF
    by_cases hc1 : e3c = 1
    · subst hc1
      refine x_callv (As := [.int p1]) (rest := [.int 0, .ref p2]) 0 0 dL_build_4 mi_X5_build ml_L_28 rfl rfl (Nat.le_of_ble_eq_true rfl) ⟨by decide, by decide⟩ (by omega) (by omega) hbz1 rfl (c_X5_build N _ _ _ _ hzz1) x_K.inr (x_KX.catch (fun E hm hq => ?_))
      cases hq
      refine ⟨[⟨0, 9, 12, 13⟩], ⟨0, 9, 15, 15⟩, [], rfl, (fun z hz => by cases List.mem_singleton.mp hz; exact Or.inr ⟨by decide, x_IAE, lk_IAE, Or.inl ⟨rfl, rfl⟩⟩), by decide, by decide, lk_ISE, ca_ISE, fun n9 q9 => ?_⟩
      refine x_astore_n (lv' := [(3, .ref q9), (0, .ref p0), (1, .int p1), (2, .ref p2)]) dL_build_15 rfl (by decide) rfl ?_
      refine x_iconst 2 (by decide) dL_build_16 ?_
      exact x_iretn dL_build_17 rfl (by cases hF; rfl)
    have hF := x_ifn hc1 hF
    cases hF
def F_L_changeFan (N : Nat) (h : XH) (p0 : Nat) (p1 : Int32) (p2 : Nat) : Option (Int32 × XM) :=
  (x_cv h.1 5 p0 (F_X5_changeFan N (h.1, h.2) p0 p1)).bind fun z1 =>
  x_se z1 (fun w2 =>
    (x_astl w2.2.1 p2 0 ((w2.1 : Int32).toInt64)).bind fun f4 =>
    some (0, f4))
    (fun e3 => if e3.1 = 0 then some (1, e3.2) else none)
set_option maxRecDepth 20000 in
set_option maxHeartbeats 4000000 in
theorem c_L_changeFan (N : Nat) (h : XH) (p0 : Nat) (p1 : Int32) (p2 : Nat) (r : (Int32 × XM)) (hF : F_L_changeFan N h p0 p1 p2 = some r) : x_Cn mL_changeFan 7 157 32 1903 [.ref p0, .int p1, .ref p2] h (some (.int r.1), r.2) := by
  unfold F_L_changeFan at hF
  refine x_cn (by decide) rfl (Nat.le_of_ble_eq_true rfl) ?_
  show X mL_changeFan 7 157 _ _ 32 1903 0 [(0, .ref p0), (1, .int p1), (2, .ref p2)] [] h
  refine x_aload_n 2 dL_changeFan_0 rfl rfl ?_
  refine x_iconst 0 (by decide) dL_changeFan_1 ?_
  refine x_aload_n 0 dL_changeFan_2 rfl rfl ?_
  refine x_iload_n 1 dL_changeFan_3 rfl rfl ?_
  obtain ⟨z1, hzz1, hF⟩ := x_bind hF
  obtain ⟨⟨fsz1, hbz1⟩, hzz1⟩ := x_cv_sp hzz1
  rcases z1 with w2 | e3
  · have hF := x_sel hF
    refine x_callv (As := [.int p1]) (rest := [.int 0, .ref p2]) 0 0 dL_changeFan_4 mi_X5_changeFan ml_L_40 rfl rfl (Nat.le_of_ble_eq_true rfl) ⟨by decide, by decide⟩ (by omega) (by omega) hbz1 rfl (c_X5_changeFan N _ _ _ _ hzz1) (x_K.some ?_) x_KX.none
    refine x_i2l dL_changeFan_7 ?_
    refine x_astl_r dL_changeFan_8 hF (fun f4 hF => ?_)
    refine x_goto 15 dL_changeFan_9 (by decide) ?_
    refine x_iconst 0 (by decide) dL_changeFan_15 ?_
    exact x_iretn dL_changeFan_16 rfl (by cases hF; rfl)
  · have hF := x_ser hF
    obtain ⟨e3c, e3f⟩ := e3
    by_cases hc0 : e3c = 0
    · subst hc0
      refine x_callv (As := [.int p1]) (rest := [.int 0, .ref p2]) 0 0 dL_changeFan_4 mi_X5_changeFan ml_L_40 rfl rfl (Nat.le_of_ble_eq_true rfl) ⟨by decide, by decide⟩ (by omega) (by omega) hbz1 rfl (c_X5_changeFan N _ _ _ _ hzz1) x_K.inr (x_KX.catch (fun E hm hq => ?_))
      cases hq
      refine ⟨[], ⟨0, 9, 12, 13⟩, [], rfl, (fun z hz => absurd hz List.not_mem_nil), by decide, by decide, lk_IAE, ca_IAE, fun n9 q9 => ?_⟩
      refine x_astore_n (lv' := [(3, .ref q9), (0, .ref p0), (1, .int p1), (2, .ref p2)]) dL_changeFan_12 rfl (by decide) rfl ?_
      refine x_iconst 1 (by decide) dL_changeFan_13 ?_
      exact x_iretn dL_changeFan_14 rfl (by cases hF; rfl)
    have hF := x_ifn hc0 hF
    cases hF
def F_L_changeLeaf (N : Nat) (h : XH) (p0 : Nat) (p1 : Int32) (p2 : Nat) : Option (Int32 × XM) :=
  (x_cv h.1 5 p0 (F_X5_changeLeaf N (h.1, h.2) p0 p1)).bind fun z1 =>
  x_se z1 (fun w2 =>
    (x_astl w2.2.1 p2 0 ((w2.1 : Int32).toInt64)).bind fun f4 =>
    some (0, f4))
    (fun e3 => if e3.1 = 0 then some (1, e3.2) else none)
set_option maxRecDepth 20000 in
set_option maxHeartbeats 4000000 in
theorem c_L_changeLeaf (N : Nat) (h : XH) (p0 : Nat) (p1 : Int32) (p2 : Nat) (r : (Int32 × XM)) (hF : F_L_changeLeaf N h p0 p1 p2 = some r) : x_Cn mL_changeLeaf 7 157 32 1903 [.ref p0, .int p1, .ref p2] h (some (.int r.1), r.2) := by
  unfold F_L_changeLeaf at hF
  refine x_cn (by decide) rfl (Nat.le_of_ble_eq_true rfl) ?_
  show X mL_changeLeaf 7 157 _ _ 32 1903 0 [(0, .ref p0), (1, .int p1), (2, .ref p2)] [] h
  refine x_aload_n 2 dL_changeLeaf_0 rfl rfl ?_
  refine x_iconst 0 (by decide) dL_changeLeaf_1 ?_
  refine x_aload_n 0 dL_changeLeaf_2 rfl rfl ?_
  refine x_iload_n 1 dL_changeLeaf_3 rfl rfl ?_
  obtain ⟨z1, hzz1, hF⟩ := x_bind hF
  obtain ⟨⟨fsz1, hbz1⟩, hzz1⟩ := x_cv_sp hzz1
  rcases z1 with w2 | e3
  · have hF := x_sel hF
    refine x_callv (As := [.int p1]) (rest := [.int 0, .ref p2]) 0 0 dL_changeLeaf_4 mi_X5_changeLeaf ml_L_37 rfl rfl (Nat.le_of_ble_eq_true rfl) ⟨by decide, by decide⟩ (by omega) (by omega) hbz1 rfl (c_X5_changeLeaf N _ _ _ _ hzz1) (x_K.some ?_) x_KX.none
    refine x_i2l dL_changeLeaf_7 ?_
    refine x_astl_r dL_changeLeaf_8 hF (fun f4 hF => ?_)
    refine x_goto 15 dL_changeLeaf_9 (by decide) ?_
    refine x_iconst 0 (by decide) dL_changeLeaf_15 ?_
    exact x_iretn dL_changeLeaf_16 rfl (by cases hF; rfl)
  · have hF := x_ser hF
    obtain ⟨e3c, e3f⟩ := e3
    by_cases hc0 : e3c = 0
    · subst hc0
      refine x_callv (As := [.int p1]) (rest := [.int 0, .ref p2]) 0 0 dL_changeLeaf_4 mi_X5_changeLeaf ml_L_37 rfl rfl (Nat.le_of_ble_eq_true rfl) ⟨by decide, by decide⟩ (by omega) (by omega) hbz1 rfl (c_X5_changeLeaf N _ _ _ _ hzz1) x_K.inr (x_KX.catch (fun E hm hq => ?_))
      cases hq
      refine ⟨[], ⟨0, 9, 12, 13⟩, [], rfl, (fun z hz => absurd hz List.not_mem_nil), by decide, by decide, lk_IAE, ca_IAE, fun n9 q9 => ?_⟩
      refine x_astore_n (lv' := [(3, .ref q9), (0, .ref p0), (1, .int p1), (2, .ref p2)]) dL_changeLeaf_12 rfl (by decide) rfl ?_
      refine x_iconst 1 (by decide) dL_changeLeaf_13 ?_
      exact x_iretn dL_changeLeaf_14 rfl (by cases hF; rfl)
    have hF := x_ifn hc0 hF
    cases hF
def F_L_childrenOf (N : Nat) (h : XH) (p0 : Nat) (p1 : Int32) (p2 : Int32) (p3 : Nat) : Option (Int32 × XM) :=
  (x_cv h.1 5 p0 (F_X5_childrenOf N h.1 p0 p1 p2)).bind fun z1 =>
  x_se z1 (fun w2 =>
    (x_astl h.1 p3 0 ((w2 : Int32).toInt64)).bind fun f4 =>
    some (0, f4))
    (fun e3 => if e3 = 2 then some (1, h.1) else none)
set_option maxRecDepth 20000 in
set_option maxHeartbeats 4000000 in
theorem c_L_childrenOf (N : Nat) (h : XH) (p0 : Nat) (p1 : Int32) (p2 : Int32) (p3 : Nat) (r : (Int32 × XM)) (hF : F_L_childrenOf N h p0 p1 p2 p3 = some r) : x_Cn mL_childrenOf 8 134 2 12 [.ref p0, .int p1, .int p2, .ref p3] h (some (.int r.1), r.2) := by
  unfold F_L_childrenOf at hF
  refine x_cn (by decide) rfl (Nat.le_of_ble_eq_true rfl) ?_
  show X mL_childrenOf 8 134 _ _ 2 12 0 [(0, .ref p0), (1, .int p1), (2, .int p2), (3, .ref p3)] [] h
  refine x_aload_n 3 dL_childrenOf_0 rfl rfl ?_
  refine x_iconst 0 (by decide) dL_childrenOf_1 ?_
  refine x_aload_n 0 dL_childrenOf_2 rfl rfl ?_
  refine x_iload_n 1 dL_childrenOf_3 rfl rfl ?_
  refine x_iload_n 2 dL_childrenOf_4 rfl rfl ?_
  obtain ⟨z1, hzz1, hF⟩ := x_bind hF
  obtain ⟨⟨fsz1, hbz1⟩, hzz1⟩ := x_cv_sp hzz1
  rcases z1 with w2 | e3
  · have hF := x_sel hF
    refine x_callv (As := [.int p1, .int p2]) (rest := [.int 0, .ref p3]) 0 0 dL_childrenOf_5 mi_X5_childrenOf ml_L_117 rfl rfl (Nat.le_of_ble_eq_true rfl) ⟨by decide, by decide⟩ (by omega) (by omega) hbz1 rfl (c_X5_childrenOf N _ _ _ _ _ _ hzz1) (x_K.some ?_) x_KX.none
    refine x_i2l dL_childrenOf_8 ?_
    refine x_astl_r dL_childrenOf_9 hF (fun f4 hF => ?_)
    refine x_goto 17 dL_childrenOf_10 (by decide) ?_
    refine x_iconst 0 (by decide) dL_childrenOf_17 ?_
    exact x_iretn dL_childrenOf_18 rfl (by cases hF; rfl)
  · have hF := x_ser hF
    by_cases hc0 : e3 = 2
    · subst hc0
      refine x_callv (As := [.int p1, .int p2]) (rest := [.int 0, .ref p3]) 0 0 dL_childrenOf_5 mi_X5_childrenOf ml_L_117 rfl rfl (Nat.le_of_ble_eq_true rfl) ⟨by decide, by decide⟩ (by omega) (by omega) hbz1 rfl (c_X5_childrenOf N _ _ _ _ _ _ hzz1) x_K.inr (x_KX.catch (fun E hm hq => ?_))
      cases hq
      refine ⟨[], ⟨0, 10, 13, 87⟩, [], rfl, (fun z hz => absurd hz List.not_mem_nil), by decide, by decide, lk_IOE, ca_IOE, fun n9 q9 => ?_⟩
      refine x_astore (lv' := [(4, .ref q9), (0, .ref p0), (1, .int p1), (2, .int p2), (3, .ref p3)]) dL_childrenOf_13 (by decide) rfl ?_
      refine x_iconst 1 (by decide) dL_childrenOf_15 ?_
      exact x_iretn dL_childrenOf_16 rfl (by cases hF; rfl)
    have hF := x_ifn hc0 hF
    cases hF
def F_L_closeRun (N : Nat) (h : XH) (p0 : Nat) (p1 : Nat) : Option (Int32 × XM) :=
  (x_cv h.1 5 p0 (F_X5_closeRun N (h.1, h.2) p0)).bind fun z1 =>
  x_se z1 (fun w2 =>
    (x_astl w2.2.1 p1 0 ((w2.1 : Int32).toInt64)).bind fun f4 =>
    some (0, f4))
    (fun e3 => if e3.1 = 1 then some (1, e3.2) else none)
set_option maxRecDepth 20000 in
set_option maxHeartbeats 4000000 in
theorem c_L_closeRun (N : Nat) (h : XH) (p0 : Nat) (p1 : Nat) (r : (Int32 × XM)) (hF : F_L_closeRun N h p0 p1 = some r) : x_Cn mL_closeRun 8 155 32 1903 [.ref p0, .ref p1] h (some (.int r.1), r.2) := by
  unfold F_L_closeRun at hF
  refine x_cn (by decide) rfl (Nat.le_of_ble_eq_true rfl) ?_
  show X mL_closeRun 8 155 _ _ 32 1903 0 [(0, .ref p0), (1, .ref p1)] [] h
  refine x_aload_n 1 dL_closeRun_0 rfl rfl ?_
  refine x_iconst 0 (by decide) dL_closeRun_1 ?_
  refine x_aload_n 0 dL_closeRun_2 rfl rfl ?_
  obtain ⟨z1, hzz1, hF⟩ := x_bind hF
  obtain ⟨⟨fsz1, hbz1⟩, hzz1⟩ := x_cv_sp hzz1
  rcases z1 with w2 | e3
  · have hF := x_sel hF
    refine x_callv (As := []) (rest := [.int 0, .ref p1]) 0 0 dL_closeRun_3 mi_X5_closeRun ml_L_21 rfl rfl (Nat.le_of_ble_eq_true rfl) ⟨by decide, by decide⟩ (by omega) (by omega) hbz1 rfl (c_X5_closeRun N _ _ _ hzz1) (x_K.some ?_) x_KX.none
    refine x_i2l dL_closeRun_6 ?_
    refine x_astl_r dL_closeRun_7 hF (fun f4 hF => ?_)
    refine x_goto 14 dL_closeRun_8 (by decide) ?_
    refine x_iconst 0 (by decide) dL_closeRun_14 ?_
    exact x_iretn dL_closeRun_15 rfl (by cases hF; rfl)
  · have hF := x_ser hF
    obtain ⟨e3c, e3f⟩ := e3
    by_cases hc0 : e3c = 1
    · subst hc0
      refine x_callv (As := []) (rest := [.int 0, .ref p1]) 0 0 dL_closeRun_3 mi_X5_closeRun ml_L_21 rfl rfl (Nat.le_of_ble_eq_true rfl) ⟨by decide, by decide⟩ (by omega) (by omega) hbz1 rfl (c_X5_closeRun N _ _ _ hzz1) x_K.inr (x_KX.catch (fun E hm hq => ?_))
      cases hq
      refine ⟨[], ⟨0, 8, 11, 15⟩, [], rfl, (fun z hz => absurd hz List.not_mem_nil), by decide, by decide, lk_ISE, ca_ISE, fun n9 q9 => ?_⟩
      refine x_astore_n (lv' := [(2, .ref q9), (0, .ref p0), (1, .ref p1)]) dL_closeRun_11 rfl (by decide) rfl ?_
      refine x_iconst 1 (by decide) dL_closeRun_12 ?_
      exact x_iretn dL_closeRun_13 rfl (by cases hF; rfl)
    have hF := x_ifn hc0 hF
    cases hF
def F_L_countByLeaves (N : Nat) (h : XH) (p0 : Nat) (p1 : Int32) (p2 : Int32) (p3 : Nat) : Option (Int32 × XM) :=
  (x_cv h.1 5 p0 (F_X5_countByLeaves N h.1 p0 p1 p2)).bind fun z1 =>
  x_se z1 (fun w2 =>
    (x_astl h.1 p3 0 ((w2 : Int32).toInt64)).bind fun f4 =>
    some (0, f4))
    (fun e3 => if e3 = 0 then some (1, h.1) else none)
set_option maxRecDepth 20000 in
set_option maxHeartbeats 4000000 in
theorem c_L_countByLeaves (N : Nat) (h : XH) (p0 : Nat) (p1 : Int32) (p2 : Int32) (p3 : Nat) (r : (Int32 × XM)) (hF : F_L_countByLeaves N h p0 p1 p2 p3 = some r) : x_Cn mL_countByLeaves 8 146 1 6 [.ref p0, .int p1, .int p2, .ref p3] h (some (.int r.1), r.2) := by
  unfold F_L_countByLeaves at hF
  refine x_cn (by decide) rfl (Nat.le_of_ble_eq_true rfl) ?_
  show X mL_countByLeaves 8 146 _ _ 1 6 0 [(0, .ref p0), (1, .int p1), (2, .int p2), (3, .ref p3)] [] h
  refine x_aload_n 3 dL_countByLeaves_0 rfl rfl ?_
  refine x_iconst 0 (by decide) dL_countByLeaves_1 ?_
  refine x_aload_n 0 dL_countByLeaves_2 rfl rfl ?_
  refine x_iload_n 1 dL_countByLeaves_3 rfl rfl ?_
  refine x_iload_n 2 dL_countByLeaves_4 rfl rfl ?_
  obtain ⟨z1, hzz1, hF⟩ := x_bind hF
  obtain ⟨⟨fsz1, hbz1⟩, hzz1⟩ := x_cv_sp hzz1
  rcases z1 with w2 | e3
  · have hF := x_sel hF
    refine x_callv (As := [.int p1, .int p2]) (rest := [.int 0, .ref p3]) 0 0 dL_countByLeaves_5 mi_X5_countByLeaves ml_L_72 rfl rfl (Nat.le_of_ble_eq_true rfl) ⟨by decide, by decide⟩ (by omega) (by omega) hbz1 rfl (c_X5_countByLeaves N _ _ _ _ _ _ hzz1) (x_K.some ?_) x_KX.none
    refine x_i2l dL_countByLeaves_8 ?_
    refine x_astl_r dL_countByLeaves_9 hF (fun f4 hF => ?_)
    refine x_goto 17 dL_countByLeaves_10 (by decide) ?_
    refine x_iconst 0 (by decide) dL_countByLeaves_17 ?_
    exact x_iretn dL_countByLeaves_18 rfl (by cases hF; rfl)
  · have hF := x_ser hF
    by_cases hc0 : e3 = 0
    · subst hc0
      refine x_callv (As := [.int p1, .int p2]) (rest := [.int 0, .ref p3]) 0 0 dL_countByLeaves_5 mi_X5_countByLeaves ml_L_72 rfl rfl (Nat.le_of_ble_eq_true rfl) ⟨by decide, by decide⟩ (by omega) (by omega) hbz1 rfl (c_X5_countByLeaves N _ _ _ _ _ _ hzz1) x_K.inr (x_KX.catch (fun E hm hq => ?_))
      cases hq
      refine ⟨[], ⟨0, 10, 13, 13⟩, [], rfl, (fun z hz => absurd hz List.not_mem_nil), by decide, by decide, lk_IAE, ca_IAE, fun n9 q9 => ?_⟩
      refine x_astore (lv' := [(4, .ref q9), (0, .ref p0), (1, .int p1), (2, .int p2), (3, .ref p3)]) dL_countByLeaves_13 (by decide) rfl ?_
      refine x_iconst 1 (by decide) dL_countByLeaves_15 ?_
      exact x_iretn dL_countByLeaves_16 rfl (by cases hF; rfl)
    have hF := x_ifn hc0 hF
    cases hF
def F_L_countByNext (N : Nat) (h : XH) (p0 : Nat) (p1 : Int32) (p2 : Int32) (p3 : Nat) : Option (Int32 × XM) :=
  (x_cv h.1 5 p0 (F_X5_countByNext N h.1 p0 p1 p2)).bind fun z1 =>
  x_se z1 (fun w2 =>
    (x_astl w2.2 p3 0 ((w2.1 : Int32).toInt64)).bind fun f4 =>
    some (0, f4))
    (fun e3 => if e3.1 = 0 then some (1, e3.2) else none)
set_option maxRecDepth 20000 in
set_option maxHeartbeats 4000000 in
theorem c_L_countByNext (N : Nat) (h : XH) (p0 : Nat) (p1 : Int32) (p2 : Int32) (p3 : Nat) (r : (Int32 × XM)) (hF : F_L_countByNext N h p0 p1 p2 p3 = some r) : x_Cn mL_countByNext 8 136 1 6 [.ref p0, .int p1, .int p2, .ref p3] h (some (.int r.1), r.2) := by
  unfold F_L_countByNext at hF
  refine x_cn (by decide) rfl (Nat.le_of_ble_eq_true rfl) ?_
  show X mL_countByNext 8 136 _ _ 1 6 0 [(0, .ref p0), (1, .int p1), (2, .int p2), (3, .ref p3)] [] h
  refine x_aload_n 3 dL_countByNext_0 rfl rfl ?_
  refine x_iconst 0 (by decide) dL_countByNext_1 ?_
  refine x_aload_n 0 dL_countByNext_2 rfl rfl ?_
  refine x_iload_n 1 dL_countByNext_3 rfl rfl ?_
  refine x_iload_n 2 dL_countByNext_4 rfl rfl ?_
  obtain ⟨z1, hzz1, hF⟩ := x_bind hF
  obtain ⟨⟨fsz1, hbz1⟩, hzz1⟩ := x_cv_sp hzz1
  rcases z1 with w2 | e3
  · have hF := x_sel hF
    refine x_callv (As := [.int p1, .int p2]) (rest := [.int 0, .ref p3]) 0 0 dL_countByNext_5 mi_X5_countByNext ml_L_75 rfl rfl (Nat.le_of_ble_eq_true rfl) ⟨by decide, by decide⟩ (by omega) (by omega) hbz1 rfl (c_X5_countByNext N _ _ _ _ _ _ hzz1) (x_K.some ?_) x_KX.none
    refine x_i2l dL_countByNext_8 ?_
    refine x_astl_r dL_countByNext_9 hF (fun f4 hF => ?_)
    refine x_goto 17 dL_countByNext_10 (by decide) ?_
    refine x_iconst 0 (by decide) dL_countByNext_17 ?_
    exact x_iretn dL_countByNext_18 rfl (by cases hF; rfl)
  · have hF := x_ser hF
    obtain ⟨e3c, e3f⟩ := e3
    by_cases hc0 : e3c = 0
    · subst hc0
      refine x_callv (As := [.int p1, .int p2]) (rest := [.int 0, .ref p3]) 0 0 dL_countByNext_5 mi_X5_countByNext ml_L_75 rfl rfl (Nat.le_of_ble_eq_true rfl) ⟨by decide, by decide⟩ (by omega) (by omega) hbz1 rfl (c_X5_countByNext N _ _ _ _ _ _ hzz1) x_K.inr (x_KX.catch (fun E hm hq => ?_))
      cases hq
      refine ⟨[], ⟨0, 10, 13, 13⟩, [], rfl, (fun z hz => absurd hz List.not_mem_nil), by decide, by decide, lk_IAE, ca_IAE, fun n9 q9 => ?_⟩
      refine x_astore (lv' := [(4, .ref q9), (0, .ref p0), (1, .int p1), (2, .int p2), (3, .ref p3)]) dL_countByNext_13 (by decide) rfl ?_
      refine x_iconst 1 (by decide) dL_countByNext_15 ?_
      exact x_iretn dL_countByNext_16 rfl (by cases hF; rfl)
    have hF := x_ifn hc0 hF
    cases hF
def F_L_drop (N : Nat) (h : XH) (p0 : Nat) (p1 : Int32) (p2 : Nat) : Option (Int32 × XM) :=
  (x_cv h.1 5 p0 (F_X5_drop N (h.1, h.2) p0 p1)).bind fun z1 =>
  x_se z1 (fun w2 =>
    (x_astl w2.2.1 p2 0 ((w2.1 : Int32).toInt64)).bind fun f4 =>
    some (0, f4))
    (fun e3 => if e3.1 = 0 then some (1, e3.2) else if e3.1 = 1 then some (2, e3.2) else none)
set_option maxRecDepth 20000 in
set_option maxHeartbeats 4000000 in
theorem c_L_drop (N : Nat) (h : XH) (p0 : Nat) (p1 : Int32) (p2 : Nat) (r : (Int32 × XM)) (hF : F_L_drop N h p0 p1 p2 = some r) : x_Cn mL_drop 8 156 33 1909 [.ref p0, .int p1, .ref p2] h (some (.int r.1), r.2) := by
  unfold F_L_drop at hF
  refine x_cn (by decide) rfl (Nat.le_of_ble_eq_true rfl) ?_
  show X mL_drop 8 156 _ _ 33 1909 0 [(0, .ref p0), (1, .int p1), (2, .ref p2)] [] h
  refine x_aload_n 2 dL_drop_0 rfl rfl ?_
  refine x_iconst 0 (by decide) dL_drop_1 ?_
  refine x_aload_n 0 dL_drop_2 rfl rfl ?_
  refine x_iload_n 1 dL_drop_3 rfl rfl ?_
  obtain ⟨z1, hzz1, hF⟩ := x_bind hF
  obtain ⟨⟨fsz1, hbz1⟩, hzz1⟩ := x_cv_sp hzz1
  rcases z1 with w2 | e3
  · have hF := x_sel hF
    refine x_callv (As := [.int p1]) (rest := [.int 0, .ref p2]) 0 0 dL_drop_4 mi_X5_drop ml_L_17 rfl rfl (Nat.le_of_ble_eq_true rfl) ⟨by decide, by decide⟩ (by omega) (by omega) hbz1 rfl (c_X5_drop N _ _ _ _ hzz1) (x_K.some ?_) x_KX.none
    refine x_i2l dL_drop_7 ?_
    refine x_astl_r dL_drop_8 hF (fun f4 hF => ?_)
    refine x_goto 18 dL_drop_9 (by decide) ?_
    refine x_iconst 0 (by decide) dL_drop_18 ?_
    exact x_iretn dL_drop_19 rfl (by cases hF; rfl)
  · have hF := x_ser hF
    obtain ⟨e3c, e3f⟩ := e3
    by_cases hc0 : e3c = 0
    · subst hc0
      refine x_callv (As := [.int p1]) (rest := [.int 0, .ref p2]) 0 0 dL_drop_4 mi_X5_drop ml_L_17 rfl rfl (Nat.le_of_ble_eq_true rfl) ⟨by decide, by decide⟩ (by omega) (by omega) hbz1 rfl (c_X5_drop N _ _ _ _ hzz1) x_K.inr (x_KX.catch (fun E hm hq => ?_))
      cases hq
      refine ⟨[], ⟨0, 9, 12, 13⟩, [⟨0, 9, 15, 15⟩], rfl, (fun z hz => absurd hz List.not_mem_nil), by decide, by decide, lk_IAE, ca_IAE, fun n9 q9 => ?_⟩
      refine x_astore_n (lv' := [(3, .ref q9), (0, .ref p0), (1, .int p1), (2, .ref p2)]) dL_drop_12 rfl (by decide) rfl ?_
      refine x_iconst 1 (by decide) dL_drop_13 ?_
      exact x_iretn dL_drop_14 rfl (by cases hF; rfl)
    have hF := x_ifn hc0 hF
    by_cases hc1 : e3c = 1
    · subst hc1
      refine x_callv (As := [.int p1]) (rest := [.int 0, .ref p2]) 0 0 dL_drop_4 mi_X5_drop ml_L_17 rfl rfl (Nat.le_of_ble_eq_true rfl) ⟨by decide, by decide⟩ (by omega) (by omega) hbz1 rfl (c_X5_drop N _ _ _ _ hzz1) x_K.inr (x_KX.catch (fun E hm hq => ?_))
      cases hq
      refine ⟨[⟨0, 9, 12, 13⟩], ⟨0, 9, 15, 15⟩, [], rfl, (fun z hz => by cases List.mem_singleton.mp hz; exact Or.inr ⟨by decide, x_IAE, lk_IAE, Or.inl ⟨rfl, rfl⟩⟩), by decide, by decide, lk_ISE, ca_ISE, fun n9 q9 => ?_⟩
      refine x_astore_n (lv' := [(3, .ref q9), (0, .ref p0), (1, .int p1), (2, .ref p2)]) dL_drop_15 rfl (by decide) rfl ?_
      refine x_iconst 2 (by decide) dL_drop_16 ?_
      exact x_iretn dL_drop_17 rfl (by cases hF; rfl)
    have hF := x_ifn hc1 hF
    cases hF
def F_L_entriesOf (N : Nat) (h : XH) (p0 : Nat) (p1 : Int32) (p2 : Nat) : Option (Int32 × XM) :=
  (x_cv h.1 5 p0 (F_X5_entriesOf N h.1 p0 p1)).bind fun z1 =>
  x_se z1 (fun w2 =>
    (x_astl h.1 p2 0 ((w2 : Int32).toInt64)).bind fun f4 =>
    some (0, f4))
    (fun e3 => if e3 = 2 then some (1, h.1) else none)
set_option maxRecDepth 20000 in
set_option maxHeartbeats 4000000 in
theorem c_L_entriesOf (N : Nat) (h : XH) (p0 : Nat) (p1 : Int32) (p2 : Nat) (r : (Int32 × XM)) (hF : F_L_entriesOf N h p0 p1 p2 = some r) : x_Cn mL_entriesOf 8 132 1 6 [.ref p0, .int p1, .ref p2] h (some (.int r.1), r.2) := by
  unfold F_L_entriesOf at hF
  refine x_cn (by decide) rfl (Nat.le_of_ble_eq_true rfl) ?_
  show X mL_entriesOf 8 132 _ _ 1 6 0 [(0, .ref p0), (1, .int p1), (2, .ref p2)] [] h
  refine x_aload_n 2 dL_entriesOf_0 rfl rfl ?_
  refine x_iconst 0 (by decide) dL_entriesOf_1 ?_
  refine x_aload_n 0 dL_entriesOf_2 rfl rfl ?_
  refine x_iload_n 1 dL_entriesOf_3 rfl rfl ?_
  obtain ⟨z1, hzz1, hF⟩ := x_bind hF
  obtain ⟨⟨fsz1, hbz1⟩, hzz1⟩ := x_cv_sp hzz1
  rcases z1 with w2 | e3
  · have hF := x_sel hF
    refine x_callv (As := [.int p1]) (rest := [.int 0, .ref p2]) 0 0 dL_entriesOf_4 mi_X5_entriesOf ml_L_102 rfl rfl (Nat.le_of_ble_eq_true rfl) ⟨by decide, by decide⟩ (by omega) (by omega) hbz1 rfl (c_X5_entriesOf N _ _ _ _ _ hzz1) (x_K.some ?_) x_KX.none
    refine x_i2l dL_entriesOf_7 ?_
    refine x_astl_r dL_entriesOf_8 hF (fun f4 hF => ?_)
    refine x_goto 15 dL_entriesOf_9 (by decide) ?_
    refine x_iconst 0 (by decide) dL_entriesOf_15 ?_
    exact x_iretn dL_entriesOf_16 rfl (by cases hF; rfl)
  · have hF := x_ser hF
    by_cases hc0 : e3 = 2
    · subst hc0
      refine x_callv (As := [.int p1]) (rest := [.int 0, .ref p2]) 0 0 dL_entriesOf_4 mi_X5_entriesOf ml_L_102 rfl rfl (Nat.le_of_ble_eq_true rfl) ⟨by decide, by decide⟩ (by omega) (by omega) hbz1 rfl (c_X5_entriesOf N _ _ _ _ _ hzz1) x_K.inr (x_KX.catch (fun E hm hq => ?_))
      cases hq
      refine ⟨[], ⟨0, 9, 12, 87⟩, [], rfl, (fun z hz => absurd hz List.not_mem_nil), by decide, by decide, lk_IOE, ca_IOE, fun n9 q9 => ?_⟩
      refine x_astore_n (lv' := [(3, .ref q9), (0, .ref p0), (1, .int p1), (2, .ref p2)]) dL_entriesOf_12 rfl (by decide) rfl ?_
      refine x_iconst 1 (by decide) dL_entriesOf_13 ?_
      exact x_iretn dL_entriesOf_14 rfl (by cases hF; rfl)
    have hF := x_ifn hc0 hF
    cases hF
def F_L_erase (N : Nat) (h : XH) (p0 : Nat) (p1 : Int32) (p2 : Nat) : Option (Int32 × XM) :=
  (x_cv h.1 5 p0 (F_X5_erase N (h.1, h.2) p0 p1)).bind fun z1 =>
  x_se z1 (fun w2 =>
    (x_astl w2.2.1 p2 0 ((w2.1 : Int32).toInt64)).bind fun f4 =>
    some (0, f4))
    (fun e3 => if e3.1 = 0 then some (1, e3.2) else if e3.1 = 1 then some (2, e3.2) else none)
set_option maxRecDepth 20000 in
set_option maxHeartbeats 4000000 in
theorem c_L_erase (N : Nat) (h : XH) (p0 : Nat) (p1 : Int32) (p2 : Nat) (r : (Int32 × XM)) (hF : F_L_erase N h p0 p1 p2 = some r) : x_Cn mL_erase 8 156 33 1909 [.ref p0, .int p1, .ref p2] h (some (.int r.1), r.2) := by
  unfold F_L_erase at hF
  refine x_cn (by decide) rfl (Nat.le_of_ble_eq_true rfl) ?_
  show X mL_erase 8 156 _ _ 33 1909 0 [(0, .ref p0), (1, .int p1), (2, .ref p2)] [] h
  refine x_aload_n 2 dL_erase_0 rfl rfl ?_
  refine x_iconst 0 (by decide) dL_erase_1 ?_
  refine x_aload_n 0 dL_erase_2 rfl rfl ?_
  refine x_iload_n 1 dL_erase_3 rfl rfl ?_
  obtain ⟨z1, hzz1, hF⟩ := x_bind hF
  obtain ⟨⟨fsz1, hbz1⟩, hzz1⟩ := x_cv_sp hzz1
  rcases z1 with w2 | e3
  · have hF := x_sel hF
    refine x_callv (As := [.int p1]) (rest := [.int 0, .ref p2]) 0 0 dL_erase_4 mi_X5_erase ml_L_34 rfl rfl (Nat.le_of_ble_eq_true rfl) ⟨by decide, by decide⟩ (by omega) (by omega) hbz1 rfl (c_X5_erase N _ _ _ _ hzz1) (x_K.some ?_) x_KX.none
    refine x_i2l dL_erase_7 ?_
    refine x_astl_r dL_erase_8 hF (fun f4 hF => ?_)
    refine x_goto 18 dL_erase_9 (by decide) ?_
    refine x_iconst 0 (by decide) dL_erase_18 ?_
    exact x_iretn dL_erase_19 rfl (by cases hF; rfl)
  · have hF := x_ser hF
    obtain ⟨e3c, e3f⟩ := e3
    by_cases hc0 : e3c = 0
    · subst hc0
      refine x_callv (As := [.int p1]) (rest := [.int 0, .ref p2]) 0 0 dL_erase_4 mi_X5_erase ml_L_34 rfl rfl (Nat.le_of_ble_eq_true rfl) ⟨by decide, by decide⟩ (by omega) (by omega) hbz1 rfl (c_X5_erase N _ _ _ _ hzz1) x_K.inr (x_KX.catch (fun E hm hq => ?_))
      cases hq
      refine ⟨[], ⟨0, 9, 12, 13⟩, [⟨0, 9, 15, 15⟩], rfl, (fun z hz => absurd hz List.not_mem_nil), by decide, by decide, lk_IAE, ca_IAE, fun n9 q9 => ?_⟩
      refine x_astore_n (lv' := [(3, .ref q9), (0, .ref p0), (1, .int p1), (2, .ref p2)]) dL_erase_12 rfl (by decide) rfl ?_
      refine x_iconst 1 (by decide) dL_erase_13 ?_
      exact x_iretn dL_erase_14 rfl (by cases hF; rfl)
    have hF := x_ifn hc0 hF
    by_cases hc1 : e3c = 1
    · subst hc1
      refine x_callv (As := [.int p1]) (rest := [.int 0, .ref p2]) 0 0 dL_erase_4 mi_X5_erase ml_L_34 rfl rfl (Nat.le_of_ble_eq_true rfl) ⟨by decide, by decide⟩ (by omega) (by omega) hbz1 rfl (c_X5_erase N _ _ _ _ hzz1) x_K.inr (x_KX.catch (fun E hm hq => ?_))
      cases hq
      refine ⟨[⟨0, 9, 12, 13⟩], ⟨0, 9, 15, 15⟩, [], rfl, (fun z hz => by cases List.mem_singleton.mp hz; exact Or.inr ⟨by decide, x_IAE, lk_IAE, Or.inl ⟨rfl, rfl⟩⟩), by decide, by decide, lk_ISE, ca_ISE, fun n9 q9 => ?_⟩
      refine x_astore_n (lv' := [(3, .ref q9), (0, .ref p0), (1, .int p1), (2, .ref p2)]) dL_erase_15 rfl (by decide) rfl ?_
      refine x_iconst 2 (by decide) dL_erase_16 ?_
      exact x_iretn dL_erase_17 rfl (by cases hF; rfl)
    have hF := x_ifn hc1 hF
    cases hF
def F_L_follow (N : Nat) (h : XH) (p0 : Nat) (p1 : Nat) : Option (Int32 × XM) :=
  (x_cv h.1 5 p0 (F_X5_follow N (h.1, h.2) p0)).bind fun z1 =>
  x_se z1 (fun w2 =>
    (x_astl w2.2.1 p1 0 ((w2.1 : Int32).toInt64)).bind fun f4 =>
    some (0, f4))
    (fun e3 => if e3.1 = 0 then some (1, e3.2) else if e3.1 = 1 then some (2, e3.2) else none)
set_option maxRecDepth 20000 in
set_option maxHeartbeats 4000000 in
theorem c_L_follow (N : Nat) (h : XH) (p0 : Nat) (p1 : Nat) (r : (Int32 × XM)) (hF : F_L_follow N h p0 p1 = some r) : x_Cn mL_follow 8 198 32 1903 [.ref p0, .ref p1] h (some (.int r.1), r.2) := by
  unfold F_L_follow at hF
  refine x_cn (by decide) rfl (Nat.le_of_ble_eq_true rfl) ?_
  show X mL_follow 8 198 _ _ 32 1903 0 [(0, .ref p0), (1, .ref p1)] [] h
  refine x_aload_n 1 dL_follow_0 rfl rfl ?_
  refine x_iconst 0 (by decide) dL_follow_1 ?_
  refine x_aload_n 0 dL_follow_2 rfl rfl ?_
  obtain ⟨z1, hzz1, hF⟩ := x_bind hF
  obtain ⟨⟨fsz1, hbz1⟩, hzz1⟩ := x_cv_sp hzz1
  rcases z1 with w2 | e3
  · have hF := x_sel hF
    refine x_callv (As := []) (rest := [.int 0, .ref p1]) 0 0 dL_follow_3 mi_X5_follow ml_L_46 rfl rfl (Nat.le_of_ble_eq_true rfl) ⟨by decide, by decide⟩ (by omega) (by omega) hbz1 rfl (c_X5_follow N _ _ _ hzz1) (x_K.some ?_) x_KX.none
    refine x_i2l dL_follow_6 ?_
    refine x_astl_r dL_follow_7 hF (fun f4 hF => ?_)
    refine x_goto 17 dL_follow_8 (by decide) ?_
    refine x_iconst 0 (by decide) dL_follow_17 ?_
    exact x_iretn dL_follow_18 rfl (by cases hF; rfl)
  · have hF := x_ser hF
    obtain ⟨e3c, e3f⟩ := e3
    by_cases hc0 : e3c = 0
    · subst hc0
      refine x_callv (As := []) (rest := [.int 0, .ref p1]) 0 0 dL_follow_3 mi_X5_follow ml_L_46 rfl rfl (Nat.le_of_ble_eq_true rfl) ⟨by decide, by decide⟩ (by omega) (by omega) hbz1 rfl (c_X5_follow N _ _ _ hzz1) x_K.inr (x_KX.catch (fun E hm hq => ?_))
      cases hq
      refine ⟨[], ⟨0, 8, 11, 13⟩, [⟨0, 8, 14, 15⟩], rfl, (fun z hz => absurd hz List.not_mem_nil), by decide, by decide, lk_IAE, ca_IAE, fun n9 q9 => ?_⟩
      refine x_astore_n (lv' := [(2, .ref q9), (0, .ref p0), (1, .ref p1)]) dL_follow_11 rfl (by decide) rfl ?_
      refine x_iconst 1 (by decide) dL_follow_12 ?_
      exact x_iretn dL_follow_13 rfl (by cases hF; rfl)
    have hF := x_ifn hc0 hF
    by_cases hc1 : e3c = 1
    · subst hc1
      refine x_callv (As := []) (rest := [.int 0, .ref p1]) 0 0 dL_follow_3 mi_X5_follow ml_L_46 rfl rfl (Nat.le_of_ble_eq_true rfl) ⟨by decide, by decide⟩ (by omega) (by omega) hbz1 rfl (c_X5_follow N _ _ _ hzz1) x_K.inr (x_KX.catch (fun E hm hq => ?_))
      cases hq
      refine ⟨[⟨0, 8, 11, 13⟩], ⟨0, 8, 14, 15⟩, [], rfl, (fun z hz => by cases List.mem_singleton.mp hz; exact Or.inr ⟨by decide, x_IAE, lk_IAE, Or.inl ⟨rfl, rfl⟩⟩), by decide, by decide, lk_ISE, ca_ISE, fun n9 q9 => ?_⟩
      refine x_astore_n (lv' := [(2, .ref q9), (0, .ref p0), (1, .ref p1)]) dL_follow_14 rfl (by decide) rfl ?_
      refine x_iconst 2 (by decide) dL_follow_15 ?_
      exact x_iretn dL_follow_16 rfl (by cases hF; rfl)
    have hF := x_ifn hc1 hF
    cases hF
def F_L_goBack (N : Nat) (h : XH) (p0 : Nat) (p1 : Int32) : Option (Int32 × XM) :=
  (x_cv h.1 5 p0 (F_X5_goBack N (h.1, h.2) p0 p1)).bind fun z1 =>
  x_se z1 (fun w2 =>
    some (0, w2.1))
    (fun e3 => if e3.1 = 0 then some (1, e3.2) else if e3.1 = 1 then some (2, e3.2) else none)
set_option maxRecDepth 20000 in
set_option maxHeartbeats 4000000 in
theorem c_L_goBack (N : Nat) (h : XH) (p0 : Nat) (p1 : Int32) (r : (Int32 × XM)) (hF : F_L_goBack N h p0 p1 = some r) : x_Cn mL_goBack 8 157 33 1909 [.ref p0, .int p1] h (some (.int r.1), r.2) := by
  unfold F_L_goBack at hF
  refine x_cn (by decide) rfl (Nat.le_of_ble_eq_true rfl) ?_
  show X mL_goBack 8 157 _ _ 33 1909 0 [(0, .ref p0), (1, .int p1)] [] h
  refine x_aload_n 0 dL_goBack_0 rfl rfl ?_
  refine x_iload_n 1 dL_goBack_1 rfl rfl ?_
  obtain ⟨z1, hzz1, hF⟩ := x_bind hF
  obtain ⟨⟨fsz1, hbz1⟩, hzz1⟩ := x_cv_sp hzz1
  rcases z1 with w2 | e3
  · have hF := x_sel hF
    refine x_callv (As := [.int p1]) (rest := []) 0 0 dL_goBack_2 mi_X5_goBack ml_L_53 rfl rfl (Nat.le_of_ble_eq_true rfl) ⟨by decide, by decide⟩ (by omega) (by omega) hbz1 rfl (c_X5_goBack N _ _ _ _ hzz1) (x_K.none ?_) x_KX.none
    refine x_goto 14 dL_goBack_5 (by decide) ?_
    refine x_iconst 0 (by decide) dL_goBack_14 ?_
    exact x_iretn dL_goBack_15 rfl (by cases hF; rfl)
  · have hF := x_ser hF
    obtain ⟨e3c, e3f⟩ := e3
    by_cases hc0 : e3c = 0
    · subst hc0
      refine x_callv (As := [.int p1]) (rest := []) 0 0 dL_goBack_2 mi_X5_goBack ml_L_53 rfl rfl (Nat.le_of_ble_eq_true rfl) ⟨by decide, by decide⟩ (by omega) (by omega) hbz1 rfl (c_X5_goBack N _ _ _ _ hzz1) x_K.inr (x_KX.catch (fun E hm hq => ?_))
      cases hq
      refine ⟨[], ⟨0, 5, 8, 13⟩, [⟨0, 5, 11, 15⟩], rfl, (fun z hz => absurd hz List.not_mem_nil), by decide, by decide, lk_IAE, ca_IAE, fun n9 q9 => ?_⟩
      refine x_astore_n (lv' := [(2, .ref q9), (0, .ref p0), (1, .int p1)]) dL_goBack_8 rfl (by decide) rfl ?_
      refine x_iconst 1 (by decide) dL_goBack_9 ?_
      exact x_iretn dL_goBack_10 rfl (by cases hF; rfl)
    have hF := x_ifn hc0 hF
    by_cases hc1 : e3c = 1
    · subst hc1
      refine x_callv (As := [.int p1]) (rest := []) 0 0 dL_goBack_2 mi_X5_goBack ml_L_53 rfl rfl (Nat.le_of_ble_eq_true rfl) ⟨by decide, by decide⟩ (by omega) (by omega) hbz1 rfl (c_X5_goBack N _ _ _ _ hzz1) x_K.inr (x_KX.catch (fun E hm hq => ?_))
      cases hq
      refine ⟨[⟨0, 5, 8, 13⟩], ⟨0, 5, 11, 15⟩, [], rfl, (fun z hz => by cases List.mem_singleton.mp hz; exact Or.inr ⟨by decide, x_IAE, lk_IAE, Or.inl ⟨rfl, rfl⟩⟩), by decide, by decide, lk_ISE, ca_ISE, fun n9 q9 => ?_⟩
      refine x_astore_n (lv' := [(2, .ref q9), (0, .ref p0), (1, .int p1)]) dL_goBack_11 rfl (by decide) rfl ?_
      refine x_iconst 2 (by decide) dL_goBack_12 ?_
      exact x_iretn dL_goBack_13 rfl (by cases hF; rfl)
    have hF := x_ifn hc1 hF
    cases hF
def F_L_insert (N : Nat) (h : XH) (p0 : Nat) (p1 : Int32) (p2 : Int32) (p3 : Nat) : Option (Int32 × XM) :=
  (x_cv h.1 5 p0 (F_X5_insert N (h.1, h.2) p0 p1 p2)).bind fun z1 =>
  x_se z1 (fun w2 =>
    (x_astl w2.2.1 p3 0 ((w2.1 : Int32).toInt64)).bind fun f4 =>
    some (0, f4))
    (fun e3 => if e3.1 = 0 then some (1, e3.2) else if e3.1 = 1 then some (2, e3.2) else none)
set_option maxRecDepth 20000 in
set_option maxHeartbeats 4000000 in
theorem c_L_insert (N : Nat) (h : XH) (p0 : Nat) (p1 : Int32) (p2 : Int32) (p3 : Nat) (r : (Int32 × XM)) (hF : F_L_insert N h p0 p1 p2 p3 = some r) : x_Cn mL_insert 8 157 34 1915 [.ref p0, .int p1, .int p2, .ref p3] h (some (.int r.1), r.2) := by
  unfold F_L_insert at hF
  refine x_cn (by decide) rfl (Nat.le_of_ble_eq_true rfl) ?_
  show X mL_insert 8 157 _ _ 34 1915 0 [(0, .ref p0), (1, .int p1), (2, .int p2), (3, .ref p3)] [] h
  refine x_aload_n 3 dL_insert_0 rfl rfl ?_
  refine x_iconst 0 (by decide) dL_insert_1 ?_
  refine x_aload_n 0 dL_insert_2 rfl rfl ?_
  refine x_iload_n 1 dL_insert_3 rfl rfl ?_
  refine x_iload_n 2 dL_insert_4 rfl rfl ?_
  obtain ⟨z1, hzz1, hF⟩ := x_bind hF
  obtain ⟨⟨fsz1, hbz1⟩, hzz1⟩ := x_cv_sp hzz1
  rcases z1 with w2 | e3
  · have hF := x_sel hF
    refine x_callv (As := [.int p1, .int p2]) (rest := [.int 0, .ref p3]) 0 0 dL_insert_5 mi_X5_insert ml_L_31 rfl rfl (Nat.le_of_ble_eq_true rfl) ⟨by decide, by decide⟩ (by omega) (by omega) hbz1 rfl (c_X5_insert N _ _ _ _ _ hzz1) (x_K.some ?_) x_KX.none
    refine x_i2l dL_insert_8 ?_
    refine x_astl_r dL_insert_9 hF (fun f4 hF => ?_)
    refine x_goto 21 dL_insert_10 (by decide) ?_
    refine x_iconst 0 (by decide) dL_insert_21 ?_
    exact x_iretn dL_insert_22 rfl (by cases hF; rfl)
  · have hF := x_ser hF
    obtain ⟨e3c, e3f⟩ := e3
    by_cases hc0 : e3c = 0
    · subst hc0
      refine x_callv (As := [.int p1, .int p2]) (rest := [.int 0, .ref p3]) 0 0 dL_insert_5 mi_X5_insert ml_L_31 rfl rfl (Nat.le_of_ble_eq_true rfl) ⟨by decide, by decide⟩ (by omega) (by omega) hbz1 rfl (c_X5_insert N _ _ _ _ _ hzz1) x_K.inr (x_KX.catch (fun E hm hq => ?_))
      cases hq
      refine ⟨[], ⟨0, 10, 13, 13⟩, [⟨0, 10, 17, 15⟩], rfl, (fun z hz => absurd hz List.not_mem_nil), by decide, by decide, lk_IAE, ca_IAE, fun n9 q9 => ?_⟩
      refine x_astore (lv' := [(4, .ref q9), (0, .ref p0), (1, .int p1), (2, .int p2), (3, .ref p3)]) dL_insert_13 (by decide) rfl ?_
      refine x_iconst 1 (by decide) dL_insert_15 ?_
      exact x_iretn dL_insert_16 rfl (by cases hF; rfl)
    have hF := x_ifn hc0 hF
    by_cases hc1 : e3c = 1
    · subst hc1
      refine x_callv (As := [.int p1, .int p2]) (rest := [.int 0, .ref p3]) 0 0 dL_insert_5 mi_X5_insert ml_L_31 rfl rfl (Nat.le_of_ble_eq_true rfl) ⟨by decide, by decide⟩ (by omega) (by omega) hbz1 rfl (c_X5_insert N _ _ _ _ _ hzz1) x_K.inr (x_KX.catch (fun E hm hq => ?_))
      cases hq
      refine ⟨[⟨0, 10, 13, 13⟩], ⟨0, 10, 17, 15⟩, [], rfl, (fun z hz => by cases List.mem_singleton.mp hz; exact Or.inr ⟨by decide, x_IAE, lk_IAE, Or.inl ⟨rfl, rfl⟩⟩), by decide, by decide, lk_ISE, ca_ISE, fun n9 q9 => ?_⟩
      refine x_astore (lv' := [(4, .ref q9), (0, .ref p0), (1, .int p1), (2, .int p2), (3, .ref p3)]) dL_insert_17 (by decide) rfl ?_
      refine x_iconst 2 (by decide) dL_insert_19 ?_
      exact x_iretn dL_insert_20 rfl (by cases hF; rfl)
    have hF := x_ifn hc1 hF
    cases hF
def F_L_isFoundByGoing (N : Nat) (h : XH) (p0 : Nat) (p1 : Int32) (p2 : Nat) : Option (Int32 × XM) :=
  (x_cv h.1 5 p0 (F_X5_isFoundByGoing N h.1 p0 p1)).bind fun z1 =>
  x_se z1 (fun w2 =>
    if (x_b w2) = 0 then
      (x_astl h.1 p2 0 (0 : Int64)).bind fun f4 =>
      some (0, f4)
    else
      (x_astl h.1 p2 0 (1 : Int64)).bind fun f5 =>
      some (0, f5))
    (fun e3 => if e3 = 0 then some (1, h.1) else none)
set_option maxRecDepth 20000 in
set_option maxHeartbeats 4000000 in
theorem c_L_isFoundByGoing (N : Nat) (h : XH) (p0 : Nat) (p1 : Int32) (p2 : Nat) (r : (Int32 × XM)) (hF : F_L_isFoundByGoing N h p0 p1 p2 = some r) : x_Cn mL_isFoundByGoing 8 131 1 6 [.ref p0, .int p1, .ref p2] h (some (.int r.1), r.2) := by
  unfold F_L_isFoundByGoing at hF
  refine x_cn (by decide) rfl (Nat.le_of_ble_eq_true rfl) ?_
  show X mL_isFoundByGoing 8 131 _ _ 1 6 0 [(0, .ref p0), (1, .int p1), (2, .ref p2)] [] h
  refine x_aload_n 2 dL_isFoundByGoing_0 rfl rfl ?_
  refine x_iconst 0 (by decide) dL_isFoundByGoing_1 ?_
  refine x_aload_n 0 dL_isFoundByGoing_2 rfl rfl ?_
  refine x_iload_n 1 dL_isFoundByGoing_3 rfl rfl ?_
  obtain ⟨z1, hzz1, hF⟩ := x_bind hF
  obtain ⟨⟨fsz1, hbz1⟩, hzz1⟩ := x_cv_sp hzz1
  rcases z1 with w2 | e3
  · have hF := x_sel hF
    refine x_callv (As := [.int p1]) (rest := [.int 0, .ref p2]) 0 0 dL_isFoundByGoing_4 mi_X5_isFoundByGoing ml_L_63 rfl rfl (Nat.le_of_ble_eq_true rfl) ⟨by decide, by decide⟩ (by omega) (by omega) hbz1 rfl (c_X5_isFoundByGoing N _ _ _ _ _ hzz1) (x_K.some ?_) x_KX.none
    refine x_if_eq 14 dL_isFoundByGoing_7 (by decide) hF (fun hF => ?_) (fun hF => ?_)
    · refine x_lconst 0 (by decide) dL_isFoundByGoing_14 ?_
      refine x_astl_r dL_isFoundByGoing_15 hF (fun f4 hF => ?_)
      refine x_goto 22 dL_isFoundByGoing_16 (by decide) ?_
      refine x_iconst 0 (by decide) dL_isFoundByGoing_22 ?_
      exact x_iretn dL_isFoundByGoing_23 rfl (by cases hF; rfl)
    · refine x_lconst 1 (by decide) dL_isFoundByGoing_10 ?_
      refine x_goto 15 dL_isFoundByGoing_11 (by decide) ?_
      refine x_astl_r dL_isFoundByGoing_15 hF (fun f5 hF => ?_)
      refine x_goto 22 dL_isFoundByGoing_16 (by decide) ?_
      refine x_iconst 0 (by decide) dL_isFoundByGoing_22 ?_
      exact x_iretn dL_isFoundByGoing_23 rfl (by cases hF; rfl)
  · have hF := x_ser hF
    by_cases hc0 : e3 = 0
    · subst hc0
      refine x_callv (As := [.int p1]) (rest := [.int 0, .ref p2]) 0 0 dL_isFoundByGoing_4 mi_X5_isFoundByGoing ml_L_63 rfl rfl (Nat.le_of_ble_eq_true rfl) ⟨by decide, by decide⟩ (by omega) (by omega) hbz1 rfl (c_X5_isFoundByGoing N _ _ _ _ _ hzz1) x_K.inr (x_KX.catch (fun E hm hq => ?_))
      cases hq
      refine ⟨[], ⟨0, 16, 19, 13⟩, [], rfl, (fun z hz => absurd hz List.not_mem_nil), by decide, by decide, lk_IAE, ca_IAE, fun n9 q9 => ?_⟩
      refine x_astore_n (lv' := [(3, .ref q9), (0, .ref p0), (1, .int p1), (2, .ref p2)]) dL_isFoundByGoing_19 rfl (by decide) rfl ?_
      refine x_iconst 1 (by decide) dL_isFoundByGoing_20 ?_
      exact x_iretn dL_isFoundByGoing_21 rfl (by cases hF; rfl)
    have hF := x_ifn hc0 hF
    cases hF
def F_L_isFoundByTree (N : Nat) (h : XH) (p0 : Nat) (p1 : Int32) (p2 : Nat) : Option (Int32 × XM) :=
  (x_cv h.1 5 p0 (F_X5_isFoundByTree N h.1 p0 p1)).bind fun z1 =>
  x_se z1 (fun w2 =>
    if (x_b w2) = 0 then
      (x_astl h.1 p2 0 (0 : Int64)).bind fun f4 =>
      some (0, f4)
    else
      (x_astl h.1 p2 0 (1 : Int64)).bind fun f5 =>
      some (0, f5))
    (fun e3 => if e3 = 0 then some (1, h.1) else none)
set_option maxRecDepth 20000 in
set_option maxHeartbeats 4000000 in
theorem c_L_isFoundByTree (N : Nat) (h : XH) (p0 : Nat) (p1 : Int32) (p2 : Nat) (r : (Int32 × XM)) (hF : F_L_isFoundByTree N h p0 p1 p2 = some r) : x_Cn mL_isFoundByTree 8 131 1 6 [.ref p0, .int p1, .ref p2] h (some (.int r.1), r.2) := by
  unfold F_L_isFoundByTree at hF
  refine x_cn (by decide) rfl (Nat.le_of_ble_eq_true rfl) ?_
  show X mL_isFoundByTree 8 131 _ _ 1 6 0 [(0, .ref p0), (1, .int p1), (2, .ref p2)] [] h
  refine x_aload_n 2 dL_isFoundByTree_0 rfl rfl ?_
  refine x_iconst 0 (by decide) dL_isFoundByTree_1 ?_
  refine x_aload_n 0 dL_isFoundByTree_2 rfl rfl ?_
  refine x_iload_n 1 dL_isFoundByTree_3 rfl rfl ?_
  obtain ⟨z1, hzz1, hF⟩ := x_bind hF
  obtain ⟨⟨fsz1, hbz1⟩, hzz1⟩ := x_cv_sp hzz1
  rcases z1 with w2 | e3
  · have hF := x_sel hF
    refine x_callv (As := [.int p1]) (rest := [.int 0, .ref p2]) 0 0 dL_isFoundByTree_4 mi_X5_isFoundByTree ml_L_59 rfl rfl (Nat.le_of_ble_eq_true rfl) ⟨by decide, by decide⟩ (by omega) (by omega) hbz1 rfl (c_X5_isFoundByTree N _ _ _ _ _ hzz1) (x_K.some ?_) x_KX.none
    refine x_if_eq 14 dL_isFoundByTree_7 (by decide) hF (fun hF => ?_) (fun hF => ?_)
    · refine x_lconst 0 (by decide) dL_isFoundByTree_14 ?_
      refine x_astl_r dL_isFoundByTree_15 hF (fun f4 hF => ?_)
      refine x_goto 22 dL_isFoundByTree_16 (by decide) ?_
      refine x_iconst 0 (by decide) dL_isFoundByTree_22 ?_
      exact x_iretn dL_isFoundByTree_23 rfl (by cases hF; rfl)
    · refine x_lconst 1 (by decide) dL_isFoundByTree_10 ?_
      refine x_goto 15 dL_isFoundByTree_11 (by decide) ?_
      refine x_astl_r dL_isFoundByTree_15 hF (fun f5 hF => ?_)
      refine x_goto 22 dL_isFoundByTree_16 (by decide) ?_
      refine x_iconst 0 (by decide) dL_isFoundByTree_22 ?_
      exact x_iretn dL_isFoundByTree_23 rfl (by cases hF; rfl)
  · have hF := x_ser hF
    by_cases hc0 : e3 = 0
    · subst hc0
      refine x_callv (As := [.int p1]) (rest := [.int 0, .ref p2]) 0 0 dL_isFoundByTree_4 mi_X5_isFoundByTree ml_L_59 rfl rfl (Nat.le_of_ble_eq_true rfl) ⟨by decide, by decide⟩ (by omega) (by omega) hbz1 rfl (c_X5_isFoundByTree N _ _ _ _ _ hzz1) x_K.inr (x_KX.catch (fun E hm hq => ?_))
      cases hq
      refine ⟨[], ⟨0, 16, 19, 13⟩, [], rfl, (fun z hz => absurd hz List.not_mem_nil), by decide, by decide, lk_IAE, ca_IAE, fun n9 q9 => ?_⟩
      refine x_astore_n (lv' := [(3, .ref q9), (0, .ref p0), (1, .int p1), (2, .ref p2)]) dL_isFoundByTree_19 rfl (by decide) rfl ?_
      refine x_iconst 1 (by decide) dL_isFoundByTree_20 ?_
      exact x_iretn dL_isFoundByTree_21 rfl (by cases hF; rfl)
    have hF := x_ifn hc0 hF
    cases hF
def F_L_isGoneIn (N : Nat) (h : XH) (p0 : Nat) (p1 : Int32) (p2 : Int32) (p3 : Nat) : Option (Int32 × XM) :=
  (x_cv h.1 5 p0 (F_X5_isGoneIn N h.1 p0 p1 p2)).bind fun z1 =>
  x_se z1 (fun w2 =>
    if (x_b w2) = 0 then
      (x_astl h.1 p3 0 (0 : Int64)).bind fun f4 =>
      some (0, f4)
    else
      (x_astl h.1 p3 0 (1 : Int64)).bind fun f5 =>
      some (0, f5))
    (fun e3 => if e3 = 2 then some (1, h.1) else none)
set_option maxRecDepth 20000 in
set_option maxHeartbeats 4000000 in
theorem c_L_isGoneIn (N : Nat) (h : XH) (p0 : Nat) (p1 : Int32) (p2 : Int32) (p3 : Nat) (r : (Int32 × XM)) (hF : F_L_isGoneIn N h p0 p1 p2 p3 = some r) : x_Cn mL_isGoneIn 7 113 1 6 [.ref p0, .int p1, .int p2, .ref p3] h (some (.int r.1), r.2) := by
  unfold F_L_isGoneIn at hF
  refine x_cn (by decide) rfl (Nat.le_of_ble_eq_true rfl) ?_
  show X mL_isGoneIn 7 113 _ _ 1 6 0 [(0, .ref p0), (1, .int p1), (2, .int p2), (3, .ref p3)] [] h
  refine x_aload_n 3 dL_isGoneIn_0 rfl rfl ?_
  refine x_iconst 0 (by decide) dL_isGoneIn_1 ?_
  refine x_aload_n 0 dL_isGoneIn_2 rfl rfl ?_
  refine x_iload_n 1 dL_isGoneIn_3 rfl rfl ?_
  refine x_iload_n 2 dL_isGoneIn_4 rfl rfl ?_
  obtain ⟨z1, hzz1, hF⟩ := x_bind hF
  obtain ⟨⟨fsz1, hbz1⟩, hzz1⟩ := x_cv_sp hzz1
  rcases z1 with w2 | e3
  · have hF := x_sel hF
    refine x_callv (As := [.int p1, .int p2]) (rest := [.int 0, .ref p3]) 0 0 dL_isGoneIn_5 mi_X5_isGoneIn ml_L_95 rfl rfl (Nat.le_of_ble_eq_true rfl) ⟨by decide, by decide⟩ (by omega) (by omega) hbz1 rfl (c_X5_isGoneIn N _ _ _ _ _ _ hzz1) (x_K.some ?_) x_KX.none
    refine x_if_eq 15 dL_isGoneIn_8 (by decide) hF (fun hF => ?_) (fun hF => ?_)
    · refine x_lconst 0 (by decide) dL_isGoneIn_15 ?_
      refine x_astl_r dL_isGoneIn_16 hF (fun f4 hF => ?_)
      refine x_goto 24 dL_isGoneIn_17 (by decide) ?_
      refine x_iconst 0 (by decide) dL_isGoneIn_24 ?_
      exact x_iretn dL_isGoneIn_25 rfl (by cases hF; rfl)
    · refine x_lconst 1 (by decide) dL_isGoneIn_11 ?_
      refine x_goto 16 dL_isGoneIn_12 (by decide) ?_
      refine x_astl_r dL_isGoneIn_16 hF (fun f5 hF => ?_)
      refine x_goto 24 dL_isGoneIn_17 (by decide) ?_
      refine x_iconst 0 (by decide) dL_isGoneIn_24 ?_
      exact x_iretn dL_isGoneIn_25 rfl (by cases hF; rfl)
  · have hF := x_ser hF
    by_cases hc0 : e3 = 2
    · subst hc0
      refine x_callv (As := [.int p1, .int p2]) (rest := [.int 0, .ref p3]) 0 0 dL_isGoneIn_5 mi_X5_isGoneIn ml_L_95 rfl rfl (Nat.le_of_ble_eq_true rfl) ⟨by decide, by decide⟩ (by omega) (by omega) hbz1 rfl (c_X5_isGoneIn N _ _ _ _ _ _ hzz1) x_K.inr (x_KX.catch (fun E hm hq => ?_))
      cases hq
      refine ⟨[], ⟨0, 17, 20, 87⟩, [], rfl, (fun z hz => absurd hz List.not_mem_nil), by decide, by decide, lk_IOE, ca_IOE, fun n9 q9 => ?_⟩
      refine x_astore (lv' := [(4, .ref q9), (0, .ref p0), (1, .int p1), (2, .int p2), (3, .ref p3)]) dL_isGoneIn_20 (by decide) rfl ?_
      refine x_iconst 1 (by decide) dL_isGoneIn_22 ?_
      exact x_iretn dL_isGoneIn_23 rfl (by cases hF; rfl)
    have hF := x_ifn hc0 hF
    cases hF
def F_L_keep (N : Nat) (h : XH) (p0 : Nat) (p1 : Int32) : Option (Int32 × XM) :=
  (x_cv h.1 5 p0 (F_X5_keep N (h.1, h.2) p0 p1)).bind fun z1 =>
  x_se z1 (fun w2 =>
    some (0, w2.1))
    (fun e3 => if e3.1 = 0 then some (1, e3.2) else none)
set_option maxRecDepth 20000 in
set_option maxHeartbeats 4000000 in
theorem c_L_keep (N : Nat) (h : XH) (p0 : Nat) (p1 : Int32) (r : (Int32 × XM)) (hF : F_L_keep N h p0 p1 = some r) : x_Cn mL_keep 8 157 33 1909 [.ref p0, .int p1] h (some (.int r.1), r.2) := by
  unfold F_L_keep at hF
  refine x_cn (by decide) rfl (Nat.le_of_ble_eq_true rfl) ?_
  show X mL_keep 8 157 _ _ 33 1909 0 [(0, .ref p0), (1, .int p1)] [] h
  refine x_aload_n 0 dL_keep_0 rfl rfl ?_
  refine x_iload_n 1 dL_keep_1 rfl rfl ?_
  obtain ⟨z1, hzz1, hF⟩ := x_bind hF
  obtain ⟨⟨fsz1, hbz1⟩, hzz1⟩ := x_cv_sp hzz1
  rcases z1 with w2 | e3
  · have hF := x_sel hF
    refine x_callv (As := [.int p1]) (rest := []) 0 0 dL_keep_2 mi_X5_keep ml_L_49 rfl rfl (Nat.le_of_ble_eq_true rfl) ⟨by decide, by decide⟩ (by omega) (by omega) hbz1 rfl (c_X5_keep N _ _ _ _ hzz1) (x_K.none ?_) x_KX.none
    refine x_goto 11 dL_keep_5 (by decide) ?_
    refine x_iconst 0 (by decide) dL_keep_11 ?_
    exact x_iretn dL_keep_12 rfl (by cases hF; rfl)
  · have hF := x_ser hF
    obtain ⟨e3c, e3f⟩ := e3
    by_cases hc0 : e3c = 0
    · subst hc0
      refine x_callv (As := [.int p1]) (rest := []) 0 0 dL_keep_2 mi_X5_keep ml_L_49 rfl rfl (Nat.le_of_ble_eq_true rfl) ⟨by decide, by decide⟩ (by omega) (by omega) hbz1 rfl (c_X5_keep N _ _ _ _ hzz1) x_K.inr (x_KX.catch (fun E hm hq => ?_))
      cases hq
      refine ⟨[], ⟨0, 5, 8, 13⟩, [], rfl, (fun z hz => absurd hz List.not_mem_nil), by decide, by decide, lk_IAE, ca_IAE, fun n9 q9 => ?_⟩
      refine x_astore_n (lv' := [(2, .ref q9), (0, .ref p0), (1, .int p1)]) dL_keep_8 rfl (by decide) rfl ?_
      refine x_iconst 1 (by decide) dL_keep_9 ?_
      exact x_iretn dL_keep_10 rfl (by cases hF; rfl)
    have hF := x_ifn hc0 hF
    cases hF
def F_L_keyAt (N : Nat) (h : XH) (p0 : Nat) (p1 : Int32) (p2 : Nat) : Option (Int32 × XM) :=
  (x_cv h.1 5 p0 (F_X5_keyAt N h.1 p0 p1)).bind fun z1 =>
  x_se z1 (fun w2 =>
    (x_astl w2.2 p2 0 ((w2.1 : Int32).toInt64)).bind fun f4 =>
    some (0, f4))
    (fun e3 => if e3.1 = 2 then some (1, e3.2) else none)
set_option maxRecDepth 20000 in
set_option maxHeartbeats 4000000 in
theorem c_L_keyAt (N : Nat) (h : XH) (p0 : Nat) (p1 : Int32) (p2 : Nat) (r : (Int32 × XM)) (hF : F_L_keyAt N h p0 p1 p2 = some r) : x_Cn mL_keyAt 7 136 1 6 [.ref p0, .int p1, .ref p2] h (some (.int r.1), r.2) := by
  unfold F_L_keyAt at hF
  refine x_cn (by decide) rfl (Nat.le_of_ble_eq_true rfl) ?_
  show X mL_keyAt 7 136 _ _ 1 6 0 [(0, .ref p0), (1, .int p1), (2, .ref p2)] [] h
  refine x_aload_n 2 dL_keyAt_0 rfl rfl ?_
  refine x_iconst 0 (by decide) dL_keyAt_1 ?_
  refine x_aload_n 0 dL_keyAt_2 rfl rfl ?_
  refine x_iload_n 1 dL_keyAt_3 rfl rfl ?_
  obtain ⟨z1, hzz1, hF⟩ := x_bind hF
  obtain ⟨⟨fsz1, hbz1⟩, hzz1⟩ := x_cv_sp hzz1
  rcases z1 with w2 | e3
  · have hF := x_sel hF
    refine x_callv (As := [.int p1]) (rest := [.int 0, .ref p2]) 0 0 dL_keyAt_4 mi_X5_keyAt ml_L_84 rfl rfl (Nat.le_of_ble_eq_true rfl) ⟨by decide, by decide⟩ (by omega) (by omega) hbz1 rfl (c_X5_keyAt N _ _ _ _ _ hzz1) (x_K.some ?_) x_KX.none
    refine x_i2l dL_keyAt_7 ?_
    refine x_astl_r dL_keyAt_8 hF (fun f4 hF => ?_)
    refine x_goto 15 dL_keyAt_9 (by decide) ?_
    refine x_iconst 0 (by decide) dL_keyAt_15 ?_
    exact x_iretn dL_keyAt_16 rfl (by cases hF; rfl)
  · have hF := x_ser hF
    obtain ⟨e3c, e3f⟩ := e3
    by_cases hc0 : e3c = 2
    · subst hc0
      refine x_callv (As := [.int p1]) (rest := [.int 0, .ref p2]) 0 0 dL_keyAt_4 mi_X5_keyAt ml_L_84 rfl rfl (Nat.le_of_ble_eq_true rfl) ⟨by decide, by decide⟩ (by omega) (by omega) hbz1 rfl (c_X5_keyAt N _ _ _ _ _ hzz1) x_K.inr (x_KX.catch (fun E hm hq => ?_))
      cases hq
      refine ⟨[], ⟨0, 9, 12, 87⟩, [], rfl, (fun z hz => absurd hz List.not_mem_nil), by decide, by decide, lk_IOE, ca_IOE, fun n9 q9 => ?_⟩
      refine x_astore_n (lv' := [(3, .ref q9), (0, .ref p0), (1, .int p1), (2, .ref p2)]) dL_keyAt_12 rfl (by decide) rfl ?_
      refine x_iconst 1 (by decide) dL_keyAt_13 ?_
      exact x_iretn dL_keyAt_14 rfl (by cases hF; rfl)
    have hF := x_ifn hc0 hF
    cases hF
def F_L_keyBefore (N : Nat) (h : XH) (p0 : Nat) (p1 : Int32) (p2 : Nat) : Option (Int32 × XM) :=
  (x_cv h.1 5 p0 (F_X5_keyBefore N h.1 p0 p1)).bind fun z1 =>
  x_se z1 (fun w2 =>
    (x_astl w2.2 p2 0 ((w2.1 : Int32).toInt64)).bind fun f4 =>
    some (0, f4))
    (fun e3 => if e3.1 = 0 then some (1, e3.2) else if e3.1 = 1 then some (2, e3.2) else none)
set_option maxRecDepth 20000 in
set_option maxHeartbeats 4000000 in
theorem c_L_keyBefore (N : Nat) (h : XH) (p0 : Nat) (p1 : Int32) (p2 : Nat) (r : (Int32 × XM)) (hF : F_L_keyBefore N h p0 p1 p2 = some r) : x_Cn mL_keyBefore 8 137 2 12 [.ref p0, .int p1, .ref p2] h (some (.int r.1), r.2) := by
  unfold F_L_keyBefore at hF
  refine x_cn (by decide) rfl (Nat.le_of_ble_eq_true rfl) ?_
  show X mL_keyBefore 8 137 _ _ 2 12 0 [(0, .ref p0), (1, .int p1), (2, .ref p2)] [] h
  refine x_aload_n 2 dL_keyBefore_0 rfl rfl ?_
  refine x_iconst 0 (by decide) dL_keyBefore_1 ?_
  refine x_aload_n 0 dL_keyBefore_2 rfl rfl ?_
  refine x_iload_n 1 dL_keyBefore_3 rfl rfl ?_
  obtain ⟨z1, hzz1, hF⟩ := x_bind hF
  obtain ⟨⟨fsz1, hbz1⟩, hzz1⟩ := x_cv_sp hzz1
  rcases z1 with w2 | e3
  · have hF := x_sel hF
    refine x_callv (As := [.int p1]) (rest := [.int 0, .ref p2]) 0 0 dL_keyBefore_4 mi_X5_keyBefore ml_L_81 rfl rfl (Nat.le_of_ble_eq_true rfl) ⟨by decide, by decide⟩ (by omega) (by omega) hbz1 rfl (c_X5_keyBefore N _ _ _ _ _ hzz1) (x_K.some ?_) x_KX.none
    refine x_i2l dL_keyBefore_7 ?_
    refine x_astl_r dL_keyBefore_8 hF (fun f4 hF => ?_)
    refine x_goto 18 dL_keyBefore_9 (by decide) ?_
    refine x_iconst 0 (by decide) dL_keyBefore_18 ?_
    exact x_iretn dL_keyBefore_19 rfl (by cases hF; rfl)
  · have hF := x_ser hF
    obtain ⟨e3c, e3f⟩ := e3
    by_cases hc0 : e3c = 0
    · subst hc0
      refine x_callv (As := [.int p1]) (rest := [.int 0, .ref p2]) 0 0 dL_keyBefore_4 mi_X5_keyBefore ml_L_81 rfl rfl (Nat.le_of_ble_eq_true rfl) ⟨by decide, by decide⟩ (by omega) (by omega) hbz1 rfl (c_X5_keyBefore N _ _ _ _ _ hzz1) x_K.inr (x_KX.catch (fun E hm hq => ?_))
      cases hq
      refine ⟨[], ⟨0, 9, 12, 13⟩, [⟨0, 9, 15, 15⟩], rfl, (fun z hz => absurd hz List.not_mem_nil), by decide, by decide, lk_IAE, ca_IAE, fun n9 q9 => ?_⟩
      refine x_astore_n (lv' := [(3, .ref q9), (0, .ref p0), (1, .int p1), (2, .ref p2)]) dL_keyBefore_12 rfl (by decide) rfl ?_
      refine x_iconst 1 (by decide) dL_keyBefore_13 ?_
      exact x_iretn dL_keyBefore_14 rfl (by cases hF; rfl)
    have hF := x_ifn hc0 hF
    by_cases hc1 : e3c = 1
    · subst hc1
      refine x_callv (As := [.int p1]) (rest := [.int 0, .ref p2]) 0 0 dL_keyBefore_4 mi_X5_keyBefore ml_L_81 rfl rfl (Nat.le_of_ble_eq_true rfl) ⟨by decide, by decide⟩ (by omega) (by omega) hbz1 rfl (c_X5_keyBefore N _ _ _ _ _ hzz1) x_K.inr (x_KX.catch (fun E hm hq => ?_))
      cases hq
      refine ⟨[⟨0, 9, 12, 13⟩], ⟨0, 9, 15, 15⟩, [], rfl, (fun z hz => by cases List.mem_singleton.mp hz; exact Or.inr ⟨by decide, x_IAE, lk_IAE, Or.inl ⟨rfl, rfl⟩⟩), by decide, by decide, lk_ISE, ca_ISE, fun n9 q9 => ?_⟩
      refine x_astore_n (lv' := [(3, .ref q9), (0, .ref p0), (1, .int p1), (2, .ref p2)]) dL_keyBefore_15 rfl (by decide) rfl ?_
      refine x_iconst 2 (by decide) dL_keyBefore_16 ?_
      exact x_iretn dL_keyBefore_17 rfl (by cases hF; rfl)
    have hF := x_ifn hc1 hF
    cases hF
def F_L_keyIn (N : Nat) (h : XH) (p0 : Nat) (p1 : Int32) (p2 : Int32) (p3 : Nat) : Option (Int32 × XM) :=
  (x_cv h.1 5 p0 (F_X5_keyIn N h.1 p0 p1 p2)).bind fun z1 =>
  x_se z1 (fun w2 =>
    (x_astl h.1 p3 0 ((w2 : Int32).toInt64)).bind fun f4 =>
    some (0, f4))
    (fun e3 => if e3 = 2 then some (1, h.1) else none)
set_option maxRecDepth 20000 in
set_option maxHeartbeats 4000000 in
theorem c_L_keyIn (N : Nat) (h : XH) (p0 : Nat) (p1 : Int32) (p2 : Int32) (p3 : Nat) (r : (Int32 × XM)) (hF : F_L_keyIn N h p0 p1 p2 p3 = some r) : x_Cn mL_keyIn 7 113 1 6 [.ref p0, .int p1, .int p2, .ref p3] h (some (.int r.1), r.2) := by
  unfold F_L_keyIn at hF
  refine x_cn (by decide) rfl (Nat.le_of_ble_eq_true rfl) ?_
  show X mL_keyIn 7 113 _ _ 1 6 0 [(0, .ref p0), (1, .int p1), (2, .int p2), (3, .ref p3)] [] h
  refine x_aload_n 3 dL_keyIn_0 rfl rfl ?_
  refine x_iconst 0 (by decide) dL_keyIn_1 ?_
  refine x_aload_n 0 dL_keyIn_2 rfl rfl ?_
  refine x_iload_n 1 dL_keyIn_3 rfl rfl ?_
  refine x_iload_n 2 dL_keyIn_4 rfl rfl ?_
  obtain ⟨z1, hzz1, hF⟩ := x_bind hF
  obtain ⟨⟨fsz1, hbz1⟩, hzz1⟩ := x_cv_sp hzz1
  rcases z1 with w2 | e3
  · have hF := x_sel hF
    refine x_callv (As := [.int p1, .int p2]) (rest := [.int 0, .ref p3]) 0 0 dL_keyIn_5 mi_X5_keyIn ml_L_92 rfl rfl (Nat.le_of_ble_eq_true rfl) ⟨by decide, by decide⟩ (by omega) (by omega) hbz1 rfl (c_X5_keyIn N _ _ _ _ _ _ hzz1) (x_K.some ?_) x_KX.none
    refine x_i2l dL_keyIn_8 ?_
    refine x_astl_r dL_keyIn_9 hF (fun f4 hF => ?_)
    refine x_goto 17 dL_keyIn_10 (by decide) ?_
    refine x_iconst 0 (by decide) dL_keyIn_17 ?_
    exact x_iretn dL_keyIn_18 rfl (by cases hF; rfl)
  · have hF := x_ser hF
    by_cases hc0 : e3 = 2
    · subst hc0
      refine x_callv (As := [.int p1, .int p2]) (rest := [.int 0, .ref p3]) 0 0 dL_keyIn_5 mi_X5_keyIn ml_L_92 rfl rfl (Nat.le_of_ble_eq_true rfl) ⟨by decide, by decide⟩ (by omega) (by omega) hbz1 rfl (c_X5_keyIn N _ _ _ _ _ _ hzz1) x_K.inr (x_KX.catch (fun E hm hq => ?_))
      cases hq
      refine ⟨[], ⟨0, 10, 13, 87⟩, [], rfl, (fun z hz => absurd hz List.not_mem_nil), by decide, by decide, lk_IOE, ca_IOE, fun n9 q9 => ?_⟩
      refine x_astore (lv' := [(4, .ref q9), (0, .ref p0), (1, .int p1), (2, .int p2), (3, .ref p3)]) dL_keyIn_13 (by decide) rfl ?_
      refine x_iconst 1 (by decide) dL_keyIn_15 ?_
      exact x_iretn dL_keyIn_16 rfl (by cases hF; rfl)
    have hF := x_ifn hc0 hF
    cases hF
def F_L_leafFor (N : Nat) (h : XH) (p0 : Nat) (p1 : Int32) (p2 : Nat) : Option (Int32 × XM) :=
  (x_cv h.1 5 p0 (F_X5_leafFor N h.1 p0 p1)).bind fun z1 =>
  x_se z1 (fun w2 =>
    (x_astl h.1 p2 0 ((w2 : Int32).toInt64)).bind fun f4 =>
    some (0, f4))
    (fun e3 => if e3 = 0 then some (1, h.1) else if e3 = 1 then some (2, h.1) else none)
set_option maxRecDepth 20000 in
set_option maxHeartbeats 4000000 in
theorem c_L_leafFor (N : Nat) (h : XH) (p0 : Nat) (p1 : Int32) (p2 : Nat) (r : (Int32 × XM)) (hF : F_L_leafFor N h p0 p1 p2 = some r) : x_Cn mL_leafFor 8 132 2 12 [.ref p0, .int p1, .ref p2] h (some (.int r.1), r.2) := by
  unfold F_L_leafFor at hF
  refine x_cn (by decide) rfl (Nat.le_of_ble_eq_true rfl) ?_
  show X mL_leafFor 8 132 _ _ 2 12 0 [(0, .ref p0), (1, .int p1), (2, .ref p2)] [] h
  refine x_aload_n 2 dL_leafFor_0 rfl rfl ?_
  refine x_iconst 0 (by decide) dL_leafFor_1 ?_
  refine x_aload_n 0 dL_leafFor_2 rfl rfl ?_
  refine x_iload_n 1 dL_leafFor_3 rfl rfl ?_
  obtain ⟨z1, hzz1, hF⟩ := x_bind hF
  obtain ⟨⟨fsz1, hbz1⟩, hzz1⟩ := x_cv_sp hzz1
  rcases z1 with w2 | e3
  · have hF := x_sel hF
    refine x_callv (As := [.int p1]) (rest := [.int 0, .ref p2]) 0 0 dL_leafFor_4 mi_X5_leafFor ml_L_123 rfl rfl (Nat.le_of_ble_eq_true rfl) ⟨by decide, by decide⟩ (by omega) (by omega) hbz1 rfl (c_X5_leafFor N _ _ _ _ _ hzz1) (x_K.some ?_) x_KX.none
    refine x_i2l dL_leafFor_7 ?_
    refine x_astl_r dL_leafFor_8 hF (fun f4 hF => ?_)
    refine x_goto 18 dL_leafFor_9 (by decide) ?_
    refine x_iconst 0 (by decide) dL_leafFor_18 ?_
    exact x_iretn dL_leafFor_19 rfl (by cases hF; rfl)
  · have hF := x_ser hF
    by_cases hc0 : e3 = 0
    · subst hc0
      refine x_callv (As := [.int p1]) (rest := [.int 0, .ref p2]) 0 0 dL_leafFor_4 mi_X5_leafFor ml_L_123 rfl rfl (Nat.le_of_ble_eq_true rfl) ⟨by decide, by decide⟩ (by omega) (by omega) hbz1 rfl (c_X5_leafFor N _ _ _ _ _ hzz1) x_K.inr (x_KX.catch (fun E hm hq => ?_))
      cases hq
      refine ⟨[], ⟨0, 9, 12, 13⟩, [⟨0, 9, 15, 15⟩], rfl, (fun z hz => absurd hz List.not_mem_nil), by decide, by decide, lk_IAE, ca_IAE, fun n9 q9 => ?_⟩
      refine x_astore_n (lv' := [(3, .ref q9), (0, .ref p0), (1, .int p1), (2, .ref p2)]) dL_leafFor_12 rfl (by decide) rfl ?_
      refine x_iconst 1 (by decide) dL_leafFor_13 ?_
      exact x_iretn dL_leafFor_14 rfl (by cases hF; rfl)
    have hF := x_ifn hc0 hF
    by_cases hc1 : e3 = 1
    · subst hc1
      refine x_callv (As := [.int p1]) (rest := [.int 0, .ref p2]) 0 0 dL_leafFor_4 mi_X5_leafFor ml_L_123 rfl rfl (Nat.le_of_ble_eq_true rfl) ⟨by decide, by decide⟩ (by omega) (by omega) hbz1 rfl (c_X5_leafFor N _ _ _ _ _ hzz1) x_K.inr (x_KX.catch (fun E hm hq => ?_))
      cases hq
      refine ⟨[⟨0, 9, 12, 13⟩], ⟨0, 9, 15, 15⟩, [], rfl, (fun z hz => by cases List.mem_singleton.mp hz; exact Or.inr ⟨by decide, x_IAE, lk_IAE, Or.inl ⟨rfl, rfl⟩⟩), by decide, by decide, lk_ISE, ca_ISE, fun n9 q9 => ?_⟩
      refine x_astore_n (lv' := [(3, .ref q9), (0, .ref p0), (1, .int p1), (2, .ref p2)]) dL_leafFor_15 rfl (by decide) rfl ?_
      refine x_iconst 2 (by decide) dL_leafFor_16 ?_
      exact x_iretn dL_leafFor_17 rfl (by cases hF; rfl)
    have hF := x_ifn hc1 hF
    cases hF
def F_L_leafKey (N : Nat) (h : XH) (p0 : Nat) (p1 : Int32) (p2 : Int32) (p3 : Nat) : Option (Int32 × XM) :=
  (x_cv h.1 5 p0 (F_X5_leafKey N h.1 p0 p1 p2)).bind fun z1 =>
  x_se z1 (fun w2 =>
    (x_astl h.1 p3 0 ((w2 : Int32).toInt64)).bind fun f4 =>
    some (0, f4))
    (fun e3 => if e3 = 2 then some (1, h.1) else none)
set_option maxRecDepth 20000 in
set_option maxHeartbeats 4000000 in
theorem c_L_leafKey (N : Nat) (h : XH) (p0 : Nat) (p1 : Int32) (p2 : Int32) (p3 : Nat) (r : (Int32 × XM)) (hF : F_L_leafKey N h p0 p1 p2 p3 = some r) : x_Cn mL_leafKey 8 134 2 12 [.ref p0, .int p1, .int p2, .ref p3] h (some (.int r.1), r.2) := by
  unfold F_L_leafKey at hF
  refine x_cn (by decide) rfl (Nat.le_of_ble_eq_true rfl) ?_
  show X mL_leafKey 8 134 _ _ 2 12 0 [(0, .ref p0), (1, .int p1), (2, .int p2), (3, .ref p3)] [] h
  refine x_aload_n 3 dL_leafKey_0 rfl rfl ?_
  refine x_iconst 0 (by decide) dL_leafKey_1 ?_
  refine x_aload_n 0 dL_leafKey_2 rfl rfl ?_
  refine x_iload_n 1 dL_leafKey_3 rfl rfl ?_
  refine x_iload_n 2 dL_leafKey_4 rfl rfl ?_
  obtain ⟨z1, hzz1, hF⟩ := x_bind hF
  obtain ⟨⟨fsz1, hbz1⟩, hzz1⟩ := x_cv_sp hzz1
  rcases z1 with w2 | e3
  · have hF := x_sel hF
    refine x_callv (As := [.int p1, .int p2]) (rest := [.int 0, .ref p3]) 0 0 dL_leafKey_5 mi_X5_leafKey ml_L_105 rfl rfl (Nat.le_of_ble_eq_true rfl) ⟨by decide, by decide⟩ (by omega) (by omega) hbz1 rfl (c_X5_leafKey N _ _ _ _ _ _ hzz1) (x_K.some ?_) x_KX.none
    refine x_i2l dL_leafKey_8 ?_
    refine x_astl_r dL_leafKey_9 hF (fun f4 hF => ?_)
    refine x_goto 17 dL_leafKey_10 (by decide) ?_
    refine x_iconst 0 (by decide) dL_leafKey_17 ?_
    exact x_iretn dL_leafKey_18 rfl (by cases hF; rfl)
  · have hF := x_ser hF
    by_cases hc0 : e3 = 2
    · subst hc0
      refine x_callv (As := [.int p1, .int p2]) (rest := [.int 0, .ref p3]) 0 0 dL_leafKey_5 mi_X5_leafKey ml_L_105 rfl rfl (Nat.le_of_ble_eq_true rfl) ⟨by decide, by decide⟩ (by omega) (by omega) hbz1 rfl (c_X5_leafKey N _ _ _ _ _ _ hzz1) x_K.inr (x_KX.catch (fun E hm hq => ?_))
      cases hq
      refine ⟨[], ⟨0, 10, 13, 87⟩, [], rfl, (fun z hz => absurd hz List.not_mem_nil), by decide, by decide, lk_IOE, ca_IOE, fun n9 q9 => ?_⟩
      refine x_astore (lv' := [(4, .ref q9), (0, .ref p0), (1, .int p1), (2, .int p2), (3, .ref p3)]) dL_leafKey_13 (by decide) rfl ?_
      refine x_iconst 1 (by decide) dL_leafKey_15 ?_
      exact x_iretn dL_leafKey_16 rfl (by cases hF; rfl)
    have hF := x_ifn hc0 hF
    cases hF
def F_L_leavesIfBuilt (N : Nat) (h : XH) (p0 : Nat) (p1 : Int32) (p2 : Nat) : Option (Int32 × XM) :=
  (x_cv h.1 5 p0 (F_X5_leavesIfBuilt N h.1 p0 p1)).bind fun z1 =>
  x_se z1 (fun w2 =>
    (x_astl w2.2 p2 0 ((w2.1 : Int32).toInt64)).bind fun f4 =>
    some (0, f4))
    (fun e3 => if e3.1 = 0 then some (1, e3.2) else none)
set_option maxRecDepth 20000 in
set_option maxHeartbeats 4000000 in
theorem c_L_leavesIfBuilt (N : Nat) (h : XH) (p0 : Nat) (p1 : Int32) (p2 : Nat) (r : (Int32 × XM)) (hF : F_L_leavesIfBuilt N h p0 p1 p2 = some r) : x_Cn mL_leavesIfBuilt 8 135 1 6 [.ref p0, .int p1, .ref p2] h (some (.int r.1), r.2) := by
  unfold F_L_leavesIfBuilt at hF
  refine x_cn (by decide) rfl (Nat.le_of_ble_eq_true rfl) ?_
  show X mL_leavesIfBuilt 8 135 _ _ 1 6 0 [(0, .ref p0), (1, .int p1), (2, .ref p2)] [] h
  refine x_aload_n 2 dL_leavesIfBuilt_0 rfl rfl ?_
  refine x_iconst 0 (by decide) dL_leavesIfBuilt_1 ?_
  refine x_aload_n 0 dL_leavesIfBuilt_2 rfl rfl ?_
  refine x_iload_n 1 dL_leavesIfBuilt_3 rfl rfl ?_
  obtain ⟨z1, hzz1, hF⟩ := x_bind hF
  obtain ⟨⟨fsz1, hbz1⟩, hzz1⟩ := x_cv_sp hzz1
  rcases z1 with w2 | e3
  · have hF := x_sel hF
    refine x_callv (As := [.int p1]) (rest := [.int 0, .ref p2]) 0 0 dL_leavesIfBuilt_4 mi_X5_leavesIfBuilt ml_L_126 rfl rfl (Nat.le_of_ble_eq_true rfl) ⟨by decide, by decide⟩ (by omega) (by omega) hbz1 rfl (c_X5_leavesIfBuilt N _ _ _ _ _ hzz1) (x_K.some ?_) x_KX.none
    refine x_i2l dL_leavesIfBuilt_7 ?_
    refine x_astl_r dL_leavesIfBuilt_8 hF (fun f4 hF => ?_)
    refine x_goto 15 dL_leavesIfBuilt_9 (by decide) ?_
    refine x_iconst 0 (by decide) dL_leavesIfBuilt_15 ?_
    exact x_iretn dL_leavesIfBuilt_16 rfl (by cases hF; rfl)
  · have hF := x_ser hF
    obtain ⟨e3c, e3f⟩ := e3
    by_cases hc0 : e3c = 0
    · subst hc0
      refine x_callv (As := [.int p1]) (rest := [.int 0, .ref p2]) 0 0 dL_leavesIfBuilt_4 mi_X5_leavesIfBuilt ml_L_126 rfl rfl (Nat.le_of_ble_eq_true rfl) ⟨by decide, by decide⟩ (by omega) (by omega) hbz1 rfl (c_X5_leavesIfBuilt N _ _ _ _ _ hzz1) x_K.inr (x_KX.catch (fun E hm hq => ?_))
      cases hq
      refine ⟨[], ⟨0, 9, 12, 13⟩, [], rfl, (fun z hz => absurd hz List.not_mem_nil), by decide, by decide, lk_IAE, ca_IAE, fun n9 q9 => ?_⟩
      refine x_astore_n (lv' := [(3, .ref q9), (0, .ref p0), (1, .int p1), (2, .ref p2)]) dL_leavesIfBuilt_12 rfl (by decide) rfl ?_
      refine x_iconst 1 (by decide) dL_leavesIfBuilt_13 ?_
      exact x_iretn dL_leavesIfBuilt_14 rfl (by cases hF; rfl)
    have hF := x_ifn hc0 hF
    cases hF
def F_L_levelsIfBuilt (N : Nat) (h : XH) (p0 : Nat) (p1 : Int32) (p2 : Nat) : Option (Int32 × XM) :=
  (x_cv h.1 5 p0 (F_X5_levelsIfBuilt N h.1 p0 p1)).bind fun z1 =>
  x_se z1 (fun w2 =>
    (x_astl w2.2 p2 0 ((w2.1 : Int32).toInt64)).bind fun f4 =>
    some (0, f4))
    (fun e3 => if e3.1 = 0 then some (1, e3.2) else none)
set_option maxRecDepth 20000 in
set_option maxHeartbeats 4000000 in
theorem c_L_levelsIfBuilt (N : Nat) (h : XH) (p0 : Nat) (p1 : Int32) (p2 : Nat) (r : (Int32 × XM)) (hF : F_L_levelsIfBuilt N h p0 p1 p2 = some r) : x_Cn mL_levelsIfBuilt 8 135 1 6 [.ref p0, .int p1, .ref p2] h (some (.int r.1), r.2) := by
  unfold F_L_levelsIfBuilt at hF
  refine x_cn (by decide) rfl (Nat.le_of_ble_eq_true rfl) ?_
  show X mL_levelsIfBuilt 8 135 _ _ 1 6 0 [(0, .ref p0), (1, .int p1), (2, .ref p2)] [] h
  refine x_aload_n 2 dL_levelsIfBuilt_0 rfl rfl ?_
  refine x_iconst 0 (by decide) dL_levelsIfBuilt_1 ?_
  refine x_aload_n 0 dL_levelsIfBuilt_2 rfl rfl ?_
  refine x_iload_n 1 dL_levelsIfBuilt_3 rfl rfl ?_
  obtain ⟨z1, hzz1, hF⟩ := x_bind hF
  obtain ⟨⟨fsz1, hbz1⟩, hzz1⟩ := x_cv_sp hzz1
  rcases z1 with w2 | e3
  · have hF := x_sel hF
    refine x_callv (As := [.int p1]) (rest := [.int 0, .ref p2]) 0 0 dL_levelsIfBuilt_4 mi_X5_levelsIfBuilt ml_L_129 rfl rfl (Nat.le_of_ble_eq_true rfl) ⟨by decide, by decide⟩ (by omega) (by omega) hbz1 rfl (c_X5_levelsIfBuilt N _ _ _ _ _ hzz1) (x_K.some ?_) x_KX.none
    refine x_i2l dL_levelsIfBuilt_7 ?_
    refine x_astl_r dL_levelsIfBuilt_8 hF (fun f4 hF => ?_)
    refine x_goto 15 dL_levelsIfBuilt_9 (by decide) ?_
    refine x_iconst 0 (by decide) dL_levelsIfBuilt_15 ?_
    exact x_iretn dL_levelsIfBuilt_16 rfl (by cases hF; rfl)
  · have hF := x_ser hF
    obtain ⟨e3c, e3f⟩ := e3
    by_cases hc0 : e3c = 0
    · subst hc0
      refine x_callv (As := [.int p1]) (rest := [.int 0, .ref p2]) 0 0 dL_levelsIfBuilt_4 mi_X5_levelsIfBuilt ml_L_129 rfl rfl (Nat.le_of_ble_eq_true rfl) ⟨by decide, by decide⟩ (by omega) (by omega) hbz1 rfl (c_X5_levelsIfBuilt N _ _ _ _ _ hzz1) x_K.inr (x_KX.catch (fun E hm hq => ?_))
      cases hq
      refine ⟨[], ⟨0, 9, 12, 13⟩, [], rfl, (fun z hz => absurd hz List.not_mem_nil), by decide, by decide, lk_IAE, ca_IAE, fun n9 q9 => ?_⟩
      refine x_astore_n (lv' := [(3, .ref q9), (0, .ref p0), (1, .int p1), (2, .ref p2)]) dL_levelsIfBuilt_12 rfl (by decide) rfl ?_
      refine x_iconst 1 (by decide) dL_levelsIfBuilt_13 ?_
      exact x_iretn dL_levelsIfBuilt_14 rfl (by cases hF; rfl)
    have hF := x_ifn hc0 hF
    cases hF
def F_L_mergeRuns (N : Nat) (h : XH) (p0 : Nat) (p1 : Nat) : Option (Int32 × XM) :=
  (x_cv h.1 5 p0 (F_X5_mergeRuns N (h.1, h.2) p0)).bind fun z1 =>
  x_se z1 (fun w2 =>
    (x_astl w2.2.1 p1 0 ((w2.1 : Int32).toInt64)).bind fun f4 =>
    some (0, f4))
    (fun e3 => if e3.1 = 1 then some (1, e3.2) else none)
set_option maxRecDepth 20000 in
set_option maxHeartbeats 4000000 in
theorem c_L_mergeRuns (N : Nat) (h : XH) (p0 : Nat) (p1 : Nat) (r : (Int32 × XM)) (hF : F_L_mergeRuns N h p0 p1 = some r) : x_Cn mL_mergeRuns 8 155 32 1903 [.ref p0, .ref p1] h (some (.int r.1), r.2) := by
  unfold F_L_mergeRuns at hF
  refine x_cn (by decide) rfl (Nat.le_of_ble_eq_true rfl) ?_
  show X mL_mergeRuns 8 155 _ _ 32 1903 0 [(0, .ref p0), (1, .ref p1)] [] h
  refine x_aload_n 1 dL_mergeRuns_0 rfl rfl ?_
  refine x_iconst 0 (by decide) dL_mergeRuns_1 ?_
  refine x_aload_n 0 dL_mergeRuns_2 rfl rfl ?_
  obtain ⟨z1, hzz1, hF⟩ := x_bind hF
  obtain ⟨⟨fsz1, hbz1⟩, hzz1⟩ := x_cv_sp hzz1
  rcases z1 with w2 | e3
  · have hF := x_sel hF
    refine x_callv (As := []) (rest := [.int 0, .ref p1]) 0 0 dL_mergeRuns_3 mi_X5_mergeRuns ml_L_25 rfl rfl (Nat.le_of_ble_eq_true rfl) ⟨by decide, by decide⟩ (by omega) (by omega) hbz1 rfl (c_X5_mergeRuns N _ _ _ hzz1) (x_K.some ?_) x_KX.none
    refine x_i2l dL_mergeRuns_6 ?_
    refine x_astl_r dL_mergeRuns_7 hF (fun f4 hF => ?_)
    refine x_goto 14 dL_mergeRuns_8 (by decide) ?_
    refine x_iconst 0 (by decide) dL_mergeRuns_14 ?_
    exact x_iretn dL_mergeRuns_15 rfl (by cases hF; rfl)
  · have hF := x_ser hF
    obtain ⟨e3c, e3f⟩ := e3
    by_cases hc0 : e3c = 1
    · subst hc0
      refine x_callv (As := []) (rest := [.int 0, .ref p1]) 0 0 dL_mergeRuns_3 mi_X5_mergeRuns ml_L_25 rfl rfl (Nat.le_of_ble_eq_true rfl) ⟨by decide, by decide⟩ (by omega) (by omega) hbz1 rfl (c_X5_mergeRuns N _ _ _ hzz1) x_K.inr (x_KX.catch (fun E hm hq => ?_))
      cases hq
      refine ⟨[], ⟨0, 8, 11, 15⟩, [], rfl, (fun z hz => absurd hz List.not_mem_nil), by decide, by decide, lk_ISE, ca_ISE, fun n9 q9 => ?_⟩
      refine x_astore_n (lv' := [(2, .ref q9), (0, .ref p0), (1, .ref p1)]) dL_mergeRuns_11 rfl (by decide) rfl ?_
      refine x_iconst 1 (by decide) dL_mergeRuns_12 ?_
      exact x_iretn dL_mergeRuns_13 rfl (by cases hF; rfl)
    have hF := x_ifn hc0 hF
    cases hF
def F_L_nextKey (N : Nat) (h : XH) (p0 : Nat) (p1 : Int32) (p2 : Nat) : Option (Int32 × XM) :=
  (x_cv h.1 5 p0 (F_X5_nextKey N h.1 p0 p1)).bind fun z1 =>
  x_se z1 (fun w2 =>
    (x_astl w2.2 p2 0 ((w2.1 : Int32).toInt64)).bind fun f4 =>
    some (0, f4))
    (fun e3 => if e3.1 = 0 then some (1, e3.2) else if e3.1 = 1 then some (2, e3.2) else none)
set_option maxRecDepth 20000 in
set_option maxHeartbeats 4000000 in
theorem c_L_nextKey (N : Nat) (h : XH) (p0 : Nat) (p1 : Int32) (p2 : Nat) (r : (Int32 × XM)) (hF : F_L_nextKey N h p0 p1 p2 = some r) : x_Cn mL_nextKey 8 137 2 12 [.ref p0, .int p1, .ref p2] h (some (.int r.1), r.2) := by
  unfold F_L_nextKey at hF
  refine x_cn (by decide) rfl (Nat.le_of_ble_eq_true rfl) ?_
  show X mL_nextKey 8 137 _ _ 2 12 0 [(0, .ref p0), (1, .int p1), (2, .ref p2)] [] h
  refine x_aload_n 2 dL_nextKey_0 rfl rfl ?_
  refine x_iconst 0 (by decide) dL_nextKey_1 ?_
  refine x_aload_n 0 dL_nextKey_2 rfl rfl ?_
  refine x_iload_n 1 dL_nextKey_3 rfl rfl ?_
  obtain ⟨z1, hzz1, hF⟩ := x_bind hF
  obtain ⟨⟨fsz1, hbz1⟩, hzz1⟩ := x_cv_sp hzz1
  rcases z1 with w2 | e3
  · have hF := x_sel hF
    refine x_callv (As := [.int p1]) (rest := [.int 0, .ref p2]) 0 0 dL_nextKey_4 mi_X5_nextKey ml_L_78 rfl rfl (Nat.le_of_ble_eq_true rfl) ⟨by decide, by decide⟩ (by omega) (by omega) hbz1 rfl (c_X5_nextKey N _ _ _ _ _ hzz1) (x_K.some ?_) x_KX.none
    refine x_i2l dL_nextKey_7 ?_
    refine x_astl_r dL_nextKey_8 hF (fun f4 hF => ?_)
    refine x_goto 18 dL_nextKey_9 (by decide) ?_
    refine x_iconst 0 (by decide) dL_nextKey_18 ?_
    exact x_iretn dL_nextKey_19 rfl (by cases hF; rfl)
  · have hF := x_ser hF
    obtain ⟨e3c, e3f⟩ := e3
    by_cases hc0 : e3c = 0
    · subst hc0
      refine x_callv (As := [.int p1]) (rest := [.int 0, .ref p2]) 0 0 dL_nextKey_4 mi_X5_nextKey ml_L_78 rfl rfl (Nat.le_of_ble_eq_true rfl) ⟨by decide, by decide⟩ (by omega) (by omega) hbz1 rfl (c_X5_nextKey N _ _ _ _ _ hzz1) x_K.inr (x_KX.catch (fun E hm hq => ?_))
      cases hq
      refine ⟨[], ⟨0, 9, 12, 13⟩, [⟨0, 9, 15, 15⟩], rfl, (fun z hz => absurd hz List.not_mem_nil), by decide, by decide, lk_IAE, ca_IAE, fun n9 q9 => ?_⟩
      refine x_astore_n (lv' := [(3, .ref q9), (0, .ref p0), (1, .int p1), (2, .ref p2)]) dL_nextKey_12 rfl (by decide) rfl ?_
      refine x_iconst 1 (by decide) dL_nextKey_13 ?_
      exact x_iretn dL_nextKey_14 rfl (by cases hF; rfl)
    have hF := x_ifn hc0 hF
    by_cases hc1 : e3c = 1
    · subst hc1
      refine x_callv (As := [.int p1]) (rest := [.int 0, .ref p2]) 0 0 dL_nextKey_4 mi_X5_nextKey ml_L_78 rfl rfl (Nat.le_of_ble_eq_true rfl) ⟨by decide, by decide⟩ (by omega) (by omega) hbz1 rfl (c_X5_nextKey N _ _ _ _ _ hzz1) x_K.inr (x_KX.catch (fun E hm hq => ?_))
      cases hq
      refine ⟨[⟨0, 9, 12, 13⟩], ⟨0, 9, 15, 15⟩, [], rfl, (fun z hz => by cases List.mem_singleton.mp hz; exact Or.inr ⟨by decide, x_IAE, lk_IAE, Or.inl ⟨rfl, rfl⟩⟩), by decide, by decide, lk_ISE, ca_ISE, fun n9 q9 => ?_⟩
      refine x_astore_n (lv' := [(3, .ref q9), (0, .ref p0), (1, .int p1), (2, .ref p2)]) dL_nextKey_15 rfl (by decide) rfl ?_
      refine x_iconst 2 (by decide) dL_nextKey_16 ?_
      exact x_iretn dL_nextKey_17 rfl (by cases hF; rfl)
    have hF := x_ifn hc1 hF
    cases hF
def F_L_nodesAt (N : Nat) (h : XH) (p0 : Nat) (p1 : Int32) (p2 : Nat) : Option (Int32 × XM) :=
  (x_cv h.1 5 p0 (F_X5_nodesAt N h.1 p0 p1)).bind fun z1 =>
  x_se z1 (fun w2 =>
    (x_astl h.1 p2 0 ((w2 : Int32).toInt64)).bind fun f4 =>
    some (0, f4))
    (fun e3 => if e3 = 2 then some (1, h.1) else none)
set_option maxRecDepth 20000 in
set_option maxHeartbeats 4000000 in
theorem c_L_nodesAt (N : Nat) (h : XH) (p0 : Nat) (p1 : Int32) (p2 : Nat) (r : (Int32 × XM)) (hF : F_L_nodesAt N h p0 p1 p2 = some r) : x_Cn mL_nodesAt 8 132 1 6 [.ref p0, .int p1, .ref p2] h (some (.int r.1), r.2) := by
  unfold F_L_nodesAt at hF
  refine x_cn (by decide) rfl (Nat.le_of_ble_eq_true rfl) ?_
  show X mL_nodesAt 8 132 _ _ 1 6 0 [(0, .ref p0), (1, .int p1), (2, .ref p2)] [] h
  refine x_aload_n 2 dL_nodesAt_0 rfl rfl ?_
  refine x_iconst 0 (by decide) dL_nodesAt_1 ?_
  refine x_aload_n 0 dL_nodesAt_2 rfl rfl ?_
  refine x_iload_n 1 dL_nodesAt_3 rfl rfl ?_
  obtain ⟨z1, hzz1, hF⟩ := x_bind hF
  obtain ⟨⟨fsz1, hbz1⟩, hzz1⟩ := x_cv_sp hzz1
  rcases z1 with w2 | e3
  · have hF := x_sel hF
    refine x_callv (As := [.int p1]) (rest := [.int 0, .ref p2]) 0 0 dL_nodesAt_4 mi_X5_nodesAt ml_L_114 rfl rfl (Nat.le_of_ble_eq_true rfl) ⟨by decide, by decide⟩ (by omega) (by omega) hbz1 rfl (c_X5_nodesAt N _ _ _ _ _ hzz1) (x_K.some ?_) x_KX.none
    refine x_i2l dL_nodesAt_7 ?_
    refine x_astl_r dL_nodesAt_8 hF (fun f4 hF => ?_)
    refine x_goto 15 dL_nodesAt_9 (by decide) ?_
    refine x_iconst 0 (by decide) dL_nodesAt_15 ?_
    exact x_iretn dL_nodesAt_16 rfl (by cases hF; rfl)
  · have hF := x_ser hF
    by_cases hc0 : e3 = 2
    · subst hc0
      refine x_callv (As := [.int p1]) (rest := [.int 0, .ref p2]) 0 0 dL_nodesAt_4 mi_X5_nodesAt ml_L_114 rfl rfl (Nat.le_of_ble_eq_true rfl) ⟨by decide, by decide⟩ (by omega) (by omega) hbz1 rfl (c_X5_nodesAt N _ _ _ _ _ hzz1) x_K.inr (x_KX.catch (fun E hm hq => ?_))
      cases hq
      refine ⟨[], ⟨0, 9, 12, 87⟩, [], rfl, (fun z hz => absurd hz List.not_mem_nil), by decide, by decide, lk_IOE, ca_IOE, fun n9 q9 => ?_⟩
      refine x_astore_n (lv' := [(3, .ref q9), (0, .ref p0), (1, .int p1), (2, .ref p2)]) dL_nodesAt_12 rfl (by decide) rfl ?_
      refine x_iconst 1 (by decide) dL_nodesAt_13 ?_
      exact x_iretn dL_nodesAt_14 rfl (by cases hF; rfl)
    have hF := x_ifn hc0 hF
    cases hF
def F_L_overflowLeaves (N : Nat) (h : XH) (p0 : Nat) (p1 : Int32) (p2 : Nat) : Option (Int32 × XM) :=
  (x_cv h.1 5 p0 (F_X5_overflowLeaves N h.1 p0 p1)).bind fun z1 =>
  x_se z1 (fun w2 =>
    (x_astl h.1 p2 0 ((w2 : Int32).toInt64)).bind fun f4 =>
    some (0, f4))
    (fun e3 => if e3 = 2 then some (1, h.1) else none)
set_option maxRecDepth 20000 in
set_option maxHeartbeats 4000000 in
theorem c_L_overflowLeaves (N : Nat) (h : XH) (p0 : Nat) (p1 : Int32) (p2 : Nat) (r : (Int32 × XM)) (hF : F_L_overflowLeaves N h p0 p1 p2 = some r) : x_Cn mL_overflowLeaves 8 132 1 6 [.ref p0, .int p1, .ref p2] h (some (.int r.1), r.2) := by
  unfold F_L_overflowLeaves at hF
  refine x_cn (by decide) rfl (Nat.le_of_ble_eq_true rfl) ?_
  show X mL_overflowLeaves 8 132 _ _ 1 6 0 [(0, .ref p0), (1, .int p1), (2, .ref p2)] [] h
  refine x_aload_n 2 dL_overflowLeaves_0 rfl rfl ?_
  refine x_iconst 0 (by decide) dL_overflowLeaves_1 ?_
  refine x_aload_n 0 dL_overflowLeaves_2 rfl rfl ?_
  refine x_iload_n 1 dL_overflowLeaves_3 rfl rfl ?_
  obtain ⟨z1, hzz1, hF⟩ := x_bind hF
  obtain ⟨⟨fsz1, hbz1⟩, hzz1⟩ := x_cv_sp hzz1
  rcases z1 with w2 | e3
  · have hF := x_sel hF
    refine x_callv (As := [.int p1]) (rest := [.int 0, .ref p2]) 0 0 dL_overflowLeaves_4 mi_X5_overflowLeaves ml_L_111 rfl rfl (Nat.le_of_ble_eq_true rfl) ⟨by decide, by decide⟩ (by omega) (by omega) hbz1 rfl (c_X5_overflowLeaves N _ _ _ _ _ hzz1) (x_K.some ?_) x_KX.none
    refine x_i2l dL_overflowLeaves_7 ?_
    refine x_astl_r dL_overflowLeaves_8 hF (fun f4 hF => ?_)
    refine x_goto 15 dL_overflowLeaves_9 (by decide) ?_
    refine x_iconst 0 (by decide) dL_overflowLeaves_15 ?_
    exact x_iretn dL_overflowLeaves_16 rfl (by cases hF; rfl)
  · have hF := x_ser hF
    by_cases hc0 : e3 = 2
    · subst hc0
      refine x_callv (As := [.int p1]) (rest := [.int 0, .ref p2]) 0 0 dL_overflowLeaves_4 mi_X5_overflowLeaves ml_L_111 rfl rfl (Nat.le_of_ble_eq_true rfl) ⟨by decide, by decide⟩ (by omega) (by omega) hbz1 rfl (c_X5_overflowLeaves N _ _ _ _ _ hzz1) x_K.inr (x_KX.catch (fun E hm hq => ?_))
      cases hq
      refine ⟨[], ⟨0, 9, 12, 87⟩, [], rfl, (fun z hz => absurd hz List.not_mem_nil), by decide, by decide, lk_IOE, ca_IOE, fun n9 q9 => ?_⟩
      refine x_astore_n (lv' := [(3, .ref q9), (0, .ref p0), (1, .int p1), (2, .ref p2)]) dL_overflowLeaves_12 rfl (by decide) rfl ?_
      refine x_iconst 1 (by decide) dL_overflowLeaves_13 ?_
      exact x_iretn dL_overflowLeaves_14 rfl (by cases hF; rfl)
    have hF := x_ifn hc0 hF
    cases hF
def F_L_overflowOf (N : Nat) (h : XH) (p0 : Nat) (p1 : Int32) (p2 : Nat) : Option (Int32 × XM) :=
  (x_cv h.1 5 p0 (F_X5_overflowOf N h.1 p0 p1)).bind fun z1 =>
  x_se z1 (fun w2 =>
    (x_astl h.1 p2 0 ((w2 : Int32).toInt64)).bind fun f4 =>
    some (0, f4))
    (fun e3 => if e3 = 2 then some (1, h.1) else none)
set_option maxRecDepth 20000 in
set_option maxHeartbeats 4000000 in
theorem c_L_overflowOf (N : Nat) (h : XH) (p0 : Nat) (p1 : Int32) (p2 : Nat) (r : (Int32 × XM)) (hF : F_L_overflowOf N h p0 p1 p2 = some r) : x_Cn mL_overflowOf 8 132 1 6 [.ref p0, .int p1, .ref p2] h (some (.int r.1), r.2) := by
  unfold F_L_overflowOf at hF
  refine x_cn (by decide) rfl (Nat.le_of_ble_eq_true rfl) ?_
  show X mL_overflowOf 8 132 _ _ 1 6 0 [(0, .ref p0), (1, .int p1), (2, .ref p2)] [] h
  refine x_aload_n 2 dL_overflowOf_0 rfl rfl ?_
  refine x_iconst 0 (by decide) dL_overflowOf_1 ?_
  refine x_aload_n 0 dL_overflowOf_2 rfl rfl ?_
  refine x_iload_n 1 dL_overflowOf_3 rfl rfl ?_
  obtain ⟨z1, hzz1, hF⟩ := x_bind hF
  obtain ⟨⟨fsz1, hbz1⟩, hzz1⟩ := x_cv_sp hzz1
  rcases z1 with w2 | e3
  · have hF := x_sel hF
    refine x_callv (As := [.int p1]) (rest := [.int 0, .ref p2]) 0 0 dL_overflowOf_4 mi_X5_overflowOf ml_L_108 rfl rfl (Nat.le_of_ble_eq_true rfl) ⟨by decide, by decide⟩ (by omega) (by omega) hbz1 rfl (c_X5_overflowOf N _ _ _ _ _ hzz1) (x_K.some ?_) x_KX.none
    refine x_i2l dL_overflowOf_7 ?_
    refine x_astl_r dL_overflowOf_8 hF (fun f4 hF => ?_)
    refine x_goto 15 dL_overflowOf_9 (by decide) ?_
    refine x_iconst 0 (by decide) dL_overflowOf_15 ?_
    exact x_iretn dL_overflowOf_16 rfl (by cases hF; rfl)
  · have hF := x_ser hF
    by_cases hc0 : e3 = 2
    · subst hc0
      refine x_callv (As := [.int p1]) (rest := [.int 0, .ref p2]) 0 0 dL_overflowOf_4 mi_X5_overflowOf ml_L_108 rfl rfl (Nat.le_of_ble_eq_true rfl) ⟨by decide, by decide⟩ (by omega) (by omega) hbz1 rfl (c_X5_overflowOf N _ _ _ _ _ hzz1) x_K.inr (x_KX.catch (fun E hm hq => ?_))
      cases hq
      refine ⟨[], ⟨0, 9, 12, 87⟩, [], rfl, (fun z hz => absurd hz List.not_mem_nil), by decide, by decide, lk_IOE, ca_IOE, fun n9 q9 => ?_⟩
      refine x_astore_n (lv' := [(3, .ref q9), (0, .ref p0), (1, .int p1), (2, .ref p2)]) dL_overflowOf_12 rfl (by decide) rfl ?_
      refine x_iconst 1 (by decide) dL_overflowOf_13 ?_
      exact x_iretn dL_overflowOf_14 rfl (by cases hF; rfl)
    have hF := x_ifn hc0 hF
    cases hF
def F_L_pagesFor (N : Nat) (h : XH) (p0 : Nat) (p1 : Int32) (p2 : Nat) : Option (Int32 × XM) :=
  (x_cv h.1 5 p0 (F_X5_pagesFor N h.1 p0 p1)).bind fun z1 =>
  x_se z1 (fun w2 =>
    (x_astl h.1 p2 0 ((w2 : Int32).toInt64)).bind fun f4 =>
    some (0, f4))
    (fun e3 => if e3 = 0 then some (1, h.1) else none)
set_option maxRecDepth 20000 in
set_option maxHeartbeats 4000000 in
theorem c_L_pagesFor (N : Nat) (h : XH) (p0 : Nat) (p1 : Int32) (p2 : Nat) (r : (Int32 × XM)) (hF : F_L_pagesFor N h p0 p1 p2 = some r) : x_Cn mL_pagesFor 8 131 1 6 [.ref p0, .int p1, .ref p2] h (some (.int r.1), r.2) := by
  unfold F_L_pagesFor at hF
  refine x_cn (by decide) rfl (Nat.le_of_ble_eq_true rfl) ?_
  show X mL_pagesFor 8 131 _ _ 1 6 0 [(0, .ref p0), (1, .int p1), (2, .ref p2)] [] h
  refine x_aload_n 2 dL_pagesFor_0 rfl rfl ?_
  refine x_iconst 0 (by decide) dL_pagesFor_1 ?_
  refine x_aload_n 0 dL_pagesFor_2 rfl rfl ?_
  refine x_iload_n 1 dL_pagesFor_3 rfl rfl ?_
  obtain ⟨z1, hzz1, hF⟩ := x_bind hF
  obtain ⟨⟨fsz1, hbz1⟩, hzz1⟩ := x_cv_sp hzz1
  rcases z1 with w2 | e3
  · have hF := x_sel hF
    refine x_callv (As := [.int p1]) (rest := [.int 0, .ref p2]) 0 0 dL_pagesFor_4 mi_X5_pagesFor ml_L_69 rfl rfl (Nat.le_of_ble_eq_true rfl) ⟨by decide, by decide⟩ (by omega) (by omega) hbz1 rfl (c_X5_pagesFor N _ _ _ _ _ hzz1) (x_K.some ?_) x_KX.none
    refine x_i2l dL_pagesFor_7 ?_
    refine x_astl_r dL_pagesFor_8 hF (fun f4 hF => ?_)
    refine x_goto 15 dL_pagesFor_9 (by decide) ?_
    refine x_iconst 0 (by decide) dL_pagesFor_15 ?_
    exact x_iretn dL_pagesFor_16 rfl (by cases hF; rfl)
  · have hF := x_ser hF
    by_cases hc0 : e3 = 0
    · subst hc0
      refine x_callv (As := [.int p1]) (rest := [.int 0, .ref p2]) 0 0 dL_pagesFor_4 mi_X5_pagesFor ml_L_69 rfl rfl (Nat.le_of_ble_eq_true rfl) ⟨by decide, by decide⟩ (by omega) (by omega) hbz1 rfl (c_X5_pagesFor N _ _ _ _ _ hzz1) x_K.inr (x_KX.catch (fun E hm hq => ?_))
      cases hq
      refine ⟨[], ⟨0, 9, 12, 13⟩, [], rfl, (fun z hz => absurd hz List.not_mem_nil), by decide, by decide, lk_IAE, ca_IAE, fun n9 q9 => ?_⟩
      refine x_astore_n (lv' := [(3, .ref q9), (0, .ref p0), (1, .int p1), (2, .ref p2)]) dL_pagesFor_12 rfl (by decide) rfl ?_
      refine x_iconst 1 (by decide) dL_pagesFor_13 ?_
      exact x_iretn dL_pagesFor_14 rfl (by cases hF; rfl)
    have hF := x_ifn hc0 hF
    cases hF
def F_L_put (N : Nat) (h : XH) (p0 : Nat) (p1 : Int32) (p2 : Int32) (p3 : Nat) : Option (Int32 × XM) :=
  (x_cv h.1 5 p0 (F_X5_put N (h.1, h.2) p0 p1 p2)).bind fun z1 =>
  x_se z1 (fun w2 =>
    (x_astl w2.2.1 p3 0 ((w2.1 : Int32).toInt64)).bind fun f4 =>
    some (0, f4))
    (fun e3 => if e3.1 = 0 then some (1, e3.2) else if e3.1 = 1 then some (2, e3.2) else none)
set_option maxRecDepth 20000 in
set_option maxHeartbeats 4000000 in
theorem c_L_put (N : Nat) (h : XH) (p0 : Nat) (p1 : Int32) (p2 : Int32) (p3 : Nat) (r : (Int32 × XM)) (hF : F_L_put N h p0 p1 p2 p3 = some r) : x_Cn mL_put 8 157 34 1915 [.ref p0, .int p1, .int p2, .ref p3] h (some (.int r.1), r.2) := by
  unfold F_L_put at hF
  refine x_cn (by decide) rfl (Nat.le_of_ble_eq_true rfl) ?_
  show X mL_put 8 157 _ _ 34 1915 0 [(0, .ref p0), (1, .int p1), (2, .int p2), (3, .ref p3)] [] h
  refine x_aload_n 3 dL_put_0 rfl rfl ?_
  refine x_iconst 0 (by decide) dL_put_1 ?_
  refine x_aload_n 0 dL_put_2 rfl rfl ?_
  refine x_iload_n 1 dL_put_3 rfl rfl ?_
  refine x_iload_n 2 dL_put_4 rfl rfl ?_
  obtain ⟨z1, hzz1, hF⟩ := x_bind hF
  obtain ⟨⟨fsz1, hbz1⟩, hzz1⟩ := x_cv_sp hzz1
  rcases z1 with w2 | e3
  · have hF := x_sel hF
    refine x_callv (As := [.int p1, .int p2]) (rest := [.int 0, .ref p3]) 0 0 dL_put_5 mi_X5_put ml_L_7 rfl rfl (Nat.le_of_ble_eq_true rfl) ⟨by decide, by decide⟩ (by omega) (by omega) hbz1 rfl (c_X5_put N _ _ _ _ _ hzz1) (x_K.some ?_) x_KX.none
    refine x_i2l dL_put_8 ?_
    refine x_astl_r dL_put_9 hF (fun f4 hF => ?_)
    refine x_goto 21 dL_put_10 (by decide) ?_
    refine x_iconst 0 (by decide) dL_put_21 ?_
    exact x_iretn dL_put_22 rfl (by cases hF; rfl)
  · have hF := x_ser hF
    obtain ⟨e3c, e3f⟩ := e3
    by_cases hc0 : e3c = 0
    · subst hc0
      refine x_callv (As := [.int p1, .int p2]) (rest := [.int 0, .ref p3]) 0 0 dL_put_5 mi_X5_put ml_L_7 rfl rfl (Nat.le_of_ble_eq_true rfl) ⟨by decide, by decide⟩ (by omega) (by omega) hbz1 rfl (c_X5_put N _ _ _ _ _ hzz1) x_K.inr (x_KX.catch (fun E hm hq => ?_))
      cases hq
      refine ⟨[], ⟨0, 10, 13, 13⟩, [⟨0, 10, 17, 15⟩], rfl, (fun z hz => absurd hz List.not_mem_nil), by decide, by decide, lk_IAE, ca_IAE, fun n9 q9 => ?_⟩
      refine x_astore (lv' := [(4, .ref q9), (0, .ref p0), (1, .int p1), (2, .int p2), (3, .ref p3)]) dL_put_13 (by decide) rfl ?_
      refine x_iconst 1 (by decide) dL_put_15 ?_
      exact x_iretn dL_put_16 rfl (by cases hF; rfl)
    have hF := x_ifn hc0 hF
    by_cases hc1 : e3c = 1
    · subst hc1
      refine x_callv (As := [.int p1, .int p2]) (rest := [.int 0, .ref p3]) 0 0 dL_put_5 mi_X5_put ml_L_7 rfl rfl (Nat.le_of_ble_eq_true rfl) ⟨by decide, by decide⟩ (by omega) (by omega) hbz1 rfl (c_X5_put N _ _ _ _ _ hzz1) x_K.inr (x_KX.catch (fun E hm hq => ?_))
      cases hq
      refine ⟨[⟨0, 10, 13, 13⟩], ⟨0, 10, 17, 15⟩, [], rfl, (fun z hz => by cases List.mem_singleton.mp hz; exact Or.inr ⟨by decide, x_IAE, lk_IAE, Or.inl ⟨rfl, rfl⟩⟩), by decide, by decide, lk_ISE, ca_ISE, fun n9 q9 => ?_⟩
      refine x_astore (lv' := [(4, .ref q9), (0, .ref p0), (1, .int p1), (2, .int p2), (3, .ref p3)]) dL_put_17 (by decide) rfl ?_
      refine x_iconst 2 (by decide) dL_put_19 ?_
      exact x_iretn dL_put_20 rfl (by cases hF; rfl)
    have hF := x_ifn hc1 hF
    cases hF
def F_L_runOf (N : Nat) (h : XH) (p0 : Nat) (p1 : Int32) (p2 : Nat) : Option (Int32 × XM) :=
  (x_cv h.1 5 p0 (F_X5_runOf N h.1 p0 p1)).bind fun z1 =>
  x_se z1 (fun w2 =>
    (x_astl h.1 p2 0 ((w2 : Int32).toInt64)).bind fun f4 =>
    some (0, f4))
    (fun e3 => if e3 = 0 then some (1, h.1) else if e3 = 1 then some (2, h.1) else none)
set_option maxRecDepth 20000 in
set_option maxHeartbeats 4000000 in
theorem c_L_runOf (N : Nat) (h : XH) (p0 : Nat) (p1 : Int32) (p2 : Nat) (r : (Int32 × XM)) (hF : F_L_runOf N h p0 p1 p2 = some r) : x_Cn mL_runOf 8 132 2 12 [.ref p0, .int p1, .ref p2] h (some (.int r.1), r.2) := by
  unfold F_L_runOf at hF
  refine x_cn (by decide) rfl (Nat.le_of_ble_eq_true rfl) ?_
  show X mL_runOf 8 132 _ _ 2 12 0 [(0, .ref p0), (1, .int p1), (2, .ref p2)] [] h
  refine x_aload_n 2 dL_runOf_0 rfl rfl ?_
  refine x_iconst 0 (by decide) dL_runOf_1 ?_
  refine x_aload_n 0 dL_runOf_2 rfl rfl ?_
  refine x_iload_n 1 dL_runOf_3 rfl rfl ?_
  obtain ⟨z1, hzz1, hF⟩ := x_bind hF
  obtain ⟨⟨fsz1, hbz1⟩, hzz1⟩ := x_cv_sp hzz1
  rcases z1 with w2 | e3
  · have hF := x_sel hF
    refine x_callv (As := [.int p1]) (rest := [.int 0, .ref p2]) 0 0 dL_runOf_4 mi_X5_runOf ml_L_99 rfl rfl (Nat.le_of_ble_eq_true rfl) ⟨by decide, by decide⟩ (by omega) (by omega) hbz1 rfl (c_X5_runOf N _ _ _ _ _ hzz1) (x_K.some ?_) x_KX.none
    refine x_i2l dL_runOf_7 ?_
    refine x_astl_r dL_runOf_8 hF (fun f4 hF => ?_)
    refine x_goto 18 dL_runOf_9 (by decide) ?_
    refine x_iconst 0 (by decide) dL_runOf_18 ?_
    exact x_iretn dL_runOf_19 rfl (by cases hF; rfl)
  · have hF := x_ser hF
    by_cases hc0 : e3 = 0
    · subst hc0
      refine x_callv (As := [.int p1]) (rest := [.int 0, .ref p2]) 0 0 dL_runOf_4 mi_X5_runOf ml_L_99 rfl rfl (Nat.le_of_ble_eq_true rfl) ⟨by decide, by decide⟩ (by omega) (by omega) hbz1 rfl (c_X5_runOf N _ _ _ _ _ hzz1) x_K.inr (x_KX.catch (fun E hm hq => ?_))
      cases hq
      refine ⟨[], ⟨0, 9, 12, 13⟩, [⟨0, 9, 15, 15⟩], rfl, (fun z hz => absurd hz List.not_mem_nil), by decide, by decide, lk_IAE, ca_IAE, fun n9 q9 => ?_⟩
      refine x_astore_n (lv' := [(3, .ref q9), (0, .ref p0), (1, .int p1), (2, .ref p2)]) dL_runOf_12 rfl (by decide) rfl ?_
      refine x_iconst 1 (by decide) dL_runOf_13 ?_
      exact x_iretn dL_runOf_14 rfl (by cases hF; rfl)
    have hF := x_ifn hc0 hF
    by_cases hc1 : e3 = 1
    · subst hc1
      refine x_callv (As := [.int p1]) (rest := [.int 0, .ref p2]) 0 0 dL_runOf_4 mi_X5_runOf ml_L_99 rfl rfl (Nat.le_of_ble_eq_true rfl) ⟨by decide, by decide⟩ (by omega) (by omega) hbz1 rfl (c_X5_runOf N _ _ _ _ _ hzz1) x_K.inr (x_KX.catch (fun E hm hq => ?_))
      cases hq
      refine ⟨[⟨0, 9, 12, 13⟩], ⟨0, 9, 15, 15⟩, [], rfl, (fun z hz => by cases List.mem_singleton.mp hz; exact Or.inr ⟨by decide, x_IAE, lk_IAE, Or.inl ⟨rfl, rfl⟩⟩), by decide, by decide, lk_ISE, ca_ISE, fun n9 q9 => ?_⟩
      refine x_astore_n (lv' := [(3, .ref q9), (0, .ref p0), (1, .int p1), (2, .ref p2)]) dL_runOf_15 rfl (by decide) rfl ?_
      refine x_iconst 2 (by decide) dL_runOf_16 ?_
      exact x_iretn dL_runOf_17 rfl (by cases hF; rfl)
    have hF := x_ifn hc1 hF
    cases hF
def F_L_sizeOf (N : Nat) (h : XH) (p0 : Nat) (p1 : Int32) (p2 : Nat) : Option (Int32 × XM) :=
  (x_cv h.1 5 p0 (F_X5_sizeOf N h.1 p0 p1)).bind fun z1 =>
  x_se z1 (fun w2 =>
    (x_astl h.1 p2 0 ((w2 : Int32).toInt64)).bind fun f4 =>
    some (0, f4))
    (fun e3 => if e3 = 2 then some (1, h.1) else none)
set_option maxRecDepth 20000 in
set_option maxHeartbeats 4000000 in
theorem c_L_sizeOf (N : Nat) (h : XH) (p0 : Nat) (p1 : Int32) (p2 : Nat) (r : (Int32 × XM)) (hF : F_L_sizeOf N h p0 p1 p2 = some r) : x_Cn mL_sizeOf 7 112 1 6 [.ref p0, .int p1, .ref p2] h (some (.int r.1), r.2) := by
  unfold F_L_sizeOf at hF
  refine x_cn (by decide) rfl (Nat.le_of_ble_eq_true rfl) ?_
  show X mL_sizeOf 7 112 _ _ 1 6 0 [(0, .ref p0), (1, .int p1), (2, .ref p2)] [] h
  refine x_aload_n 2 dL_sizeOf_0 rfl rfl ?_
  refine x_iconst 0 (by decide) dL_sizeOf_1 ?_
  refine x_aload_n 0 dL_sizeOf_2 rfl rfl ?_
  refine x_iload_n 1 dL_sizeOf_3 rfl rfl ?_
  obtain ⟨z1, hzz1, hF⟩ := x_bind hF
  obtain ⟨⟨fsz1, hbz1⟩, hzz1⟩ := x_cv_sp hzz1
  rcases z1 with w2 | e3
  · have hF := x_sel hF
    refine x_callv (As := [.int p1]) (rest := [.int 0, .ref p2]) 0 0 dL_sizeOf_4 mi_X5_sizeOf ml_L_89 rfl rfl (Nat.le_of_ble_eq_true rfl) ⟨by decide, by decide⟩ (by omega) (by omega) hbz1 rfl (c_X5_sizeOf N _ _ _ _ _ hzz1) (x_K.some ?_) x_KX.none
    refine x_i2l dL_sizeOf_7 ?_
    refine x_astl_r dL_sizeOf_8 hF (fun f4 hF => ?_)
    refine x_goto 15 dL_sizeOf_9 (by decide) ?_
    refine x_iconst 0 (by decide) dL_sizeOf_15 ?_
    exact x_iretn dL_sizeOf_16 rfl (by cases hF; rfl)
  · have hF := x_ser hF
    by_cases hc0 : e3 = 2
    · subst hc0
      refine x_callv (As := [.int p1]) (rest := [.int 0, .ref p2]) 0 0 dL_sizeOf_4 mi_X5_sizeOf ml_L_89 rfl rfl (Nat.le_of_ble_eq_true rfl) ⟨by decide, by decide⟩ (by omega) (by omega) hbz1 rfl (c_X5_sizeOf N _ _ _ _ _ hzz1) x_K.inr (x_KX.catch (fun E hm hq => ?_))
      cases hq
      refine ⟨[], ⟨0, 9, 12, 87⟩, [], rfl, (fun z hz => absurd hz List.not_mem_nil), by decide, by decide, lk_IOE, ca_IOE, fun n9 q9 => ?_⟩
      refine x_astore_n (lv' := [(3, .ref q9), (0, .ref p0), (1, .int p1), (2, .ref p2)]) dL_sizeOf_12 rfl (by decide) rfl ?_
      refine x_iconst 1 (by decide) dL_sizeOf_13 ?_
      exact x_iretn dL_sizeOf_14 rfl (by cases hF; rfl)
    have hF := x_ifn hc0 hF
    cases hF
def F_L_undo (N : Nat) (h : XH) (p0 : Nat) : Option (Int32 × XM) :=
  (x_cv h.1 5 p0 (F_X5_undo N h.1 p0)).bind fun z1 =>
  x_se z1 (fun w2 =>
    some (0, w2))
    (fun e3 => if e3.1 = 1 then some (1, e3.2) else none)
set_option maxRecDepth 20000 in
set_option maxHeartbeats 4000000 in
theorem c_L_undo (N : Nat) (h : XH) (p0 : Nat) (r : (Int32 × XM)) (hF : F_L_undo N h p0 = some r) : x_Cn mL_undo 7 156 1 6 [.ref p0] h (some (.int r.1), r.2) := by
  unfold F_L_undo at hF
  refine x_cn (by decide) rfl (Nat.le_of_ble_eq_true rfl) ?_
  show X mL_undo 7 156 _ _ 1 6 0 [(0, .ref p0)] [] h
  refine x_aload_n 0 dL_undo_0 rfl rfl ?_
  obtain ⟨z1, hzz1, hF⟩ := x_bind hF
  obtain ⟨⟨fsz1, hbz1⟩, hzz1⟩ := x_cv_sp hzz1
  rcases z1 with w2 | e3
  · have hF := x_sel hF
    refine x_callv (As := []) (rest := []) 0 0 dL_undo_1 mi_X5_undo ml_L_56 rfl rfl (Nat.le_of_ble_eq_true rfl) ⟨by decide, by decide⟩ (by omega) (by omega) hbz1 rfl (c_X5_undo N _ _ _ _ hzz1) (x_K.none ?_) x_KX.none
    refine x_goto 10 dL_undo_4 (by decide) ?_
    refine x_iconst 0 (by decide) dL_undo_10 ?_
    exact x_iretn dL_undo_11 rfl (by cases hF; rfl)
  · have hF := x_ser hF
    obtain ⟨e3c, e3f⟩ := e3
    by_cases hc0 : e3c = 1
    · subst hc0
      refine x_callv (As := []) (rest := []) 0 0 dL_undo_1 mi_X5_undo ml_L_56 rfl rfl (Nat.le_of_ble_eq_true rfl) ⟨by decide, by decide⟩ (by omega) (by omega) hbz1 rfl (c_X5_undo N _ _ _ _ hzz1) x_K.inr (x_KX.catch (fun E hm hq => ?_))
      cases hq
      refine ⟨[], ⟨0, 4, 7, 15⟩, [], rfl, (fun z hz => absurd hz List.not_mem_nil), by decide, by decide, lk_ISE, ca_ISE, fun n9 q9 => ?_⟩
      refine x_astore_n (lv' := [(1, .ref q9), (0, .ref p0)]) dL_undo_7 rfl (by decide) rfl ?_
      refine x_iconst 1 (by decide) dL_undo_8 ?_
      exact x_iretn dL_undo_9 rfl (by cases hF; rfl)
    have hF := x_ifn hc0 hF
    cases hF
def F_L_valueOf (N : Nat) (h : XH) (p0 : Nat) (p1 : Int32) (p2 : Nat) : Option (Int32 × XM) :=
  (x_cv h.1 5 p0 (F_X5_valueOf N h.1 p0 p1)).bind fun z1 =>
  x_se z1 (fun w2 =>
    (x_astl h.1 p2 0 ((w2 : Int32).toInt64)).bind fun f4 =>
    some (0, f4))
    (fun e3 => if e3 = 0 then some (1, h.1) else if e3 = 1 then some (2, h.1) else none)
set_option maxRecDepth 20000 in
set_option maxHeartbeats 4000000 in
theorem c_L_valueOf (N : Nat) (h : XH) (p0 : Nat) (p1 : Int32) (p2 : Nat) (r : (Int32 × XM)) (hF : F_L_valueOf N h p0 p1 p2 = some r) : x_Cn mL_valueOf 8 132 2 12 [.ref p0, .int p1, .ref p2] h (some (.int r.1), r.2) := by
  unfold F_L_valueOf at hF
  refine x_cn (by decide) rfl (Nat.le_of_ble_eq_true rfl) ?_
  show X mL_valueOf 8 132 _ _ 2 12 0 [(0, .ref p0), (1, .int p1), (2, .ref p2)] [] h
  refine x_aload_n 2 dL_valueOf_0 rfl rfl ?_
  refine x_iconst 0 (by decide) dL_valueOf_1 ?_
  refine x_aload_n 0 dL_valueOf_2 rfl rfl ?_
  refine x_iload_n 1 dL_valueOf_3 rfl rfl ?_
  obtain ⟨z1, hzz1, hF⟩ := x_bind hF
  obtain ⟨⟨fsz1, hbz1⟩, hzz1⟩ := x_cv_sp hzz1
  rcases z1 with w2 | e3
  · have hF := x_sel hF
    refine x_callv (As := [.int p1]) (rest := [.int 0, .ref p2]) 0 0 dL_valueOf_4 mi_X5_valueOf ml_L_66 rfl rfl (Nat.le_of_ble_eq_true rfl) ⟨by decide, by decide⟩ (by omega) (by omega) hbz1 rfl (c_X5_valueOf N _ _ _ _ _ hzz1) (x_K.some ?_) x_KX.none
    refine x_i2l dL_valueOf_7 ?_
    refine x_astl_r dL_valueOf_8 hF (fun f4 hF => ?_)
    refine x_goto 18 dL_valueOf_9 (by decide) ?_
    refine x_iconst 0 (by decide) dL_valueOf_18 ?_
    exact x_iretn dL_valueOf_19 rfl (by cases hF; rfl)
  · have hF := x_ser hF
    by_cases hc0 : e3 = 0
    · subst hc0
      refine x_callv (As := [.int p1]) (rest := [.int 0, .ref p2]) 0 0 dL_valueOf_4 mi_X5_valueOf ml_L_66 rfl rfl (Nat.le_of_ble_eq_true rfl) ⟨by decide, by decide⟩ (by omega) (by omega) hbz1 rfl (c_X5_valueOf N _ _ _ _ _ hzz1) x_K.inr (x_KX.catch (fun E hm hq => ?_))
      cases hq
      refine ⟨[], ⟨0, 9, 12, 13⟩, [⟨0, 9, 15, 15⟩], rfl, (fun z hz => absurd hz List.not_mem_nil), by decide, by decide, lk_IAE, ca_IAE, fun n9 q9 => ?_⟩
      refine x_astore_n (lv' := [(3, .ref q9), (0, .ref p0), (1, .int p1), (2, .ref p2)]) dL_valueOf_12 rfl (by decide) rfl ?_
      refine x_iconst 1 (by decide) dL_valueOf_13 ?_
      exact x_iretn dL_valueOf_14 rfl (by cases hF; rfl)
    have hF := x_ifn hc0 hF
    by_cases hc1 : e3 = 1
    · subst hc1
      refine x_callv (As := [.int p1]) (rest := [.int 0, .ref p2]) 0 0 dL_valueOf_4 mi_X5_valueOf ml_L_66 rfl rfl (Nat.le_of_ble_eq_true rfl) ⟨by decide, by decide⟩ (by omega) (by omega) hbz1 rfl (c_X5_valueOf N _ _ _ _ _ hzz1) x_K.inr (x_KX.catch (fun E hm hq => ?_))
      cases hq
      refine ⟨[⟨0, 9, 12, 13⟩], ⟨0, 9, 15, 15⟩, [], rfl, (fun z hz => by cases List.mem_singleton.mp hz; exact Or.inr ⟨by decide, x_IAE, lk_IAE, Or.inl ⟨rfl, rfl⟩⟩), by decide, by decide, lk_ISE, ca_ISE, fun n9 q9 => ?_⟩
      refine x_astore_n (lv' := [(3, .ref q9), (0, .ref p0), (1, .int p1), (2, .ref p2)]) dL_valueOf_15 rfl (by decide) rfl ?_
      refine x_iconst 2 (by decide) dL_valueOf_16 ?_
      exact x_iretn dL_valueOf_17 rfl (by cases hF; rfl)
    have hF := x_ifn hc1 hF
    cases hF
