/-! The law's own methods. Laid by wip/p55/gen_law.py. -/
def F_L_part (N : Nat) (f : XM) (p0 : Int32) (p1 : Int32) : Option Int32 :=
  (x_rem (p0 &&& 2147483647) p1).bind fun v1 =>
  some v1
set_option maxRecDepth 20000 in
set_option maxHeartbeats 4000000 in
theorem c_L_part (N : Nat) (f : XM) (p0 : Int32) (p1 : Int32) (n : Nat) (r : Int32) (hF : F_L_part N f p0 p1 = some r) : x_Ct mL_part 0 0 0 0 [.int p0, .int p1] (f, n) (xr_ip r (f, n)) := by
  unfold F_L_part at hF
  refine x_ct (by decide) rfl (Nat.le_of_ble_eq_true rfl) ?_
  show X mL_part 0 0 _ _ 0 0 0 [(0, .int p0), (1, .int p1)] [] (f, n)
  refine x_iload_n 0 dL_part_0 rfl rfl ?_
  refine x_ldc kc_L_7 dL_part_1 ?_
  refine x_iand dL_part_3 ?_
  refine x_iload_n 1 dL_part_4 rfl rfl ?_
  refine x_irem dL_part_5 hF (fun v1 hF => ?_)
  exact x_iret dL_part_6 rfl (by cases hF; rfl)
def F_L_far (N : Nat) (f : XM) (p0 : Int32) (p1 : Int32) (p2 : Int32) : Option Int32 :=
  if p0 = 0 then
    some (p1 - 1)
  else
    if p0 = 1 then
      some (p2 + 1)
    else
      if p0 = 2 then
        some (-2147483648)
      else
        some 2147483647
set_option maxRecDepth 20000 in
set_option maxHeartbeats 4000000 in
theorem c_L_far (N : Nat) (f : XM) (p0 : Int32) (p1 : Int32) (p2 : Int32) (n : Nat) (r : Int32) (hF : F_L_far N f p0 p1 p2 = some r) : x_Ct mL_far 0 0 0 0 [.int p0, .int p1, .int p2] (f, n) (xr_ip r (f, n)) := by
  unfold F_L_far at hF
  refine x_ct (by decide) rfl (Nat.le_of_ble_eq_true rfl) ?_
  show X mL_far 0 0 _ _ 0 0 0 [(0, .int p0), (1, .int p1), (2, .int p2)] [] (f, n)
  refine x_iload_n 0 dL_far_0 rfl rfl ?_
  refine x_if_ne 10 dL_far_1 (by decide) hF (fun hF => ?_) (fun hF => ?_)
  · refine x_iload_n 0 dL_far_10 rfl rfl ?_
    refine x_iconst 1 (by decide) dL_far_11 ?_
    refine x_icmp_ne 21 dL_far_12 (by decide) hF (fun hF => ?_) (fun hF => ?_)
    · refine x_iload_n 0 dL_far_21 rfl rfl ?_
      refine x_iconst 2 (by decide) dL_far_22 ?_
      refine x_icmp_ne 31 dL_far_23 (by decide) hF (fun hF => ?_) (fun hF => ?_)
      · refine x_ldc kc_L_7 dL_far_31 ?_
        exact x_iret dL_far_33 rfl (by cases hF; rfl)
      · refine x_ldc kc_L_174 dL_far_26 ?_
        refine x_goto 33 dL_far_28 (by decide) ?_
        exact x_iret dL_far_33 rfl (by cases hF; rfl)
    · refine x_iload_n 2 dL_far_15 rfl rfl ?_
      refine x_iconst 1 (by decide) dL_far_16 ?_
      refine x_iadd dL_far_17 ?_
      refine x_goto 33 dL_far_18 (by decide) ?_
      exact x_iret dL_far_33 rfl (by cases hF; rfl)
  · refine x_iload_n 1 dL_far_4 rfl rfl ?_
    refine x_iconst 1 (by decide) dL_far_5 ?_
    refine x_isub dL_far_6 ?_
    refine x_goto 33 dL_far_7 (by decide) ?_
    exact x_iret dL_far_33 rfl (by cases hF; rfl)
def F_L_act (N : Nat) (h : XH) (p0 : Nat) (p1 : Int32) (p2 : Int32) (p3 : Int32) : Option ((Int32 × XH) ⊕ (Nat × XM)) :=
  if p1 = 0 then
    (x_cv h.1 5 p0 (F_X5_put N (h.1, h.2) p0 p2 p3)).bind fun z32 =>
    x_se z32 (fun w33 =>
      some (.inl (w33.1, (w33.2.1, w33.2.2))))
      (fun e34 => some (.inr (e34.1, e34.2)))
  else
    if p1 = 1 then
      (x_cv h.1 5 p0 (F_X5_drop N (h.1, h.2) p0 p2)).bind fun z29 =>
      x_se z29 (fun w30 =>
        some (.inl (w30.1, (w30.2.1, w30.2.2))))
        (fun e31 => some (.inr (e31.1, e31.2)))
    else
      if p1 = 2 then
        (x_cv h.1 5 p0 (F_X5_closeRun N (h.1, h.2) p0)).bind fun z26 =>
        x_se z26 (fun w27 =>
          some (.inl (w27.1, (w27.2.1, w27.2.2))))
          (fun e28 => some (.inr (e28.1, e28.2)))
      else
        if p1 = 3 then
          (x_cv h.1 5 p0 (F_X5_mergeRuns N (h.1, h.2) p0)).bind fun z23 =>
          x_se z23 (fun w24 =>
            some (.inl (w24.1, (w24.2.1, w24.2.2))))
            (fun e25 => some (.inr (e25.1, e25.2)))
        else
          if p1 = 4 then
            (x_cv h.1 5 p0 (F_X5_build N (h.1, h.2) p0 p2)).bind fun z20 =>
            x_se z20 (fun w21 =>
              some (.inl (w21.1, (w21.2.1, w21.2.2))))
              (fun e22 => some (.inr (e22.1, e22.2)))
          else
            if p1 = 5 then
              (x_cv h.1 5 p0 (F_X5_insert N (h.1, h.2) p0 p2 p3)).bind fun z17 =>
              x_se z17 (fun w18 =>
                some (.inl (w18.1, (w18.2.1, w18.2.2))))
                (fun e19 => some (.inr (e19.1, e19.2)))
            else
              if p1 = 6 then
                (x_cv h.1 5 p0 (F_X5_erase N (h.1, h.2) p0 p2)).bind fun z14 =>
                x_se z14 (fun w15 =>
                  some (.inl (w15.1, (w15.2.1, w15.2.2))))
                  (fun e16 => some (.inr (e16.1, e16.2)))
              else
                if p1 = 7 then
                  (x_cv h.1 5 p0 (F_X5_changeLeaf N (h.1, h.2) p0 p2)).bind fun z11 =>
                  x_se z11 (fun w12 =>
                    some (.inl (w12.1, (w12.2.1, w12.2.2))))
                    (fun e13 => some (.inr (e13.1, e13.2)))
                else
                  if p1 = 8 then
                    (x_cv h.1 5 p0 (F_X5_changeFan N (h.1, h.2) p0 p2)).bind fun z8 =>
                    x_se z8 (fun w9 =>
                      some (.inl (w9.1, (w9.2.1, w9.2.2))))
                      (fun e10 => some (.inr (e10.1, e10.2)))
                  else
                    if p1 = 9 then
                      (x_cv h.1 5 p0 (F_X5_append N h.1 p0 p2)).bind fun z5 =>
                      x_se z5 (fun w6 =>
                        some (.inl (w6.1, (w6.2, h.2))))
                        (fun e7 => some (.inr (e7.1, e7.2)))
                    else
                      if p1 = 10 then
                        (x_cv h.1 5 p0 (F_X5_follow N (h.1, h.2) p0)).bind fun z2 =>
                        x_se z2 (fun w3 =>
                          some (.inl (w3.1, (w3.2.1, w3.2.2))))
                          (fun e4 => some (.inr (e4.1, e4.2)))
                      else
                        (x_cv h.1 5 p0 (F_X5_firstError N h.1 p0)).bind fun z1 =>
                        some (.inl (z1.1, (z1.2, h.2)))
set_option maxRecDepth 20000 in
set_option maxHeartbeats 4000000 in
theorem c_L_act (N : Nat) (h : XH) (p0 : Nat) (p1 : Int32) (p2 : Int32) (p3 : Int32) (r : ((Int32 × XH) ⊕ (Nat × XM))) (hF : F_L_act N h p0 p1 p2 p3 = some r) : x_Ct mL_act 8 198 34 1915 [.ref p0, .int p1, .int p2, .int p3] h (xr_iat r) := by
  unfold F_L_act at hF
  refine x_ct (by decide) rfl (Nat.le_of_ble_eq_true rfl) ?_
  show X mL_act 8 198 _ _ 34 1915 0 [(0, .ref p0), (1, .int p1), (2, .int p2), (3, .int p3)] [] h
  refine x_iload_n 1 dL_act_0 rfl rfl ?_
  refine x_if_ne 13 dL_act_1 (by decide) hF (fun hF => ?_) (fun hF => ?_)
  · refine x_iload_n 1 dL_act_13 rfl rfl ?_
    refine x_iconst 1 (by decide) dL_act_14 ?_
    refine x_icmp_ne 26 dL_act_15 (by decide) hF (fun hF => ?_) (fun hF => ?_)
    · refine x_iload_n 1 dL_act_26 rfl rfl ?_
      refine x_iconst 2 (by decide) dL_act_27 ?_
      refine x_icmp_ne 38 dL_act_28 (by decide) hF (fun hF => ?_) (fun hF => ?_)
      · refine x_iload_n 1 dL_act_38 rfl rfl ?_
        refine x_iconst 3 (by decide) dL_act_39 ?_
        refine x_icmp_ne 50 dL_act_40 (by decide) hF (fun hF => ?_) (fun hF => ?_)
        · refine x_iload_n 1 dL_act_50 rfl rfl ?_
          refine x_iconst 4 (by decide) dL_act_51 ?_
          refine x_icmp_ne 63 dL_act_52 (by decide) hF (fun hF => ?_) (fun hF => ?_)
          · refine x_iload_n 1 dL_act_63 rfl rfl ?_
            refine x_iconst 5 (by decide) dL_act_64 ?_
            refine x_icmp_ne 77 dL_act_65 (by decide) hF (fun hF => ?_) (fun hF => ?_)
            · refine x_iload_n 1 dL_act_77 rfl rfl ?_
              refine x_bipush 6 (by decide) dL_act_78 ?_
              refine x_icmp_ne 91 dL_act_80 (by decide) hF (fun hF => ?_) (fun hF => ?_)
              · refine x_iload_n 1 dL_act_91 rfl rfl ?_
                refine x_bipush 7 (by decide) dL_act_92 ?_
                refine x_icmp_ne 105 dL_act_94 (by decide) hF (fun hF => ?_) (fun hF => ?_)
                · refine x_iload_n 1 dL_act_105 rfl rfl ?_
                  refine x_bipush 8 (by decide) dL_act_106 ?_
                  refine x_icmp_ne 119 dL_act_108 (by decide) hF (fun hF => ?_) (fun hF => ?_)
                  · refine x_iload_n 1 dL_act_119 rfl rfl ?_
                    refine x_bipush 9 (by decide) dL_act_120 ?_
                    refine x_icmp_ne 133 dL_act_122 (by decide) hF (fun hF => ?_) (fun hF => ?_)
                    · refine x_iload_n 1 dL_act_133 rfl rfl ?_
                      refine x_bipush 10 (by decide) dL_act_134 ?_
                      refine x_icmp_ne 146 dL_act_136 (by decide) hF (fun hF => ?_) (fun hF => ?_)
                      · refine x_aload_n 0 dL_act_146 rfl rfl ?_
                        obtain ⟨z1, hzz1, hF⟩ := x_bind hF
                        obtain ⟨⟨fsz1, hbz1⟩, hzz1⟩ := x_cv_sp hzz1
                        refine x_callv (As := []) (rest := []) 34 1915 dL_act_147 mi_X5_firstError ml_L_65 rfl rfl (Nat.le_of_ble_eq_true rfl) ⟨by decide, by decide⟩ (by omega) (by omega) hbz1 rfl (c_X5_firstError N _ _ _ _ hzz1) (x_K.some ?_) x_KX.none
                        exact x_iret dL_act_150 rfl (by cases hF; rfl)
                      · refine x_aload_n 0 dL_act_139 rfl rfl ?_
                        obtain ⟨z2, hzz2, hF⟩ := x_bind hF
                        obtain ⟨⟨fsz2, hbz2⟩, hzz2⟩ := x_cv_sp hzz2
                        rcases z2 with w3 | e4
                        · have hF := x_sel hF
                          refine x_callv (As := []) (rest := []) 2 12 dL_act_140 mi_X5_follow ml_L_62 rfl rfl (Nat.le_of_ble_eq_true rfl) ⟨by decide, by decide⟩ (by omega) (by omega) hbz2 rfl (c_X5_follow N _ _ _ hzz2) (x_K.some ?_) x_KX.none
                          refine x_goto 150 dL_act_143 (by decide) ?_
                          exact x_iret dL_act_150 rfl (by cases hF; rfl)
                        · have hF := x_ser hF
                          exact x_callv (As := []) (rest := []) 2 12 dL_act_140 mi_X5_follow ml_L_62 rfl rfl (Nat.le_of_ble_eq_true rfl) ⟨by decide, by decide⟩ (by omega) (by omega) hbz2 rfl (c_X5_follow N _ _ _ hzz2) x_K.inr (x_KX.out rfl (fun E hm hq => by cases hq; cases hF; rfl))
                    · refine x_aload_n 0 dL_act_125 rfl rfl ?_
                      refine x_iload_n 2 dL_act_126 rfl rfl ?_
                      obtain ⟨z5, hzz5, hF⟩ := x_bind hF
                      obtain ⟨⟨fsz5, hbz5⟩, hzz5⟩ := x_cv_sp hzz5
                      rcases z5 with w6 | e7
                      · have hF := x_sel hF
                        refine x_callv (As := [.int p2]) (rest := []) 33 1909 dL_act_127 mi_X5_append ml_L_59 rfl rfl (Nat.le_of_ble_eq_true rfl) ⟨by decide, by decide⟩ (by omega) (by omega) hbz5 rfl (c_X5_append N _ _ _ _ _ hzz5) (x_K.some ?_) x_KX.none
                        refine x_goto 150 dL_act_130 (by decide) ?_
                        exact x_iret dL_act_150 rfl (by cases hF; rfl)
                      · have hF := x_ser hF
                        exact x_callv (As := [.int p2]) (rest := []) 33 1909 dL_act_127 mi_X5_append ml_L_59 rfl rfl (Nat.le_of_ble_eq_true rfl) ⟨by decide, by decide⟩ (by omega) (by omega) hbz5 rfl (c_X5_append N _ _ _ _ _ hzz5) x_K.inr (x_KX.out rfl (fun E hm hq => by cases hq; cases hF; rfl))
                  · refine x_aload_n 0 dL_act_111 rfl rfl ?_
                    refine x_iload_n 2 dL_act_112 rfl rfl ?_
                    obtain ⟨z8, hzz8, hF⟩ := x_bind hF
                    obtain ⟨⟨fsz8, hbz8⟩, hzz8⟩ := x_cv_sp hzz8
                    rcases z8 with w9 | e10
                    · have hF := x_sel hF
                      refine x_callv (As := [.int p2]) (rest := []) 2 12 dL_act_113 mi_X5_changeFan ml_L_56 rfl rfl (Nat.le_of_ble_eq_true rfl) ⟨by decide, by decide⟩ (by omega) (by omega) hbz8 rfl (c_X5_changeFan N _ _ _ _ hzz8) (x_K.some ?_) x_KX.none
                      refine x_goto 150 dL_act_116 (by decide) ?_
                      exact x_iret dL_act_150 rfl (by cases hF; rfl)
                    · have hF := x_ser hF
                      exact x_callv (As := [.int p2]) (rest := []) 2 12 dL_act_113 mi_X5_changeFan ml_L_56 rfl rfl (Nat.le_of_ble_eq_true rfl) ⟨by decide, by decide⟩ (by omega) (by omega) hbz8 rfl (c_X5_changeFan N _ _ _ _ hzz8) x_K.inr (x_KX.out rfl (fun E hm hq => by cases hq; cases hF; rfl))
                · refine x_aload_n 0 dL_act_97 rfl rfl ?_
                  refine x_iload_n 2 dL_act_98 rfl rfl ?_
                  obtain ⟨z11, hzz11, hF⟩ := x_bind hF
                  obtain ⟨⟨fsz11, hbz11⟩, hzz11⟩ := x_cv_sp hzz11
                  rcases z11 with w12 | e13
                  · have hF := x_sel hF
                    refine x_callv (As := [.int p2]) (rest := []) 2 12 dL_act_99 mi_X5_changeLeaf ml_L_53 rfl rfl (Nat.le_of_ble_eq_true rfl) ⟨by decide, by decide⟩ (by omega) (by omega) hbz11 rfl (c_X5_changeLeaf N _ _ _ _ hzz11) (x_K.some ?_) x_KX.none
                    refine x_goto 150 dL_act_102 (by decide) ?_
                    exact x_iret dL_act_150 rfl (by cases hF; rfl)
                  · have hF := x_ser hF
                    exact x_callv (As := [.int p2]) (rest := []) 2 12 dL_act_99 mi_X5_changeLeaf ml_L_53 rfl rfl (Nat.le_of_ble_eq_true rfl) ⟨by decide, by decide⟩ (by omega) (by omega) hbz11 rfl (c_X5_changeLeaf N _ _ _ _ hzz11) x_K.inr (x_KX.out rfl (fun E hm hq => by cases hq; cases hF; rfl))
              · refine x_aload_n 0 dL_act_83 rfl rfl ?_
                refine x_iload_n 2 dL_act_84 rfl rfl ?_
                obtain ⟨z14, hzz14, hF⟩ := x_bind hF
                obtain ⟨⟨fsz14, hbz14⟩, hzz14⟩ := x_cv_sp hzz14
                rcases z14 with w15 | e16
                · have hF := x_sel hF
                  refine x_callv (As := [.int p2]) (rest := []) 1 6 dL_act_85 mi_X5_erase ml_L_50 rfl rfl (Nat.le_of_ble_eq_true rfl) ⟨by decide, by decide⟩ (by omega) (by omega) hbz14 rfl (c_X5_erase N _ _ _ _ hzz14) (x_K.some ?_) x_KX.none
                  refine x_goto 150 dL_act_88 (by decide) ?_
                  exact x_iret dL_act_150 rfl (by cases hF; rfl)
                · have hF := x_ser hF
                  exact x_callv (As := [.int p2]) (rest := []) 1 6 dL_act_85 mi_X5_erase ml_L_50 rfl rfl (Nat.le_of_ble_eq_true rfl) ⟨by decide, by decide⟩ (by omega) (by omega) hbz14 rfl (c_X5_erase N _ _ _ _ hzz14) x_K.inr (x_KX.out rfl (fun E hm hq => by cases hq; cases hF; rfl))
            · refine x_aload_n 0 dL_act_68 rfl rfl ?_
              refine x_iload_n 2 dL_act_69 rfl rfl ?_
              refine x_iload_n 3 dL_act_70 rfl rfl ?_
              obtain ⟨z17, hzz17, hF⟩ := x_bind hF
              obtain ⟨⟨fsz17, hbz17⟩, hzz17⟩ := x_cv_sp hzz17
              rcases z17 with w18 | e19
              · have hF := x_sel hF
                refine x_callv (As := [.int p2, .int p3]) (rest := []) 0 0 dL_act_71 mi_X5_insert ml_L_47 rfl rfl (Nat.le_of_ble_eq_true rfl) ⟨by decide, by decide⟩ (by omega) (by omega) hbz17 rfl (c_X5_insert N _ _ _ _ _ hzz17) (x_K.some ?_) x_KX.none
                refine x_goto 150 dL_act_74 (by decide) ?_
                exact x_iret dL_act_150 rfl (by cases hF; rfl)
              · have hF := x_ser hF
                exact x_callv (As := [.int p2, .int p3]) (rest := []) 0 0 dL_act_71 mi_X5_insert ml_L_47 rfl rfl (Nat.le_of_ble_eq_true rfl) ⟨by decide, by decide⟩ (by omega) (by omega) hbz17 rfl (c_X5_insert N _ _ _ _ _ hzz17) x_K.inr (x_KX.out rfl (fun E hm hq => by cases hq; cases hF; rfl))
          · refine x_aload_n 0 dL_act_55 rfl rfl ?_
            refine x_iload_n 2 dL_act_56 rfl rfl ?_
            obtain ⟨z20, hzz20, hF⟩ := x_bind hF
            obtain ⟨⟨fsz20, hbz20⟩, hzz20⟩ := x_cv_sp hzz20
            rcases z20 with w21 | e22
            · have hF := x_sel hF
              refine x_callv (As := [.int p2]) (rest := []) 1 6 dL_act_57 mi_X5_build ml_L_44 rfl rfl (Nat.le_of_ble_eq_true rfl) ⟨by decide, by decide⟩ (by omega) (by omega) hbz20 rfl (c_X5_build N _ _ _ _ hzz20) (x_K.some ?_) x_KX.none
              refine x_goto 150 dL_act_60 (by decide) ?_
              exact x_iret dL_act_150 rfl (by cases hF; rfl)
            · have hF := x_ser hF
              exact x_callv (As := [.int p2]) (rest := []) 1 6 dL_act_57 mi_X5_build ml_L_44 rfl rfl (Nat.le_of_ble_eq_true rfl) ⟨by decide, by decide⟩ (by omega) (by omega) hbz20 rfl (c_X5_build N _ _ _ _ hzz20) x_K.inr (x_KX.out rfl (fun E hm hq => by cases hq; cases hF; rfl))
        · refine x_aload_n 0 dL_act_43 rfl rfl ?_
          obtain ⟨z23, hzz23, hF⟩ := x_bind hF
          obtain ⟨⟨fsz23, hbz23⟩, hzz23⟩ := x_cv_sp hzz23
          rcases z23 with w24 | e25
          · have hF := x_sel hF
            refine x_callv (As := []) (rest := []) 2 12 dL_act_44 mi_X5_mergeRuns ml_L_41 rfl rfl (Nat.le_of_ble_eq_true rfl) ⟨by decide, by decide⟩ (by omega) (by omega) hbz23 rfl (c_X5_mergeRuns N _ _ _ hzz23) (x_K.some ?_) x_KX.none
            refine x_goto 150 dL_act_47 (by decide) ?_
            exact x_iret dL_act_150 rfl (by cases hF; rfl)
          · have hF := x_ser hF
            exact x_callv (As := []) (rest := []) 2 12 dL_act_44 mi_X5_mergeRuns ml_L_41 rfl rfl (Nat.le_of_ble_eq_true rfl) ⟨by decide, by decide⟩ (by omega) (by omega) hbz23 rfl (c_X5_mergeRuns N _ _ _ hzz23) x_K.inr (x_KX.out rfl (fun E hm hq => by cases hq; cases hF; rfl))
      · refine x_aload_n 0 dL_act_31 rfl rfl ?_
        obtain ⟨z26, hzz26, hF⟩ := x_bind hF
        obtain ⟨⟨fsz26, hbz26⟩, hzz26⟩ := x_cv_sp hzz26
        rcases z26 with w27 | e28
        · have hF := x_sel hF
          refine x_callv (As := []) (rest := []) 2 12 dL_act_32 mi_X5_closeRun ml_L_37 rfl rfl (Nat.le_of_ble_eq_true rfl) ⟨by decide, by decide⟩ (by omega) (by omega) hbz26 rfl (c_X5_closeRun N _ _ _ hzz26) (x_K.some ?_) x_KX.none
          refine x_goto 150 dL_act_35 (by decide) ?_
          exact x_iret dL_act_150 rfl (by cases hF; rfl)
        · have hF := x_ser hF
          exact x_callv (As := []) (rest := []) 2 12 dL_act_32 mi_X5_closeRun ml_L_37 rfl rfl (Nat.le_of_ble_eq_true rfl) ⟨by decide, by decide⟩ (by omega) (by omega) hbz26 rfl (c_X5_closeRun N _ _ _ hzz26) x_K.inr (x_KX.out rfl (fun E hm hq => by cases hq; cases hF; rfl))
    · refine x_aload_n 0 dL_act_18 rfl rfl ?_
      refine x_iload_n 2 dL_act_19 rfl rfl ?_
      obtain ⟨z29, hzz29, hF⟩ := x_bind hF
      obtain ⟨⟨fsz29, hbz29⟩, hzz29⟩ := x_cv_sp hzz29
      rcases z29 with w30 | e31
      · have hF := x_sel hF
        refine x_callv (As := [.int p2]) (rest := []) 1 6 dL_act_20 mi_X5_drop ml_L_33 rfl rfl (Nat.le_of_ble_eq_true rfl) ⟨by decide, by decide⟩ (by omega) (by omega) hbz29 rfl (c_X5_drop N _ _ _ _ hzz29) (x_K.some ?_) x_KX.none
        refine x_goto 150 dL_act_23 (by decide) ?_
        exact x_iret dL_act_150 rfl (by cases hF; rfl)
      · have hF := x_ser hF
        exact x_callv (As := [.int p2]) (rest := []) 1 6 dL_act_20 mi_X5_drop ml_L_33 rfl rfl (Nat.le_of_ble_eq_true rfl) ⟨by decide, by decide⟩ (by omega) (by omega) hbz29 rfl (c_X5_drop N _ _ _ _ hzz29) x_K.inr (x_KX.out rfl (fun E hm hq => by cases hq; cases hF; rfl))
  · refine x_aload_n 0 dL_act_4 rfl rfl ?_
    refine x_iload_n 2 dL_act_5 rfl rfl ?_
    refine x_iload_n 3 dL_act_6 rfl rfl ?_
    obtain ⟨z32, hzz32, hF⟩ := x_bind hF
    obtain ⟨⟨fsz32, hbz32⟩, hzz32⟩ := x_cv_sp hzz32
    rcases z32 with w33 | e34
    · have hF := x_sel hF
      refine x_callv (As := [.int p2, .int p3]) (rest := []) 0 0 dL_act_7 mi_X5_put ml_L_27 rfl rfl (Nat.le_of_ble_eq_true rfl) ⟨by decide, by decide⟩ (by omega) (by omega) hbz32 rfl (c_X5_put N _ _ _ _ _ hzz32) (x_K.some ?_) x_KX.none
      refine x_goto 150 dL_act_10 (by decide) ?_
      exact x_iret dL_act_150 rfl (by cases hF; rfl)
    · have hF := x_ser hF
      exact x_callv (As := [.int p2, .int p3]) (rest := []) 0 0 dL_act_7 mi_X5_put ml_L_27 rfl rfl (Nat.le_of_ble_eq_true rfl) ⟨by decide, by decide⟩ (by omega) (by omega) hbz32 rfl (c_X5_put N _ _ _ _ _ hzz32) x_K.inr (x_KX.out rfl (fun E hm hq => by cases hq; cases hF; rfl))
def F_L_find (N : Nat) (f : XM) (p0 : Nat) (p1 : Int32) (p2 : Int32) (p3 : Int32) : Option ((Int32 × XM) ⊕ (Nat × XM)) :=
  if p1 = 12 then
    (x_cv f 5 p0 (F_X5_isFoundByTree N f p0 p2)).bind fun z28 =>
    x_se z28 (fun w29 =>
      if (x_b w29) = 0 then
        some (.inl (0, f))
      else
        some (.inl (1, f)))
      (fun e30 => some (.inr (e30, f)))
  else
    if p1 = 13 then
      (x_cv f 5 p0 (F_X5_isFoundByGoing N f p0 p2)).bind fun z25 =>
      x_se z25 (fun w26 =>
        if (x_b w26) = 0 then
          some (.inl (0, f))
        else
          some (.inl (1, f)))
        (fun e27 => some (.inr (e27, f)))
    else
      if p1 = 14 then
        (x_cv f 5 p0 (F_X5_valueOf N f p0 p2)).bind fun z22 =>
        x_se z22 (fun w23 =>
          some (.inl (w23, f)))
          (fun e24 => some (.inr (e24, f)))
      else
        if p1 = 15 then
          (x_cv f 5 p0 (F_X5_pagesFor N f p0 p2)).bind fun z19 =>
          x_se z19 (fun w20 =>
            some (.inl (w20, f)))
            (fun e21 => some (.inr (e21, f)))
        else
          if p1 = 16 then
            (x_cv f 5 p0 (F_X5_countByLeaves N f p0 p2 p3)).bind fun z16 =>
            x_se z16 (fun w17 =>
              some (.inl (w17, f)))
              (fun e18 => some (.inr (e18, f)))
          else
            if p1 = 17 then
              (x_cv f 5 p0 (F_X5_countByNext N f p0 p2 p3)).bind fun z13 =>
              x_se z13 (fun w14 =>
                some (.inl (w14.1, w14.2)))
                (fun e15 => some (.inr (e15.1, e15.2)))
            else
              if p1 = 18 then
                (x_cv f 5 p0 (F_X5_nextKey N f p0 p2)).bind fun z10 =>
                x_se z10 (fun w11 =>
                  some (.inl (w11.1, w11.2)))
                  (fun e12 => some (.inr (e12.1, e12.2)))
              else
                if p1 = 19 then
                  (x_cv f 5 p0 (F_X5_keyBefore N f p0 p2)).bind fun z7 =>
                  x_se z7 (fun w8 =>
                    some (.inl (w8.1, w8.2)))
                    (fun e9 => some (.inr (e9.1, e9.2)))
                else
                  if p1 = 20 then
                    (x_cv f 5 p0 (F_X5_keyAt N f p0 p2)).bind fun z4 =>
                    x_se z4 (fun w5 =>
                      some (.inl (w5.1, w5.2)))
                      (fun e6 => some (.inr (e6.1, e6.2)))
                  else
                    (x_cv f 5 p0 (F_X5_runOf N f p0 p2)).bind fun z1 =>
                    x_se z1 (fun w2 =>
                      some (.inl (w2, f)))
                      (fun e3 => some (.inr (e3, f)))
set_option maxRecDepth 20000 in
set_option maxHeartbeats 4000000 in
theorem c_L_find (N : Nat) (f : XM) (p0 : Nat) (p1 : Int32) (p2 : Int32) (p3 : Int32) (n : Nat) (r : ((Int32 × XM) ⊕ (Nat × XM))) (hF : F_L_find N f p0 p1 p2 p3 = some r) : x_Ct mL_find 8 146 2 12 [.ref p0, .int p1, .int p2, .int p3] (f, n) (xr_imt r n) := by
  unfold F_L_find at hF
  refine x_ct (by decide) rfl (Nat.le_of_ble_eq_true rfl) ?_
  show X mL_find 8 146 _ _ 2 12 0 [(0, .ref p0), (1, .int p1), (2, .int p2), (3, .int p3)] [] (f, n)
  refine x_iload_n 1 dL_find_0 rfl rfl ?_
  refine x_bipush 12 (by decide) dL_find_1 ?_
  refine x_icmp_ne 22 dL_find_3 (by decide) hF (fun hF => ?_) (fun hF => ?_)
  · refine x_iload_n 1 dL_find_22 rfl rfl ?_
    refine x_bipush 13 (by decide) dL_find_23 ?_
    refine x_icmp_ne 44 dL_find_25 (by decide) hF (fun hF => ?_) (fun hF => ?_)
    · refine x_iload_n 1 dL_find_44 rfl rfl ?_
      refine x_bipush 14 (by decide) dL_find_45 ?_
      refine x_icmp_ne 58 dL_find_47 (by decide) hF (fun hF => ?_) (fun hF => ?_)
      · refine x_iload_n 1 dL_find_58 rfl rfl ?_
        refine x_bipush 15 (by decide) dL_find_59 ?_
        refine x_icmp_ne 72 dL_find_61 (by decide) hF (fun hF => ?_) (fun hF => ?_)
        · refine x_iload_n 1 dL_find_72 rfl rfl ?_
          refine x_bipush 16 (by decide) dL_find_73 ?_
          refine x_icmp_ne 87 dL_find_75 (by decide) hF (fun hF => ?_) (fun hF => ?_)
          · refine x_iload_n 1 dL_find_87 rfl rfl ?_
            refine x_bipush 17 (by decide) dL_find_88 ?_
            refine x_icmp_ne 102 dL_find_90 (by decide) hF (fun hF => ?_) (fun hF => ?_)
            · refine x_iload_n 1 dL_find_102 rfl rfl ?_
              refine x_bipush 18 (by decide) dL_find_103 ?_
              refine x_icmp_ne 116 dL_find_105 (by decide) hF (fun hF => ?_) (fun hF => ?_)
              · refine x_iload_n 1 dL_find_116 rfl rfl ?_
                refine x_bipush 19 (by decide) dL_find_117 ?_
                refine x_icmp_ne 130 dL_find_119 (by decide) hF (fun hF => ?_) (fun hF => ?_)
                · refine x_iload_n 1 dL_find_130 rfl rfl ?_
                  refine x_bipush 20 (by decide) dL_find_131 ?_
                  refine x_icmp_ne 144 dL_find_133 (by decide) hF (fun hF => ?_) (fun hF => ?_)
                  · refine x_aload_n 0 dL_find_144 rfl rfl ?_
                    refine x_iload_n 2 dL_find_145 rfl rfl ?_
                    obtain ⟨z1, hzz1, hF⟩ := x_bind hF
                    obtain ⟨⟨fsz1, hbz1⟩, hzz1⟩ := x_cv_sp hzz1
                    rcases z1 with w2 | e3
                    · have hF := x_sel hF
                      refine x_callv (As := [.int p2]) (rest := []) 0 0 dL_find_146 mi_X5_runOf ml_L_96 rfl rfl (Nat.le_of_ble_eq_true rfl) ⟨by decide, by decide⟩ (by omega) (by omega) hbz1 rfl (c_X5_runOf N _ _ _ _ _ hzz1) (x_K.some ?_) x_KX.none
                      exact x_iret dL_find_149 rfl (by cases hF; rfl)
                    · have hF := x_ser hF
                      exact x_callv (As := [.int p2]) (rest := []) 0 0 dL_find_146 mi_X5_runOf ml_L_96 rfl rfl (Nat.le_of_ble_eq_true rfl) ⟨by decide, by decide⟩ (by omega) (by omega) hbz1 rfl (c_X5_runOf N _ _ _ _ _ hzz1) x_K.inr (x_KX.out rfl (fun E hm hq => by cases hq; cases hF; rfl))
                  · refine x_aload_n 0 dL_find_136 rfl rfl ?_
                    refine x_iload_n 2 dL_find_137 rfl rfl ?_
                    obtain ⟨z4, hzz4, hF⟩ := x_bind hF
                    obtain ⟨⟨fsz4, hbz4⟩, hzz4⟩ := x_cv_sp hzz4
                    rcases z4 with w5 | e6
                    · have hF := x_sel hF
                      refine x_callv (As := [.int p2]) (rest := []) 1 6 dL_find_138 mi_X5_keyAt ml_L_93 rfl rfl (Nat.le_of_ble_eq_true rfl) ⟨by decide, by decide⟩ (by omega) (by omega) hbz4 rfl (c_X5_keyAt N _ _ _ _ _ hzz4) (x_K.some ?_) x_KX.none
                      refine x_goto 149 dL_find_141 (by decide) ?_
                      exact x_iret dL_find_149 rfl (by cases hF; rfl)
                    · have hF := x_ser hF
                      exact x_callv (As := [.int p2]) (rest := []) 1 6 dL_find_138 mi_X5_keyAt ml_L_93 rfl rfl (Nat.le_of_ble_eq_true rfl) ⟨by decide, by decide⟩ (by omega) (by omega) hbz4 rfl (c_X5_keyAt N _ _ _ _ _ hzz4) x_K.inr (x_KX.out rfl (fun E hm hq => by cases hq; cases hF; rfl))
                · refine x_aload_n 0 dL_find_122 rfl rfl ?_
                  refine x_iload_n 2 dL_find_123 rfl rfl ?_
                  obtain ⟨z7, hzz7, hF⟩ := x_bind hF
                  obtain ⟨⟨fsz7, hbz7⟩, hzz7⟩ := x_cv_sp hzz7
                  rcases z7 with w8 | e9
                  · have hF := x_sel hF
                    refine x_callv (As := [.int p2]) (rest := []) 0 0 dL_find_124 mi_X5_keyBefore ml_L_90 rfl rfl (Nat.le_of_ble_eq_true rfl) ⟨by decide, by decide⟩ (by omega) (by omega) hbz7 rfl (c_X5_keyBefore N _ _ _ _ _ hzz7) (x_K.some ?_) x_KX.none
                    refine x_goto 149 dL_find_127 (by decide) ?_
                    exact x_iret dL_find_149 rfl (by cases hF; rfl)
                  · have hF := x_ser hF
                    exact x_callv (As := [.int p2]) (rest := []) 0 0 dL_find_124 mi_X5_keyBefore ml_L_90 rfl rfl (Nat.le_of_ble_eq_true rfl) ⟨by decide, by decide⟩ (by omega) (by omega) hbz7 rfl (c_X5_keyBefore N _ _ _ _ _ hzz7) x_K.inr (x_KX.out rfl (fun E hm hq => by cases hq; cases hF; rfl))
              · refine x_aload_n 0 dL_find_108 rfl rfl ?_
                refine x_iload_n 2 dL_find_109 rfl rfl ?_
                obtain ⟨z10, hzz10, hF⟩ := x_bind hF
                obtain ⟨⟨fsz10, hbz10⟩, hzz10⟩ := x_cv_sp hzz10
                rcases z10 with w11 | e12
                · have hF := x_sel hF
                  refine x_callv (As := [.int p2]) (rest := []) 0 0 dL_find_110 mi_X5_nextKey ml_L_87 rfl rfl (Nat.le_of_ble_eq_true rfl) ⟨by decide, by decide⟩ (by omega) (by omega) hbz10 rfl (c_X5_nextKey N _ _ _ _ _ hzz10) (x_K.some ?_) x_KX.none
                  refine x_goto 149 dL_find_113 (by decide) ?_
                  exact x_iret dL_find_149 rfl (by cases hF; rfl)
                · have hF := x_ser hF
                  exact x_callv (As := [.int p2]) (rest := []) 0 0 dL_find_110 mi_X5_nextKey ml_L_87 rfl rfl (Nat.le_of_ble_eq_true rfl) ⟨by decide, by decide⟩ (by omega) (by omega) hbz10 rfl (c_X5_nextKey N _ _ _ _ _ hzz10) x_K.inr (x_KX.out rfl (fun E hm hq => by cases hq; cases hF; rfl))
            · refine x_aload_n 0 dL_find_93 rfl rfl ?_
              refine x_iload_n 2 dL_find_94 rfl rfl ?_
              refine x_iload_n 3 dL_find_95 rfl rfl ?_
              obtain ⟨z13, hzz13, hF⟩ := x_bind hF
              obtain ⟨⟨fsz13, hbz13⟩, hzz13⟩ := x_cv_sp hzz13
              rcases z13 with w14 | e15
              · have hF := x_sel hF
                refine x_callv (As := [.int p2, .int p3]) (rest := []) 1 6 dL_find_96 mi_X5_countByNext ml_L_84 rfl rfl (Nat.le_of_ble_eq_true rfl) ⟨by decide, by decide⟩ (by omega) (by omega) hbz13 rfl (c_X5_countByNext N _ _ _ _ _ _ hzz13) (x_K.some ?_) x_KX.none
                refine x_goto 149 dL_find_99 (by decide) ?_
                exact x_iret dL_find_149 rfl (by cases hF; rfl)
              · have hF := x_ser hF
                exact x_callv (As := [.int p2, .int p3]) (rest := []) 1 6 dL_find_96 mi_X5_countByNext ml_L_84 rfl rfl (Nat.le_of_ble_eq_true rfl) ⟨by decide, by decide⟩ (by omega) (by omega) hbz13 rfl (c_X5_countByNext N _ _ _ _ _ _ hzz13) x_K.inr (x_KX.out rfl (fun E hm hq => by cases hq; cases hF; rfl))
          · refine x_aload_n 0 dL_find_78 rfl rfl ?_
            refine x_iload_n 2 dL_find_79 rfl rfl ?_
            refine x_iload_n 3 dL_find_80 rfl rfl ?_
            obtain ⟨z16, hzz16, hF⟩ := x_bind hF
            obtain ⟨⟨fsz16, hbz16⟩, hzz16⟩ := x_cv_sp hzz16
            rcases z16 with w17 | e18
            · have hF := x_sel hF
              refine x_callv (As := [.int p2, .int p3]) (rest := []) 1 6 dL_find_81 mi_X5_countByLeaves ml_L_81 rfl rfl (Nat.le_of_ble_eq_true rfl) ⟨by decide, by decide⟩ (by omega) (by omega) hbz16 rfl (c_X5_countByLeaves N _ _ _ _ _ _ hzz16) (x_K.some ?_) x_KX.none
              refine x_goto 149 dL_find_84 (by decide) ?_
              exact x_iret dL_find_149 rfl (by cases hF; rfl)
            · have hF := x_ser hF
              exact x_callv (As := [.int p2, .int p3]) (rest := []) 1 6 dL_find_81 mi_X5_countByLeaves ml_L_81 rfl rfl (Nat.le_of_ble_eq_true rfl) ⟨by decide, by decide⟩ (by omega) (by omega) hbz16 rfl (c_X5_countByLeaves N _ _ _ _ _ _ hzz16) x_K.inr (x_KX.out rfl (fun E hm hq => by cases hq; cases hF; rfl))
        · refine x_aload_n 0 dL_find_64 rfl rfl ?_
          refine x_iload_n 2 dL_find_65 rfl rfl ?_
          obtain ⟨z19, hzz19, hF⟩ := x_bind hF
          obtain ⟨⟨fsz19, hbz19⟩, hzz19⟩ := x_cv_sp hzz19
          rcases z19 with w20 | e21
          · have hF := x_sel hF
            refine x_callv (As := [.int p2]) (rest := []) 1 6 dL_find_66 mi_X5_pagesFor ml_L_78 rfl rfl (Nat.le_of_ble_eq_true rfl) ⟨by decide, by decide⟩ (by omega) (by omega) hbz19 rfl (c_X5_pagesFor N _ _ _ _ _ hzz19) (x_K.some ?_) x_KX.none
            refine x_goto 149 dL_find_69 (by decide) ?_
            exact x_iret dL_find_149 rfl (by cases hF; rfl)
          · have hF := x_ser hF
            exact x_callv (As := [.int p2]) (rest := []) 1 6 dL_find_66 mi_X5_pagesFor ml_L_78 rfl rfl (Nat.le_of_ble_eq_true rfl) ⟨by decide, by decide⟩ (by omega) (by omega) hbz19 rfl (c_X5_pagesFor N _ _ _ _ _ hzz19) x_K.inr (x_KX.out rfl (fun E hm hq => by cases hq; cases hF; rfl))
      · refine x_aload_n 0 dL_find_50 rfl rfl ?_
        refine x_iload_n 2 dL_find_51 rfl rfl ?_
        obtain ⟨z22, hzz22, hF⟩ := x_bind hF
        obtain ⟨⟨fsz22, hbz22⟩, hzz22⟩ := x_cv_sp hzz22
        rcases z22 with w23 | e24
        · have hF := x_sel hF
          refine x_callv (As := [.int p2]) (rest := []) 0 0 dL_find_52 mi_X5_valueOf ml_L_75 rfl rfl (Nat.le_of_ble_eq_true rfl) ⟨by decide, by decide⟩ (by omega) (by omega) hbz22 rfl (c_X5_valueOf N _ _ _ _ _ hzz22) (x_K.some ?_) x_KX.none
          refine x_goto 149 dL_find_55 (by decide) ?_
          exact x_iret dL_find_149 rfl (by cases hF; rfl)
        · have hF := x_ser hF
          exact x_callv (As := [.int p2]) (rest := []) 0 0 dL_find_52 mi_X5_valueOf ml_L_75 rfl rfl (Nat.le_of_ble_eq_true rfl) ⟨by decide, by decide⟩ (by omega) (by omega) hbz22 rfl (c_X5_valueOf N _ _ _ _ _ hzz22) x_K.inr (x_KX.out rfl (fun E hm hq => by cases hq; cases hF; rfl))
    · refine x_aload_n 0 dL_find_28 rfl rfl ?_
      refine x_iload_n 2 dL_find_29 rfl rfl ?_
      obtain ⟨z25, hzz25, hF⟩ := x_bind hF
      obtain ⟨⟨fsz25, hbz25⟩, hzz25⟩ := x_cv_sp hzz25
      rcases z25 with w26 | e27
      · have hF := x_sel hF
        refine x_callv (As := [.int p2]) (rest := []) 1 6 dL_find_30 mi_X5_isFoundByGoing ml_L_72 rfl rfl (Nat.le_of_ble_eq_true rfl) ⟨by decide, by decide⟩ (by omega) (by omega) hbz25 rfl (c_X5_isFoundByGoing N _ _ _ _ _ hzz25) (x_K.some ?_) x_KX.none
        refine x_if_eq 40 dL_find_33 (by decide) hF (fun hF => ?_) (fun hF => ?_)
        · refine x_iconst 0 (by decide) dL_find_40 ?_
          refine x_goto 149 dL_find_41 (by decide) ?_
          exact x_iret dL_find_149 rfl (by cases hF; rfl)
        · refine x_iconst 1 (by decide) dL_find_36 ?_
          refine x_goto 149 dL_find_37 (by decide) ?_
          exact x_iret dL_find_149 rfl (by cases hF; rfl)
      · have hF := x_ser hF
        exact x_callv (As := [.int p2]) (rest := []) 1 6 dL_find_30 mi_X5_isFoundByGoing ml_L_72 rfl rfl (Nat.le_of_ble_eq_true rfl) ⟨by decide, by decide⟩ (by omega) (by omega) hbz25 rfl (c_X5_isFoundByGoing N _ _ _ _ _ hzz25) x_K.inr (x_KX.out rfl (fun E hm hq => by cases hq; cases hF; rfl))
  · refine x_aload_n 0 dL_find_6 rfl rfl ?_
    refine x_iload_n 2 dL_find_7 rfl rfl ?_
    obtain ⟨z28, hzz28, hF⟩ := x_bind hF
    obtain ⟨⟨fsz28, hbz28⟩, hzz28⟩ := x_cv_sp hzz28
    rcases z28 with w29 | e30
    · have hF := x_sel hF
      refine x_callv (As := [.int p2]) (rest := []) 1 6 dL_find_8 mi_X5_isFoundByTree ml_L_68 rfl rfl (Nat.le_of_ble_eq_true rfl) ⟨by decide, by decide⟩ (by omega) (by omega) hbz28 rfl (c_X5_isFoundByTree N _ _ _ _ _ hzz28) (x_K.some ?_) x_KX.none
      refine x_if_eq 18 dL_find_11 (by decide) hF (fun hF => ?_) (fun hF => ?_)
      · refine x_iconst 0 (by decide) dL_find_18 ?_
        refine x_goto 149 dL_find_19 (by decide) ?_
        exact x_iret dL_find_149 rfl (by cases hF; rfl)
      · refine x_iconst 1 (by decide) dL_find_14 ?_
        refine x_goto 149 dL_find_15 (by decide) ?_
        exact x_iret dL_find_149 rfl (by cases hF; rfl)
    · have hF := x_ser hF
      exact x_callv (As := [.int p2]) (rest := []) 1 6 dL_find_8 mi_X5_isFoundByTree ml_L_68 rfl rfl (Nat.le_of_ble_eq_true rfl) ⟨by decide, by decide⟩ (by omega) (by omega) hbz28 rfl (c_X5_isFoundByTree N _ _ _ _ _ hzz28) x_K.inr (x_KX.out rfl (fun E hm hq => by cases hq; cases hF; rfl))
def F_L_tree (N : Nat) (f : XM) (p0 : Nat) (p1 : Int32) (p2 : Int32) (p3 : Int32) : Option ((Int32 × XM) ⊕ (Nat × XM)) :=
  if p1 = 22 then
    (x_cv f 5 p0 (F_X5_sizeOf N f p0 p2)).bind fun z37 =>
    x_se z37 (fun w38 =>
      some (.inl (w38, f)))
      (fun e39 => some (.inr (e39, f)))
  else
    if p1 = 23 then
      (x_cv f 5 p0 (F_X5_keyIn N f p0 p2 p3)).bind fun z34 =>
      x_se z34 (fun w35 =>
        some (.inl (w35, f)))
        (fun e36 => some (.inr (e36, f)))
    else
      if p1 = 24 then
        (x_cv f 5 p0 (F_X5_isGoneIn N f p0 p2 p3)).bind fun z31 =>
        x_se z31 (fun w32 =>
          if (x_b w32) = 0 then
            some (.inl (0, f))
          else
            some (.inl (1, f)))
          (fun e33 => some (.inr (e33, f)))
      else
        if p1 = 25 then
          (x_cv f 5 p0 (F_X5_entriesOf N f p0 p2)).bind fun z28 =>
          x_se z28 (fun w29 =>
            some (.inl (w29, f)))
            (fun e30 => some (.inr (e30, f)))
        else
          if p1 = 26 then
            (x_cv f 5 p0 (F_X5_leafKey N f p0 p2 p3)).bind fun z25 =>
            x_se z25 (fun w26 =>
              some (.inl (w26, f)))
              (fun e27 => some (.inr (e27, f)))
          else
            if p1 = 27 then
              (x_cv f 5 p0 (F_X5_overflowOf N f p0 p2)).bind fun z22 =>
              x_se z22 (fun w23 =>
                some (.inl (w23, f)))
                (fun e24 => some (.inr (e24, f)))
            else
              if p1 = 28 then
                (x_cv f 5 p0 (F_X5_overflowLeaves N f p0 p2)).bind fun z19 =>
                x_se z19 (fun w20 =>
                  some (.inl (w20, f)))
                  (fun e21 => some (.inr (e21, f)))
              else
                if p1 = 29 then
                  (x_cv f 5 p0 (F_X5_nodesAt N f p0 p2)).bind fun z16 =>
                  x_se z16 (fun w17 =>
                    some (.inl (w17, f)))
                    (fun e18 => some (.inr (e18, f)))
                else
                  if p1 = 30 then
                    (x_cv f 5 p0 (F_X5_childrenOf N f p0 p2 p3)).bind fun z13 =>
                    x_se z13 (fun w14 =>
                      some (.inl (w14, f)))
                      (fun e15 => some (.inr (e15, f)))
                  else
                    if p1 = 31 then
                      (x_cv f 5 p0 (F_X5_boundOf N f p0 p2 p3)).bind fun z10 =>
                      x_se z10 (fun w11 =>
                        some (.inl (w11, f)))
                        (fun e12 => some (.inr (e12, f)))
                    else
                      if p1 = 32 then
                        (x_cv f 5 p0 (F_X5_leafFor N f p0 p2)).bind fun z7 =>
                        x_se z7 (fun w8 =>
                          some (.inl (w8, f)))
                          (fun e9 => some (.inr (e9, f)))
                      else
                        if p1 = 33 then
                          (x_cv f 5 p0 (F_X5_leavesIfBuilt N f p0 p2)).bind fun z4 =>
                          x_se z4 (fun w5 =>
                            some (.inl (w5.1, w5.2)))
                            (fun e6 => some (.inr (e6.1, e6.2)))
                        else
                          (x_cv f 5 p0 (F_X5_levelsIfBuilt N f p0 p2)).bind fun z1 =>
                          x_se z1 (fun w2 =>
                            some (.inl (w2.1, w2.2)))
                            (fun e3 => some (.inr (e3.1, e3.2)))
set_option maxRecDepth 20000 in
set_option maxHeartbeats 4000000 in
theorem c_L_tree (N : Nat) (f : XM) (p0 : Nat) (p1 : Int32) (p2 : Int32) (p3 : Int32) (n : Nat) (r : ((Int32 × XM) ⊕ (Nat × XM))) (hF : F_L_tree N f p0 p1 p2 p3 = some r) : x_Ct mL_tree 8 135 2 12 [.ref p0, .int p1, .int p2, .int p3] (f, n) (xr_imt r n) := by
  unfold F_L_tree at hF
  refine x_ct (by decide) rfl (Nat.le_of_ble_eq_true rfl) ?_
  show X mL_tree 8 135 _ _ 2 12 0 [(0, .ref p0), (1, .int p1), (2, .int p2), (3, .int p3)] [] (f, n)
  refine x_iload_n 1 dL_tree_0 rfl rfl ?_
  refine x_bipush 22 (by decide) dL_tree_1 ?_
  refine x_icmp_ne 14 dL_tree_3 (by decide) hF (fun hF => ?_) (fun hF => ?_)
  · refine x_iload_n 1 dL_tree_14 rfl rfl ?_
    refine x_bipush 23 (by decide) dL_tree_15 ?_
    refine x_icmp_ne 29 dL_tree_17 (by decide) hF (fun hF => ?_) (fun hF => ?_)
    · refine x_iload_n 1 dL_tree_29 rfl rfl ?_
      refine x_bipush 24 (by decide) dL_tree_30 ?_
      refine x_icmp_ne 52 dL_tree_32 (by decide) hF (fun hF => ?_) (fun hF => ?_)
      · refine x_iload_n 1 dL_tree_52 rfl rfl ?_
        refine x_bipush 25 (by decide) dL_tree_53 ?_
        refine x_icmp_ne 66 dL_tree_55 (by decide) hF (fun hF => ?_) (fun hF => ?_)
        · refine x_iload_n 1 dL_tree_66 rfl rfl ?_
          refine x_bipush 26 (by decide) dL_tree_67 ?_
          refine x_icmp_ne 81 dL_tree_69 (by decide) hF (fun hF => ?_) (fun hF => ?_)
          · refine x_iload_n 1 dL_tree_81 rfl rfl ?_
            refine x_bipush 27 (by decide) dL_tree_82 ?_
            refine x_icmp_ne 95 dL_tree_84 (by decide) hF (fun hF => ?_) (fun hF => ?_)
            · refine x_iload_n 1 dL_tree_95 rfl rfl ?_
              refine x_bipush 28 (by decide) dL_tree_96 ?_
              refine x_icmp_ne 109 dL_tree_98 (by decide) hF (fun hF => ?_) (fun hF => ?_)
              · refine x_iload_n 1 dL_tree_109 rfl rfl ?_
                refine x_bipush 29 (by decide) dL_tree_110 ?_
                refine x_icmp_ne 123 dL_tree_112 (by decide) hF (fun hF => ?_) (fun hF => ?_)
                · refine x_iload_n 1 dL_tree_123 rfl rfl ?_
                  refine x_bipush 30 (by decide) dL_tree_124 ?_
                  refine x_icmp_ne 138 dL_tree_126 (by decide) hF (fun hF => ?_) (fun hF => ?_)
                  · refine x_iload_n 1 dL_tree_138 rfl rfl ?_
                    refine x_bipush 31 (by decide) dL_tree_139 ?_
                    refine x_icmp_ne 153 dL_tree_141 (by decide) hF (fun hF => ?_) (fun hF => ?_)
                    · refine x_iload_n 1 dL_tree_153 rfl rfl ?_
                      refine x_bipush 32 (by decide) dL_tree_154 ?_
                      refine x_icmp_ne 167 dL_tree_156 (by decide) hF (fun hF => ?_) (fun hF => ?_)
                      · refine x_iload_n 1 dL_tree_167 rfl rfl ?_
                        refine x_bipush 33 (by decide) dL_tree_168 ?_
                        refine x_icmp_ne 181 dL_tree_170 (by decide) hF (fun hF => ?_) (fun hF => ?_)
                        · refine x_aload_n 0 dL_tree_181 rfl rfl ?_
                          refine x_iload_n 2 dL_tree_182 rfl rfl ?_
                          obtain ⟨z1, hzz1, hF⟩ := x_bind hF
                          obtain ⟨⟨fsz1, hbz1⟩, hzz1⟩ := x_cv_sp hzz1
                          rcases z1 with w2 | e3
                          · have hF := x_sel hF
                            refine x_callv (As := [.int p2]) (rest := []) 1 6 dL_tree_183 mi_X5_levelsIfBuilt ml_L_136 rfl rfl (Nat.le_of_ble_eq_true rfl) ⟨by decide, by decide⟩ (by omega) (by omega) hbz1 rfl (c_X5_levelsIfBuilt N _ _ _ _ _ hzz1) (x_K.some ?_) x_KX.none
                            exact x_iret dL_tree_186 rfl (by cases hF; rfl)
                          · have hF := x_ser hF
                            exact x_callv (As := [.int p2]) (rest := []) 1 6 dL_tree_183 mi_X5_levelsIfBuilt ml_L_136 rfl rfl (Nat.le_of_ble_eq_true rfl) ⟨by decide, by decide⟩ (by omega) (by omega) hbz1 rfl (c_X5_levelsIfBuilt N _ _ _ _ _ hzz1) x_K.inr (x_KX.out rfl (fun E hm hq => by cases hq; cases hF; rfl))
                        · refine x_aload_n 0 dL_tree_173 rfl rfl ?_
                          refine x_iload_n 2 dL_tree_174 rfl rfl ?_
                          obtain ⟨z4, hzz4, hF⟩ := x_bind hF
                          obtain ⟨⟨fsz4, hbz4⟩, hzz4⟩ := x_cv_sp hzz4
                          rcases z4 with w5 | e6
                          · have hF := x_sel hF
                            refine x_callv (As := [.int p2]) (rest := []) 1 6 dL_tree_175 mi_X5_leavesIfBuilt ml_L_133 rfl rfl (Nat.le_of_ble_eq_true rfl) ⟨by decide, by decide⟩ (by omega) (by omega) hbz4 rfl (c_X5_leavesIfBuilt N _ _ _ _ _ hzz4) (x_K.some ?_) x_KX.none
                            refine x_goto 186 dL_tree_178 (by decide) ?_
                            exact x_iret dL_tree_186 rfl (by cases hF; rfl)
                          · have hF := x_ser hF
                            exact x_callv (As := [.int p2]) (rest := []) 1 6 dL_tree_175 mi_X5_leavesIfBuilt ml_L_133 rfl rfl (Nat.le_of_ble_eq_true rfl) ⟨by decide, by decide⟩ (by omega) (by omega) hbz4 rfl (c_X5_leavesIfBuilt N _ _ _ _ _ hzz4) x_K.inr (x_KX.out rfl (fun E hm hq => by cases hq; cases hF; rfl))
                      · refine x_aload_n 0 dL_tree_159 rfl rfl ?_
                        refine x_iload_n 2 dL_tree_160 rfl rfl ?_
                        obtain ⟨z7, hzz7, hF⟩ := x_bind hF
                        obtain ⟨⟨fsz7, hbz7⟩, hzz7⟩ := x_cv_sp hzz7
                        rcases z7 with w8 | e9
                        · have hF := x_sel hF
                          refine x_callv (As := [.int p2]) (rest := []) 0 0 dL_tree_161 mi_X5_leafFor ml_L_130 rfl rfl (Nat.le_of_ble_eq_true rfl) ⟨by decide, by decide⟩ (by omega) (by omega) hbz7 rfl (c_X5_leafFor N _ _ _ _ _ hzz7) (x_K.some ?_) x_KX.none
                          refine x_goto 186 dL_tree_164 (by decide) ?_
                          exact x_iret dL_tree_186 rfl (by cases hF; rfl)
                        · have hF := x_ser hF
                          exact x_callv (As := [.int p2]) (rest := []) 0 0 dL_tree_161 mi_X5_leafFor ml_L_130 rfl rfl (Nat.le_of_ble_eq_true rfl) ⟨by decide, by decide⟩ (by omega) (by omega) hbz7 rfl (c_X5_leafFor N _ _ _ _ _ hzz7) x_K.inr (x_KX.out rfl (fun E hm hq => by cases hq; cases hF; rfl))
                    · refine x_aload_n 0 dL_tree_144 rfl rfl ?_
                      refine x_iload_n 2 dL_tree_145 rfl rfl ?_
                      refine x_iload_n 3 dL_tree_146 rfl rfl ?_
                      obtain ⟨z10, hzz10, hF⟩ := x_bind hF
                      obtain ⟨⟨fsz10, hbz10⟩, hzz10⟩ := x_cv_sp hzz10
                      rcases z10 with w11 | e12
                      · have hF := x_sel hF
                        refine x_callv (As := [.int p2, .int p3]) (rest := []) 0 0 dL_tree_147 mi_X5_boundOf ml_L_127 rfl rfl (Nat.le_of_ble_eq_true rfl) ⟨by decide, by decide⟩ (by omega) (by omega) hbz10 rfl (c_X5_boundOf N _ _ _ _ _ _ hzz10) (x_K.some ?_) x_KX.none
                        refine x_goto 186 dL_tree_150 (by decide) ?_
                        exact x_iret dL_tree_186 rfl (by cases hF; rfl)
                      · have hF := x_ser hF
                        exact x_callv (As := [.int p2, .int p3]) (rest := []) 0 0 dL_tree_147 mi_X5_boundOf ml_L_127 rfl rfl (Nat.le_of_ble_eq_true rfl) ⟨by decide, by decide⟩ (by omega) (by omega) hbz10 rfl (c_X5_boundOf N _ _ _ _ _ _ hzz10) x_K.inr (x_KX.out rfl (fun E hm hq => by cases hq; cases hF; rfl))
                  · refine x_aload_n 0 dL_tree_129 rfl rfl ?_
                    refine x_iload_n 2 dL_tree_130 rfl rfl ?_
                    refine x_iload_n 3 dL_tree_131 rfl rfl ?_
                    obtain ⟨z13, hzz13, hF⟩ := x_bind hF
                    obtain ⟨⟨fsz13, hbz13⟩, hzz13⟩ := x_cv_sp hzz13
                    rcases z13 with w14 | e15
                    · have hF := x_sel hF
                      refine x_callv (As := [.int p2, .int p3]) (rest := []) 0 0 dL_tree_132 mi_X5_childrenOf ml_L_124 rfl rfl (Nat.le_of_ble_eq_true rfl) ⟨by decide, by decide⟩ (by omega) (by omega) hbz13 rfl (c_X5_childrenOf N _ _ _ _ _ _ hzz13) (x_K.some ?_) x_KX.none
                      refine x_goto 186 dL_tree_135 (by decide) ?_
                      exact x_iret dL_tree_186 rfl (by cases hF; rfl)
                    · have hF := x_ser hF
                      exact x_callv (As := [.int p2, .int p3]) (rest := []) 0 0 dL_tree_132 mi_X5_childrenOf ml_L_124 rfl rfl (Nat.le_of_ble_eq_true rfl) ⟨by decide, by decide⟩ (by omega) (by omega) hbz13 rfl (c_X5_childrenOf N _ _ _ _ _ _ hzz13) x_K.inr (x_KX.out rfl (fun E hm hq => by cases hq; cases hF; rfl))
                · refine x_aload_n 0 dL_tree_115 rfl rfl ?_
                  refine x_iload_n 2 dL_tree_116 rfl rfl ?_
                  obtain ⟨z16, hzz16, hF⟩ := x_bind hF
                  obtain ⟨⟨fsz16, hbz16⟩, hzz16⟩ := x_cv_sp hzz16
                  rcases z16 with w17 | e18
                  · have hF := x_sel hF
                    refine x_callv (As := [.int p2]) (rest := []) 1 6 dL_tree_117 mi_X5_nodesAt ml_L_121 rfl rfl (Nat.le_of_ble_eq_true rfl) ⟨by decide, by decide⟩ (by omega) (by omega) hbz16 rfl (c_X5_nodesAt N _ _ _ _ _ hzz16) (x_K.some ?_) x_KX.none
                    refine x_goto 186 dL_tree_120 (by decide) ?_
                    exact x_iret dL_tree_186 rfl (by cases hF; rfl)
                  · have hF := x_ser hF
                    exact x_callv (As := [.int p2]) (rest := []) 1 6 dL_tree_117 mi_X5_nodesAt ml_L_121 rfl rfl (Nat.le_of_ble_eq_true rfl) ⟨by decide, by decide⟩ (by omega) (by omega) hbz16 rfl (c_X5_nodesAt N _ _ _ _ _ hzz16) x_K.inr (x_KX.out rfl (fun E hm hq => by cases hq; cases hF; rfl))
              · refine x_aload_n 0 dL_tree_101 rfl rfl ?_
                refine x_iload_n 2 dL_tree_102 rfl rfl ?_
                obtain ⟨z19, hzz19, hF⟩ := x_bind hF
                obtain ⟨⟨fsz19, hbz19⟩, hzz19⟩ := x_cv_sp hzz19
                rcases z19 with w20 | e21
                · have hF := x_sel hF
                  refine x_callv (As := [.int p2]) (rest := []) 1 6 dL_tree_103 mi_X5_overflowLeaves ml_L_118 rfl rfl (Nat.le_of_ble_eq_true rfl) ⟨by decide, by decide⟩ (by omega) (by omega) hbz19 rfl (c_X5_overflowLeaves N _ _ _ _ _ hzz19) (x_K.some ?_) x_KX.none
                  refine x_goto 186 dL_tree_106 (by decide) ?_
                  exact x_iret dL_tree_186 rfl (by cases hF; rfl)
                · have hF := x_ser hF
                  exact x_callv (As := [.int p2]) (rest := []) 1 6 dL_tree_103 mi_X5_overflowLeaves ml_L_118 rfl rfl (Nat.le_of_ble_eq_true rfl) ⟨by decide, by decide⟩ (by omega) (by omega) hbz19 rfl (c_X5_overflowLeaves N _ _ _ _ _ hzz19) x_K.inr (x_KX.out rfl (fun E hm hq => by cases hq; cases hF; rfl))
            · refine x_aload_n 0 dL_tree_87 rfl rfl ?_
              refine x_iload_n 2 dL_tree_88 rfl rfl ?_
              obtain ⟨z22, hzz22, hF⟩ := x_bind hF
              obtain ⟨⟨fsz22, hbz22⟩, hzz22⟩ := x_cv_sp hzz22
              rcases z22 with w23 | e24
              · have hF := x_sel hF
                refine x_callv (As := [.int p2]) (rest := []) 1 6 dL_tree_89 mi_X5_overflowOf ml_L_115 rfl rfl (Nat.le_of_ble_eq_true rfl) ⟨by decide, by decide⟩ (by omega) (by omega) hbz22 rfl (c_X5_overflowOf N _ _ _ _ _ hzz22) (x_K.some ?_) x_KX.none
                refine x_goto 186 dL_tree_92 (by decide) ?_
                exact x_iret dL_tree_186 rfl (by cases hF; rfl)
              · have hF := x_ser hF
                exact x_callv (As := [.int p2]) (rest := []) 1 6 dL_tree_89 mi_X5_overflowOf ml_L_115 rfl rfl (Nat.le_of_ble_eq_true rfl) ⟨by decide, by decide⟩ (by omega) (by omega) hbz22 rfl (c_X5_overflowOf N _ _ _ _ _ hzz22) x_K.inr (x_KX.out rfl (fun E hm hq => by cases hq; cases hF; rfl))
          · refine x_aload_n 0 dL_tree_72 rfl rfl ?_
            refine x_iload_n 2 dL_tree_73 rfl rfl ?_
            refine x_iload_n 3 dL_tree_74 rfl rfl ?_
            obtain ⟨z25, hzz25, hF⟩ := x_bind hF
            obtain ⟨⟨fsz25, hbz25⟩, hzz25⟩ := x_cv_sp hzz25
            rcases z25 with w26 | e27
            · have hF := x_sel hF
              refine x_callv (As := [.int p2, .int p3]) (rest := []) 0 0 dL_tree_75 mi_X5_leafKey ml_L_112 rfl rfl (Nat.le_of_ble_eq_true rfl) ⟨by decide, by decide⟩ (by omega) (by omega) hbz25 rfl (c_X5_leafKey N _ _ _ _ _ _ hzz25) (x_K.some ?_) x_KX.none
              refine x_goto 186 dL_tree_78 (by decide) ?_
              exact x_iret dL_tree_186 rfl (by cases hF; rfl)
            · have hF := x_ser hF
              exact x_callv (As := [.int p2, .int p3]) (rest := []) 0 0 dL_tree_75 mi_X5_leafKey ml_L_112 rfl rfl (Nat.le_of_ble_eq_true rfl) ⟨by decide, by decide⟩ (by omega) (by omega) hbz25 rfl (c_X5_leafKey N _ _ _ _ _ _ hzz25) x_K.inr (x_KX.out rfl (fun E hm hq => by cases hq; cases hF; rfl))
        · refine x_aload_n 0 dL_tree_58 rfl rfl ?_
          refine x_iload_n 2 dL_tree_59 rfl rfl ?_
          obtain ⟨z28, hzz28, hF⟩ := x_bind hF
          obtain ⟨⟨fsz28, hbz28⟩, hzz28⟩ := x_cv_sp hzz28
          rcases z28 with w29 | e30
          · have hF := x_sel hF
            refine x_callv (As := [.int p2]) (rest := []) 1 6 dL_tree_60 mi_X5_entriesOf ml_L_109 rfl rfl (Nat.le_of_ble_eq_true rfl) ⟨by decide, by decide⟩ (by omega) (by omega) hbz28 rfl (c_X5_entriesOf N _ _ _ _ _ hzz28) (x_K.some ?_) x_KX.none
            refine x_goto 186 dL_tree_63 (by decide) ?_
            exact x_iret dL_tree_186 rfl (by cases hF; rfl)
          · have hF := x_ser hF
            exact x_callv (As := [.int p2]) (rest := []) 1 6 dL_tree_60 mi_X5_entriesOf ml_L_109 rfl rfl (Nat.le_of_ble_eq_true rfl) ⟨by decide, by decide⟩ (by omega) (by omega) hbz28 rfl (c_X5_entriesOf N _ _ _ _ _ hzz28) x_K.inr (x_KX.out rfl (fun E hm hq => by cases hq; cases hF; rfl))
      · refine x_aload_n 0 dL_tree_35 rfl rfl ?_
        refine x_iload_n 2 dL_tree_36 rfl rfl ?_
        refine x_iload_n 3 dL_tree_37 rfl rfl ?_
        obtain ⟨z31, hzz31, hF⟩ := x_bind hF
        obtain ⟨⟨fsz31, hbz31⟩, hzz31⟩ := x_cv_sp hzz31
        rcases z31 with w32 | e33
        · have hF := x_sel hF
          refine x_callv (As := [.int p2, .int p3]) (rest := []) 1 6 dL_tree_38 mi_X5_isGoneIn ml_L_105 rfl rfl (Nat.le_of_ble_eq_true rfl) ⟨by decide, by decide⟩ (by omega) (by omega) hbz31 rfl (c_X5_isGoneIn N _ _ _ _ _ _ hzz31) (x_K.some ?_) x_KX.none
          refine x_if_eq 48 dL_tree_41 (by decide) hF (fun hF => ?_) (fun hF => ?_)
          · refine x_iconst 0 (by decide) dL_tree_48 ?_
            refine x_goto 186 dL_tree_49 (by decide) ?_
            exact x_iret dL_tree_186 rfl (by cases hF; rfl)
          · refine x_iconst 1 (by decide) dL_tree_44 ?_
            refine x_goto 186 dL_tree_45 (by decide) ?_
            exact x_iret dL_tree_186 rfl (by cases hF; rfl)
        · have hF := x_ser hF
          exact x_callv (As := [.int p2, .int p3]) (rest := []) 1 6 dL_tree_38 mi_X5_isGoneIn ml_L_105 rfl rfl (Nat.le_of_ble_eq_true rfl) ⟨by decide, by decide⟩ (by omega) (by omega) hbz31 rfl (c_X5_isGoneIn N _ _ _ _ _ _ hzz31) x_K.inr (x_KX.out rfl (fun E hm hq => by cases hq; cases hF; rfl))
    · refine x_aload_n 0 dL_tree_20 rfl rfl ?_
      refine x_iload_n 2 dL_tree_21 rfl rfl ?_
      refine x_iload_n 3 dL_tree_22 rfl rfl ?_
      obtain ⟨z34, hzz34, hF⟩ := x_bind hF
      obtain ⟨⟨fsz34, hbz34⟩, hzz34⟩ := x_cv_sp hzz34
      rcases z34 with w35 | e36
      · have hF := x_sel hF
        refine x_callv (As := [.int p2, .int p3]) (rest := []) 1 6 dL_tree_23 mi_X5_keyIn ml_L_102 rfl rfl (Nat.le_of_ble_eq_true rfl) ⟨by decide, by decide⟩ (by omega) (by omega) hbz34 rfl (c_X5_keyIn N _ _ _ _ _ _ hzz34) (x_K.some ?_) x_KX.none
        refine x_goto 186 dL_tree_26 (by decide) ?_
        exact x_iret dL_tree_186 rfl (by cases hF; rfl)
      · have hF := x_ser hF
        exact x_callv (As := [.int p2, .int p3]) (rest := []) 1 6 dL_tree_23 mi_X5_keyIn ml_L_102 rfl rfl (Nat.le_of_ble_eq_true rfl) ⟨by decide, by decide⟩ (by omega) (by omega) hbz34 rfl (c_X5_keyIn N _ _ _ _ _ _ hzz34) x_K.inr (x_KX.out rfl (fun E hm hq => by cases hq; cases hF; rfl))
  · refine x_aload_n 0 dL_tree_6 rfl rfl ?_
    refine x_iload_n 2 dL_tree_7 rfl rfl ?_
    obtain ⟨z37, hzz37, hF⟩ := x_bind hF
    obtain ⟨⟨fsz37, hbz37⟩, hzz37⟩ := x_cv_sp hzz37
    rcases z37 with w38 | e39
    · have hF := x_sel hF
      refine x_callv (As := [.int p2]) (rest := []) 1 6 dL_tree_8 mi_X5_sizeOf ml_L_99 rfl rfl (Nat.le_of_ble_eq_true rfl) ⟨by decide, by decide⟩ (by omega) (by omega) hbz37 rfl (c_X5_sizeOf N _ _ _ _ _ hzz37) (x_K.some ?_) x_KX.none
      refine x_goto 186 dL_tree_11 (by decide) ?_
      exact x_iret dL_tree_186 rfl (by cases hF; rfl)
    · have hF := x_ser hF
      exact x_callv (As := [.int p2]) (rest := []) 1 6 dL_tree_8 mi_X5_sizeOf ml_L_99 rfl rfl (Nat.le_of_ble_eq_true rfl) ⟨by decide, by decide⟩ (by omega) (by omega) hbz37 rfl (c_X5_sizeOf N _ _ _ _ _ hzz37) x_K.inr (x_KX.out rfl (fun E hm hq => by cases hq; cases hF; rfl))
def F_L_call (N : Nat) (h : XH) (p0 : Nat) (p1 : Int32) (p2 : Int32) (p3 : Int32) : Option (Int32 × XM) :=
  if 12 ≤ p1 then
    if 22 ≤ p1 then
      (F_L_tree N h.1 p0 p1 p2 p3).bind fun z1 =>
      x_se z1 (fun w2 =>
        some (w2.1, w2.2))
        (fun e3 => if e3.1 = 2 then some ((-2011), e3.2) else if e3.1 = 0 then some ((-2012), e3.2) else if e3.1 = 1 then some ((-2013), e3.2) else none)
    else
      (F_L_find N h.1 p0 p1 p2 p3).bind fun z4 =>
      x_se z4 (fun w5 =>
        some (w5.1, w5.2))
        (fun e6 => if e6.1 = 2 then some ((-2011), e6.2) else if e6.1 = 0 then some ((-2012), e6.2) else if e6.1 = 1 then some ((-2013), e6.2) else none)
  else
    (F_L_act N (h.1, h.2) p0 p1 p2 p3).bind fun z7 =>
    x_se z7 (fun w8 =>
      some (w8.1, w8.2.1))
      (fun e9 => if e9.1 = 2 then some ((-2011), e9.2) else if e9.1 = 0 then some ((-2012), e9.2) else if e9.1 = 1 then some ((-2013), e9.2) else none)
set_option maxRecDepth 20000 in
set_option maxHeartbeats 4000000 in
theorem c_L_call (N : Nat) (h : XH) (p0 : Nat) (p1 : Int32) (p2 : Int32) (p3 : Int32) (r : (Int32 × XM)) (hF : F_L_call N h p0 p1 p2 p3 = some r) : x_Cn mL_call 9 221 34 1915 [.ref p0, .int p1, .int p2, .int p3] h (some (.int r.1), r.2) := by
  unfold F_L_call at hF
  refine x_cn (by decide) rfl (Nat.le_of_ble_eq_true rfl) ?_
  show X mL_call 9 221 _ _ 34 1915 0 [(0, .ref p0), (1, .int p1), (2, .int p2), (3, .int p3)] [] h
  refine x_iload_n 1 dL_call_0 rfl rfl ?_
  refine x_bipush 12 (by decide) dL_call_1 ?_
  refine x_icmp_ge 16 dL_call_3 (by decide) hF (fun hF => ?_) (fun hF => ?_)
  · refine x_iload_n 1 dL_call_16 rfl rfl ?_
    refine x_bipush 22 (by decide) dL_call_17 ?_
    refine x_icmp_ge 32 dL_call_19 (by decide) hF (fun hF => ?_) (fun hF => ?_)
    · refine x_aload_n 0 dL_call_32 rfl rfl ?_
      refine x_iload_n 1 dL_call_33 rfl rfl ?_
      refine x_iload_n 2 dL_call_34 rfl rfl ?_
      refine x_iload_n 3 dL_call_35 rfl rfl ?_
      obtain ⟨z1, hzz1, hF⟩ := x_bind hF
      rcases z1 with w2 | e3
      · have hF := x_sel hF
        refine x_calls (As := [.ref p0, .int p1, .int p2, .int p3]) (rest := []) 32 1903 dL_call_36 mi_L_tree rfl ml_L_18 rfl rfl (Nat.le_of_ble_eq_true rfl) ⟨by decide, by decide⟩ (by omega) (by omega) (c_L_tree N _ _ _ _ _ _ _ hzz1) (x_K.some ?_) x_KX.none
        exact x_iretn dL_call_39 rfl (by cases hF; rfl)
      · have hF := x_ser hF
        obtain ⟨e3c, e3f⟩ := e3
        by_cases hc0 : e3c = 2
        · subst hc0
          refine x_calls (As := [.ref p0, .int p1, .int p2, .int p3]) (rest := []) 32 1903 dL_call_36 mi_L_tree rfl ml_L_18 rfl rfl (Nat.le_of_ble_eq_true rfl) ⟨by decide, by decide⟩ (by omega) (by omega) (c_L_tree N _ _ _ _ _ _ _ hzz1) x_K.inr (x_KX.catch (fun E hm hq => ?_))
          cases hq
          refine ⟨[], ⟨0, 39, 40, 21⟩, [⟨0, 39, 46, 23⟩, ⟨0, 39, 52, 25⟩], rfl, (fun z hz => absurd hz List.not_mem_nil), by decide, by decide, lk_IOE, ca_IOE, fun n9 q9 => ?_⟩
          refine x_astore (lv' := [(4, .ref q9), (0, .ref p0), (1, .int p1), (2, .int p2), (3, .int p3)]) dL_call_40 (by decide) rfl ?_
          refine x_sipush (-2011) (by decide) dL_call_42 ?_
          exact x_iretn dL_call_45 rfl (by cases hF; rfl)
        have hF := x_ifn hc0 hF
        by_cases hc1 : e3c = 0
        · subst hc1
          refine x_calls (As := [.ref p0, .int p1, .int p2, .int p3]) (rest := []) 32 1903 dL_call_36 mi_L_tree rfl ml_L_18 rfl rfl (Nat.le_of_ble_eq_true rfl) ⟨by decide, by decide⟩ (by omega) (by omega) (c_L_tree N _ _ _ _ _ _ _ hzz1) x_K.inr (x_KX.catch (fun E hm hq => ?_))
          cases hq
          refine ⟨[⟨0, 39, 40, 21⟩], ⟨0, 39, 46, 23⟩, [⟨0, 39, 52, 25⟩], rfl, (fun z hz => by cases List.mem_singleton.mp hz; exact Or.inr ⟨by decide, x_IOE, lk_IOE, Or.inr (Or.inl ⟨rfl, rfl⟩)⟩), by decide, by decide, lk_IAE, ca_IAE, fun n9 q9 => ?_⟩
          refine x_astore (lv' := [(4, .ref q9), (0, .ref p0), (1, .int p1), (2, .int p2), (3, .int p3)]) dL_call_46 (by decide) rfl ?_
          refine x_sipush (-2012) (by decide) dL_call_48 ?_
          exact x_iretn dL_call_51 rfl (by cases hF; rfl)
        have hF := x_ifn hc1 hF
        by_cases hc2 : e3c = 1
        · subst hc2
          refine x_calls (As := [.ref p0, .int p1, .int p2, .int p3]) (rest := []) 32 1903 dL_call_36 mi_L_tree rfl ml_L_18 rfl rfl (Nat.le_of_ble_eq_true rfl) ⟨by decide, by decide⟩ (by omega) (by omega) (c_L_tree N _ _ _ _ _ _ _ hzz1) x_K.inr (x_KX.catch (fun E hm hq => ?_))
          cases hq
          refine ⟨[⟨0, 39, 40, 21⟩, ⟨0, 39, 46, 23⟩], ⟨0, 39, 52, 25⟩, [], rfl, (fun z hz => (List.mem_cons.mp hz).elim (fun h9 => by cases h9; exact Or.inr ⟨by decide, x_IOE, lk_IOE, Or.inr (Or.inr (Or.inl ⟨rfl, rfl⟩))⟩) (fun h9 => by cases List.mem_singleton.mp h9; exact Or.inr ⟨by decide, x_IAE, lk_IAE, Or.inl ⟨rfl, rfl⟩⟩)), by decide, by decide, lk_ISE, ca_ISE, fun n9 q9 => ?_⟩
          refine x_astore (lv' := [(4, .ref q9), (0, .ref p0), (1, .int p1), (2, .int p2), (3, .int p3)]) dL_call_52 (by decide) rfl ?_
          refine x_sipush (-2013) (by decide) dL_call_54 ?_
          exact x_iretn dL_call_57 rfl (by cases hF; rfl)
        have hF := x_ifn hc2 hF
        cases hF
    · refine x_aload_n 0 dL_call_22 rfl rfl ?_
      refine x_iload_n 1 dL_call_23 rfl rfl ?_
      refine x_iload_n 2 dL_call_24 rfl rfl ?_
      refine x_iload_n 3 dL_call_25 rfl rfl ?_
      obtain ⟨z4, hzz4, hF⟩ := x_bind hF
      rcases z4 with w5 | e6
      · have hF := x_sel hF
        refine x_calls (As := [.ref p0, .int p1, .int p2, .int p3]) (rest := []) 32 1903 dL_call_26 mi_L_find rfl ml_L_15 rfl rfl (Nat.le_of_ble_eq_true rfl) ⟨by decide, by decide⟩ (by omega) (by omega) (c_L_find N _ _ _ _ _ _ _ hzz4) (x_K.some ?_) x_KX.none
        refine x_goto 39 dL_call_29 (by decide) ?_
        exact x_iretn dL_call_39 rfl (by cases hF; rfl)
      · have hF := x_ser hF
        obtain ⟨e6c, e6f⟩ := e6
        by_cases hc0 : e6c = 2
        · subst hc0
          refine x_calls (As := [.ref p0, .int p1, .int p2, .int p3]) (rest := []) 32 1903 dL_call_26 mi_L_find rfl ml_L_15 rfl rfl (Nat.le_of_ble_eq_true rfl) ⟨by decide, by decide⟩ (by omega) (by omega) (c_L_find N _ _ _ _ _ _ _ hzz4) x_K.inr (x_KX.catch (fun E hm hq => ?_))
          cases hq
          refine ⟨[], ⟨0, 39, 40, 21⟩, [⟨0, 39, 46, 23⟩, ⟨0, 39, 52, 25⟩], rfl, (fun z hz => absurd hz List.not_mem_nil), by decide, by decide, lk_IOE, ca_IOE, fun n9 q9 => ?_⟩
          refine x_astore (lv' := [(4, .ref q9), (0, .ref p0), (1, .int p1), (2, .int p2), (3, .int p3)]) dL_call_40 (by decide) rfl ?_
          refine x_sipush (-2011) (by decide) dL_call_42 ?_
          exact x_iretn dL_call_45 rfl (by cases hF; rfl)
        have hF := x_ifn hc0 hF
        by_cases hc1 : e6c = 0
        · subst hc1
          refine x_calls (As := [.ref p0, .int p1, .int p2, .int p3]) (rest := []) 32 1903 dL_call_26 mi_L_find rfl ml_L_15 rfl rfl (Nat.le_of_ble_eq_true rfl) ⟨by decide, by decide⟩ (by omega) (by omega) (c_L_find N _ _ _ _ _ _ _ hzz4) x_K.inr (x_KX.catch (fun E hm hq => ?_))
          cases hq
          refine ⟨[⟨0, 39, 40, 21⟩], ⟨0, 39, 46, 23⟩, [⟨0, 39, 52, 25⟩], rfl, (fun z hz => by cases List.mem_singleton.mp hz; exact Or.inr ⟨by decide, x_IOE, lk_IOE, Or.inr (Or.inl ⟨rfl, rfl⟩)⟩), by decide, by decide, lk_IAE, ca_IAE, fun n9 q9 => ?_⟩
          refine x_astore (lv' := [(4, .ref q9), (0, .ref p0), (1, .int p1), (2, .int p2), (3, .int p3)]) dL_call_46 (by decide) rfl ?_
          refine x_sipush (-2012) (by decide) dL_call_48 ?_
          exact x_iretn dL_call_51 rfl (by cases hF; rfl)
        have hF := x_ifn hc1 hF
        by_cases hc2 : e6c = 1
        · subst hc2
          refine x_calls (As := [.ref p0, .int p1, .int p2, .int p3]) (rest := []) 32 1903 dL_call_26 mi_L_find rfl ml_L_15 rfl rfl (Nat.le_of_ble_eq_true rfl) ⟨by decide, by decide⟩ (by omega) (by omega) (c_L_find N _ _ _ _ _ _ _ hzz4) x_K.inr (x_KX.catch (fun E hm hq => ?_))
          cases hq
          refine ⟨[⟨0, 39, 40, 21⟩, ⟨0, 39, 46, 23⟩], ⟨0, 39, 52, 25⟩, [], rfl, (fun z hz => (List.mem_cons.mp hz).elim (fun h9 => by cases h9; exact Or.inr ⟨by decide, x_IOE, lk_IOE, Or.inr (Or.inr (Or.inl ⟨rfl, rfl⟩))⟩) (fun h9 => by cases List.mem_singleton.mp h9; exact Or.inr ⟨by decide, x_IAE, lk_IAE, Or.inl ⟨rfl, rfl⟩⟩)), by decide, by decide, lk_ISE, ca_ISE, fun n9 q9 => ?_⟩
          refine x_astore (lv' := [(4, .ref q9), (0, .ref p0), (1, .int p1), (2, .int p2), (3, .int p3)]) dL_call_52 (by decide) rfl ?_
          refine x_sipush (-2013) (by decide) dL_call_54 ?_
          exact x_iretn dL_call_57 rfl (by cases hF; rfl)
        have hF := x_ifn hc2 hF
        cases hF
  · refine x_aload_n 0 dL_call_6 rfl rfl ?_
    refine x_iload_n 1 dL_call_7 rfl rfl ?_
    refine x_iload_n 2 dL_call_8 rfl rfl ?_
    refine x_iload_n 3 dL_call_9 rfl rfl ?_
    obtain ⟨z7, hzz7, hF⟩ := x_bind hF
    rcases z7 with w8 | e9
    · have hF := x_sel hF
      refine x_calls (As := [.ref p0, .int p1, .int p2, .int p3]) (rest := []) 0 0 dL_call_10 mi_L_act rfl ml_L_9 rfl rfl (Nat.le_of_ble_eq_true rfl) ⟨by decide, by decide⟩ (by omega) (by omega) (c_L_act N _ _ _ _ _ _ hzz7) (x_K.some ?_) x_KX.none
      refine x_goto 39 dL_call_13 (by decide) ?_
      exact x_iretn dL_call_39 rfl (by cases hF; rfl)
    · have hF := x_ser hF
      obtain ⟨e9c, e9f⟩ := e9
      by_cases hc0 : e9c = 2
      · subst hc0
        refine x_calls (As := [.ref p0, .int p1, .int p2, .int p3]) (rest := []) 0 0 dL_call_10 mi_L_act rfl ml_L_9 rfl rfl (Nat.le_of_ble_eq_true rfl) ⟨by decide, by decide⟩ (by omega) (by omega) (c_L_act N _ _ _ _ _ _ hzz7) x_K.inr (x_KX.catch (fun E hm hq => ?_))
        cases hq
        refine ⟨[], ⟨0, 39, 40, 21⟩, [⟨0, 39, 46, 23⟩, ⟨0, 39, 52, 25⟩], rfl, (fun z hz => absurd hz List.not_mem_nil), by decide, by decide, lk_IOE, ca_IOE, fun n9 q9 => ?_⟩
        refine x_astore (lv' := [(4, .ref q9), (0, .ref p0), (1, .int p1), (2, .int p2), (3, .int p3)]) dL_call_40 (by decide) rfl ?_
        refine x_sipush (-2011) (by decide) dL_call_42 ?_
        exact x_iretn dL_call_45 rfl (by cases hF; rfl)
      have hF := x_ifn hc0 hF
      by_cases hc1 : e9c = 0
      · subst hc1
        refine x_calls (As := [.ref p0, .int p1, .int p2, .int p3]) (rest := []) 0 0 dL_call_10 mi_L_act rfl ml_L_9 rfl rfl (Nat.le_of_ble_eq_true rfl) ⟨by decide, by decide⟩ (by omega) (by omega) (c_L_act N _ _ _ _ _ _ hzz7) x_K.inr (x_KX.catch (fun E hm hq => ?_))
        cases hq
        refine ⟨[⟨0, 39, 40, 21⟩], ⟨0, 39, 46, 23⟩, [⟨0, 39, 52, 25⟩], rfl, (fun z hz => by cases List.mem_singleton.mp hz; exact Or.inr ⟨by decide, x_IOE, lk_IOE, Or.inr (Or.inl ⟨rfl, rfl⟩)⟩), by decide, by decide, lk_IAE, ca_IAE, fun n9 q9 => ?_⟩
        refine x_astore (lv' := [(4, .ref q9), (0, .ref p0), (1, .int p1), (2, .int p2), (3, .int p3)]) dL_call_46 (by decide) rfl ?_
        refine x_sipush (-2012) (by decide) dL_call_48 ?_
        exact x_iretn dL_call_51 rfl (by cases hF; rfl)
      have hF := x_ifn hc1 hF
      by_cases hc2 : e9c = 1
      · subst hc2
        refine x_calls (As := [.ref p0, .int p1, .int p2, .int p3]) (rest := []) 0 0 dL_call_10 mi_L_act rfl ml_L_9 rfl rfl (Nat.le_of_ble_eq_true rfl) ⟨by decide, by decide⟩ (by omega) (by omega) (c_L_act N _ _ _ _ _ _ hzz7) x_K.inr (x_KX.catch (fun E hm hq => ?_))
        cases hq
        refine ⟨[⟨0, 39, 40, 21⟩, ⟨0, 39, 46, 23⟩], ⟨0, 39, 52, 25⟩, [], rfl, (fun z hz => (List.mem_cons.mp hz).elim (fun h9 => by cases h9; exact Or.inr ⟨by decide, x_IOE, lk_IOE, Or.inr (Or.inr (Or.inl ⟨rfl, rfl⟩))⟩) (fun h9 => by cases List.mem_singleton.mp h9; exact Or.inr ⟨by decide, x_IAE, lk_IAE, Or.inl ⟨rfl, rfl⟩⟩)), by decide, by decide, lk_ISE, ca_ISE, fun n9 q9 => ?_⟩
        refine x_astore (lv' := [(4, .ref q9), (0, .ref p0), (1, .int p1), (2, .int p2), (3, .int p3)]) dL_call_52 (by decide) rfl ?_
        refine x_sipush (-2013) (by decide) dL_call_54 ?_
        exact x_iretn dL_call_57 rfl (by cases hF; rfl)
      have hF := x_ifn hc2 hF
      cases hF
def F_L_undone (N : Nat) (h : XH) (p0 : Nat) : Option (Int32 × XM) :=
  (x_cv h.1 5 p0 (F_X5_undo N h.1 p0)).bind fun z1 =>
  x_se z1 (fun w2 =>
    (x_cv w2 5 p0 (F_X5_savedStates N w2 p0)).bind fun z4 =>
    some (z4, w2))
    (fun e3 => if e3.1 = 1 then some ((-2013), e3.2) else none)
set_option maxRecDepth 20000 in
set_option maxHeartbeats 4000000 in
theorem c_L_undone (N : Nat) (h : XH) (p0 : Nat) (r : (Int32 × XM)) (hF : F_L_undone N h p0 = some r) : x_Cn mL_undone 7 156 1 6 [.ref p0] h (some (.int r.1), r.2) := by
  unfold F_L_undone at hF
  refine x_cn (by decide) rfl (Nat.le_of_ble_eq_true rfl) ?_
  show X mL_undone 7 156 _ _ 1 6 0 [(0, .ref p0)] [] h
  refine x_aload_n 0 dL_undone_0 rfl rfl ?_
  obtain ⟨z1, hzz1, hF⟩ := x_bind hF
  obtain ⟨⟨fsz1, hbz1⟩, hzz1⟩ := x_cv_sp hzz1
  rcases z1 with w2 | e3
  · have hF := x_sel hF
    refine x_callv (As := []) (rest := []) 0 0 dL_undone_1 mi_X5_undo ml_L_161 rfl rfl (Nat.le_of_ble_eq_true rfl) ⟨by decide, by decide⟩ (by omega) (by omega) hbz1 rfl (c_X5_undo N _ _ _ _ hzz1) (x_K.none ?_) x_KX.none
    refine x_goto 12 dL_undone_4 (by decide) ?_
    refine x_aload_n 0 dL_undone_12 rfl rfl ?_
    obtain ⟨z4, hzz4, hF⟩ := x_bind hF
    obtain ⟨⟨fsz4, hbz4⟩, hzz4⟩ := x_cv_sp hzz4
    refine x_callv (As := []) (rest := []) 0 0 dL_undone_13 mi_X5_savedStates ml_L_164 rfl rfl (Nat.le_of_ble_eq_true rfl) ⟨by decide, by decide⟩ (by omega) (by omega) hbz4 rfl (c_X5_savedStates N _ _ _ _ hzz4) (x_K.some ?_) x_KX.none
    exact x_iretn dL_undone_16 rfl (by cases hF; rfl)
  · have hF := x_ser hF
    obtain ⟨e3c, e3f⟩ := e3
    by_cases hc0 : e3c = 1
    · subst hc0
      refine x_callv (As := []) (rest := []) 0 0 dL_undone_1 mi_X5_undo ml_L_161 rfl rfl (Nat.le_of_ble_eq_true rfl) ⟨by decide, by decide⟩ (by omega) (by omega) hbz1 rfl (c_X5_undo N _ _ _ _ hzz1) x_K.inr (x_KX.catch (fun E hm hq => ?_))
      cases hq
      refine ⟨[], ⟨0, 4, 7, 25⟩, [], rfl, (fun z hz => absurd hz List.not_mem_nil), by decide, by decide, lk_ISE, ca_ISE, fun n9 q9 => ?_⟩
      refine x_astore_n (lv' := [(1, .ref q9), (0, .ref p0)]) dL_undone_7 rfl (by decide) rfl ?_
      refine x_sipush (-2013) (by decide) dL_undone_8 ?_
      exact x_iretn dL_undone_11 rfl (by cases hF; rfl)
    have hF := x_ifn hc0 hF
    cases hF
def F_L_back (N : Nat) (h : XH) (p0 : Nat) (p1 : Int32) : Option (Int32 × XM) :=
  (x_cv h.1 5 p0 (F_X5_goBack N (h.1, h.2) p0 p1)).bind fun z1 =>
  x_se z1 (fun w2 =>
    some (0, w2.1))
    (fun e3 => if e3.1 = 0 then some ((-2012), e3.2) else if e3.1 = 1 then some ((-2013), e3.2) else none)
set_option maxRecDepth 20000 in
set_option maxHeartbeats 4000000 in
theorem c_L_back (N : Nat) (h : XH) (p0 : Nat) (p1 : Int32) (r : (Int32 × XM)) (hF : F_L_back N h p0 p1 = some r) : x_Cn mL_back 8 157 33 1909 [.ref p0, .int p1] h (some (.int r.1), r.2) := by
  unfold F_L_back at hF
  refine x_cn (by decide) rfl (Nat.le_of_ble_eq_true rfl) ?_
  show X mL_back 8 157 _ _ 33 1909 0 [(0, .ref p0), (1, .int p1)] [] h
  refine x_aload_n 0 dL_back_0 rfl rfl ?_
  refine x_iload_n 1 dL_back_1 rfl rfl ?_
  obtain ⟨z1, hzz1, hF⟩ := x_bind hF
  obtain ⟨⟨fsz1, hbz1⟩, hzz1⟩ := x_cv_sp hzz1
  rcases z1 with w2 | e3
  · have hF := x_sel hF
    refine x_callv (As := [.int p1]) (rest := []) 0 0 dL_back_2 mi_X5_goBack ml_L_167 rfl rfl (Nat.le_of_ble_eq_true rfl) ⟨by decide, by decide⟩ (by omega) (by omega) hbz1 rfl (c_X5_goBack N _ _ _ _ hzz1) (x_K.none ?_) x_KX.none
    refine x_goto 18 dL_back_5 (by decide) ?_
    refine x_iconst 0 (by decide) dL_back_18 ?_
    exact x_iretn dL_back_19 rfl (by cases hF; rfl)
  · have hF := x_ser hF
    obtain ⟨e3c, e3f⟩ := e3
    by_cases hc0 : e3c = 0
    · subst hc0
      refine x_callv (As := [.int p1]) (rest := []) 0 0 dL_back_2 mi_X5_goBack ml_L_167 rfl rfl (Nat.le_of_ble_eq_true rfl) ⟨by decide, by decide⟩ (by omega) (by omega) hbz1 rfl (c_X5_goBack N _ _ _ _ hzz1) x_K.inr (x_KX.catch (fun E hm hq => ?_))
      cases hq
      refine ⟨[], ⟨0, 5, 8, 23⟩, [⟨0, 5, 13, 25⟩], rfl, (fun z hz => absurd hz List.not_mem_nil), by decide, by decide, lk_IAE, ca_IAE, fun n9 q9 => ?_⟩
      refine x_astore_n (lv' := [(2, .ref q9), (0, .ref p0), (1, .int p1)]) dL_back_8 rfl (by decide) rfl ?_
      refine x_sipush (-2012) (by decide) dL_back_9 ?_
      exact x_iretn dL_back_12 rfl (by cases hF; rfl)
    have hF := x_ifn hc0 hF
    by_cases hc1 : e3c = 1
    · subst hc1
      refine x_callv (As := [.int p1]) (rest := []) 0 0 dL_back_2 mi_X5_goBack ml_L_167 rfl rfl (Nat.le_of_ble_eq_true rfl) ⟨by decide, by decide⟩ (by omega) (by omega) hbz1 rfl (c_X5_goBack N _ _ _ _ hzz1) x_K.inr (x_KX.catch (fun E hm hq => ?_))
      cases hq
      refine ⟨[⟨0, 5, 8, 23⟩], ⟨0, 5, 13, 25⟩, [], rfl, (fun z hz => by cases List.mem_singleton.mp hz; exact Or.inr ⟨by decide, x_IAE, lk_IAE, Or.inl ⟨rfl, rfl⟩⟩), by decide, by decide, lk_ISE, ca_ISE, fun n9 q9 => ?_⟩
      refine x_astore_n (lv' := [(2, .ref q9), (0, .ref p0), (1, .int p1)]) dL_back_13 rfl (by decide) rfl ?_
      refine x_sipush (-2013) (by decide) dL_back_14 ?_
      exact x_iretn dL_back_17 rfl (by cases hF; rfl)
    have hF := x_ifn hc1 hF
    cases hF
def F_L_keeps (N : Nat) (h : XH) (p0 : Nat) (p1 : Int32) : Option (Int32 × XM) :=
  (x_cv h.1 5 p0 (F_X5_keep N (h.1, h.2) p0 p1)).bind fun z1 =>
  x_se z1 (fun w2 =>
    some (0, w2.1))
    (fun e3 => if e3.1 = 0 then some ((-2012), e3.2) else none)
set_option maxRecDepth 20000 in
set_option maxHeartbeats 4000000 in
theorem c_L_keeps (N : Nat) (h : XH) (p0 : Nat) (p1 : Int32) (r : (Int32 × XM)) (hF : F_L_keeps N h p0 p1 = some r) : x_Cn mL_keeps 8 157 33 1909 [.ref p0, .int p1] h (some (.int r.1), r.2) := by
  unfold F_L_keeps at hF
  refine x_cn (by decide) rfl (Nat.le_of_ble_eq_true rfl) ?_
  show X mL_keeps 8 157 _ _ 33 1909 0 [(0, .ref p0), (1, .int p1)] [] h
  refine x_aload_n 0 dL_keeps_0 rfl rfl ?_
  refine x_iload_n 1 dL_keeps_1 rfl rfl ?_
  obtain ⟨z1, hzz1, hF⟩ := x_bind hF
  obtain ⟨⟨fsz1, hbz1⟩, hzz1⟩ := x_cv_sp hzz1
  rcases z1 with w2 | e3
  · have hF := x_sel hF
    refine x_callv (As := [.int p1]) (rest := []) 0 0 dL_keeps_2 mi_X5_keep ml_L_171 rfl rfl (Nat.le_of_ble_eq_true rfl) ⟨by decide, by decide⟩ (by omega) (by omega) hbz1 rfl (c_X5_keep N _ _ _ _ hzz1) (x_K.none ?_) x_KX.none
    refine x_goto 13 dL_keeps_5 (by decide) ?_
    refine x_iconst 0 (by decide) dL_keeps_13 ?_
    exact x_iretn dL_keeps_14 rfl (by cases hF; rfl)
  · have hF := x_ser hF
    obtain ⟨e3c, e3f⟩ := e3
    by_cases hc0 : e3c = 0
    · subst hc0
      refine x_callv (As := [.int p1]) (rest := []) 0 0 dL_keeps_2 mi_X5_keep ml_L_171 rfl rfl (Nat.le_of_ble_eq_true rfl) ⟨by decide, by decide⟩ (by omega) (by omega) hbz1 rfl (c_X5_keep N _ _ _ _ hzz1) x_K.inr (x_KX.catch (fun E hm hq => ?_))
      cases hq
      refine ⟨[], ⟨0, 5, 8, 23⟩, [], rfl, (fun z hz => absurd hz List.not_mem_nil), by decide, by decide, lk_IAE, ca_IAE, fun n9 q9 => ?_⟩
      refine x_astore_n (lv' := [(2, .ref q9), (0, .ref p0), (1, .int p1)]) dL_keeps_8 rfl (by decide) rfl ?_
      refine x_sipush (-2012) (by decide) dL_keeps_9 ?_
      exact x_iretn dL_keeps_12 rfl (by cases hF; rfl)
    have hF := x_ifn hc0 hF
    cases hF
def F_L_seen_L98 (N : Nat) (f : XM) (c0 : Nat) (c3 : Int32) (K : Int64 → Int32 → Option (Int64 × XM)) : Nat → Int64 → Int32 → Option (Int64 × XM)
  | 0, _, _ => none
  | k + 1, x1, x4 =>
    (x_cv f 5 c0 (F_X5_sizeOf N f c0 c3)).bind fun z17 =>
    x_se z17 (fun w18 =>
      if w18 ≤ x4 then
        K x1 x4
      else
        (x_cv f 5 c0 (F_X5_keyIn N f c0 c3 x4)).bind fun z20 =>
        x_se z20 (fun w21 =>
          (x_cv f 5 c0 (F_X5_isGoneIn N f c0 c3 x4)).bind fun z23 =>
          x_se z23 (fun w24 =>
            if (x_b w24) = 0 then
              F_L_seen_L98 N f c0 c3 K k (((31 : Int64) * (((31 : Int64) * x1) + (w21 : Int32).toInt64)) + (0 : Int32).toInt64) (x4 + 1)
            else
              F_L_seen_L98 N f c0 c3 K k (((31 : Int64) * (((31 : Int64) * x1) + (w21 : Int32).toInt64)) + (1 : Int32).toInt64) (x4 + 1))
            (fun e25 => none))
          (fun e22 => none))
      (fun e19 => none)
def F_L_seen_L74 (N : Nat) (f : XM) (c0 : Nat) (K : Int64 → Int32 → Option (Int64 × XM)) : Nat → Int64 → Int32 → Option (Int64 × XM)
  | 0, _, _ => none
  | k + 1, x1, x3 =>
    (x_cv f 5 c0 (F_X5_runs N f c0)).bind fun z12 =>
    if z12 < x3 then
      K x1 x3
    else
      (x_cv f 5 c0 (F_X5_sizeOf N f c0 x3)).bind fun z13 =>
      x_se z13 (fun w14 =>
        F_L_seen_L98 N f c0 x3 (fun y1_26 y4_26 =>
        F_L_seen_L74 N f c0 K k y1_26 (x3 + 1)) N (((31 : Int64) * x1) + (w14 : Int32).toInt64) 0)
        (fun e15 => none)
def F_L_seen_L204 (N : Nat) (f : XM) (c0 : Nat) (c3 : Int32) (K : Int64 → Int32 → Option (Int64 × XM)) : Nat → Int64 → Int32 → Option (Int64 × XM)
  | 0, _, _ => none
  | k + 1, x1, x4 =>
    (x_cv f 5 c0 (F_X5_entriesOf N f c0 c3)).bind fun z40 =>
    x_se z40 (fun w41 =>
      if w41 ≤ x4 then
        K x1 x4
      else
        (x_cv f 5 c0 (F_X5_leafKey N f c0 c3 x4)).bind fun z43 =>
        x_se z43 (fun w44 =>
          F_L_seen_L204 N f c0 c3 K k (((31 : Int64) * x1) + (w44 : Int32).toInt64) (x4 + 1))
          (fun e45 => none))
      (fun e42 => none)
def F_L_seen_L158 (N : Nat) (f : XM) (c0 : Nat) (K : Int64 → Int32 → Option (Int64 × XM)) : Nat → Int64 → Int32 → Option (Int64 × XM)
  | 0, _, _ => none
  | k + 1, x1, x3 =>
    (x_cv f 5 c0 (F_X5_leaves N f c0)).bind fun z29 =>
    if z29 ≤ x3 then
      K x1 x3
    else
      (x_cv f 5 c0 (F_X5_entriesOf N f c0 x3)).bind fun z30 =>
      x_se z30 (fun w31 =>
        (x_cv f 5 c0 (F_X5_overflowOf N f c0 x3)).bind fun z33 =>
        x_se z33 (fun w34 =>
          (x_cv f 5 c0 (F_X5_overflowLeaves N f c0 x3)).bind fun z36 =>
          x_se z36 (fun w37 =>
            F_L_seen_L204 N f c0 x3 (fun y1_46 y4_46 =>
            F_L_seen_L158 N f c0 K k y1_46 (x3 + 1)) N (((31 : Int64) * (((31 : Int64) * (((31 : Int64) * x1) + (w31 : Int32).toInt64)) + (w34 : Int32).toInt64)) + (w37 : Int32).toInt64) 0)
            (fun e38 => none))
          (fun e35 => none))
        (fun e32 => none)
def F_L_seen_L243 (N : Nat) (c0 : Nat) (K : Int64 → Int32 → XM → Option (Int64 × XM)) : Nat → Int64 → Int32 → XM → Option (Int64 × XM)
  | 0, _, _, _ => none
  | k + 1, x1, x3, f =>
    (x_cv f 5 c0 (F_X5_found N f c0)).bind fun z49 =>
    if z49.1 ≤ x3 then
      K x1 x3 z49.2
    else
      (x_cv z49.2 5 c0 (F_X5_keyAt N z49.2 c0 x3)).bind fun z50 =>
      x_se z50 (fun w51 =>
        (x_cv w51.2 5 c0 (F_X5_keyAt N w51.2 c0 x3)).bind fun z53 =>
        x_se z53 (fun w54 =>
          (x_cv w54.2 5 c0 (F_X5_valueOf N w54.2 c0 w54.1)).bind fun z56 =>
          x_se z56 (fun w57 =>
            (x_cv w54.2 5 c0 (F_X5_keyAt N w54.2 c0 x3)).bind fun z59 =>
            x_se z59 (fun w60 =>
              (x_cv w60.2 5 c0 (F_X5_pagesFor N w60.2 c0 w60.1)).bind fun z62 =>
              x_se z62 (fun w63 =>
                F_L_seen_L243 N c0 K k (((31 : Int64) * (((31 : Int64) * (((31 : Int64) * x1) + (w51.1 : Int32).toInt64)) + (w57 : Int32).toInt64)) + (w63 : Int32).toInt64) (x3 + 1) w60.2)
                (fun e64 => none))
              (fun e61 => none))
            (fun e58 => none))
          (fun e55 => none))
        (fun e52 => none)
def F_L_seen (N : Nat) (f : XM) (p0 : Nat) : Option (Int64 × XM) :=
  (x_cv f 5 p0 (F_X5_entries N f p0)).bind fun z1 =>
  (x_cv f 5 p0 (F_X5_leaves N f p0)).bind fun z2 =>
  (x_cv f 5 p0 (F_X5_builds N f p0)).bind fun z3 =>
  (x_cv f 5 p0 (F_X5_written N f p0)).bind fun z4 =>
  (x_cv f 5 p0 (F_X5_leavesIfBuilt N f p0 100)).bind fun z5 =>
  x_se z5 (fun w6 =>
    (x_cv w6.2 5 p0 (F_X5_levelsIfBuilt N w6.2 p0 50)).bind fun z8 =>
    x_se z8 (fun w9 =>
      F_L_seen_L74 N w9.2 p0 (fun y1_27 y3_27 =>
      F_L_seen_L158 N w9.2 p0 (fun y1_47 y3_47 =>
      F_L_seen_L243 N p0 (fun y1_65 y3_65 g65 =>
      some (y1_65, g65)) N y1_47 0 w9.2) N y1_27 0) N (((31 : Int64) * (((31 : Int64) * (((31 : Int64) * (((31 : Int64) * (((31 : Int64) * (((31 : Int64) * (357 : Int64)) + (z1 : Int32).toInt64)) + (z2 : Int32).toInt64)) + (z3 : Int32).toInt64)) + (z4 : Int32).toInt64)) + (w6.1 : Int32).toInt64)) + (w9.1 : Int32).toInt64) 0)
      (fun e10 => none))
    (fun e7 => none)
set_option maxRecDepth 20000 in
set_option maxHeartbeats 4000000 in
theorem w_L_seen_L98 (N : Nat) (f : XM) (c0 : Nat) (c3 : Int32) (K : Int64 → Int32 → Option (Int64 × XM)) (n : Nat) (r : (Int64 × XM)) {rc rs : Nat} : ∀ (k : Nat) (x1 : Int64) (x4 : Int32), F_L_seen_L98 N f c0 c3 K k x1 x4 = some r → (∀ (x1 : Int64) (x4 : Int32), K x1 x4 = some r → X mL_seen 8 136 (x_end (xr_lm r n)) x_noRO rc rs 150 [(0, .ref c0), (1, .long x1), (3, .int c3), (4, .int x4)] [] (f, n)) → X mL_seen 8 136 (x_end (xr_lm r n)) x_noRO rc rs 98 [(0, .ref c0), (1, .long x1), (3, .int c3), (4, .int x4)] [] (f, n) := by
  intro k
  induction k with
  | zero =>
    intro x1 x4 hF
    exact absurd hF (by intro h9; cases h9)
  | succ k ih =>
    intro x1 x4 hF hK
    have ih := fun x1 x4 hF => ih x1 x4 hF hK
    rw [F_L_seen_L98] at hF
    refine x_iload 3 dL_seen_98 rfl ?_
    refine x_aload_n 0 dL_seen_100 rfl rfl ?_
    refine x_iload_n 2 dL_seen_101 rfl rfl ?_
    obtain ⟨z17, hzz17, hF⟩ := x_bind hF
    obtain ⟨⟨fsz17, hbz17⟩, hzz17⟩ := x_cv_sp hzz17
    rcases z17 with w18 | e19
    · have hF := x_sel hF
      refine x_callv (As := [.int c3]) (rest := [.int x4]) (rc + 0) (rs + 0) dL_seen_102 mi_X5_sizeOf ml_L_99 rfl rfl (Nat.le_of_ble_eq_true rfl) ⟨by decide, by decide⟩ (by omega) (by omega) hbz17 rfl (c0_X5_sizeOf N _ _ _ _ _ hzz17) (x_K.some ?_) x_KX.none
      refine x_icmp_ge 150 dL_seen_105 (by decide) hF (fun hF => ?_) (fun hF => ?_)
      · refine x_sub [0, 1, 2, 3] rfl ?_
        exact hK _ _ hF
      · refine x_ldc2 kc_L_141 dL_seen_108 ?_
        refine x_ldc2 kc_L_141 dL_seen_111 ?_
        refine x_lload_n 1 dL_seen_114 rfl rfl ?_
        refine x_lmul dL_seen_115 ?_
        refine x_aload_n 0 dL_seen_116 rfl rfl ?_
        refine x_iload_n 2 dL_seen_117 rfl rfl ?_
        refine x_iload 3 dL_seen_118 rfl ?_
        obtain ⟨z20, hzz20, hF⟩ := x_bind hF
        obtain ⟨⟨fsz20, hbz20⟩, hzz20⟩ := x_cv_sp hzz20
        rcases z20 with w21 | e22
        · have hF := x_sel hF
          refine x_callv (As := [.int c3, .int x4]) (rest := [.long ((31 : Int64) * x1), .long (31 : Int64)]) (rc + 0) (rs + 0) dL_seen_120 mi_X5_keyIn ml_L_102 rfl rfl (Nat.le_of_ble_eq_true rfl) ⟨by decide, by decide⟩ (by omega) (by omega) hbz20 rfl (c0_X5_keyIn N _ _ _ _ _ _ hzz20) (x_K.some ?_) x_KX.none
          refine x_i2l dL_seen_123 ?_
          refine x_ladd dL_seen_124 ?_
          refine x_lmul dL_seen_125 ?_
          refine x_aload_n 0 dL_seen_126 rfl rfl ?_
          refine x_iload_n 2 dL_seen_127 rfl rfl ?_
          refine x_iload 3 dL_seen_128 rfl ?_
          obtain ⟨z23, hzz23, hF⟩ := x_bind hF
          obtain ⟨⟨fsz23, hbz23⟩, hzz23⟩ := x_cv_sp hzz23
          rcases z23 with w24 | e25
          · have hF := x_sel hF
            refine x_callv (As := [.int c3, .int x4]) (rest := [.long ((31 : Int64) * (((31 : Int64) * x1) + (w21 : Int32).toInt64))]) (rc + 0) (rs + 0) dL_seen_130 mi_X5_isGoneIn ml_L_105 rfl rfl (Nat.le_of_ble_eq_true rfl) ⟨by decide, by decide⟩ (by omega) (by omega) hbz23 rfl (c0_X5_isGoneIn N _ _ _ _ _ _ hzz23) (x_K.some ?_) x_KX.none
            refine x_if_eq 140 dL_seen_133 (by decide) hF (fun hF => ?_) (fun hF => ?_)
            · refine x_iconst 0 (by decide) dL_seen_140 ?_
              refine x_i2l dL_seen_141 ?_
              refine x_ladd dL_seen_142 ?_
              refine x_lstore_n (i := 1) (lv' := [(1, .long (((31 : Int64) * (((31 : Int64) * x1) + (w21 : Int32).toInt64)) + (0 : Int32).toInt64)), (0, .ref c0), (3, .int c3), (4, .int x4)]) dL_seen_143 rfl (by decide) rfl ?_
              refine x_iinc (x4 + 1) (lv' := [(4, .int (x4 + 1)), (1, .long (((31 : Int64) * (((31 : Int64) * x1) + (w21 : Int32).toInt64)) + (0 : Int32).toInt64)), (0, .ref c0), (3, .int c3)]) dL_seen_144 3 rfl (by rfl) (by decide) rfl ?_
              refine x_goto 98 dL_seen_147 (by decide) ?_
              refine x_sub [2, 1, 3, 0] rfl ?_
              exact ih _ _ hF
            · refine x_iconst 1 (by decide) dL_seen_136 ?_
              refine x_goto 141 dL_seen_137 (by decide) ?_
              refine x_i2l dL_seen_141 ?_
              refine x_ladd dL_seen_142 ?_
              refine x_lstore_n (i := 1) (lv' := [(1, .long (((31 : Int64) * (((31 : Int64) * x1) + (w21 : Int32).toInt64)) + (1 : Int32).toInt64)), (0, .ref c0), (3, .int c3), (4, .int x4)]) dL_seen_143 rfl (by decide) rfl ?_
              refine x_iinc (x4 + 1) (lv' := [(4, .int (x4 + 1)), (1, .long (((31 : Int64) * (((31 : Int64) * x1) + (w21 : Int32).toInt64)) + (1 : Int32).toInt64)), (0, .ref c0), (3, .int c3)]) dL_seen_144 3 rfl (by rfl) (by decide) rfl ?_
              refine x_goto 98 dL_seen_147 (by decide) ?_
              refine x_sub [2, 1, 3, 0] rfl ?_
              exact ih _ _ hF
          · have hF := x_ser hF
            cases hF
        · have hF := x_ser hF
          cases hF
    · have hF := x_ser hF
      cases hF
set_option maxRecDepth 20000 in
set_option maxHeartbeats 4000000 in
theorem w_L_seen_L74 (N : Nat) (f : XM) (c0 : Nat) (K : Int64 → Int32 → Option (Int64 × XM)) (n : Nat) (r : (Int64 × XM)) {rc rs : Nat} : ∀ (k : Nat) (x1 : Int64) (x3 : Int32), F_L_seen_L74 N f c0 K k x1 x3 = some r → (∀ (x1 : Int64) (x3 : Int32), K x1 x3 = some r → X mL_seen 8 136 (x_end (xr_lm r n)) x_noRO rc rs 156 [(0, .ref c0), (1, .long x1), (3, .int x3)] [] (f, n)) → X mL_seen 8 136 (x_end (xr_lm r n)) x_noRO rc rs 74 [(0, .ref c0), (1, .long x1), (3, .int x3)] [] (f, n) := by
  intro k
  induction k with
  | zero =>
    intro x1 x3 hF
    exact absurd hF (by intro h9; cases h9)
  | succ k ih =>
    intro x1 x3 hF hK
    have ih := fun x1 x3 hF => ih x1 x3 hF hK
    rw [F_L_seen_L74] at hF
    refine x_iload_n 2 dL_seen_74 rfl rfl ?_
    refine x_aload_n 0 dL_seen_75 rfl rfl ?_
    obtain ⟨z12, hzz12, hF⟩ := x_bind hF
    obtain ⟨⟨fsz12, hbz12⟩, hzz12⟩ := x_cv_sp hzz12
    refine x_callv (As := []) (rest := [.int x3]) (rc + 0) (rs + 0) dL_seen_76 mi_X5_runs ml_L_155 rfl rfl (Nat.le_of_ble_eq_true rfl) ⟨by decide, by decide⟩ (by omega) (by omega) hbz12 rfl (c_X5_runs N _ _ _ _ hzz12) (x_K.some ?_) x_KX.none
    refine x_icmp_gt 156 dL_seen_79 (by decide) hF (fun hF => ?_) (fun hF => ?_)
    · refine x_sub [0, 1, 2] rfl ?_
      exact hK _ _ hF
    · refine x_ldc2 kc_L_141 dL_seen_82 ?_
      refine x_lload_n 1 dL_seen_85 rfl rfl ?_
      refine x_lmul dL_seen_86 ?_
      refine x_aload_n 0 dL_seen_87 rfl rfl ?_
      refine x_iload_n 2 dL_seen_88 rfl rfl ?_
      obtain ⟨z13, hzz13, hF⟩ := x_bind hF
      obtain ⟨⟨fsz13, hbz13⟩, hzz13⟩ := x_cv_sp hzz13
      rcases z13 with w14 | e15
      · have hF := x_sel hF
        refine x_callv (As := [.int x3]) (rest := [.long ((31 : Int64) * x1)]) (rc + 0) (rs + 0) dL_seen_89 mi_X5_sizeOf ml_L_99 rfl rfl (Nat.le_of_ble_eq_true rfl) ⟨by decide, by decide⟩ (by omega) (by omega) hbz13 rfl (c0_X5_sizeOf N _ _ _ _ _ hzz13) (x_K.some ?_) x_KX.none
        refine x_i2l dL_seen_92 ?_
        refine x_ladd dL_seen_93 ?_
        refine x_lstore_n (i := 1) (lv' := [(1, .long (((31 : Int64) * x1) + (w14 : Int32).toInt64)), (0, .ref c0), (3, .int x3)]) dL_seen_94 rfl (by decide) rfl ?_
        refine x_iconst 0 (by decide) dL_seen_95 ?_
        refine x_istore (i := 4) (lv' := [(4, .int 0), (1, .long (((31 : Int64) * x1) + (w14 : Int32).toInt64)), (0, .ref c0), (3, .int x3)]) dL_seen_96 (by decide) rfl ?_
        refine x_sub [2, 1, 3, 0] rfl ?_
        refine w_L_seen_L98 N _ _ _ _ _ r _ _ _ hF (fun y1_26 y4_26 hF => ?_)
        refine x_iinc (x3 + 1) (lv' := [(3, .int (x3 + 1)), (0, .ref c0), (1, .long y1_26), (4, .int y4_26)]) dL_seen_150 2 rfl (by rfl) (by decide) rfl ?_
        refine x_goto 74 dL_seen_153 (by decide) ?_
        refine x_sub [1, 2, 0] rfl ?_
        exact ih _ _ hF
      · have hF := x_ser hF
        cases hF
set_option maxRecDepth 20000 in
set_option maxHeartbeats 4000000 in
theorem w_L_seen_L204 (N : Nat) (f : XM) (c0 : Nat) (c3 : Int32) (K : Int64 → Int32 → Option (Int64 × XM)) (n : Nat) (r : (Int64 × XM)) {rc rs : Nat} : ∀ (k : Nat) (x1 : Int64) (x4 : Int32), F_L_seen_L204 N f c0 c3 K k x1 x4 = some r → (∀ (x1 : Int64) (x4 : Int32), K x1 x4 = some r → X mL_seen 8 136 (x_end (xr_lm r n)) x_noRO rc rs 235 [(0, .ref c0), (1, .long x1), (3, .int c3), (4, .int x4)] [] (f, n)) → X mL_seen 8 136 (x_end (xr_lm r n)) x_noRO rc rs 204 [(0, .ref c0), (1, .long x1), (3, .int c3), (4, .int x4)] [] (f, n) := by
  intro k
  induction k with
  | zero =>
    intro x1 x4 hF
    exact absurd hF (by intro h9; cases h9)
  | succ k ih =>
    intro x1 x4 hF hK
    have ih := fun x1 x4 hF => ih x1 x4 hF hK
    rw [F_L_seen_L204] at hF
    refine x_iload 3 dL_seen_204 rfl ?_
    refine x_aload_n 0 dL_seen_206 rfl rfl ?_
    refine x_iload_n 2 dL_seen_207 rfl rfl ?_
    obtain ⟨z40, hzz40, hF⟩ := x_bind hF
    obtain ⟨⟨fsz40, hbz40⟩, hzz40⟩ := x_cv_sp hzz40
    rcases z40 with w41 | e42
    · have hF := x_sel hF
      refine x_callv (As := [.int c3]) (rest := [.int x4]) (rc + 0) (rs + 0) dL_seen_208 mi_X5_entriesOf ml_L_109 rfl rfl (Nat.le_of_ble_eq_true rfl) ⟨by decide, by decide⟩ (by omega) (by omega) hbz40 rfl (c0_X5_entriesOf N _ _ _ _ _ hzz40) (x_K.some ?_) x_KX.none
      refine x_icmp_ge 235 dL_seen_211 (by decide) hF (fun hF => ?_) (fun hF => ?_)
      · refine x_sub [0, 1, 2, 3] rfl ?_
        exact hK _ _ hF
      · refine x_ldc2 kc_L_141 dL_seen_214 ?_
        refine x_lload_n 1 dL_seen_217 rfl rfl ?_
        refine x_lmul dL_seen_218 ?_
        refine x_aload_n 0 dL_seen_219 rfl rfl ?_
        refine x_iload_n 2 dL_seen_220 rfl rfl ?_
        refine x_iload 3 dL_seen_221 rfl ?_
        obtain ⟨z43, hzz43, hF⟩ := x_bind hF
        obtain ⟨⟨fsz43, hbz43⟩, hzz43⟩ := x_cv_sp hzz43
        rcases z43 with w44 | e45
        · have hF := x_sel hF
          refine x_callv (As := [.int c3, .int x4]) (rest := [.long ((31 : Int64) * x1)]) (rc + 0) (rs + 0) dL_seen_223 mi_X5_leafKey ml_L_112 rfl rfl (Nat.le_of_ble_eq_true rfl) ⟨by decide, by decide⟩ (by omega) (by omega) hbz43 rfl (c0_X5_leafKey N _ _ _ _ _ _ hzz43) (x_K.some ?_) x_KX.none
          refine x_i2l dL_seen_226 ?_
          refine x_ladd dL_seen_227 ?_
          refine x_lstore_n (i := 1) (lv' := [(1, .long (((31 : Int64) * x1) + (w44 : Int32).toInt64)), (0, .ref c0), (3, .int c3), (4, .int x4)]) dL_seen_228 rfl (by decide) rfl ?_
          refine x_iinc (x4 + 1) (lv' := [(4, .int (x4 + 1)), (1, .long (((31 : Int64) * x1) + (w44 : Int32).toInt64)), (0, .ref c0), (3, .int c3)]) dL_seen_229 3 rfl (by rfl) (by decide) rfl ?_
          refine x_goto 204 dL_seen_232 (by decide) ?_
          refine x_sub [2, 1, 3, 0] rfl ?_
          exact ih _ _ hF
        · have hF := x_ser hF
          cases hF
    · have hF := x_ser hF
      cases hF
set_option maxRecDepth 20000 in
set_option maxHeartbeats 4000000 in
theorem w_L_seen_L158 (N : Nat) (f : XM) (c0 : Nat) (K : Int64 → Int32 → Option (Int64 × XM)) (n : Nat) (r : (Int64 × XM)) {rc rs : Nat} : ∀ (k : Nat) (x1 : Int64) (x3 : Int32), F_L_seen_L158 N f c0 K k x1 x3 = some r → (∀ (x1 : Int64) (x3 : Int32), K x1 x3 = some r → X mL_seen 8 136 (x_end (xr_lm r n)) x_noRO rc rs 241 [(0, .ref c0), (1, .long x1), (3, .int x3)] [] (f, n)) → X mL_seen 8 136 (x_end (xr_lm r n)) x_noRO rc rs 158 [(0, .ref c0), (1, .long x1), (3, .int x3)] [] (f, n) := by
  intro k
  induction k with
  | zero =>
    intro x1 x3 hF
    exact absurd hF (by intro h9; cases h9)
  | succ k ih =>
    intro x1 x3 hF hK
    have ih := fun x1 x3 hF => ih x1 x3 hF hK
    rw [F_L_seen_L158] at hF
    refine x_iload_n 2 dL_seen_158 rfl rfl ?_
    refine x_aload_n 0 dL_seen_159 rfl rfl ?_
    obtain ⟨z29, hzz29, hF⟩ := x_bind hF
    obtain ⟨⟨fsz29, hbz29⟩, hzz29⟩ := x_cv_sp hzz29
    refine x_callv (As := []) (rest := [.int x3]) (rc + 0) (rs + 0) dL_seen_160 mi_X5_leaves ml_L_146 rfl rfl (Nat.le_of_ble_eq_true rfl) ⟨by decide, by decide⟩ (by omega) (by omega) hbz29 rfl (c_X5_leaves N _ _ _ _ hzz29) (x_K.some ?_) x_KX.none
    refine x_icmp_ge 241 dL_seen_163 (by decide) hF (fun hF => ?_) (fun hF => ?_)
    · refine x_sub [0, 1, 2] rfl ?_
      exact hK _ _ hF
    · refine x_ldc2 kc_L_141 dL_seen_166 ?_
      refine x_ldc2 kc_L_141 dL_seen_169 ?_
      refine x_ldc2 kc_L_141 dL_seen_172 ?_
      refine x_lload_n 1 dL_seen_175 rfl rfl ?_
      refine x_lmul dL_seen_176 ?_
      refine x_aload_n 0 dL_seen_177 rfl rfl ?_
      refine x_iload_n 2 dL_seen_178 rfl rfl ?_
      obtain ⟨z30, hzz30, hF⟩ := x_bind hF
      obtain ⟨⟨fsz30, hbz30⟩, hzz30⟩ := x_cv_sp hzz30
      rcases z30 with w31 | e32
      · have hF := x_sel hF
        refine x_callv (As := [.int x3]) (rest := [.long ((31 : Int64) * x1), .long (31 : Int64), .long (31 : Int64)]) (rc + 0) (rs + 0) dL_seen_179 mi_X5_entriesOf ml_L_109 rfl rfl (Nat.le_of_ble_eq_true rfl) ⟨by decide, by decide⟩ (by omega) (by omega) hbz30 rfl (c0_X5_entriesOf N _ _ _ _ _ hzz30) (x_K.some ?_) x_KX.none
        refine x_i2l dL_seen_182 ?_
        refine x_ladd dL_seen_183 ?_
        refine x_lmul dL_seen_184 ?_
        refine x_aload_n 0 dL_seen_185 rfl rfl ?_
        refine x_iload_n 2 dL_seen_186 rfl rfl ?_
        obtain ⟨z33, hzz33, hF⟩ := x_bind hF
        obtain ⟨⟨fsz33, hbz33⟩, hzz33⟩ := x_cv_sp hzz33
        rcases z33 with w34 | e35
        · have hF := x_sel hF
          refine x_callv (As := [.int x3]) (rest := [.long ((31 : Int64) * (((31 : Int64) * x1) + (w31 : Int32).toInt64)), .long (31 : Int64)]) (rc + 0) (rs + 0) dL_seen_187 mi_X5_overflowOf ml_L_115 rfl rfl (Nat.le_of_ble_eq_true rfl) ⟨by decide, by decide⟩ (by omega) (by omega) hbz33 rfl (c0_X5_overflowOf N _ _ _ _ _ hzz33) (x_K.some ?_) x_KX.none
          refine x_i2l dL_seen_190 ?_
          refine x_ladd dL_seen_191 ?_
          refine x_lmul dL_seen_192 ?_
          refine x_aload_n 0 dL_seen_193 rfl rfl ?_
          refine x_iload_n 2 dL_seen_194 rfl rfl ?_
          obtain ⟨z36, hzz36, hF⟩ := x_bind hF
          obtain ⟨⟨fsz36, hbz36⟩, hzz36⟩ := x_cv_sp hzz36
          rcases z36 with w37 | e38
          · have hF := x_sel hF
            refine x_callv (As := [.int x3]) (rest := [.long ((31 : Int64) * (((31 : Int64) * (((31 : Int64) * x1) + (w31 : Int32).toInt64)) + (w34 : Int32).toInt64))]) (rc + 0) (rs + 0) dL_seen_195 mi_X5_overflowLeaves ml_L_118 rfl rfl (Nat.le_of_ble_eq_true rfl) ⟨by decide, by decide⟩ (by omega) (by omega) hbz36 rfl (c0_X5_overflowLeaves N _ _ _ _ _ hzz36) (x_K.some ?_) x_KX.none
            refine x_i2l dL_seen_198 ?_
            refine x_ladd dL_seen_199 ?_
            refine x_lstore_n (i := 1) (lv' := [(1, .long (((31 : Int64) * (((31 : Int64) * (((31 : Int64) * x1) + (w31 : Int32).toInt64)) + (w34 : Int32).toInt64)) + (w37 : Int32).toInt64)), (0, .ref c0), (3, .int x3)]) dL_seen_200 rfl (by decide) rfl ?_
            refine x_iconst 0 (by decide) dL_seen_201 ?_
            refine x_istore (i := 4) (lv' := [(4, .int 0), (1, .long (((31 : Int64) * (((31 : Int64) * (((31 : Int64) * x1) + (w31 : Int32).toInt64)) + (w34 : Int32).toInt64)) + (w37 : Int32).toInt64)), (0, .ref c0), (3, .int x3)]) dL_seen_202 (by decide) rfl ?_
            refine x_sub [2, 1, 3, 0] rfl ?_
            refine w_L_seen_L204 N _ _ _ _ _ r _ _ _ hF (fun y1_46 y4_46 hF => ?_)
            refine x_iinc (x3 + 1) (lv' := [(3, .int (x3 + 1)), (0, .ref c0), (1, .long y1_46), (4, .int y4_46)]) dL_seen_235 2 rfl (by rfl) (by decide) rfl ?_
            refine x_goto 158 dL_seen_238 (by decide) ?_
            refine x_sub [1, 2, 0] rfl ?_
            exact ih _ _ hF
          · have hF := x_ser hF
            cases hF
        · have hF := x_ser hF
          cases hF
      · have hF := x_ser hF
        cases hF
set_option maxRecDepth 20000 in
set_option maxHeartbeats 4000000 in
theorem w_L_seen_L243 (N : Nat) (c0 : Nat) (K : Int64 → Int32 → XM → Option (Int64 × XM)) (n : Nat) (r : (Int64 × XM)) {rc rs : Nat} : ∀ (k : Nat) (x1 : Int64) (x3 : Int32) (f : XM), F_L_seen_L243 N c0 K k x1 x3 f = some r → (∀ (x1 : Int64) (x3 : Int32) (f : XM), K x1 x3 f = some r → X mL_seen 8 136 (x_end (xr_lm r n)) x_noRO rc rs 300 [(0, .ref c0), (1, .long x1), (3, .int x3)] [] (f, n)) → X mL_seen 8 136 (x_end (xr_lm r n)) x_noRO rc rs 243 [(0, .ref c0), (1, .long x1), (3, .int x3)] [] (f, n) := by
  intro k
  induction k with
  | zero =>
    intro x1 x3 f hF
    exact absurd hF (by intro h9; cases h9)
  | succ k ih =>
    intro x1 x3 f hF hK
    have ih := fun x1 x3 f hF => ih x1 x3 f hF hK
    rw [F_L_seen_L243] at hF
    refine x_iload_n 2 dL_seen_243 rfl rfl ?_
    refine x_aload_n 0 dL_seen_244 rfl rfl ?_
    obtain ⟨z49, hzz49, hF⟩ := x_bind hF
    obtain ⟨⟨fsz49, hbz49⟩, hzz49⟩ := x_cv_sp hzz49
    refine x_callv (As := []) (rest := [.int x3]) (rc + 0) (rs + 0) dL_seen_245 mi_X5_found ml_L_158 rfl rfl (Nat.le_of_ble_eq_true rfl) ⟨by decide, by decide⟩ (by omega) (by omega) hbz49 rfl (c_X5_found N _ _ _ _ hzz49) (x_K.some ?_) x_KX.none
    refine x_icmp_ge 300 dL_seen_248 (by decide) hF (fun hF => ?_) (fun hF => ?_)
    · refine x_sub [0, 1, 2] rfl ?_
      exact hK _ _ _ hF
    · refine x_ldc2 kc_L_141 dL_seen_251 ?_
      refine x_ldc2 kc_L_141 dL_seen_254 ?_
      refine x_ldc2 kc_L_141 dL_seen_257 ?_
      refine x_lload_n 1 dL_seen_260 rfl rfl ?_
      refine x_lmul dL_seen_261 ?_
      refine x_aload_n 0 dL_seen_262 rfl rfl ?_
      refine x_iload_n 2 dL_seen_263 rfl rfl ?_
      obtain ⟨z50, hzz50, hF⟩ := x_bind hF
      obtain ⟨⟨fsz50, hbz50⟩, hzz50⟩ := x_cv_sp hzz50
      rcases z50 with w51 | e52
      · have hF := x_sel hF
        refine x_callv (As := [.int x3]) (rest := [.long ((31 : Int64) * x1), .long (31 : Int64), .long (31 : Int64)]) (rc + 0) (rs + 0) dL_seen_264 mi_X5_keyAt ml_L_93 rfl rfl (Nat.le_of_ble_eq_true rfl) ⟨by decide, by decide⟩ (by omega) (by omega) hbz50 rfl (c0_X5_keyAt N _ _ _ _ _ hzz50) (x_K.some ?_) x_KX.none
        refine x_i2l dL_seen_267 ?_
        refine x_ladd dL_seen_268 ?_
        refine x_lmul dL_seen_269 ?_
        refine x_aload_n 0 dL_seen_270 rfl rfl ?_
        refine x_aload_n 0 dL_seen_271 rfl rfl ?_
        refine x_iload_n 2 dL_seen_272 rfl rfl ?_
        obtain ⟨z53, hzz53, hF⟩ := x_bind hF
        obtain ⟨⟨fsz53, hbz53⟩, hzz53⟩ := x_cv_sp hzz53
        rcases z53 with w54 | e55
        · have hF := x_sel hF
          refine x_callv (As := [.int x3]) (rest := [.ref c0, .long ((31 : Int64) * (((31 : Int64) * x1) + (w51.1 : Int32).toInt64)), .long (31 : Int64)]) (rc + 0) (rs + 0) dL_seen_273 mi_X5_keyAt ml_L_93 rfl rfl (Nat.le_of_ble_eq_true rfl) ⟨by decide, by decide⟩ (by omega) (by omega) hbz53 rfl (c0_X5_keyAt N _ _ _ _ _ hzz53) (x_K.some ?_) x_KX.none
          obtain ⟨z56, hzz56, hF⟩ := x_bind hF
          obtain ⟨⟨fsz56, hbz56⟩, hzz56⟩ := x_cv_sp hzz56
          rcases z56 with w57 | e58
          · have hF := x_sel hF
            refine x_callv (As := [.int w54.1]) (rest := [.long ((31 : Int64) * (((31 : Int64) * x1) + (w51.1 : Int32).toInt64)), .long (31 : Int64)]) (rc + 0) (rs + 0) dL_seen_276 mi_X5_valueOf ml_L_75 rfl rfl (Nat.le_of_ble_eq_true rfl) ⟨by decide, by decide⟩ (by omega) (by omega) hbz56 rfl (c0_X5_valueOf N _ _ _ _ _ hzz56) (x_K.some ?_) x_KX.none
            refine x_i2l dL_seen_279 ?_
            refine x_ladd dL_seen_280 ?_
            refine x_lmul dL_seen_281 ?_
            refine x_aload_n 0 dL_seen_282 rfl rfl ?_
            refine x_aload_n 0 dL_seen_283 rfl rfl ?_
            refine x_iload_n 2 dL_seen_284 rfl rfl ?_
            obtain ⟨z59, hzz59, hF⟩ := x_bind hF
            obtain ⟨⟨fsz59, hbz59⟩, hzz59⟩ := x_cv_sp hzz59
            rcases z59 with w60 | e61
            · have hF := x_sel hF
              refine x_callv (As := [.int x3]) (rest := [.ref c0, .long ((31 : Int64) * (((31 : Int64) * (((31 : Int64) * x1) + (w51.1 : Int32).toInt64)) + (w57 : Int32).toInt64))]) (rc + 0) (rs + 0) dL_seen_285 mi_X5_keyAt ml_L_93 rfl rfl (Nat.le_of_ble_eq_true rfl) ⟨by decide, by decide⟩ (by omega) (by omega) hbz59 rfl (c0_X5_keyAt N _ _ _ _ _ hzz59) (x_K.some ?_) x_KX.none
              obtain ⟨z62, hzz62, hF⟩ := x_bind hF
              obtain ⟨⟨fsz62, hbz62⟩, hzz62⟩ := x_cv_sp hzz62
              rcases z62 with w63 | e64
              · have hF := x_sel hF
                refine x_callv (As := [.int w60.1]) (rest := [.long ((31 : Int64) * (((31 : Int64) * (((31 : Int64) * x1) + (w51.1 : Int32).toInt64)) + (w57 : Int32).toInt64))]) (rc + 0) (rs + 0) dL_seen_288 mi_X5_pagesFor ml_L_78 rfl rfl (Nat.le_of_ble_eq_true rfl) ⟨by decide, by decide⟩ (by omega) (by omega) hbz62 rfl (c0_X5_pagesFor N _ _ _ _ _ hzz62) (x_K.some ?_) x_KX.none
                refine x_i2l dL_seen_291 ?_
                refine x_ladd dL_seen_292 ?_
                refine x_lstore_n (i := 1) (lv' := [(1, .long (((31 : Int64) * (((31 : Int64) * (((31 : Int64) * x1) + (w51.1 : Int32).toInt64)) + (w57 : Int32).toInt64)) + (w63 : Int32).toInt64)), (0, .ref c0), (3, .int x3)]) dL_seen_293 rfl (by decide) rfl ?_
                refine x_iinc (x3 + 1) (lv' := [(3, .int (x3 + 1)), (1, .long (((31 : Int64) * (((31 : Int64) * (((31 : Int64) * x1) + (w51.1 : Int32).toInt64)) + (w57 : Int32).toInt64)) + (w63 : Int32).toInt64)), (0, .ref c0)]) dL_seen_294 2 rfl (by rfl) (by decide) rfl ?_
                refine x_goto 243 dL_seen_297 (by decide) ?_
                refine x_sub [2, 1, 0] rfl ?_
                exact ih _ _ _ hF
              · have hF := x_ser hF
                cases hF
            · have hF := x_ser hF
              cases hF
          · have hF := x_ser hF
            cases hF
        · have hF := x_ser hF
          cases hF
      · have hF := x_ser hF
        cases hF
set_option maxRecDepth 20000 in
set_option maxHeartbeats 4000000 in
theorem c_L_seen (N : Nat) (f : XM) (p0 : Nat) (n : Nat) (r : (Int64 × XM)) (hF : F_L_seen N f p0 = some r) : x_Ct mL_seen 8 136 0 0 [.ref p0] (f, n) (xr_lm r n) := by
  unfold F_L_seen at hF
  refine x_ct (by decide) rfl (Nat.le_of_ble_eq_true rfl) ?_
  show X mL_seen 8 136 _ _ 0 0 0 [(0, .ref p0)] [] (f, n)
  refine x_ldc2 kc_L_139 dL_seen_0 ?_
  refine x_lstore_n (i := 1) (lv' := [(1, .long (357 : Int64)), (0, .ref p0)]) dL_seen_3 rfl (by decide) rfl ?_
  refine x_ldc2 kc_L_141 dL_seen_4 ?_
  refine x_ldc2 kc_L_141 dL_seen_7 ?_
  refine x_ldc2 kc_L_141 dL_seen_10 ?_
  refine x_ldc2 kc_L_141 dL_seen_13 ?_
  refine x_lload_n 0 dL_seen_16 rfl rfl ?_
  refine x_lmul dL_seen_17 ?_
  refine x_aload_n 1 dL_seen_18 rfl rfl ?_
  obtain ⟨z1, hzz1, hF⟩ := x_bind hF
  obtain ⟨⟨fsz1, hbz1⟩, hzz1⟩ := x_cv_sp hzz1
  refine x_callv (As := []) (rest := [.long ((31 : Int64) * (357 : Int64)), .long (31 : Int64), .long (31 : Int64), .long (31 : Int64)]) 0 0 dL_seen_19 mi_X5_entries ml_L_143 rfl rfl (Nat.le_of_ble_eq_true rfl) ⟨by decide, by decide⟩ (by omega) (by omega) hbz1 rfl (c_X5_entries N _ _ _ _ hzz1) (x_K.some ?_) x_KX.none
  refine x_i2l dL_seen_22 ?_
  refine x_ladd dL_seen_23 ?_
  refine x_lmul dL_seen_24 ?_
  refine x_aload_n 1 dL_seen_25 rfl rfl ?_
  obtain ⟨z2, hzz2, hF⟩ := x_bind hF
  obtain ⟨⟨fsz2, hbz2⟩, hzz2⟩ := x_cv_sp hzz2
  refine x_callv (As := []) (rest := [.long ((31 : Int64) * (((31 : Int64) * (357 : Int64)) + (z1 : Int32).toInt64)), .long (31 : Int64), .long (31 : Int64)]) 0 0 dL_seen_26 mi_X5_leaves ml_L_146 rfl rfl (Nat.le_of_ble_eq_true rfl) ⟨by decide, by decide⟩ (by omega) (by omega) hbz2 rfl (c_X5_leaves N _ _ _ _ hzz2) (x_K.some ?_) x_KX.none
  refine x_i2l dL_seen_29 ?_
  refine x_ladd dL_seen_30 ?_
  refine x_lmul dL_seen_31 ?_
  refine x_aload_n 1 dL_seen_32 rfl rfl ?_
  obtain ⟨z3, hzz3, hF⟩ := x_bind hF
  obtain ⟨⟨fsz3, hbz3⟩, hzz3⟩ := x_cv_sp hzz3
  refine x_callv (As := []) (rest := [.long ((31 : Int64) * (((31 : Int64) * (((31 : Int64) * (357 : Int64)) + (z1 : Int32).toInt64)) + (z2 : Int32).toInt64)), .long (31 : Int64)]) 0 0 dL_seen_33 mi_X5_builds ml_L_149 rfl rfl (Nat.le_of_ble_eq_true rfl) ⟨by decide, by decide⟩ (by omega) (by omega) hbz3 rfl (c_X5_builds N _ _ _ _ hzz3) (x_K.some ?_) x_KX.none
  refine x_i2l dL_seen_36 ?_
  refine x_ladd dL_seen_37 ?_
  refine x_lmul dL_seen_38 ?_
  refine x_aload_n 1 dL_seen_39 rfl rfl ?_
  obtain ⟨z4, hzz4, hF⟩ := x_bind hF
  obtain ⟨⟨fsz4, hbz4⟩, hzz4⟩ := x_cv_sp hzz4
  refine x_callv (As := []) (rest := [.long ((31 : Int64) * (((31 : Int64) * (((31 : Int64) * (((31 : Int64) * (357 : Int64)) + (z1 : Int32).toInt64)) + (z2 : Int32).toInt64)) + (z3 : Int32).toInt64))]) 0 0 dL_seen_40 mi_X5_written ml_L_152 rfl rfl (Nat.le_of_ble_eq_true rfl) ⟨by decide, by decide⟩ (by omega) (by omega) hbz4 rfl (c_X5_written N _ _ _ _ hzz4) (x_K.some ?_) x_KX.none
  refine x_i2l dL_seen_43 ?_
  refine x_ladd dL_seen_44 ?_
  refine x_lstore_n (i := 1) (lv' := [(1, .long (((31 : Int64) * (((31 : Int64) * (((31 : Int64) * (((31 : Int64) * (357 : Int64)) + (z1 : Int32).toInt64)) + (z2 : Int32).toInt64)) + (z3 : Int32).toInt64)) + (z4 : Int32).toInt64)), (0, .ref p0)]) dL_seen_45 rfl (by decide) rfl ?_
  refine x_ldc2 kc_L_141 dL_seen_46 ?_
  refine x_ldc2 kc_L_141 dL_seen_49 ?_
  refine x_lload_n 0 dL_seen_52 rfl rfl ?_
  refine x_lmul dL_seen_53 ?_
  refine x_aload_n 1 dL_seen_54 rfl rfl ?_
  refine x_bipush 100 (by decide) dL_seen_55 ?_
  obtain ⟨z5, hzz5, hF⟩ := x_bind hF
  obtain ⟨⟨fsz5, hbz5⟩, hzz5⟩ := x_cv_sp hzz5
  rcases z5 with w6 | e7
  · have hF := x_sel hF
    refine x_callv (As := [.int 100]) (rest := [.long ((31 : Int64) * (((31 : Int64) * (((31 : Int64) * (((31 : Int64) * (((31 : Int64) * (357 : Int64)) + (z1 : Int32).toInt64)) + (z2 : Int32).toInt64)) + (z3 : Int32).toInt64)) + (z4 : Int32).toInt64)), .long (31 : Int64)]) 0 0 dL_seen_57 mi_X5_leavesIfBuilt ml_L_133 rfl rfl (Nat.le_of_ble_eq_true rfl) ⟨by decide, by decide⟩ (by omega) (by omega) hbz5 rfl (c0_X5_leavesIfBuilt N _ _ _ _ _ hzz5) (x_K.some ?_) x_KX.none
    refine x_i2l dL_seen_60 ?_
    refine x_ladd dL_seen_61 ?_
    refine x_lmul dL_seen_62 ?_
    refine x_aload_n 1 dL_seen_63 rfl rfl ?_
    refine x_bipush 50 (by decide) dL_seen_64 ?_
    obtain ⟨z8, hzz8, hF⟩ := x_bind hF
    obtain ⟨⟨fsz8, hbz8⟩, hzz8⟩ := x_cv_sp hzz8
    rcases z8 with w9 | e10
    · have hF := x_sel hF
      refine x_callv (As := [.int 50]) (rest := [.long ((31 : Int64) * (((31 : Int64) * (((31 : Int64) * (((31 : Int64) * (((31 : Int64) * (((31 : Int64) * (357 : Int64)) + (z1 : Int32).toInt64)) + (z2 : Int32).toInt64)) + (z3 : Int32).toInt64)) + (z4 : Int32).toInt64)) + (w6.1 : Int32).toInt64))]) 0 0 dL_seen_66 mi_X5_levelsIfBuilt ml_L_136 rfl rfl (Nat.le_of_ble_eq_true rfl) ⟨by decide, by decide⟩ (by omega) (by omega) hbz8 rfl (c0_X5_levelsIfBuilt N _ _ _ _ _ hzz8) (x_K.some ?_) x_KX.none
      refine x_i2l dL_seen_69 ?_
      refine x_ladd dL_seen_70 ?_
      refine x_lstore_n (i := 1) (lv' := [(1, .long (((31 : Int64) * (((31 : Int64) * (((31 : Int64) * (((31 : Int64) * (((31 : Int64) * (((31 : Int64) * (357 : Int64)) + (z1 : Int32).toInt64)) + (z2 : Int32).toInt64)) + (z3 : Int32).toInt64)) + (z4 : Int32).toInt64)) + (w6.1 : Int32).toInt64)) + (w9.1 : Int32).toInt64)), (0, .ref p0)]) dL_seen_71 rfl (by decide) rfl ?_
      refine x_iconst 0 (by decide) dL_seen_72 ?_
      refine x_istore_n (i := 3) (lv' := [(3, .int 0), (1, .long (((31 : Int64) * (((31 : Int64) * (((31 : Int64) * (((31 : Int64) * (((31 : Int64) * (((31 : Int64) * (357 : Int64)) + (z1 : Int32).toInt64)) + (z2 : Int32).toInt64)) + (z3 : Int32).toInt64)) + (z4 : Int32).toInt64)) + (w6.1 : Int32).toInt64)) + (w9.1 : Int32).toInt64)), (0, .ref p0)]) dL_seen_73 rfl (by decide) rfl ?_
      refine x_sub [2, 1, 0] rfl ?_
      refine w_L_seen_L74 N _ _ _ _ r _ _ _ hF (fun y1_27 y3_27 hF => ?_)
      refine x_iconst 0 (by decide) dL_seen_156 ?_
      refine x_istore_n (i := 3) (lv' := [(3, .int 0), (0, .ref p0), (1, .long y1_27)]) dL_seen_157 rfl (by decide) rfl ?_
      refine x_sub [1, 2, 0] rfl ?_
      refine w_L_seen_L158 N _ _ _ _ r _ _ _ hF (fun y1_47 y3_47 hF => ?_)
      refine x_iconst 0 (by decide) dL_seen_241 ?_
      refine x_istore_n (i := 3) (lv' := [(3, .int 0), (0, .ref p0), (1, .long y1_47)]) dL_seen_242 rfl (by decide) rfl ?_
      refine x_sub [1, 2, 0] rfl ?_
      refine w_L_seen_L243 N _ _ _ r _ _ _ _ hF (fun y1_65 y3_65 g65 hF => ?_)
      refine x_lload_n 1 dL_seen_300 rfl rfl ?_
      exact x_lret dL_seen_301 rfl (by cases hF; rfl)
    · have hF := x_ser hF
      cases hF
  · have hF := x_ser hF
    cases hF
def F_L_types_L6 (N : Nat) (c0 : Nat) (c1 : Int64) (K : Bool → Int32 → XM → Option (Bool × XM)) : Nat → Bool → Int32 → XM → Option (Bool × XM)
  | 0, _, _, _ => none
  | k + 1, x3, x4, f =>
    if x4 < 0 then
      K x3 x4 f
    else
      if (x_b x3) = 0 then
        F_L_types_L6 N c0 c1 K k false (x4 + (-8)) f
      else
        if (((c1 >>> ((x4 : Int32).toInt64 &&& 63)) &&& (255 : Int64))).toInt32 = 0 then
          F_L_types_L6 N c0 c1 K k true (x4 + (-8)) f
        else
          (x_cv f 5 c0 (F_X5_append N f c0 ((((c1 >>> ((x4 : Int32).toInt64 &&& 63)) &&& (255 : Int64))).toInt32))).bind fun z2 =>
          x_se z2 (fun w3 =>
            if w3.1 ≤ 0 then
              F_L_types_L6 N c0 c1 K k false (x4 + (-8)) w3.2
            else
              F_L_types_L6 N c0 c1 K k true (x4 + (-8)) w3.2)
            (fun e4 => none)
def F_L_types (N : Nat) (f : XM) (p0 : Nat) (p1 : Int64) : Option (Bool × XM) :=
  F_L_types_L6 N p0 p1 (fun y3_5 y4_5 g5 =>
  some (y3_5, g5)) N true 56 f
set_option maxRecDepth 20000 in
set_option maxHeartbeats 4000000 in
theorem w_L_types_L6 (N : Nat) (c0 : Nat) (c1 : Int64) (K : Bool → Int32 → XM → Option (Bool × XM)) (n : Nat) (r : (Bool × XM)) {rc rs : Nat} : ∀ (k : Nat) (x3 : Bool) (x4 : Int32) (f : XM), F_L_types_L6 N c0 c1 K k x3 x4 f = some r → (∀ (x3 : Bool) (x4 : Int32) (f : XM), K x3 x4 f = some r → X mL_types 7 111 (x_end (xr_zm r n)) x_noRO rc rs 52 [(0, .ref c0), (1, .long c1), (3, .int (x_b x3)), (4, .int x4)] [] (f, n)) → X mL_types 7 111 (x_end (xr_zm r n)) x_noRO rc rs 6 [(0, .ref c0), (1, .long c1), (3, .int (x_b x3)), (4, .int x4)] [] (f, n) := by
  intro k
  induction k with
  | zero =>
    intro x3 x4 f hF
    exact absurd hF (by intro h9; cases h9)
  | succ k ih =>
    intro x3 x4 f hF hK
    have ih := fun x3 x4 f hF => ih x3 x4 f hF hK
    rw [F_L_types_L6] at hF
    refine x_iload 3 dL_types_6 rfl ?_
    refine x_if_lt 52 dL_types_8 (by decide) hF (fun hF => ?_) (fun hF => ?_)
    · refine x_sub [0, 1, 2, 3] rfl ?_
      exact hK _ _ _ hF
    · refine x_lload_n 1 dL_types_11 rfl rfl ?_
      refine x_iload 3 dL_types_12 rfl ?_
      refine x_lshr dL_types_14 ?_
      refine x_ldc2 kc_L_237 dL_types_15 ?_
      refine x_land dL_types_18 ?_
      refine x_l2i dL_types_19 ?_
      refine x_istore (i := 5) (lv' := [(5, .int ((((c1 >>> ((x4 : Int32).toInt64 &&& 63)) &&& (255 : Int64))).toInt32)), (0, .ref c0), (1, .long c1), (3, .int (x_b x3)), (4, .int x4)]) dL_types_20 (by decide) rfl ?_
      refine x_iload_n 3 dL_types_22 rfl rfl ?_
      refine x_if_eq 44 dL_types_23 (by decide) hF (fun hF => ?_) (fun hF => ?_)
      · refine x_iconst 0 (by decide) dL_types_44 ?_
        refine x_istore_n (i := 3) (lv' := [(3, .int (x_b false)), (5, .int ((((c1 >>> ((x4 : Int32).toInt64 &&& 63)) &&& (255 : Int64))).toInt32)), (0, .ref c0), (1, .long c1), (4, .int x4)]) dL_types_45 rfl (by decide) rfl ?_
        refine x_iinc (x4 + (-8)) (lv' := [(4, .int (x4 + (-8))), (3, .int (x_b false)), (5, .int ((((c1 >>> ((x4 : Int32).toInt64 &&& 63)) &&& (255 : Int64))).toInt32)), (0, .ref c0), (1, .long c1)]) dL_types_46 4 rfl (by rfl) (by decide) rfl ?_
        refine x_goto 6 dL_types_49 (by decide) ?_
        refine x_sub [3, 4, 1, 0] rfl ?_
        exact ih _ _ _ hF
      · refine x_iload 0 dL_types_26 rfl ?_
        refine x_if_eq 40 dL_types_28 (by decide) hF (fun hF => ?_) (fun hF => ?_)
        · refine x_iconst 1 (by decide) dL_types_40 ?_
          refine x_goto 45 dL_types_41 (by decide) ?_
          refine x_istore_n (i := 3) (lv' := [(3, .int (x_b true)), (5, .int ((((c1 >>> ((x4 : Int32).toInt64 &&& 63)) &&& (255 : Int64))).toInt32)), (0, .ref c0), (1, .long c1), (4, .int x4)]) dL_types_45 rfl (by decide) rfl ?_
          refine x_iinc (x4 + (-8)) (lv' := [(4, .int (x4 + (-8))), (3, .int (x_b true)), (5, .int ((((c1 >>> ((x4 : Int32).toInt64 &&& 63)) &&& (255 : Int64))).toInt32)), (0, .ref c0), (1, .long c1)]) dL_types_46 4 rfl (by rfl) (by decide) rfl ?_
          refine x_goto 6 dL_types_49 (by decide) ?_
          refine x_sub [3, 4, 1, 0] rfl ?_
          exact ih _ _ _ hF
        · refine x_aload_n 1 dL_types_31 rfl rfl ?_
          refine x_iload 0 dL_types_32 rfl ?_
          obtain ⟨z2, hzz2, hF⟩ := x_bind hF
          obtain ⟨⟨fsz2, hbz2⟩, hzz2⟩ := x_cv_sp hzz2
          rcases z2 with w3 | e4
          · have hF := x_sel hF
            refine x_callv (As := [.int ((((c1 >>> ((x4 : Int32).toInt64 &&& 63)) &&& (255 : Int64))).toInt32)]) (rest := []) (rc + 0) (rs + 0) dL_types_34 mi_X5_append ml_L_59 rfl rfl (Nat.le_of_ble_eq_true rfl) ⟨by decide, by decide⟩ (by omega) (by omega) hbz2 rfl (c0_X5_append N _ _ _ _ _ hzz2) (x_K.some ?_) x_KX.none
            refine x_if_le 44 dL_types_37 (by decide) hF (fun hF => ?_) (fun hF => ?_)
            · refine x_iconst 0 (by decide) dL_types_44 ?_
              refine x_istore_n (i := 3) (lv' := [(3, .int (x_b false)), (5, .int ((((c1 >>> ((x4 : Int32).toInt64 &&& 63)) &&& (255 : Int64))).toInt32)), (0, .ref c0), (1, .long c1), (4, .int x4)]) dL_types_45 rfl (by decide) rfl ?_
              refine x_iinc (x4 + (-8)) (lv' := [(4, .int (x4 + (-8))), (3, .int (x_b false)), (5, .int ((((c1 >>> ((x4 : Int32).toInt64 &&& 63)) &&& (255 : Int64))).toInt32)), (0, .ref c0), (1, .long c1)]) dL_types_46 4 rfl (by rfl) (by decide) rfl ?_
              refine x_goto 6 dL_types_49 (by decide) ?_
              refine x_sub [3, 4, 1, 0] rfl ?_
              exact ih _ _ _ hF
            · refine x_iconst 1 (by decide) dL_types_40 ?_
              refine x_goto 45 dL_types_41 (by decide) ?_
              refine x_istore_n (i := 3) (lv' := [(3, .int (x_b true)), (5, .int ((((c1 >>> ((x4 : Int32).toInt64 &&& 63)) &&& (255 : Int64))).toInt32)), (0, .ref c0), (1, .long c1), (4, .int x4)]) dL_types_45 rfl (by decide) rfl ?_
              refine x_iinc (x4 + (-8)) (lv' := [(4, .int (x4 + (-8))), (3, .int (x_b true)), (5, .int ((((c1 >>> ((x4 : Int32).toInt64 &&& 63)) &&& (255 : Int64))).toInt32)), (0, .ref c0), (1, .long c1)]) dL_types_46 4 rfl (by rfl) (by decide) rfl ?_
              refine x_goto 6 dL_types_49 (by decide) ?_
              refine x_sub [3, 4, 1, 0] rfl ?_
              exact ih _ _ _ hF
          · have hF := x_ser hF
            cases hF
set_option maxRecDepth 20000 in
set_option maxHeartbeats 4000000 in
theorem c_L_types (N : Nat) (f : XM) (p0 : Nat) (p1 : Int64) (n : Nat) (r : (Bool × XM)) (hF : F_L_types N f p0 p1 = some r) : x_Ct mL_types 7 111 0 0 [.ref p0, .long p1] (f, n) (xr_zm r n) := by
  unfold F_L_types at hF
  refine x_ct (by decide) rfl (Nat.le_of_ble_eq_true rfl) ?_
  show X mL_types 7 111 _ _ 0 0 0 [(0, .ref p0), (1, .long p1)] [] (f, n)
  refine x_iconst 1 (by decide) dL_types_0 ?_
  refine x_istore_n (i := 3) (lv' := [(3, .int (x_b true)), (0, .ref p0), (1, .long p1)]) dL_types_1 rfl (by decide) rfl ?_
  refine x_bipush 56 (by decide) dL_types_2 ?_
  refine x_istore (i := 4) (lv' := [(4, .int 56), (3, .int (x_b true)), (0, .ref p0), (1, .long p1)]) dL_types_4 (by decide) rfl ?_
  refine x_sub [2, 3, 1, 0] rfl ?_
  refine w_L_types_L6 N _ _ _ _ r _ _ _ _ hF (fun y3_5 y4_5 g5 hF => ?_)
  refine x_iload_n 2 dL_types_52 rfl rfl ?_
  exact x_zret dL_types_53 rfl (x_b_01 y3_5) (by cases hF; rfl)
def F_L_isError (N : Nat) (f : XM) (p0 : Nat) (p1 : Int64) (p2 : Int64) (p3 : Int32) : Option (Bool × XM) :=
  (x_cv f 5 p0 (F_X5_clearBuffer N f p0)).bind fun z1 =>
  if z1.1 < 0 then
    some (false, z1.2)
  else
    (F_L_types N z1.2 p0 p1).bind fun z2 =>
    if (x_b z2.1) = 0 then
      some (false, z2.2)
    else
      (F_L_types N z2.2 p0 p2).bind fun z3 =>
      if (x_b z3.1) = 0 then
        some (false, z3.2)
      else
        (x_cv z3.2 5 p0 (F_X5_firstError N z3.2 p0)).bind fun z4 =>
        if z4.1 = p3 then
          some (true, z4.2)
        else
          some (false, z4.2)
set_option maxRecDepth 20000 in
set_option maxHeartbeats 4000000 in
theorem c_L_isError (N : Nat) (f : XM) (p0 : Nat) (p1 : Int64) (p2 : Int64) (p3 : Int32) (n : Nat) (r : (Bool × XM)) (hF : F_L_isError N f p0 p1 p2 p3 = some r) : x_Ct mL_isError 8 136 0 0 [.ref p0, .long p1, .long p2, .int p3] (f, n) (xr_zm r n) := by
  unfold F_L_isError at hF
  refine x_ct (by decide) rfl (Nat.le_of_ble_eq_true rfl) ?_
  show X mL_isError 8 136 _ _ 0 0 0 [(0, .ref p0), (1, .long p1), (3, .long p2), (5, .int p3)] [] (f, n)
  refine x_aload_n 0 dL_isError_0 rfl rfl ?_
  obtain ⟨z1, hzz1, hF⟩ := x_bind hF
  obtain ⟨⟨fsz1, hbz1⟩, hzz1⟩ := x_cv_sp hzz1
  refine x_callv (As := []) (rest := []) 0 0 dL_isError_1 mi_X5_clearBuffer ml_L_239 rfl rfl (Nat.le_of_ble_eq_true rfl) ⟨by decide, by decide⟩ (by omega) (by omega) hbz1 rfl (c_X5_clearBuffer N _ _ _ _ hzz1) (x_K.some ?_) x_KX.none
  refine x_if_lt 36 dL_isError_4 (by decide) hF (fun hF => ?_) (fun hF => ?_)
  · refine x_iconst 0 (by decide) dL_isError_36 ?_
    exact x_zret dL_isError_37 rfl (Or.inl rfl) (by cases hF; rfl)
  · refine x_aload_n 0 dL_isError_7 rfl rfl ?_
    refine x_lload_n 1 dL_isError_8 rfl rfl ?_
    obtain ⟨z2, hzz2, hF⟩ := x_bind hF
    refine x_calls (As := [.ref p0, .long p1]) (rest := []) 0 0 dL_isError_9 mi_L_types rfl ml_L_242 rfl rfl (Nat.le_of_ble_eq_true rfl) ⟨by decide, by decide⟩ (by omega) (by omega) (c_L_types N _ _ _ _ _ hzz2) (x_K.some ?_) x_KX.none
    refine x_if_eq 36 dL_isError_12 (by decide) hF (fun hF => ?_) (fun hF => ?_)
    · refine x_iconst 0 (by decide) dL_isError_36 ?_
      exact x_zret dL_isError_37 rfl (Or.inl rfl) (by cases hF; rfl)
    · refine x_aload_n 0 dL_isError_15 rfl rfl ?_
      refine x_lload_n 2 dL_isError_16 rfl rfl ?_
      obtain ⟨z3, hzz3, hF⟩ := x_bind hF
      refine x_calls (As := [.ref p0, .long p2]) (rest := []) 0 0 dL_isError_17 mi_L_types rfl ml_L_242 rfl rfl (Nat.le_of_ble_eq_true rfl) ⟨by decide, by decide⟩ (by omega) (by omega) (c_L_types N _ _ _ _ _ hzz3) (x_K.some ?_) x_KX.none
      refine x_if_eq 36 dL_isError_20 (by decide) hF (fun hF => ?_) (fun hF => ?_)
      · refine x_iconst 0 (by decide) dL_isError_36 ?_
        exact x_zret dL_isError_37 rfl (Or.inl rfl) (by cases hF; rfl)
      · refine x_aload_n 0 dL_isError_23 rfl rfl ?_
        obtain ⟨z4, hzz4, hF⟩ := x_bind hF
        obtain ⟨⟨fsz4, hbz4⟩, hzz4⟩ := x_cv_sp hzz4
        refine x_callv (As := []) (rest := []) 0 0 dL_isError_24 mi_X5_firstError ml_L_65 rfl rfl (Nat.le_of_ble_eq_true rfl) ⟨by decide, by decide⟩ (by omega) (by omega) hbz4 rfl (c_X5_firstError N _ _ _ _ hzz4) (x_K.some ?_) x_KX.none
        refine x_iload 3 dL_isError_27 rfl ?_
        refine x_icmp_ne 36 dL_isError_29 (by decide) hF (fun hF => ?_) (fun hF => ?_)
        · refine x_iconst 0 (by decide) dL_isError_36 ?_
          exact x_zret dL_isError_37 rfl (Or.inl rfl) (by cases hF; rfl)
        · refine x_iconst 1 (by decide) dL_isError_32 ?_
          refine x_goto 37 dL_isError_33 (by decide) ?_
          exact x_zret dL_isError_37 rfl (Or.inr rfl) (by cases hF; rfl)
def F_L_drawn (L : Nat) (xs : Nat → Int32) (p0 : Int32) : Option Int32 :=
  if (Int32.ofNat L) = 0 then
    some ((7919 * p0) + 3)
  else
    (x_rem p0 (Int32.ofNat L)).bind fun v1 =>
    (x_sld L xs v1).bind fun v2 =>
    (x_rem p0 7).bind fun v3 =>
    (x_div p0 (Int32.ofNat L)).bind fun v4 =>
    some (((v2 >>> ((v3 : Int32) &&& 31)) ^^^ (v4 * 31)) ^^^ (p0 * 2654435))
set_option maxRecDepth 20000 in
set_option maxHeartbeats 4000000 in
theorem c_L_drawn {b L : Nat} {xs : Nat → Int32} (p0 : Int32) (h : XH) (r : Int32) (hF : F_L_drawn L xs p0 = some r) : x_CtR mL_drawn 0 0 [.ref b, .int p0] h r b L xs := by
  unfold F_L_drawn at hF
  refine x_ctr (by decide) rfl (Nat.le_of_ble_eq_true rfl) ?_
  show X mL_drawn 0 0 _ _ 0 0 0 [(0, .ref b), (1, .int p0)] [] h
  refine x_aload_n 0 dL_drawn_0 rfl rfl ?_
  refine x_slen (L := L) (xs := xs) dL_drawn_1 ?_
  refine x_if_ne 15 dL_drawn_2 (by decide) hF (fun hF => ?_) (fun hF => ?_)
  · refine x_aload_n 0 dL_drawn_15 rfl rfl ?_
    refine x_iload_n 1 dL_drawn_16 rfl rfl ?_
    refine x_aload_n 0 dL_drawn_17 rfl rfl ?_
    refine x_slen (L := L) (xs := xs) dL_drawn_18 ?_
    refine x_irem dL_drawn_19 hF (fun v1 hF => ?_)
    refine x_sld_r dL_drawn_20 hF (fun v2 hF => ?_)
    refine x_iload_n 1 dL_drawn_21 rfl rfl ?_
    refine x_bipush 7 (by decide) dL_drawn_22 ?_
    refine x_irem dL_drawn_24 hF (fun v3 hF => ?_)
    refine x_ishr dL_drawn_25 ?_
    refine x_iload_n 1 dL_drawn_26 rfl rfl ?_
    refine x_aload_n 0 dL_drawn_27 rfl rfl ?_
    refine x_slen (L := L) (xs := xs) dL_drawn_28 ?_
    refine x_idiv dL_drawn_29 hF (fun v4 hF => ?_)
    refine x_bipush 31 (by decide) dL_drawn_30 ?_
    refine x_imul dL_drawn_32 ?_
    refine x_ixor dL_drawn_33 ?_
    refine x_iload_n 1 dL_drawn_34 rfl rfl ?_
    refine x_ldc kc_L_8 dL_drawn_35 ?_
    refine x_imul dL_drawn_37 ?_
    refine x_ixor dL_drawn_38 ?_
    exact x_iret dL_drawn_39 rfl (by cases hF; rfl)
  · refine x_sipush 7919 (by decide) dL_drawn_5 ?_
    refine x_iload_n 1 dL_drawn_8 rfl rfl ?_
    refine x_imul dL_drawn_9 ?_
    refine x_iconst 3 (by decide) dL_drawn_10 ?_
    refine x_iadd dL_drawn_11 ?_
    refine x_goto 39 dL_drawn_12 (by decide) ?_
    exact x_iret dL_drawn_39 rfl (by cases hF; rfl)
