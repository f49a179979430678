/-! law, up to its loop. Laid by wip/p55/gen_lawbody.py. -/
set_option maxRecDepth 20000 in
set_option maxHeartbeats 4000000 in
theorem w_law_29 {N b L : Nat} {xs : Nat → Int32} {Tg : XT} (hN : 50000 ≤ N) (hL : L ≤ 1536) (kk : k_law1 Tg b L xs) (h : XH) {fa : XM} {na : Nat} (wa : k_wd h.2 (h.2 + 71) 0 (k_of k_e0s) [] (fun _ => none) [] fa) (aa : fa (h.2 + 70) = some (.inl (.long, 64, .inr (.inl (fun _ => 0))))) (za : k_Zf h.2 (h.2 + 71) fa fa) : X mL_law 16 630 Tg (x_RD b L xs) 7118 398596 29 [(3, .int 0), (2, .ref (h.2 + 70)), (1, .ref h.2), (0, .ref b)] [] (fa, na) := by
  refine x_aload_n 2 dL_law_29 rfl rfl ?_
  refine x_iconst 5 (by decide) dL_law_30 ?_
  refine x_iconst 1 (by decide) dL_law_31 ?_
  refine x_dom (fun hd1 => ?_)
  obtain ⟨f1, m1, e1, a1, w1⟩ := k_dd0 hN (by omega) wa hd1 (za.le wa hd1) (a := 5) (b := 1) (v := 1) (S' := (k_of LW_0)) wf_0 (k_eqb_sp wf_1)
  have z1 := za.st a1
  replace w1 : k_wd h.2 (h.2 + 71) 1 (k_of LW_0) [(k_of k_e0s)] (fun _ => none) [] f1 := w1
  obtain ⟨fs2, hfs2⟩ := wa.ob
  refine x_callv (As := [.int 5, .int 1]) (rest := []) 7084 396681 dL_law_32 mi_X5_put ml_L_27 rfl rfl (Nat.le_of_ble_eq_true rfl) ⟨by decide, by decide⟩ (by omega) (by omega) hfs2 rfl (c_X5_put N _ _ _ _ _ e1) (x_K.some ?_) x_KX.none
  refine x_toX (st' := [.int 1]) rfl ?_
  clear hd1 e1 a1 hfs2 wa za
  refine x_iconst 1 (by decide) dL_law_35 ?_
  refine x_icmp_ne_n 80 dL_law_36 (by decide) (by decide) ?_
  refine x_aload_n 2 dL_law_39 rfl rfl ?_
  refine x_bipush 9 (by decide) dL_law_40 ?_
  refine x_iconst 2 (by decide) dL_law_42 ?_
  refine x_dom (fun hd3 => ?_)
  obtain ⟨f3, m3, e3, a3, w3⟩ := k_dd0 hN (by omega) w1 hd3 (z1.le w1 hd3) (a := 9) (b := 2) (v := 2) (S' := (k_of LW_1)) wf_2 (k_eqb_sp wf_3)
  have z3 := z1.st a3
  replace w3 : k_wd h.2 (h.2 + 71) 2 (k_of LW_1) [(k_of k_e0s), (k_of LW_0)] (fun _ => none) [] f3 := w3
  obtain ⟨fs4, hfs4⟩ := w1.ob
  refine x_callv (As := [.int 9, .int 2]) (rest := []) 7050 394766 dL_law_43 mi_X5_put ml_L_27 rfl rfl (Nat.le_of_ble_eq_true rfl) ⟨by decide, by decide⟩ (by omega) (by omega) hfs4 rfl (c_X5_put N _ _ _ _ _ e3) (x_K.some ?_) x_KX.none
  refine x_toX (st' := [.int 2]) rfl ?_
  clear hd3 e3 a3 hfs4 w1 z1
  refine x_iconst 2 (by decide) dL_law_46 ?_
  refine x_icmp_ne_n 80 dL_law_47 (by decide) (by decide) ?_
  refine x_aload_n 2 dL_law_50 rfl rfl ?_
  refine x_bipush 100 (by decide) dL_law_51 ?_
  refine x_dom (fun hd5 => ?_)
  obtain ⟨f5, m5, e5, a5, w5⟩ := k_dd4 hN (by omega) w3 hd5 (z3.le w3 hd5) (a := 100) (b := 0) (v := 1) (S' := (k_of LW_2)) ((k_ac4_of (b := 0) wf_4 wf_5 wf_6 w3.gd.1).1.trans (congrArg Sum.inl wf_7)) (k_ac4_of (b := 0) wf_4 wf_5 wf_6 w3.gd.1).2
  have z5 := z3.st a5
  replace w5 : k_wd h.2 (h.2 + 71) 3 (k_of LW_2) [(k_of k_e0s), (k_of LW_0), (k_of LW_1)] (fun _ => none) [] f5 := w5
  obtain ⟨fs6, hfs6⟩ := w3.ob
  refine x_callv (As := [.int 100]) (rest := []) 7017 392857 dL_law_53 mi_X5_build ml_L_44 rfl rfl (Nat.le_of_ble_eq_true rfl) ⟨by decide, by decide⟩ (by omega) (by omega) hfs6 rfl (c_X5_build N _ _ _ _ e5) (x_K.some ?_) x_KX.none
  refine x_toX (st' := [.int 1]) rfl ?_
  clear hd5 e5 a5 hfs6 w3 z3
  refine x_iconst 1 (by decide) dL_law_56 ?_
  refine x_icmp_ne_n 80 dL_law_57 (by decide) (by decide) ?_
  refine x_aload_n 2 dL_law_60 rfl rfl ?_
  refine x_bipush 6 (by decide) dL_law_61 ?_
  refine x_bipush 6 (by decide) dL_law_63 ?_
  refine x_dom (fun hd7 => ?_)
  obtain ⟨f7, m7, e7, a7, w7⟩ := k_dd0 hN (by omega) w5 hd7 (z5.le w5 hd7) (a := 6) (b := 6) (v := 1) (S' := (k_of LW_3)) wf_8 (k_eqb_sp wf_9)
  have z7 := z5.st a7
  replace w7 : k_wd h.2 (h.2 + 71) 4 (k_of LW_3) [(k_of k_e0s), (k_of LW_0), (k_of LW_1), (k_of LW_2)] (fun _ => none) [] f7 := w7
  obtain ⟨fs8, hfs8⟩ := w5.ob
  refine x_callv (As := [.int 6, .int 6]) (rest := []) 6983 390942 dL_law_65 mi_X5_put ml_L_27 rfl rfl (Nat.le_of_ble_eq_true rfl) ⟨by decide, by decide⟩ (by omega) (by omega) hfs8 rfl (c_X5_put N _ _ _ _ _ e7) (x_K.some ?_) x_KX.none
  refine x_toX (st' := [.int 1]) rfl ?_
  clear hd7 e7 a7 hfs8 w5 z5
  refine x_iconst 1 (by decide) dL_law_68 ?_
  refine x_icmp_ne_n 80 dL_law_69 (by decide) (by decide) ?_
  refine x_aload_n 2 dL_law_72 rfl rfl ?_
  refine x_iconst 1 (by decide) dL_law_73 ?_
  refine x_dom (fun hdv8 => ?_)
  obtain ⟨fv8, ev8, av8, wv8⟩ := k_keeps hN w7 hdv8 (z7.le w7 hdv8) 1
  rw [show k_kp 1 = .inl 0 by decide] at ev8 wv8
  have zv8 := z7.st av8
  replace wv8 : k_wd h.2 (h.2 + 71) 4 (k_of LW_3) [(k_of k_e0s), (k_of LW_0), (k_of LW_1), (k_of LW_2)] (k_K1 (k_of LW_3)) [] fv8 := wv8
  refine x_callsH (As := [.ref h.2, .int 1]) (rest := []) 6950 389033 dL_law_74 mi_L_keeps rfl ml_L_185 rfl rfl (Nat.le_of_ble_eq_true rfl) ⟨by decide, by decide⟩ (by omega) (by omega) (c_L_keeps N _ _ _ _ ev8) (fun nv8 => ?_)
  refine x_toX (st' := [.int 0]) rfl ?_
  refine x_if_eq_y 82 dL_law_77 (by decide) (by decide) ?_
  refine x_aload_n 2 dL_law_82 rfl rfl ?_
  obtain ⟨fv9, ev9, av9, wv9⟩ := k_sees hN wv8
  have zv9 := zv8.st av9
  refine x_calls (As := [.ref h.2]) (rest := []) 6950 389033 dL_law_83 mi_L_seen rfl ml_L_304 rfl rfl (Nat.le_of_ble_eq_true rfl) ⟨by decide, by decide⟩ (by omega) (by omega) (c_L_seen N _ _ _ _ ev9) (x_K.some ?_) x_KX.none
  refine x_lstore (i := 4) (lv' := [(4, .long (k_seen (k_of LW_3))), (3, .int 0), (2, .ref (h.2 + 70)), (1, .ref h.2), (0, .ref b)]) dL_law_86 (by decide) rfl ?_
  refine x_iconst 0 (by decide) dL_law_88 ?_
  refine x_istore (i := 6) (lv' := [(6, .int 0), (4, .long (k_seen (k_of LW_3))), (3, .int 0), (2, .ref (h.2 + 70)), (1, .ref h.2), (0, .ref b)]) dL_law_89 (by decide) rfl ?_
  refine x_sub [5, 4, 3, 2, 1, 0] rfl ?_
  exact w_law_91 (x := h.2) (Sk := (k_of LW_3)) (Z := [(k_of k_e0s), (k_of LW_0), (k_of LW_1), (k_of LW_2)]) (H := []) hN hL rfl kk 30 0 (by omega) ⟨(k_of LW_3), _, Nat.le_refl _, wv9, (zv9.2 (h.2 + 70) (Nat.le_refl _) (by omega)).trans aa, fun i s hs => by cases hs⟩
set_option maxRecDepth 20000 in
set_option maxHeartbeats 4000000 in
theorem w_law_14 {N b L : Nat} {xs : Nat → Int32} {Tg : XT} (hN : 50000 ≤ N) (hL : L ≤ 1536) (kk : k_law1 Tg b L xs) (h : XH) : X mL_law 16 630 Tg (x_RD b L xs) 7195 404683 14 [(0, .ref b)] [] h := by
  refine x_new_r (f := fun z => some z) 7194 404674 dL_law_14 cl_L_28 (by omega) (by omega) rfl (fun u1 hu1 => ?_)
  cases hu1
  refine x_dupr dL_law_17 ?_
  obtain ⟨f2, e2, w2, a2⟩ := k_new (N := N) (f := h.1) (x := h.2) (wz := h.2 + 71)
  refine x_calli (As := []) (rest := [.ref h.2]) 7119 398660 dL_law_18 mi_X5_init ml_L_200 rfl rfl (Nat.le_of_ble_eq_true rfl) ⟨by decide, by decide⟩ (by omega) (by omega) (c_X5_init N _ _ _ e2) ?_
  refine x_toX (st' := [.ref h.2]) rfl ?_
  clear e2 a2
  refine x_astore_n (i := 1) (lv' := [(1, .ref h.2), (0, .ref b)]) dL_law_21 rfl (by decide) rfl ?_
  refine x_bipush 64 (by decide) dL_law_22 ?_
  refine x_newl_r (f := fun z => some z) 7118 398596 dL_law_24 ac_long (by omega) (by show 398596 + 64 ≤ _; omega) rfl (fun u3 hu3 => ?_)
  cases hu3
  have w1 := k_wd.frm w2 (f' := x_up f2 (h.2 + 70) (.inl (.long, 64, .inr (.inl (fun _ => 0))))) (fun a ha => x_up_n ha)
  have a1 : x_up f2 (h.2 + 70) (.inl (.long, 64, .inr (.inl (fun _ => 0)))) (h.2 + 70) = _ := x_up_s
  have z1 : k_Zf h.2 (h.2 + 71) (x_up f2 (h.2 + 70) (.inl (.long, 64, .inr (.inl (fun _ => 0))))) (x_up f2 (h.2 + 70) (.inl (.long, 64, .inr (.inl (fun _ => 0))))) := k_Zf.rf (Or.inr ⟨Nat.le_refl _, _, a1⟩)
  refine x_astore_n (i := 2) (lv' := [(2, .ref (h.2 + 70)), (1, .ref h.2), (0, .ref b)]) dL_law_26 rfl (by decide) rfl ?_
  refine x_iconst 0 (by decide) dL_law_27 ?_
  refine x_istore_n (i := 3) (lv' := [(3, .int 0), (2, .ref (h.2 + 70)), (1, .ref h.2), (0, .ref b)]) dL_law_28 rfl (by decide) rfl ?_
  exact w_law_29 hN hL kk h w1 a1 z1
set_option maxRecDepth 20000 in
set_option maxHeartbeats 4000000 in
theorem w_law_0 {N b L : Nat} {xs : Nat → Int32} {Tg : XT} (hN : 50000 ≤ N) (hL : L ≤ 1536) (kk : k_law1 Tg b L xs) (h : XH) : X mL_law 16 630 Tg (x_RD b L xs) 47281 2660782 0 [(0, .ref b)] [] h := by
  obtain ⟨h1, h2⟩ := h
  refine x_callsQ (As := []) (rest := []) 7470 418744 dL_law_0 mi_L_trees rfl ml_L_298 rfl rfl (Nat.le_of_ble_eq_true rfl) ⟨by decide, by decide⟩ (by omega) (by omega) (c_trees hN (h1, h2)) (fun v1 f1 n1 hq1 => ?_)
  obtain rfl := hq1
  refine x_toX (st' := [.int 1]) rfl ?_
  refine x_if_eq_n 12 dL_law_3 (by decide) (by decide) ?_
  refine x_callsQ (As := []) (rest := []) 7195 404683 dL_law_6 mi_L_texts rfl ml_L_301 rfl rfl (Nat.le_of_ble_eq_true rfl) ⟨by decide, by decide⟩ (by omega) (by omega) (c_texts hN (f1, n1)) (fun v2 f2 n2 hq2 => ?_)
  obtain rfl := hq2
  refine x_toX (st' := [.int 1]) rfl ?_
  refine x_if_ne_y 14 dL_law_9 (by decide) (by decide) ?_
  exact w_law_14 hN hL kk (f2, n2)
