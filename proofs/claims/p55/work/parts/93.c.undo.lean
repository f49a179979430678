/-! The law's own method: undoing turn by turn. -/
section LAWC
variable {N b L x c : Nat} {xs : Nat → Int32} {Tg : XT} {Sk : KS}
set_option maxRecDepth 20000 in
set_option maxHeartbeats 4000000 in
theorem w_law_463 (hN : 50000 ≤ N) (kk : k_law1 Tg b L xs) {S : KS} {P : List KS} {f : XM} {n a : Nat} {i j : Int32} (w : k_wd x (x + 71) c S P (k_K1 Sk) [] f) (ha : ∃ e, f (x + 70) = some e) :
    X mL_law 16 630 Tg (x_RD b L xs) 40 1951 463 [(1, .ref x), (2, .ref a), (3, .int i), (4, .long (k_seen Sk)), (6, .int j)] [] (f, n) := by
  refine x_iconst 0 (by decide) dL_law_463 ?_
  refine x_istore (i := 6) (lv' := [(6, .int 0), (1, .ref x), (2, .ref a), (3, .int i), (4, .long (k_seen Sk))]) dL_law_464 (by decide) rfl ?_
  refine x_sub [1, 4, 0] rfl ?_
  exact w_law_B hN kk 6 0 (by omega) w.len w ha
set_option maxRecDepth 20000 in
set_option maxHeartbeats 4000000 in
theorem w_law_A (hN : 50000 ≤ N) (kk : k_law1 Tg b L xs) {Z H G : List KS} {Se : KS} {m : Nat} {g : Nat → Int64} (hG : ∀ t, t < H.length → G[t]? = H[t]?) (hZ : Z.length = 4) (hH : H.length ≤ 30) (hg : ∀ i s, G[i]? = some s → g i = k_seen s) :
    ∀ (t j : Nat) {S : KS} {P : List KS} {f : XM} {n : Nat}, t + j = H.length → G[t]? = some S → P = ((Z ++ H).take (4 + t)).drop m → P.length + j ≤ 6 → k_wd x (x + 71) c S P (k_K1 Sk) [] f → f (x + 70) = some (.inl (.long, 64, .inr (.inl g))) →
    X mL_law 16 630 Tg (x_RD b L xs) (40 + t) (1951 + 6 * t) 405 [(1, .ref x), (2, .ref (x + 70)), (3, .int (nI H.length)), (4, .long (k_seen Sk)), (6, .int (nI j))] [] (f, n) := by
  intro t
  induction t with
  | zero =>
    intro j S P f n htj hS hP hj w ha
    refine x_aload_n 0 dL_law_405 rfl rfl ?_
    obtain ⟨q4, St4, bf4, h4, g4⟩ := w.ci
    have e4 : F_X5_savedStates N f x = some (nI P.length) := q_saved (N := N) h4
    obtain ⟨fs4, hfs4⟩ := w.ob
    refine x_callv (As := []) (rest := []) 40 1951 dL_law_406 mi_X5_savedStates ml_L_164 rfl rfl (Nat.le_of_ble_eq_true rfl) ⟨by decide, by decide⟩ (by omega) (by omega) hfs4 rfl (c_X5_savedStates N _ _ _ _ e4) (x_K.some ?_) x_KX.none
    by_cases z : P.length = 0
    · refine x_if_le_y 463 dL_law_409 (by decide) (by rw [z]; decide) ?_
      exact w_law_463 hN kk w ⟨_, ha⟩
    · refine x_if_le_n 463 dL_law_409 (by decide) (nI_nle (by omega) (by omega)) ?_
      refine x_iload 4 dL_law_412 rfl ?_
      refine x_iload_n 2 dL_law_414 rfl rfl ?_
      refine x_icmp_ge_y 463 dL_law_415 (by decide) (nI_le (by omega) (by omega)) ?_
      exact w_law_463 hN kk w ⟨_, ha⟩
  | succ t ih =>
    intro j S P f n htj hS hP hj w ha
    refine x_aload_n 0 dL_law_405 rfl rfl ?_
    obtain ⟨q4, St4, bf4, h4, g4⟩ := w.ci
    have e4 : F_X5_savedStates N f x = some (nI P.length) := q_saved (N := N) h4
    obtain ⟨fs4, hfs4⟩ := w.ob
    refine x_callv (As := []) (rest := []) (40 + (t + 1)) (1951 + 6 * (t + 1)) dL_law_406 mi_X5_savedStates ml_L_164 rfl rfl (Nat.le_of_ble_eq_true rfl) ⟨by decide, by decide⟩ (by omega) (by omega) hfs4 rfl (c_X5_savedStates N _ _ _ _ e4) (x_K.some ?_) x_KX.none
    by_cases z : P.length = 0
    · refine x_if_le_y 463 dL_law_409 (by decide) (by rw [z]; decide) ?_
      exact x_less (rc' := 40) (rs' := 1951) (by omega) (by omega) (w_law_463 hN kk w ⟨_, ha⟩)
    · refine x_if_le_n 463 dL_law_409 (by decide) (nI_nle (by omega) (by omega)) ?_
      refine x_iload 4 dL_law_412 rfl ?_
      refine x_iload_n 2 dL_law_414 rfl rfl ?_
      refine x_icmp_ge_n 463 dL_law_415 (by decide) (nI_ge (by omega) (by omega)) ?_
      refine x_aload_n 0 dL_law_418 rfl rfl ?_
      refine x_callv (As := []) (rest := []) (40 + (t + 1)) (1951 + 6 * (t + 1)) dL_law_419 mi_X5_savedStates ml_L_164 rfl rfl (Nat.le_of_ble_eq_true rfl) ⟨by decide, by decide⟩ (by omega) (by omega) hfs4 rfl (c_X5_savedStates N _ _ _ _ e4) (x_K.some ?_) x_KX.none
      refine x_istore (i := 7) (lv' := [(7, .int (nI P.length)), (1, .ref x), (2, .ref (x + 70)), (3, .int (nI H.length)), (4, .long (k_seen Sk)), (6, .int (nI j))]) dL_law_422 (by decide) rfl ?_
      refine x_iload 5 dL_law_424 rfl ?_
      refine x_iconst 5 (by decide) dL_law_426 ?_
      refine x_icmp_gt_n 455 dL_law_427 (by decide) (nI_nlt (a := 5) (b := j) (by omega) (by omega)) ?_
      refine x_aload_n 1 dL_law_430 rfl rfl ?_
      obtain ⟨f3, e3, a3, w3⟩ := k_sees hN w
      refine x_calls (As := [.ref x]) (rest := []) (40 + (t + 1)) (1951 + 6 * (t + 1)) dL_law_431 mi_L_seen rfl ml_L_304 rfl rfl (Nat.le_of_ble_eq_true rfl) ⟨by decide, by decide⟩ (by omega) (by omega) (c_L_seen N _ _ _ _ e3) (x_K.some ?_) x_KX.none
      have ha3 : f3 (x + 70) = _ := (a3 (x + 70) (Nat.le_refl _) (by omega)).trans ha
      refine x_aload_n 2 dL_law_434 rfl rfl ?_
      refine x_iload_n 3 dL_law_435 rfl rfl ?_
      refine x_iload 5 dL_law_436 rfl ?_
      refine x_isub dL_law_438 ?_
      have e5 : nI H.length - nI j = nI (t + 1) := by
        rw [← htj, ← nI_add, Int32.add_sub_cancel]
      refine x_aldl_r (f := fun z => if z = k_seen S then some () else none) (w := ()) dL_law_439 (by rw [e5, k_aldl ha3 (by omega), hg _ _ hS, Option.bind_some, if_pos rfl]) (fun v hv => ?_)
      obtain rfl : v = k_seen S := by
        by_cases y : v = k_seen S
        · exact y
        · rw [if_neg y] at hv; cases hv
      refine x_lcmp dL_law_440 ?_
      refine x_if_ne_n 455 dL_law_441 (by decide) (k_lgc _) ?_
      refine x_aload_n 1 dL_law_444 rfl rfl ?_
      have hm : m ≤ 4 + t := by
        rw [hP, List.length_drop, List.length_take] at z
        omega
      have hlt : t < H.length := by omega
      have hs1 : (Z ++ H)[4 + t]? = some H[t] := by
        rw [List.getElem?_append_right (by omega), hZ, Nat.add_sub_cancel_left, List.getElem?_eq_getElem hlt]
      have hP2 : P = ((Z ++ H).take (4 + t)).drop m ++ [H[t]] := hP.trans (k_tk (F := Z ++ H) hs1 hm)
      generalize hQ : ((Z ++ H).take (4 + t)).drop m = Q at hP2
      subst hP2
      have hl : (Q ++ [H[t]]).length = Q.length + 1 := by rw [List.length_append, List.length_singleton]
      obtain ⟨f6, e6, a6, w6⟩ := k_undone_yes (hs := n) hN w3
      refine x_callsH (As := [.ref x]) (rest := []) (40 + t) (1951 + 6 * t) dL_law_445 mi_L_undone rfl ml_L_201 rfl rfl (Nat.le_of_ble_eq_true rfl) ⟨by decide, by decide⟩ (by omega) (by omega) (c_L_undone N _ _ _ e6) (fun n6 => ?_)
      refine x_iload 0 dL_law_448 rfl ?_
      refine x_iconst 1 (by decide) dL_law_450 ?_
      refine x_isub dL_law_451 ?_
      refine x_icmp_eq_y 457 dL_law_452 (by decide) (by rw [hl, nI_pred]) ?_
      refine x_iinc (nI (j + 1)) (lv' := [(6, .int (nI (j + 1))), (7, .int (nI (Q ++ [H[t]]).length)), (1, .ref x), (2, .ref (x + 70)), (3, .int (nI H.length)), (4, .long (k_seen Sk))]) dL_law_457 5 rfl (k_add1 j) (by decide) rfl ?_
      refine x_goto 405 dL_law_460 (by decide) ?_
      refine x_sub [2, 3, 4, 5, 0] rfl ?_
      exact ih (j + 1) (by omega) ((hG t hlt).trans (List.getElem?_eq_getElem hlt)) hQ.symm (by omega) w6 ((a6 (x + 70) (Nat.le_refl _) (by omega)).trans ha3)
set_option maxRecDepth 20000 in
set_option maxHeartbeats 4000000 in
theorem w_law_386 (hN : 50000 ≤ N) (hc : c < 351) (kk : k_law1 Tg b L xs) {Z H : List KS} {Se : KS} {g : Nat → Int64} {f : XM} {n : Nat} {i6 : Int32} (hZ : Z.length = 4) (hH : H.length ≤ 30) (hg : ∀ i s, H[i]? = some s → g i = k_seen s) (w : k_wd x (x + 71) c Se ((Z ++ H).drop ((Z ++ H).length - 6)) (k_K1 Sk) [] f) (ha : f (x + 70) = some (.inl (.long, 64, .inr (.inl g)))) :
    X mL_law 16 630 Tg (x_RD b L xs) 5930 331583 386 [(0, .ref b), (1, .ref x), (2, .ref (x + 70)), (3, .int (nI H.length)), (4, .long (k_seen Sk)), (6, .int i6)] [] (f, n) := by
  refine x_aload_n 2 dL_law_386 rfl rfl ?_
  refine x_iload_n 3 dL_law_387 rfl rfl ?_
  refine x_aload_n 1 dL_law_388 rfl rfl ?_
  obtain ⟨f3, e3, a3, w3⟩ := k_sees hN w
  refine x_calls (As := [.ref x]) (rest := [.int (nI H.length), .ref (x + 70)]) 5930 331583 dL_law_389 mi_L_seen rfl ml_L_304 rfl rfl (Nat.le_of_ble_eq_true rfl) ⟨by decide, by decide⟩ (by omega) (by omega) (c_L_seen N _ _ _ _ e3) (x_K.some ?_) x_KX.none
  have ha3 : f3 (x + 70) = _ := (a3 (x + 70) (Nat.le_refl _) (by omega)).trans ha
  refine x_astl_r (f := fun z => some z) dL_law_392 (by rw [k_astl ha3 (by omega)]; rfl) (fun h1 hh => ?_)
  cases hh
  have w4 := k_wd.frm w3 (f' := x_up f3 (x + 70) (.inl (.long, 64, .inr (.inl (vp_updL g H.length (k_seen Se)))))) (fun a ha => x_up_n ha)
  have ha4 : x_up f3 (x + 70) (.inl (.long, 64, .inr (.inl (vp_updL g H.length (k_seen Se))))) (x + 70) = _ := x_up_s
  generalize x_up f3 (x + 70) (.inl (.long, 64, .inr (.inl (vp_updL g H.length (k_seen Se))))) = f4 at w4 ha4
  refine x_aload_n 1 dL_law_393 rfl rfl ?_
  have z4 : k_Zf x (x + 71) f4 f4 := k_Zf.rf (Or.inr ⟨Nat.le_refl _, _, ha4⟩)
  refine x_callsQ (As := [.ref x]) (rest := []) 70 2131 dL_law_394 mi_L_refused rfl ml_L_215 rfl rfl (Nat.le_of_ble_eq_true rfl) ⟨by decide, by decide⟩ (by omega) (by omega) (c_refused hN hc (f4, n) w4 z4) (fun v5 f5 n5 hq5 => ?_)
  obtain ⟨rfl, w5, z5⟩ := hq5
  have ha5 : f5 (x + 70) = _ := (z5.2 (x + 70) (Nat.le_refl _) (by omega)).trans ha4
  refine x_toX (st' := [.int 1]) rfl ?_
  refine x_if_ne_y 402 dL_law_397 (by decide) (by decide) ?_
  refine x_iconst 0 (by decide) dL_law_402 ?_
  refine x_istore (i := 6) (lv' := [(6, .int 0), (0, .ref b), (1, .ref x), (2, .ref (x + 70)), (3, .int (nI H.length)), (4, .long (k_seen Sk))]) dL_law_403 (by decide) rfl ?_
  refine x_sub [2, 3, 4, 5, 0] rfl ?_
  refine x_less (rc' := 40 + H.length) (rs' := 1951 + 6 * H.length) (by omega) (by omega) ?_
  refine w_law_A (Z := Z) (H := H) (G := H ++ [Se]) (Se := Se) (m := (Z ++ H).length - 6) hN kk (fun t ht => List.getElem?_append_left ht) hZ hH (fun i s hs => ?_) H.length 0 (by omega) ?_ ?_ (by have := w5.len; omega) w5 ha5
  · by_cases z : i < H.length
    · rw [List.getElem?_append_left z] at hs
      show (if i = H.length then k_seen Se else g i) = k_seen s
      rw [if_neg (by omega)]
      exact hg i s hs
    · rw [List.getElem?_append_right (by omega)] at hs
      have hi : i = H.length := by
        have := (List.getElem?_eq_some_iff.mp hs).1
        rw [List.length_singleton] at this
        omega
      subst hi
      rw [Nat.sub_self] at hs
      cases hs
      exact if_pos rfl
  · rw [List.getElem?_append_right (Nat.le_refl _), Nat.sub_self]; rfl
  · rw [List.take_of_length_le (by rw [List.length_append]; omega)]
end LAWC
