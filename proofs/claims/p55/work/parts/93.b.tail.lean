/-! The law's own method, from behind: what is gone back to, what is undone. -/
abbrev mL_law : XMD := (yL_law, cL_law, 14, (some .boolean), [])
def k_K1 (S : KS) : Nat → Option KS := fun i => if i = k_u 1 then some S else none
theorem k_astl {f : XM} {o i : Nat} {g : Nat → Int64} {v : Int64} (h : f o = some (.inl (.long, 64, .inr (.inl g)))) (hi : i < 64) : x_astl f o (nI i) v = some (x_up f o (.inl (.long, 64, .inr (.inl (vp_updL g i v))))) := by
  simp only [x_astl, h]
  rw [if_neg (nI_in hi (by omega)), nI_clamp (by omega)]
theorem k_aldl {f : XM} {o i : Nat} {g : Nat → Int64} (h : f o = some (.inl (.long, 64, .inr (.inl g)))) (hi : i < 64) : x_aldl f o (nI i) = some (g i) := by
  simp only [x_aldl, h]
  rw [if_neg (nI_in hi (by omega)), nI_clamp (by omega)]
theorem k_lastor {α : Type} (P : List α) : P = [] ∨ ∃ Q s, P = Q ++ [s] := by
  rcases List.eq_nil_or_concat P with h | ⟨Q, s, h⟩
  · exact Or.inl h
  · exact Or.inr ⟨Q, s, by rw [h, List.concat_eq_append]⟩
section LAWB
variable {N b L x c : Nat} {xs : Nat → Int32} {Tg : XT} {Sk : KS}
/-- the law's end, with 1 -/
def k_law1 (Tg : XT) (b L : Nat) (xs : Nat → Int32) : Prop := ∀ (lv : List (Nat × Value)) (h : XH), X mL_law 16 630 Tg (x_RD b L xs) 0 0 536 lv [.int 1] h
set_option maxRecDepth 20000 in
set_option maxHeartbeats 4000000 in
theorem w_law_end (hN : 50000 ≤ N) {S : KS} {f : XM} {n : Nat} (w : k_wd x (x + 71) c S [] (k_K1 Sk) [] f) (ha : ∃ e, f (x + 70) = some e) (kk : k_law1 Tg b L xs) : X mL_law 16 630 Tg (x_RD b L xs) 34 1915 495 [(1, .ref x), (4, .long (k_seen Sk))] [] (f, n) := by
  obtain ⟨e0, he0⟩ := ha
  refine x_aload_n 0 dL_law_495 rfl rfl ?_
  have e1 : F_L_undone N (f, n) x = some (-2013, f) := k_undone_no w
  refine x_callsH (As := [.ref x]) (rest := []) 33 1909 dL_law_496 mi_L_undone rfl ml_L_201 rfl rfl (Nat.le_of_ble_eq_true rfl) ⟨by decide, by decide⟩ (by omega) (by omega) (c_L_undone N _ _ _ e1) (fun n1 => ?_)
  refine x_toX (st' := [.int (-2013)]) rfl ?_
  refine x_sipush (-2013) (by decide) dL_law_499 ?_
  refine x_icmp_ne_n 535 dL_law_502 (by decide) (by decide) ?_
  refine x_aload_n 0 dL_law_505 rfl rfl ?_
  refine x_iconst 1 (by decide) dL_law_506 ?_
  refine x_dom (fun hd => ?_)
  have hz : x + 71 ≤ n1 := hd (x + 70) e0 he0
  obtain ⟨f2, e2, a2, w2⟩ := k_back hN w hd hz 1
  rw [show k_bk (k_K1 Sk) 1 = .inl 0 from rfl] at e2 w2
  replace w2 : k_wd x (x + 71) (c + 1) Sk [S] (k_K1 Sk) [] f2 := w2
  refine x_callsH (As := [.ref x, .int 1]) (rest := []) 0 0 dL_law_507 mi_L_back rfl ml_L_189 rfl rfl (Nat.le_of_ble_eq_true rfl) ⟨by decide, by decide⟩ (by omega) (by omega) (c_L_back N _ _ _ _ e2) (fun n2 => ?_)
  refine x_toX (st' := [.int 0]) rfl ?_
  refine x_if_ne_n 535 dL_law_510 (by decide) (by decide) ?_
  refine x_aload_n 0 dL_law_513 rfl rfl ?_
  obtain ⟨f3, e3, a3, w3⟩ := k_sees hN w2
  refine x_calls (As := [.ref x]) (rest := []) 0 0 dL_law_514 mi_L_seen rfl ml_L_304 rfl rfl (Nat.le_of_ble_eq_true rfl) ⟨by decide, by decide⟩ (by omega) (by omega) (c_L_seen N _ _ _ _ e3) (x_K.some ?_) x_KX.none
  refine x_lload 1 dL_law_517 rfl ?_
  refine x_lcmp dL_law_519 ?_
  refine x_if_ne_n 535 dL_law_520 (by decide) (k_lgc _) ?_
  refine x_aload_n 0 dL_law_523 rfl rfl ?_
  obtain ⟨q4, St4, bf4, h4, g4⟩ := w3.ci
  have e4 : F_X5_savedStates N f3 x = some 1 := (q_saved (N := N) h4).trans rfl
  obtain ⟨fs4, hfs4⟩ := w3.ob
  refine x_callv (As := []) (rest := []) 0 0 dL_law_524 mi_X5_savedStates ml_L_164 rfl rfl (Nat.le_of_ble_eq_true rfl) ⟨by decide, by decide⟩ (by omega) (by omega) hfs4 rfl (c_X5_savedStates N _ _ _ _ e4) (x_K.some ?_) x_KX.none
  refine x_iconst 1 (by decide) dL_law_527 ?_
  refine x_icmp_ne_n 535 dL_law_528 (by decide) rfl ?_
  refine x_iconst 1 (by decide) dL_law_531 ?_
  refine x_goto 536 dL_law_532 (by decide) ?_
  exact kk _ _
set_option maxRecDepth 20000 in
set_option maxHeartbeats 4000000 in
theorem w_law_B (hN : 50000 ≤ N) (kk : k_law1 Tg b L xs) : ∀ (d i : Nat) {S : KS} {P : List KS} {f : XM} {n : Nat}, i + d = 6 → P.length ≤ d → k_wd x (x + 71) c S P (k_K1 Sk) [] f → (∃ e, f (x + 70) = some e) →
    X mL_law 16 630 Tg (x_RD b L xs) (34 + d) (1915 + 6 * d) 466 [(1, .ref x), (4, .long (k_seen Sk)), (6, .int (nI i))] [] (f, n) := by
  intro d
  induction d with
  | zero =>
    intro i S P f n hi hP w ha
    obtain rfl : i = 6 := by omega
    obtain rfl : P = [] := List.eq_nil_of_length_eq_zero (by omega)
    refine x_iload 2 dL_law_466 rfl ?_
    refine x_bipush 6 (by decide) dL_law_468 ?_
    refine x_icmp_ge_y 495 dL_law_470 (by decide) (by decide) ?_
    refine x_sub [0, 1] rfl ?_
    exact w_law_end hN w ha kk
  | succ d ih =>
    intro i S P f n hi hP w ha
    refine x_iload 2 dL_law_466 rfl ?_
    refine x_bipush 6 (by decide) dL_law_468 ?_
    refine x_icmp_ge_n 495 dL_law_470 (by decide) (nI_ge (a := i) (b := 6) (by omega) (by omega)) ?_
    refine x_aload_n 0 dL_law_473 rfl rfl ?_
    obtain ⟨q4, St4, bf4, h4, g4⟩ := w.ci
    have e4 : F_X5_savedStates N f x = some (nI P.length) := q_saved (N := N) h4
    obtain ⟨fs4, hfs4⟩ := w.ob
    refine x_callv (As := []) (rest := []) (34 + (d + 1)) (1915 + 6 * (d + 1)) dL_law_474 mi_X5_savedStates ml_L_164 rfl rfl (Nat.le_of_ble_eq_true rfl) ⟨by decide, by decide⟩ (by omega) (by omega) hfs4 rfl (c_X5_savedStates N _ _ _ _ e4) (x_K.some ?_) x_KX.none
    rcases k_lastor P with rfl | ⟨Q, s, rfl⟩
    · refine x_if_le_y 495 dL_law_477 (by decide) (by decide) ?_
      refine x_sub [0, 1] rfl ?_
      exact x_less (rc' := 34) (rs' := 1915) (by omega) (by omega) (w_law_end hN w ha kk)
    · rw [List.length_append, List.length_singleton] at hP
      have hl : (Q ++ [s]).length = Q.length + 1 := by rw [List.length_append, List.length_singleton]
      refine x_if_le_n 495 dL_law_477 (by decide) (by rw [hl]; exact nI_nle (by omega) (by omega)) ?_
      refine x_aload_n 0 dL_law_480 rfl rfl ?_
      obtain ⟨f2, e2, a2, w2⟩ := k_undone_yes (hs := n) hN w
      refine x_callsH (As := [.ref x]) (rest := []) (34 + d) (1915 + 6 * d) dL_law_481 mi_L_undone rfl ml_L_201 rfl rfl (Nat.le_of_ble_eq_true rfl) ⟨by decide, by decide⟩ (by omega) (by omega) (c_L_undone N _ _ _ e2) (fun n2 => ?_)
      refine x_if_ge_y 489 dL_law_484 (by decide) (nI_pos' (by omega)) ?_
      refine x_iinc (nI (i + 1)) (lv' := [(6, .int (nI (i + 1))), (1, .ref x), (4, .long (k_seen Sk))]) dL_law_489 2 rfl (k_add1 i) (by decide) rfl ?_
      refine x_goto 466 dL_law_492 (by decide) ?_
      refine x_sub [1, 2, 0] rfl ?_
      exact ih (i + 1) (by omega) (by omega) w2 (by obtain ⟨e, he⟩ := ha; exact ⟨e, (a2 _ (Nat.le_refl _) (by omega)).trans he⟩)
end LAWB
