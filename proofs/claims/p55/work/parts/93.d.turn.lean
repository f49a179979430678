/-! The law's own method: one turn of its loop, and its loop. -/
/-- what a call does to the world, and what it answers -/
def k_post (x c : Nat) (Sk S : KS) (P : List KS) (done : Int32) (f : XM) : Prop := (¬ (-1999 : Int32) ≤ done ∧ k_wd x (x + 71) (c + 1) S P (k_K1 Sk) [] f) ∨ ((-1999 : Int32) ≤ done ∧ ∃ S', k_wd x (x + 71) (c + 1) S' (k_sv P S) (k_K1 Sk) [] f)
theorem k_post_ac {x c w : Nat} {Sk S : KS} {P : List KS} {a b : Int32} {f : XM} (hg : k_gd c S) (hw : w < 9) (h : k_wd x (x + 71) (c + 1) (k_pick (k_ac w S a b).1 (k_ac w S a b).2 S) (k_pick (k_ac w S a b).1 (k_sv P S) P) (k_K1 Sk) [] f) : k_post x c Sk S P (k_iv (k_ac w S a b).1) f := by
  have ok := k_ac_ok w S a b hw
  have nn := fun v => k_ac_nn (v := v) (a := a) (b := b) hg hw
  generalize k_ac w S a b = A at h ok nn
  obtain ⟨A, S'⟩ := A
  match A, ok with
  | .inl v, _ => exact Or.inr ⟨Int32.le_iff_toInt_le.mpr (show (-1999 : Int32).toInt ≤ v.toInt from nn v rfl), S', h⟩
  | .inr 0, _ => exact Or.inl ⟨by show ¬ (-1999 : Int32) ≤ -2012; decide, h⟩
  | .inr 1, _ => exact Or.inl ⟨by show ¬ (-1999 : Int32) ≤ -2013; decide, h⟩
  | .inr 2, _ => exact Or.inl ⟨by show ¬ (-1999 : Int32) ≤ -2011; decide, h⟩
  | .inr (n + 3), ok => exact absurd (show n + 3 < 3 from ok) (by omega)
/-- what holds before a turn: H is what was undone from then on -/
def k_LI (x : Nat) (Sk : KS) (Z : List KS) (k : Nat) (H : List KS) (f : XM) : Prop := ∃ (S : KS) (g : Nat → Int64), H.length ≤ k ∧ k_wd x (x + 71) (4 + k) S ((Z ++ H).drop ((Z ++ H).length - 6)) (k_K1 Sk) [] f ∧ f (x + 70) = some (.inl (.long, 64, .inr (.inl g))) ∧ ∀ i s, H[i]? = some s → g i = k_seen s
section LAWD
variable {N b L x : Nat} {xs : Nat → Int32} {Tg : XT} {Sk : KS} {Z : List KS}
set_option maxRecDepth 20000 in
set_option maxHeartbeats 4000000 in
theorem w_law_323 (hN : 50000 ≤ N) {k rc rs : Nat} {H : List KS} {S : KS} {g : Nat → Int64} {f : XM} {n : Nat} {done v7 v8 v10 v11 : Int32} (hk : k < 30) (hH : H.length ≤ k) (hg : ∀ i s, (H ++ [S])[i]? = some s → g i = k_seen s) (ha : f (x + 70) = some (.inl (.long, 64, .inr (.inl g)))) (hp : k_post x (4 + k) Sk S ((Z ++ H).drop ((Z ++ H).length - 6)) done f)
    (kk : ∀ (H' : List KS) (f' : XM) (n' : Nat), k_LI x Sk Z (k + 1) H' f' → X mL_law 16 630 Tg (x_RD b L xs) rc rs 91 [(0, .ref b), (1, .ref x), (2, .ref (x + 70)), (3, .int (nI H'.length)), (4, .long (k_seen Sk)), (6, .int (nI (k + 1)))] [] (f', n')) :
    X mL_law 16 630 Tg (x_RD b L xs) rc rs 323 [(11, .int v11), (10, .int v10), (9, .int (nI ((Z ++ H).drop ((Z ++ H).length - 6)).length)), (8, .int v8), (7, .int v7), (0, .ref b), (1, .ref x), (2, .ref (x + 70)), (3, .int (nI H.length)), (4, .long (k_seen Sk)), (6, .int (nI k))] [.int done] (f, n) := by
  refine x_istore (i := 12) (lv' := [(12, .int done), (11, .int v11), (10, .int v10), (9, .int (nI ((Z ++ H).drop ((Z ++ H).length - 6)).length)), (8, .int v8), (7, .int v7), (0, .ref b), (1, .ref x), (2, .ref (x + 70)), (3, .int (nI H.length)), (4, .long (k_seen Sk)), (6, .int (nI k))]) dL_law_323 (by decide) rfl ?_
  refine x_sub [6, 7, 8, 9, 10, 11, 3, 0] rfl ?_
  refine x_iload 7 dL_law_325 rfl ?_
  refine x_sipush (-1999) (by decide) dL_law_327 ?_
  rcases hp with ⟨hd, w⟩ | ⟨hd, S', w⟩
  · refine x_icmp_ge_n 337 dL_law_330 (by decide) hd ?_
    refine x_iconst 1 (by decide) dL_law_333 ?_
    refine x_goto 338 dL_law_334 (by decide) ?_
    refine x_istore (i := 13) (lv' := [(13, .int 1), (0, .ref b), (1, .ref x), (2, .ref (x + 70)), (3, .int (nI H.length)), (4, .long (k_seen Sk)), (6, .int (nI k)), (9, .int (nI ((Z ++ H).drop ((Z ++ H).length - 6)).length)), (12, .int done)]) dL_law_338 (by decide) rfl ?_
    refine x_iload 0 dL_law_340 rfl ?_
    refine x_if_eq_n 367 dL_law_342 (by decide) (by decide) ?_
    refine x_aload_n 2 dL_law_345 rfl rfl ?_
    obtain ⟨q4, St4, bf4, h4, g4⟩ := w.ci
    have e4 : F_X5_savedStates N f x = some (nI ((Z ++ H).drop ((Z ++ H).length - 6)).length) := q_saved (N := N) h4
    obtain ⟨fs4, hfs4⟩ := w.ob
    refine x_callv (As := []) (rest := []) rc rs dL_law_346 mi_X5_savedStates ml_L_164 rfl rfl (Nat.le_of_ble_eq_true rfl) ⟨by decide, by decide⟩ (by omega) (by omega) hfs4 rfl (c_X5_savedStates N _ _ _ _ e4) (x_K.some ?_) x_KX.none
    refine x_iload 7 dL_law_349 rfl ?_
    refine x_icmp_ne_n 365 dL_law_351 (by decide) rfl ?_
    refine x_aload_n 2 dL_law_354 rfl rfl ?_
    obtain ⟨f3, e3, a3, w3⟩ := k_sees hN w
    have ha3 : f3 (x + 70) = _ := (a3 (x + 70) (Nat.le_refl _) (by omega)).trans ha
    refine x_calls (As := [.ref x]) (rest := []) rc rs dL_law_355 mi_L_seen rfl ml_L_304 rfl rfl (Nat.le_of_ble_eq_true rfl) ⟨by decide, by decide⟩ (by omega) (by omega) (c_L_seen N _ _ _ _ e3) (x_K.some ?_) x_KX.none
    refine x_aload_n 3 dL_law_358 rfl rfl ?_
    refine x_iload_n 4 dL_law_359 rfl rfl ?_
    refine x_aldl_r (f := fun z => if z = k_seen S then some () else none) (w := ()) dL_law_360 (by rw [k_aldl ha3 (by omega), hg H.length S (by rw [List.getElem?_append_right (Nat.le_refl _), Nat.sub_self]; rfl), Option.bind_some, if_pos rfl]) (fun v hv => ?_)
    obtain rfl : v = k_seen S := by
      by_cases y : v = k_seen S
      · exact y
      · rw [if_neg y] at hv; cases hv
    refine x_lcmp dL_law_361 ?_
    refine x_if_eq_y 367 dL_law_362 (by decide) (k_lgc _) ?_
    refine x_iload_n 4 dL_law_367 rfl rfl ?_
    refine x_iload 0 dL_law_368 rfl ?_
    refine x_if_eq_n 377 dL_law_370 (by decide) (by decide) ?_
    refine x_iconst 0 (by decide) dL_law_373 ?_
    refine x_goto 378 dL_law_374 (by decide) ?_
    refine x_iadd dL_law_378 ?_
    refine x_istore_n (i := 3) (lv' := [(3, .int (nI H.length)), (13, .int 1), (0, .ref b), (1, .ref x), (2, .ref (x + 70)), (4, .long (k_seen Sk)), (6, .int (nI k)), (9, .int (nI ((Z ++ H).drop ((Z ++ H).length - 6)).length)), (12, .int done)]) dL_law_379 rfl (by decide) (by rw [show nI H.length + 0 = nI H.length from nI_add H.length 0]; rfl) ?_
    refine x_iinc (nI (k + 1)) (lv' := [(6, .int (nI (k + 1))), (3, .int (nI H.length)), (13, .int 1), (0, .ref b), (1, .ref x), (2, .ref (x + 70)), (4, .long (k_seen Sk)), (9, .int (nI ((Z ++ H).drop ((Z ++ H).length - 6)).length)), (12, .int done)]) dL_law_380 6 rfl (k_add1 k) (by decide) rfl ?_
    refine x_goto 91 dL_law_383 (by decide) ?_
    refine x_sub [3, 4, 5, 1, 6, 0] rfl ?_
    exact kk H f3 _ ⟨S, g, by omega, w3, ha3, fun i s hs => hg i s (by rw [List.getElem?_append_left (List.getElem?_eq_some_iff.mp hs).1]; exact hs)⟩
  · refine x_icmp_ge_y 337 dL_law_330 (by decide) hd ?_
    refine x_iconst 0 (by decide) dL_law_337 ?_
    refine x_istore (i := 13) (lv' := [(13, .int 0), (0, .ref b), (1, .ref x), (2, .ref (x + 70)), (3, .int (nI H.length)), (4, .long (k_seen Sk)), (6, .int (nI k)), (9, .int (nI ((Z ++ H).drop ((Z ++ H).length - 6)).length)), (12, .int done)]) dL_law_338 (by decide) rfl ?_
    refine x_iload 0 dL_law_340 rfl ?_
    refine x_if_eq_y 367 dL_law_342 (by decide) (by decide) ?_
    refine x_iload_n 4 dL_law_367 rfl rfl ?_
    refine x_iload 0 dL_law_368 rfl ?_
    refine x_if_eq_y 377 dL_law_370 (by decide) (by decide) ?_
    refine x_iconst 1 (by decide) dL_law_377 ?_
    refine x_iadd dL_law_378 ?_
    have hl : (H ++ [S]).length = H.length + 1 := by rw [List.length_append, List.length_singleton]
    refine x_istore_n (i := 3) (lv' := [(3, .int (nI (H ++ [S]).length)), (13, .int 0), (0, .ref b), (1, .ref x), (2, .ref (x + 70)), (4, .long (k_seen Sk)), (6, .int (nI k)), (9, .int (nI ((Z ++ H).drop ((Z ++ H).length - 6)).length)), (12, .int done)]) dL_law_379 rfl (by decide) (by rw [show nI H.length + 1 = nI (H ++ [S]).length by rw [hl, k_add1]]; rfl) ?_
    refine x_iinc (nI (k + 1)) (lv' := [(6, .int (nI (k + 1))), (3, .int (nI (H ++ [S]).length)), (13, .int 0), (0, .ref b), (1, .ref x), (2, .ref (x + 70)), (4, .long (k_seen Sk)), (9, .int (nI ((Z ++ H).drop ((Z ++ H).length - 6)).length)), (12, .int done)]) dL_law_380 6 rfl (k_add1 k) (by decide) rfl ?_
    refine x_goto 91 dL_law_383 (by decide) ?_
    refine x_sub [3, 4, 5, 1, 6, 0] rfl ?_
    refine kk (H ++ [S]) f _ ⟨S', g, by omega, ?_, ha, hg⟩
    rw [k_sv_drop] at w
    rw [← List.append_assoc, List.length_append, List.length_singleton]
    exact w
set_option maxRecDepth 20000 in
set_option maxHeartbeats 8000000 in
theorem w_law_151 (hN : 50000 ≤ N) {k rc rs : Nat} {H : List KS} {S : KS} {g : Nat → Int64} {f : XM} {n : Nat} {v7 v8 v10 v11 : Int32} (hk : k < 30) (hH : H.length ≤ k) (hg : ∀ i s, (H ++ [S])[i]? = some s → g i = k_seen s) (ha : f (x + 70) = some (.inl (.long, 64, .inr (.inl g)))) (w : k_wd x (x + 71) (4 + k) S ((Z ++ H).drop ((Z ++ H).length - 6)) (k_K1 Sk) [] f)
    (kk : ∀ (H' : List KS) (f' : XM) (n' : Nat), k_LI x Sk Z (k + 1) H' f' → X mL_law 16 630 Tg (x_RD b L xs) rc rs 91 [(0, .ref b), (1, .ref x), (2, .ref (x + 70)), (3, .int (nI H'.length)), (4, .long (k_seen Sk)), (6, .int (nI (k + 1)))] [] (f', n')) :
    X mL_law 16 630 Tg (x_RD b L xs) (rc + 34) (rs + 1915) 151 [(11, .int v11), (10, .int v10), (9, .int (nI ((Z ++ H).drop ((Z ++ H).length - 6)).length)), (8, .int v8), (7, .int v7), (0, .ref b), (1, .ref x), (2, .ref (x + 70)), (3, .int (nI H.length)), (4, .long (k_seen Sk)), (6, .int (nI k))] [] (f, n) := by
  refine x_dom (fun hd => ?_)
  have hz : x + 71 ≤ n := hd (x + 70) _ ha
  have hc : 4 + k < 351 := by omega
  refine x_iload 3 dL_law_151 rfl ?_
  refine x_iconst 5 (by decide) dL_law_153 ?_
  by_cases c0 : (5 : Int32) ≤ v8
  rotate_left
  · refine x_icmp_ge_n 169 dL_law_154 (by decide) c0 ?_
    refine x_aload_n 6 dL_law_157 rfl rfl ?_
    refine x_iconst 0 (by decide) dL_law_158 ?_
    refine x_iload 1 dL_law_159 rfl ?_
    refine x_iload 0 dL_law_161 rfl ?_
    obtain ⟨f9, e9, a9, w9⟩ := k_cl0 hN w hc hd hz v10 v11
    refine x_callsH (As := [.ref x, .int 0, .int v10, .int v11]) (rest := []) rc rs dL_law_163 mi_L_call rfl ml_L_182 rfl rfl (Nat.le_of_ble_eq_true rfl) ⟨by decide, by decide⟩ (by omega) (by omega) (c_L_call N _ _ _ _ _ _ e9) (fun n9 => ?_)
    refine x_goto 323 dL_law_166 (by decide) ?_
    exact w_law_323 hN hk hH hg ((a9 (x + 70) (Nat.le_refl _) (by omega)).trans ha) (k_post_ac w.gd (by omega) w9) kk
  refine x_icmp_ge_y 169 dL_law_154 (by decide) c0 ?_
  refine x_iload 3 dL_law_169 rfl ?_
  refine x_bipush 7 (by decide) dL_law_171 ?_
  by_cases c1 : (7 : Int32) ≤ v8
  rotate_left
  · refine x_icmp_ge_n 187 dL_law_173 (by decide) c1 ?_
    refine x_aload_n 6 dL_law_176 rfl rfl ?_
    refine x_iconst 1 (by decide) dL_law_177 ?_
    refine x_iload 1 dL_law_178 rfl ?_
    refine x_iconst 0 (by decide) dL_law_180 ?_
    obtain ⟨f9, e9, a9, w9⟩ := k_cl1 hN w hc hd hz v10 0
    refine x_callsH (As := [.ref x, .int 1, .int v10, .int 0]) (rest := []) rc rs dL_law_181 mi_L_call rfl ml_L_182 rfl rfl (Nat.le_of_ble_eq_true rfl) ⟨by decide, by decide⟩ (by omega) (by omega) (c_L_call N _ _ _ _ _ _ e9) (fun n9 => ?_)
    refine x_goto 323 dL_law_184 (by decide) ?_
    exact w_law_323 hN hk hH hg ((a9 (x + 70) (Nat.le_refl _) (by omega)).trans ha) (k_post_ac w.gd (by omega) w9) kk
  refine x_icmp_ge_y 187 dL_law_173 (by decide) c1 ?_
  refine x_iload 3 dL_law_187 rfl ?_
  refine x_bipush 9 (by decide) dL_law_189 ?_
  by_cases c2 : (9 : Int32) ≤ v8
  rotate_left
  · refine x_icmp_ge_n 204 dL_law_191 (by decide) c2 ?_
    refine x_aload_n 6 dL_law_194 rfl rfl ?_
    refine x_iconst 2 (by decide) dL_law_195 ?_
    refine x_iconst 0 (by decide) dL_law_196 ?_
    refine x_iconst 0 (by decide) dL_law_197 ?_
    obtain ⟨f9, e9, a9, w9⟩ := k_cl2 hN w hc hd hz 0 0
    refine x_callsH (As := [.ref x, .int 2, .int 0, .int 0]) (rest := []) rc rs dL_law_198 mi_L_call rfl ml_L_182 rfl rfl (Nat.le_of_ble_eq_true rfl) ⟨by decide, by decide⟩ (by omega) (by omega) (c_L_call N _ _ _ _ _ _ e9) (fun n9 => ?_)
    refine x_goto 323 dL_law_201 (by decide) ?_
    exact w_law_323 hN hk hH hg ((a9 (x + 70) (Nat.le_refl _) (by omega)).trans ha) (k_post_ac w.gd (by omega) w9) kk
  refine x_icmp_ge_y 204 dL_law_191 (by decide) c2 ?_
  refine x_iload 3 dL_law_204 rfl ?_
  refine x_bipush 9 (by decide) dL_law_206 ?_
  by_cases c3 : ¬ v8 = 9
  rotate_left
  · refine x_icmp_ne_n 221 dL_law_208 (by decide) (Classical.not_not.mp c3) ?_
    refine x_aload_n 6 dL_law_211 rfl rfl ?_
    refine x_iconst 3 (by decide) dL_law_212 ?_
    refine x_iconst 0 (by decide) dL_law_213 ?_
    refine x_iconst 0 (by decide) dL_law_214 ?_
    obtain ⟨f9, e9, a9, w9⟩ := k_cl3 hN w hc hd hz 0 0
    refine x_callsH (As := [.ref x, .int 3, .int 0, .int 0]) (rest := []) rc rs dL_law_215 mi_L_call rfl ml_L_182 rfl rfl (Nat.le_of_ble_eq_true rfl) ⟨by decide, by decide⟩ (by omega) (by omega) (c_L_call N _ _ _ _ _ _ e9) (fun n9 => ?_)
    refine x_goto 323 dL_law_218 (by decide) ?_
    exact w_law_323 hN hk hH hg ((a9 (x + 70) (Nat.le_refl _) (by omega)).trans ha) (k_post_ac w.gd (by omega) w9) kk
  refine x_icmp_ne_y 221 dL_law_208 (by decide) c3 ?_
  refine x_iload 3 dL_law_221 rfl ?_
  refine x_bipush 10 (by decide) dL_law_223 ?_
  by_cases c4 : ¬ v8 = 10
  rotate_left
  · refine x_icmp_ne_n 242 dL_law_225 (by decide) (Classical.not_not.mp c4) ?_
    refine x_aload_n 6 dL_law_228 rfl rfl ?_
    refine x_iconst 4 (by decide) dL_law_229 ?_
    refine x_bipush 45 (by decide) dL_law_230 ?_
    refine x_iload 0 dL_law_232 rfl ?_
    refine x_iadd dL_law_234 ?_
    refine x_iconst 0 (by decide) dL_law_235 ?_
    obtain ⟨f9, e9, a9, w9⟩ := k_cl4 hN w hc hd hz (45 + v11) 0
    refine x_callsH (As := [.ref x, .int 4, .int (45 + v11), .int 0]) (rest := []) rc rs dL_law_236 mi_L_call rfl ml_L_182 rfl rfl (Nat.le_of_ble_eq_true rfl) ⟨by decide, by decide⟩ (by omega) (by omega) (c_L_call N _ _ _ _ _ _ e9) (fun n9 => ?_)
    refine x_goto 323 dL_law_239 (by decide) ?_
    exact w_law_323 hN hk hH hg ((a9 (x + 70) (Nat.le_refl _) (by omega)).trans ha) (k_post_ac w.gd (by omega) w9) kk
  refine x_icmp_ne_y 242 dL_law_225 (by decide) c4 ?_
  refine x_iload 3 dL_law_242 rfl ?_
  refine x_bipush 20 (by decide) dL_law_244 ?_
  by_cases c5 : (20 : Int32) ≤ v8
  rotate_left
  · refine x_icmp_ge_n 261 dL_law_246 (by decide) c5 ?_
    refine x_aload_n 6 dL_law_249 rfl rfl ?_
    refine x_iconst 5 (by decide) dL_law_250 ?_
    refine x_iload 1 dL_law_251 rfl ?_
    refine x_iload 0 dL_law_253 rfl ?_
    obtain ⟨f9, e9, a9, w9⟩ := k_cl5 hN w hc hd hz v10 v11
    refine x_callsH (As := [.ref x, .int 5, .int v10, .int v11]) (rest := []) rc rs dL_law_255 mi_L_call rfl ml_L_182 rfl rfl (Nat.le_of_ble_eq_true rfl) ⟨by decide, by decide⟩ (by omega) (by omega) (c_L_call N _ _ _ _ _ _ e9) (fun n9 => ?_)
    refine x_goto 323 dL_law_258 (by decide) ?_
    exact w_law_323 hN hk hH hg ((a9 (x + 70) (Nat.le_refl _) (by omega)).trans ha) (k_post_ac w.gd (by omega) w9) kk
  refine x_icmp_ge_y 261 dL_law_246 (by decide) c5 ?_
  refine x_iload 3 dL_law_261 rfl ?_
  refine x_bipush 23 (by decide) dL_law_263 ?_
  by_cases c6 : (23 : Int32) ≤ v8
  rotate_left
  · refine x_icmp_ge_n 280 dL_law_265 (by decide) c6 ?_
    refine x_aload_n 6 dL_law_268 rfl rfl ?_
    refine x_bipush 6 (by decide) dL_law_269 ?_
    refine x_iload 1 dL_law_271 rfl ?_
    refine x_iconst 0 (by decide) dL_law_273 ?_
    obtain ⟨f9, e9, a9, w9⟩ := k_cl6 hN w hc hd hz v10 0
    refine x_callsH (As := [.ref x, .int 6, .int v10, .int 0]) (rest := []) rc rs dL_law_274 mi_L_call rfl ml_L_182 rfl rfl (Nat.le_of_ble_eq_true rfl) ⟨by decide, by decide⟩ (by omega) (by omega) (c_L_call N _ _ _ _ _ _ e9) (fun n9 => ?_)
    refine x_goto 323 dL_law_277 (by decide) ?_
    exact w_law_323 hN hk hH hg ((a9 (x + 70) (Nat.le_refl _) (by omega)).trans ha) (k_post_ac w.gd (by omega) w9) kk
  refine x_icmp_ge_y 280 dL_law_265 (by decide) c6 ?_
  refine x_iload 3 dL_law_280 rfl ?_
  refine x_bipush 23 (by decide) dL_law_282 ?_
  by_cases c7 : ¬ v8 = 23
  rotate_left
  · refine x_icmp_ne_n 299 dL_law_284 (by decide) (Classical.not_not.mp c7) ?_
    refine x_aload_n 6 dL_law_287 rfl rfl ?_
    refine x_bipush 7 (by decide) dL_law_288 ?_
    refine x_iload 1 dL_law_290 rfl ?_
    refine x_iconst 0 (by decide) dL_law_292 ?_
    obtain ⟨f9, e9, a9, w9⟩ := k_cl7 hN w hc hd hz v10 0
    refine x_callsH (As := [.ref x, .int 7, .int v10, .int 0]) (rest := []) rc rs dL_law_293 mi_L_call rfl ml_L_182 rfl rfl (Nat.le_of_ble_eq_true rfl) ⟨by decide, by decide⟩ (by omega) (by omega) (c_L_call N _ _ _ _ _ _ e9) (fun n9 => ?_)
    refine x_goto 323 dL_law_296 (by decide) ?_
    exact w_law_323 hN hk hH hg ((a9 (x + 70) (Nat.le_refl _) (by omega)).trans ha) (k_post_ac w.gd (by omega) w9) kk
  refine x_icmp_ne_y 299 dL_law_284 (by decide) c7 ?_
  refine x_iload 3 dL_law_299 rfl ?_
  refine x_bipush 24 (by decide) dL_law_301 ?_
  by_cases c8 : ¬ v8 = 24
  rotate_left
  · refine x_icmp_ne_n 318 dL_law_303 (by decide) (Classical.not_not.mp c8) ?_
    refine x_aload_n 6 dL_law_306 rfl rfl ?_
    refine x_bipush 8 (by decide) dL_law_307 ?_
    refine x_iload 1 dL_law_309 rfl ?_
    refine x_iconst 0 (by decide) dL_law_311 ?_
    obtain ⟨f9, e9, a9, w9⟩ := k_cl8 hN w hc hd hz v10 0
    refine x_callsH (As := [.ref x, .int 8, .int v10, .int 0]) (rest := []) rc rs dL_law_312 mi_L_call rfl ml_L_182 rfl rfl (Nat.le_of_ble_eq_true rfl) ⟨by decide, by decide⟩ (by omega) (by omega) (c_L_call N _ _ _ _ _ _ e9) (fun n9 => ?_)
    refine x_goto 323 dL_law_315 (by decide) ?_
    exact w_law_323 hN hk hH hg ((a9 (x + 70) (Nat.le_refl _) (by omega)).trans ha) (k_post_ac w.gd (by omega) w9) kk
  refine x_icmp_ne_y 318 dL_law_303 (by decide) c8 ?_
  refine x_aload_n 6 dL_law_318 rfl rfl ?_
  refine x_iconst 1 (by decide) dL_law_319 ?_
  obtain ⟨f9, e9, a9, w9⟩ := k_back hN w hd hz 1
  rw [show k_bk (k_K1 Sk) 1 = .inl 0 from rfl] at e9 w9
  refine x_callsH (As := [.ref x, .int 1]) (rest := []) rc rs dL_law_320 mi_L_back rfl ml_L_189 rfl rfl (Nat.le_of_ble_eq_true rfl) ⟨by decide, by decide⟩ (by omega) (by omega) (c_L_back N _ _ _ _ e9) (fun n9 => ?_)
  exact w_law_323 hN hk hH hg ((a9 (x + 70) (Nat.le_refl _) (by omega)).trans ha) (Or.inr ⟨by show (-1999 : Int32) ≤ 0; decide, _, w9⟩) kk
set_option maxRecDepth 20000 in
set_option maxHeartbeats 8000000 in
theorem w_law_98 (hN : 50000 ≤ N) (hL : L ≤ 1536) {k rc rs : Nat} {H : List KS} {f : XM} {n : Nat} (hk : k < 30) (hI : k_LI x Sk Z k H f)
    (kk : ∀ (H' : List KS) (f' : XM) (n' : Nat), k_LI x Sk Z (k + 1) H' f' → X mL_law 16 630 Tg (x_RD b L xs) rc rs 91 [(0, .ref b), (1, .ref x), (2, .ref (x + 70)), (3, .int (nI H'.length)), (4, .long (k_seen Sk)), (6, .int (nI (k + 1)))] [] (f', n')) :
    X mL_law 16 630 Tg (x_RD b L xs) (rc + 34) (rs + 1915) 98 [(0, .ref b), (1, .ref x), (2, .ref (x + 70)), (3, .int (nI H.length)), (4, .long (k_seen Sk)), (6, .int (nI k))] [] (f, n) := by
  obtain ⟨S, g, hH, w, ha, hg⟩ := hI
  refine x_aload_n 0 dL_law_98 rfl rfl ?_
  refine x_iload 5 dL_law_99 rfl ?_
  obtain ⟨v7, e7⟩ := k_drawn (xs := xs) hL hk
  refine x_callsR (As := [.ref b, .int (nI k)]) (rest := []) dL_law_101 mi_L_drawn rfl ml_L_308 rfl rfl (Nat.le_of_ble_eq_true rfl) ⟨by decide, by decide⟩ (c_L_drawn (nI k) (f, n) _ e7) ?_
  refine x_istore (i := 7) (lv' := (7, .int v7) :: [(0, .ref b), (1, .ref x), (2, .ref (x + 70)), (3, .int (nI H.length)), (4, .long (k_seen Sk)), (6, .int (nI k))]) dL_law_104 (by decide) rfl ?_
  refine x_iload 0 dL_law_106 rfl ?_
  refine x_bipush 26 (by decide) dL_law_108 ?_
  obtain ⟨v8, e8⟩ := k_part N f v7 26 (by decide)
  refine x_calls (As := [.int v7, .int 26]) (rest := []) (rc + 34) (rs + 1915) dL_law_110 mi_L_part rfl ml_L_312 rfl rfl (Nat.le_of_ble_eq_true rfl) ⟨by decide, by decide⟩ (by omega) (by omega) (c_L_part N f _ _ n _ e8) (x_K.some ?_) x_KX.none
  refine x_istore (i := 8) (lv' := (8, .int v8) :: (7, .int v7) :: [(0, .ref b), (1, .ref x), (2, .ref (x + 70)), (3, .int (nI H.length)), (4, .long (k_seen Sk)), (6, .int (nI k))]) dL_law_113 (by decide) rfl ?_
  refine x_aload_n 4 dL_law_115 rfl rfl ?_
  refine x_iload_n 5 dL_law_116 rfl rfl ?_
  refine x_aload_n 3 dL_law_117 rfl rfl ?_
  obtain ⟨f3, e3, a3, w3⟩ := k_sees hN w
  refine x_calls (As := [.ref x]) (rest := [.int (nI H.length), .ref (x + 70)]) (rc + 34) (rs + 1915) dL_law_118 mi_L_seen rfl ml_L_304 rfl rfl (Nat.le_of_ble_eq_true rfl) ⟨by decide, by decide⟩ (by omega) (by omega) (c_L_seen N _ _ _ _ e3) (x_K.some ?_) x_KX.none
  have ha3 : f3 (x + 70) = _ := (a3 (x + 70) (Nat.le_refl _) (by omega)).trans ha
  refine x_astl_r (f := fun z => some z) dL_law_121 (by rw [k_astl ha3 (by omega)]; rfl) (fun h1 hh => ?_)
  cases hh
  have w4 := k_wd.frm w3 (f' := x_up f3 (x + 70) (.inl (.long, 64, .inr (.inl (vp_updL g H.length (k_seen S)))))) (fun a ha => x_up_n ha)
  have ha4 : x_up f3 (x + 70) (.inl (.long, 64, .inr (.inl (vp_updL g H.length (k_seen S))))) (x + 70) = _ := x_up_s
  generalize x_up f3 (x + 70) (.inl (.long, 64, .inr (.inl (vp_updL g H.length (k_seen S))))) = f4 at w4 ha4
  refine x_aload_n 3 dL_law_122 rfl rfl ?_
  obtain ⟨q5, St5, bf5, h5, g5⟩ := w4.ci
  have e5 : F_X5_savedStates N f4 x = some (nI ((Z ++ H).drop ((Z ++ H).length - 6)).length) := q_saved (N := N) h5
  obtain ⟨fs5, hfs5⟩ := w4.ob
  refine x_callv (As := []) (rest := []) (rc + 34) (rs + 1915) dL_law_123 mi_X5_savedStates ml_L_164 rfl rfl (Nat.le_of_ble_eq_true rfl) ⟨by decide, by decide⟩ (by omega) (by omega) hfs5 rfl (c_X5_savedStates N _ _ _ _ e5) (x_K.some ?_) x_KX.none
  refine x_istore (i := 9) (lv' := (9, .int (nI ((Z ++ H).drop ((Z ++ H).length - 6)).length)) :: (8, .int v8) :: (7, .int v7) :: [(0, .ref b), (1, .ref x), (2, .ref (x + 70)), (3, .int (nI H.length)), (4, .long (k_seen Sk)), (6, .int (nI k))]) dL_law_126 (by decide) rfl ?_
  refine x_iload 2 dL_law_128 rfl ?_
  refine x_iconst 5 (by decide) dL_law_130 ?_
  refine x_ishr dL_law_131 ?_
  refine x_bipush 24 (by decide) dL_law_132 ?_
  obtain ⟨v10, e10⟩ := k_part N f4 (v7 >>> ((5 : Int32) &&& 31)) 24 (by decide)
  refine x_calls (As := [.int (v7 >>> ((5 : Int32) &&& 31)), .int 24]) (rest := []) (rc + 34) (rs + 1915) dL_law_134 mi_L_part rfl ml_L_312 rfl rfl (Nat.le_of_ble_eq_true rfl) ⟨by decide, by decide⟩ (by omega) (by omega) (c_L_part N f4 _ _ n _ e10) (x_K.some ?_) x_KX.none
  refine x_istore (i := 10) (lv' := (10, .int v10) :: (9, .int (nI ((Z ++ H).drop ((Z ++ H).length - 6)).length)) :: (8, .int v8) :: (7, .int v7) :: [(0, .ref b), (1, .ref x), (2, .ref (x + 70)), (3, .int (nI H.length)), (4, .long (k_seen Sk)), (6, .int (nI k))]) dL_law_137 (by decide) rfl ?_
  refine x_iload 3 dL_law_139 rfl ?_
  refine x_bipush 8 (by decide) dL_law_141 ?_
  refine x_ishr dL_law_143 ?_
  refine x_bipush 60 (by decide) dL_law_144 ?_
  obtain ⟨v11, e11⟩ := k_part N f4 (v7 >>> ((8 : Int32) &&& 31)) 60 (by decide)
  refine x_calls (As := [.int (v7 >>> ((8 : Int32) &&& 31)), .int 60]) (rest := []) (rc + 34) (rs + 1915) dL_law_146 mi_L_part rfl ml_L_312 rfl rfl (Nat.le_of_ble_eq_true rfl) ⟨by decide, by decide⟩ (by omega) (by omega) (c_L_part N f4 _ _ n _ e11) (x_K.some ?_) x_KX.none
  refine x_istore (i := 11) (lv' := [(11, .int v11), (10, .int v10), (9, .int (nI ((Z ++ H).drop ((Z ++ H).length - 6)).length)), (8, .int v8), (7, .int v7), (0, .ref b), (1, .ref x), (2, .ref (x + 70)), (3, .int (nI H.length)), (4, .long (k_seen Sk)), (6, .int (nI k))]) dL_law_149 (by decide) rfl ?_
  refine w_law_151 hN hk hH (fun i s hs => ?_) ha4 w4 kk
  by_cases z : i < H.length
  · rw [List.getElem?_append_left z] at hs
    show (if i = H.length then k_seen S else g i) = k_seen s
    rw [if_neg (by omega)]
    exact hg i s hs
  · rw [List.getElem?_append_right (by omega)] at hs
    have hi : i = H.length := by
      have := (List.getElem?_eq_some_iff.mp hs).1
      rw [List.length_singleton] at this
      omega
    subst hi
    rw [Nat.sub_self] at hs
    cases hs
    exact if_pos rfl
set_option maxRecDepth 20000 in
set_option maxHeartbeats 4000000 in
theorem w_law_91 (hN : 50000 ≤ N) (hL : L ≤ 1536) (hZ : Z.length = 4) (kk : k_law1 Tg b L xs) : ∀ (d k : Nat) {H : List KS} {f : XM} {n : Nat}, k + d = 30 → k_LI x Sk Z k H f →
    X mL_law 16 630 Tg (x_RD b L xs) (34 * d + 5930) (1915 * d + 331583) 91 [(0, .ref b), (1, .ref x), (2, .ref (x + 70)), (3, .int (nI H.length)), (4, .long (k_seen Sk)), (6, .int (nI k))] [] (f, n) := by
  intro d
  induction d with
  | zero =>
    intro k H f n hk hI
    obtain rfl : k = 30 := by omega
    obtain ⟨S, g, hH, w, ha, hg⟩ := hI
    refine x_iload 5 dL_law_91 rfl ?_
    refine x_bipush 30 (by decide) dL_law_93 ?_
    refine x_icmp_ge_y 386 dL_law_95 (by decide) (by decide) ?_
    exact x_less (rc' := 5930) (rs' := 331583) (by omega) (by omega) (w_law_386 hN (by omega) kk hZ hH hg w ha)
  | succ d ih =>
    intro k H f n hk hI
    refine x_iload 5 dL_law_91 rfl ?_
    refine x_bipush 30 (by decide) dL_law_93 ?_
    refine x_icmp_ge_n 386 dL_law_95 (by decide) (nI_ge (a := k) (b := 30) (by omega) (by omega)) ?_
    exact x_less (rc' := 34 * d + 5930 + 34) (rs' := 1915 * d + 331583 + 1915) (by omega) (by omega) (w_law_98 hN hL (by omega) hI (fun H' f' n' hI' => ih (k + 1) (by omega) hI'))
end LAWD
