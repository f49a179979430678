/-! States: copied, merged, built, written, erased. -/
theorem k_astr {f : XM} {ci a n p : Nat} {g : Nat → Option Nat} {fs : List Value} (h : f a = some (.inl (.object (x_cls ci), n, .inr (.inr (.inr (.inr g)))))) (hp : f p = some (.inr (ci, fs))) (hci : ci < 6) {i : Nat} (hi : i < n) (hn : n < 2 ^ 31) : x_astr f ci a (nI i) (some p) = some (x_up f a (.inl (.object (x_cls ci), n, .inr (.inr (.inr (.inr (va_up g i (some p)))))))) := by
  have h1 : ¬ (nI i < 0 ∨ n ≤ (nI i).toNatClampNeg) := nI_in hi hn
  have h2 : (nI i).toNatClampNeg = i := nI_clamp (by omega)
  simp only [x_astr, h]
  rw [if_pos ⟨trivial, hci, by simp [x_isC, hp]⟩, if_neg h1, h2]
theorem k_astrn {f : XM} {ci a n : Nat} {g : Nat → Option Nat} (h : f a = some (.inl (.object (x_cls ci), n, .inr (.inr (.inr (.inr g)))))) (hci : ci < 6) {i : Nat} (hi : i < n) (hn : n < 2 ^ 31) : x_astr f ci a (nI i) none = some (x_up f a (.inl (.object (x_cls ci), n, .inr (.inr (.inr (.inr (va_up g i none))))))) := by
  have h1 : ¬ (nI i < 0 ∨ n ≤ (nI i).toNatClampNeg) := nI_in hi hn
  have h2 : (nI i).toNatClampNeg = i := nI_clamp (by omega)
  simp only [x_astr, h]
  rw [if_pos ⟨trivial, hci, by simp [x_isC]⟩, if_neg h1, h2]
theorem k_vup_s {α : Type} {g : Nat → α} {i : Nat} {x : α} : va_up g i x i = x := if_pos rfl
theorem k_vup_n {α : Type} {g : Nat → α} {i j : Nat} {x : α} (h : j ≠ i) : va_up g i x j = g j := if_neg h
section KSP
variable {wz : Nat}
variable {N : Nat} {b : Nat} {S : KS}
theorem k_tcopy {f : XM} {a : Nat} {T0 T : KT} (h : k_tree f b T0) (h0 : k_tree f a T) (hd : a + 6 ≤ b ∨ b + 6 ≤ a) : ∃ f', F_X4_copyFrom N f b a = some f' ∧ k_tree f' b T ∧ k_fr f f' b (b + 6) := by
  have hn := h0.row.le
  have hl := h0.2.2.2.2
  obtain ⟨f1, m1, m2, m3⟩ := k_copyFrom (N := N) h.row h0.row hn (by omega)
  have ha1 := h0.fr m3 (by omega)
  obtain ⟨h1, h2, ⟨gp, h3, h4⟩, ⟨gb, h5, h6⟩, h7⟩ := h
  obtain ⟨q1, q2, ⟨hp, q3, q4⟩, ⟨hb, q5, q6⟩, q7⟩ := ha1
  have o1 : f1 b = _ := (m3 b (by omega)).trans h1
  have c1 := k_copyN (N := N) (n := T.1.1) q3 ((m3 _ (by omega)).trans h3) hn hn (by omega) (by omega) (by omega)
  have b2 : x_up f1 (b + 4) (.inl (.int, 160, .inl (va_cpy hp gp 0 0 T.1.1))) a = _ := (x_up_n (by omega)).trans q1
  have b3 : x_up f1 (b + 4) (.inl (.int, 160, .inl (va_cpy hp gp 0 0 T.1.1))) b = _ := (x_up_n (by omega)).trans o1
  have c2 := k_copyN (N := N) (n := T.2.2.1) ((x_up_n (by omega)).trans q5) (show x_up f1 (b + 4) (.inl (.int, 160, .inl (va_cpy hp gp 0 0 T.1.1))) (b + 5) = _ from (x_up_n (by omega)).trans ((m3 _ (by omega)).trans h5)) hl hl (by omega) (by omega) (by omega)
  have b4 : x_up (x_up f1 (b + 4) (.inl (.int, 160, .inl (va_cpy hp gp 0 0 T.1.1)))) (b + 5) (.inl (.int, 512, .inl (va_cpy hb gb 0 0 T.2.2.1))) a = _ := (x_up_n (by omega)).trans b2
  have b5 : x_up (x_up f1 (b + 4) (.inl (.int, 160, .inl (va_cpy hp gp 0 0 T.1.1)))) (b + 5) (.inl (.int, 512, .inl (va_cpy hb gb 0 0 T.2.2.1))) b = _ := (x_up_n (by omega)).trans b3
  have fr1 : k_fr f1 (x_up (x_up f1 (b + 4) (.inl (.int, 160, .inl (va_cpy hp gp 0 0 T.1.1)))) (b + 5) (.inl (.int, 512, .inl (va_cpy hb gb 0 0 T.2.2.1)))) (b + 4) (b + 6) := (k_fr.up (by omega) (by omega)).upd (by omega) (by omega)
  have d1 : x_up (x_up f1 (b + 4) (.inl (.int, 160, .inl (va_cpy hp gp 0 0 T.1.1)))) (b + 5) (.inl (.int, 512, .inl (va_cpy hb gb 0 0 T.2.2.1))) (b + 4) = _ := (x_up_n (by omega)).trans x_up_s
  have d2 : x_up (x_up f1 (b + 4) (.inl (.int, 160, .inl (va_cpy hp gp 0 0 T.1.1)))) (b + 5) (.inl (.int, 512, .inl (va_cpy hb gb 0 0 T.2.2.1))) (b + 5) = _ := x_up_s
  generalize hF : x_up (x_up f1 (b + 4) (.inl (.int, 160, .inl (va_cpy hp gp 0 0 T.1.1)))) (b + 5) (.inl (.int, 512, .inl (va_cpy hb gb 0 0 T.2.2.1))) = F2 at *
  have s1 : ∀ (e1 e2 e3 : XE), x_up (x_up (x_up F2 b e1) b e2) b e3 = x_up F2 b e3 := fun e1 e2 e3 => by
    funext z
    unfold x_up
    repeat' split
    all_goals first | rfl | contradiction
  have hx : ∀ e, x_up F2 b e a = _ := fun e => (x_up_n (by omega)).trans b4
  have hx2 : ∀ e e', x_up (x_up F2 b e) b e' a = _ := fun e e' => (x_up_n (by omega)).trans (hx e)
  refine ⟨x_up F2 b (.inr (4, [.ref (b + 1), .ref (b + 4), .ref (b + 5), .int (nI T.2.2.1), .int T.2.2.2.2.1, .int T.2.2.2.2.2])), ?_, ⟨x_up_s, ?_, ⟨_, (x_up_n (by omega)).trans d1, fun i hi => ?_⟩, ⟨_, (x_up_n (by omega)).trans d2, fun i hi => ?_⟩, hl⟩, ?_⟩
  · simp only [F_X4_copyFrom, k_getr h1 (k := 0) rfl, h0.r, Option.bind_some, h2.cv, m1, k_getr q1 (k := 0) rfl, k_getr q1 (k := 1) rfl, k_getr o1 (k := 1) rfl, q2.n, c1, k_getr b2 (k := 2) rfl, k_getr b3 (k := 2) rfl, k_geti b2 (k := 3) rfl, c2, k_puti b5 (k := 3) (by simp), List.set_cons_succ, List.set_cons_zero]
    simp only [k_geti (hx _) (k := 4) rfl, Option.bind_some, k_puti x_up_s (k := 4) (show 4 < [Value.ref (b + 1), .ref (b + 4), .ref (b + 5), .int (nI T.2.2.1), .int T0.2.2.2.2.1, .int T0.2.2.2.2.2].length by simp), List.set_cons_succ, List.set_cons_zero]
    simp only [k_geti (hx2 _ _) (k := 5) rfl, Option.bind_some, k_puti x_up_s (k := 5) (show 5 < [Value.ref (b + 1), .ref (b + 4), .ref (b + 5), .int (nI T.2.2.1), .int T.2.2.2.2.1, .int T0.2.2.2.2.2].length by simp), List.set_cons_succ, List.set_cons_zero, s1]
  · exact (m2.fr fr1 (by omega)).ext (fun q g1 g2 => x_up_n (by omega))
  · rw [pk_cpy_in (by omega) (by omega), ← q4 i hi]
    congr 1
    omega
  · rw [pk_cpy_in (by omega) (by omega), ← q6 i hi]
    congr 1
    omega
  · exact ((m3.wd (by omega) (by omega)).tr (fr1.wd (by omega) (by omega))).upd (by omega) (by omega)
/-- the closed rows as they lie -/
def k_clo (f : XM) (b : Nat) (w : Nat → Nat) (Q : Nat → KR) : Prop := (∃ g : Nat → Option Nat, f (b + 4) = some (.inl (.object (x_cls 2), 6, .inr (.inr (.inr (.inr g))))) ∧ ∀ i, i < 6 → g i = some (b + 11 + 3 * w i)) ∧ (∀ i, i < 6 → w i < 6 ∧ k_row f (b + 11 + 3 * w i) 60 (Q i)) ∧ (∀ i j, i < j → j < 6 → w i ≠ w j)
theorem k_clo.fr {f f' : XM} {w : Nat → Nat} {Q : Nat → KR} {lo hi : Nat} (h : k_clo f b w Q) (e : k_fr f f' lo hi) (d1 : hi ≤ b + 4 ∨ b + 29 ≤ lo ∨ (b + 5 ≤ lo ∧ hi ≤ b + 11)) : k_clo f' b w Q := by
  obtain ⟨⟨g, h1, h2⟩, h3, h4⟩ := h
  refine ⟨⟨g, (e _ (by omega)).trans h1, h2⟩, fun i hi => ?_, h4⟩
  obtain ⟨a, c⟩ := h3 i hi
  exact ⟨a, c.fr e (by omega)⟩
theorem k_clo.on {f : XM} {w : Nat → Nat} {Q : Nat → KR} {cc : Nat} {x : List Value} (h : k_clo f b w Q) (hb : f b = some (.inr (3, .ref (b + 1) :: .ref (b + 4) :: x))) {i : Nat} (hi : i < 6) : F_X3_closedOn N f b (nI i) = some (some (b + 11 + 3 * w i)) := by
  obtain ⟨⟨g, h1, h2⟩, h3, h4⟩ := h
  simp only [F_X3_closedOn, k_getr hb (k := 1) rfl, k_alenr h1, Option.bind_some]
  rw [if_neg (nI_pos (by omega)), if_pos (nI_lt hi (by omega)), k_aldr h1 hi (by omega), h2 i hi]
  rfl
theorem k_scopy_loop {a : Nat} {w v : Nat → Nat} {P : Nat → KR} {cc : Nat} {x y : List Value} {K : Int32 → XM → Option XM} (hcc : cc ≤ 6) (hd : a + 29 ≤ b ∨ b + 29 ≤ a) : ∀ (d fuel i : Nat) (f : XM) (Q : Nat → KR), i + d = cc → d < fuel → f b = some (.inr (3, .ref (b + 1) :: .ref (b + 4) :: x)) → f a = some (.inr (3, .ref (a + 1) :: .ref (a + 4) :: .int (nI cc) :: y)) → k_clo f b w Q → k_clo f a v P →
    ∃ (f' : XM) (Q' : Nat → KR), F_X3_copyFrom_L13 N b a K fuel (nI i) f = K (nI cc) f' ∧ k_clo f' b w Q' ∧ (∀ j, i ≤ j → j < cc → Q' j = P j) ∧ (∀ j, j < i → Q' j = Q j) ∧ k_fr f f' (b + 11) (b + 29) := by
  intro d
  induction d with
  | zero =>
    intro fuel i f Q h1 h2 hb ha hQ hP
    obtain ⟨u, rfl⟩ : ∃ u, fuel = u + 1 := ⟨fuel - 1, by omega⟩
    have e : i = cc := by omega
    subst e
    refine ⟨f, Q, ?_, hQ, fun j a b => absurd b (by omega), fun j _ => rfl, k_fr.rf⟩
    simp only [F_X3_copyFrom_L13, k_geti ha (k := 2) rfl, Option.bind_some]
    rw [if_pos (nI_le (Nat.le_refl _) (by omega))]
  | succ d ih =>
    intro fuel i f Q h1 h2 hb ha hQ hP
    obtain ⟨u, rfl⟩ : ∃ u, fuel = u + 1 := ⟨fuel - 1, by omega⟩
    have o1 := k_clo.on (N := N) (cc := cc) hQ hb (i := i) (by omega)
    have o2 := k_clo.on (N := N) (cc := cc) hP ha (i := i) (by omega)
    obtain ⟨w1, w2⟩ := hQ.2.1 i (by omega)
    obtain ⟨v1, v2⟩ := hP.2.1 i (by omega)
    obtain ⟨f1, m1, m2, m3⟩ := k_copyFrom (N := N) w2 v2 v2.le (by omega)
    have hQ1 : k_clo f1 b w (fun j => if j = i then P i else Q j) := by
      obtain ⟨⟨g, z1, z2⟩, z3, z4⟩ := hQ
      refine ⟨⟨g, (m3 _ (by omega)).trans z1, z2⟩, fun j hj => ?_, z4⟩
      obtain ⟨y1, y2⟩ := z3 j hj
      refine ⟨y1, ?_⟩
      show k_row f1 _ 60 (if j = i then P i else Q j)
      by_cases z : j = i
      · rw [if_pos z, z]; exact m2
      · rw [if_neg z]
        have : w j ≠ w i := by
          rcases Nat.lt_or_gt_of_ne z with y | y
          · exact z4 j i y (by omega)
          · exact (z4 i j y hj).symm
        exact y2.fr m3 (by omega)
    obtain ⟨f', Q', r1, r2, r3, r4, r5⟩ := ih u (i + 1) f1 _ (by omega) (by omega) ((m3 _ (by omega)).trans hb) ((m3 _ (by omega)).trans ha) hQ1 (hP.fr m3 (by omega))
    refine ⟨f', Q', ?_, r2, fun j g1 g2 => ?_, fun j g1 => ?_, (m3.wd (by omega) (by omega)).tr r5⟩
    · simp only [F_X3_copyFrom_L13, k_geti ha (k := 2) rfl, k_cv ha, k_cv hb, Option.bind_some, o1, o2, Option.elim_some, w2.cv, m1, k_add1]
      rw [if_neg (nI_ge (by omega) (by omega))]
      exact r1
    · by_cases z : j = i
      · rw [r4 j (by omega), if_pos z, z]
      · exact r3 j (by omega) g2
    · rw [r4 j (by omega), if_neg (by omega)]
theorem k_scopy {f : XM} {a : Nat} {S0 : KS} (hN : 5000 ≤ N) (h : k_st f b S0) (h0 : k_st f a S) (hd : a + 29 ≤ b ∨ b + 29 ≤ a) : ∃ f', F_X3_copyFrom N f b a = some f' ∧ k_st f' b S ∧ k_fr f f' b (b + 29) := by
  have hcc := h0.2.1
  obtain ⟨f1, m1, m2, m3⟩ := k_copyFrom (N := N) h.row h0.row h0.row.le (by omega)
  have hb1 : f1 b = _ := (m3 b (by omega)).trans h.1
  have ha1 := h0.fr m3 (by omega)
  obtain ⟨g, w, Q, h5, h6, h7, h8⟩ := h.2.2.2.2
  obtain ⟨g', v, P, k5, k6, k7, k8⟩ := ha1.2.2.2.2
  have hQ1 : k_clo f1 b w Q := ⟨⟨g, (m3 _ (by omega)).trans h5, fun i hi => (h6 i hi).1⟩, fun i hi => ⟨(h6 i hi).2.1, (h6 i hi).2.2.fr m3 (by omega)⟩, h7⟩
  have hP1 : k_clo f1 a v P := ⟨⟨g', k5, fun i hi => (k6 i hi).1⟩, fun i hi => ⟨(k6 i hi).2.1, (k6 i hi).2.2⟩, k7⟩
  obtain ⟨f2, Q', r1, r2, r3, -, r5⟩ := k_scopy_loop (N := N) (b := b) (a := a) (w := w) (v := v) (P := P) (cc := S.1) (K := fun y2_13 g13 =>
  (x_geti g13 3 a 2).bind fun v14 =>
  (x_puti g13 3 b 2 v14).bind fun f15 =>
  (x_getr f15 3 b 3).bind fun v16 =>
  (x_getr f15 3 a 3).bind fun v17 =>
  Option.bind v17 fun a18 =>
  Option.bind v16 fun a19 =>
  (x_cv f15 4 a19 (F_X4_copyFrom N f15 a19 a18)).bind fun z20 =>
  (x_geti z20 3 a 4).bind fun v21 =>
  (x_puti z20 3 b 4 v21).bind fun f22 =>
  (x_geti f22 3 a 5).bind fun v23 =>
  (x_puti f22 3 b 5 v23).bind fun f24 =>
  (x_geti f24 3 a 6).bind fun v25 =>
  (x_puti f24 3 b 6 v25).bind fun f26 =>
  (x_geti f26 3 a 7).bind fun v27 =>
  (x_puti f26 3 b 7 v27).bind fun f28 =>
  some f28) hcc hd S.1 N 0 f1 Q (by omega) (by omega) hb1 ha1.1 hQ1 hP1
  have ha2 := ha1.fr r5 (by omega)
  have b1 : f2 b = _ := (r5 b (by omega)).trans hb1
  have ht2 : k_tree f2 (b + 5) S0.2.2.1 := (h.tree.fr m3 (by omega)).fr r5 (by omega)
  have fr3 : k_fr f2 (x_up f2 b (.inr (3, [.ref (b + 1), .ref (b + 4), .int (nI S.1), .ref (b + 5), .int S0.2.2.2.1, .int S0.2.2.2.2.1, .int S0.2.2.2.2.2.1, .int S0.2.2.2.2.2.2]))) b (b + 1) := k_fr.up (by omega) (by omega)
  have ha3 := ha2.fr fr3 (by omega)
  obtain ⟨f4, t1, t2, t3⟩ := k_tcopy (N := N) (b := b + 5) (a := a + 5) (ht2.fr fr3 (by omega)) ha3.tree (by omega)
  have ha4 := ha3.fr t3 (by omega)
  have b4 : f4 b = _ := (t3 b (by omega)).trans x_up_s
  -- four numbers
  have s1 : ∀ (e1 e2 e3 e4 : XE), x_up (x_up (x_up (x_up f4 b e1) b e2) b e3) b e4 = x_up f4 b e4 := fun e1 e2 e3 e4 => by
    funext z
    unfold x_up
    repeat' split
    all_goals first | rfl | contradiction
  have fr4 : ∀ e, k_fr f4 (x_up f4 b e) b (b + 1) := fun e => k_fr.up (by omega) (by omega)
  refine ⟨x_up f4 b (.inr (3, [.ref (b + 1), .ref (b + 4), .int (nI S.1), .ref (b + 5), .int S.2.2.2.1, .int S.2.2.2.2.1, .int S.2.2.2.2.2.1, .int S.2.2.2.2.2.2])), ?_, ⟨x_up_s, hcc, ?_, t2.fr (fr4 _) (by omega), ?_⟩, ?_⟩
  · simp only [F_X3_copyFrom, h.op, h0.op, Option.bind_some, h.row.cv, m1]
    rw [show (0 : Int32) = nI 0 from rfl, r1]
    simp only [ha2.cc, k_puti b1 (k := 2) (by simp), List.set_cons_succ, List.set_cons_zero, Option.bind_some, k_getr (f := x_up f2 b (.inr (3, [.ref (b + 1), .ref (b + 4), .int (nI S.1), .ref (b + 5), .int S0.2.2.2.1, .int S0.2.2.2.2.1, .int S0.2.2.2.2.2.1, .int S0.2.2.2.2.2.2]))) x_up_s (k := 3) rfl, ha3.tr, (ht2.fr fr3 (by omega)).cv, t1, ha4.il, k_puti b4 (k := 4) (by simp)]
    have hx : ∀ e, k_st (x_up f4 b e) a S := fun e => ha4.fr (fr4 e) (by omega)
    have hx2 : ∀ e e', k_st (x_up (x_up f4 b e) b e') a S := fun e e' => (hx e).fr (k_fr.up (lo := b) (hi := b + 1) (by omega) (by omega)) (by omega)
    have hx3 : ∀ e e' e'', k_st (x_up (x_up (x_up f4 b e) b e') b e'') a S := fun e e' e'' => (hx2 e e').fr (k_fr.up (lo := b) (hi := b + 1) (by omega) (by omega)) (by omega)
    simp only [(hx _).nl, Option.bind_some, k_puti x_up_s (k := 5) (show 5 < [Value.ref (b + 1), .ref (b + 4), .int (nI S.1), .ref (b + 5), .int S.2.2.2.1, .int S0.2.2.2.2.1, .int S0.2.2.2.2.2.1, .int S0.2.2.2.2.2.2].length by simp), List.set_cons_succ, List.set_cons_zero]
    simp only [(hx2 _ _).bc, Option.bind_some, k_puti x_up_s (k := 6) (show 6 < [Value.ref (b + 1), .ref (b + 4), .int (nI S.1), .ref (b + 5), .int S.2.2.2.1, .int S.2.2.2.2.1, .int S0.2.2.2.2.2.1, .int S0.2.2.2.2.2.2].length by simp), List.set_cons_succ, List.set_cons_zero]
    simp only [(hx3 _ _ _).wc, Option.bind_some, k_puti x_up_s (k := 7) (show 7 < [Value.ref (b + 1), .ref (b + 4), .int (nI S.1), .ref (b + 5), .int S.2.2.2.1, .int S.2.2.2.2.1, .int S.2.2.2.2.2.1, .int S0.2.2.2.2.2.2].length by simp), List.set_cons_succ, List.set_cons_zero, s1]
  · exact (((m2.fr r5 (by omega)).fr fr3 (by omega)).fr t3 (by omega)).fr (fr4 _) (by omega)
  · obtain ⟨⟨g2, y1, y2⟩, y3, y4⟩ := ((r2.fr fr3 (by omega)).fr t3 (by omega)).fr (fr4 (.inr (3, [.ref (b + 1), .ref (b + 4), .int (nI S.1), .ref (b + 5), .int S.2.2.2.1, .int S.2.2.2.2.1, .int S.2.2.2.2.2.1, .int S.2.2.2.2.2.2]))) (by omega)
    exact ⟨g2, w, Q', y1, fun i hi => ⟨y2 i hi, (y3 i hi).1, (y3 i hi).2⟩, y4, fun i hi => by rw [r3 i (Nat.zero_le _) hi, k8 i hi]⟩
  · exact ((((m3.wd (by omega) (by omega)).tr (r5.wd (by omega) (by omega))).tr (fr3.wd (by omega) (by omega))).tr (t3.wd (by omega) (by omega))).tr ((fr4 _).wd (by omega) (by omega))
end KSP

