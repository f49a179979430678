/-! The reference: entries of leaves, nodes, ranges. -/
/-- own entries of a leaf, by the tree's places -/
def k_oq (T : KT) (l : Nat) : Nat → Bool := fun i => k_inl T l (T.1.2.1 i) && decide (T.2.1 i = 0)
section KMT
variable {N : Nat} {f : XM} {m c : Nat} {V : KM} {S : KS}
theorem k_in (lo hi x : Int32) : F_X6_in N f x lo hi = some (decide (lo.toInt ≤ x.toInt ∧ x.toInt ≤ hi.toInt)) := by
  unfold F_X6_in
  simp only [k_i_lt]
  by_cases h1 : x.toInt < lo.toInt
  · rw [if_pos h1, decide_eq_false (by omega)]
  · rw [if_neg h1]
    by_cases h2 : hi.toInt < x.toInt
    · rw [if_pos h2, decide_eq_false (by omega)]
    · rw [if_neg h2, decide_eq_true (by omega)]
/-- own entries of the reference's, of smaller keys than that of j -/
theorem k_oqm {G : Nat → Int32} (h : k_ms G S c) {l j : Nat} (hl : l < S.2.2.1.2.2.1) (hj : j < S.2.2.1.1.1) : k_cnt (fun i => decide (k_eL G i = nI l) && (decide (k_eO G i = 0) && decide ((k_eK G i).toInt < (k_eK G j).toInt))) S.2.2.1.1.1 = k_cnt (k_oq S.2.2.1 l) (k_pl S.2.2.1.1.1 S.2.2.1.1.2.1 (k_eK G j)) := by
  have hpj := (h.me.2.1 j hj).1
  have e1 : k_cnt (fun i => decide (k_eL G i = nI l) && (decide (k_eO G i = 0) && decide ((k_eK G i).toInt < (k_eK G j).toInt))) S.2.2.1.1.1 = k_cnt (fun i => k_oq S.2.2.1 l i && decide (i < k_pl S.2.2.1.1.1 S.2.2.1.1.2.1 (k_eK G j))) S.2.2.1.1.1 := by
    refine k_me_cnt h.wt.1 h.me (fun i hi => ?_)
    have hpi := (h.me.2.1 i hi).1
    show (decide (k_eL G i = nI l) && (decide (k_eO G i = 0) && decide _)) = ((k_inl S.2.2.1 l _ && decide _) && decide _)
    rw [Bool.and_assoc]
    congr 1
    · rw [Bool.eq_iff_iff, decide_eq_true_eq]; exact h.lf hi hl
    · congr 1
      · rw [decide_eq_decide]; exact (h.or0 hi).1
      · rw [decide_eq_decide, ← k_pl_at hpi, ← k_pl_at hpj, k_pl_eq h.wt.1 hpi, k_pl_eq h.wt.1 hpj]
        constructor
        · intro z
          rcases Nat.lt_trichotomy (k_pl S.2.2.1.1.1 S.2.2.1.1.2.1 (k_eK G i)) (k_pl S.2.2.1.1.1 S.2.2.1.1.2.1 (k_eK G j)) with y | y | y
          · exact y
          · rw [y] at z; omega
          · have := h.wt.1.1 _ _ y hpi; omega
        · intro z; exact h.wt.1.1 _ _ z hpj
  rw [e1, k_cnt_tail (Nat.le_of_lt hpj) (fun k h1 h2 => by rw [decide_eq_false (by omega)]; simp)]
  exact k_cnt_cong (fun k hk => by rw [decide_eq_true hk]; simp)
theorem k_ea_in (h : k_mo f m V) (hs : k_ms (V.1 1) S c) {l : Int32} {p : Int32} {j : Nat} (hj : j < S.2.2.1.1.1) {K : Int32 → Int32 → Option Int32} : ∀ (d fuel i : Nat), i + d = S.2.2.1.1.1 → d < fuel →
    F_X6_entryAt_L45 N f m l p (nI j) 1 K fuel (nI (k_cnt (fun i => decide (k_eL (V.1 1) i = l) && (decide (k_eO (V.1 1) i = 0) && decide ((k_eK (V.1 1) i).toInt < (k_eK (V.1 1) j).toInt))) i)) (nI i) = K (nI (k_cnt (fun i => decide (k_eL (V.1 1) i = l) && (decide (k_eO (V.1 1) i = 0) && decide ((k_eK (V.1 1) i).toInt < (k_eK (V.1 1) j).toInt))) S.2.2.1.1.1)) (nI S.2.2.1.1.1) := by
  have hn := hs.wt.2.2.1
  intro d
  induction d with
  | zero =>
    intro fuel i h1 h2
    obtain ⟨u, rfl⟩ : ∃ u, fuel = u + 1 := ⟨fuel - 1, by omega⟩
    have e : i = S.2.2.1.1.1 := by omega
    subst e
    simp only [F_X6_entryAt_L45, h.r0, k_l7 h hs, Option.bind_some]
    rw [if_pos (nI_le (Nat.le_refl _) (by omega))]
  | succ d ih =>
    intro fuel i h1 h2
    obtain ⟨u, rfl⟩ : ∃ u, fuel = u + 1 := ⟨fuel - 1, by omega⟩
    have i2 := ih u (i + 1) (by omega) (by omega)
    simp only [F_X6_entryAt_L45, h.r0, k_l7 h hs, h.cv, k_ent2 h (j := i) (by omega), k_ent3 h (j := i) (by omega), k_ent0 h (j := i) (by omega), k_ent0 h (j := j) (by omega), Option.bind_some, k_add1, k_add0, k_i10, if_false]
    rw [if_neg (nI_ge (by omega) (by omega))]
    by_cases g : k_eL (V.1 1) i = l
    · rw [if_pos g]
      by_cases g2 : k_eO (V.1 1) i = 0
      · rw [if_pos g2]
        by_cases g3 : k_eK (V.1 1) j ≤ k_eK (V.1 1) i
        · rw [if_pos g3]
          rw [k_cnt_n (by rw [k_i_le] at g3; rw [decide_eq_false (p := (k_eK (V.1 1) i).toInt < _) (by omega)]; simp)] at i2
          exact i2
        · rw [if_neg g3]
          rw [k_cnt_y (by rw [k_i_le] at g3; rw [decide_eq_true g, decide_eq_true g2, decide_eq_true (p := (k_eK (V.1 1) i).toInt < _) (by omega)]; rfl)] at i2
          exact i2
      · rw [if_neg g2]
        rw [k_cnt_n (by rw [decide_eq_false g2]; simp)] at i2
        exact i2
    · rw [if_neg g]
      rw [k_cnt_n (by rw [decide_eq_false g]; rfl)] at i2
      exact i2
theorem k_ea_no (h : k_mo f m V) (hs : k_ms (V.1 1) S c) {l p x : Int32} {K : Int32 → Int32 → Option Int32} (hN : 1000 ≤ N) : F_X6_entryAt_L45 N f m l p x 0 K N 0 0 = K 0 0 := by
  obtain ⟨u, hu⟩ : ∃ u, N = u + 1 := ⟨N - 1, by omega⟩
  conv => lhs; arg 9; rw [hu]
  rw [F_X6_entryAt_L45]
  simp only [h.r0, k_l7 h hs, Option.bind_some, k_i00, if_true]
  split <;> rfl
theorem k_ea_loop (hN : 1000 ≤ N) (h : k_mo f m V) (hs : k_ms (V.1 1) S c) {l : Nat} (hl : l < S.2.2.1.2.2.1) (p : Int32) : ∀ (d fuel i : Nat), i + d = S.2.2.1.1.1 → d < fuel → (∀ j, j < i → ¬ (k_oq S.2.2.1 l (k_pl S.2.2.1.1.1 S.2.2.1.1.2.1 (k_eK (V.1 1) j)) = true ∧ nI (k_cnt (k_oq S.2.2.1 l) (k_pl S.2.2.1.1.1 S.2.2.1.1.2.1 (k_eK (V.1 1) j))) = p)) →
    (∃ j, j < S.2.2.1.1.1 ∧ F_X6_entryAt_L2 N f m (nI l) p (fun _ => some (-1)) fuel (nI i) = some (nI j) ∧ k_oq S.2.2.1 l (k_pl S.2.2.1.1.1 S.2.2.1.1.2.1 (k_eK (V.1 1) j)) = true ∧ nI (k_cnt (k_oq S.2.2.1 l) (k_pl S.2.2.1.1.1 S.2.2.1.1.2.1 (k_eK (V.1 1) j))) = p) ∨
    (F_X6_entryAt_L2 N f m (nI l) p (fun _ => some (-1)) fuel (nI i) = some (-1) ∧ ∀ j, j < S.2.2.1.1.1 → ¬ (k_oq S.2.2.1 l (k_pl S.2.2.1.1.1 S.2.2.1.1.2.1 (k_eK (V.1 1) j)) = true ∧ nI (k_cnt (k_oq S.2.2.1 l) (k_pl S.2.2.1.1.1 S.2.2.1.1.2.1 (k_eK (V.1 1) j))) = p)) := by
  have hn := hs.wt.2.2.1
  intro d
  induction d with
  | zero =>
    intro fuel i h1 h2 h3
    obtain ⟨u, rfl⟩ : ∃ u, fuel = u + 1 := ⟨fuel - 1, by omega⟩
    refine Or.inr ⟨?_, fun j hj => h3 j (by omega)⟩
    simp only [F_X6_entryAt_L2, h.r0, k_l7 h hs, Option.bind_some]
    rw [if_pos (nI_le (by omega) (by omega))]
  | succ d ih =>
    intro fuel i h1 h2 h3
    obtain ⟨u, rfl⟩ : ∃ u, fuel = u + 1 := ⟨fuel - 1, by omega⟩
    have hq : k_oq S.2.2.1 l (k_pl S.2.2.1.1.1 S.2.2.1.1.2.1 (k_eK (V.1 1) i)) = (decide (k_eL (V.1 1) i = nI l) && decide (k_eO (V.1 1) i = 0)) := by
      show (k_inl S.2.2.1 l _ && decide _) = _
      congr 1
      · rw [Bool.eq_iff_iff, decide_eq_true_eq]; exact (hs.lf (by omega) hl).symm
      · rw [decide_eq_decide]; exact (hs.or0 (by omega)).1.symm
    have step : F_X6_entryAt_L2 N f m (nI l) p (fun _ => some (-1)) (u + 1) (nI i) = if k_oq S.2.2.1 l (k_pl S.2.2.1.1.1 S.2.2.1.1.2.1 (k_eK (V.1 1) i)) = true ∧ nI (k_cnt (k_oq S.2.2.1 l) (k_pl S.2.2.1.1.1 S.2.2.1.1.2.1 (k_eK (V.1 1) i))) = p then some (nI i) else F_X6_entryAt_L2 N f m (nI l) p (fun _ => some (-1)) u (nI (i + 1)) := by
      rw [hq]
      simp only [F_X6_entryAt_L2, h.r0, k_l7 h hs, h.cv, k_ent2 h (j := i) (by omega), k_ent3 h (j := i) (by omega), Option.bind_some, k_add1]
      rw [if_neg (nI_ge (by omega) (by omega))]
      by_cases g : k_eL (V.1 1) i = nI l
      · rw [if_pos g, decide_eq_true g]
        by_cases g2 : k_eO (V.1 1) i = 0
        · rw [if_pos g2, decide_eq_true g2]
          refine (k_ea_in (N := N) h hs (l := nI l) (p := p) (j := i) (by omega) S.2.2.1.1.1 N 0 (by omega) (by omega)).trans ?_
          rw [k_oqm hs hl (by omega)]
          simp only [k_i10, if_false, Bool.and_self, true_and]
        · rw [if_neg g2, decide_eq_false g2]
          refine (k_ea_no h hs hN).trans ?_
          simp only [k_i00, if_true, Bool.and_false, Bool.false_eq_true, false_and, if_false]
      · rw [if_neg g, decide_eq_false g]
        refine (k_ea_no h hs hN).trans ?_
        simp only [k_i00, if_true, Bool.false_and, Bool.false_eq_true, false_and, if_false]
    by_cases g : k_oq S.2.2.1 l (k_pl S.2.2.1.1.1 S.2.2.1.1.2.1 (k_eK (V.1 1) i)) = true ∧ nI (k_cnt (k_oq S.2.2.1 l) (k_pl S.2.2.1.1.1 S.2.2.1.1.2.1 (k_eK (V.1 1) i))) = p
    · exact Or.inl ⟨i, by omega, by rw [step, if_pos g], g⟩
    · rw [step, if_neg g]
      exact ih u (i + 1) (by omega) (by omega) (fun j hj => by
        by_cases z : j = i
        · rw [z]; exact g
        · exact h3 j (by omega))
/-- the entry at a place of a leaf: the same as the tree's -/
theorem k_entryAt (hN : 1000 ≤ N) (h : k_mo f m V) (hs : k_ms (V.1 1) S c) {l : Nat} (hl : l < S.2.2.1.2.2.1) (p : Int32) :
    if 0 ≤ p.toInt ∧ k_oe S.2.2.1 l (k_u p) < S.2.2.1.1.1 then ∃ j, j < S.2.2.1.1.1 ∧ F_X6_entryAt N f m (nI l) p = some (nI j) ∧ k_eK (V.1 1) j = S.2.2.1.1.2.1 (k_oe S.2.2.1 l (k_u p)) else F_X6_entryAt N f m (nI l) p = some (-1) := by
  have hn := hs.wt.2.2.1
  rcases k_ea_loop hN h hs hl p S.2.2.1.1.1 N 0 (by omega) (by omega) (fun j hj => absurd hj (Nat.not_lt_zero _)) with ⟨j, hj, e1, e2, e3⟩ | ⟨e1, e2⟩
  · have hp := (hs.me.2.1 j hj).1
    have hcle := k_cnt_le (k_oq S.2.2.1 l) (k_pl S.2.2.1.1.1 S.2.2.1.1.2.1 (k_eK (V.1 1) j))
    have hu : k_u p = k_cnt (k_oq S.2.2.1 l) (k_pl S.2.2.1.1.1 S.2.2.1.1.2.1 (k_eK (V.1 1) j)) := by rw [← e3, k_u_n (by omega)]
    have hoe : k_oe S.2.2.1 l (k_u p) = k_pl S.2.2.1.1.1 S.2.2.1.1.2.1 (k_eK (V.1 1) j) := by
      refine k_fst_eq (Nat.le_of_lt hp) (fun i hi => ?_) (fun _ => ?_)
      · show (k_oq S.2.2.1 l i && decide (k_cnt (k_oq S.2.2.1 l) i = k_u p)) = false
        by_cases y : k_oq S.2.2.1 l i = true
        · have h1 : k_cnt (k_oq S.2.2.1 l) (i + 1) = k_cnt (k_oq S.2.2.1 l) i + 1 := k_cnt_y y
          have h2 := k_cnt_mono (k_oq S.2.2.1 l) (show i + 1 ≤ k_pl S.2.2.1.1.1 S.2.2.1.1.2.1 (k_eK (V.1 1) j) by omega)
          rw [decide_eq_false (by omega)]; simp
        · rw [Bool.not_eq_true] at y
          rw [y]; rfl
      · show (k_oq S.2.2.1 l _ && decide (k_cnt (k_oq S.2.2.1 l) _ = k_u p)) = true
        rw [e2, decide_eq_true hu.symm]; rfl
    rw [if_pos ⟨by rw [← e3, nI_toInt (by omega)]; omega, by omega⟩]
    exact ⟨j, hj, e1, by rw [hoe, k_pl_at hp]⟩
  · rw [if_neg]
    · exact e1
    · rintro ⟨y1, y2⟩
      have hy := k_fst_yes (fun i => k_oq S.2.2.1 l i && decide (k_cnt (k_oq S.2.2.1 l) i = k_u p)) S.2.2.1.1.1 y2
      have hy' : (k_oq S.2.2.1 l (k_oe S.2.2.1 l (k_u p)) && decide (k_cnt (k_oq S.2.2.1 l) (k_oe S.2.2.1 l (k_u p)) = k_u p)) = true := hy
      rw [Bool.and_eq_true, decide_eq_true_eq] at hy'
      obtain ⟨j, hj, ej⟩ := hs.me.2.2.1 _ y2
      refine e2 j hj ?_
      rw [ej, k_pl_eq hs.wt.1 y2]
      refine ⟨hy'.1, ?_⟩
      rw [hy'.2]
      obtain ⟨q, q1, q2, q3⟩ := k_nn y1
      rw [q2, k_u_n q1]
theorem k_mnodes_loop (h : k_mo f m V) (hs : k_ms (V.1 1) S c) (hl : 0 < S.2.2.1.2.2.1) {D : Nat} (hD : D ≤ 32) : ∀ (d fuel i x : Nat), i + d = D → d < fuel → x < 2 ^ 28 →
    F_X6_nodes_L10 N f m (nI D - 1) (fun y _ => some y) fuel (nI x) (nI i) = some (nI (k_nc (k_u S.2.2.1.2.2.2.2.2) d x)) := by
  have eD : (nI D - 1).toInt = (D : Int) - 1 := pk_sub_toInt (a := D) (b := 1) (by omega) (by omega)
  obtain ⟨i1, i2, i3, i4⟩ := hs.il hl
  obtain ⟨e1, e2, e3⟩ := i4.e (by omega)
  intro d
  induction d with
  | zero =>
    intro fuel i x h1 h2 h3
    obtain ⟨u, rfl⟩ : ∃ u, fuel = u + 1 := ⟨fuel - 1, by omega⟩
    rw [F_X6_nodes_L10, if_pos (by rw [k_i_lt, eD, nI_toInt (by omega)]; omega)]
    rfl
  | succ d ih =>
    intro fuel i x h1 h2 h3
    obtain ⟨u, rfl⟩ : ∃ u, fuel = u + 1 := ⟨fuel - 1, by omega⟩
    have hle := k_ru_le (c := x) (show 1 ≤ k_u S.2.2.1.2.2.2.2.2 by omega)
    have hdv : x_div ((nI x + S.2.2.1.2.2.2.2.2) - 1) S.2.2.1.2.2.2.2.2 = some (nI (k_ru x (k_u S.2.2.1.2.2.2.2.2))) := by
      have := k_ru_n (a := x) (e := k_u S.2.2.1.2.2.2.2.2) (by omega) (by omega) (by omega)
      rw [← e1] at this
      exact this
    rw [F_X6_nodes_L10, if_neg (by rw [k_i_lt, eD, nI_toInt (by omega)]; omega)]
    simp only [h.r0, k_l3 h hs hl, Option.bind_some, hdv, k_add1]
    exact ih u (i + 1) _ (by omega) (by omega) (by omega)
theorem k_mnodes (hN : 1000 ≤ N) (h : k_mo f m V) (hs : k_ms (V.1 1) S c) (hl : 0 < S.2.2.1.2.2.1) {D : Nat} (hD : D ≤ 32) : F_X6_nodes N f m (nI D - 1) = some (nI (k_nc (k_u S.2.2.1.2.2.2.2.2) D S.2.2.1.2.2.1)) := by
  have h512 := hs.wt.2.2.2.1
  simp only [F_X6_nodes, h.r0, k_l8 h hs, Option.bind_some]
  exact k_mnodes_loop h hs hl hD D N 0 _ (by omega) (by omega) (by omega)
theorem k_mbb_loop (h : k_mo f m V) (hs : k_ms (V.1 1) S c) (hl : 0 < S.2.2.1.2.2.1) {D : Nat} (hD : D ≤ 32) : ∀ (d fuel i x : Nat), i + d = D → d < fuel → x * k_u S.2.2.1.2.2.2.2.2 ^ d < S.2.2.1.2.2.1 →
    F_X6_boundBy_L5 N f m (nI D - 1) (fun y3_5 y4_5 => (x_cv f 6 m (F_X6_bound N f m y3_5)).bind fun z6 => some z6) fuel (nI x) (nI i) = some (S.2.2.1.2.2.2.1 (x * k_u S.2.2.1.2.2.2.2.2 ^ d)) := by
  have eD : (nI D - 1).toInt = (D : Int) - 1 := pk_sub_toInt (a := D) (b := 1) (by omega) (by omega)
  obtain ⟨i1, i2, i3, i4⟩ := hs.il hl
  obtain ⟨e1, e2, e3⟩ := i4.e (by omega)
  intro d
  induction d with
  | zero =>
    intro fuel i x h1 h2 h3
    obtain ⟨u, rfl⟩ : ∃ u, fuel = u + 1 := ⟨fuel - 1, by omega⟩
    rw [Nat.pow_zero, Nat.mul_one] at h3 ⊢
    rw [F_X6_boundBy_L5, if_pos (by rw [k_i_lt, eD, nI_toInt (by omega)]; omega)]
    simp only [h.cv, k_bound h hs h3, Option.bind_some]
  | succ d ih =>
    intro fuel i x h1 h2 h3
    obtain ⟨u, rfl⟩ : ∃ u, fuel = u + 1 := ⟨fuel - 1, by omega⟩
    have hp : x * k_u S.2.2.1.2.2.2.2.2 * k_u S.2.2.1.2.2.2.2.2 ^ d = x * k_u S.2.2.1.2.2.2.2.2 ^ (d + 1) := by rw [Nat.pow_succ, Nat.mul_assoc, Nat.mul_comm (k_u S.2.2.1.2.2.2.2.2)]
    have hmul : nI x * S.2.2.1.2.2.2.2.2 = nI (x * k_u S.2.2.1.2.2.2.2.2) := by
      have := pk_mul x (k_u S.2.2.1.2.2.2.2.2)
      rw [← e1] at this
      exact this
    rw [F_X6_boundBy_L5, if_neg (by rw [k_i_lt, eD, nI_toInt (by omega)]; omega)]
    simp only [h.r0, k_l3 h hs hl, Option.bind_some, hmul, k_add1]
    rw [← hp]
    exact ih u (i + 1) _ (by omega) (by omega) (by rw [hp]; exact h3)
theorem k_mboundBy (hN : 1000 ≤ N) (h : k_mo f m V) (hs : k_ms (V.1 1) S c) (hl : 0 < S.2.2.1.2.2.1) {D x : Nat} (hD : D ≤ 32) (hx : x < k_nc (k_u S.2.2.1.2.2.2.2.2) D S.2.2.1.2.2.1) : F_X6_boundBy N f m (nI D - 1) (nI x) = some (S.2.2.1.2.2.2.1 (x * k_u S.2.2.1.2.2.2.2.2 ^ D)) := by
  obtain ⟨i1, i2, i3, i4⟩ := hs.il hl
  obtain ⟨e1, e2, e3⟩ := i4.e (by omega)
  exact k_mbb_loop h hs hl hD D N 0 x (by omega) (by omega) (k_nc_mul (by omega) _ _ _ hx)
/-- children of a node, as both count them -/
def k_ch (T : KT) (D : Nat) (x : Int32) : Int32 := x_imin T.2.2.2.2.2 (nI (k_nc (k_u T.2.2.2.2.2) (D - 1) T.2.2.1) - x * T.2.2.2.2.2)
theorem k_mchildren (hN : 1000 ≤ N) (h : k_mo f m V) (hs : k_ms (V.1 1) S c) (hl : 0 < S.2.2.1.2.2.1) {D : Nat} (hD : D ≤ 32) (hD1 : 1 ≤ D) (x : Int32) : F_X6_children N f m (nI D - 1) x = some (k_ch S.2.2.1 D x) := by
  obtain ⟨E, rfl⟩ : ∃ E, D = E + 1 := ⟨D - 1, by omega⟩
  rw [nI_pred]
  simp only [F_X6_children, h.cv, k_mnodes hN h hs hl (D := E) (by omega), h.r0, k_l3 h hs hl, Option.bind_some]
  unfold k_ch x_imin
  rw [Nat.add_sub_cancel, Int32.mul_comm x]
  by_cases g : S.2.2.1.2.2.2.2.2 ≤ nI (k_nc (k_u S.2.2.1.2.2.2.2.2) E S.2.2.1.2.2.1) - S.2.2.1.2.2.2.2.2 * x
  · rw [if_pos g, if_neg (by rw [k_i_le] at g; rw [k_i_lt]; omega)]
  · rw [if_neg g, if_pos (by rw [k_i_le] at g; rw [k_i_lt]; omega)]
theorem k_cchildren {b : Nat} {T : KT} (hN : 1000 ≤ N) (h : k_tree f b T) (hn : k_sm T.2.2.2.2.2 2 6) {D : Nat} (hD : D ≤ 32) (hD1 : 1 ≤ D) (x : Int32) : F_X4_childCount N f b (nI D - 1) x = some (k_ch T D x) := by
  obtain ⟨E, rfl⟩ : ∃ E, D = E + 1 := ⟨D - 1, by omega⟩
  obtain ⟨e1, e2, e3⟩ := hn.e (by omega)
  rw [nI_pred]
  simp only [F_X4_childCount, h.cv, h.nl, k_nodeCount hN h e1 (by omega) (by omega) (D := E) (by omega), Option.bind_some]
  rfl
theorem k_mtold_loop (h : k_mo f m V) (hs : k_ms (V.1 1) S c) : ∀ (d fuel i : Nat), i + d = S.1 + 1 → d < fuel →
    F_X6_allTold_L4 N f m (fun y _ => some y) fuel (nI (k_sum (fun r => (S.2.1 r).1) i)) (nI i) = some (nI (k_told S)) := by
  have h6 := hs.1.1
  intro d
  induction d with
  | zero =>
    intro fuel i h1 h2
    obtain ⟨u, rfl⟩ : ∃ u, fuel = u + 1 := ⟨fuel - 1, by omega⟩
    have e : i = S.1 + 1 := by omega
    subst e
    simp only [F_X6_allTold_L4, h.r0, k_l6 h hs, Option.bind_some]
    rw [if_pos (nI_lt (by omega) (by omega))]
    rfl
  | succ d ih =>
    intro fuel i h1 h2
    obtain ⟨u, rfl⟩ : ∃ u, fuel = u + 1 := ⟨fuel - 1, by omega⟩
    simp only [F_X6_allTold_L4, h.r0, k_l6 h hs, h.cv, k_size h hs (r := i) (by omega), Option.bind_some, k_add1, nI_add]
    rw [if_neg (nI_nlt (by omega) (by omega))]
    exact ih u (i + 1) (by omega) (by omega)
theorem k_mallTold (hN : 1000 ≤ N) (h : k_mo f m V) (hs : k_ms (V.1 1) S c) : F_X6_allTold N f m = some (nI (k_told S)) :=
  k_mtold_loop h hs (S.1 + 1) N 0 (by omega) (by have := hs.1.1; omega)
/-- what is found stands in the keys -/
def k_fd (V : KM) (S : KS) : Prop := ∀ i, i < (k_all S).1 → V.1 7 (2 * i) = (k_all S).2.1 i ∧ V.1 7 (2 * i + 1) = (k_all S).2.2 i
theorem k_fk (h : k_mo f m V) (hA : k_okA S) (hf : k_fd V S) {i : Nat} (hi : i < (k_all S).1) : x_ald f (m + 7) (2 * nI i) = some ((k_all S).2.1 i) := by
  have := hA.2
  rw [k_ix2, h.ld (a := 7) (by omega) (by omega) (show 2 * i < 1200 by omega), (hf i hi).1]
theorem k_fv (h : k_mo f m V) (hA : k_okA S) (hf : k_fd V S) {i : Nat} (hi : i < (k_all S).1) : x_ald f (m + 7) (2 * nI i + 1) = some ((k_all S).2.2 i) := by
  have := hA.2
  rw [k_ix2, k_add1, h.ld (a := 7) (by omega) (by omega) (show 2 * i + 1 < 1200 by omega), (hf i hi).2]
theorem k_btw_loop (h : k_mo f m V) (hA : k_okA S) (hf : k_fd V S) (lo hi : Int32) {K : Int32 → Int32 → Option (Int32 × XM)} : ∀ (d fuel i : Nat), i + d = (k_all S).1 → d < fuel →
    F_X6_between_L11 N f m lo hi (nI (k_all S).1) K fuel (nI (k_btw i (k_all S).2.1 lo hi)) (nI i) = K (nI (k_btw (k_all S).1 (k_all S).2.1 lo hi)) (nI (k_all S).1) := by
  have hn := hA.2
  intro d
  induction d with
  | zero =>
    intro fuel i h1 h2
    obtain ⟨u, rfl⟩ : ∃ u, fuel = u + 1 := ⟨fuel - 1, by omega⟩
    have e : i = (k_all S).1 := by omega
    subst e
    rw [F_X6_between_L11, if_pos (nI_le (Nat.le_refl _) (by omega))]
  | succ d ih =>
    intro fuel i h1 h2
    obtain ⟨u, rfl⟩ : ∃ u, fuel = u + 1 := ⟨fuel - 1, by omega⟩
    have i2 := ih u (i + 1) (by omega) (by omega)
    rw [F_X6_between_L11, if_neg (nI_ge (by omega) (by omega))]
    simp only [h.r7, k_fk h hA hf (i := i) (by omega), k_in, Option.bind_some, k_add1, k_add0]
    have es : k_btw (i + 1) (k_all S).2.1 lo hi = k_btw i (k_all S).2.1 lo hi + if decide (lo.toInt ≤ ((k_all S).2.1 i).toInt ∧ ((k_all S).2.1 i).toInt ≤ hi.toInt) = true then 1 else 0 := rfl
    by_cases g : lo.toInt ≤ ((k_all S).2.1 i).toInt ∧ ((k_all S).2.1 i).toInt ≤ hi.toInt
    · rw [es, if_pos (decide_eq_true g)] at i2
      rw [decide_eq_true g, if_neg (by rw [k_xb_t]; exact id)]
      exact i2
    · rw [es, if_neg (by rw [decide_eq_false g]; decide), Nat.add_zero] at i2
      rw [decide_eq_false g, if_pos (by rw [k_xb_f]; trivial)]
      exact i2
theorem k_between (hN : 20000 ≤ N) (hA : k_okA S) (h : k_mo f m V) (hs : k_ms (V.1 1) S c) (lo hi : Int32) : ∃ (f' : XM) (V' : KM), F_X6_between N f m lo hi = some (nI (k_btw (k_all S).1 (k_all S).2.1 lo hi), f') ∧ k_mo f' m V' ∧ k_mx V V' [7] [8] ∧ k_fr f f' m (m + 10) ∧ k_fd V' S := by
  obtain ⟨f', V', r1, r2, r3, r4, r5, r6⟩ := k_finds hN hA h hs
  refine ⟨f', V', ?_, r2, r3, r4, r6⟩
  simp only [F_X6_between, h.cv, r1, Option.bind_some]
  exact k_btw_loop r2 hA r6 lo hi (k_all S).1 N 0 (by omega) (by have := hA.2; omega)
end KMT
