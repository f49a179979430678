/-! States: an entry written, erased; a leaf's entry. -/
section KSQ5
variable {wz : Nat}
variable {N : Nat} {b : Nat} {S : KS} {T : KT}
theorem k_runnone {S : KS} {k : Int32} (h6 : S.1 ≤ 6) : ((if k_run S k ≤ S.1 then nI (k_run S k) else -1) = (-1 : Int32)) ↔ ¬ k_run S k ≤ S.1 := by
  by_cases g : k_run S k ≤ S.1
  · rw [if_pos g]
    constructor
    · intro e; exact absurd e (k_nim1 _ (by omega))
    · intro e; exact absurd g e
  · rw [if_neg g]
    exact ⟨fun _ => g, fun _ => rfl⟩
theorem k_tfx_wt {S : KS} (hw : k_ws S) : k_wt (k_tfx S) ∧ k_sm (k_tfx S).2.2.2.2.1 2 8 ∧ k_sm (k_tfx S).2.2.2.2.2 2 6 ∧ (k_tfx S).1 = S.2.2.1.1 ∧ (k_tfx S).2.2.1 = S.2.2.1.2.2.1 := by
  obtain ⟨h1, h2, h3, h4, hwt, h6, h7⟩ := hw
  unfold k_tfx
  by_cases z : S.2.2.1.2.2.2.2.1 = 0
  · rw [if_pos z]
    obtain ⟨a1, a2, a3, a4, a5, a6, a7, a8, -⟩ := hwt
    exact ⟨⟨a1, a2, a3, a4, a5, a6, a7, a8, Or.inr ⟨h6, h7⟩⟩, h6, h7, rfl, rfl⟩
  · rw [if_neg z]
    rcases hwt.2.2.2.2.2.2.2.2 with ⟨_, y, _⟩ | ⟨y1, y2⟩
    · exact absurd y z
    · exact ⟨hwt, y1, y2, rfl, rfl⟩
theorem k_writeEntry {f : XM} (hN : 5000 ≤ N) (h : k_st f b S) (hw : k_ws S) (hl : S.2.2.1.2.2.1 < 512) {k : Int32} (hk : 0 ≤ k.toInt) (v : Int32) :
    if k_run S k ≤ S.1 then F_X3_writeEntry N f b k v = some (-1, f) else ∃ f', F_X3_writeEntry N f b k v = some ((k_twr (k_tfx S) k v).1, f') ∧ k_fr f f' b (b + 29) ∧ (if (k_twr (k_tfx S) k v).1 = -1 then f' = f else k_st f' b (k_stt S (k_twr (k_tfx S) k v).2)) := by
  have h6 := h.2.1
  obtain ⟨t1, t2, t3, t4, t5⟩ := k_tfx_wt hw
  simp only [F_X3_writeEntry, h.cv, k_runTelling (show 1000 ≤ N by omega) h hw, Option.bind_some]
  by_cases g : k_run S k ≤ S.1
  · rw [if_pos g, if_neg (fun z => (k_runnone h6).mp z g)]
  · rw [if_neg g, if_pos ((k_runnone h6).mpr g)]
    simp only [h.tr, h.tree.il, Option.bind_some]
    by_cases z : S.2.2.1.2.2.2.2.1 = 0
    · have e1 : k_tfx S = (S.2.2.1.1, S.2.2.1.2.1, S.2.2.1.2.2.1, S.2.2.1.2.2.2.1, S.2.2.2.1, S.2.2.2.2.1) := if_pos z
      have htr := h.tree
      have c1 : ∀ e e', x_up (x_up f (b + 5) e) (b + 5) e' = x_up f (b + 5) e' := fun e e' => by
        funext q
        unfold x_up
        split <;> rfl
      have t6 : k_tree (x_up f (b + 5) (.inr (4, [.ref (b + 5 + 1), .ref (b + 5 + 4), .ref (b + 5 + 5), .int (nI S.2.2.1.2.2.1), .int S.2.2.2.1, .int S.2.2.2.2.1]))) (b + 5) (k_tfx S) := by
        rw [e1]
        obtain ⟨y1, y2, ⟨gp, y3, y4⟩, ⟨gb, y5, y6⟩, y7⟩ := htr
        exact ⟨x_up_s, y2.ext (fun q _ _ => x_up_n (by omega)), ⟨gp, (x_up_n (by omega)).trans y3, y4⟩, ⟨gb, (x_up_n (by omega)).trans y5, y6⟩, y7⟩
      have fr1 : k_fr f (x_up f (b + 5) (.inr (4, [.ref (b + 5 + 1), .ref (b + 5 + 4), .ref (b + 5 + 5), .int (nI S.2.2.1.2.2.1), .int S.2.2.2.1, .int S.2.2.2.2.1]))) (b + 5) (b + 11) := k_fr.up (by omega) (by omega)
      have hst1 := h.sett fr1 t6
      obtain ⟨f', q1, q2, q3, q4⟩ := k_twrite (N := N) hN t6 t1 (by rw [t5]; exact hl) hk (fun _ => t2) v
      have a2 : x_up f (b + 5) (.inr (4, [.ref (b + 5 + 1), .ref (b + 5 + 4), .ref (b + 5 + 5), .int (nI S.2.2.1.2.2.1), .int S.2.2.2.1, .int S.2.2.1.2.2.2.2.2])) b = _ := (x_up_n (by omega)).trans h.1
      have hno : (k_twr (k_tfx S) k v).1 ≠ -1 := by
        have hn0 : (k_tfx S).1.1 = 0 := by
          rw [t4]
          rcases hw.2.2.2.2.1.2.2.2.2.2.2.2.2 with ⟨y0, y1, y2⟩ | ⟨y1, y2⟩
          · exact hw.2.2.2.2.1.2.2.2.2.1 y0
          · obtain ⟨y3, y4, y5⟩ := y1.e (by omega)
            rw [z, show (0 : Int32) = nI 0 from rfl, k_u_n (by omega)] at y4
            omega
        unfold k_twr
        split
        · show (0 : Int32) ≠ -1; decide
        · split
          · omega
          · split
            · show (3 : Int32) ≠ -1; decide
            · split
              · show (1 : Int32) ≠ -1; decide
              · split
                · show (3 : Int32) ≠ -1; decide
                · show (2 : Int32) ≠ -1; decide
      refine ⟨f', ?_, (fr1.wd (by omega) (by omega)).tr (q3.wd (by omega) (by omega)), ?_⟩
      · rw [if_pos z]
        simp only [h.il, k_puti htr.1 (k := 4) (by simp), List.set_cons_succ, List.set_cons_zero, Option.bind_some, k_getr a2 (k := 3) rfl, k_geti a2 (k := 5) rfl, k_puti (f := x_up f (b + 5) (.inr (4, [.ref (b + 5 + 1), .ref (b + 5 + 4), .ref (b + 5 + 5), .int (nI S.2.2.1.2.2.1), .int S.2.2.2.1, .int S.2.2.1.2.2.2.2.2]))) x_up_s (k := 5) (by simp), c1, hst1.tr, t6.cv, q1]
      · rw [if_neg hno]
        exact hst1.sett q3 q2
    · have e1 : k_tfx S = S.2.2.1 := if_neg z
      have e0 : k_stt S S.2.2.1 = S := rfl
      rw [e1] at t1 t2 ⊢
      obtain ⟨f', q1, q2, q3, q4⟩ := k_twrite (N := N) hN h.tree t1 hl hk (fun _ => t2) v
      refine ⟨f', ?_, q3.wd (by omega) (by omega), ?_⟩
      · rw [if_neg z]
        simp only [h.tree.cv, q1, Option.bind_some]
      · by_cases y : (k_twr S.2.2.1 k v).1 = -1
        · rw [if_pos y]; exact q4 y
        · rw [if_neg y]; exact h.sett q3 q2
theorem k_eraseEntry {f : XM} (hN : 5000 ≤ N) (h : k_st f b S) (hw : k_ws S) {k : Int32} (hk : 0 ≤ k.toInt) :
    if k_run S k ≤ S.1 ∨ ¬ k_pl S.2.2.1.1.1 S.2.2.1.1.2.1 k < S.2.2.1.1.1 then F_X3_eraseEntry N f b k = some (-1, f) else ∃ f', F_X3_eraseEntry N f b k = some (S.2.2.1.1.2.2 (k_pl S.2.2.1.1.1 S.2.2.1.1.2.1 k), f') ∧ k_fr f f' b (b + 29) ∧ k_st f' b (k_stt S (k_tdel S.2.2.1 k)) := by
  have h6 := h.2.1
  simp only [F_X3_eraseEntry, h.cv, k_runTelling (show 1000 ≤ N by omega) h hw, Option.bind_some]
  by_cases g : k_run S k ≤ S.1
  · rw [if_pos (Or.inl g), if_pos g, if_neg (k_nim1 _ (by omega))]
  · rw [if_neg g, if_pos rfl]
    obtain ⟨f', q1, q2, q3⟩ := k_takeOut (N := N) hN h.tree hw.2.2.2.2.1 hk
    simp only [h.tr, h.tree.cv, q1, Option.bind_some]
    by_cases g2 : k_pl S.2.2.1.1.1 S.2.2.1.1.2.1 k < S.2.2.1.1.1
    · rw [if_pos g2] at q2
      rw [if_neg (by omega), if_pos g2]
      exact ⟨f', rfl, q3.wd (by omega) (by omega), h.sett q3 q2⟩
    · rw [if_neg g2] at q2
      rw [if_pos (Or.inr g2), if_neg g2, q2]
/-- where the entry stands that is told by its place in its leaf -/
def k_oe (T : KT) (l p : Nat) : Nat := k_fst (fun i => (k_inl T l (T.1.2.1 i) && decide (T.2.1 i = 0)) && decide (k_cnt (fun i => k_inl T l (T.1.2.1 i) && decide (T.2.1 i = 0)) i = p)) T.1.1
theorem k_oe_loop {f : XM} (h : k_tree f b T) (q : Nat → Bool) (p hi : Nat) (hp : p < 2 ^ 30) (hh : hi ≤ T.1.1) (hq2 : ∀ j, hi ≤ j → j < T.1.1 → q j = false) : ∀ (d fuel i : Nat), i + d = hi → d < fuel → k_cnt q i ≤ p → (∀ j, i ≤ j → j < hi → q j = decide (T.2.1 j = 0)) → (∀ j, j < i → (q j && decide (k_cnt q j = p)) = false) →
    F_X4_ownEntry_L18 N f b (nI hi) (fun _ _ => some (-1)) fuel (nI (p - k_cnt q i)) (nI i) = some (if k_fst (fun j => q j && decide (k_cnt q j = p)) T.1.1 < T.1.1 then nI (k_fst (fun j => q j && decide (k_cnt q j = p)) T.1.1) else -1) := by
  have hl := h.row.le
  intro d
  induction d with
  | zero =>
    intro fuel i h1 h2 h3 hq hno
    obtain ⟨u, rfl⟩ : ∃ u, fuel = u + 1 := ⟨fuel - 1, by omega⟩
    have e : i = hi := by omega
    subst e
    rw [F_X4_ownEntry_L18, if_pos (nI_le (Nat.le_refl _) (by omega))]
    have : k_fst (fun j => q j && decide (k_cnt q j = p)) T.1.1 = T.1.1 := k_fst_eq (Nat.le_refl _) (fun j hj => by
      rcases Nat.lt_or_ge j i with z | z
      · exact hno j z
      · show (q j && _) = false
        rw [hq2 j z hj]; rfl) (fun z => absurd z (by omega))
    rw [this, if_neg (by omega)]
  | succ d ih =>
    intro fuel i h1 h2 h3 hq hno
    obtain ⟨u, rfl⟩ : ∃ u, fuel = u + 1 := ⟨fuel - 1, by omega⟩
    have hqi := hq i (Nat.le_refl _) (by omega)
    rw [F_X4_ownEntry_L18, if_neg (nI_ge (by omega) (by omega)), if_neg (nI_pos (by omega))]
    simp only [h.cv, k_placeOn h (i := i) (by omega), Option.bind_some, k_add1]
    by_cases g : T.2.1 i = 0
    · rw [decide_eq_true g] at hqi
      rw [if_pos g]
      by_cases g2 : k_cnt q i = p
      · have : k_fst (fun j => q j && decide (k_cnt q j = p)) T.1.1 = i := k_fst_eq (by omega) hno (fun _ => by
          show (q i && decide (k_cnt q i = p)) = true
          rw [hqi, decide_eq_true g2]; rfl)
        rw [g2, Nat.sub_self, if_pos (by rfl), this, if_pos (by omega)]
      · have hs : k_cnt q (i + 1) = k_cnt q i + 1 := k_cnt_y hqi
        have i2 := ih u (i + 1) (by omega) (by omega) (by omega) (fun j a c => hq j (by omega) c) (fun j hj => by
          by_cases z : j = i
          · rw [z, decide_eq_false g2]; simp
          · exact hno j (by omega))
        rw [if_neg (nI_ne0 (by omega) (by omega))]
        obtain ⟨e, he⟩ : ∃ e, p - k_cnt q i = e + 1 := ⟨p - k_cnt q i - 1, by omega⟩
        rw [hs, show p - (k_cnt q i + 1) = e by omega] at i2
        rw [he, pk_m1]
        exact i2
    · rw [decide_eq_false g] at hqi
      have hs : k_cnt q (i + 1) = k_cnt q i := k_cnt_n hqi
      have i2 := ih u (i + 1) (by omega) (by omega) (by omega) (fun j a c => hq j (by omega) c) (fun j hj => by
        by_cases z : j = i
        · rw [z, hqi]; rfl
        · exact hno j (by omega))
      rw [hs] at i2
      rw [if_neg g]
      exact i2
theorem k_ownEntry {f : XM} (hN : 1000 ≤ N) (h : k_tree f b T) (hw : k_wt T) {l : Nat} (hl : l < T.2.2.1) (p : Int32) : F_X4_ownEntry N f b (nI l) p = some (if 0 ≤ p.toInt ∧ k_oe T l (k_u p) < T.1.1 then nI (k_oe T l (k_u p)) else -1) := by
  have h5 := h.2.2.2.2
  have hr := h.row.le
  have hr2 := k_rk_le T.1.1 T.1.2.1 (k_bd T (l + 1))
  have hm := k_rk_mono hw.1 (k_bd_mono hw (show l ≤ l + 1 by omega))
  obtain ⟨c1, c2, c3⟩ := k_leaf_cnt hw (fun i => decide (T.2.1 i = 0)) l
  simp only [F_X4_ownEntry, h.cv, k_add1, k_firstEntry hN h hw (l := l) (by omega), k_firstEntry hN h hw (l := l + 1) (by omega), Option.bind_some]
  have e0 : (0 : Int32).toInt = 0 := rfl
  by_cases g : 0 ≤ p.toInt
  · obtain ⟨j, j1, j2, j3⟩ := k_nn g
    subst j2
    rw [k_u_n j1]
    -- a place beyond all entries is as good as 1000
    by_cases gj : j < 2 ^ 30
    · have hb : ∀ j, k_rk T.1.1 T.1.2.1 (k_bd T (l + 1)) ≤ j → j < T.1.1 → (k_inl T l (T.1.2.1 j) && decide (T.2.1 j = 0)) = false := fun j h1 h2 => by
        have := k_rk_hi hw.1 h1 h2
        unfold k_inl
        rw [decide_eq_false (by omega)]
        rfl
      have := k_oe_loop (N := N) h (fun i => k_inl T l (T.1.2.1 i) && decide (T.2.1 i = 0)) j _ gj hr2 hb (k_rk T.1.1 T.1.2.1 (k_bd T (l + 1)) - k_rk T.1.1 T.1.2.1 (k_bd T l)) N _ (by omega) (by omega) (by rw [c1]; omega) c3 (fun i hi => by
        have := k_rk_lo hi
        unfold k_inl
        rw [decide_eq_false (by omega)]
        rfl)
      rw [c1, Nat.sub_zero] at this
      rw [this]
      unfold k_oe
      congr 1
      by_cases z : k_fst (fun j_1 => (k_inl T l (T.1.2.1 j_1) && decide (T.2.1 j_1 = 0)) && decide (k_cnt (fun i => k_inl T l (T.1.2.1 i) && decide (T.2.1 i = 0)) j_1 = j)) T.1.1 < T.1.1
      · rw [if_pos z, if_pos ⟨g, z⟩]
      · rw [if_neg z, if_neg (fun y => z y.2)]
    · have big : ∀ (d fuel i x : Nat), i + d = k_rk T.1.1 T.1.2.1 (k_bd T (l + 1)) → d < fuel → 1000 ≤ x + i → 0 < x → x < 2 ^ 31 → F_X4_ownEntry_L18 N f b (nI (k_rk T.1.1 T.1.2.1 (k_bd T (l + 1)))) (fun _ _ => some (-1)) fuel (nI x) (nI i) = some (-1) := by
        intro d
        induction d with
        | zero =>
          intro fuel i x h1 h2 h3 h4 h5
          obtain ⟨u, rfl⟩ : ∃ u, fuel = u + 1 := ⟨fuel - 1, by omega⟩
          rw [F_X4_ownEntry_L18, if_pos (nI_le (by omega) (by omega))]
        | succ d ih =>
          intro fuel i x h1 h2 h3 h4 h5
          obtain ⟨u, rfl⟩ : ∃ u, fuel = u + 1 := ⟨fuel - 1, by omega⟩
          rw [F_X4_ownEntry_L18, if_neg (nI_ge (by omega) (by omega)), if_neg (nI_pos (by omega))]
          simp only [h.cv, k_placeOn h (i := i) (by omega), Option.bind_some, k_add1]
          rw [if_neg (nI_ne0 (by omega) (by omega))]
          obtain ⟨y, rfl⟩ : ∃ y, x = y + 1 := ⟨x - 1, by omega⟩
          rw [pk_m1, ih u (i + 1) y (by omega) (by omega) (by omega) (by omega) (by omega), ih u (i + 1) (y + 1) (by omega) (by omega) (by omega) (by omega) (by omega)]
          split <;> rfl
      rw [big (k_rk T.1.1 T.1.2.1 (k_bd T (l + 1)) - k_rk T.1.1 T.1.2.1 (k_bd T l)) N _ j (by omega) (by omega) (by omega) (by omega) j1]
      have : k_oe T l j = T.1.1 := k_fst_eq (Nat.le_refl _) (fun i hi => by
        have := k_cnt_le (fun i => k_inl T l (T.1.2.1 i) && decide (T.2.1 i = 0)) i
        rw [decide_eq_false (p := k_cnt _ i = j) (by omega)]
        simp) (fun z => absurd z (by omega))
      rw [this, if_neg (fun y => by omega)]
  · rw [if_neg (fun y => g y.1)]
    obtain ⟨u, hu⟩ : ∃ u, N = u + 1 := ⟨N - 1, by omega⟩
    conv => lhs; arg 6; rw [hu]
    rw [F_X4_ownEntry_L18]
    by_cases z : nI (k_rk T.1.1 T.1.2.1 (k_bd T (l + 1))) ≤ nI (k_rk T.1.1 T.1.2.1 (k_bd T l))
    · rw [if_pos z]
    · rw [if_neg z, if_pos (by rw [k_i_lt, e0]; omega)]
theorem k_overflowLeafCount {f : XM} (hN : 1000 ≤ N) (h : k_tree f b T) (hw : k_wt T) {l : Nat} (hl : l < T.2.2.1) : F_X4_overflowLeafCount N f b (nI l) = some (nI (k_ru (k_ovf T l) (k_u T.2.2.2.2.1))) := by
  have hle := k_cnt_le (fun i => k_inl T l (T.1.2.1 i) && decide (0 < T.2.1 i)) T.1.1
  have hn := hw.2.2.1
  have e := (show k_sm T.2.2.2.2.1 2 8 by
    rcases hw.2.2.2.2.2.2.2.2 with ⟨z1, z2, z3⟩ | ⟨z2, z3⟩
    · omega
    · exact z2).e (by omega)
  simp only [F_X4_overflowLeafCount, h.cv, k_overflowCount hN h hw hl, h.il, Option.bind_some]
  rw [e.1, k_roundedUp (by unfold k_ovf; omega) (by omega) (by omega), ← e.1]
  rfl
end KSQ5

