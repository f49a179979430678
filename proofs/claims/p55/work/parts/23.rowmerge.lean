/-! Rows: merging, what is gone, standing, counting. -/
def k_mem (R : KR) (k v : Int32) : Prop := ∃ i, i < R.1 ∧ R.2.1 i = k ∧ R.2.2 i = v
def k_push (R : KR) (x y : Int32) : KR := (R.1 + 1, upd R.2.1 R.1 x, upd R.2.2 R.1 y)
theorem k_push_srt {R : KR} {x y : Int32} (h : k_srt R.1 R.2.1) (h1 : ∀ t, t < R.1 → (R.2.1 t).toInt < x.toInt) (h2 : 0 ≤ x.toInt ∧ x.toInt < 10000) : k_srt (k_push R x y).1 (k_push R x y).2.1 := by
  refine ⟨fun i j hi hj => ?_, fun i hi => ?_⟩
  · have hj' : j < R.1 + 1 := hj
    show (upd R.2.1 R.1 x i).toInt < (upd R.2.1 R.1 x j).toInt
    rw [k_upd_n (show i ≠ R.1 by omega)]
    by_cases z : j = R.1
    · rw [z, k_upd_s]; exact h1 i (by omega)
    · rw [k_upd_n z]; exact h.1 i j hi (by omega)
  · have hi' : i < R.1 + 1 := hi
    show 0 ≤ (upd R.2.1 R.1 x i).toInt ∧ (upd R.2.1 R.1 x i).toInt < 10000
    by_cases z : i = R.1
    · rw [z, k_upd_s]; exact h2
    · rw [k_upd_n z]; exact h.2 i (by omega)
theorem k_push_mem {R : KR} {x y k v : Int32} : k_mem (k_push R x y) k v ↔ k_mem R k v ∨ (x = k ∧ y = v) := by
  constructor
  · rintro ⟨i, hi, e1, e2⟩
    have hi' : i < R.1 + 1 := hi
    have e1' : upd R.2.1 R.1 x i = k := e1
    have e2' : upd R.2.2 R.1 y i = v := e2
    by_cases z : i = R.1
    · rw [z, k_upd_s] at e1' e2'
      exact Or.inr ⟨e1', e2'⟩
    · rw [k_upd_n z] at e1' e2'
      exact Or.inl ⟨i, by omega, e1', e2'⟩
  · rintro (⟨i, hi, e1, e2⟩ | ⟨e1, e2⟩)
    · refine ⟨i, Nat.lt_succ_of_lt hi, ?_, ?_⟩
      · show upd R.2.1 R.1 x i = k
        rw [k_upd_n (by omega)]; exact e1
      · show upd R.2.2 R.1 y i = v
        rw [k_upd_n (by omega)]; exact e2
    · refine ⟨R.1, Nat.lt_succ_self _, ?_, ?_⟩
      · show upd R.2.1 R.1 x R.1 = k
        rw [k_upd_s]; exact e1
      · show upd R.2.2 R.1 y R.1 = v
        rw [k_upd_s]; exact e2
theorem k_push_key {R : KR} {x y : Int32} {t : Nat} (P : Int32 → Prop) (h : ∀ t, t < R.1 → P (R.2.1 t)) (hx : P x) (ht : t < (k_push R x y).1) : P ((k_push R x y).2.1 t) := by
  have ht' : t < R.1 + 1 := ht
  show P (upd R.2.1 R.1 x t)
  by_cases z : t = R.1
  · rw [z, k_upd_s]; exact hx
  · rw [k_upd_n z]; exact h t (by omega)
/-- merging, behind i of the older and j of the younger ones -/
def k_mgi (O Y : KR) (i j : Nat) (R : KR) : Prop :=
  k_srt R.1 R.2.1 ∧ (∀ t, t < R.1 → (i < O.1 → (R.2.1 t).toInt < (O.2.1 i).toInt) ∧ (j < Y.1 → (R.2.1 t).toInt < (Y.2.1 j).toInt)) ∧
  (∀ k v, k_mem R k v ↔ (∃ j', j' < j ∧ Y.2.1 j' = k ∧ Y.2.2 j' = v) ∨ (∃ i', i' < i ∧ O.2.1 i' = k ∧ O.2.2 i' = v ∧ ∀ j', j' < j → Y.2.1 j' ≠ k)) ∧
  (∀ i', i' < i → j < Y.1 → (O.2.1 i').toInt < (Y.2.1 j).toInt) ∧ (∀ j', j' < j → i < O.1 → (Y.2.1 j').toInt < (O.2.1 i).toInt)
/-- what a merged row holds -/
def k_mgd (O Y R : KR) : Prop := k_srt R.1 R.2.1 ∧ ∀ k v, k_mem R k v ↔ k_mem Y k v ∨ (k_mem O k v ∧ ∀ j, j < Y.1 → Y.2.1 j ≠ k)
theorem k_mg_old {O Y R : KR} {i j : Nat} (hO : k_srt O.1 O.2.1) (h : k_mgi O Y i j R) (hi : i < O.1) (hj : j < Y.1 → (O.2.1 i).toInt < (Y.2.1 j).toInt) : k_mgi O Y (i + 1) j (k_push R (O.2.1 i) (O.2.2 i)) := by
  obtain ⟨h1, h2, h3, h4, h5⟩ := h
  refine ⟨k_push_srt h1 (fun t ht => (h2 t ht).1 hi) (hO.2 i hi), fun t ht => ⟨fun g => ?_, fun g => ?_⟩, fun k v => ?_, fun i' g1 g2 => ?_, fun j' g1 g2 => ?_⟩
  · have := hO.1 i (i + 1) (by omega) g
    exact k_push_key (fun x => x.toInt < (O.2.1 (i + 1)).toInt) (fun t ht => Int.lt_trans ((h2 t ht).1 hi) this) this ht
  · exact k_push_key (fun x => x.toInt < (Y.2.1 j).toInt) (fun t ht => (h2 t ht).2 g) (hj g) ht
  · rw [k_push_mem, h3]
    constructor
    · rintro ((⟨j', a, b, c⟩ | ⟨i', a, b, c, d⟩) | ⟨a, b⟩)
      · exact Or.inl ⟨j', a, b, c⟩
      · exact Or.inr ⟨i', by omega, b, c, d⟩
      · exact Or.inr ⟨i, by omega, a, b, fun j' hj' e => by have := h5 j' hj' hi; rw [e, a] at this; omega⟩
    · rintro (⟨j', a, b, c⟩ | ⟨i', a, b, c, d⟩)
      · exact Or.inl (Or.inl ⟨j', a, b, c⟩)
      · by_cases z : i' = i
        · exact Or.inr ⟨z ▸ b, z ▸ c⟩
        · exact Or.inl (Or.inr ⟨i', by omega, b, c, d⟩)
  · by_cases z : i' = i
    · rw [z]; exact hj g2
    · exact h4 i' (by omega) g2
  · exact Int.lt_trans (h5 j' g1 hi) (hO.1 i (i + 1) (by omega) g2)
theorem k_mg_new {O Y R : KR} {i j : Nat} (hY : k_srt Y.1 Y.2.1) (h : k_mgi O Y i j R) (hj : j < Y.1) (hi : i < O.1 → (Y.2.1 j).toInt < (O.2.1 i).toInt) : k_mgi O Y i (j + 1) (k_push R (Y.2.1 j) (Y.2.2 j)) := by
  obtain ⟨h1, h2, h3, h4, h5⟩ := h
  refine ⟨k_push_srt h1 (fun t ht => (h2 t ht).2 hj) (hY.2 j hj), fun t ht => ⟨fun g => ?_, fun g => ?_⟩, fun k v => ?_, fun i' g1 g2 => ?_, fun j' g1 g2 => ?_⟩
  · exact k_push_key (fun x => x.toInt < (O.2.1 i).toInt) (fun t ht => (h2 t ht).1 g) (hi g) ht
  · have := hY.1 j (j + 1) (by omega) g
    exact k_push_key (fun x => x.toInt < (Y.2.1 (j + 1)).toInt) (fun t ht => Int.lt_trans ((h2 t ht).2 hj) this) this ht
  · rw [k_push_mem, h3]
    constructor
    · rintro ((⟨j', a, b, c⟩ | ⟨i', a, b, c, d⟩) | ⟨a, b⟩)
      · exact Or.inl ⟨j', by omega, b, c⟩
      · refine Or.inr ⟨i', a, b, c, fun j' hj' e => ?_⟩
        by_cases z : j' = j
        · have := h4 i' a hj; rw [b, ← e, z] at this; omega
        · exact d j' (by omega) e
      · exact Or.inl ⟨j, by omega, a, b⟩
    · rintro (⟨j', a, b, c⟩ | ⟨i', a, b, c, d⟩)
      · by_cases z : j' = j
        · exact Or.inr ⟨z ▸ b, z ▸ c⟩
        · exact Or.inl (Or.inl ⟨j', by omega, b, c⟩)
      · exact Or.inl (Or.inr ⟨i', a, b, c, fun j' hj' => d j' (by omega)⟩)
  · exact Int.lt_trans (h4 i' g1 hj) (hY.1 j (j + 1) (by omega) g2)
  · by_cases z : j' = j
    · rw [z]; exact hi g2
    · exact h5 j' (by omega) g2
theorem k_mg_both {O Y R : KR} {i j : Nat} (hO : k_srt O.1 O.2.1) (hY : k_srt Y.1 Y.2.1) (h : k_mgi O Y i j R) (hj : j < Y.1) (hi : i < O.1) (e : O.2.1 i = Y.2.1 j) : k_mgi O Y (i + 1) (j + 1) (k_push R (Y.2.1 j) (Y.2.2 j)) := by
  obtain ⟨h1, h2, h3, h4, h5⟩ := h
  refine ⟨k_push_srt h1 (fun t ht => (h2 t ht).2 hj) (hY.2 j hj), fun t ht => ⟨fun g => ?_, fun g => ?_⟩, fun k v => ?_, fun i' g1 g2 => ?_, fun j' g1 g2 => ?_⟩
  · have := hO.1 i (i + 1) (by omega) g
    exact k_push_key (fun x => x.toInt < (O.2.1 (i + 1)).toInt) (fun t ht => Int.lt_trans ((h2 t ht).1 hi) this) (by rw [← e]; exact this) ht
  · have := hY.1 j (j + 1) (by omega) g
    exact k_push_key (fun x => x.toInt < (Y.2.1 (j + 1)).toInt) (fun t ht => Int.lt_trans ((h2 t ht).2 hj) this) this ht
  · rw [k_push_mem, h3]
    constructor
    · rintro ((⟨j', a, b, c⟩ | ⟨i', a, b, c, d⟩) | ⟨a, b⟩)
      · exact Or.inl ⟨j', by omega, b, c⟩
      · refine Or.inr ⟨i', by omega, b, c, fun j' hj' e2 => ?_⟩
        by_cases z : j' = j
        · have := h4 i' a hj; rw [b, ← e2, z] at this; omega
        · exact d j' (by omega) e2
      · exact Or.inl ⟨j, by omega, a, b⟩
    · rintro (⟨j', a, b, c⟩ | ⟨i', a, b, c, d⟩)
      · by_cases z : j' = j
        · exact Or.inr ⟨z ▸ b, z ▸ c⟩
        · exact Or.inl (Or.inl ⟨j', by omega, b, c⟩)
      · by_cases z : i' = i
        · exact absurd (by rw [← e, ← z]; exact b) (d j (by omega))
        · exact Or.inl (Or.inr ⟨i', by omega, b, c, fun j' hj' => d j' (by omega)⟩)
  · by_cases z : i' = i
    · rw [z, e]; exact hY.1 j (j + 1) (by omega) g2
    · exact Int.lt_trans (h4 i' (by omega) hj) (hY.1 j (j + 1) (by omega) g2)
  · by_cases z : j' = j
    · rw [z, ← e]; exact hO.1 i (i + 1) (by omega) g2
    · exact Int.lt_trans (h5 j' (by omega) hi) (hO.1 i (i + 1) (by omega) g2)
section KRM
variable {wz : Nat}
variable {N : Nat} {b c a0 a1 c0 c1 : Nat} {O Y : KR}
theorem k_merge_loop (hO : k_srt O.1 O.2.1) (hY : k_srt Y.1 Y.2.1) (hcap : O.1 + Y.1 ≤ c) (d0 : a0 + 3 ≤ b ∨ b + 3 ≤ a0) (d1 : a1 + 3 ≤ b ∨ b + 3 ≤ a1) : ∀ (d fuel i j s : Nat) (f : XM) (R : KR), s + d = O.1 + Y.1 → d < fuel → i ≤ O.1 → j ≤ Y.1 → s ≤ i + j → R.1 ≤ i + j → k_row f b c R → k_row f a0 c0 O → k_row f a1 c1 Y → k_mgi O Y i j R →
    ∃ (f' : XM) (R' : KR), F_X2_mergeOf_L24 N b a0 a1 (nI (O.1 + Y.1)) (fun _ _ _ g => some g) fuel (nI i) (nI j) (nI s) f = some f' ∧ k_row f' b c R' ∧ k_fr f f' b (b + 3) ∧ k_mgi O Y O.1 Y.1 R' ∧ R'.1 ≤ O.1 + Y.1 := by
  intro d
  induction d with
  | zero =>
    intro fuel i j s f R h1 h2 h3 h4 h5 h6 hb h0 hy hI
    have hc := hb.c4
    obtain ⟨u, rfl⟩ : ∃ u, fuel = u + 1 := ⟨fuel - 1, by omega⟩
    have e1 : i = O.1 := by omega
    have e2 : j = Y.1 := by omega
    subst e1
    subst e2
    refine ⟨f, R, ?_, hb, k_fr.rf, hI, by omega⟩
    rw [F_X2_mergeOf_L24, if_pos (nI_le (by omega) (by omega))]
  | succ d ih =>
    intro fuel i j s f R h1 h2 h3 h4 h5 h6 hb h0 hy hI
    have hc := hb.c4
    obtain ⟨u, rfl⟩ : ∃ u, fuel = u + 1 := ⟨fuel - 1, by omega⟩
    have ei := k_has_n (N := N) h0 (i := i) (by omega)
    have ej := k_has_n (N := N) hy (i := j) (by omega)
    by_cases hi : i < O.1
    · have ki := k_keyOn (N := N) h0 hi
      have vi := k_valueOn (N := N) h0 hi
      rw [decide_eq_true hi] at ei
      by_cases hj : j < Y.1
      · have kj := k_keyOn (N := N) hy hj
        have vj := k_valueOn (N := N) hy hj
        rw [decide_eq_true hj] at ej
        by_cases hlt : O.2.1 i < Y.2.1 j
        · obtain ⟨f1, g1, g2, g3⟩ := k_addLast (N := N) hb (by omega) (O.2.1 i) (O.2.2 i)
          obtain ⟨f', R', r1, r2, r3, r4, r5⟩ := ih u (i + 1) j (s + 1) f1 (k_push R (O.2.1 i) (O.2.2 i)) (by omega) (by omega) (by omega) h4 (by omega) (by show R.1 + 1 ≤ _; omega) g2 (h0.fr g3 (by omega)) (hy.fr g3 (by omega)) (k_mg_old hO hI hi (fun _ => by rw [k_i_lt] at hlt; exact hlt))
          refine ⟨f', R', ?_, r2, g3.tr r3, r4, r5⟩
          rw [F_X2_mergeOf_L24, if_neg (nI_ge (by omega) (by omega))]
          simp only [hb.cv, h0.cv, hy.cv, ei, ej, ki, vi, kj, vj, Option.bind_some, k_xb_t, k_xb_f, k_i10, k_i00, if_true, if_false, if_pos hlt, g1, k_add1]
          exact r1
        · by_cases he : O.2.1 i = Y.2.1 j
          · obtain ⟨f1, g1, g2, g3⟩ := k_addLast (N := N) hb (by omega) (Y.2.1 j) (Y.2.2 j)
            obtain ⟨f', R', r1, r2, r3, r4, r5⟩ := ih u (i + 1) (j + 1) (s + 1) f1 (k_push R (Y.2.1 j) (Y.2.2 j)) (by omega) (by omega) (by omega) (by omega) (by omega) (by show R.1 + 1 ≤ _; omega) g2 (h0.fr g3 (by omega)) (hy.fr g3 (by omega)) (k_mg_both hO hY hI hj hi he)
            refine ⟨f', R', ?_, r2, g3.tr r3, r4, r5⟩
            rw [F_X2_mergeOf_L24, if_neg (nI_ge (by omega) (by omega))]
            simp only [hb.cv, h0.cv, hy.cv, ei, ej, ki, vi, kj, vj, Option.bind_some, k_xb_t, k_xb_f, k_i10, k_i00, if_true, if_false, if_neg hlt, if_pos he, g1, k_add1]
            exact r1
          · have hgt : (Y.2.1 j).toInt < (O.2.1 i).toInt := by
              rw [k_i_lt] at hlt
              rw [k_i_eq] at he
              omega
            obtain ⟨f1, g1, g2, g3⟩ := k_addLast (N := N) hb (by omega) (Y.2.1 j) (Y.2.2 j)
            obtain ⟨f', R', r1, r2, r3, r4, r5⟩ := ih u i (j + 1) (s + 1) f1 (k_push R (Y.2.1 j) (Y.2.2 j)) (by omega) (by omega) (by omega) (by omega) (by omega) (by show R.1 + 1 ≤ _; omega) g2 (h0.fr g3 (by omega)) (hy.fr g3 (by omega)) (k_mg_new hY hI hj (fun _ => hgt))
            refine ⟨f', R', ?_, r2, g3.tr r3, r4, r5⟩
            rw [F_X2_mergeOf_L24, if_neg (nI_ge (by omega) (by omega))]
            simp only [hb.cv, h0.cv, hy.cv, ei, ej, ki, vi, kj, vj, Option.bind_some, k_xb_t, k_xb_f, k_i10, k_i00, if_true, if_false, if_neg hlt, if_neg he, g1, k_add1]
            exact r1
      · rw [decide_eq_false hj] at ej
        obtain ⟨f1, g1, g2, g3⟩ := k_addLast (N := N) hb (by omega) (O.2.1 i) (O.2.2 i)
        obtain ⟨f', R', r1, r2, r3, r4, r5⟩ := ih u (i + 1) j (s + 1) f1 (k_push R (O.2.1 i) (O.2.2 i)) (by omega) (by omega) (by omega) h4 (by omega) (by show R.1 + 1 ≤ _; omega) g2 (h0.fr g3 (by omega)) (hy.fr g3 (by omega)) (k_mg_old hO hI hi (fun z => absurd z hj))
        refine ⟨f', R', ?_, r2, g3.tr r3, r4, r5⟩
        rw [F_X2_mergeOf_L24, if_neg (nI_ge (by omega) (by omega))]
        simp only [hb.cv, h0.cv, hy.cv, ei, ej, ki, vi, Option.bind_some, k_xb_t, k_xb_f, k_i10, k_i00, if_true, if_false, g1, k_add1]
        exact r1
    · have ki := k_keyOn_o (N := N) h0 (i := nI i) (Or.inr (by rw [nI_toInt (by have := h0.c4; have := h0.le; omega)]; omega))
      rw [decide_eq_false hi] at ei
      by_cases hj : j < Y.1
      · have kj := k_keyOn (N := N) hy hj
        have vj := k_valueOn (N := N) hy hj
        rw [decide_eq_true hj] at ej
        have he : ¬ (-1 : Int32) = Y.2.1 j := fun z => by
          have := (hY.2 j hj).1
          rw [← z] at this
          exact absurd this (by decide)
        obtain ⟨f1, g1, g2, g3⟩ := k_addLast (N := N) hb (by omega) (Y.2.1 j) (Y.2.2 j)
        obtain ⟨f', R', r1, r2, r3, r4, r5⟩ := ih u i (j + 1) (s + 1) f1 (k_push R (Y.2.1 j) (Y.2.2 j)) (by omega) (by omega) (by omega) (by omega) (by omega) (by show R.1 + 1 ≤ _; omega) g2 (h0.fr g3 (by omega)) (hy.fr g3 (by omega)) (k_mg_new hY hI hj (fun z => absurd z hi))
        refine ⟨f', R', ?_, r2, g3.tr r3, r4, r5⟩
        rw [F_X2_mergeOf_L24, if_neg (nI_ge (by omega) (by omega))]
        simp only [hb.cv, h0.cv, hy.cv, ei, ej, ki, kj, vj, Option.bind_some, k_xb_t, k_xb_f, k_i10, k_i00, if_true, if_false, if_neg he, g1, k_add1]
        exact r1
      · rw [decide_eq_false hj] at ej
        have e1 : i = O.1 := by omega
        have e2 : j = Y.1 := by omega
        subst e1
        subst e2
        refine ⟨f, R, ?_, hb, k_fr.rf, hI, by omega⟩
        rw [F_X2_mergeOf_L24, if_neg (nI_ge (by omega) (by omega))]
        simp only [h0.cv, hy.cv, ei, ej, Option.bind_some, k_xb_f, if_true]
theorem k_mergeOf {f : XM} {R : KR} (hN : 5000 ≤ N) (hO : k_srt O.1 O.2.1) (hY : k_srt Y.1 Y.2.1) (hcap : O.1 + Y.1 ≤ c) (d0 : a0 + 3 ≤ b ∨ b + 3 ≤ a0) (d1 : a1 + 3 ≤ b ∨ b + 3 ≤ a1) (hb : k_row f b c R) (h0 : k_row f a0 c0 O) (h1 : k_row f a1 c1 Y) :
    ∃ (f' : XM) (R' : KR), F_X2_mergeOf N f b a0 a1 = some f' ∧ k_row f' b c R' ∧ k_fr f f' b (b + 3) ∧ k_mgd O Y R' ∧ R'.1 ≤ O.1 + Y.1 := by
  have hc := hb.c4
  obtain ⟨f1, g1, g2, g3⟩ := k_clear (N := N) hb
  have e1 : x_puti f 2 b 2 0 = some f1 := by
    unfold F_X2_clear at g1
    obtain ⟨v, h, h2⟩ := x_bind g1
    cases h2
    exact h
  have q0 := h0.fr g3 (by omega)
  have q1 := h1.fr g3 (by omega)
  obtain ⟨f', R', r1, r2, r3, r4, r5⟩ := k_merge_loop (N := N) hO hY hcap d0 d1 (O.1 + Y.1) N 0 0 0 f1 (0, R.2) (by omega) (by omega) (by omega) (by omega) (by omega) (by omega) g2 q0 q1
    ⟨⟨fun i j _ hj => absurd hj (Nat.not_lt_zero _), fun i hi => absurd hi (Nat.not_lt_zero _)⟩, fun t ht => absurd ht (Nat.not_lt_zero _), fun k v => ⟨fun ⟨i, hi, _⟩ => absurd hi (Nat.not_lt_zero _), fun z => by
      rcases z with ⟨j, hj, _⟩ | ⟨j, hj, _⟩
      · exact absurd hj (Nat.not_lt_zero _)
      · exact absurd hj (Nat.not_lt_zero _)⟩, fun i hi => absurd hi (Nat.not_lt_zero _), fun i hi => absurd hi (Nat.not_lt_zero _)⟩
  refine ⟨f', R', ?_, r2, g3.tr r3, ⟨r4.1, fun k v => ?_⟩, r5⟩
  · simp only [F_X2_mergeOf, e1, q0.n, q1.n, Option.bind_some, nI_add]
    exact r1
  · rw [r4.2.2.1]
    constructor
    · rintro (⟨j, a, b, c⟩ | ⟨i, a, b, c, d⟩)
      · exact Or.inl ⟨j, a, b, c⟩
      · exact Or.inr ⟨⟨i, a, b, c⟩, d⟩
    · rintro (⟨j, a, b, c⟩ | ⟨⟨i, a, b, c⟩, d⟩)
      · exact Or.inl ⟨j, a, b, c⟩
      · exact Or.inr ⟨i, a, b, c, d⟩
end KRM

