/-! Rows: what is gone, standing, counting. -/
/-- behind i places of R, m of them kept -/
def k_tgi (R : KR) (i : Nat) (Q : KR) : Prop := k_srt Q.1 Q.2.1 ∧ (∀ t, t < Q.1 → i < R.1 → (Q.2.1 t).toInt < (R.2.1 i).toInt) ∧ (∀ k v, k_mem Q k v ↔ ∃ j, j < i ∧ R.2.1 j = k ∧ R.2.2 j = v ∧ v ≠ -1)
section KRS
variable {wz : Nat}
variable {N : Nat} {b c : Nat} {R : KR}
theorem k_gone_loop (hs : k_srt R.1 R.2.1) (hn : R.1 ≤ c) (hc : c ≤ 4000) : ∀ (d fuel i : Nat) (f : XM) (Q : KR) (gk gv : Nat → Int32), i + d = R.1 → d < fuel → Q.1 ≤ i → f b = some (.inr (2, [.ref (b + 1), .ref (b + 2), .int (nI R.1)])) → f (b + 1) = some (.inl (.int, c, .inl gk)) → f (b + 2) = some (.inl (.int, c, .inl gv)) →
    (∀ t, t < Q.1 → gk t = Q.2.1 t ∧ gv t = Q.2.2 t) → (∀ t, i ≤ t → t < R.1 → gk t = R.2.1 t ∧ gv t = R.2.2 t) → k_tgi R i Q →
    ∃ (f' : XM) (Q' : KR), F_X2_takeOutGone_L4 N b (fun y1 _ g => (x_puti g 2 b 2 y1).bind fun f25 => some f25) fuel (nI Q.1) (nI i) f = some f' ∧ k_row f' b c Q' ∧ k_fr f f' b (b + 3) ∧ k_tgi R R.1 Q' ∧ Q'.1 ≤ R.1 := by
  intro d
  induction d with
  | zero =>
    intro fuel i f Q gk gv h1 h2 h3 hb hk hv q1 q2 hI
    obtain ⟨u, rfl⟩ : ∃ u, fuel = u + 1 := ⟨fuel - 1, by omega⟩
    have e : i = R.1 := by omega
    subst e
    refine ⟨_, Q, ?_, ⟨by omega, hc, gk, gv, x_up_s, (x_up_n (by omega)).trans hk, (x_up_n (by omega)).trans hv, fun t ht => (q1 t ht).1, fun t ht => (q1 t ht).2⟩, k_fr.up (a := b) (by omega) (by omega), hI, h3⟩
    simp only [F_X2_takeOutGone_L4, k_geti hb (k := 2) rfl, Option.bind_some]
    rw [if_pos (nI_le (Nat.le_refl _) (by omega))]
    simp only [k_puti hb (k := 2) (by simp), Option.bind_some]
    rfl
  | succ d ih =>
    intro fuel i f Q gk gv h1 h2 h3 hb hk hv q1 q2 hI
    obtain ⟨u, rfl⟩ : ∃ u, fuel = u + 1 := ⟨fuel - 1, by omega⟩
    have hi : i < R.1 := by omega
    obtain ⟨i1, i2, i3⟩ := hI
    by_cases hg : R.2.2 i = -1
    · obtain ⟨f', Q', r1, r2, r3, r4, r5⟩ := ih u (i + 1) f Q gk gv (by omega) (by omega) (by omega) hb hk hv q1 (fun t h4 h5 => q2 t (by omega) h5)
        ⟨i1, fun t ht h4 => Int.lt_trans (i2 t ht hi) (hs.1 i (i + 1) (by omega) h4), fun k v => by
          rw [i3]
          constructor
          · rintro ⟨j, a, b, c, d⟩
            exact ⟨j, by omega, b, c, d⟩
          · rintro ⟨j, a, b, c, d⟩
            by_cases z : j = i
            · rw [z, hg] at c; exact absurd c.symm d
            · exact ⟨j, by omega, b, c, d⟩⟩
      refine ⟨f', Q', ?_, r2, r3, r4, r5⟩
      simp only [F_X2_takeOutGone_L4, k_geti hb (k := 2) rfl, k_getr hb (k := 0) rfl, k_getr hb (k := 1) rfl, k_alen hk, k_alen hv, Option.bind_some, k_ald hv (i := i) (by omega) (by omega), (q2 i (Nat.le_refl _) hi).2]
      rw [if_neg (nI_ge (by omega) (by omega)), if_neg (nI_ge (by omega) (by omega)), if_neg (nI_ge (by omega) (by omega)), if_pos hg, k_add1]
      exact r1
    · have s1 := k_ast (v := gk i) hk (i := Q.1) (by omega) (by omega)
      have b1 : x_up f (b + 1) (.inl (.int, c, .inl (upd gk Q.1 (gk i)))) b = _ := (x_up_n (by omega)).trans hb
      have v1 : x_up f (b + 1) (.inl (.int, c, .inl (upd gk Q.1 (gk i)))) (b + 2) = _ := (x_up_n (by omega)).trans hv
      have s2 := k_ast (v := gv i) v1 (i := Q.1) (by omega) (by omega)
      have hsx := q2 i (Nat.le_refl _) hi
      obtain ⟨f', Q', r1, r2, r3, r4, r5⟩ := ih u (i + 1) (x_up (x_up f (b + 1) (.inl (.int, c, .inl (upd gk Q.1 (gk i))))) (b + 2) (.inl (.int, c, .inl (upd gv Q.1 (gv i))))) (k_push Q (R.2.1 i) (R.2.2 i)) _ _ (by omega) (by omega) (by show Q.1 + 1 ≤ _; omega) ((x_up_n (by omega)).trans b1) ((x_up_n (by omega)).trans x_up_s) x_up_s
        (fun t ht => by
          have ht' : t < Q.1 + 1 := ht
          show upd gk Q.1 (gk i) t = upd Q.2.1 Q.1 (R.2.1 i) t ∧ upd gv Q.1 (gv i) t = upd Q.2.2 Q.1 (R.2.2 i) t
          by_cases z : t = Q.1
          · rw [z, k_upd_s, k_upd_s, k_upd_s, k_upd_s]; exact hsx
          · rw [k_upd_n z, k_upd_n z, k_upd_n z, k_upd_n z]; exact q1 t (by omega))
        (fun t h4 h5 => by
          rw [k_upd_n (by omega), k_upd_n (by omega)]; exact q2 t (by omega) h5)
        ⟨k_push_srt i1 (fun t ht => i2 t ht hi) (hs.2 i hi), fun t ht h4 => k_push_key (fun x => x.toInt < (R.2.1 (i + 1)).toInt) (fun t ht => Int.lt_trans (i2 t ht hi) (hs.1 i (i + 1) (by omega) h4)) (hs.1 i (i + 1) (by omega) h4) ht, fun k v => by
          rw [k_push_mem, i3]
          constructor
          · rintro (⟨j, a, b, c, d⟩ | ⟨a, b⟩)
            · exact ⟨j, by omega, b, c, d⟩
            · exact ⟨i, by omega, a, b, b ▸ hg⟩
          · rintro ⟨j, a, b, c, d⟩
            by_cases z : j = i
            · exact Or.inr ⟨z ▸ b, z ▸ c⟩
            · exact Or.inl ⟨j, by omega, b, c, d⟩⟩
      refine ⟨f', Q', ?_, r2, ((k_fr.up (a := b + 1) (by omega) (by omega)).upd (by omega) (by omega)).tr r3, r4, r5⟩
      simp only [F_X2_takeOutGone_L4, k_geti hb (k := 2) rfl, k_getr hb (k := 0) rfl, k_getr hb (k := 1) rfl, k_alen hk, k_alen hv, Option.bind_some, k_ald hv (i := i) (by omega) (by omega), k_ald hk (i := i) (by omega) (by omega)]
      rw [if_neg (nI_ge (by omega) (by omega)), if_neg (nI_ge (by omega) (by omega)), if_neg (nI_ge (by omega) (by omega)), if_neg (by rw [hsx.2]; exact hg)]
      simp only [s1, k_getr b1 (k := 1) rfl, Option.bind_some, k_ald v1 (i := i) (by omega) (by omega), s2, k_add1]
      exact r1
theorem k_takeOutGone {f : XM} (hN : 5000 ≤ N) (h : k_row f b c R) (hs : k_srt R.1 R.2.1) : ∃ (f' : XM) (Q : KR), F_X2_takeOutGone N f b = some f' ∧ k_row f' b c Q ∧ k_fr f f' b (b + 3) ∧ k_srt Q.1 Q.2.1 ∧ (∀ k v, k_mem Q k v ↔ k_mem R k v ∧ v ≠ -1) ∧ Q.1 ≤ R.1 := by
  obtain ⟨h1, h2, gk, gv, h3, h4, h5, h6, h7⟩ := h
  obtain ⟨f', Q', r1, r2, r3, r4, r5⟩ := k_gone_loop (N := N) hs h1 h2 R.1 N 0 f (0, R.2) gk gv (by omega) (by omega) (by omega) h3 h4 h5 (fun t ht => absurd ht (Nat.not_lt_zero _)) (fun t _ ht => ⟨h6 t ht, h7 t ht⟩)
    ⟨⟨fun i j _ hj => absurd hj (Nat.not_lt_zero _), fun i hi => absurd hi (Nat.not_lt_zero _)⟩, fun t ht => absurd ht (Nat.not_lt_zero _), fun k v => ⟨fun ⟨i, hi, _⟩ => absurd hi (Nat.not_lt_zero _), fun ⟨i, hi, _⟩ => absurd hi (Nat.not_lt_zero _)⟩⟩
  refine ⟨f', Q', r1, r2, r3, r4.1, fun k v => ?_, r5⟩
  rw [r4.2.2]
  constructor
  · rintro ⟨j, a, b, c, d⟩
    exact ⟨⟨j, a, b, c⟩, d⟩
  · rintro ⟨⟨j, a, b, c⟩, d⟩
    exact ⟨j, a, b, c, d⟩
theorem k_stands_loop {f : XM} (h : k_row f b c R) (hs : k_srt R.1 R.2.1) (k : Int32) (z : Bool) : ∀ (d fuel i : Nat), i + d = R.1 → d < fuel →
    F_X2_standsAfter_L5 N f b k (fun y _ => some y) fuel (if k_pl R.1 R.2.1 k < i then decide (R.2.2 (k_pl R.1 R.2.1 k) ≠ -1) else z) (nI i) = some (if k_pl R.1 R.2.1 k < R.1 then decide (R.2.2 (k_pl R.1 R.2.1 k) ≠ -1) else z) := by
  have hl := h.le
  have hc := h.c4
  intro d
  induction d with
  | zero =>
    intro fuel i h1 h2
    obtain ⟨u, rfl⟩ : ∃ u, fuel = u + 1 := ⟨fuel - 1, by omega⟩
    have e : i = R.1 := by omega
    subst e
    simp only [F_X2_standsAfter_L5, h.n, Option.bind_some]
    rw [if_pos (nI_le (Nat.le_refl _) (by omega))]
  | succ d ih =>
    intro fuel i h1 h2
    obtain ⟨u, rfl⟩ : ∃ u, fuel = u + 1 := ⟨fuel - 1, by omega⟩
    have hi : i < R.1 := by omega
    have i2 := ih u (i + 1) (by omega) (by omega)
    simp only [F_X2_standsAfter_L5, h.n, h.cv, k_keyOn h hi, k_valueOn h hi, Option.bind_some, k_add1]
    rw [if_neg (nI_ge (by omega) (by omega))]
    by_cases he : R.2.1 i = k
    · have hp : k_pl R.1 R.2.1 k = i := by rw [← he]; exact k_pl_eq hs hi
      rw [if_pos (show k_pl R.1 R.2.1 k < i + 1 by omega), hp] at i2
      rw [if_pos he]
      by_cases hv : R.2.2 i = -1
      · rw [if_pos hv]
        rw [decide_eq_false (fun hne => hne hv)] at i2
        rw [hp]
        rw [decide_eq_false (fun hne => hne hv)]
        exact i2
      · rw [if_neg hv]
        rw [decide_eq_true hv] at i2
        rw [hp]
        rw [decide_eq_true hv]
        exact i2
    · rw [if_neg he]
      have hp : k_pl R.1 R.2.1 k ≠ i := fun e => he (by rw [← e]; exact k_pl_at (by omega))
      by_cases hq : k_pl R.1 R.2.1 k < i
      · rw [if_pos (show k_pl R.1 R.2.1 k < i + 1 by omega)] at i2
        rw [if_pos hq]
        exact i2
      · rw [if_neg (show ¬ k_pl R.1 R.2.1 k < i + 1 by omega)] at i2
        rw [if_neg hq]
        exact i2
theorem k_standsAfter {f : XM} (hN : 5000 ≤ N) (h : k_row f b c R) (hs : k_srt R.1 R.2.1) (k : Int32) (z : Bool) : F_X2_standsAfter N f b k z = some (if k_pl R.1 R.2.1 k < R.1 then decide (R.2.2 (k_pl R.1 R.2.1 k) ≠ -1) else z) := by
  have hl := h.le
  have hc := h.c4
  have := k_stands_loop (N := N) h hs k z R.1 N 0 (by omega) (by omega)
  rw [if_neg (Nat.not_lt_zero _)] at this
  exact this
/-- how many keys lie from lo to hi -/
def k_btw (n : Nat) (g : Nat → Int32) (lo hi : Int32) : Nat := k_cnt (fun i => decide (lo.toInt ≤ (g i).toInt ∧ (g i).toInt ≤ hi.toInt)) n
theorem k_count_loop {f : XM} (h : k_row f b c R) (hs : k_srt R.1 R.2.1) (lo hi : Int32) : ∀ (d fuel i : Nat), i + d = R.1 → d < fuel → k_rk R.1 R.2.1 lo ≤ i →
    F_X2_countFrom_L9 N f b hi (fun y _ => some y) fuel (nI (k_btw i R.2.1 lo hi)) (nI i) = some (nI (k_btw R.1 R.2.1 lo hi)) := by
  have hl := h.le
  have hc := h.c4
  intro d
  induction d with
  | zero =>
    intro fuel i h1 h2 h3
    obtain ⟨u, rfl⟩ : ∃ u, fuel = u + 1 := ⟨fuel - 1, by omega⟩
    have e : i = R.1 := by omega
    subst e
    simp only [F_X2_countFrom_L9, h.n, Option.bind_some]
    rw [if_pos (nI_le (Nat.le_refl _) (by omega))]
  | succ d ih =>
    intro fuel i h1 h2 h3
    obtain ⟨u, rfl⟩ : ∃ u, fuel = u + 1 := ⟨fuel - 1, by omega⟩
    have hi' : i < R.1 := by omega
    simp only [F_X2_countFrom_L9, h.n, h.cv, k_keyOn h hi', Option.bind_some, k_add1]
    rw [if_neg (nI_ge (by omega) (by omega))]
    by_cases he : hi < R.2.1 i
    · rw [if_pos he]
      congr 2
      refine (k_cnt_tail (by omega) (fun j h4 h5 => decide_eq_false ?_)).symm
      rw [k_i_lt] at he
      rcases Nat.eq_or_lt_of_le h4 with g | g
      · rw [← g]; omega
      · have := hs.1 i j g h5; omega
    · rw [if_neg he]
      have : k_btw (i + 1) R.2.1 lo hi = k_btw i R.2.1 lo hi + 1 := k_cnt_y (decide_eq_true ⟨k_rk_hi hs h3 hi', by rw [k_i_lt] at he; omega⟩)
      rw [← this]
      exact ih u (i + 1) (by omega) (by omega) (by omega)
theorem k_countFrom {f : XM} (hN : 5000 ≤ N) (h : k_row f b c R) (hs : k_srt R.1 R.2.1) (lo hi : Int32) : F_X2_countFrom N f b lo hi = some (nI (k_btw R.1 R.2.1 lo hi)) := by
  have hl := h.le
  have hc := h.c4
  have hr := k_rk_le R.1 R.2.1 lo
  have e : k_btw (k_rk R.1 R.2.1 lo) R.2.1 lo hi = 0 := k_cnt_0 (fun j hj => decide_eq_false (by have := k_rk_lo hj; omega))
  have := k_count_loop (N := N) h hs lo hi (R.1 - k_rk R.1 R.2.1 lo) N (k_rk R.1 R.2.1 lo) (by omega) (by omega) (Nat.le_refl _)
  rw [e] at this
  simp only [F_X2_countFrom, h.cv, k_firstFrom (N := N) (by omega) h hs, Option.bind_some]
  exact this
end KRS

