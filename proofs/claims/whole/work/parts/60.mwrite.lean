/-! The reference: a key written into a run; states laid aside. -/
/-- run r, as it lies -/
def k_rr (G : Nat → Int32) (r : Nat) (R : KR) : Prop := G (9 + 121 * r) = nI R.1 ∧ ∀ i, i < R.1 → G (10 + 121 * r + 2 * i) = R.2.1 i ∧ G (11 + 121 * r + 2 * i) = R.2.2 i
section KMW
variable {N : Nat} {f : XM} {m c r : Nat} {V : KM} {R : KR}
theorem k_size' (h : k_mo f m V) (hr : r ≤ 6) (hR : k_rr (V.1 1) r R) : F_X6_size N f m (nI r) = some (nI R.1) := by
  simp only [F_X6_size, h.r0, k_ixs, k_ld1 h (i := 9 + 121 * r) (by omega), Option.bind_some, hR.1]
theorem k_key' (h : k_mo f m V) (hr : r ≤ 6) {p : Nat} (hp : p < 60) : F_X6_key N f m (nI r) (nI p) = some (V.1 1 (10 + 121 * r + 2 * p)) := by
  simp only [F_X6_key, h.r0, k_ixk, k_ld1 h (i := 10 + 121 * r + 2 * p) (by omega), Option.bind_some]
theorem k_value' (h : k_mo f m V) (hr : r ≤ 6) {p : Nat} (hp : p < 60) : F_X6_value N f m (nI r) (nI p) = some (V.1 1 (11 + 121 * r + 2 * p)) := by
  simp only [F_X6_value, h.r0, k_ixv, k_ld1 h (i := 11 + 121 * r + 2 * p) (by omega), Option.bind_some]
theorem k_pi_loop' (h : k_mo f m V) (hr : r ≤ 6) (hR : k_rr (V.1 1) r R) (hn : R.1 ≤ 60) (k : Int32) : ∀ (d fuel i : Nat), i + d = R.1 → d < fuel → (∀ j, j < i → R.2.1 j ≠ k) →
    F_X6_placeIn_L2 N f m (nI r) k (fun _ => some (-1)) fuel (nI i) = some (if k_pl R.1 R.2.1 k < R.1 then nI (k_pl R.1 R.2.1 k) else -1) := by
  intro d
  induction d with
  | zero =>
    intro fuel i h1 h2 h3
    obtain ⟨u, rfl⟩ : ∃ u, fuel = u + 1 := ⟨fuel - 1, by omega⟩
    simp only [F_X6_placeIn_L2, h.cv, k_size' h hr hR, Option.bind_some]
    rw [if_pos (nI_le (by omega) (by omega)), if_neg (fun z => h3 _ (by omega) (k_pl_at z))]
  | succ d ih =>
    intro fuel i h1 h2 h3
    obtain ⟨u, rfl⟩ : ∃ u, fuel = u + 1 := ⟨fuel - 1, by omega⟩
    simp only [F_X6_placeIn_L2, h.cv, k_size' h hr hR, k_key' h hr (p := i) (by omega), (hR.2 i (by omega)).1, Option.bind_some, k_add1]
    rw [if_neg (nI_ge (by omega) (by omega))]
    by_cases g : R.2.1 i = k
    · have e : k_pl R.1 R.2.1 k = i := k_fst_eq (by omega) (fun j hj => decide_eq_false (h3 j hj)) (fun _ => decide_eq_true g)
      rw [if_pos g, e, if_pos (by omega)]
    · rw [if_neg g]
      exact ih u (i + 1) (by omega) (by omega) (fun j hj => by
        by_cases z : j = i
        · rw [z]; exact g
        · exact h3 j (by omega))
theorem k_placeIn' (hN : 1000 ≤ N) (h : k_mo f m V) (hr : r ≤ 6) (hR : k_rr (V.1 1) r R) (hn : R.1 ≤ 60) (k : Int32) : F_X6_placeIn N f m (nI r) k = some (if k_pl R.1 R.2.1 k < R.1 then nI (k_pl R.1 R.2.1 k) else -1) :=
  k_pi_loop' h hr hR hn k R.1 N 0 (by omega) (by omega) (fun j hj => absurd hj (Nat.not_lt_zero _))
theorem k_ixk1 (r p : Nat) : ((9 + (121 * nI r)) + 1 + (2 * nI p) : Int32) = nI (10 + 121 * r + 2 * p) := k_ixk r p
/-- the shift: behind it the entries from rk on stand one place further -/
theorem k_w_loop (hr : r ≤ 6) (hs : k_srt R.1 R.2.1) (hn : R.1 < 60) {k v : Int32} (hp : ¬ k_pl R.1 R.2.1 k < R.1) {K : Int32 → XM → Option XM} : ∀ (d fuel p : Nat) (f : XM) (V : KM), p = k_rk R.1 R.2.1 k + d → d < fuel → p ≤ R.1 → k_mo f m V → (∀ i, i < p → V.1 1 (10 + 121 * r + 2 * i) = R.2.1 i ∧ V.1 1 (11 + 121 * r + 2 * i) = R.2.2 i) →
    ∃ (f' : XM) (V' : KM), F_X6_writes_L30 N m (nI r) k v (nI (9 + 121 * r)) K fuel (nI p) f = K (nI (k_rk R.1 R.2.1 k)) f' ∧ k_mo f' m V' ∧ k_mx V V' [1] [] ∧ k_fr f f' m (m + 10) ∧
      (∀ a, V'.1 1 a = if 12 + 121 * r + 2 * k_rk R.1 R.2.1 k ≤ a ∧ a < 12 + 121 * r + 2 * p then V.1 1 (a - 2) else V.1 1 a) := by
  have hrk := k_rk_le R.1 R.2.1 k
  intro d
  induction d with
  | zero =>
    intro fuel p f V h1 h2 h3 h hV
    obtain ⟨u, rfl⟩ : ∃ u, fuel = u + 1 := ⟨fuel - 1, by omega⟩
    have e : p = k_rk R.1 R.2.1 k := by omega
    refine ⟨f, V, ?_, h, k_mx.rf, k_fr.rf, fun a => by rw [if_neg (by omega)]⟩
    rw [F_X6_writes_L30]
    by_cases z : p = 0
    · rw [if_pos (by rw [z]; decide), e]
    · obtain ⟨q, hq⟩ : ∃ q, p = q + 1 := ⟨p - 1, by omega⟩
      have hlt : R.2.1 q ≤ k := by
        rw [k_i_le]
        exact Int.le_of_lt (k_rk_lo (n := R.1) (g := R.2.1) (by omega))
      rw [if_neg (show ¬ nI p ≤ 0 from nI_ge (a := 0) (by omega) (by omega)), hq, nI_pred]
      simp only [h.cv, k_key' h hr (p := q) (by omega), (hV q (by omega)).1, Option.bind_some]
      rw [if_pos hlt, ← hq, e]
  | succ d ih =>
    intro fuel p f V h1 h2 h3 h hV
    obtain ⟨u, rfl⟩ : ∃ u, fuel = u + 1 := ⟨fuel - 1, by omega⟩
    obtain ⟨q, hq⟩ : ∃ q, p = q + 1 := ⟨p - 1, by omega⟩
    have hgt : ¬ R.2.1 q ≤ k := by
      have h4 := k_rk_hi hs (show k_rk R.1 R.2.1 k ≤ q by omega) (by omega)
      have h5 := k_pl_no hp (show q < R.1 by omega)
      rw [k_i_le]
      intro h6
      exact h5 (Int32.toInt_inj.mp (by omega))
    obtain ⟨f1, a1, a2, a3⟩ := h.st (a := 1) (i := 10 + 121 * r + 2 * p) (by omega) (by omega) (by show _ < 6696; omega) (R.2.1 q)
    obtain ⟨f2, b1, b2, b3⟩ := a2.st (a := 1) (i := 11 + 121 * r + 2 * p) (by omega) (by omega) (by show _ < 6696; omega) (R.2.2 q)
    have hval : (k_sA V 1 (10 + 121 * r + 2 * p) (R.2.1 q)).1 1 (11 + 121 * r + 2 * q) = R.2.2 q := by
      rw [k_sA_s, k_upd_n (by omega)]; exact (hV q (by omega)).2
    obtain ⟨f', V', r1, r2, r3, r4, r5⟩ := ih u q f2 _ (by omega) (by omega) (by omega) b2 (fun i hi => by
      rw [k_sA_s, k_sA_s, k_upd_n (by omega), k_upd_n (by omega), k_upd_n (by omega), k_upd_n (by omega)]
      exact hV i (by omega))
    have i1 : (nI (9 + 121 * r) + 1 + 2 * nI p : Int32) = nI (10 + 121 * r + 2 * p) := by rw [← k_ixs]; exact k_ixk r p
    have i2 : (nI (9 + 121 * r) + 2 + 2 * nI p : Int32) = nI (11 + 121 * r + 2 * p) := by rw [← k_ixs]; exact k_ixv r p
    refine ⟨f', V', ?_, r2, ((k_sA_mx (by simp)).tr (k_sA_mx (by simp))).tr r3, (a3.tr b3).tr r4, fun a => ?_⟩
    · rw [F_X6_writes_L30, if_neg (show ¬ nI p ≤ 0 from nI_ge (a := 0) (by omega) (by omega))]
      have em : nI p - 1 = nI q := by rw [hq]; exact nI_pred q
      simp only [em, i1, i2, h.cv, k_key' h hr (p := q) (by omega), (hV q (by omega)).1, Option.bind_some]
      rw [if_neg hgt]
      simp only [h.r0, a1, a2.r0, a2.cv, k_value' a2 hr (p := q) (by omega), hval, b1, Option.bind_some]
      rw [hq, pk_m1]
      exact r1
    · rw [r5 a, k_sA_s, k_sA_s]
      by_cases z1 : a = 11 + 121 * r + 2 * p
      · rw [if_neg (by omega), if_pos (by omega), z1, k_upd_s, ← (hV q (by omega)).2]
        exact congrArg (V.1 1) (by omega)
      · by_cases z2 : a = 10 + 121 * r + 2 * p
        · rw [if_neg (by omega), if_pos (by omega), k_upd_n z1, z2, k_upd_s, ← (hV q (by omega)).1]
          exact congrArg (V.1 1) (by omega)
        · by_cases z3 : 12 + 121 * r + 2 * k_rk R.1 R.2.1 k ≤ a ∧ a < 12 + 121 * r + 2 * q
          · rw [if_pos z3, if_pos (by omega), k_upd_n (by omega), k_upd_n (by omega)]
          · rw [if_neg z3, if_neg (by omega), k_upd_n z1, k_upd_n z2]
theorem k_writes (hN : 5000 ≤ N) (h : k_mo f m V) (hr : r ≤ 6) (hR : k_rr (V.1 1) r R) (hs : k_srt R.1 R.2.1) (hn : R.1 ≤ 60) {k : Int32} (v : Int32) (ho : k_pl R.1 R.2.1 k < R.1 ∨ R.1 < 60) :
    ∃ (f' : XM) (V' : KM), F_X6_writes N f m (nI r) k v = some f' ∧ k_mo f' m V' ∧ k_mx V V' [1] [] ∧ k_fr f f' m (m + 10) ∧ k_rr (V'.1 1) r (k_wr R k v) ∧ (∀ a, ¬ (9 + 121 * r ≤ a ∧ a < 130 + 121 * r) → V'.1 1 a = V.1 1 a) := by
  have hrk := k_rk_le R.1 R.2.1 k
  unfold k_wr
  by_cases g : k_pl R.1 R.2.1 k < R.1
  · obtain ⟨f1, a1, a2, a3⟩ := h.st (a := 1) (i := 11 + 121 * r + 2 * k_pl R.1 R.2.1 k) (by omega) (by omega) (by show _ < 6696; omega) v
    refine ⟨f1, _, ?_, a2, k_sA_mx (by simp), a3, ?_, fun a ha => ?_⟩
    · simp only [F_X6_writes, h.cv, k_placeIn' (show 1000 ≤ N by omega) h hr hR hn, Option.bind_some]
      rw [if_pos g, if_neg (k_nim1 _ (by omega))]
      simp only [h.r0, k_ixv, a1, Option.bind_some]
    · rw [if_pos g]
      refine ⟨?_, fun i hi => ⟨?_, ?_⟩⟩
      · rw [k_sA_s, k_upd_n (by omega)]; exact hR.1
      · rw [k_sA_s, k_upd_n (by omega)]; exact (hR.2 i hi).1
      · show _ = upd R.2.2 _ v i
        rw [k_sA_s]
        by_cases z : i = k_pl R.1 R.2.1 k
        · rw [z, k_upd_s, k_upd_s]
        · rw [k_upd_n (by omega), k_upd_n z]; exact (hR.2 i hi).2
    · rw [k_sA_s, k_upd_n (by omega)]
  · have hn' : R.1 < 60 := by rcases ho with y | y; exact absurd y g; exact y
    obtain ⟨f1, V1, l1, l2, l3, l4, l5⟩ := k_w_loop (N := N) (r := r) (R := R) (k := k) (v := v) hr hs hn' g (K := fun y4_16 g16 =>
    (x_getr g16 6 m 0).bind fun v17 =>
    Option.bind v17 fun a18 =>
    (x_ald g16 a18 (9 + (121 * nI r))).bind fun v19 =>
    (x_ast g16 a18 (9 + (121 * nI r)) (v19 + 1)).bind fun f20 =>
    (x_getr f20 6 m 0).bind fun v21 =>
    Option.bind v21 fun a22 =>
    (x_ast f20 a22 (((9 + (121 * nI r)) + 1) + (2 * y4_16)) k).bind fun f23 =>
    (x_getr f23 6 m 0).bind fun v24 =>
    Option.bind v24 fun a25 =>
    (x_ast f23 a25 (((9 + (121 * nI r)) + 2) + (2 * y4_16)) v).bind fun f26 =>
    some f26) (R.1 - k_rk R.1 R.2.1 k) N R.1 f V (by omega) (by omega) (Nat.le_refl _) h hR.2
    have e9 : V1.1 1 (9 + 121 * r) = nI R.1 := by rw [l5, if_neg (by omega)]; exact hR.1
    obtain ⟨f2, a1, a2, a3⟩ := l2.st (a := 1) (i := 9 + 121 * r) (by omega) (by omega) (by show _ < 6696; omega) (nI (R.1 + 1))
    obtain ⟨f3, b1, b2, b3⟩ := a2.st (a := 1) (i := 10 + 121 * r + 2 * k_rk R.1 R.2.1 k) (by omega) (by omega) (by show _ < 6696; omega) k
    obtain ⟨f4, c1, c2, c3⟩ := b2.st (a := 1) (i := 11 + 121 * r + 2 * k_rk R.1 R.2.1 k) (by omega) (by omega) (by show _ < 6696; omega) v
    refine ⟨f4, _, ?_, c2, ((l3.tr (k_sA_mx (by simp))).tr (k_sA_mx (by simp))).tr (k_sA_mx (by simp)), ((l4.tr a3).tr b3).tr c3, ?_, fun a ha => ?_⟩
    · simp only [F_X6_writes, h.cv, k_placeIn' (show 1000 ≤ N by omega) h hr hR hn, Option.bind_some]
      rw [if_neg g, if_pos rfl]
      simp only [k_size' h hr hR, Option.bind_some]
      rw [← k_ixs r] at l1
      refine l1.trans ?_
      simp only [l2.r0, k_ixs, k_ld1 l2 (i := 9 + 121 * r) (by omega), e9, k_add1, a1, Option.bind_some, a2.r0, b2.r0]
      have i1 : (nI (9 + 121 * r) + 1 + 2 * nI (k_rk R.1 R.2.1 k) : Int32) = nI (10 + 121 * r + 2 * k_rk R.1 R.2.1 k) := by rw [← k_ixs]; exact k_ixk r _
      have i2 : (nI (9 + 121 * r) + 2 + 2 * nI (k_rk R.1 R.2.1 k) : Int32) = nI (11 + 121 * r + 2 * k_rk R.1 R.2.1 k) := by rw [← k_ixs]; exact k_ixv r _
      rw [k_add1] at i1
      simp only [i1, i2, b1, b2.r0, c1, Option.bind_some]
    · rw [if_neg g]
      refine ⟨?_, fun i hi => ⟨?_, ?_⟩⟩
      · rw [k_sA_s, k_upd_n (by omega), k_sA_s, k_upd_n (by omega), k_sA_s, k_upd_s]
      · have hi' : i < R.1 + 1 := hi
        show _ = k_ins (k_rk R.1 R.2.1 k) k R.2.1 i
        rw [k_sA_s, k_upd_n (by omega), k_sA_s]
        rcases Nat.lt_trichotomy i (k_rk R.1 R.2.1 k) with z | z | z
        · rw [k_ins_lo z, k_upd_n (by omega), k_sA_s, k_upd_n (by omega), l5, if_neg (by omega)]; exact (hR.2 i (by omega)).1
        · rw [z, k_ins_at, k_upd_s]
        · rw [k_ins_hi z, k_upd_n (by omega), k_sA_s, k_upd_n (by omega), l5, if_pos (by omega), ← (hR.2 (i - 1) (by omega)).1]
          exact congrArg (V.1 1) (by omega)
      · have hi' : i < R.1 + 1 := hi
        show _ = k_ins (k_rk R.1 R.2.1 k) v R.2.2 i
        rw [k_sA_s]
        rcases Nat.lt_trichotomy i (k_rk R.1 R.2.1 k) with z | z | z
        · rw [k_ins_lo z, k_upd_n (by omega), k_sA_s, k_upd_n (by omega), k_sA_s, k_upd_n (by omega), l5, if_neg (by omega)]; exact (hR.2 i (by omega)).2
        · rw [z, k_ins_at, k_upd_s]
        · rw [k_ins_hi z, k_upd_n (by omega), k_sA_s, k_upd_n (by omega), k_sA_s, k_upd_n (by omega), l5, if_pos (by omega), ← (hR.2 (i - 1) (by omega)).2]
          exact congrArg (V.1 1) (by omega)
    · rw [k_sA_s, k_upd_n (by omega), k_sA_s, k_upd_n (by omega), k_sA_s, k_upd_n (by omega), l5, if_neg (by omega)]
/-! laying states -/
def k_stA (V : KM) (a : Nat) (g : Nat → Int32) : KM := ((fun b => if b = a then g else V.1 b), V.2)
theorem k_stA_s {V : KM} {a : Nat} {g : Nat → Int32} : (k_stA V a g).1 a = g := if_pos rfl
theorem k_stA_n {V : KM} {a b : Nat} {g : Nat → Int32} (h : b ≠ a) : (k_stA V a g).1 b = V.1 b := if_neg h
theorem k_stA_mx {V : KM} {a : Nat} {g : Nat → Int32} {As Is : List Nat} (h : a ∈ As) : k_mx V (k_stA V a g) As Is := ⟨fun b hb => if_neg (fun e : b = a => hb (e ▸ h)), fun _ _ => rfl⟩
theorem k_lay_loop {a1 a2 o1 o2 : Nat} (h1 : 1 ≤ a1) (h2 : a1 ≤ 9) (h3 : 1 ≤ a2) (h4 : a2 ≤ 9) (hne : a1 ≠ a2) (s1 : o1 + 6696 ≤ k_sz a1) (s2 : o2 + 6696 ≤ k_sz a2) {K : Int32 → XM → Option XM} : ∀ (d fuel i : Nat) (f : XM) (V : KM), i + d = 6696 → d < fuel → k_mo f m V →
    ∃ f', F_X6_lays_L3 N (m + a1) (nI o1) (m + a2) (nI o2) K fuel (nI i) f = K (nI 6696) f' ∧ k_mo f' m (k_stA V a2 (fun j => if o2 + i ≤ j ∧ j < o2 + 6696 then V.1 a1 (o1 + (j - o2)) else V.1 a2 j)) ∧ k_fr f f' m (m + 10) := by
  have z1 := k_sz_r a1
  have z2 := k_sz_r a2
  intro d
  induction d with
  | zero =>
    intro fuel i f V e1 e2 h
    obtain ⟨u, rfl⟩ : ∃ u, fuel = u + 1 := ⟨fuel - 1, by omega⟩
    have e : i = 6696 := by omega
    subst e
    refine ⟨f, ?_, ?_, k_fr.rf⟩
    · rw [F_X6_lays_L3, if_pos (show (6696 : Int32) ≤ nI 6696 from nI_le (a := 6696) (Nat.le_refl _) (by omega))]
    · have : k_stA V a2 (fun j => if o2 + 6696 ≤ j ∧ j < o2 + 6696 then V.1 a1 (o1 + (j - o2)) else V.1 a2 j) = V := by
        have hg : (fun j => if o2 + 6696 ≤ j ∧ j < o2 + 6696 then V.1 a1 (o1 + (j - o2)) else V.1 a2 j) = V.1 a2 := funext fun j => if_neg (by omega)
        rw [hg]
        unfold k_stA
        have : (fun b => if b = a2 then V.1 a2 else V.1 b) = V.1 := funext fun b => by
          by_cases y : b = a2
          · rw [if_pos y, y]
          · rw [if_neg y]
        rw [this]
      rw [this]
      exact h
  | succ d ih =>
    intro fuel i f V e1 e2 h
    obtain ⟨u, rfl⟩ : ∃ u, fuel = u + 1 := ⟨fuel - 1, by omega⟩
    obtain ⟨f1, b1, b2, b3⟩ := h.st (a := a2) (i := o2 + i) h3 h4 (by omega) (V.1 a1 (o1 + i))
    obtain ⟨f', r1, r2, r3⟩ := ih u (i + 1) f1 _ (by omega) (by omega) b2
    refine ⟨f', ?_, ?_, b3.tr r3⟩
    · rw [F_X6_lays_L3, if_neg (show ¬ (6696 : Int32) ≤ nI i from nI_ge (b := 6696) (by omega) (by omega))]
      simp only [nI_add, h.ld h1 h2 (i := o1 + i) (by omega), b1, Option.bind_some, k_add1]
      exact r1
    · have : k_stA (k_sA V a2 (o2 + i) (V.1 a1 (o1 + i))) a2 (fun j => if o2 + (i + 1) ≤ j ∧ j < o2 + 6696 then (k_sA V a2 (o2 + i) (V.1 a1 (o1 + i))).1 a1 (o1 + (j - o2)) else (k_sA V a2 (o2 + i) (V.1 a1 (o1 + i))).1 a2 j) = k_stA V a2 (fun j => if o2 + i ≤ j ∧ j < o2 + 6696 then V.1 a1 (o1 + (j - o2)) else V.1 a2 j) := by
        have hg : (fun j => if o2 + (i + 1) ≤ j ∧ j < o2 + 6696 then (k_sA V a2 (o2 + i) (V.1 a1 (o1 + i))).1 a1 (o1 + (j - o2)) else (k_sA V a2 (o2 + i) (V.1 a1 (o1 + i))).1 a2 j) = (fun j => if o2 + i ≤ j ∧ j < o2 + 6696 then V.1 a1 (o1 + (j - o2)) else V.1 a2 j) := funext fun j => by
          rw [k_sA_n hne, k_sA_s]
          by_cases y : j = o2 + i
          · rw [if_neg (by omega), y, k_upd_s, if_pos (by omega)]
            exact congrArg (V.1 a1) (by omega)
          · rw [k_upd_n y]
            by_cases y2 : o2 + (i + 1) ≤ j ∧ j < o2 + 6696
            · rw [if_pos y2, if_pos (by omega)]
            · rw [if_neg y2, if_neg (by omega)]
        rw [hg]
        unfold k_stA k_sA
        congr 1
        funext b
        by_cases y : b = a2
        · rw [if_pos y, if_pos y]
        · rw [if_neg y, if_neg y]; exact if_neg y
      rw [← this]
      exact r2
theorem k_lays {a1 a2 o1 o2 : Nat} (hN : 20000 ≤ N) (h : k_mo f m V) (h1 : 1 ≤ a1) (h2 : a1 ≤ 9) (h3 : 1 ≤ a2) (h4 : a2 ≤ 9) (hne : a1 ≠ a2) (s1 : o1 + 6696 ≤ k_sz a1) (s2 : o2 + 6696 ≤ k_sz a2) : ∃ f', F_X6_lays N f (m + a1) (nI o1) (m + a2) (nI o2) = some f' ∧ k_mo f' m (k_stA V a2 (fun j => if o2 ≤ j ∧ j < o2 + 6696 then V.1 a1 (o1 + (j - o2)) else V.1 a2 j)) ∧ k_fr f f' m (m + 10) :=
  k_lay_loop h1 h2 h3 h4 hne s1 s2 6696 N 0 f V (by omega) (by omega) h
theorem k_sv_loop {p0 : Nat} {K : Int32 → XM → Option XM} : ∀ (d fuel i : Nat) (f : XM) (V : KM), i + d = 33480 → d < fuel → k_mo f m V →
    ∃ (f' : XM) (V' : KM), F_X6_saves_L11 N m p0 K fuel (nI i) f = K (nI 33480) f' ∧ k_mo f' m V' ∧ k_mx V V' [2] [] ∧ k_fr f f' m (m + 10) ∧ (∀ j, V'.1 2 j = if i ≤ j ∧ j < 33480 then V.1 2 (j + 6696) else V.1 2 j) := by
  intro d
  induction d with
  | zero =>
    intro fuel i f V e1 e2 h
    obtain ⟨u, rfl⟩ : ∃ u, fuel = u + 1 := ⟨fuel - 1, by omega⟩
    have e : i = 33480 := by omega
    subst e
    refine ⟨f, V, ?_, h, k_mx.rf, k_fr.rf, fun j => by rw [if_neg (by omega)]⟩
    rw [F_X6_saves_L11, if_pos (show (33480 : Int32) ≤ nI 33480 from nI_le (a := 33480) (Nat.le_refl _) (by omega))]
  | succ d ih =>
    intro fuel i f V e1 e2 h
    obtain ⟨u, rfl⟩ : ∃ u, fuel = u + 1 := ⟨fuel - 1, by omega⟩
    obtain ⟨f1, b1, b2, b3⟩ := h.st (a := 2) (i := i) (by omega) (by omega) (by show i < 40176; omega) (V.1 2 (i + 6696))
    obtain ⟨f', V', r1, r2, r3, r4, r5⟩ := ih u (i + 1) f1 _ (by omega) (by omega) b2
    refine ⟨f', V', ?_, r2, (k_sA_mx (by simp)).tr r3, b3.tr r4, fun j => ?_⟩
    · rw [F_X6_saves_L11, if_neg (show ¬ (33480 : Int32) ≤ nI i from nI_ge (b := 33480) (by omega) (by omega))]
      have ix : (nI i + 6696 : Int32) = nI (i + 6696) := by rw [k_lit 6696, nI_add]
      simp only [h.r1, ix, h.ld (a := 2) (by omega) (by omega) (i := i + 6696) (by show _ < 40176; omega), b1, Option.bind_some, k_add1]
      exact r1
    · rw [r5 j, k_sA_s]
      by_cases y : j = i
      · rw [if_neg (by omega), y, k_upd_s, if_pos (by omega)]
      · by_cases y2 : i + 1 ≤ j ∧ j < 33480
        · rw [if_pos y2, if_pos (by omega), k_upd_n (by omega)]
        · rw [if_neg y2, if_neg (by omega), k_upd_n y]
/-- the states that are saved then -/
def k_psv (n : Nat) (P row : Nat → Int32) (i j : Nat) : Int32 := if n < 6 then (if i < n then P (6696 * i + j) else row j) else (if i < 5 then P (6696 * (i + 1) + j) else row j)
theorem k_msaves {n a1 : Nat} (hN : 50000 ≤ N) (h : k_mo f m V) (ha : a1 = 1 ∨ a1 = 5) (hn : n ≤ 6) (h2 : V.2 2 = nI n) : ∃ (f' : XM) (V' : KM), F_X6_saves N f m (m + a1) = some f' ∧ k_mo f' m V' ∧ k_mx V V' [2] [2] ∧ k_fr f f' m (m + 10) ∧ V'.2 2 = nI (if n < 6 then n + 1 else 6) ∧ (∀ i j, i < (if n < 6 then n + 1 else 6) → j < 6696 → V'.1 2 (6696 * i + j) = k_psv n (V.1 2) (V.1 a1) i j) := by
  have a1r : 1 ≤ a1 ∧ a1 ≤ 9 ∧ a1 ≠ 2 ∧ k_sz a1 = 6696 := by rcases ha with rfl | rfl <;> exact ⟨by omega, by omega, by omega, rfl⟩
  have ix : ∀ i : Nat, (6696 * nI i : Int32) = nI (6696 * i) := fun i => by rw [k_lit 6696, pk_mul]
  by_cases hn6 : n < 6
  · obtain ⟨f1, b1, b2, b3⟩ := k_lays (N := N) (a1 := a1) (a2 := 2) (o1 := 0) (o2 := 6696 * n) (by omega) h a1r.1 a1r.2.1 (by omega) (by omega) a1r.2.2.1 (by rw [a1r.2.2.2]; omega) (by show _ ≤ 40176; omega)
    obtain ⟨f2, c1, c2, c3⟩ := b2.pi (i := 2) (by omega) (nI (n + 1))
    refine ⟨f2, _, ?_, c2, ((k_stA_mx (by simp)).tr (k_sI_mx (by simp))), b3.tr c3, ?_, fun i j hi hj => ?_⟩
    · simp only [F_X6_saves, h.i2, h2, Option.bind_some]
      rw [if_neg (show ¬ nI n = 6 from fun e => by rw [k_lit 6] at e; have := (nI_eq (by omega) (by omega)).mp e; omega)]
      have b1' : F_X6_lays N f (m + a1) 0 (m + 2) (nI (6696 * n)) = some f1 := b1
      have e2 : (k_stA V 2 (fun j => if 6696 * n ≤ j ∧ j < 6696 * n + 6696 then V.1 a1 (0 + (j - 6696 * n)) else V.1 2 j)).2 2 = nI n := h2
      simp only [h.r1, ix, b1', b2.i2, e2, k_add1, c1, Option.bind_some]
    · rw [if_pos hn6]; exact k_sI_s
    · rw [if_pos hn6] at hi
      unfold k_psv
      rw [if_pos hn6]
      rw [show ∀ g, (k_sI (k_stA V 2 g) 2 (nI (n + 1))).1 2 = g from fun g => rfl]
      by_cases y : i < n
      · rw [if_pos y, if_neg (by omega)]
      · have : i = n := by omega
        subst this
        rw [if_neg y, if_pos (by omega)]
        exact congrArg (V.1 a1) (by omega)
  · have e6 : n = 6 := by omega
    subst e6
    obtain ⟨f0, V0, d1, d2, d3, d4, d5⟩ := k_sv_loop (N := N) (p0 := m + a1) (m := m) (K := fun y2_15 g15 =>
    (x_geti g15 6 m 2).bind fun v16 =>
    (x_puti g15 6 m 2 (v16 - 1)).bind fun f17 =>
    (x_getr f17 6 m 1).bind fun v18 =>
    (x_geti f17 6 m 2).bind fun v19 =>
    Option.bind v18 fun a20 =>
    (F_X6_lays N f17 (m + a1) 0 a20 (6696 * v19)).bind fun z21 =>
    (x_geti z21 6 m 2).bind fun v22 =>
    (x_puti z21 6 m 2 (v22 + 1)).bind fun f23 =>
    some f23) 33480 N 0 f V (by omega) (by omega) h
    have e20 : V0.2 2 = nI 6 := (d3.2 2 (by simp)).trans h2
    have ea : V0.1 a1 = V.1 a1 := d3.1 a1 (by simp; exact a1r.2.2.1)
    obtain ⟨f1, b1, b2, b3⟩ := d2.pi (i := 2) (by omega) (nI 5)
    obtain ⟨f2, c1, c2, c3⟩ := k_lays (N := N) (a1 := a1) (a2 := 2) (o1 := 0) (o2 := 6696 * 5) (by omega) b2 a1r.1 a1r.2.1 (by omega) (by omega) a1r.2.2.1 (by rw [a1r.2.2.2]; omega) (by show _ ≤ 40176; omega)
    obtain ⟨f3, g1, g2, g3⟩ := c2.pi (i := 2) (by omega) (nI 6)
    refine ⟨f3, _, ?_, g2, (((d3.wd (fun a z => z) (fun a z => by simp at z)).tr (k_sI_mx (by simp))).tr (k_stA_mx (by simp))).tr (k_sI_mx (by simp)), ((d4.tr b3).tr c3).tr g3, ?_, fun i j hi hj => ?_⟩
    · simp only [F_X6_saves, h.i2, h2, Option.bind_some]
      rw [if_pos (show nI 6 = 6 from rfl)]
      refine (show F_X6_saves_L11 N m (m + a1) _ N 0 f = _ from d1).trans ?_
      have c1' : F_X6_lays N f1 (m + a1) 0 (m + 2) (nI (6696 * 5)) = some f2 := c1
      have e21 : (k_sI V0 2 (nI 5)).2 2 = nI 5 := k_sI_s
      have e22 : (k_stA (k_sI V0 2 (nI 5)) 2 (fun j => if 6696 * 5 ≤ j ∧ j < 6696 * 5 + 6696 then (k_sI V0 2 (nI 5)).1 a1 (0 + (j - 6696 * 5)) else (k_sI V0 2 (nI 5)).1 2 j)).2 2 = nI 5 := show (k_sI V0 2 (nI 5)).2 2 = nI 5 from k_sI_s
      simp only [d2.i2, e20, show nI 6 - 1 = nI 5 from nI_pred 5, b1, b2.r1, b2.i2, e21, ix, c1', c2.i2, e22, k_add1, g1, Option.bind_some]
    · rw [if_neg (by omega)]; exact k_sI_s
    · rw [if_neg (by omega)] at hi
      unfold k_psv
      rw [if_neg (by omega)]
      rw [show ∀ g, (k_sI (k_stA (k_sI V0 2 (nI 5)) 2 g) 2 (nI 6)).1 2 = g from fun g => rfl]
      by_cases y : i < 5
      · rw [if_pos y, if_neg (by omega)]
        show V0.1 2 _ = _
        rw [d5, if_pos (by omega)]
        exact congrArg (V.1 2) (by omega)
      · have : i = 5 := by omega
        subst this
        rw [if_neg y, if_pos (by omega)]
        show V0.1 a1 _ = _
        rw [ea]
        exact congrArg (V.1 a1) (by omega)
end KMW
