/-! Rows: what changes them. -/
def k_ins (p : Nat) (x : Int32) (g : Nat → Int32) : Nat → Int32 := fun j => if j < p then g j else if j = p then x else g (j - 1)
def k_rem (p : Nat) (g : Nat → Int32) : Nat → Int32 := fun j => if j < p then g j else g (j + 1)
theorem k_upd_s {g : Nat → Int32} {i : Nat} {x : Int32} : upd g i x i = x := if_pos rfl
theorem k_upd_n {g : Nat → Int32} {i j : Nat} {x : Int32} (h : j ≠ i) : upd g i x j = g j := if_neg h
section KRX
variable {wz : Nat}
variable {N : Nat} {f : XM} {b c : Nat} {R : KR}
theorem k_add_loop {n p : Nat} {x1 x2 x3 : Int32} {K : Int32 → XM → Option XM} (hc : c ≤ 4000) (hx1 : x1 = nI p) : ∀ (d fuel m : Nat) (f : XM) (gk gv : Nat → Int32), m = p + d → d < fuel → m < c → f b = some (.inr (2, [.ref (b + 1), .ref (b + 2), .int (nI n)])) → f (b + 1) = some (.inl (.int, c, .inl gk)) → f (b + 2) = some (.inl (.int, c, .inl gv)) →
    ∃ (f' : XM) (hk hv : Nat → Int32), F_X2_addAt_L43 N b x1 x2 x3 K fuel (nI m) f = K (nI p) f' ∧ f' b = some (.inr (2, [.ref (b + 1), .ref (b + 2), .int (nI n)])) ∧ f' (b + 1) = some (.inl (.int, c, .inl hk)) ∧ f' (b + 2) = some (.inl (.int, c, .inl hv)) ∧
      (∀ j, hk j = if p < j ∧ j ≤ m then gk (j - 1) else gk j) ∧ (∀ j, hv j = if p < j ∧ j ≤ m then gv (j - 1) else gv j) ∧ k_fr f f' b (b + 3) := by
  subst hx1
  intro d
  induction d with
  | zero =>
    intro fuel m f gk gv h1 h2 h3 hb hk hv
    obtain ⟨u, rfl⟩ : ∃ u, fuel = u + 1 := ⟨fuel - 1, by omega⟩
    have e : m = p := by omega
    subst e
    refine ⟨f, gk, gv, ?_, hb, hk, hv, fun j => ?_, fun j => ?_, k_fr.rf⟩
    · rw [F_X2_addAt_L43, if_pos (nI_le (Nat.le_refl _) (by omega))]
    · rw [if_neg (by omega)]
    · rw [if_neg (by omega)]
  | succ d ih =>
    intro fuel m f gk gv h1 h2 h3 hb hk hv
    obtain ⟨u, rfl⟩ : ∃ u, fuel = u + 1 := ⟨fuel - 1, by omega⟩
    obtain ⟨q, rfl⟩ : ∃ q, m = q + 1 := ⟨m - 1, by omega⟩
    have s1 := k_ast (v := gk q) hk (i := q + 1) (by omega) (by omega)
    have b1 : x_up f (b + 1) (.inl (.int, c, .inl (upd gk (q + 1) (gk q)))) b = _ := (x_up_n (by omega)).trans hb
    have v1 : x_up f (b + 1) (.inl (.int, c, .inl (upd gk (q + 1) (gk q)))) (b + 2) = _ := (x_up_n (by omega)).trans hv
    have s2 := k_ast (v := gv q) v1 (i := q + 1) (by omega) (by omega)
    obtain ⟨f', hk', hv', e1, e2, e3, e4, e5, e6, e7⟩ := ih u q (x_up (x_up f (b + 1) (.inl (.int, c, .inl (upd gk (q + 1) (gk q))))) (b + 2) (.inl (.int, c, .inl (upd gv (q + 1) (gv q))))) _ _ (by omega) (by omega) (by omega) ((x_up_n (by omega)).trans b1) ((x_up_n (by omega)).trans x_up_s) x_up_s
    refine ⟨f', hk', hv', ?_, e2, e3, e4, fun j => ?_, fun j => ?_, ((k_fr.up (a := b + 1) (by omega) (by omega)).upd (by omega) (by omega)).tr e7⟩
    · rw [F_X2_addAt_L43, if_neg (nI_ge (by omega) (by omega))]
      simp only [nI_pred, pk_m1, k_getr hb (k := 0) rfl, k_getr hb (k := 1) rfl, k_getr b1 (k := 0) rfl, k_getr b1 (k := 1) rfl, Option.bind_some, k_ald hk (i := q) (by omega) (by omega), s1, k_ald v1 (i := q) (by omega) (by omega), s2]
      exact e1
    · rw [e5 j]
      by_cases z1 : j = q + 1
      · rw [if_neg (by omega), if_pos (by omega), z1, k_upd_s]; rfl
      · by_cases z2 : p < j ∧ j ≤ q
        · rw [if_pos z2, if_pos (by omega), k_upd_n (by omega)]
        · rw [if_neg z2, if_neg (by omega), k_upd_n z1]
    · rw [e6 j]
      by_cases z1 : j = q + 1
      · rw [if_neg (by omega), if_pos (by omega), z1, k_upd_s]; rfl
      · by_cases z2 : p < j ∧ j ≤ q
        · rw [if_pos z2, if_pos (by omega), k_upd_n (by omega)]
        · rw [if_neg z2, if_neg (by omega), k_upd_n z1]
theorem k_addAt (hN : 5000 ≤ N) (h : k_row f b c R) {p : Nat} (hp : p ≤ R.1) (hn : R.1 < c) (x y : Int32) : ∃ f', F_X2_addAt N f b (nI p) x y = some f' ∧ k_row f' b c (R.1 + 1, k_ins p x R.2.1, k_ins p y R.2.2) ∧ k_fr f f' b (b + 3) := by
  have a0 := h.n
  have a1 := h.k
  have a2 := h.v
  have a3 := h.kl
  have a4 := h.vl
  obtain ⟨h1, h2, gk, gv, h3, h4, h5, h6, h7⟩ := h
  obtain ⟨f', hk, hv, e1, e2, e3, e4, e5, e6, e7⟩ := k_add_loop (N := N) (p := p) (x1 := nI p) (x2 := x) (x3 := y) (K := fun y4_24 g24 =>
          (x_getr g24 2 b 0).bind fun v25 =>
          Option.bind v25 fun a26 =>
          (x_ast g24 a26 (nI p) x).bind fun f27 =>
          (x_getr f27 2 b 1).bind fun v28 =>
          Option.bind v28 fun a29 =>
          (x_ast f27 a29 (nI p) y).bind fun f30 =>
          (x_geti f30 2 b 2).bind fun v31 =>
          (x_puti f30 2 b 2 (v31 + 1)).bind fun f32 =>
          some f32) h2 rfl (R.1 - p) N R.1 f gk gv (by omega) (by omega) hn h3 h4 h5
  have s1 := k_ast (v := x) e3 (i := p) (by omega) (by omega)
  have b1 : x_up f' (b + 1) (.inl (.int, c, .inl (upd hk p x))) b = _ := (x_up_n (by omega)).trans e2
  have v1 : x_up f' (b + 1) (.inl (.int, c, .inl (upd hk p x))) (b + 2) = _ := (x_up_n (by omega)).trans e4
  have s2 := k_ast (v := y) v1 (i := p) (by omega) (by omega)
  have b2 : x_up (x_up f' (b + 1) (.inl (.int, c, .inl (upd hk p x)))) (b + 2) (.inl (.int, c, .inl (upd hv p y))) b = _ := (x_up_n (by omega)).trans b1
  refine ⟨_, ?_, ⟨hn, h2, upd hk p x, upd hv p y, x_up_s, (x_up_n (by omega)).trans ((x_up_n (by omega)).trans x_up_s), (x_up_n (by omega)).trans x_up_s, fun j hj => ?_, fun j hj => ?_⟩, (((e7.upd (a := b + 1) (by omega) (by omega)).upd (a := b + 2) (by omega) (by omega)).upd (a := b) (by omega) (by omega))⟩
  · simp only [F_X2_addAt, a0, a1, a2, a3, a4, Option.bind_some]
    rw [if_neg (nI_pos (by omega)), if_neg (nI_nlt hp (by omega)), if_neg (nI_ge hn (by omega)), if_pos (nI_lt hn (by omega)), e1]
    simp only [k_getr e2 (k := 0) rfl, s1, k_getr b1 (k := 1) rfl, s2, k_geti b2 (k := 2) rfl, k_puti b2 (k := 2) (by simp), Option.bind_some, k_add1]
    rfl
  · have hj' : j < R.1 + 1 := hj
    show upd hk p x j = k_ins p x R.2.1 j
    unfold k_ins
    by_cases z : j = p
    · rw [z, k_upd_s, if_neg (by omega), if_pos rfl]
    · rw [k_upd_n z, e5 j]
      by_cases z2 : j < p
      · rw [if_neg (by omega), if_pos z2, h6 j (by omega)]
      · rw [if_pos (by omega), if_neg z2, if_neg z, h6 (j - 1) (by omega)]
  · have hj' : j < R.1 + 1 := hj
    show upd hv p y j = k_ins p y R.2.2 j
    unfold k_ins
    by_cases z : j = p
    · rw [z, k_upd_s, if_neg (by omega), if_pos rfl]
    · rw [k_upd_n z, e6 j]
      by_cases z2 : j < p
      · rw [if_neg (by omega), if_pos z2, h7 j (by omega)]
      · rw [if_pos (by omega), if_neg z2, if_neg z, h7 (j - 1) (by omega)]
theorem k_addLast (h : k_row f b c R) (hn : R.1 < c) (x y : Int32) : ∃ f', F_X2_addLast N f b x y = some f' ∧ k_row f' b c (R.1 + 1, upd R.2.1 R.1 x, upd R.2.2 R.1 y) ∧ k_fr f f' b (b + 3) := by
  have a0 := h.n
  have a1 := h.k
  have a2 := h.v
  have a3 := h.kl
  have a4 := h.vl
  obtain ⟨h1, h2, gk, gv, h3, h4, h5, h6, h7⟩ := h
  have s1 := k_ast (v := x) h4 (i := R.1) (by omega) (by omega)
  have b1 : x_up f (b + 1) (.inl (.int, c, .inl (upd gk R.1 x))) b = _ := (x_up_n (by omega)).trans h3
  have v1 : x_up f (b + 1) (.inl (.int, c, .inl (upd gk R.1 x))) (b + 2) = _ := (x_up_n (by omega)).trans h5
  have s2 := k_ast (v := y) v1 (i := R.1) (by omega) (by omega)
  have b2 : x_up (x_up f (b + 1) (.inl (.int, c, .inl (upd gk R.1 x)))) (b + 2) (.inl (.int, c, .inl (upd gv R.1 y))) b = _ := (x_up_n (by omega)).trans b1
  refine ⟨_, ?_, ⟨hn, h2, upd gk R.1 x, upd gv R.1 y, x_up_s, (x_up_n (by omega)).trans ((x_up_n (by omega)).trans x_up_s), (x_up_n (by omega)).trans x_up_s, fun j hj => ?_, fun j hj => ?_⟩, (((k_fr.up (a := b + 1) (by omega) (by omega)).upd (a := b + 2) (by omega) (by omega)).upd (a := b) (by omega) (by omega))⟩
  · simp only [F_X2_addLast, a0, a1, a2, a3, a4, Option.bind_some]
    rw [if_neg (nI_pos (by omega)), if_neg (nI_ge hn (by omega)), if_pos (nI_lt hn (by omega))]
    simp only [s1, k_getr b1 (k := 1) rfl, k_geti b1 (k := 2) rfl, s2, k_geti b2 (k := 2) rfl, k_puti b2 (k := 2) (by simp), Option.bind_some, k_add1]
    rfl
  · have hj' : j < R.1 + 1 := hj
    show upd gk R.1 x j = upd R.2.1 R.1 x j
    by_cases z : j = R.1
    · rw [z, k_upd_s, k_upd_s]
    · rw [k_upd_n z, k_upd_n z, h6 j (by omega)]
  · have hj' : j < R.1 + 1 := hj
    show upd gv R.1 y j = upd R.2.2 R.1 y j
    by_cases z : j = R.1
    · rw [z, k_upd_s, k_upd_s]
    · rw [k_upd_n z, k_upd_n z, h7 j (by omega)]
theorem k_rem_loop {n p : Nat} {K : Int32 → XM → Option XM} (hc : c ≤ 4000) (hn : n ≤ c) : ∀ (d fuel m : Nat) (f : XM) (gk gv : Nat → Int32), n = m + d → d < fuel → p < m → f b = some (.inr (2, [.ref (b + 1), .ref (b + 2), .int (nI n)])) → f (b + 1) = some (.inl (.int, c, .inl gk)) → f (b + 2) = some (.inl (.int, c, .inl gv)) →
    ∃ (f' : XM) (hk hv : Nat → Int32), F_X2_removeAt_L13 N b K fuel (nI m) f = K (nI n) f' ∧ f' b = some (.inr (2, [.ref (b + 1), .ref (b + 2), .int (nI n)])) ∧ f' (b + 1) = some (.inl (.int, c, .inl hk)) ∧ f' (b + 2) = some (.inl (.int, c, .inl hv)) ∧
      (∀ j, hk j = if m ≤ j + 1 ∧ j + 1 < n then gk (j + 1) else gk j) ∧ (∀ j, hv j = if m ≤ j + 1 ∧ j + 1 < n then gv (j + 1) else gv j) ∧ k_fr f f' b (b + 3) := by
  intro d
  induction d with
  | zero =>
    intro fuel m f gk gv h1 h2 h3 hb hk hv
    obtain ⟨u, rfl⟩ : ∃ u, fuel = u + 1 := ⟨fuel - 1, by omega⟩
    have e : m = n := by omega
    subst e
    refine ⟨f, gk, gv, ?_, hb, hk, hv, fun j => ?_, fun j => ?_, k_fr.rf⟩
    · simp only [F_X2_removeAt_L13, k_geti hb (k := 2) rfl, Option.bind_some]
      rw [if_pos (nI_le (Nat.le_refl _) (by omega))]
    · rw [if_neg (by omega)]
    · rw [if_neg (by omega)]
  | succ d ih =>
    intro fuel m f gk gv h1 h2 h3 hb hk hv
    obtain ⟨u, rfl⟩ : ∃ u, fuel = u + 1 := ⟨fuel - 1, by omega⟩
    obtain ⟨q, rfl⟩ : ∃ q, m = q + 1 := ⟨m - 1, by omega⟩
    have s1 := k_ast (v := gk (q + 1)) hk (i := q) (by omega) (by omega)
    have b1 : x_up f (b + 1) (.inl (.int, c, .inl (upd gk q (gk (q + 1))))) b = _ := (x_up_n (by omega)).trans hb
    have v1 : x_up f (b + 1) (.inl (.int, c, .inl (upd gk q (gk (q + 1))))) (b + 2) = _ := (x_up_n (by omega)).trans hv
    have s2 := k_ast (v := gv (q + 1)) v1 (i := q) (by omega) (by omega)
    obtain ⟨f', hk', hv', e1, e2, e3, e4, e5, e6, e7⟩ := ih u (q + 1 + 1) (x_up (x_up f (b + 1) (.inl (.int, c, .inl (upd gk q (gk (q + 1)))))) (b + 2) (.inl (.int, c, .inl (upd gv q (gv (q + 1)))))) _ _ (by omega) (by omega) (by omega) ((x_up_n (by omega)).trans b1) ((x_up_n (by omega)).trans x_up_s) x_up_s
    refine ⟨f', hk', hv', ?_, e2, e3, e4, fun j => ?_, fun j => ?_, ((k_fr.up (a := b + 1) (by omega) (by omega)).upd (by omega) (by omega)).tr e7⟩
    · simp only [F_X2_removeAt_L13, k_geti hb (k := 2) rfl, k_getr hb (k := 0) rfl, k_getr hb (k := 1) rfl, k_alen hk, k_alen hv, Option.bind_some]
      rw [if_neg (nI_ge (by omega) (by omega)), if_neg (nI_ge (by omega) (by omega)), if_neg (nI_ge (by omega) (by omega))]
      simp only [nI_pred, k_getr b1 (k := 0) rfl, k_getr b1 (k := 1) rfl, Option.bind_some, k_ald hk (i := q + 1) (by omega) (by omega), s1, k_ald v1 (i := q + 1) (by omega) (by omega), s2, k_add1]
      exact e1
    · rw [e5 j]
      by_cases z1 : j = q
      · rw [if_neg (by omega), if_pos (by omega), z1, k_upd_s]
      · by_cases z2 : q + 1 + 1 ≤ j + 1 ∧ j + 1 < n
        · rw [if_pos z2, if_pos (by omega), k_upd_n (by omega)]
        · rw [if_neg z2, if_neg (by omega), k_upd_n z1]
    · rw [e6 j]
      by_cases z1 : j = q
      · rw [if_neg (by omega), if_pos (by omega), z1, k_upd_s]
      · by_cases z2 : q + 1 + 1 ≤ j + 1 ∧ j + 1 < n
        · rw [if_pos z2, if_pos (by omega), k_upd_n (by omega)]
        · rw [if_neg z2, if_neg (by omega), k_upd_n z1]
theorem k_removeAt (hN : 5000 ≤ N) (h : k_row f b c R) {p : Nat} (hp : p < R.1) : ∃ f', F_X2_removeAt N f b (nI p) = some f' ∧ k_row f' b c (R.1 - 1, k_rem p R.2.1, k_rem p R.2.2) ∧ k_fr f f' b (b + 3) := by
  have hl := h.le
  have hc := h.c4
  have a1 := k_has_n (N := N) h (i := p) (by omega)
  have a3 : ∀ {o : Option Bool}, x_cv f 2 b o = o := fun {o} => h.cv
  obtain ⟨h1, h2, gk, gv, h3, h4, h5, h6, h7⟩ := h
  obtain ⟨f', hk, hv, e1, e2, e3, e4, e5, e6, e7⟩ := k_rem_loop (N := N) (p := p) (K := fun y2_22 g22 =>
    (x_geti g22 2 b 2).bind fun v23 =>
    (x_puti g22 2 b 2 (v23 - 1)).bind fun f24 =>
    some f24) h2 h1 (R.1 - (p + 1)) N (p + 1) f gk gv (by omega) (by omega) (by omega) h3 h4 h5
  obtain ⟨q, hq⟩ : ∃ q, R.1 = q + 1 := ⟨R.1 - 1, by omega⟩
  refine ⟨_, ?_, ⟨?_, h2, hk, hv, x_up_s, (x_up_n (by omega)).trans e3, (x_up_n (by omega)).trans e4, fun j hj => ?_, fun j hj => ?_⟩, e7.upd (a := b) (by omega) (by omega)⟩
  · simp only [F_X2_removeAt, a3, a1, decide_eq_true hp, k_xb_t, if_false, Option.bind_some]
    rw [k_add1, e1]
    simp only [k_geti e2 (k := 2) rfl, k_puti e2 (k := 2) (by simp), Option.bind_some, hq, nI_pred]
    rfl
  · show R.1 - 1 ≤ c
    omega
  · have hj' : j < R.1 - 1 := hj
    show hk j = k_rem p R.2.1 j
    unfold k_rem
    rw [e5 j]
    by_cases z : j < p
    · rw [if_neg (by omega), if_pos z, h6 j (by omega)]
    · rw [if_pos (by omega), if_neg z, h6 (j + 1) (by omega)]
  · have hj' : j < R.1 - 1 := hj
    show hv j = k_rem p R.2.2 j
    unfold k_rem
    rw [e6 j]
    by_cases z : j < p
    · rw [if_neg (by omega), if_pos z, h7 j (by omega)]
    · rw [if_pos (by omega), if_neg z, h7 (j + 1) (by omega)]
/-- numbers copied from one array to another -/
theorem k_imax0 (n : Nat) (h : n < 2 ^ 31) : x_imax 0 (nI n) = nI n := by
  unfold x_imax
  split
  · rfl
  · rename_i z
    rw [k_i_lt, nI_toInt h] at z
    have e : (0 : Int32).toInt = 0 := rfl
    have : n = 0 := by omega
    rw [this]; rfl
theorem k_imin (a b : Nat) (ha : a < 2 ^ 31) (hb : b < 2 ^ 31) : x_imin (nI a) (nI b) = nI (min a b) := by
  unfold x_imin
  by_cases h : b < a
  · rw [if_pos (nI_lt h ha), Nat.min_eq_right (by omega)]
  · rw [if_neg (nI_nlt (by omega) hb), Nat.min_eq_left (by omega)]
theorem k_imax (a b : Nat) (ha : a < 2 ^ 31) (hb : b < 2 ^ 31) : x_imax (nI a) (nI b) = nI (max a b) := by
  unfold x_imax
  by_cases h : a < b
  · rw [if_pos (nI_lt h hb), Nat.max_eq_right (by omega)]
  · rw [if_neg (nI_nlt (by omega) ha), Nat.max_eq_left (by omega)]
theorem k_copyN {a0 a1 n0 n1 n : Nat} {g0 g1 : Nat → Int32} (h0 : f a0 = some (.inl (.int, n0, .inl g0))) (h1 : f a1 = some (.inl (.int, n1, .inl g1))) (hn0 : n ≤ n0) (hn1 : n ≤ n1) (l0 : n0 < 2 ^ 31) (l1 : n1 < 2 ^ 31) (hne : a0 ≠ a1) : F_X5_copyNumbers N f a0 a1 (nI n) = some (nI n, x_up f a1 (.inl (.int, n1, .inl (va_cpy g0 g1 0 0 n)))) := by
  have e : x_imax 0 (x_imin (nI n) (x_imin (nI n0) (nI n1))) = nI n := by
    rw [k_imin n0 n1 l0 l1, k_imin n (min n0 n1) (by omega) (by omega), Nat.min_eq_left (by omega), k_imax0 n (by omega)]
  have e2 : x_acp f a0 0 a1 0 (nI n) = some (x_up f a1 (.inl (.int, n1, .inl (va_cpy g0 g1 0 0 n)))) := by
    have z0 : (0 : Int32).toNatClampNeg = 0 := rfl
    have z1 : (nI n).toNatClampNeg = n := nI_clamp (by omega)
    simp only [x_acp, h0, h1, z0, z1]
    rw [if_pos ⟨by decide, by decide, nI_pos (by omega), by omega, by omega, hne⟩]
  simp only [F_X5_copyNumbers, k_alen h0, k_alen h1, Option.bind_some, e, e2]
theorem k_copyFrom {a c0 : Nat} {R0 : KR} (h : k_row f b c R0) (h0 : k_row f a c0 R) (hc : R.1 ≤ c) (hd : a + 3 ≤ b ∨ b + 3 ≤ a) : ∃ f', F_X2_copyFrom N f b a = some f' ∧ k_row f' b c R ∧ k_fr f f' b (b + 3) := by
  obtain ⟨g1, g2, gk, gv, g3, g4, g5, g6, g7⟩ := h
  obtain ⟨k1, k2, hk, hv, k3, k4, k5, k6, k7⟩ := h0
  have s1 := k_copyN (N := N) k4 g4 k1 hc (by omega) (by omega) (by omega)
  have b1 : x_up f (b + 1) (.inl (.int, c, .inl (va_cpy hk gk 0 0 R.1))) b = _ := (x_up_n (by omega)).trans g3
  have s2 : x_up (x_up f (b + 1) (.inl (.int, c, .inl (va_cpy hk gk 0 0 R.1)))) b (.inr (2, [.ref (b + 1), .ref (b + 2), .int (nI R.1)])) a = _ := ((x_up_n (by omega)).trans (x_up_n (by omega))).trans k3
  have v1 : x_up (x_up f (b + 1) (.inl (.int, c, .inl (va_cpy hk gk 0 0 R.1)))) b (.inr (2, [.ref (b + 1), .ref (b + 2), .int (nI R.1)])) (b + 2) = _ := ((x_up_n (by omega)).trans (x_up_n (by omega))).trans g5
  have v0 : x_up (x_up f (b + 1) (.inl (.int, c, .inl (va_cpy hk gk 0 0 R.1)))) b (.inr (2, [.ref (b + 1), .ref (b + 2), .int (nI R.1)])) (a + 2) = _ := ((x_up_n (by omega)).trans (x_up_n (by omega))).trans k5
  have bb : x_up (x_up f (b + 1) (.inl (.int, c, .inl (va_cpy hk gk 0 0 R.1)))) b (.inr (2, [.ref (b + 1), .ref (b + 2), .int (nI R.1)])) b = _ := x_up_s
  have s3 := k_copyN (N := N) v0 v1 k1 hc (by omega) (by omega) (by omega)
  refine ⟨_, ?_, ⟨hc, g2, va_cpy hk gk 0 0 R.1, va_cpy hv gv 0 0 R.1, (x_up_n (by omega)).trans x_up_s, (x_up_n (by omega)).trans ((x_up_n (by omega)).trans x_up_s), x_up_s, fun j hj => ?_, fun j hj => ?_⟩, ((k_fr.up (a := b + 1) (by omega) (by omega)).upd (a := b) (by omega) (by omega)).upd (a := b + 2) (by omega) (by omega)⟩
  · simp only [F_X2_copyFrom, k_getr g3 (k := 0) rfl, k_getr k3 (k := 0) rfl, k_geti k3 (k := 2) rfl, Option.bind_some, s1, k_puti b1 (k := 2) (by simp), List.set_cons_succ, List.set_cons_zero, k_getr s2 (k := 1) rfl, k_getr bb (k := 1) rfl, k_geti bb (k := 2) rfl, s3]
  · rw [pk_cpy_in (by omega) (by omega), ← k6 j hj]
    congr 1
    omega
  · rw [pk_cpy_in (by omega) (by omega), ← k7 j hj]
    congr 1
    omega
end KRX

