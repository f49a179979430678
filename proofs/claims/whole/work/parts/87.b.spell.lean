/-! The steps of the reader on letters. -/
theorem k_sub48 (a : Nat) : nI (a + 48) - 48 = nI a := by
  rw [← nI_add]
  exact Int32.add_sub_cancel _ _
theorem k_acc (v d : Nat) : nI v * 10 + nI (d + 48) - 48 = nI (10 * v + d) := by
  rw [show (10 : Int32) = nI 10 from rfl, pk_mul, nI_add, show v * 10 + (d + 48) = 10 * v + d + 48 by omega, k_sub48]
theorem k_10 (v d : Nat) : (10 * nI v) + nI d = nI (10 * v + d) := by rw [show (10 : Int32) = nI 10 from rfl, pk_mul, nI_add]
theorem k_3m (k : Nat) : (3 * nI k : Int32) = nI (3 * k) := by rw [show (3 : Int32) = nI 3 from rfl, pk_mul]
theorem k_dg_d {x : Int32} (h : k_dg x = true) : ∃ d, d ≤ 9 ∧ x = nI (d + 48) := by
  have h1 := of_decide_eq_true h
  obtain ⟨j, j1, j2, j3⟩ := k_nn (x := x) (by omega)
  exact ⟨j - 48, by omega, by rw [j2, show j - 48 + 48 = j by omega]⟩
theorem k_dg_y {d : Nat} (h : d ≤ 9) : k_dg (nI (d + 48)) = true := decide_eq_true (by rw [nI_toInt (by omega)]; omega)
theorem k_dg_59 {d : Nat} (h : d ≤ 9) : nI (d + 48) ≠ 59 := fun e => by
  have := (nI_eq (a := d + 48) (b := 59) (by omega) (by omega)).mp e
  omega
theorem k_dg_61 {d : Nat} (h : d ≤ 9) : nI (d + 48) ≠ 61 := fun e => by
  have := (nI_eq (a := d + 48) (b := 61) (by omega) (by omega)).mp e
  omega
theorem k_dg_nf {d : Nat} (h : d ≤ 9) : ¬ k_dg (nI (d + 48)) = false := by rw [k_dg_y h]; decide
theorem k_rd_n59 {q : KQ} {x : Int32} (h : x ≠ 59) : k_rd q x = k_rdM q x := if_neg (fun y => h y.1)
theorem k_rd_nc {q : KQ} {x : Int32} (h : k_cpl q = false) : k_rd q x = k_rdM q x := if_neg (fun y => by rw [h] at y; exact absurd y.2 (by decide))
theorem k_cpl_n {q : KQ} (h1 : q.1 ≠ 7) (h2 : q.1 ≠ 4) (h3 : q.1 = 2 → q.2.1 = 112 ∨ q.2.1 = 105) : k_cpl q = false := decide_eq_false (fun y => by
  rcases y with y | y | ⟨y1, y2, y3⟩
  · exact h1 y
  · exact h2 y
  · rcases h3 y1 with z | z
    · exact y2 z
    · exact y3 z)
theorem k_c0 (r : Int32 × Int32 × Int32) : k_cpl (0, r) = false := k_cpl_n (show ¬ (0 : Int32) = 7 by decide) (show ¬ (0 : Int32) = 4 by decide) (fun e => absurd e (show ¬ (0 : Int32) = 2 by decide))
theorem k_c1 (r : Int32 × Int32 × Int32) : k_cpl (1, r) = false := k_cpl_n (show ¬ (1 : Int32) = 7 by decide) (show ¬ (1 : Int32) = 4 by decide) (fun e => absurd e (show ¬ (1 : Int32) = 2 by decide))
theorem k_c3 (r : Int32 × Int32 × Int32) : k_cpl (3, r) = false := k_cpl_n (show ¬ (3 : Int32) = 7 by decide) (show ¬ (3 : Int32) = 4 by decide) (fun e => absurd e (show ¬ (3 : Int32) = 2 by decide))
theorem k_c5 (r : Int32 × Int32 × Int32) : k_cpl (5, r) = false := k_cpl_n (show ¬ (5 : Int32) = 7 by decide) (show ¬ (5 : Int32) = 4 by decide) (fun e => absurd e (show ¬ (5 : Int32) = 2 by decide))
theorem k_c6 (r : Int32 × Int32 × Int32) : k_cpl (6, r) = false := k_cpl_n (show ¬ (6 : Int32) = 7 by decide) (show ¬ (6 : Int32) = 4 by decide) (fun e => absurd e (show ¬ (6 : Int32) = 2 by decide))
theorem k_c2 {b : Int32} (h : b = 112 ∨ b = 105) (r : Int32 × Int32) : k_cpl (2, b, r) = false := k_cpl_n (show ¬ (2 : Int32) = 7 by decide) (show ¬ (2 : Int32) = 4 by decide) (fun _ => h)
theorem k_c2y {b : Int32} (h1 : b ≠ 112) (h2 : b ≠ 105) (r : Int32 × Int32) : k_cpl (2, b, r) = true := decide_eq_true (Or.inr (Or.inr ⟨rfl, h1, h2⟩))
theorem k_c4 (r : Int32 × Int32 × Int32) : k_cpl (4, r) = true := decide_eq_true (Or.inr (Or.inl rfl))
theorem k_c7 (r : Int32 × Int32 × Int32) : k_cpl (7, r) = true := decide_eq_true (Or.inl rfl)
section KRT
variable {b c e x : Int32} {d v : Nat}
theorem k_rdK_y {a : Int32} (h9 : d ≤ 9) (hz : ¬ (a = 2 ∧ nI v = 0)) : k_rdK (a, b, nI v, e) (nI (d + 48)) = (if nI (10 * v + d) ≤ 9999 then 2 else 8, b, nI (10 * v + d), e) := by
  unfold k_rdK
  rw [if_neg (fun y => k_dg_61 h9 y.1), if_neg (k_dg_nf h9), if_neg hz]
  dsimp only
  rw [k_acc]
theorem k_rdK_n {q : KQ} (hx : k_dg x = false) (h : ¬ (x = 61 ∧ q.1 = 2 ∧ (q.2.1 = 112 ∨ q.2.1 = 105))) : (k_rdK q x).1 = 8 := by
  unfold k_rdK
  rw [if_neg h, if_pos hx]
theorem k_rdV_y {a : Int32} (h9 : d ≤ 9) (hz : ¬ (a = 4 ∧ nI v = 0)) : k_rdV (a, b, c, nI v) (nI (d + 48)) = (if nI (10 * v + d) ≤ 99 then 4 else 8, b, c, nI (10 * v + d)) := by
  unfold k_rdV
  rw [if_neg (k_dg_nf h9), if_neg hz]
  dsimp only
  rw [k_acc]
theorem k_rdV_n {q : KQ} (hx : k_dg x = false) : (k_rdV q x).1 = 8 := by
  unfold k_rdV
  rw [if_pos hx]
theorem k_rdF_y {a : Int32} (h9 : d ≤ 9) : k_rdF (a, b, nI v, e) (nI (d + 48)) = (k_fll (nI (10 * v + d)), b, nI (10 * v + d), e) := by
  unfold k_rdF
  rw [if_neg (k_dg_nf h9)]
  dsimp only
  rw [k_acc]
theorem k_rdF_n {q : KQ} (hx : k_dg x = false) : (k_rdF q x).1 = 8 := by
  unfold k_rdF
  rw [if_pos hx]
theorem k_t0 {r : Int32 × Int32 × Int32} : k_rd (0, r) x = k_rdL x := by rw [k_rd_nc (k_c0 r)]; rfl
theorem k_u1 (h9 : d ≤ 9) : k_rd (1, b, 0, 0) (nI (d + 48)) = (2, b, nI d, 0) := by
  rw [k_rd_nc (k_c1 _)]
  show k_rdK (1, b, nI 0, 0) (nI (d + 48)) = _
  rw [k_rdK_y h9 (fun y => absurd y.1 (by decide)), if_pos (show nI (10 * 0 + d) ≤ 9999 from nI_le (b := 9999) (by omega) (by omega)), Nat.mul_zero, Nat.zero_add]
theorem k_t1n (hx : k_dg x = false) : (k_rd (1, b, 0, 0) x).1 = 8 := by
  rw [k_rd_nc (k_c1 _)]
  exact k_rdK_n hx (fun y => absurd y.2.1 (show ¬ (1 : Int32) = 2 by decide))
theorem k_u2 (h9 : d ≤ 9) (hv : 0 < v) (hm : 10 * v + d ≤ 9999) : k_rd (2, b, nI v, 0) (nI (d + 48)) = (2, b, nI (10 * v + d), 0) := by
  rw [k_rd_n59 (k_dg_59 h9)]
  show k_rdK (2, b, nI v, 0) (nI (d + 48)) = _
  rw [k_rdK_y h9 (fun y => nI_ne0 hv (by omega) y.2), if_pos (show nI (10 * v + d) ≤ 9999 from nI_le (b := 9999) (by omega) (by omega))]
theorem k_t2b (h9 : d ≤ 9) (hv : v ≤ 9999) (hm : v = 0 ∨ 9999 < 10 * v + d) : (k_rd (2, b, nI v, 0) (nI (d + 48))).1 = 8 := by
  rw [k_rd_n59 (k_dg_59 h9)]
  show (k_rdK (2, b, nI v, 0) (nI (d + 48))).1 = 8
  rcases Nat.eq_zero_or_pos v with z | z
  · subst z
    unfold k_rdK
    rw [if_neg (fun y => k_dg_61 h9 y.1), if_neg (k_dg_nf h9), if_pos ⟨rfl, rfl⟩]
  · rw [k_rdK_y h9 (fun y => nI_ne0 z (by omega) y.2), if_neg (show ¬ nI (10 * v + d) ≤ 9999 from nI_ge (a := 9999) (by omega) (by omega))]
theorem k_t2n (hx : k_dg x = false) (h59 : x ≠ 59) (hb : b ≠ 112 ∧ b ≠ 105) : (k_rd (2, b, c, e) x).1 = 8 := by
  rw [k_rd_n59 h59]
  exact k_rdK_n hx (fun y => y.2.2.elim hb.1 hb.2)
theorem k_t2m (hx : k_dg x = false) (h61 : x ≠ 61) (hb : b = 112 ∨ b = 105) : (k_rd (2, b, c, e) x).1 = 8 := by
  rw [k_rd_nc (k_c2 hb _)]
  exact k_rdK_n hx (fun y => h61 y.1)
theorem k_t2e (hb : b = 112 ∨ b = 105) : k_rd (2, b, c, e) 61 = (3, b, c, e) := by
  rw [k_rd_nc (k_c2 hb _)]
  show k_rdK (2, b, c, e) 61 = _
  unfold k_rdK
  rw [if_pos ⟨rfl, rfl, hb⟩]
theorem k_u3 (h9 : d ≤ 9) : k_rd (3, b, c, 0) (nI (d + 48)) = (4, b, c, nI d) := by
  rw [k_rd_nc (k_c3 _)]
  show k_rdV (3, b, c, nI 0) (nI (d + 48)) = _
  rw [k_rdV_y h9 (fun y => absurd y.1 (by decide)), if_pos (show nI (10 * 0 + d) ≤ 99 from nI_le (b := 99) (by omega) (by omega)), Nat.mul_zero, Nat.zero_add]
theorem k_t3n (hx : k_dg x = false) : (k_rd (3, b, c, e) x).1 = 8 := by
  rw [k_rd_nc (k_c3 _)]
  exact k_rdV_n hx
theorem k_t4 (h9 : d ≤ 9) (hv : 0 < v) (hm : 10 * v + d ≤ 99) : k_rd (4, b, c, nI v) (nI (d + 48)) = (4, b, c, nI (10 * v + d)) := by
  rw [k_rd_n59 (k_dg_59 h9)]
  show k_rdV (4, b, c, nI v) (nI (d + 48)) = _
  rw [k_rdV_y h9 (fun y => nI_ne0 hv (by omega) y.2), if_pos (show nI (10 * v + d) ≤ 99 from nI_le (b := 99) (by omega) (by omega))]
theorem k_t4b (h9 : d ≤ 9) (hv : v ≤ 99) (hm : v = 0 ∨ 99 < 10 * v + d) : (k_rd (4, b, c, nI v) (nI (d + 48))).1 = 8 := by
  rw [k_rd_n59 (k_dg_59 h9)]
  show (k_rdV (4, b, c, nI v) (nI (d + 48))).1 = 8
  rcases Nat.eq_zero_or_pos v with z | z
  · subst z
    unfold k_rdV
    rw [if_neg (k_dg_nf h9), if_pos ⟨rfl, rfl⟩]
  · rw [k_rdV_y h9 (fun y => nI_ne0 z (by omega) y.2), if_neg (show ¬ nI (10 * v + d) ≤ 99 from nI_ge (a := 99) (by omega) (by omega))]
theorem k_t4n (hx : k_dg x = false) (h59 : x ≠ 59) : (k_rd (4, b, c, e) x).1 = 8 := by
  rw [k_rd_n59 h59]
  exact k_rdV_n hx
theorem k_t5 (h9 : d ≤ 9) : k_rd (5, b, 0, 0) (nI (d + 48)) = (k_fll (nI d), b, nI d, 0) := by
  rw [k_rd_nc (k_c5 _)]
  show k_rdF (5, b, nI 0, 0) (nI (d + 48)) = _
  rw [k_rdF_y h9, Nat.mul_zero, Nat.zero_add]
theorem k_t5n (hx : k_dg x = false) : (k_rd (5, b, c, e) x).1 = 8 := by
  rw [k_rd_nc (k_c5 _)]
  exact k_rdF_n hx
theorem k_t6 (h9 : d ≤ 9) : k_rd (6, b, nI v, 0) (nI (d + 48)) = (k_fll (nI (10 * v + d)), b, nI (10 * v + d), 0) := by
  rw [k_rd_nc (k_c6 _)]
  exact k_rdF_y h9
theorem k_t6n (hx : k_dg x = false) : (k_rd (6, b, c, e) x).1 = 8 := by
  rw [k_rd_nc (k_c6 _)]
  exact k_rdF_n hx
theorem k_t7 (h59 : x ≠ 59) : (k_rd (7, b, c, e) x).1 = 8 := by
  rw [k_rd_n59 h59]
  rfl
end KRT
/-! The reference's reading: figures, numbers, signs. -/
def k_rv (bf : Nat → Int32) (len s k : Nat) (V : KM) : Prop := len ≤ 60 ∧ s ≤ len ∧ V.2 10 = nI len ∧ V.2 12 = nI s ∧ V.2 14 = nI k ∧ ∀ i, i < len → V.1 8 i = bf i
/-- the reading ends here: the first error, or an end where it is not whole -/
def k_bx (bf : Nat → Int32) (len e : Nat) : Prop := k_er bf len e ∧ (e = len → k_cpl (k_rs bf len) = false)
theorem k_bx_mk {bf : Nat → Int32} {len e : Nat} (h1 : e ≤ len) (h2 : (k_rs bf e).1 ≠ 8) (h3 : k_cpl (k_rs bf e) = false) (h4 : e < len → (k_rd (k_rs bf e) (bf e)).1 = 8) : k_bx bf len e := ⟨⟨h1, h2, h4⟩, fun y => by rw [← y]; exact h3⟩
def k_rno (bf : Nat → Int32) (len m : Nat) (V : KM) (f : XM) (z : Option (Bool × XM)) : Prop := ∃ (f' : XM) (V' : KM) (e : Nat), z = some (false, f') ∧ k_mo f' m V' ∧ k_fr f f' m (m + 10) ∧ k_mx V V' [9] [12, 14] ∧ V'.2 12 = nI e ∧ k_bx bf len e
theorem k_rno.mn {bf : Nat → Int32} {len m : Nat} {V V0 : KM} {f f0 : XM} {z : Option (Bool × XM)} (h : k_rno bf len m V f z) (hf : k_fr f0 f m (m + 10)) (hx : k_mx V0 V [9] [12, 14]) : k_rno bf len m V0 f0 z := by
  obtain ⟨f', V', e, a1, a2, a3, a4, a5⟩ := h
  exact ⟨f', V', e, a1, a2, hf.tr a3, hx.tr a4, a5⟩
section KSP
variable {N m len s k : Nat} {bf : Nat → Int32} {V : KM} {f : XM}
theorem k_rv.sp {s' : Nat} (h : k_rv bf len s k V) (hs : s' ≤ len) : k_rv bf len s' k (k_sI V 12 (nI s')) := by
  obtain ⟨h1, h2, h3, h4, h5, h6⟩ := h
  exact ⟨h1, hs, (k_sI_n (by omega)).trans h3, k_sI_s, (k_sI_n (by omega)).trans h5, h6⟩
theorem k_rv.ar {i : Nat} {v : Int32} (h : k_rv bf len s k V) : k_rv bf len s k (k_sA V 9 i v) := by
  obtain ⟨h1, h2, h3, h4, h5, h6⟩ := h
  exact ⟨h1, h2, h3, h4, h5, fun j hj => by rw [k_sA_n (by omega)]; exact h6 j hj⟩
theorem k_fg (h : k_mo f m V) (hv : k_rv bf len s k V) : (∃ d, d ≤ 9 ∧ s < len ∧ bf s = nI (d + 48) ∧ F_X6_figure N f m = some (nI d)) ∨ ((s < len → k_dg (bf s) = false) ∧ F_X6_figure N f m = some (-1)) := by
  obtain ⟨h1, h2, h3, h4, h5, h6⟩ := hv
  unfold F_X6_figure
  rw [h.i12, h.i10, h3, h4, Option.bind_some, Option.bind_some]
  by_cases g : s < len
  · rw [if_neg (nI_ge g (by omega)), h.r9, Option.bind_some, Option.bind_some, Option.bind_some, h.ld (a := 8) (i := s) (by omega) (by omega) (show s < 60 by omega), Option.bind_some, h6 s g, k_in, Option.bind_some]
    have e : (@decide ((48 : Int32).toInt ≤ (bf s).toInt ∧ (bf s).toInt ≤ (57 : Int32).toInt) _) = k_dg (bf s) := rfl
    rw [e]
    by_cases d : k_dg (bf s) = false
    · rw [if_pos (k_xb_dg0 d)]
      exact Or.inr ⟨fun _ => d, rfl⟩
    · rw [if_neg (k_xb_dg1 d)]
      obtain ⟨w, w1, w2⟩ := k_dg_d (k_dg_t d)
      refine Or.inl ⟨w, w1, g, w2, ?_⟩
      simp only [Option.bind_some, h.ld (a := 8) (i := s) (by omega) (by omega) (show s < 60 by omega), h6 s g, w2, k_sub48]
  · rw [if_pos (nI_le (by omega) (by omega))]
    exact Or.inr ⟨fun y => absurd y g, rfl⟩
theorem k_takes (h : k_mo f m V) (hv : k_rv bf len s k V) (sg : Int32) : (s < len ∧ bf s = sg ∧ ∃ f', F_X6_takes N f m sg = some (true, f') ∧ k_mo f' m (k_sI V 12 (nI (s + 1))) ∧ k_fr f f' m (m + 10)) ∨ ((s < len → bf s ≠ sg) ∧ ∃ f', F_X6_takes N f m sg = some (false, f') ∧ k_mo f' m (k_sI V 12 (nI s)) ∧ k_fr f f' m (m + 10)) := by
  obtain ⟨h1, h2, h3, h4, h5, h6⟩ := hv
  have e0 : nI s + 0 = nI s := nI_add s 0
  unfold F_X6_takes
  rw [h.i12, h.i10, h3, h4, Option.bind_some, Option.bind_some]
  by_cases g : s < len
  · rw [if_neg (nI_ge g (by omega)), h.r9, Option.bind_some, Option.bind_some, Option.bind_some, h.ld (a := 8) (i := s) (by omega) (by omega) (show s < 60 by omega), Option.bind_some, h6 s g]
    by_cases e : bf s = sg
    · obtain ⟨f1, a1, a2, a3⟩ := h.pi (i := 12) (by omega) (nI (s + 1))
      refine Or.inl ⟨g, e, f1, ?_, a2, a3⟩
      rw [if_pos e, Option.bind_some, if_neg (by decide), k_add1, a1, Option.bind_some]
    · obtain ⟨f1, a1, a2, a3⟩ := h.pi (i := 12) (by omega) (nI s)
      refine Or.inr ⟨fun _ => e, f1, ?_, a2, a3⟩
      rw [if_neg e, Option.bind_some, if_pos rfl, e0, a1, Option.bind_some]
  · obtain ⟨f1, a1, a2, a3⟩ := h.pi (i := 12) (by omega) (nI s)
    refine Or.inr ⟨fun y => absurd y g, f1, ?_, a2, a3⟩
    rw [if_pos (nI_le (by omega) (by omega)), Option.bind_some, if_pos rfl, e0, a1, Option.bind_some]
theorem k_num_end {pl v : Nat} (h : k_mo f m V) (hv : k_rv bf len s k V) (hk : k ≤ 29) (hp : pl ≤ 2) : ∃ f', ((x_getr f 6 m 13).bind fun v11 => (x_geti f 6 m 14).bind fun v12 => Option.bind v11 fun a13 => (x_ast f a13 ((3 * v12) + nI pl) (nI v)).bind fun f14 => some (true, f14)) = some (true, f') ∧ k_mo f' m (k_sA V 9 (3 * k + pl) (nI v)) ∧ k_fr f f' m (m + 10) := by
  obtain ⟨f1, a1, a2, a3⟩ := h.st (a := 9) (i := 3 * k + pl) (by omega) (by omega) (show _ < 93 by omega) (nI v)
  refine ⟨f1, ?_, a2, a3⟩
  rw [h.r13, Option.bind_some, h.i14, hv.2.2.2.2.1, Option.bind_some, Option.bind_some, k_3m, nI_add, a1, Option.bind_some]
theorem k_num_loop {Q : Nat → KQ} {most pl : Nat} (hm : most ≤ 9999) (hp : pl ≤ 2) (hk : k ≤ 29) (hq : ∀ v d, 0 < v → d ≤ 9 → 10 * v + d ≤ most → k_rd (Q v) (nI (d + 48)) = Q (10 * v + d)) : ∀ (dd fuel j v : Nat) (f : XM) (V : KM), len ≤ j + dd → dd < fuel → k_mo f m V → k_rv bf len j k V → v ≤ most → k_rs bf j = Q v →
    ∃ (f' : XM) (V' : KM) (s' v' : Nat), F_X6_isNumber_L22 N m (nI pl) (nI most) (fun y3_10 g10 => (x_getr g10 6 m 13).bind fun v11 => (x_geti g10 6 m 14).bind fun v12 => Option.bind v11 fun a13 => (x_ast g10 a13 ((3 * v12) + nI pl) y3_10).bind fun f14 => some (true, f14)) fuel (nI v) f = some (true, f') ∧ k_mo f' m V' ∧ k_fr f f' m (m + 10) ∧ k_mx V V' [9] [12] ∧ j ≤ s' ∧ k_rv bf len s' k V' ∧ v' ≤ most ∧ k_rs bf s' = Q v' ∧ V'.1 9 = upd (V.1 9) (3 * k + pl) (nI v') ∧ (∀ i, j ≤ i → i < s' → bf i ≠ 59) ∧ (s' < len → k_dg (bf s') = true → ∃ d, d ≤ 9 ∧ bf s' = nI (d + 48) ∧ (v' = 0 ∨ most < 10 * v' + d)) := by
  intro dd
  induction dd with
  | zero =>
    intro fuel j v f V h1 h2 h hv hvm hs
    obtain ⟨u, rfl⟩ : ∃ u, fuel = u + 1 := ⟨fuel - 1, by omega⟩
    obtain ⟨f1, a1, a2, a3⟩ := k_num_end (v := v) h hv hk hp
    refine ⟨f1, _, j, v, ?_, a2, a3, k_sA_mx (by simp), Nat.le_refl _, hv.ar, hvm, hs, k_sA_s, fun i y z => absurd z (by omega), fun y => absurd y (by omega)⟩
    rw [F_X6_isNumber_L22]
    by_cases z : v = 0
    · subst z
      rw [if_pos (show nI 0 ≤ 0 by decide)]
      exact a1
    · rw [if_neg (nI_nle (by omega) (by omega)), h.cv]
      rcases k_fg (N := N) h hv with ⟨d, d1, d2, d3, d4⟩ | ⟨d1, d2⟩
      · exact absurd d2 (by omega)
      · rw [d2, Option.bind_some, if_pos rfl]
        exact a1
  | succ dd ih =>
    intro fuel j v f V h1 h2 h hv hvm hs
    obtain ⟨u, rfl⟩ : ∃ u, fuel = u + 1 := ⟨fuel - 1, by omega⟩
    obtain ⟨f1, a1, a2, a3⟩ := k_num_end (v := v) h hv hk hp
    rw [F_X6_isNumber_L22]
    by_cases z : v = 0
    · refine ⟨f1, _, j, v, ?_, a2, a3, k_sA_mx (by simp), Nat.le_refl _, hv.ar, hvm, hs, k_sA_s, fun i y z => absurd z (by omega), fun y w => ?_⟩
      · rw [if_pos (by rw [z]; decide)]
        exact a1
      · obtain ⟨d, d1, d2⟩ := k_dg_d w
        exact ⟨d, d1, d2, Or.inl z⟩
    · rw [if_neg (nI_nle (by omega) (by omega)), h.cv]
      rcases k_fg (N := N) h hv with ⟨d, d1, d2, d3, d4⟩ | ⟨d1, d2⟩
      · rw [d4, Option.bind_some, if_neg (k_nim1 _ (by omega)), Option.bind_some, k_10]
        by_cases g : most < 10 * v + d
        · refine ⟨f1, _, j, v, ?_, a2, a3, k_sA_mx (by simp), Nat.le_refl _, hv.ar, hvm, hs, k_sA_s, fun i y z => absurd z (by omega), fun y w => ⟨d, d1, d3, Or.inr g⟩⟩
          rw [if_pos (nI_lt g (by omega))]
          exact a1
        · obtain ⟨f2, b1, b2, b3⟩ := h.pi (i := 12) (by omega) (nI (j + 1))
          have hv2 := hv.sp (s' := j + 1) (by omega)
          rw [if_neg (nI_nlt (by omega) (by omega)), Option.bind_some, h.i12, hv.2.2.2.1, Option.bind_some, k_add1, b1, Option.bind_some, k_10]
          obtain ⟨f3, V3, s', v', c1, c2, c3, c4, c5, c6, c7, c8, c9, c10, c11⟩ := ih u (j + 1) (10 * v + d) f2 _ (by omega) (by omega) b2 hv2 (by omega) (by
            show k_rd (k_rs bf j) (bf j) = _
            rw [hs, d3]
            exact hq v d (by omega) d1 (by omega))
          refine ⟨f3, V3, s', v', c1, c2, b3.tr c3, (k_sI_mx (by simp)).tr c4, by omega, c6, c7, c8, c9, fun i y z => ?_, c11⟩
          by_cases w : i = j
          · rw [w, d3]
            exact k_dg_59 d1
          · exact c10 i (by omega) z
      · refine ⟨f1, _, j, v, ?_, a2, a3, k_sA_mx (by simp), Nat.le_refl _, hv.ar, hvm, hs, k_sA_s, fun i y z => absurd z (by omega), fun y w => ?_⟩
        · rw [d2, Option.bind_some, if_pos rfl]
          exact a1
        · rw [d1 y] at w
          exact absurd w (by decide)
theorem k_isNumber {Q : Nat → KQ} {q0 : KQ} {most pl : Nat} (hN : 100 ≤ N) (hm : most ≤ 9999) (hm9 : 9 ≤ most) (hp : pl ≤ 2) (hk : k ≤ 29) (h : k_mo f m V) (hv : k_rv bf len s k V) (hs : k_rs bf s = q0) (h8 : q0.1 ≠ 8) (hc : k_cpl q0 = false) (h0 : ∀ d, d ≤ 9 → k_rd q0 (nI (d + 48)) = Q d) (hn : ∀ x, k_dg x = false → (k_rd q0 x).1 = 8)
    (hq : ∀ v d, 0 < v → d ≤ 9 → 10 * v + d ≤ most → k_rd (Q v) (nI (d + 48)) = Q (10 * v + d)) (hq2 : ∀ v d, d ≤ 9 → v ≤ most → (v = 0 ∨ most < 10 * v + d) → (k_rd (Q v) (nI (d + 48))).1 = 8) :
    (F_X6_isNumber N f m (nI pl) (nI most) = some (false, f) ∧ k_bx bf len s) ∨ ∃ (f' : XM) (V' : KM) (s' v' : Nat), F_X6_isNumber N f m (nI pl) (nI most) = some (true, f') ∧ k_mo f' m V' ∧ k_fr f f' m (m + 10) ∧ k_mx V V' [9] [12] ∧ s < s' ∧ k_rv bf len s' k V' ∧ v' ≤ most ∧ k_rs bf s' = Q v' ∧ V'.1 9 = upd (V.1 9) (3 * k + pl) (nI v') ∧ (∀ i, s ≤ i → i < s' → bf i ≠ 59) ∧ (s' < len → k_dg (bf s') = true → (k_rd (Q v') (bf s')).1 = 8) := by
  have hl := hv.1
  unfold F_X6_isNumber
  rw [h.cv]
  rcases k_fg (N := N) h hv with ⟨d, d1, d2, d3, d4⟩ | ⟨d1, d2⟩
  · obtain ⟨f2, b1, b2, b3⟩ := h.pi (i := 12) (by omega) (nI (s + 1))
    have hv2 := hv.sp (s' := s + 1) (by omega)
    rw [d4, Option.bind_some, if_neg (k_nim1 _ (by omega)), h.i12, hv.2.2.2.1, Option.bind_some, k_add1, b1, Option.bind_some]
    obtain ⟨f3, V3, s', v', c1, c2, c3, c4, c5, c6, c7, c8, c9, c10, c11⟩ := k_num_loop (N := N) (m := m) (bf := bf) (len := len) (k := k) hm hp hk hq len N (s + 1) d f2 _ (by omega) (by omega) b2 hv2 (by omega) (by
      show k_rd (k_rs bf s) (bf s) = _
      rw [hs, d3]
      exact h0 d d1)
    refine Or.inr ⟨f3, V3, s', v', c1, c2, b3.tr c3, (k_sI_mx (by simp)).tr c4, by omega, c6, c7, c8, c9, fun i y z => ?_, fun y z => ?_⟩
    · by_cases w : i = s
      · rw [w, d3]
        exact k_dg_59 d1
      · exact c10 i (by omega) z
    · obtain ⟨d', e1, e2, e3⟩ := c11 y z
      rw [e2]
      exact hq2 v' d' e1 c7 e3
  · rw [d2, Option.bind_some, if_pos rfl]
    refine Or.inl ⟨rfl, k_bx_mk hv.2.1 (by rw [hs]; exact h8) (by rw [hs]; exact hc) (fun y => ?_)⟩
    rw [hs]
    exact hn _ (d1 y)
end KSP
