/-! The steps of the reader on letters. -/
theorem k_sub48 (a : Nat) : nI (a + 48) - 48 = nI a := by
  rw [← nI_add]
  exact Int32.add_sub_cancel _ _
theorem k_acc (v d : Nat) : nI v * 10 + nI (d + 48) - 48 = nI (10 * v + d) := by
  rw [show (10 : Int32) = nI 10 from rfl, pk_mul, nI_add, show v * 10 + (d + 48) = 10 * v + d + 48 by omega, k_sub48]
theorem k_10 (v d : Nat) : (10 * nI v) + nI d = nI (10 * v + d) := by rw [show (10 : Int32) = nI 10 from rfl, pk_mul, nI_add]
theorem k_3m (k : Nat) : (3 * nI k : Int32) = nI (3 * k) := by rw [show (3 : Int32) = nI 3 from rfl, pk_mul]
theorem k_dg_d {x : Int32} (h : k_dg x = true) : ∃ d, d ≤ 9 ∧ x = nI (d + 48) := by
  have h1 := of_decide_eq_true h
  obtain ⟨j, j1, j2, j3⟩ := k_nn (x := x) (by omega)
  exact ⟨j - 48, by omega, by rw [j2, show j - 48 + 48 = j by omega]⟩
theorem k_dg_y {d : Nat} (h : d ≤ 9) : k_dg (nI (d + 48)) = true := decide_eq_true (by rw [nI_toInt (by omega)]; omega)
theorem k_dg_59 {d : Nat} (h : d ≤ 9) : nI (d + 48) ≠ 59 := fun e => by
  have := (nI_eq (a := d + 48) (b := 59) (by omega) (by omega)).mp e
  omega
theorem k_dg_61 {d : Nat} (h : d ≤ 9) : nI (d + 48) ≠ 61 := fun e => by
  have := (nI_eq (a := d + 48) (b := 61) (by omega) (by omega)).mp e
  omega
theorem k_dg_nf {d : Nat} (h : d ≤ 9) : ¬ k_dg (nI (d + 48)) = false := by rw [k_dg_y h]; decide
theorem k_rd_n59 {q : KQ} {x : Int32} (h : x ≠ 59) : k_rd q x = k_rdM q x := if_neg (fun y => h y.1)
theorem k_rd_nc {q : KQ} {x : Int32} (h : k_cpl q = false) : k_rd q x = k_rdM q x := if_neg (fun y => by rw [h] at y; exact absurd y.2 (by decide))
theorem k_cpl_n {q : KQ} (h1 : q.1 ≠ 7) (h2 : q.1 ≠ 4) (h3 : q.1 = 2 → q.2.1 = 112 ∨ q.2.1 = 105) : k_cpl q = false := decide_eq_false (fun y => by
  rcases y with y | y | ⟨y1, y2, y3⟩
  · exact h1 y
  · exact h2 y
  · rcases h3 y1 with z | z
    · exact y2 z
    · exact y3 z)
theorem k_c0 (r : Int32 × Int32 × Int32) : k_cpl (0, r) = false := k_cpl_n (show ¬ (0 : Int32) = 7 by decide) (show ¬ (0 : Int32) = 4 by decide) (fun e => absurd e (show ¬ (0 : Int32) = 2 by decide))
theorem k_c1 (r : Int32 × Int32 × Int32) : k_cpl (1, r) = false := k_cpl_n (show ¬ (1 : Int32) = 7 by decide) (show ¬ (1 : Int32) = 4 by decide) (fun e => absurd e (show ¬ (1 : Int32) = 2 by decide))
theorem k_c3 (r : Int32 × Int32 × Int32) : k_cpl (3, r) = false := k_cpl_n (show ¬ (3 : Int32) = 7 by decide) (show ¬ (3 : Int32) = 4 by decide) (fun e => absurd e (show ¬ (3 : Int32) = 2 by decide))
theorem k_c5 (r : Int32 × Int32 × Int32) : k_cpl (5, r) = false := k_cpl_n (show ¬ (5 : Int32) = 7 by decide) (show ¬ (5 : Int32) = 4 by decide) (fun e => absurd e (show ¬ (5 : Int32) = 2 by decide))
theorem k_c6 (r : Int32 × Int32 × Int32) : k_cpl (6, r) = false := k_cpl_n (show ¬ (6 : Int32) = 7 by decide) (show ¬ (6 : Int32) = 4 by decide) (fun e => absurd e (show ¬ (6 : Int32) = 2 by decide))
theorem k_c2 {b : Int32} (h : b = 112 ∨ b = 105) (r : Int32 × Int32) : k_cpl (2, b, r) = false := k_cpl_n (show ¬ (2 : Int32) = 7 by decide) (show ¬ (2 : Int32) = 4 by decide) (fun _ => h)
theorem k_c2y {b : Int32} (h1 : b ≠ 112) (h2 : b ≠ 105) (r : Int32 × Int32) : k_cpl (2, b, r) = true := decide_eq_true (Or.inr (Or.inr ⟨rfl, h1, h2⟩))
theorem k_c4 (r : Int32 × Int32 × Int32) : k_cpl (4, r) = true := decide_eq_true (Or.inr (Or.inl rfl))
theorem k_c7 (r : Int32 × Int32 × Int32) : k_cpl (7, r) = true := decide_eq_true (Or.inl rfl)
section KRT
variable {wz : Nat}
variable {b c e x : Int32} {d v : Nat}
theorem k_rdK_y {a : Int32} (h9 : d ≤ 9) (hz : ¬ (a = 2 ∧ nI v = 0)) : k_rdK (a, b, nI v, e) (nI (d + 48)) = (if nI (10 * v + d) ≤ 9999 then 2 else 8, b, nI (10 * v + d), e) := by
  unfold k_rdK
  rw [if_neg (fun y => k_dg_61 h9 y.1), if_neg (k_dg_nf h9), if_neg hz]
  dsimp only
  rw [k_acc]
theorem k_rdK_n {q : KQ} (hx : k_dg x = false) (h : ¬ (x = 61 ∧ q.1 = 2 ∧ (q.2.1 = 112 ∨ q.2.1 = 105))) : (k_rdK q x).1 = 8 := by
  unfold k_rdK
  rw [if_neg h, if_pos hx]
theorem k_rdV_y {a : Int32} (h9 : d ≤ 9) (hz : ¬ (a = 4 ∧ nI v = 0)) : k_rdV (a, b, c, nI v) (nI (d + 48)) = (if nI (10 * v + d) ≤ 99 then 4 else 8, b, c, nI (10 * v + d)) := by
  unfold k_rdV
  rw [if_neg (k_dg_nf h9), if_neg hz]
  dsimp only
  rw [k_acc]
theorem k_rdV_n {q : KQ} (hx : k_dg x = false) : (k_rdV q x).1 = 8 := by
  unfold k_rdV
  rw [if_pos hx]
theorem k_rdF_y {a : Int32} (h9 : d ≤ 9) : k_rdF (a, b, nI v, e) (nI (d + 48)) = (k_fll (nI (10 * v + d)), b, nI (10 * v + d), e) := by
  unfold k_rdF
  rw [if_neg (k_dg_nf h9)]
  dsimp only
  rw [k_acc]
theorem k_rdF_n {q : KQ} (hx : k_dg x = false) : (k_rdF q x).1 = 8 := by
  unfold k_rdF
  rw [if_pos hx]
theorem k_t0 {r : Int32 × Int32 × Int32} : k_rd (0, r) x = k_rdL x := by rw [k_rd_nc (k_c0 r)]; rfl
theorem k_u1 (h9 : d ≤ 9) : k_rd (1, b, 0, 0) (nI (d + 48)) = (2, b, nI d, 0) := by
  rw [k_rd_nc (k_c1 _)]
  show k_rdK (1, b, nI 0, 0) (nI (d + 48)) = _
  rw [k_rdK_y h9 (fun y => absurd y.1 (by decide)), if_pos (show nI (10 * 0 + d) ≤ 9999 from nI_le (b := 9999) (by omega) (by omega)), Nat.mul_zero, Nat.zero_add]
theorem k_t1n (hx : k_dg x = false) : (k_rd (1, b, 0, 0) x).1 = 8 := by
  rw [k_rd_nc (k_c1 _)]
  exact k_rdK_n hx (fun y => absurd y.2.1 (show ¬ (1 : Int32) = 2 by decide))
theorem k_u2 (h9 : d ≤ 9) (hv : 0 < v) (hm : 10 * v + d ≤ 9999) : k_rd (2, b, nI v, 0) (nI (d + 48)) = (2, b, nI (10 * v + d), 0) := by
  rw [k_rd_n59 (k_dg_59 h9)]
  show k_rdK (2, b, nI v, 0) (nI (d + 48)) = _
  rw [k_rdK_y h9 (fun y => nI_ne0 hv (by omega) y.2), if_pos (show nI (10 * v + d) ≤ 9999 from nI_le (b := 9999) (by omega) (by omega))]
theorem k_t2b (h9 : d ≤ 9) (hv : v ≤ 9999) (hm : v = 0 ∨ 9999 < 10 * v + d) : (k_rd (2, b, nI v, 0) (nI (d + 48))).1 = 8 := by
  rw [k_rd_n59 (k_dg_59 h9)]
  show (k_rdK (2, b, nI v, 0) (nI (d + 48))).1 = 8
  rcases Nat.eq_zero_or_pos v with z | z
  · subst z
    unfold k_rdK
    rw [if_neg (fun y => k_dg_61 h9 y.1), if_neg (k_dg_nf h9), if_pos ⟨rfl, rfl⟩]
  · rw [k_rdK_y h9 (fun y => nI_ne0 z (by omega) y.2), if_neg (show ¬ nI (10 * v + d) ≤ 9999 from nI_ge (a := 9999) (by omega) (by omega))]
theorem k_t2n (hx : k_dg x = false) (h59 : x ≠ 59) (hb : b ≠ 112 ∧ b ≠ 105) : (k_rd (2, b, c, e) x).1 = 8 := by
  rw [k_rd_n59 h59]
  exact k_rdK_n hx (fun y => y.2.2.elim hb.1 hb.2)
theorem k_t2m (hx : k_dg x = false) (h61 : x ≠ 61) (hb : b = 112 ∨ b = 105) : (k_rd (2, b, c, e) x).1 = 8 := by
  rw [k_rd_nc (k_c2 hb _)]
  exact k_rdK_n hx (fun y => h61 y.1)
theorem k_t2e (hb : b = 112 ∨ b = 105) : k_rd (2, b, c, e) 61 = (3, b, c, e) := by
  rw [k_rd_nc (k_c2 hb _)]
  show k_rdK (2, b, c, e) 61 = _
  unfold k_rdK
  rw [if_pos ⟨rfl, rfl, hb⟩]
theorem k_u3 (h9 : d ≤ 9) : k_rd (3, b, c, 0) (nI (d + 48)) = (4, b, c, nI d) := by
  rw [k_rd_nc (k_c3 _)]
  show k_rdV (3, b, c, nI 0) (nI (d + 48)) = _
  rw [k_rdV_y h9 (fun y => absurd y.1 (by decide)), if_pos (show nI (10 * 0 + d) ≤ 99 from nI_le (b := 99) (by omega) (by omega)), Nat.mul_zero, Nat.zero_add]
theorem k_t3n (hx : k_dg x = false) : (k_rd (3, b, c, e) x).1 = 8 := by
  rw [k_rd_nc (k_c3 _)]
  exact k_rdV_n hx
theorem k_t4 (h9 : d ≤ 9) (hv : 0 < v) (hm : 10 * v + d ≤ 99) : k_rd (4, b, c, nI v) (nI (d + 48)) = (4, b, c, nI (10 * v + d)) := by
  rw [k_rd_n59 (k_dg_59 h9)]
  show k_rdV (4, b, c, nI v) (nI (d + 48)) = _
  rw [k_rdV_y h9 (fun y => nI_ne0 hv (by omega) y.2), if_pos (show nI (10 * v + d) ≤ 99 from nI_le (b := 99) (by omega) (by omega))]
theorem k_t4b (h9 : d ≤ 9) (hv : v ≤ 99) (hm : v = 0 ∨ 99 < 10 * v + d) : (k_rd (4, b, c, nI v) (nI (d + 48))).1 = 8 := by
  rw [k_rd_n59 (k_dg_59 h9)]
  show (k_rdV (4, b, c, nI v) (nI (d + 48))).1 = 8
  rcases Nat.eq_zero_or_pos v with z | z
  · subst z
    unfold k_rdV
    rw [if_neg (k_dg_nf h9), if_pos ⟨rfl, rfl⟩]
  · rw [k_rdV_y h9 (fun y => nI_ne0 z (by omega) y.2), if_neg (show ¬ nI (10 * v + d) ≤ 99 from nI_ge (a := 99) (by omega) (by omega))]
theorem k_t4n (hx : k_dg x = false) (h59 : x ≠ 59) : (k_rd (4, b, c, e) x).1 = 8 := by
  rw [k_rd_n59 h59]
  exact k_rdV_n hx
theorem k_t5 (h9 : d ≤ 9) : k_rd (5, b, 0, 0) (nI (d + 48)) = (k_fll (nI d), b, nI d, 0) := by
  rw [k_rd_nc (k_c5 _)]
  show k_rdF (5, b, nI 0, 0) (nI (d + 48)) = _
  rw [k_rdF_y h9, Nat.mul_zero, Nat.zero_add]
theorem k_t5n (hx : k_dg x = false) : (k_rd (5, b, c, e) x).1 = 8 := by
  rw [k_rd_nc (k_c5 _)]
  exact k_rdF_n hx
theorem k_t6 (h9 : d ≤ 9) : k_rd (6, b, nI v, 0) (nI (d + 48)) = (k_fll (nI (10 * v + d)), b, nI (10 * v + d), 0) := by
  rw [k_rd_nc (k_c6 _)]
  exact k_rdF_y h9
theorem k_t6n (hx : k_dg x = false) : (k_rd (6, b, c, e) x).1 = 8 := by
  rw [k_rd_nc (k_c6 _)]
  exact k_rdF_n hx
theorem k_t7 (h59 : x ≠ 59) : (k_rd (7, b, c, e) x).1 = 8 := by
  rw [k_rd_n59 h59]
  rfl
end KRT
/-! The reference's reading: figures, numbers, signs. -/
/-- the reading ends here: the first error, or an end where it is not whole -/
def k_bx (bf : Nat → Int32) (len e : Nat) : Prop := k_er bf len e ∧ (e = len → k_cpl (k_rs bf len) = false)
theorem k_bx_mk {bf : Nat → Int32} {len e : Nat} (h1 : e ≤ len) (h2 : (k_rs bf e).1 ≠ 8) (h3 : k_cpl (k_rs bf e) = false) (h4 : e < len → (k_rd (k_rs bf e) (bf e)).1 = 8) : k_bx bf len e := ⟨⟨h1, h2, h4⟩, fun y => by rw [← y]; exact h3⟩
section KSP
variable {wz : Nat}
variable {N m len s k : Nat} {bf : Nat → Int32} {f : XM}
end KSP

