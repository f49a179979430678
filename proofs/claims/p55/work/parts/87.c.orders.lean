/-! The reference's reading: shares, orders, the whole text; the first error. -/
theorem k_fll6 {j : Nat} (h : j = 1 ∨ j = 10 ∨ (5 ≤ j ∧ j ≤ 9)) : k_fll (nI j) = 6 := by
  unfold k_fll
  rw [nI_toInt (by omega), if_neg (by omega), if_pos]
  rcases h with rfl | rfl | h
  · exact Or.inl rfl
  · exact Or.inr (Or.inl rfl)
  · exact Or.inr (Or.inr (by omega))
theorem k_fll7 {j : Nat} (h1 : 50 ≤ j) (h2 : j ≤ 100) : k_fll (nI j) = 7 := by
  unfold k_fll
  rw [nI_toInt (by omega), if_pos (by omega)]
theorem k_fll8 {j : Nat} (h0 : j < 200) (h : ¬ (j = 1 ∨ j = 10 ∨ (5 ≤ j ∧ j ≤ 9))) (h2 : ¬ (50 ≤ j ∧ j ≤ 100)) : k_fll (nI j) = 8 := by
  unfold k_fll
  rw [nI_toInt (by omega), if_neg (by omega), if_neg]
  intro y
  rcases y with y | y | y
  · exact h (Or.inl ((nI_eq (a := j) (b := 1) (by omega) (by omega)).mp y))
  · exact h (Or.inr (Or.inl ((nI_eq (a := j) (b := 10) (by omega) (by omega)).mp y)))
  · exact h (Or.inr (Or.inr (by omega)))
theorem k_cpl8 {q : KQ} (h : k_cpl q = true) : q.1 ≠ 8 := fun e => by
  have h1 := of_decide_eq_true h
  rw [e] at h1
  rcases h1 with y | y | y
  · exact absurd y (by decide)
  · exact absurd y (by decide)
  · exact absurd y.1 (by decide)
section KOR
variable {wz : Nat}
variable {N m len s k : Nat} {bf : Nat → Int32} {f : XM}
end KOR
section KL11
variable {wz : Nat}
variable {N L : Nat} {xs : Nat → Int32} {x m o t : Nat} {h : XH} {f : XM} {n len : Nat} {q : Nat → Option Nat} {St : Nat → KS} {S : KS} {bf : Nat → Int32} {c : Nat}
theorem k_ci.rd {f' : XM} (h : k_ci f x wz n q St S bf len) (hf : ∀ a, ¬ (x + 62 ≤ a ∧ a < x + 63) → f' a = f a) {w : KQ} (hq : k_rq f' (x + 62) w) : k_ci f' x wz n q St S bf len := by
  obtain ⟨h1, h2, ⟨sp, a1, a2⟩, ⟨g1, a3, a4⟩, ⟨g2, a5, a6⟩, a7, -, b1, b2, a9, a10⟩ := h
  exact ⟨h1, h2, ⟨sp, a1, (hf _ (by omega)).trans a2⟩, ⟨g1, (hf _ (by omega)).trans a3, a4⟩, ⟨g2, (hf _ (by omega)).trans a5, a6⟩, (hf _ (by omega)).trans a7, ⟨_, _, _, _, hq⟩, b1.ext (fun a c d => hf a (by omega)), b2.ext (fun a c d => hf a (by omega)), a9.ext (fun i p a e1 e2 e3 e4 => hf a (by have := (a9.1 i p e1 e2).1; omega)), a10⟩
theorem k_ci.rq (h : k_ci f x wz n q St S bf len) : ∃ w : KQ, k_rq f (x + 62) w := by
  obtain ⟨-, -, -, -, -, -, ⟨a, b, c, d, e⟩, -⟩ := h
  exact ⟨(a, b, c, d), e⟩
end KL11

