/-! Orders that are followed: the law. -/
section KL12
variable {wz : Nat}
variable {N L : Nat} {xs : Nat → Int32} {x m o t : Nat} {h : XH} {f : XM} {n len : Nat} {q : Nat → Option Nat} {St : Nat → KS} {S : KS} {bf : Nat → Int32} {c : Nat}
theorem k_ci.clr (h : k_ci f x wz n q St S bf len) : ∃ f' : XM, x_puti f 5 x 6 0 = some f' ∧ k_ci f' x wz n q St S bf 0 ∧ k_fr f f' x (x + 1) := by
  obtain ⟨h1, h2, ⟨sp, a1, a2⟩, ⟨g1, a3, a4⟩, ⟨g2, a5, a6⟩, a7, ⟨ra, rb, rc, rd, a8⟩, b1, b2, a9, a10⟩ := h
  have e2 : ∀ a, a ≠ x → x_up f x (.inr (5, (k_ob x sp n len).set 6 (.int 0))) a = f a := fun a y => x_up_n y
  exact ⟨_, k_puti (v := 0) a2 (k := 6) (by simp [k_ob]), ⟨h1, by omega, ⟨sp, a1, x_up_s⟩, ⟨g1, (e2 _ (by omega)).trans a3, a4⟩, ⟨g2, (e2 _ (by omega)).trans a5, a6⟩, (e2 _ (by omega)).trans a7, ⟨ra, rb, rc, rd, (e2 _ (by omega)).trans a8⟩, b1.ext (fun a c d => e2 a (by omega)), b2.ext (fun a c d => e2 a (by omega)), a9.ext (fun i p a e1 e3 e4 e5 => e2 a (by have := (a9.1 i p e1 e3).1; omega)), a10⟩, k_fr.up (Nat.le_refl _) (Nat.lt_succ_self _)⟩
end KL12

