/-! The world: class and reference side by side. -/
section KW
variable {wz : Nat}
variable {N : Nat} {x n len : Nat} {q : Nat → Option Nat} {St : Nat → KS} {S S' : KS} {bf : Nat → Int32} {c t : Nat}
theorem k_ci.frm {f f' : XM} {lo hi : Nat} (h : k_ci f x wz n q St S bf len) (e : k_fr f f' lo hi) (h1 : x + 70 ≤ lo) (h2 : (hi ≤ x + 70 ∨ hi ≤ wz)) : k_ci f' x wz n q St S bf len := by
  obtain ⟨g1, g2, ⟨sp, a1, a2⟩, ⟨u1, a3, a4⟩, ⟨u2, a5, a6⟩, a7, ⟨ra, rb, rc, rd, a8⟩, b1, b2, a9, a10⟩ := h
  exact ⟨g1, g2, ⟨sp, a1, (e _ (by omega)).trans a2⟩, ⟨u1, (e _ (by omega)).trans a3, a4⟩, ⟨u2, (e _ (by omega)).trans a5, a6⟩, (e _ (by omega)).trans a7, ⟨ra, rb, rc, rd, (e _ (by omega)).trans a8⟩, b1.ext (fun a c d => e a (by omega)), b2.fr e (by omega), a9.fr e (by omega), a10⟩
end KW

