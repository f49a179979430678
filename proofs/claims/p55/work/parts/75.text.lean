/-! Letters written down, the buffer cleared, states taken back. -/
section KTX
variable {wz : Nat}
variable {N L : Nat} {xs : Nat → Int32} {x m o t : Nat} {h : XH} {f : XM} {n len : Nat} {q : Nat → Option Nat} {St : Nat → KS} {S : KS} {bf : Nat → Int32} {c : Nat}
theorem k_ci.app (h : k_ci f x wz n q St S bf len) (hl : len < 60) (k : Int32) : ∃ f1 f2, x_ast f (x + 61) (nI len) k = some f1 ∧ x_geti f1 5 x 6 = some (nI len) ∧ x_puti f1 5 x 6 (nI (len + 1)) = some f2 ∧ k_ci f2 x wz n q St S (upd bf len k) (len + 1) ∧ x_geti f2 5 x 6 = some (nI (len + 1)) ∧ ∀ a, x + 70 ≤ a → a < wz → f2 a = f a := by
  obtain ⟨h1, h2, ⟨sp, a1, a2⟩, ⟨g1, a3, a4⟩, ⟨g2, a5, a6⟩, a7, ⟨ra, rb, rc, rd, a8⟩, b1, b2, a9, a10⟩ := h
  have e1 : ∀ a, a ≠ x + 61 → x_up f (x + 61) (.inl (.int, 60, .inl (upd bf len k))) a = f a := fun a ha => x_up_n ha
  have o1 := (e1 x (by omega)).trans a2
  have p1 := k_puti (v := nI (len + 1)) o1 (k := 6) (by simp [k_ob])
  have e2 : ∀ a, a ≠ x → a ≠ x + 61 → x_up (x_up f (x + 61) (.inl (.int, 60, .inl (upd bf len k)))) x (.inr (5, (k_ob x sp n len).set 6 (.int (nI (len + 1))))) a = f a := fun a y z => (x_up_n y).trans (x_up_n z)
  have hci : k_ci (x_up (x_up f (x + 61) (.inl (.int, 60, .inl (upd bf len k)))) x (.inr (5, (k_ob x sp n len).set 6 (.int (nI (len + 1)))))) x wz n q St S (upd bf len k) (len + 1) :=
    ⟨h1, by omega, ⟨sp, a1, x_up_s⟩, ⟨g1, (e2 _ (by omega) (by omega)).trans a3, a4⟩, ⟨g2, (e2 _ (by omega) (by omega)).trans a5, a6⟩, (x_up_n (by omega)).trans x_up_s, ⟨ra, rb, rc, rd, (e2 _ (by omega) (by omega)).trans a8⟩, b1.ext (fun a c d => e2 a (by omega) (by omega)), b2.ext (fun a c d => e2 a (by omega) (by omega)), a9.ext (fun i p a e1 e3 e4 e5 => e2 a (by have := (a9.1 i p e1 e3).1; omega) (by have := (a9.1 i p e1 e3).1; omega)), a10⟩
  exact ⟨_, _, k_ast a7 hl (by omega), k_geti o1 rfl, p1, hci, hci.lng, fun a y1 y2 => e2 a (by omega) (by omega)⟩
end KTX

