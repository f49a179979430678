/-! What is left of the laws: the reader's (11, 12), and all of them together. -/
section KEN
variable {wz : Nat}
variable {N L : Nat} {xs : Nat → Int32} {x m o t : Nat} {h : XH}
theorem k_ifst {c : Prop} {hc : Decidable c} {A B : Option XM} {P : XM → Prop} (hA : ∃ r, A = some r ∧ P r) (hB : ∃ r, B = some r ∧ P r) : ∃ r, (@ite _ c hc A B) = some r ∧ P r := by
  by_cases z : c
  · rw [if_pos z]; exact hA
  · rw [if_neg z]; exact hB
end KEN

