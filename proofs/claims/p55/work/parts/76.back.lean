/-! States taken back, kept, gone back to. -/
section KBK
variable {wz : Nat}
variable {N L : Nat} {xs : Nat → Int32} {x m o t : Nat} {h : XH} {f : XM} {n len : Nat} {q : Nat → Option Nat} {St : Nat → KS} {S : KS} {bf : Nat → Int32} {c : Nat}
theorem k_reqSlot {p : Int32} : F_X5_requireSlot N f p = some (if 0 ≤ p.toInt ∧ p.toInt ≤ 1 then .inl () else .inr 0) := by
  have e0 : (0 : Int32).toInt = 0 := rfl
  have e1 : (2 : Int32).toInt = 2 := rfl
  unfold F_X5_requireSlot
  by_cases g : p < 0
  · rw [if_pos g, if_neg (by rw [k_i_lt, e0] at g; omega)]
  · rw [if_neg g]
    by_cases g2 : p < 2
    · rw [if_pos g2, if_pos (by rw [k_i_lt, e0] at g; rw [k_i_lt, e1] at g2; omega)]
    · rw [if_neg g2, if_neg (by rw [k_i_lt, e1] at g2; omega)]
theorem k_slotAt (h : k_ci f x wz n q St S bf len) {j : Nat} (hj : j < 2) : F_X5_slotAt N f x (nI j) = some (q (j + 7)) := by
  obtain ⟨g2, a5, a6⟩ := h.2.2.2.2.1
  unfold F_X5_slotAt
  rw [if_neg (nI_pos (by omega))]
  simp only [h.slt, k_alenr a5, Option.bind_some]
  rw [if_pos (nI_lt hj (by omega))]
  simp only [k_aldr a5 hj (by omega), a6 j hj, Option.bind_some]
end KBK

