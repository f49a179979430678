/-! Calls that ask, by one pattern. -/
section KAP
variable {wz : Nat}
variable {N L : Nat} {xs : Nat → Int32} {x m o t : Nat} {h : XH} {f : XM} {n len : Nat} {q : Nat → Option Nat} {St : Nat → KS} {S : KS} {bf : Nat → Int32} {c : Nat}
theorem k_reqLeaf (h : k_ci f x wz n q St S bf len) (l : Int32) : F_X5_requireLeaf N f x l = some (if 0 ≤ l.toInt ∧ l.toInt < S.2.2.1.2.2.1 then .inl () else .inr 2) := by
  have h5 := h.st.tree.2.2.2.2
  have e0 : (0 : Int32).toInt = 0 := rfl
  unfold F_X5_requireLeaf
  by_cases g : l < 0
  · rw [if_pos g, if_neg (by rw [k_i_lt, e0] at g; omega)]
  · rw [if_neg g]
    rw [k_i_lt, e0] at g
    simp only [h.now, h.st.tr, h.st.tree.l, Option.bind_some]
    by_cases g2 : l < nI S.2.2.1.2.2.1
    · rw [if_pos g2, if_pos (by rw [k_i_lt, nI_toInt (by omega)] at g2; omega)]
    · rw [if_neg g2, if_neg (by rw [k_i_lt, nI_toInt (by omega)] at g2; omega)]
end KAP

