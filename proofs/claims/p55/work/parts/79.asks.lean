/-! Calls that ask, with the gatherer at work, and of two arguments. -/
section KAR
variable {wz : Nat}
variable {N L : Nat} {xs : Nat → Int32} {x m o t : Nat} {h : XH} {f : XM} {n len : Nat} {q : Nat → Option Nat} {St : Nat → KS} {S : KS} {bf : Nat → Int32} {c : Nat}
theorem k_reqRange (lo hi : Int32) : F_X5_requireRange N f lo hi = some (if (0 ≤ lo.toInt ∧ lo.toInt ≤ 9999) ∧ lo.toInt ≤ hi.toInt ∧ hi.toInt ≤ 9999 then .inl () else .inr 0) := by
  have e0 : (0 : Int32).toInt = 0 := rfl
  have e1 : (9999 : Int32).toInt = 9999 := rfl
  unfold F_X5_requireRange
  simp only [k_i_lt, k_i_le, e0, e1]
  by_cases g1 : lo.toInt < 0
  · rw [if_pos g1, if_neg (by omega)]
  · rw [if_neg g1]
    by_cases g2 : 9999 < lo.toInt
    · rw [if_pos g2, if_neg (by omega)]
    · rw [if_neg g2]
      by_cases g3 : hi.toInt < lo.toInt
      · rw [if_pos g3, if_neg (by omega)]
      · rw [if_neg g3]
        by_cases g4 : hi.toInt ≤ 9999
        · rw [if_pos g4, if_pos (by omega)]
        · rw [if_neg g4, if_neg (by omega)]
end KAR

