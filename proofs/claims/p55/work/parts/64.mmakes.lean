/-! The reference: the building itself. -/
section KMK
variable {wz : Nat}
variable {N : Nat} {f : XM} {m c : Nat} {S : KS}
/-- the leaf of a key of a tree just built -/
theorem k_lf_bl {S : KS} {p : Nat} (hw : k_ws S) (hp : p ≤ 100) {Q : KR} (hQ : k_fnd S Q) (hn : Q.1 ≤ 160) {j : Nat} (hj : j < Q.1) : k_lf (k_sbl S Q p).2.2.1 (Q.2.1 j) = j / k_each S.2.2.2.1 p + 1 := by
  have he := k_each_r hw hp
  have hwt := (k_ws_bl hw hp hQ hn).2.2.2.2.1
  have hm := Nat.mod_add_div j (k_each S.2.2.2.1 p)
  have hlt := Nat.mod_lt j (show 0 < k_each S.2.2.2.1 p by omega)
  have hlc : j / k_each S.2.2.2.1 p < k_ru Q.1 (k_each S.2.2.2.1 p) := by
    have := (k_ru_st (i := j) he.1).2.2
    have h2 : k_ru (j + 1) (k_each S.2.2.2.1 p) ≤ k_ru Q.1 (k_each S.2.2.2.1 p) := Nat.div_le_div_right (by omega)
    omega
  have hr := (hQ.1.2 j hj)
  refine (k_lf_inl hwt hr.2 hlc).mp ?_
  unfold k_inl
  rw [decide_eq_true_eq]
  unfold k_bd
  rw [if_pos (show j / k_each S.2.2.2.1 p < (k_sbl S Q p).2.2.1.2.2.1 from hlc)]
  constructor
  · show (if j / k_each S.2.2.2.1 p = 0 then (0 : Int32) else Q.2.1 (k_each S.2.2.2.1 p * (j / k_each S.2.2.2.1 p))).toInt ≤ _
    by_cases z : j / k_each S.2.2.2.1 p = 0
    · rw [if_pos z]
      have e0 : (0 : Int32).toInt = 0 := rfl
      omega
    · rw [if_neg z]
      rcases Nat.eq_or_lt_of_le (show k_each S.2.2.2.1 p * (j / k_each S.2.2.2.1 p) ≤ j by omega) with y | y
      · rw [y]; exact Int.le_refl _
      · exact Int.le_of_lt (hQ.1.1 _ _ y hj)
  · by_cases y : j / k_each S.2.2.2.1 p + 1 < (k_sbl S Q p).2.2.1.2.2.1
    · rw [if_pos y]
      have y' : j / k_each S.2.2.2.1 p + 1 < k_ru Q.1 (k_each S.2.2.2.1 p) := y
      have hlt2 := k_ru_lt he.1 y'
      show _ < (if j / k_each S.2.2.2.1 p + 1 = 0 then (0 : Int32) else Q.2.1 (k_each S.2.2.2.1 p * (j / k_each S.2.2.2.1 p + 1))).toInt
      rw [if_neg (Nat.succ_ne_zero _)]
      refine hQ.1.1 _ _ ?_ hlt2
      rw [Nat.mul_add]
      omega
    · rw [if_neg y]
      exact hr.2
end KMK

