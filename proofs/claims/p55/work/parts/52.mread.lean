/-! The reference: leaves, entries, levels, pages. -/
section KMS
variable {wz : Nat}
variable {N : Nat} {f : XM} {m c : Nat} {S : KS}
theorem k_add0 (x : Int32) : x + 0 = x := Int32.add_zero x
theorem k_ovf_le (T : KT) (l : Nat) : k_ovf T l ≤ T.1.1 := k_cnt_le _ _
theorem k_own_le (T : KT) (l : Nat) : k_own T l ≤ T.1.1 := k_cnt_le _ _
end KMS

