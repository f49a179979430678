/-! The bits of a quotient. -/
theorem k_bits {N : Nat} {f : XM} (hN : 5000 ≤ N) {a b : Nat} (ha : a ≤ 2 ^ 20) (hb : b ≤ 2 ^ 20) : F_X5_bitsOf N f (k_ds a b) = some (k_ds a b).toInt64 := sorry
