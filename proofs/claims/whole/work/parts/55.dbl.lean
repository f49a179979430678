/-! Doubles: sums of small numbers, quotients, their bits. -/
def k_dq (a b : Nat) : UInt64 := FP.ddiv (FP.i2d (nI a)) (FP.i2d (nI b))
/-- a share, a mean: 0.0 of nothing -/
def k_ds (a b : Nat) : UInt64 := if b = 0 then FP.dconst0 else k_dq a b
theorem k_d0 : FP.dconst0 = FP.i2d (nI 0) := by decide +kernel
theorem k_d1 : FP.dconst1 = FP.i2d (nI 1) := by decide +kernel
theorem k_dadd {a b : Nat} (ha : a ≤ 2 ^ 20) (hb : b ≤ 2 ^ 20) : x_dn (FP.dadd (FP.i2d (nI a)) (FP.i2d (nI b))) = some (FP.i2d (nI (a + b))) := sorry
theorem k_dq_n {a b : Nat} (ha : a ≤ 2 ^ 20) (hb : b ≤ 2 ^ 20) (h0 : 0 < b) : x_dn (FP.ddiv (FP.i2d (nI a)) (FP.i2d (nI b))) = some (k_dq a b) := sorry
theorem k_bits {N : Nat} {f : XM} (hN : 5000 ≤ N) {a b : Nat} (ha : a ≤ 2 ^ 20) (hb : b ≤ 2 ^ 20) : F_X5_bitsOf N f (k_ds a b) = some (k_ds a b).toInt64 := sorry
theorem k_dlb {N : Nat} {f : XM} {a b : Nat} (ha : a ≤ 2 ^ 20) (hb : b ≤ 2 ^ 20) : F_Jxe99ae_doubleToLongBits_ccdee N f (k_ds a b) = some (k_ds a b).toInt64 := sorry
/-- a number is itself -/
theorem k_ds_self {a b : Nat} (ha : a ≤ 2 ^ 20) (hb : b ≤ 2 ^ 20) : FP.dcmp (k_ds a b) (k_ds a b) = some .eq := sorry
