/-! A law of the whole library, named first, so that the reading over the whole of it sets in at once. -/
theorem k_wide (a : UInt64) : Jvm.FP.Core.val64 a ≠ .nan ↔ a.toNat % 2 ^ 63 ≤ 9218868437227405312 := Jvm.FP.Core.ne_nan a
