/-! Doubles: sums of small numbers, quotients, their bits. -/
def k_dq (a b : Nat) : UInt64 := FP.ddiv (FP.i2d (nI a)) (FP.i2d (nI b))
/-- a share, a mean: 0.0 of nothing -/
def k_ds (a b : Nat) : UInt64 := if b = 0 then FP.dconst0 else k_dq a b
theorem k_d0 : FP.dconst0 = FP.i2d (nI 0) := by decide +kernel
theorem k_d1 : FP.dconst1 = FP.i2d (nI 1) := by decide +kernel
theorem k_dn {r : UInt64} (h : Jvm.FP.Core.val64 r ≠ .nan) : x_dn r = some r := by
  have h2 := (Jvm.FP.Core.ne_nan r).mp h
  unfold x_dn
  rw [if_pos]
  rw [UInt64.le_iff_toNat_le, UInt64.toNat_and]
  show r.toNat &&& (2 ^ 63 - 1) ≤ 9218868437227405312
  rw [Nat.and_two_pow_sub_one_eq_mod]
  exact h2
theorem k_dadd {a b : Nat} (ha : a ≤ 2 ^ 20) (hb : b ≤ 2 ^ 20) : x_dn (FP.dadd (FP.i2d (nI a)) (FP.i2d (nI b))) = some (FP.i2d (nI (a + b))) := by
  have h1 := Jvm.FP.Core.i2d_int (nI a)
  have h2 := Jvm.FP.Core.i2d_int (nI b)
  have h3 := Jvm.FP.Core.i2d_int (nI (a + b))
  rw [nI_toInt (by omega)] at h1 h2 h3
  have h4 := Jvm.FP.Core.dadd_int h1 h2 (by omega)
  have e : FP.dadd (FP.i2d (nI a)) (FP.i2d (nI b)) = FP.i2d (nI (a + b)) := by
    rcases Nat.eq_zero_or_pos (a + b) with z | z
    · have za : a = 0 := by omega
      have zb : b = 0 := by omega
      subst za
      subst zb
      decide +kernel
    · exact Jvm.FP.Core.dint_unique (i := ((a + b : Nat) : Int)) (by omega) (by rw [Int.natCast_add]; exact h4) h3
  rw [e]
  exact k_dn (Jvm.FP.Core.DInt_ne_nan h3)
theorem k_dqnn {a b : Nat} (ha : a ≤ 2 ^ 20) (hb : b ≤ 2 ^ 20) (h0 : 0 < b) : Jvm.FP.Core.val64 (FP.ddiv (FP.i2d (nI a)) (FP.i2d (nI b))) ≠ .nan := by
  have hz : nI b ≠ 0 := nI_ne0 h0 (by omega)
  have h1 := Jvm.FP.Core.DInt_ne_nan (Jvm.FP.Core.i2d_int (nI a))
  have hz2 : ¬ Jvm.FP.Core.DZero (FP.i2d (nI b)) := by
    rw [Jvm.FP.Core.zero_bits2]
    exact Jvm.FP.Core.i2d_ne_zero hz
  have h3 := Jvm.FP.Core.ddiv_out (a := FP.i2d (nI a)) (b := FP.i2d (nI b)) (Bool.eq_false_iff.mpr (fun e => by
    have u1 : 9218868437227405312 < (FP.i2d (nI a)).toNat % 2 ^ 63 := (Jvm.FP.Core.isNaN_bits _).mp e
    have u2 : (FP.i2d (nI a)).toNat % 2 ^ 63 ≤ 9218868437227405312 := (Jvm.FP.Core.ne_nan _).mp h1
    omega)) (Jvm.FP.Core.i2d_fin _) hz2
  rw [Jvm.FP.Core.ne_nan]
  rcases Nat.lt_or_ge 9218868437227405312 ((FP.ddiv (FP.i2d (nI a)) (FP.i2d (nI b))).toNat % 2 ^ 63) with y | y
  · have h4 := (Jvm.FP.Core.isNaN_bits (FP.ddiv (FP.i2d (nI a)) (FP.i2d (nI b)))).mpr y
    rw [h3] at h4
    cases h4
  · exact y
theorem k_dq_n {a b : Nat} (ha : a ≤ 2 ^ 20) (hb : b ≤ 2 ^ 20) (h0 : 0 < b) : x_dn (FP.ddiv (FP.i2d (nI a)) (FP.i2d (nI b))) = some (k_dq a b) := k_dn (k_dqnn ha hb h0)
theorem k_ds_self {a b : Nat} (ha : a ≤ 2 ^ 20) (hb : b ≤ 2 ^ 20) : FP.dcmp (k_ds a b) (k_ds a b) = some .eq := by
  unfold k_ds
  by_cases z : b = 0
  · rw [if_pos z]; decide +kernel
  · rw [if_neg z]
    exact Jvm.FP.Core.dcmp_self (k_dqnn ha hb (by omega))
