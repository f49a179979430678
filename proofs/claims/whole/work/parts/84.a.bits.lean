/-! The bits of a quotient. -/
/-- exponent and fraction of a number that isn't small -/
def k_fb (K t : Nat) : UInt64 := UInt64.ofNat (K * 2 ^ 52 + t)
theorem k_fb_n {K t : Nat} (hK : K ≤ 2046) (ht : t < 2 ^ 52) : (k_fb K t).toNat = K * 2 ^ 52 + t := UInt64.toNat_ofNat_of_lt (show K * 2 ^ 52 + t < 2 ^ 64 by omega)
theorem k_fb_v {K t : Nat} (h1 : 1 ≤ K) (hK : K ≤ 2046) (ht : t < 2 ^ 52) : Jvm.FP.Core.val64 (k_fb K t) = .fin false (2 ^ 52 + t) ((K : Int) - 1075) := by
  have ea : Jvm.FP.Core.assemble Jvm.FP.Core.b64 false K t = K * 2 ^ 52 + t := by
    unfold Jvm.FP.Core.assemble
    rw [Jvm.FP.Core.tails_b64]
    show (0 * _ + K) * 2 ^ 52 + t = _
    rw [Nat.zero_mul, Nat.zero_add]
  have ex : Jvm.FP.Core.b64.exps = 2048 := by decide
  have h := Jvm.FP.Core.decode_assemble Jvm.FP.Core.b64 false K t (by rw [ex]; omega) (by rw [Jvm.FP.Core.tails_b64]; exact ht)
  rw [ea, ex, if_neg (by omega), if_neg (by omega), Jvm.FP.Core.tails_b64, Jvm.FP.Core.qmin_b64] at h
  unfold Jvm.FP.Core.val64
  rw [k_fb_n hK ht, h, show (-1074 + ((K : Int) - 1)) = (K : Int) - 1075 by omega]
theorem k_fb_nn {K t : Nat} (h1 : 1 ≤ K) (hK : K ≤ 2046) (ht : t < 2 ^ 52) : Jvm.FP.Core.val64 (k_fb K t) ≠ .nan := by
  rw [k_fb_v h1 hK ht]
  intro e
  cases e
theorem k_good : Jvm.FP.Core.Good Jvm.FP.Core.b64 := Jvm.FP.Core.good_b64
/-- times a power of two -/
theorem k_fb_mul {K K' t : Nat} {b : UInt64} {m : Int} (h1 : 1 ≤ K) (hK : K ≤ 2046) (ht : t < 2 ^ 52) (hb : Jvm.FP.Core.val64 b = .fin false (2 ^ 52) (m - 52)) (hm : (K' : Int) = K + m) (h1' : 1 ≤ K') (hK' : K' ≤ 2046) : FP.dmul (k_fb K t) b = k_fb K' t := by
  have hv : Jvm.FP.Core.val64 (FP.dmul (k_fb K t) b) = Jvm.FP.Core.val64 (k_fb K' t) := by
    refine (Jvm.FP.Core.val64_dmul (k_fb K t) b).trans ?_
    rw [k_fb_v h1 hK ht, hb, k_fb_v h1' hK' ht]
    show Jvm.FP.Core.roundRatio Jvm.FP.Core.b64 (false != false) ((2 ^ 52 + t) * 2 ^ 52) 1 ((K : Int) - 1075 + (m - 52)) = _
    refine Jvm.FP.Core.roundRatio_exact k_good (by decide) ⟨?_, ?_, ?_, ?_⟩ ?_
    · show 2 ^ 52 + t < 2 ^ 53
      omega
    · rw [Jvm.FP.Core.qmin_b64]; omega
    · have : Jvm.FP.Core.b64.qmax = 971 := by decide
      rw [this]; omega
    · rw [Jvm.FP.Core.tails_b64]; exact Or.inr (by omega)
    · rw [show ((K : Int) - 1075 + (m - 52) - ((K' : Int) - 1075)).toNat = 0 by omega, show ((K' : Int) - 1075 - ((K : Int) - 1075 + (m - 52))).toNat = 52 by omega, Nat.pow_zero, Nat.mul_one, Nat.mul_one]
  exact Jvm.FP.Core.val64_inj (by rw [hv]; exact k_fb_nn h1' hK' ht) hv
theorem k_fb_cmp {K t L : Nat} (h1 : 1 ≤ K) (hK : K ≤ 2046) (ht : t < 2 ^ 52) (hL1 : 1 ≤ L) (hL : L ≤ 2046) : (K < L → FP.dcmp (k_fb K t) (k_fb L 0) = some .lt) ∧ (L ≤ K → FP.dcmp (k_fb K t) (k_fb L 0) = some .eq ∨ FP.dcmp (k_fb K t) (k_fb L 0) = some .gt) := by
  have n1 := k_fb_n hK ht
  have n2 := k_fb_n (t := 0) hL (by decide)
  have hm := Jvm.FP.Core.mono_bits (a := k_fb K t) (b := k_fb L 0) (k_fb_nn h1 hK ht) (k_fb_nn hL1 hL (by decide)) (by rw [n1]; omega) (by rw [n2]; omega)
  rw [n1, n2] at hm
  refine ⟨fun y => hm.1.mpr (by omega), fun y => ?_⟩
  rcases Nat.eq_or_lt_of_le (show L * 2 ^ 52 + 0 ≤ K * 2 ^ 52 + t by omega) with z | z
  · exact Or.inl (hm.2.1.mpr z.symm)
  · exact Or.inr (hm.2.2.mpr z)
theorem k_two : (4611686018427387904 : UInt64) = k_fb 1024 0 := by decide +kernel
theorem k_onef : FP.dconst1 = k_fb 1023 0 := by decide +kernel
theorem k_hlf : Jvm.FP.Core.val64 (4602678819172646912 : UInt64) = .fin false (2 ^ 52) ((-1) - 52) := by decide +kernel
theorem k_twv : Jvm.FP.Core.val64 (4611686018427387904 : UInt64) = .fin false (2 ^ 52) (1 - 52) := by decide +kernel
theorem k_p52 : Jvm.FP.Core.val64 (4841369599423283200 : UInt64) = .fin false (2 ^ 52) 0 := by decide +kernel
theorem k_shl (K : Nat) : lN K <<< ((52 : Int32).toInt64 &&& 63) = lN (K * 2 ^ 52) := by
  have e : ((52 : Int32).toInt64 &&& 63) = (52 : Int64) := by decide +kernel
  rw [e]
  apply Int64.toBitVec_inj.mp
  rw [Int64.toBitVec_shiftLeft]
  have e2 : ((52 : Int64).toBitVec.smod 64) = 52#64 := by decide +kernel
  rw [e2]
  show BitVec.ofNat 64 K <<< 52#64 = BitVec.ofNat 64 (K * 2 ^ 52)
  apply BitVec.eq_of_toNat_eq
  simp [BitVec.toNat_shiftLeft, Nat.shiftLeft_eq, Nat.mul_mod]
/-- what is left behind a whole number of two's powers -/
theorem k_wh {c t u : Nat} {q : Int} (hq : -((u : Int) + 52) ≤ q) (h : c * 2 ^ (q + u + 52).toNat = t * 2 ^ u) : Jvm.FP.Core.Whole (t : Int) (.fin false (c * 2 ^ 52) q) := by
  have key : c * 2 ^ 52 * 2 ^ q.toNat = t * 2 ^ (-q).toNat := by
    apply Nat.eq_of_mul_eq_mul_right (Nat.two_pow_pos u)
    have e : (q + u + 52).toNat + (-q).toNat = 52 + q.toNat + u := by omega
    calc c * 2 ^ 52 * 2 ^ q.toNat * 2 ^ u = c * 2 ^ (52 + q.toNat + u) := by rw [Nat.pow_add, Nat.pow_add]; simp only [Nat.mul_assoc]
      _ = c * 2 ^ (q + u + 52).toNat * 2 ^ (-q).toNat := by rw [← e, Nat.pow_add, Nat.mul_assoc]
      _ = t * 2 ^ (-q).toNat * 2 ^ u := by rw [h, Nat.mul_right_comm]
  show ((c * 2 ^ 52 * 2 ^ q.toNat : Nat) : Int) = (t : Int) * ((2 ^ (-q).toNat : Nat) : Int)
  rw [key, Int.natCast_mul]
theorem k_frac {t : Nat} (ht : t < 2 ^ 52) : ∃ c q, Jvm.FP.Core.val64 (FP.dsub (k_fb 1023 t) FP.dconst1) = .fin false c q ∧ Jvm.FP.Core.b64.qmin ≤ q ∧ Jvm.FP.Core.inUnits c q Jvm.FP.Core.b64.qmin = Jvm.FP.Core.inUnits t (-52) Jvm.FP.Core.b64.qmin := by
  have hs := Jvm.FP.Core.val64_dsub (k_fb 1023 t) FP.dconst1
  rw [k_fb_v (by omega) (by omega) ht, Jvm.FP.Core.val64_dconst1] at hs
  have es : Jvm.FP.Core.exactSum (.fin false (2 ^ 52 + t) (((1023 : Nat) : Int) - 1075)) (Jvm.FP.Core.negate (.fin false (2 ^ 52) (-52))) = .fin false t (-52) := by
    show Jvm.FP.Core.exactSum (.fin false (2 ^ 52 + t) (-52)) (.fin true (2 ^ 52) (-52)) = .fin false t (-52)
    have eu : Jvm.FP.Core.sumUnits false (2 ^ 52 + t) (-52) true (2 ^ 52) (-52) (min (-52) (-52)) = (t : Int) := by
      show ((((2 ^ 52 + t) * 2 ^ ((-52 : Int) - (min (-52) (-52))).toNat : Nat) : Int) + -(((2 ^ 52) * 2 ^ ((-52 : Int) - (min (-52) (-52))).toNat : Nat) : Int)) = (t : Int)
      rw [show ((-52 : Int) - (min (-52) (-52))).toNat = 0 by decide]
      omega
    show Jvm.FP.Core.Datum.fin (Jvm.FP.Core.sumSign false true (Jvm.FP.Core.sumUnits false (2 ^ 52 + t) (-52) true (2 ^ 52) (-52) (min (-52) (-52)))) (Jvm.FP.Core.sumUnits false (2 ^ 52 + t) (-52) true (2 ^ 52) (-52) (min (-52) (-52))).natAbs (min (-52) (-52)) = _
    rw [eu]
    unfold Jvm.FP.Core.sumSign
    have e1 : (if (t : Int) = 0 then (false && true) else decide ((t : Int) < 0)) = false := by
      split
      · rfl
      · exact decide_eq_false (by omega)
    rw [e1]
    rfl
  rw [es] at hs
  obtain ⟨c, q, h1, h2⟩ := Jvm.FP.Core.round_exact k_good false (c := t) (q := -52) (show t < 2 ^ 53 by omega) (by decide) (by decide)
  rw [h1] at hs
  have hf := Jvm.FP.Core.val64_fits (FP.dsub (k_fb 1023 t) FP.dconst1)
  have hs' : Jvm.FP.Core.val64 (FP.dsub (k_fb 1023 t) FP.dconst1) = .fin false c q := hs
  rw [hs'] at hf
  exact ⟨c, q, hs', hf.2.1, h2⟩
theorem k_lNt {t : Nat} (ht : t < 2 ^ 52) : (lN t).toInt = (t : Int) := lg_ofNat_toInt (by omega)
theorem k_fin {t : Nat} (ht : t < 2 ^ 52) : ∃ v7 v8, x_dn (FP.dsub (k_fb 1023 t) FP.dconst1) = some v7 ∧ x_dn (FP.dmul v7 (4841369599423283200 : UInt64)) = some v8 ∧ FP.d2l v8 = lN t := by
  obtain ⟨c, q, h1, h2, h3⟩ := k_frac ht
  have n1 : Jvm.FP.Core.val64 (FP.dsub (k_fb 1023 t) FP.dconst1) ≠ .nan := by
    rw [h1]
    intro e
    cases e
  have hw : Jvm.FP.Core.Whole (t : Int) (Jvm.FP.Core.val64 (FP.dmul (FP.dsub (k_fb 1023 t) FP.dconst1) (4841369599423283200 : UInt64))) := by
    have e := Jvm.FP.Core.val64_dmul (FP.dsub (k_fb 1023 t) FP.dconst1) (4841369599423283200 : UInt64)
    rw [h1, k_p52] at e
    have e' : Jvm.FP.Core.val64 (FP.dmul (FP.dsub (k_fb 1023 t) FP.dconst1) (4841369599423283200 : UInt64)) = Jvm.FP.Core.round Jvm.FP.Core.b64 (.fin false (c * 2 ^ 52) (q + 0)) := e
    rw [e', Int.add_zero]
    rw [Jvm.FP.Core.qmin_b64] at h2 h3
    unfold Jvm.FP.Core.inUnits at h3
    refine Jvm.FP.Core.whole_round k_good Jvm.FP.Core.wide_b64 (show ((t : Int)).natAbs ≤ 2 ^ 53 by omega) (k_wh (u := 1022) (by omega) ?_)
    rw [show (q - (-1074)).toNat = (q + (1022 : Nat) + 52).toNat by omega, show ((-52 : Int) - (-1074)).toNat = 1022 by decide] at h3
    exact h3
  refine ⟨_, _, k_dn n1, k_dn (Jvm.FP.Core.Whole.ne_nan hw), ?_⟩
  exact Jvm.FP.Core.d2l_int (a := lN t) (by rw [k_lNt ht]; exact hw)
theorem k_bits {N : Nat} {f : XM} (hN : 5000 ≤ N) {a b : Nat} (ha : a ≤ 2 ^ 20) (hb : b ≤ 2 ^ 20) : F_X5_bitsOf N f (k_ds a b) = some (k_ds a b).toInt64 := sorry
