/-! The bits of a quotient. -/
/-- exponent and fraction of a number that isn't small -/
def k_fb (K t : Nat) : UInt64 := UInt64.ofNat (K * 2 ^ 52 + t)
theorem k_fb_n {K t : Nat} (hK : K ≤ 2046) (ht : t < 2 ^ 52) : (k_fb K t).toNat = K * 2 ^ 52 + t := UInt64.toNat_ofNat_of_lt (show K * 2 ^ 52 + t < 2 ^ 64 by omega)
theorem k_fb_v {K t : Nat} (h1 : 1 ≤ K) (hK : K ≤ 2046) (ht : t < 2 ^ 52) : Jvm.FP.Core.val64 (k_fb K t) = .fin false (2 ^ 52 + t) ((K : Int) - 1075) := by
  have ea : Jvm.FP.Core.assemble Jvm.FP.Core.b64 false K t = K * 2 ^ 52 + t := by
    unfold Jvm.FP.Core.assemble
    rw [Jvm.FP.Core.tails_b64]
    show (0 * _ + K) * 2 ^ 52 + t = _
    rw [Nat.zero_mul, Nat.zero_add]
  have ex : Jvm.FP.Core.b64.exps = 2048 := by decide
  have h := Jvm.FP.Core.decode_assemble Jvm.FP.Core.b64 false K t (by rw [ex]; omega) (by rw [Jvm.FP.Core.tails_b64]; exact ht)
  rw [ea, ex, if_neg (by omega), if_neg (by omega), Jvm.FP.Core.tails_b64, Jvm.FP.Core.qmin_b64] at h
  unfold Jvm.FP.Core.val64
  rw [k_fb_n hK ht, h, show (-1074 + ((K : Int) - 1)) = (K : Int) - 1075 by omega]
theorem k_fb_nn {K t : Nat} (h1 : 1 ≤ K) (hK : K ≤ 2046) (ht : t < 2 ^ 52) : Jvm.FP.Core.val64 (k_fb K t) ≠ .nan := by
  rw [k_fb_v h1 hK ht]
  intro e
  cases e
theorem k_good : Jvm.FP.Core.Good Jvm.FP.Core.b64 := Jvm.FP.Core.good_b64
/-- times a power of two -/
theorem k_fb_mul {K K' t : Nat} {b : UInt64} {m : Int} (h1 : 1 ≤ K) (hK : K ≤ 2046) (ht : t < 2 ^ 52) (hb : Jvm.FP.Core.val64 b = .fin false (2 ^ 52) (m - 52)) (hm : (K' : Int) = K + m) (h1' : 1 ≤ K') (hK' : K' ≤ 2046) : FP.dmul (k_fb K t) b = k_fb K' t := by
  have hv : Jvm.FP.Core.val64 (FP.dmul (k_fb K t) b) = Jvm.FP.Core.val64 (k_fb K' t) := by
    refine (Jvm.FP.Core.val64_dmul (k_fb K t) b).trans ?_
    rw [k_fb_v h1 hK ht, hb, k_fb_v h1' hK' ht]
    show Jvm.FP.Core.roundRatio Jvm.FP.Core.b64 (false != false) ((2 ^ 52 + t) * 2 ^ 52) 1 ((K : Int) - 1075 + (m - 52)) = _
    refine Jvm.FP.Core.roundRatio_exact k_good (by decide) ⟨?_, ?_, ?_, ?_⟩ ?_
    · show 2 ^ 52 + t < 2 ^ 53
      omega
    · rw [Jvm.FP.Core.qmin_b64]; omega
    · have : Jvm.FP.Core.b64.qmax = 971 := by decide
      rw [this]; omega
    · rw [Jvm.FP.Core.tails_b64]; exact Or.inr (by omega)
    · rw [show ((K : Int) - 1075 + (m - 52) - ((K' : Int) - 1075)).toNat = 0 by omega, show ((K' : Int) - 1075 - ((K : Int) - 1075 + (m - 52))).toNat = 52 by omega, Nat.pow_zero, Nat.mul_one, Nat.mul_one]
  exact Jvm.FP.Core.val64_inj (by rw [hv]; exact k_fb_nn h1' hK' ht) hv
theorem k_fb_cmp {K t L : Nat} (h1 : 1 ≤ K) (hK : K ≤ 2046) (ht : t < 2 ^ 52) (hL1 : 1 ≤ L) (hL : L ≤ 2046) : (K < L → FP.dcmp (k_fb K t) (k_fb L 0) = some .lt) ∧ (L ≤ K → FP.dcmp (k_fb K t) (k_fb L 0) = some .eq ∨ FP.dcmp (k_fb K t) (k_fb L 0) = some .gt) := by
  have n1 := k_fb_n hK ht
  have n2 := k_fb_n (t := 0) hL (by decide)
  have hm := Jvm.FP.Core.mono_bits (a := k_fb K t) (b := k_fb L 0) (k_fb_nn h1 hK ht) (k_fb_nn hL1 hL (by decide)) (by rw [n1]; omega) (by rw [n2]; omega)
  rw [n1, n2] at hm
  refine ⟨fun y => hm.1.mpr (by omega), fun y => ?_⟩
  rcases Nat.eq_or_lt_of_le (show L * 2 ^ 52 + 0 ≤ K * 2 ^ 52 + t by omega) with z | z
  · exact Or.inl (hm.2.1.mpr z.symm)
  · exact Or.inr (hm.2.2.mpr z)
theorem k_two : (4611686018427387904 : UInt64) = k_fb 1024 0 := by decide +kernel
theorem k_onef : FP.dconst1 = k_fb 1023 0 := by decide +kernel
theorem k_hlf : Jvm.FP.Core.val64 (4602678819172646912 : UInt64) = .fin false (2 ^ 52) ((-1) - 52) := by decide +kernel
theorem k_twv : Jvm.FP.Core.val64 (4611686018427387904 : UInt64) = .fin false (2 ^ 52) (1 - 52) := by decide +kernel
theorem k_p52 : Jvm.FP.Core.val64 (4841369599423283200 : UInt64) = .fin false (2 ^ 52) 0 := by decide +kernel
theorem k_shl (K : Nat) : lN K <<< ((52 : Int32).toInt64 &&& 63) = lN (K * 2 ^ 52) := by
  have e : ((52 : Int32).toInt64 &&& 63) = (52 : Int64) := by decide +kernel
  rw [e]
  apply Int64.toBitVec_inj.mp
  rw [Int64.toBitVec_shiftLeft]
  have e2 : ((52 : Int64).toBitVec.smod 64) = 52#64 := by decide +kernel
  rw [e2]
  show BitVec.ofNat 64 K <<< 52#64 = BitVec.ofNat 64 (K * 2 ^ 52)
  apply BitVec.eq_of_toNat_eq
  simp [BitVec.toNat_shiftLeft, Nat.shiftLeft_eq, Nat.mul_mod]
/-- what is left behind a whole number of two's powers -/
theorem k_wh {c t u : Nat} {q : Int} (hq : -((u : Int) + 52) ≤ q) (h : c * 2 ^ (q + u + 52).toNat = t * 2 ^ u) : Jvm.FP.Core.Whole (t : Int) (.fin false (c * 2 ^ 52) q) := by
  have key : c * 2 ^ 52 * 2 ^ q.toNat = t * 2 ^ (-q).toNat := by
    apply Nat.eq_of_mul_eq_mul_right (Nat.two_pow_pos u)
    have e : (q + u + 52).toNat + (-q).toNat = 52 + q.toNat + u := by omega
    calc c * 2 ^ 52 * 2 ^ q.toNat * 2 ^ u = c * 2 ^ (52 + q.toNat + u) := by rw [Nat.pow_add, Nat.pow_add]; simp only [Nat.mul_assoc]
      _ = c * 2 ^ (q + u + 52).toNat * 2 ^ (-q).toNat := by rw [← e, Nat.pow_add, Nat.mul_assoc]
      _ = t * 2 ^ (-q).toNat * 2 ^ u := by rw [h, Nat.mul_right_comm]
  show ((c * 2 ^ 52 * 2 ^ q.toNat : Nat) : Int) = (t : Int) * ((2 ^ (-q).toNat : Nat) : Int)
  rw [key, Int.natCast_mul]
theorem k_frac {t : Nat} (ht : t < 2 ^ 52) : ∃ c q, Jvm.FP.Core.val64 (FP.dsub (k_fb 1023 t) FP.dconst1) = .fin false c q ∧ Jvm.FP.Core.b64.qmin ≤ q ∧ Jvm.FP.Core.inUnits c q Jvm.FP.Core.b64.qmin = Jvm.FP.Core.inUnits t (-52) Jvm.FP.Core.b64.qmin := by
  have hs := Jvm.FP.Core.val64_dsub (k_fb 1023 t) FP.dconst1
  have h1f : Jvm.FP.Core.val64 FP.dconst1 = .fin false (2 ^ 52) (-52) := Jvm.FP.Core.val64_dconst1
  rw [k_fb_v (by omega) (by omega) ht, h1f] at hs
  have es : Jvm.FP.Core.exactSum (.fin false (2 ^ 52 + t) (((1023 : Nat) : Int) - 1075)) (Jvm.FP.Core.negate (.fin false (2 ^ 52) (-52))) = .fin false t (-52) := by
    show Jvm.FP.Core.exactSum (.fin false (2 ^ 52 + t) (-52)) (.fin true (2 ^ 52) (-52)) = .fin false t (-52)
    have eu : Jvm.FP.Core.sumUnits false (2 ^ 52 + t) (-52) true (2 ^ 52) (-52) (min (-52) (-52)) = (t : Int) := by
      show ((((2 ^ 52 + t) * 2 ^ ((-52 : Int) - (min (-52) (-52))).toNat : Nat) : Int) + -(((2 ^ 52) * 2 ^ ((-52 : Int) - (min (-52) (-52))).toNat : Nat) : Int)) = (t : Int)
      rw [show ((-52 : Int) - (min (-52) (-52))).toNat = 0 by decide]
      omega
    show Jvm.FP.Core.Datum.fin (Jvm.FP.Core.sumSign false true (Jvm.FP.Core.sumUnits false (2 ^ 52 + t) (-52) true (2 ^ 52) (-52) (min (-52) (-52)))) (Jvm.FP.Core.sumUnits false (2 ^ 52 + t) (-52) true (2 ^ 52) (-52) (min (-52) (-52))).natAbs (min (-52) (-52)) = _
    rw [eu]
    unfold Jvm.FP.Core.sumSign
    have e1 : (if (t : Int) = 0 then (false && true) else decide ((t : Int) < 0)) = false := by
      split
      · rfl
      · exact decide_eq_false (by omega)
    rw [e1]
    rfl
  rw [es] at hs
  obtain ⟨c, q, h1, h2⟩ := Jvm.FP.Core.round_exact k_good false (c := t) (q := -52) (show t < 2 ^ 53 by omega) (by decide) (by decide)
  rw [h1] at hs
  have hf := Jvm.FP.Core.val64_fits (FP.dsub (k_fb 1023 t) FP.dconst1)
  have hs' : Jvm.FP.Core.val64 (FP.dsub (k_fb 1023 t) FP.dconst1) = .fin false c q := hs
  rw [hs'] at hf
  exact ⟨c, q, hs', hf.2.1, h2⟩
theorem k_lNt {t : Nat} (ht : t < 2 ^ 52) : (lN t).toInt = (t : Int) := lg_ofNat_toInt (by omega)
theorem k_fin {t : Nat} (ht : t < 2 ^ 52) : ∃ v7 v8, x_dn (FP.dsub (k_fb 1023 t) FP.dconst1) = some v7 ∧ x_dn (FP.dmul v7 (4841369599423283200 : UInt64)) = some v8 ∧ FP.d2l v8 = lN t := by
  obtain ⟨c, q, h1, h2, h3⟩ := k_frac ht
  have n1 : Jvm.FP.Core.val64 (FP.dsub (k_fb 1023 t) FP.dconst1) ≠ .nan := by
    rw [h1]
    intro e
    cases e
  have hw : Jvm.FP.Core.Whole (t : Int) (Jvm.FP.Core.val64 (FP.dmul (FP.dsub (k_fb 1023 t) FP.dconst1) (4841369599423283200 : UInt64))) := by
    have e := Jvm.FP.Core.val64_dmul (FP.dsub (k_fb 1023 t) FP.dconst1) (4841369599423283200 : UInt64)
    rw [h1, k_p52] at e
    have e' : Jvm.FP.Core.val64 (FP.dmul (FP.dsub (k_fb 1023 t) FP.dconst1) (4841369599423283200 : UInt64)) = Jvm.FP.Core.round Jvm.FP.Core.b64 (.fin false (c * 2 ^ 52) (q + 0)) := e
    rw [e', Int.add_zero]
    rw [Jvm.FP.Core.qmin_b64] at h2 h3
    unfold Jvm.FP.Core.inUnits at h3
    refine Jvm.FP.Core.whole_round k_good Jvm.FP.Core.wide_b64 (show ((t : Int)).natAbs ≤ 2 ^ 53 by omega) (k_wh (u := 1022) (by omega) ?_)
    rw [show (q - (-1074)).toNat = (q + (1022 : Nat) + 52).toNat by omega, show ((-52 : Int) - (-1074)).toNat = 1022 by decide] at h3
    exact h3
  refine ⟨_, _, k_dn n1, k_dn (Jvm.FP.Core.Whole.ne_nan hw), ?_⟩
  exact Jvm.FP.Core.d2l_int (a := lN t) (by rw [k_lNt ht]; exact hw)
/-- a quotient's bits are no fewer than these -/
theorem k_div_mag_ge {f : Jvm.FP.Core.Fmt} (hf : Jvm.FP.Core.Good f) {x y Kx Ly K : Nat} (hx : Kx * f.tails ≤ Jvm.FP.Core.mag f x) (hxf : Jvm.FP.Core.mag f x < Jvm.FP.Core.infBits f) (hy : Jvm.FP.Core.mag f y < Ly * f.tails) (hy0 : 1 * f.tails ≤ Jvm.FP.Core.mag f y) (hLy : Ly ≤ f.exps - 1) (hKx : 1 ≤ Kx) (hK : 1 ≤ K) (hKm : K ≤ f.exps - 1) (h : (f.p - 1) + K + Ly ≤ Kx + (-f.qmin).toNat + 1) : K * f.tails ≤ Jvm.FP.Core.mag f (Jvm.FP.Core.div f x y) := by
  obtain ⟨s, c, q, x1, x2, x3⟩ := Jvm.FP.Core.fin_of_mag hf hxf
  obtain ⟨t, d, r, y1, y2, y3⟩ := Jvm.FP.Core.fin_of_mag hf (Jvm.FP.Core.mag_lt_inf hy hLy)
  have hq := Jvm.FP.Core.qmin_neg hf
  have l2 : f.tails * 2 ^ (1 - 1) ≤ Jvm.FP.Core.zmag f (.fin t d r) := by
    rw [y3, ← Jvm.FP.Core.unitsOf_start (Nat.le_refl 1)]; exact Jvm.FP.Core.unitsOf_le_iff.mpr hy0
  have hd0 : d ≠ 0 := by
    rintro rfl
    have h1 : Jvm.FP.Core.zmag f (.fin t 0 r) = 0 := Nat.zero_mul _
    have := Nat.mul_pos (Jvm.FP.Core.tails_pos f) (Nat.two_pow_pos (1 - 1))
    omega
  have hd : Jvm.FP.Core.decode f (Jvm.FP.Core.div f x y) = Jvm.FP.Core.roundRatio f (s != t) c d (q - r) := by
    unfold Jvm.FP.Core.div
    rw [Jvm.FP.Core.decode_enc hf (Jvm.FP.Core.quotient_fits hf _ _), x1, y1]
    simp only [Jvm.FP.Core.quotient, if_neg hd0]
  have hx1 := x2.2.1
  have hy1 := y2.2.1
  refine Jvm.FP.Core.mag_ge hf hd (by omega) (e0 := 2 * f.qmin - r) (by omega) (by omega) (Nat.mul_le_mul_right _ hKm) ?_
  obtain ⟨k1, l1⟩ := Jvm.FP.Core.units_lt_start hy
  rw [Jvm.FP.Core.unitsOf_start hK]
  have e1 : Jvm.FP.Core.inUnits c (q - r) (2 * f.qmin - r) = Jvm.FP.Core.zmag f (.fin s c q) * 2 ^ (-f.qmin).toNat := by
    show c * _ = c * _ * _
    rw [Nat.mul_assoc, ← Nat.pow_add]; congr 2; omega
  have e2 : 2 ^ (f.qmin - (2 * f.qmin - r)).toNat * d = Jvm.FP.Core.zmag f (.fin t d r) := by
    show _ = d * _
    rw [Nat.mul_comm]; congr 2; omega
  have e3 : f.tails * 2 ^ (Kx - 1) ≤ Jvm.FP.Core.unitsOf f (Jvm.FP.Core.mag f x) := by
    rw [← Jvm.FP.Core.unitsOf_start hKx]; exact Jvm.FP.Core.unitsOf_le_iff.mpr hx
  rw [e1, Nat.mul_assoc, e2, x3, y3]
  calc f.tails * 2 ^ (K - 1) * Jvm.FP.Core.unitsOf f (Jvm.FP.Core.mag f y) ≤ f.tails * 2 ^ (K - 1) * (f.tails * 2 ^ (Ly - 1)) := Nat.mul_le_mul_left _ (Nat.le_of_lt l1)
    _ = f.tails * 2 ^ (K - 1 + (f.p - 1) + (Ly - 1)) := by
      rw [Nat.pow_add, Nat.pow_add, show 2 ^ (f.p - 1) = f.tails from rfl]; ac_rfl
    _ ≤ f.tails * 2 ^ (Kx - 1 + (-f.qmin).toNat) := Nat.mul_le_mul_left _ (Nat.pow_le_pow_right (by decide) (by omega))
    _ = f.tails * 2 ^ (Kx - 1) * 2 ^ (-f.qmin).toNat := by rw [Nat.pow_add, Nat.mul_assoc]
    _ ≤ Jvm.FP.Core.unitsOf f (Jvm.FP.Core.mag f x) * 2 ^ (-f.qmin).toNat := Nat.mul_le_mul_right _ e3
theorem k_div_ge {x y : UInt64} (hx : 1023 * 2 ^ 52 ≤ x.toNat % 2 ^ 63) (hx2 : x.toNat % 2 ^ 63 < 2047 * 2 ^ 52) (hy0 : 1 * 2 ^ 52 ≤ y.toNat % 2 ^ 63) (hy : y.toNat % 2 ^ 63 < 1056 * 2 ^ 52) : 1 * 2 ^ 52 ≤ (FP.ddiv x y).toNat % 2 ^ 63 := by
  have h1 : (FP.ddiv x y).toNat = Jvm.FP.Core.div Jvm.FP.Core.b64 x.toNat y.toNat := Jvm.FP.Core.toNat_of64 (Jvm.FP.Core.quotient_fits Jvm.FP.Core.good_b64 _ _)
  have h2 := k_div_mag_ge k_good (x := x.toNat) (y := y.toNat) (Kx := 1023) (Ly := 1056) (K := 1) (by rw [Jvm.FP.Core.mag_toNat64, Jvm.FP.Core.tails_b64]; exact hx) (by rw [Jvm.FP.Core.mag_toNat64, Jvm.FP.Core.infBits_b64]; omega) (by rw [Jvm.FP.Core.mag_toNat64, Jvm.FP.Core.tails_b64]; exact hy) (by rw [Jvm.FP.Core.mag_toNat64, Jvm.FP.Core.tails_b64]; exact hy0) (by rw [Jvm.FP.Core.exps_b64]; omega) (by omega) (by omega) (by rw [Jvm.FP.Core.exps_b64]; omega) (by rw [Jvm.FP.Core.p_b64, Jvm.FP.Core.qmin_b64]; omega)
  rw [← h1, Jvm.FP.Core.mag_toNat64, Jvm.FP.Core.tails_b64] at h2
  exact h2
theorem k_i2d_v {a : Nat} (ha : a ≤ 2 ^ 20) : ∃ c q, Jvm.FP.Core.val64 (FP.i2d (nI a)) = .fin false c q := by
  obtain ⟨c, q, h⟩ := Jvm.FP.Core.l2d_shape (nI a).toInt64
  refine ⟨c, q, ?_⟩
  rw [Int32.toInt_toInt64, nI_toInt (by omega), decide_eq_false (by omega)] at h
  rw [← h]
  exact congrArg Jvm.FP.Core.val64 (Jvm.FP.Core.i2d_l2d (nI a))
theorem k_dq_fb {a b : Nat} (ha0 : 1 ≤ a) (ha : a ≤ 2 ^ 20) (hb0 : 1 ≤ b) (hb : b ≤ 2 ^ 20) : ∃ K t, 1 ≤ K ∧ K < 1057 ∧ t < 2 ^ 52 ∧ k_dq a b = k_fb K t := by
  have hna : (nI a).toInt ≠ 0 := by rw [nI_toInt (by omega)]; omega
  have hnb : (nI b).toInt ≠ 0 := by rw [nI_toInt (by omega)]; omega
  obtain ⟨xa1, xa2⟩ := Jvm.FP.Core.i2d_big hna
  obtain ⟨xb1, xb2⟩ := Jvm.FP.Core.i2d_big hnb
  have xa3 := Jvm.FP.Core.i2d_mag (nI a)
  have xb3 := Jvm.FP.Core.i2d_mag (nI b)
  have lo : 1 * 2 ^ 52 ≤ (FP.ddiv (FP.i2d (nI a)) (FP.i2d (nI b))).toNat % 2 ^ 63 := k_div_ge xa1 xa2 (Nat.le_trans (by decide) xb1) xb3
  have up : (FP.ddiv (FP.i2d (nI a)) (FP.i2d (nI b))).toNat % 2 ^ 63 < (1056 + (1074 - 52 - 1) - 1023 + 3) * 2 ^ 52 := Jvm.FP.Core.ddiv_mag (K := 1056) (L := 1023) xa3 xb1 xb2 (by omega) (by omega)
  have hnn := k_dqnn ha hb (show 0 < b by omega)
  have hsg := Jvm.FP.Core.sgn_bits hnn
  obtain ⟨c, q, ea⟩ := k_i2d_v ha
  obtain ⟨d, r, eb⟩ := k_i2d_v hb
  have hd0 : d ≠ 0 := fun e => by
    have hz : nI b ≠ 0 := nI_ne0 (by omega) (by omega)
    have hz2 : ¬ Jvm.FP.Core.DZero (FP.i2d (nI b)) := by
      rw [Jvm.FP.Core.zero_bits2]
      exact Jvm.FP.Core.i2d_ne_zero hz
    exact hz2 ⟨false, r, by rw [eb, e]⟩
  have hq : Jvm.FP.Core.val64 (FP.ddiv (FP.i2d (nI a)) (FP.i2d (nI b))) = Jvm.FP.Core.roundRatio Jvm.FP.Core.b64 (false != false) c d (q - r) := by
    have e := Jvm.FP.Core.val64_ddiv (FP.i2d (nI a)) (FP.i2d (nI b))
    rw [ea, eb] at e
    refine Eq.trans e ?_
    simp only [Jvm.FP.Core.quotient, if_neg hd0]
  rw [hq, Jvm.FP.Core.sgn_roundRatio] at hsg
  have hlt : (FP.ddiv (FP.i2d (nI a)) (FP.i2d (nI b))).toNat < 2 ^ 63 := by
    have := of_decide_eq_false hsg.symm
    omega
  rw [Nat.mod_eq_of_lt hlt] at lo up
  unfold k_dq
  generalize FP.ddiv (FP.i2d (nI a)) (FP.i2d (nI b)) = w at lo up
  refine ⟨w.toNat / 2 ^ 52, w.toNat % 2 ^ 52, by omega, by omega, Nat.mod_lt _ (by decide), ?_⟩
  unfold k_fb
  rw [Nat.div_add_mod']
  exact (UInt64.ofNat_toNat).symm
theorem k_dq_0 {b : Nat} (hb0 : 1 ≤ b) (hb : b ≤ 2 ^ 20) : k_dq 0 b = FP.dconst0 := by
  obtain ⟨d, r, eb⟩ := k_i2d_v hb
  have hd0 : d ≠ 0 := fun e => by
    have hz : nI b ≠ 0 := nI_ne0 (by omega) (by omega)
    have hz2 : ¬ Jvm.FP.Core.DZero (FP.i2d (nI b)) := by
      rw [Jvm.FP.Core.zero_bits2]
      exact Jvm.FP.Core.i2d_ne_zero hz
    exact hz2 ⟨false, r, by rw [eb, e]⟩
  have h0 : Jvm.FP.Core.val64 FP.dconst0 = .fin false 0 Jvm.FP.Core.b64.qmin := Jvm.FP.Core.val64_dconst0
  have hv : Jvm.FP.Core.val64 (k_dq 0 b) = Jvm.FP.Core.val64 FP.dconst0 := by
    unfold k_dq
    rw [← k_d0]
    have e := Jvm.FP.Core.val64_ddiv FP.dconst0 (FP.i2d (nI b))
    rw [h0, eb] at e
    refine Eq.trans e ?_
    rw [h0]
    simp only [Jvm.FP.Core.quotient, if_neg hd0]
    rfl
  exact Jvm.FP.Core.val64_inj (by
    rw [hv, h0]
    intro e
    cases e) hv
section KBL
variable {wz : Nat}
variable {N : Nat} {f : XM} {KK : UInt64 → Int64 → Int32 → Option Int64} {t : Nat}
theorem k_bl1 (ht : t < 2 ^ 52) : ∀ (d fuel j i : Nat), d < fuel → i + d < 1023 → d ≤ 1000 → F_X5_bitsOf_L18 N f KK fuel (k_fb (1023 + d) t) (lN j) (nI i) = KK (k_fb 1023 t) (lN (j + d)) (nI (i + d)) := by
  intro d
  induction d with
  | zero =>
    intro fuel j i h1 h2 h3
    obtain ⟨u, rfl⟩ : ∃ u, fuel = u + 1 := ⟨fuel - 1, by omega⟩
    rw [F_X5_bitsOf_L18, if_neg (show ¬ (1023 : Int32) ≤ nI i from nI_ge (b := 1023) (by omega) (by omega)), k_two, (k_fb_cmp (by omega) (by omega) ht (by omega) (by omega)).1 (by omega), if_pos (by decide)]
    rfl
  | succ d ih =>
    intro fuel j i h1 h2 h3
    obtain ⟨u, rfl⟩ : ∃ u, fuel = u + 1 := ⟨fuel - 1, by omega⟩
    have hm := k_fb_mul (K := 1023 + (d + 1)) (K' := 1023 + d) (by omega) (by omega) ht k_hlf (by omega) (by omega) (by omega)
    have hc : ¬ (Op.cmpValue (FP.dcmp (k_fb (1023 + (d + 1)) t) (k_fb 1024 0)) CmpOp.l) < 0 := by
      rcases (k_fb_cmp (K := 1023 + (d + 1)) (L := 1024) (by omega) (by omega) ht (by omega) (by omega)).2 (by omega) with y | y
      · rw [y]; decide
      · rw [y]; decide
    rw [F_X5_bitsOf_L18, if_neg (show ¬ (1023 : Int32) ≤ nI i from nI_ge (b := 1023) (by omega) (by omega)), k_two, if_neg hc, hm, k_dn (k_fb_nn (by omega) (by omega) ht), Option.bind_some, lN_1, k_add1, ih u (j + 1) (i + 1) (by omega) (by omega) (by omega), show j + 1 + d = j + (d + 1) by omega, show i + 1 + d = i + (d + 1) by omega]
theorem k_bl0 {K fuel j : Nat} (ht : t < 2 ^ 52) (h1 : 1 ≤ K) (h2 : K ≤ 1022) (hf : 0 < fuel) : F_X5_bitsOf_L18 N f KK fuel (k_fb K t) (lN j) (nI 0) = KK (k_fb K t) (lN j) (nI 0) := by
  obtain ⟨u, rfl⟩ : ∃ u, fuel = u + 1 := ⟨fuel - 1, by omega⟩
  rw [F_X5_bitsOf_L18, if_neg (show ¬ (1023 : Int32) ≤ nI 0 from nI_ge (b := 1023) (by omega) (by omega)), k_two, (k_fb_cmp h1 (by omega) ht (by omega) (by omega)).1 (by omega), if_pos (by decide)]
theorem k_bl2 (ht : t < 2 ^ 52) : ∀ (d fuel K j i : Nat), K + d = 1023 → 1 ≤ K → d < fuel → i + d ≤ 1022 → F_X5_bitsOf_L55 N f KK fuel (k_fb K t) (lN (j + d)) (nI i) = KK (k_fb 1023 t) (lN j) (nI (i + d)) := by
  intro d
  induction d with
  | zero =>
    intro fuel K j i h0 h1 h2 h3
    obtain ⟨u, rfl⟩ : ∃ u, fuel = u + 1 := ⟨fuel - 1, by omega⟩
    have hK : K = 1023 := by omega
    subst hK
    have hc : 0 ≤ (Op.cmpValue (FP.dcmp (k_fb 1023 t) (k_fb 1023 0)) CmpOp.g) := by
      rcases (k_fb_cmp (K := 1023) (L := 1023) (by omega) (by omega) ht (by omega) (by omega)).2 (by omega) with y | y
      · rw [y]; decide
      · rw [y]; decide
    rw [F_X5_bitsOf_L55, k_onef, if_pos hc]
    split <;> rfl
  | succ d ih =>
    intro fuel K j i h0 h1 h2 h3
    obtain ⟨u, rfl⟩ : ∃ u, fuel = u + 1 := ⟨fuel - 1, by omega⟩
    have hm := k_fb_mul (K := K) (K' := K + 1) h1 (by omega) ht k_twv (by omega) (by omega) (by omega)
    have hc := (k_fb_cmp (K := K) (t := t) (L := 1023) h1 (by omega) ht (by omega) (by omega)).1 (by omega)
    have e1 : lN (j + (d + 1)) - (1 : Int64) = lN (j + d) := (lN_sub (b := 1) (by omega)).trans (by rw [show j + (d + 1) - 1 = j + d by omega])
    rw [F_X5_bitsOf_L55, if_neg (show ¬ (1022 : Int32) ≤ nI i from nI_ge (b := 1022) (by omega) (by omega)), k_onef, hc, if_neg (by decide), hm, k_dn (k_fb_nn (by omega) (by omega) ht), Option.bind_some, e1, k_add1, ih u (K + 1) j (i + 1) (by omega) (by omega) (by omega) (by omega), show i + 1 + d = i + (d + 1) by omega]
end KBL
theorem k_bits_fb {N : Nat} {f : XM} (hN : 5000 ≤ N) {K t : Nat} (h1 : 1 ≤ K) (hK : K < 1057) (ht : t < 2 ^ 52) : F_X5_bitsOf N f (k_fb K t) = some (k_fb K t).toInt64 := by
  have h0 : Jvm.FP.Core.val64 FP.dconst0 ≠ .nan := by
    have : Jvm.FP.Core.val64 FP.dconst0 = .fin false 0 Jvm.FP.Core.b64.qmin := Jvm.FP.Core.val64_dconst0
    rw [this]
    intro e
    cases e
  have n1 := k_fb_n (K := K) (by omega) ht
  have n0 : (FP.dconst0).toNat = 0 := by decide +kernel
  have hgt : FP.dcmp (k_fb K t) FP.dconst0 = some .gt := (Jvm.FP.Core.mono_bits (a := k_fb K t) (b := FP.dconst0) (k_fb_nn h1 (by omega) ht) h0 (by rw [n1]; omega) (by rw [n0]; decide)).2.2.mpr (by rw [n0, n1]; omega)
  obtain ⟨v7, v8, c1, c2, c3⟩ := k_fin ht
  have last : ((x_dn (FP.dsub (k_fb 1023 t) FP.dconst1)).bind fun v7 => (x_dn (FP.dmul v7 (4841369599423283200 : UInt64))).bind fun v8 => some (((lN K) <<< ((52 : Int32).toInt64 &&& 63)) + (FP.d2l v8))) = some (k_fb K t).toInt64 := by
    rw [c1, Option.bind_some, c2, Option.bind_some, c3, k_shl, lN_add]
    rfl
  unfold F_X5_bitsOf
  rw [hgt, if_pos (by decide)]
  rcases Nat.lt_or_ge K 1023 with y | y
  · refine (k_bl0 (j := 1023) ht h1 (by omega) (by omega)).trans ?_
    have := k_bl2 (N := N) (f := f) (KK := fun y2_6 y4_6 y6_6 => (x_dn (FP.dsub y2_6 FP.dconst1)).bind fun v7 => (x_dn (FP.dmul v7 (4841369599423283200 : UInt64))).bind fun v8 => some (((y4_6) <<< ((52 : Int32).toInt64 &&& 63)) + (FP.d2l v8))) ht (1023 - K) N K K 0 (by omega) h1 (by omega) (by omega)
    rw [show K + (1023 - K) = 1023 by omega] at this
    exact this.trans last
  · have e := k_bl1 (N := N) (f := f) (KK := fun y2_3 y4_3 y6_3 => F_X5_bitsOf_L55 N f (fun y2_6 y4_6 y6_6 => (x_dn (FP.dsub y2_6 FP.dconst1)).bind fun v7 => (x_dn (FP.dmul v7 (4841369599423283200 : UInt64))).bind fun v8 => some (((y4_6) <<< ((52 : Int32).toInt64 &&& 63)) + (FP.d2l v8))) N y2_3 y4_3 0) ht (K - 1023) N 1023 0 (by omega) (by omega) (by omega)
    rw [show 1023 + (K - 1023) = K by omega] at e
    refine Eq.trans e ?_
    have := k_bl2 (N := N) (f := f) (KK := fun y2_6 y4_6 y6_6 => (x_dn (FP.dsub y2_6 FP.dconst1)).bind fun v7 => (x_dn (FP.dmul v7 (4841369599423283200 : UInt64))).bind fun v8 => some (((y4_6) <<< ((52 : Int32).toInt64 &&& 63)) + (FP.d2l v8))) ht 0 N 1023 K 0 (by omega) (by omega) (by omega) (by omega)
    exact this.trans last
theorem k_bits0 {N : Nat} {f : XM} : F_X5_bitsOf N f FP.dconst0 = some (FP.dconst0).toInt64 := by
  have h : FP.dcmp FP.dconst0 FP.dconst0 = some .eq := by decide +kernel
  have e : (FP.dconst0).toInt64 = 0 := by decide +kernel
  unfold F_X5_bitsOf
  rw [h, if_neg (by decide), e]
theorem k_bits {N : Nat} {f : XM} (hN : 5000 ≤ N) {a b : Nat} (ha : a ≤ 2 ^ 20) (hb : b ≤ 2 ^ 20) : F_X5_bitsOf N f (k_ds a b) = some (k_ds a b).toInt64 := by
  unfold k_ds
  by_cases z : b = 0
  · rw [if_pos z]
    exact k_bits0
  · rw [if_neg z]
    by_cases z2 : a = 0
    · rw [z2, k_dq_0 (by omega) hb]
      exact k_bits0
    · obtain ⟨K, t, h1, h2, h3, h4⟩ := k_dq_fb (a := a) (b := b) (by omega) ha (by omega) hb
      rw [h4]
      exact k_bits_fb hN h1 h2 h3

