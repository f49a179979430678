/-! Keys beside a key, keys by their place. -/
section KBS
variable {N L : Nat} {xs : Nat → Int32} {x m o t : Nat} {h : XH} {f : XM} {n len : Nat} {q : Nat → Option Nat} {St : Nat → KS} {S : KS} {bf : Nat → Int32} {V : KM} {c : Nat}
theorem k_bn_loop (hm : k_mo f m V) (hA : k_okA S) (hf : k_fd V S) {k k' : Int32} (hk : k'.toInt = k.toInt + 1) {K : Int32 → Option (Int32 × XM)} : ∀ (d fuel i : Nat), i + d = (k_all S).1 → d < fuel → i ≤ k_rk (k_all S).1 (k_all S).2.1 k' → F_X6_beside_L18 N f m k true (nI (k_all S).1) K fuel (nI i) = K (nI (k_rk (k_all S).1 (k_all S).2.1 k')) := by
  have hle := k_rk_le (k_all S).1 (k_all S).2.1 k'
  have hlt := hA.2
  intro d
  induction d with
  | zero =>
    intro fuel i h1 h2 h3
    obtain ⟨u, rfl⟩ : ∃ u, fuel = u + 1 := ⟨fuel - 1, by omega⟩
    rw [F_X6_beside_L18, if_neg (show ¬ x_b true = 0 by decide), if_pos (nI_le (by omega) (by omega))]
    exact congrArg K (congrArg nI (by omega))
  | succ d ih =>
    intro fuel i h1 h2 h3
    obtain ⟨u, rfl⟩ : ∃ u, fuel = u + 1 := ⟨fuel - 1, by omega⟩
    rw [F_X6_beside_L18, if_neg (show ¬ x_b true = 0 by decide), if_neg (nI_ge (by omega) (by omega))]
    simp only [hm.r7, k_fk hm hA hf (i := i) (by omega), Option.bind_some, k_add1]
    by_cases g : k < (k_all S).2.1 i
    · rw [if_pos g]
      rw [k_i_lt] at g
      refine congrArg K (congrArg nI ?_)
      rcases Nat.eq_or_lt_of_le h3 with y | y
      · exact y
      · have := k_rk_lo y; omega
    · rw [if_neg g]
      rw [k_i_lt] at g
      refine ih u (i + 1) (by omega) (by omega) ?_
      rcases Nat.eq_or_lt_of_le h3 with y | y
      · have := k_rk_hi hA.1.1 (Nat.le_of_eq y.symm) (by omega); omega
      · exact y
theorem k_bb_loop (hm : k_mo f m V) (hA : k_okA S) (hf : k_fd V S) {k c3 : Int32} {K : Int32 → Option (Int32 × XM)} : ∀ (i fuel : Nat), i ≤ (k_all S).1 → i < fuel → k_rk (k_all S).1 (k_all S).2.1 k ≤ i → F_X6_beside_L47 N f m k false c3 K fuel (nI i - 1) = K (nI (k_rk (k_all S).1 (k_all S).2.1 k) - 1) := by
  have hlt := hA.2
  intro i
  induction i with
  | zero =>
    intro fuel h1 h2 h3
    obtain ⟨u, rfl⟩ : ∃ u, fuel = u + 1 := ⟨fuel - 1, by omega⟩
    rw [F_X6_beside_L47, if_pos (show x_b false = 0 from rfl), if_pos (by decide), show k_rk (k_all S).1 (k_all S).2.1 k = 0 by omega]
  | succ i ih =>
    intro fuel h1 h2 h3
    obtain ⟨u, rfl⟩ : ∃ u, fuel = u + 1 := ⟨fuel - 1, by omega⟩
    rw [F_X6_beside_L47, if_pos (show x_b false = 0 from rfl), nI_pred, if_neg (nI_pos (by omega))]
    simp only [hm.r7, k_fk hm hA hf (i := i) (by omega), Option.bind_some, k_m1]
    by_cases g : (k_all S).2.1 i < k
    · rw [if_pos g]
      rw [k_i_lt] at g
      have : k_rk (k_all S).1 (k_all S).2.1 k = i + 1 := by
        rcases Nat.eq_or_lt_of_le h3 with y | y
        · exact y
        · have := k_rk_hi hA.1.1 (show k_rk (k_all S).1 (k_all S).2.1 k ≤ i by omega) (show i < (k_all S).1 by omega); omega
      rw [this, nI_pred]
    · rw [if_neg g]
      rw [k_i_lt] at g
      refine ih u (by omega) (by omega) ?_
      rcases Nat.eq_or_lt_of_le h3 with y | y
      · have := k_rk_lo (n := (k_all S).1) (g := (k_all S).2.1) (k := k) (i := i) (by omega); omega
      · omega
/-- the place of the key beside -/
noncomputable def k_bp (S : KS) (k : Int32) (b : Bool) : Int32 := if b then (if k_rk (k_all S).1 (k_all S).2.1 (k + 1) < (k_all S).1 then nI (k_rk (k_all S).1 (k_all S).2.1 (k + 1)) else -1) else nI (k_rk (k_all S).1 (k_all S).2.1 k) - 1
theorem k_beside (hN : 50000 ≤ N) (hA : k_okA S) (hm : k_mo f m V) (hs : k_ms (V.1 1) S c) {k : Int32} (g : 0 ≤ k.toInt ∧ k.toInt ≤ 9999) (b : Bool) : ∃ (f' : XM) (V' : KM), F_X6_beside N f m k b = some (k_bp S k b, f') ∧ k_mo f' m V' ∧ k_mx V V' [7] [8] ∧ k_fr f f' m (m + 10) ∧ k_fd V' S := by
  have hlt := hA.2
  obtain ⟨f1, V1, a1, a2, a3, a4, -, a6⟩ := k_finds (N := N) (by omega) hA hm hs
  refine ⟨f1, V1, ?_, a2, a3, a4, a6⟩
  have hk : (k + 1).toInt = k.toInt + 1 := by
    obtain ⟨j, j1, rfl, j3⟩ := k_nn (x := k) (by omega)
    rw [k_add1, nI_toInt (by omega), nI_toInt (by omega)]
    rfl
  unfold F_X6_beside k_bp
  rw [hm.cv, a1, Option.bind_some]
  cases b with
  | true =>
    rw [if_neg (show ¬ x_b true = 0 by decide)]
    have := k_bn_loop (N := N) (K := fun y4_16 => F_X6_beside_L47 N f1 m k true (nI (k_all S).1) (fun y4_21 => if y4_21 = nI (k_all S).1 then some ((-1), f1) else some (y4_21, f1)) N y4_16) a2 hA a6 hk (k_all S).1 N 0 (by omega) (by omega) (Nat.zero_le _)
    refine this.trans ?_
    obtain ⟨N', rfl⟩ : ∃ N', N = N' + 1 := ⟨N - 1, by omega⟩
    have hle := k_rk_le (k_all S).1 (k_all S).2.1 (k + 1)
    simp only [F_X6_beside_L47]
    rw [if_neg (show ¬ x_b true = 0 by decide), if_pos trivial]
    by_cases z : k_rk (k_all S).1 (k_all S).2.1 (k + 1) < (k_all S).1
    · rw [if_pos z, if_neg (fun e => by have := (nI_eq (by omega) (by omega)).mp e; omega)]
    · rw [if_neg z, if_pos (congrArg nI (by omega))]
  | false =>
    rw [if_pos (show x_b false = 0 from rfl)]
    have hle := k_rk_le (k_all S).1 (k_all S).2.1 k
    have h18 : ∀ (K : Int32 → Option (Int32 × XM)) (y : Int32), F_X6_beside_L18 N f1 m k false (nI (k_all S).1) K N y = K y := fun K y => by
      obtain ⟨N', rfl⟩ : ∃ N', N = N' + 1 := ⟨N - 1, by omega⟩
      rw [F_X6_beside_L18, if_pos (show x_b false = 0 from rfl)]
    refine (h18 _ _).trans ?_
    refine (k_bb_loop (N := N) (K := fun y4_11 => if y4_11 = nI (k_all S).1 then some ((-1), f1) else some (y4_11, f1)) a2 hA a6 (k_all S).1 N (Nat.le_refl _) (by omega) hle).trans ?_
    rw [if_neg (show ¬ false = true by decide)]
    rw [if_neg (fun e => ?_)]
    have e1 : (nI (k_rk (k_all S).1 (k_all S).2.1 k) - 1).toInt = (k_rk (k_all S).1 (k_all S).2.1 k : Int) - 1 := pk_sub_toInt (a := k_rk (k_all S).1 (k_all S).2.1 k) (b := 1) (by omega) (by omega)
    rw [k_i_eq, e1, nI_toInt (by omega)] at e
    omega
/-- the key beside, as both answer -/
theorem k_kbA (hN : 50000 ≤ N) (hA : k_okA S) (hm : k_mo f (x + 70) V) (hs : k_ms (V.1 1) S c) {k : Int32} (g : 0 ≤ k.toInt ∧ k.toInt ≤ 9999) (b : Bool) {i : Nat} (hi : i < (k_all S).1) (hb : k_bp S k b = nI i) : k_ans x f V 0 ((k_all S).2.1 i) (F_X6_keyBeside N f (x + 70) k b) := by
  have hlt := hA.2
  obtain ⟨f1, V1, a1, a2, a3, a4, -⟩ := k_beside hN hA hm hs g b
  obtain ⟨f2, c1, c2, c3⟩ := a2.pi (i := 11) (by omega) 0
  have h11 : (k_sI V1 11 0).2 11 = 0 := k_sI_s
  have hs2 : k_ms ((k_sI V1 11 0).1 1) S c := by
    have : (k_sI V1 11 0).1 1 = V.1 1 := a3.1 1 (by simp)
    rw [this]; exact hs
  obtain ⟨f3, V3, d1, d2, d3, d4, d5⟩ := k_beside hN hA c2 hs2 g b
  refine ⟨f3, V3, ?_, d2, (a4.tr c3).tr d4, ((a3.wd (by simp) (by simp)).tr (k_sI_mx (by simp))).tr (d3.wd (by simp) (by simp)), (d3.2 11 (by simp)).trans h11⟩
  unfold F_X6_keyBeside
  rw [k_isKey, Option.bind_some, if_neg (k_xb1 g), hm.cv, a1, Option.bind_some]
  rw [hb] at d1 ⊢
  rw [if_neg (k_nim1 _ (by omega))]
  simp only [c1, c2.i11, h11, Option.bind_some]
  rw [if_pos (by decide)]
  simp only [c2.r7, c2.cv, d1, Option.bind_some, k_fk d2 hA d5 hi]
theorem k_kbN (hN : 50000 ≤ N) (hA : k_okA S) (hm : k_mo f (x + 70) V) (hs : k_ms (V.1 1) S c) {k : Int32} (g : 0 ≤ k.toInt ∧ k.toInt ≤ 9999) (b : Bool) (hb : k_bp S k b = -1) : k_ans x f V 2 0 (F_X6_keyBeside N f (x + 70) k b) := by
  obtain ⟨f1, V1, a1, a2, a3, a4, -⟩ := k_beside hN hA hm hs g b
  obtain ⟨f2, c1, c2, c3⟩ := a2.pi (i := 11) (by omega) 2
  have h11 : (k_sI V1 11 2).2 11 = 2 := k_sI_s
  refine ⟨f2, _, ?_, c2, a4.tr c3, (a3.wd (by simp) (by simp)).tr (k_sI_mx (by simp)), h11⟩
  unfold F_X6_keyBeside
  rw [k_isKey, Option.bind_some, if_neg (k_xb1 g), hm.cv, a1, Option.bind_some, if_pos hb]
  simp only [c1, c2.i11, h11, Option.bind_some]
  rw [if_neg (by decide)]
theorem k_kbB (hm : k_mo f (x + 70) V) {k : Int32} (g : ¬ (0 ≤ k.toInt ∧ k.toInt ≤ 9999)) (b : Bool) : k_ans x f V 1 0 (F_X6_keyBeside N f (x + 70) k b) := by
  obtain ⟨f2, c1, c2, c3⟩ := hm.pi (i := 11) (by omega) 1
  have h11 : (k_sI V 11 1).2 11 = 1 := k_sI_s
  refine ⟨f2, _, ?_, c2, c3, k_sI_mx (by simp), h11⟩
  unfold F_X6_keyBeside
  rw [k_isKey, Option.bind_some, if_pos (k_xb0 g)]
  simp only [c1, c2.i11, h11, Option.bind_some]
  rw [if_neg (by decide)]
theorem k_key_ne (hA : k_okA S) {i : Nat} (hi : i < (k_all S).1) : (k_all S).2.1 i ≠ -1 := k_val99 (hA.1.1.2 i hi).1
theorem k_law23 (hN : 50000 ≤ N) (hL : L ≤ 1536) (h3 : 3 * t + 3 ≤ L) (hI : k_In x m o t h.1) : ∃ r, F_law_23 N L xs x m o (nI (3 * t)) h = some r ∧ k_In x m o (t + 1) r := by
  obtain ⟨rfl, rfl, n, q, St, S, bf, len, V, c, hR⟩ := hI
  have s1 : x_sld L xs (nI (3 * t) + 1) = some (xs (3 * t + 1)) := k_sld (j := 1) h3 hL (by omega)
  have hms := hR.2.2.2.1.2.2.2.1
  unfold F_law_23
  simp only [s1, Option.bind_some]
  generalize xs (3 * t + 1) = k
  obtain ⟨f1, r, b1, b2, hA, hR1⟩ := hR.gth (N := N) (by omega)
  have hlt := hA.2
  by_cases g : 0 ≤ k.toInt ∧ k.toInt ≤ 9999
  · by_cases z : k_rk (k_all S).1 (k_all S).2.1 (k + 1) < (k_all S).1
    · refine k_lawOKm (zX := x_cv h.1 5 x (F_X5_nextKey N h.1 x k)) (M := fun z => F_X6_nextKey N z (x + 70) k) (v := (k_all S).2.1 (k_rk (k_all S).1 (k_all S).2.1 (k + 1))) hR1 ?_ (fun f1 hm => (k_kbA hN hA hm hms g true z (by unfold k_bp; rw [if_pos rfl, if_pos z])).cvd hm)
      unfold F_X5_nextKey
      rw [hR.1.cv, k_reqKey, Option.bind_some, if_pos g]
      simp only [x_se, hR.1.now, hR.1.gth, Option.bind_some, hR.1.gcv, b1, b2.cv, k_firstFrom (N := N) (by omega) b2 hA.1.1, k_keyOn (N := N) b2 z]
      rw [if_neg (k_key_ne hA z)]
    · have hle := k_rk_le (k_all S).1 (k_all S).2.1 (k + 1)
      refine k_lawNOm (zX := x_cv h.1 5 x (F_X5_nextKey N h.1 x k)) (M := fun z => F_X6_nextKey N z (x + 70) k) (k := 1) (e := 2) (r := 0) hR1 ?_ rfl (by decide) ((k_kbN hN hA hR1.2.1 hms g true (by unfold k_bp; rw [if_pos rfl, if_neg z])).cvd hR1.2.1)
      unfold F_X5_nextKey
      rw [hR.1.cv, k_reqKey, Option.bind_some, if_pos g]
      simp only [x_se, hR.1.now, hR.1.gth, Option.bind_some, hR.1.gcv, b1, b2.cv, k_firstFrom (N := N) (by omega) b2 hA.1.1, k_keyOn_o (N := N) b2 (i := nI (k_rk (k_all S).1 (k_all S).2.1 (k + 1))) (Or.inr (by rw [nI_toInt (by omega)]; omega))]
      rw [if_pos trivial]
  · refine k_lawNOm (zX := x_cv h.1 5 x (F_X5_nextKey N h.1 x k)) (M := fun z => F_X6_nextKey N z (x + 70) k) (k := 0) (e := 1) (r := 0) hR ?_ rfl (by decide) ((k_kbB hR.2.1 g true).cvd hR.2.1)
    unfold F_X5_nextKey
    rw [hR.1.cv, k_reqKey, Option.bind_some, if_neg g]
    rfl
theorem k_law24 (hN : 50000 ≤ N) (hL : L ≤ 1536) (h3 : 3 * t + 3 ≤ L) (hI : k_In x m o t h.1) : ∃ r, F_law_24 N L xs x m o (nI (3 * t)) h = some r ∧ k_In x m o (t + 1) r := by
  obtain ⟨rfl, rfl, n, q, St, S, bf, len, V, c, hR⟩ := hI
  have s1 : x_sld L xs (nI (3 * t) + 1) = some (xs (3 * t + 1)) := k_sld (j := 1) h3 hL (by omega)
  have hms := hR.2.2.2.1.2.2.2.1
  unfold F_law_24
  simp only [s1, Option.bind_some]
  generalize xs (3 * t + 1) = k
  obtain ⟨f1, r, b1, b2, hA, hR1⟩ := hR.gth (N := N) (by omega)
  have hlt := hA.2
  have hle := k_rk_le (k_all S).1 (k_all S).2.1 k
  by_cases g : 0 ≤ k.toInt ∧ k.toInt ≤ 9999
  · rcases Nat.eq_zero_or_pos (k_rk (k_all S).1 (k_all S).2.1 k) with z | z
    · refine k_lawNOm (zX := x_cv h.1 5 x (F_X5_keyBefore N h.1 x k)) (M := fun z => F_X6_keyBefore N z (x + 70) k) (k := 1) (e := 2) (r := 0) hR1 ?_ rfl (by decide) ((k_kbN hN hA hR1.2.1 hms g false (by unfold k_bp; rw [if_neg (show ¬ false = true by decide), z]; decide)).cvd hR1.2.1)
      unfold F_X5_keyBefore
      rw [hR.1.cv, k_reqKey, Option.bind_some, if_pos g]
      simp only [x_se, hR.1.now, hR.1.gth, Option.bind_some, hR.1.gcv, b1, b2.cv, k_firstFrom (N := N) (by omega) b2 hA.1.1, z, k_keyOn_o (N := N) b2 (i := nI 0 - 1) (Or.inl (by decide))]
      rw [if_pos trivial]
    · obtain ⟨u, hu⟩ : ∃ u, k_rk (k_all S).1 (k_all S).2.1 k = u + 1 := ⟨_, (Nat.succ_pred_eq_of_pos z).symm⟩
      have hu2 : u < (k_all S).1 := by omega
      refine k_lawOKm (zX := x_cv h.1 5 x (F_X5_keyBefore N h.1 x k)) (M := fun z => F_X6_keyBefore N z (x + 70) k) (v := (k_all S).2.1 u) hR1 ?_ (fun f1 hm => (k_kbA hN hA hm hms g false hu2 (by unfold k_bp; rw [if_neg (show ¬ false = true by decide), hu, nI_pred])).cvd hm)
      unfold F_X5_keyBefore
      rw [hR.1.cv, k_reqKey, Option.bind_some, if_pos g]
      simp only [x_se, hR.1.now, hR.1.gth, Option.bind_some, hR.1.gcv, b1, b2.cv, k_firstFrom (N := N) (by omega) b2 hA.1.1, hu, nI_pred, k_keyOn (N := N) b2 hu2]
      rw [if_neg (k_key_ne hA hu2)]
  · refine k_lawNOm (zX := x_cv h.1 5 x (F_X5_keyBefore N h.1 x k)) (M := fun z => F_X6_keyBefore N z (x + 70) k) (k := 0) (e := 1) (r := 0) hR ?_ rfl (by decide) ((k_kbB hR.2.1 g false).cvd hR.2.1)
    unfold F_X5_keyBefore
    rw [hR.1.cv, k_reqKey, Option.bind_some, if_neg g]
    rfl
theorem k_law26 (hN : 50000 ≤ N) (hL : L ≤ 1536) (h3 : 3 * t + 3 ≤ L) (hI : k_In x m o t h.1) : ∃ r, F_law_26 N L xs x m o (nI (3 * t)) h = some r ∧ k_In x m o (t + 1) r := by
  obtain ⟨rfl, rfl, n, q, St, S, bf, len, V, c, hR⟩ := hI
  have s1 : x_sld L xs (nI (3 * t) + 1) = some (xs (3 * t + 1)) := k_sld (j := 1) h3 hL (by omega)
  have hms := hR.2.2.2.1.2.2.2.1
  unfold F_law_26
  simp only [s1, Option.bind_some]
  generalize xs (3 * t + 1) = k
  obtain ⟨f1, r, b1, b2, hA, hR1⟩ := hR.gth (N := N) (by omega)
  have hlt := hA.2
  have e0 : (0 : Int32).toInt = 0 := rfl
  have e1 : (nI (k_all S).1 - 1).toInt = ((k_all S).1 : Int) - 1 := pk_sub_toInt (a := (k_all S).1) (b := 1) (by omega) (by omega)
  by_cases g : 0 ≤ k.toInt ∧ k.toInt < (k_all S).1
  · obtain ⟨j, j1, rfl, j3⟩ := k_nn (x := k) (by omega)
    have hj : j < (k_all S).1 := by omega
    refine k_lawOKm (zX := x_cv h.1 5 x (F_X5_keyAt N h.1 x (nI j))) (M := fun z => F_X6_keyAt N z (x + 70) (nI j)) (v := (k_all S).2.1 j) hR1 ?_ (fun f1 hm => ?_)
    · unfold F_X5_keyAt
      simp only [hR.1.cv, hR.1.now, hR.1.gth, Option.bind_some, hR.1.gcv, b1, b2.cv, k_keyOn (N := N) b2 hj]
      rw [if_neg (k_key_ne hA hj)]
    · obtain ⟨f2, V2, a1, a2, a3, a4, -, a6⟩ := k_finds (N := N) (by omega) hA hm hms
      obtain ⟨f3, c1, c2, c3⟩ := a2.pi (i := 11) (by omega) 0
      have h11 : (k_sI V2 11 0).2 11 = 0 := k_sI_s
      refine ⟨f3, _, ?_, c2, a4.tr c3, (a3.wd (by simp) (by simp)).tr (k_sI_mx (by simp)), h11⟩
      unfold F_X6_keyAt
      rw [hm.cv, a1, Option.bind_some, k_in, Option.bind_some, if_neg (k_xb1 (by simp only []; rw [e0, e1]; omega))]
      simp only [c1, c2.i11, h11, Option.bind_some]
      rw [if_pos (by decide)]
      simp only [c2.r7, Option.bind_some, k_fk c2 hA (show k_fd (k_sI V2 11 0) S from a6) hj]
  · refine k_lawNOm (zX := x_cv h.1 5 x (F_X5_keyAt N h.1 x k)) (M := fun z => F_X6_keyAt N z (x + 70) k) (k := 2) (e := 1) (r := 0) hR1 ?_ rfl (by decide) ?_
    · unfold F_X5_keyAt
      simp only [hR.1.cv, hR.1.now, hR.1.gth, Option.bind_some, hR.1.gcv, b1, b2.cv, k_keyOn_o (N := N) b2 (i := k) (by omega)]
      rw [if_pos trivial]
    · obtain ⟨f2, V2, a1, a2, a3, a4, -, a6⟩ := k_finds (N := N) (by omega) hA hR1.2.1 hms
      obtain ⟨f3, c1, c2, c3⟩ := a2.pi (i := 11) (by omega) 1
      have h11 : (k_sI V2 11 1).2 11 = 1 := k_sI_s
      refine ⟨f3, _, ?_, c2, a4.tr c3, (a3.wd (by simp) (by simp)).tr (k_sI_mx (by simp)), h11⟩
      unfold F_X6_keyAt
      rw [hR1.2.1.cv, a1, Option.bind_some, k_in, Option.bind_some, if_pos (k_xb0 (by simp only []; rw [e0, e1]; omega))]
      simp only [c1, c2.i11, h11, Option.bind_some]
      rw [if_neg (by decide)]
end KBS
