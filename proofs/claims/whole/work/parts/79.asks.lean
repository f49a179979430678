/-! Calls that ask, with the gatherer at work, and of two arguments. -/
section KAR
variable {N L : Nat} {xs : Nat → Int32} {x m o t : Nat} {h : XH} {f : XM} {n len : Nat} {q : Nat → Option Nat} {St : Nat → KS} {S : KS} {bf : Nat → Int32} {V : KM} {c : Nat}
theorem k_lawOKm {M : XM → Option (Int32 × XM)} {zX : Option ((Int32 × XM) ⊕ (Nat × XM))} {G : Nat × XM → Option (Int32 × XM)} {v : Int32} {f0 : XM} (hR : k_Rl x t f0 n q St S bf len V c) (hX : zX = some (.inl (v, f0))) (hM : ∀ f1, k_mo f1 (x + 70) V → k_ans x f1 V 0 v (M f1)) :
    ∃ r, ((zX.bind fun z1 => x_se z1 (fun w2 => (x_astl w2.2 (x + 80) 0 ((w2.1 : Int32).toInt64)).bind fun f4 => some (0, f4)) (fun e3 => G e3)).bind fun z3 => (x_cv z3.2 6 (x + 70) (M z3.2)).bind fun z6 => (x_cv z6.2 6 (x + 70) (F_X6_thrown N z6.2 (x + 70))).bind fun z7 => if z7 = z3.1 then if z3.1 = 0 then (x_aldl z6.2 (x + 80) 0).bind fun v8 => if (lg_cmp v8 ((z6.1 : Int32).toInt64)) = 0 then some z6.2 else none else some z6.2 else none) = some r ∧ k_In x (x + 70) (x + 80) (t + 1) r := by
  obtain ⟨f1, a1, a2, a3⟩ := hR.put v.toInt64
  obtain ⟨f2, V2, b1, b2, b3, b4, b5⟩ := hM f1 a2.2.1
  refine k_lawQ a2 (e := 0) (r := v) ?_ (fun _ => a3) b1 b2 b3 b4 b5
  rw [hX]
  simp only [x_se, Option.bind_some, a1]
theorem k_lawNOm {M : XM → Option (Int32 × XM)} {zX : Option ((Int32 × XM) ⊕ (Nat × XM))} {G : Nat × XM → Option (Int32 × XM)} {W : Int32 × XM → Option (Int32 × XM)} {k : Nat} {r e : Int32} {f0 : XM} (hR : k_Rl x t f0 n q St S bf len V c) (hX : zX = some (.inr (k, f0))) (hG : G (k, f0) = some (e, f0)) (he : e ≠ 0) (hM : k_ans x f0 V e r (M f0)) :
    ∃ r, ((zX.bind fun z1 => x_se z1 W (fun e3 => G e3)).bind fun z3 => (x_cv z3.2 6 (x + 70) (M z3.2)).bind fun z6 => (x_cv z6.2 6 (x + 70) (F_X6_thrown N z6.2 (x + 70))).bind fun z7 => if z7 = z3.1 then if z3.1 = 0 then (x_aldl z6.2 (x + 80) 0).bind fun v8 => if (lg_cmp v8 ((z6.1 : Int32).toInt64)) = 0 then some z6.2 else none else some z6.2 else none) = some r ∧ k_In x (x + 70) (x + 80) (t + 1) r := by
  obtain ⟨f2, V2, b1, b2, b3, b4, b5⟩ := hM
  refine k_lawQ hR (e := e) (r := r) ?_ (fun z => absurd z he) b1 b2 b3 b4 b5
  rw [hX]
  exact hG
theorem k_reqRange (lo hi : Int32) : F_X5_requireRange N f lo hi = some (if (0 ≤ lo.toInt ∧ lo.toInt ≤ 9999) ∧ lo.toInt ≤ hi.toInt ∧ hi.toInt ≤ 9999 then .inl () else .inr 0) := by
  have e0 : (0 : Int32).toInt = 0 := rfl
  have e1 : (9999 : Int32).toInt = 9999 := rfl
  unfold F_X5_requireRange
  simp only [k_i_lt, k_i_le, e0, e1]
  by_cases g1 : lo.toInt < 0
  · rw [if_pos g1, if_neg (by omega)]
  · rw [if_neg g1]
    by_cases g2 : 9999 < lo.toInt
    · rw [if_pos g2, if_neg (by omega)]
    · rw [if_neg g2]
      by_cases g3 : hi.toInt < lo.toInt
      · rw [if_pos g3, if_neg (by omega)]
      · rw [if_neg g3]
        by_cases g4 : hi.toInt ≤ 9999
        · rw [if_pos g4, if_pos (by omega)]
        · rw [if_neg g4, if_neg (by omega)]
theorem k_countsA (hN : 50000 ≤ N) (hA : k_okA S) (hm : k_mo f (x + 70) V) (hs : k_ms (V.1 1) S c) {lo hi : Int32} (g : (0 ≤ lo.toInt ∧ lo.toInt ≤ 9999) ∧ lo.toInt ≤ hi.toInt ∧ hi.toInt ≤ 9999) : k_ans x f V 0 (nI (k_btw (k_all S).1 (k_all S).2.1 lo hi)) (F_X6_counts N f (x + 70) lo hi) := by
  unfold F_X6_counts
  rw [k_isKey, Option.bind_some, if_neg (k_xb1 g.1), k_in, Option.bind_some, if_neg (k_xb1 (by have e1 : (9999 : Int32).toInt = 9999 := rfl; rw [e1]; exact g.2))]
  exact k_ask_y (B := fun f5 => (x_cv f5 6 (x + 70) (F_X6_between N f5 (x + 70) lo hi)).bind fun z8 => some (z8.1, z8.2)) hm hs (fun f5 V5 y1 y2 => by
    obtain ⟨f6, V6, b1, b2, b3, b4, -⟩ := k_between (N := N) (by omega) hA y1 y2 lo hi
    exact ⟨f6, V6, by simp only [y1.cv, b1, Option.bind_some], b2, b4, b3⟩)
theorem k_countsN (hm : k_mo f (x + 70) V) {lo hi : Int32} (g : ¬ ((0 ≤ lo.toInt ∧ lo.toInt ≤ 9999) ∧ lo.toInt ≤ hi.toInt ∧ hi.toInt ≤ 9999)) : k_ans x f V 1 0 (F_X6_counts N f (x + 70) lo hi) := by
  unfold F_X6_counts
  rw [k_isKey, Option.bind_some]
  by_cases g1 : 0 ≤ lo.toInt ∧ lo.toInt ≤ 9999
  · rw [if_neg (k_xb1 g1), k_in, Option.bind_some, if_pos (k_xb0 (by have e1 : (9999 : Int32).toInt = 9999 := rfl; rw [e1]; exact fun y => g ⟨g1, y⟩))]
    exact k_ask_n (B := fun f5 => (x_cv f5 6 (x + 70) (F_X6_between N f5 (x + 70) lo hi)).bind fun z8 => some (z8.1, z8.2)) hm (Or.inl rfl)
  · rw [if_pos (k_xb0 g1)]
    exact k_ask_n (B := fun f5 => (x_cv f5 6 (x + 70) (F_X6_between N f5 (x + 70) lo hi)).bind fun z8 => some (z8.1, z8.2)) hm (Or.inl rfl)
theorem k_isPlace (hm : k_mo f m V) (hs : k_ms (V.1 1) S c) (k p : Int32) : F_X6_isPlace N f m k p = some (decide ((0 ≤ k.toInt ∧ k.toInt ≤ S.1) ∧ 0 ≤ p.toInt ∧ p.toInt < (S.2.1 (k_u k)).1)) := by
  have e0 : (0 : Int32).toInt = 0 := rfl
  unfold F_X6_isPlace
  rw [hm.cv, k_isRun hm hs, Option.bind_some]
  by_cases g : 0 ≤ k.toInt ∧ k.toInt ≤ S.1
  · rw [if_neg (k_xb1 g)]
    obtain ⟨j, j1, rfl, j3⟩ := k_nn (x := k) (by omega)
    have hj : j ≤ S.1 := by omega
    have hz := hs.sz hj
    rw [hm.cv, k_size hm hs hj, Option.bind_some, k_in, Option.bind_some, e0, k_u_n j1]
    have e1 : (nI (S.2.1 j).1 - 1).toInt = ((S.2.1 j).1 : Int) - 1 := pk_sub_toInt (a := (S.2.1 j).1) (b := 1) (by omega) (by omega)
    rw [e1]
    by_cases g2 : 0 ≤ p.toInt ∧ p.toInt < (S.2.1 j).1
    · rw [if_neg (k_xb1 (by omega)), decide_eq_true ⟨g, g2⟩]
    · rw [if_pos (k_xb0 (by omega)), decide_eq_false (fun y => g2 y.2)]
  · rw [if_pos (k_xb0 g), decide_eq_false (fun y => g y.1)]
theorem k_mlb (hN : 50000 ≤ N) (hA : k_okA S) (hm : k_mo f m V) (hs : k_ms (V.1 1) S c) {p : Nat} (hp : p ≤ 100) : ∃ (f' : XM) (V' : KM), F_X6_leavesBuilt N f m (nI p) = some (nI (k_ru (k_all S).1 (k_each S.2.2.2.1 p)), f') ∧ k_mo f' m V' ∧ k_mx V V' [7] [8] ∧ k_fr f f' m (m + 10) := by
  have he := k_each_r hs.1 hp
  obtain ⟨e1, e2, e3⟩ := hs.1.2.2.2.2.2.1.e (by omega)
  obtain ⟨f1, V1, a1, a2, a3, a4, -, -⟩ := k_finds (N := N) (by omega) hA hm hs
  have v0 : V1.1 1 0 = S.2.2.2.1 := by rw [a3.1 1 (by simp)]; exact hs.2.2.1.1
  have o0 : x_ald f1 (m + 1) 0 = some S.2.2.2.1 := by rw [← v0]; exact k_ld1 a2 (i := 0) (by omega)
  have hdv := k_t3 (show k_u S.2.2.2.1 * p ≤ 800 from Nat.mul_le_mul e3 hp)
  have hlt := hA.2
  refine ⟨f1, V1, ?_, a2, a3, a4⟩
  unfold F_X6_leavesBuilt
  rw [hm.cv, a1, Option.bind_some, a2.r0, Option.bind_some, Option.bind_some, o0, Option.bind_some]
  unfold F_X6_leavesBy
  rw [← e1] at hdv
  rw [hdv, Option.bind_some]
  by_cases g : 1 ≤ k_u S.2.2.2.1 * p / 100
  · have hE : k_each S.2.2.2.1 p = k_u S.2.2.2.1 * p / 100 := by unfold k_each; omega
    rw [if_pos (show (1 : Int32) ≤ nI (k_u S.2.2.2.1 * p / 100) from nI_le (a := 1) g (by have := he.2; omega)), ← hE]
    rw [k_ru_n (by omega) he.1 (by omega)]
    rfl
  · have hE : k_each S.2.2.2.1 p = 1 := by unfold k_each; omega
    rw [if_neg (show ¬ (1 : Int32) ≤ nI (k_u S.2.2.2.1 * p / 100) from nI_ge (b := 1) (by omega) (by omega)), hE]
    have := k_ru_n (a := (k_all S).1) (e := 1) (by omega) (by omega) (by omega)
    have h2 : x_div (nI (k_all S).1 + 1 - 1) 1 = some (nI (k_ru (k_all S).1 1)) := this
    rw [h2]
    rfl
theorem k_law21 (hN : 50000 ≤ N) (hL : L ≤ 1536) (h3 : 3 * t + 3 ≤ L) (hI : k_In x m o t h.1) : ∃ r, F_law_21 N L xs x m o (nI (3 * t)) h = some r ∧ k_In x m o (t + 1) r := by
  obtain ⟨rfl, rfl, n, q, St, S, bf, len, V, c, hR⟩ := hI
  have s1 : x_sld L xs (nI (3 * t) + 1) = some (xs (3 * t + 1)) := k_sld (j := 1) h3 hL (by omega)
  have s2 : x_sld L xs (nI (3 * t) + 2) = some (xs (3 * t + 2)) := k_sld (j := 2) h3 hL (by omega)
  have hms := hR.2.2.2.1.2.2.2.1
  unfold F_law_21
  simp only [s1, s2, Option.bind_some]
  generalize xs (3 * t + 1) = k
  generalize xs (3 * t + 2) = p
  have hA := hR.1.okA (N := N) (by omega) hms.1
  by_cases g : (0 ≤ k.toInt ∧ k.toInt ≤ 9999) ∧ k.toInt ≤ p.toInt ∧ p.toInt ≤ 9999
  · refine k_lawOK (zX := x_cv h.1 5 x (F_X5_countByLeaves N h.1 x k p)) (M := fun z => F_X6_countByLeaves N z (x + 70) k p) (v := nI (k_btw (k_all S).1 (k_all S).2.1 k p)) hR ?_ (fun f1 hm => (k_countsA hN hA hm hms g).cvd hm)
    unfold F_X5_countByLeaves
    rw [hR.1.cv, k_reqRange, Option.bind_some, if_pos g]
    simp only [x_se, hR.1.now, Option.bind_some, hR.1.st.cv, k_countStanding (N := N) (by omega) hR.1.st hms.1, k_cst_eq hms.1 hA]
  · refine k_lawNO (zX := x_cv h.1 5 x (F_X5_countByLeaves N h.1 x k p)) (M := fun z => F_X6_countByLeaves N z (x + 70) k p) (k := 0) (e := 1) (r := 0) hR ?_ rfl (by decide) ((k_countsN hR.2.1 g).cvd hR.2.1)
    unfold F_X5_countByLeaves
    rw [hR.1.cv, k_reqRange, Option.bind_some, if_neg g]
    rfl
theorem k_law22 (hN : 50000 ≤ N) (hL : L ≤ 1536) (h3 : 3 * t + 3 ≤ L) (hI : k_In x m o t h.1) : ∃ r, F_law_22 N L xs x m o (nI (3 * t)) h = some r ∧ k_In x m o (t + 1) r := by
  obtain ⟨rfl, rfl, n, q, St, S, bf, len, V, c, hR⟩ := hI
  have s1 : x_sld L xs (nI (3 * t) + 1) = some (xs (3 * t + 1)) := k_sld (j := 1) h3 hL (by omega)
  have s2 : x_sld L xs (nI (3 * t) + 2) = some (xs (3 * t + 2)) := k_sld (j := 2) h3 hL (by omega)
  have hms := hR.2.2.2.1.2.2.2.1
  unfold F_law_22
  simp only [s1, s2, Option.bind_some]
  generalize xs (3 * t + 1) = k
  generalize xs (3 * t + 2) = p
  obtain ⟨f1, r, b1, b2, hA, hR1⟩ := hR.gth (N := N) (by omega)
  by_cases g : (0 ≤ k.toInt ∧ k.toInt ≤ 9999) ∧ k.toInt ≤ p.toInt ∧ p.toInt ≤ 9999
  · refine k_lawOKm (zX := x_cv h.1 5 x (F_X5_countByNext N h.1 x k p)) (M := fun z => F_X6_countByNext N z (x + 70) k p) (v := nI (k_btw (k_all S).1 (k_all S).2.1 k p)) hR1 ?_ (fun f1 hm => (k_countsA hN hA hm hms g).cvd hm)
    unfold F_X5_countByNext
    rw [hR.1.cv, k_reqRange, Option.bind_some, if_pos g]
    simp only [x_se, hR.1.now, hR.1.gth, Option.bind_some, hR.1.gcv, b1, b2.cv, k_countFrom (N := N) (by omega) b2 hA.1.1]
  · refine k_lawNOm (zX := x_cv h.1 5 x (F_X5_countByNext N h.1 x k p)) (M := fun z => F_X6_countByNext N z (x + 70) k p) (k := 0) (e := 1) (r := 0) hR ?_ rfl (by decide) ((k_countsN hR.2.1 g).cvd hR.2.1)
    unfold F_X5_countByNext
    rw [hR.1.cv, k_reqRange, Option.bind_some, if_neg g]
    rfl
theorem k_law29 (hN : 50000 ≤ N) (hL : L ≤ 1536) (h3 : 3 * t + 3 ≤ L) (hI : k_In x m o t h.1) : ∃ r, F_law_29 N L xs x m o (nI (3 * t)) h = some r ∧ k_In x m o (t + 1) r := by
  obtain ⟨rfl, rfl, n, q, St, S, bf, len, V, c, hR⟩ := hI
  have s1 : x_sld L xs (nI (3 * t) + 1) = some (xs (3 * t + 1)) := k_sld (j := 1) h3 hL (by omega)
  have s2 : x_sld L xs (nI (3 * t) + 2) = some (xs (3 * t + 2)) := k_sld (j := 2) h3 hL (by omega)
  have hms := hR.2.2.2.1.2.2.2.1
  unfold F_law_29
  simp only [s1, s2, Option.bind_some]
  generalize xs (3 * t + 1) = k
  generalize xs (3 * t + 2) = p
  have h6 := hms.1.1
  by_cases g : (0 ≤ k.toInt ∧ k.toInt ≤ S.1) ∧ 0 ≤ p.toInt ∧ p.toInt < (S.2.1 (k_u k)).1
  · obtain ⟨j, j1, rfl, j3⟩ := k_nn (x := k) (by omega)
    obtain ⟨u, u1, rfl, u3⟩ := k_nn (x := p) (by omega)
    have hj : j ≤ S.1 := by omega
    have hu : u < (S.2.1 j).1 := by
      have := g.2.2
      rw [k_u_n j1] at this
      omega
    obtain ⟨p', cc, y1, y2, y3⟩ := k_runOn (N := N) hR.1.st hj
    refine k_lawOK (zX := x_cv h.1 5 x (F_X5_keyIn N h.1 x (nI j) (nI u))) (M := fun z => F_X6_keyIn N z (x + 70) (nI j) (nI u)) (v := (S.2.1 j).2.1 u) hR ?_ (fun f1 hm => ?_)
    · unfold F_X5_keyIn
      simp only [hR.1.cv, hR.1.now, hR.1.st.cv, y1, y2.cv, k_has y2, Option.bind_some, Option.elim_some]
      rw [if_neg (k_xb1 (by omega))]
      simp only [k_keyOn (N := N) y2 hu, Option.bind_some]
    · unfold F_X6_keyIn
      rw [hm.cv, k_isPlace hm hms, Option.bind_some, if_neg (k_xb1 g)]
      exact k_ask_y (B := fun f5 => (x_cv f5 6 (x + 70) (F_X6_key N f5 (x + 70) (nI j) (nI u))).bind fun z7 => some (z7, f5)) hm hms (fun f5 V5 y1 y2 => k_bB (B := fun f5 => (x_cv f5 6 (x + 70) (F_X6_key N f5 (x + 70) (nI j) (nI u))).bind fun z7 => some (z7, f5)) y1 (by simp only [y1.cv, k_key (N := N) y1 y2 hj hu, Option.bind_some]))
  · refine k_lawNO (zX := x_cv h.1 5 x (F_X5_keyIn N h.1 x k p)) (M := fun z => F_X6_keyIn N z (x + 70) k p) (k := 2) (e := 1) (r := 0) hR ?_ rfl (by decide) ?_
    · unfold F_X5_keyIn
      by_cases g1 : 0 ≤ k.toInt ∧ k.toInt ≤ S.1
      · obtain ⟨j, j1, rfl, j3⟩ := k_nn (x := k) (by omega)
        obtain ⟨p', cc, y1, y2, y3⟩ := k_runOn (N := N) hR.1.st (r := j) (by omega)
        rw [k_u_n j1] at g
        simp only [hR.1.cv, hR.1.now, hR.1.st.cv, y1, y2.cv, k_has y2, Option.bind_some, Option.elim_some]
        rw [if_pos (k_xb0 (fun y => g ⟨g1, y⟩))]
      · simp only [hR.1.cv, hR.1.now, hR.1.st.cv, k_runOn_o (N := N) hR.1.st (r := k) (by omega), Option.bind_some, Option.elim_none]
    · unfold F_X6_keyIn
      rw [hR.2.1.cv, k_isPlace hR.2.1 hms, Option.bind_some, if_pos (k_xb0 g)]
      exact k_ask_n (B := fun f5 => (x_cv f5 6 (x + 70) (F_X6_key N f5 (x + 70) k p)).bind fun z7 => some (z7, f5)) hR.2.1 (Or.inl rfl)
theorem k_law30 (hN : 50000 ≤ N) (hL : L ≤ 1536) (h3 : 3 * t + 3 ≤ L) (hI : k_In x m o t h.1) : ∃ r, F_law_30 N L xs x m o (nI (3 * t)) h = some r ∧ k_In x m o (t + 1) r := by
  obtain ⟨rfl, rfl, n, q, St, S, bf, len, V, c, hR⟩ := hI
  have s1 : x_sld L xs (nI (3 * t) + 1) = some (xs (3 * t + 1)) := k_sld (j := 1) h3 hL (by omega)
  have s2 : x_sld L xs (nI (3 * t) + 2) = some (xs (3 * t + 2)) := k_sld (j := 2) h3 hL (by omega)
  have hms := hR.2.2.2.1.2.2.2.1
  unfold F_law_30
  simp only [s1, s2, Option.bind_some]
  generalize xs (3 * t + 1) = k
  generalize xs (3 * t + 2) = p
  have h6 := hms.1.1
  by_cases g : (0 ≤ k.toInt ∧ k.toInt ≤ S.1) ∧ 0 ≤ p.toInt ∧ p.toInt < (S.2.1 (k_u k)).1
  · obtain ⟨j, j1, rfl, j3⟩ := k_nn (x := k) (by omega)
    obtain ⟨u, u1, rfl, u3⟩ := k_nn (x := p) (by omega)
    have hj : j ≤ S.1 := by omega
    have hu : u < (S.2.1 j).1 := by
      have := g.2.2
      rw [k_u_n j1] at this
      omega
    obtain ⟨p', cc, y1, y2, y3⟩ := k_runOn (N := N) hR.1.st hj
    refine k_lawOKB (zX := x_cv h.1 5 x (F_X5_isGoneIn N h.1 x (nI j) (nI u))) (M := fun z => F_X6_isGoneIn N z (x + 70) (nI j) (nI u)) (v := decide ((S.2.1 j).2.2 u = -1)) hR ?_ (fun f1 hm => ?_)
    · unfold F_X5_isGoneIn
      simp only [hR.1.cv, hR.1.now, hR.1.st.cv, y1, y2.cv, k_has y2, Option.bind_some, Option.elim_some]
      rw [if_neg (k_xb1 (by omega))]
      simp only [k_valueOn (N := N) y2 hu, Option.bind_some]
      by_cases gv : (S.2.1 j).2.2 u = -1
      · rw [if_pos gv, decide_eq_true gv]
      · rw [if_neg gv, decide_eq_false gv]
    · unfold F_X6_isGoneIn
      rw [hm.cv, k_isPlace hm hms, Option.bind_some, if_neg (k_xb1 g)]
      exact k_ask_z (B := fun f5 => (x_cv f5 6 (x + 70) (F_X6_value N f5 (x + 70) (nI j) (nI u))).bind fun z7 => if z7 = (-1) then some (true, f5) else some (false, f5)) hm hms (fun f5 V5 y1 y2 => by
        simp only [y1.cv, k_value (N := N) y1 y2 hj hu, Option.bind_some]
        by_cases gv : (S.2.1 j).2.2 u = -1
        · rw [if_pos gv, decide_eq_true gv]
        · rw [if_neg gv, decide_eq_false gv])
  · refine k_lawNOB (zX := x_cv h.1 5 x (F_X5_isGoneIn N h.1 x k p)) (M := fun z => F_X6_isGoneIn N z (x + 70) k p) (k := 2) (e := 1) (r := false) hR ?_ rfl (by decide) ?_
    · unfold F_X5_isGoneIn
      by_cases g1 : 0 ≤ k.toInt ∧ k.toInt ≤ S.1
      · obtain ⟨j, j1, rfl, j3⟩ := k_nn (x := k) (by omega)
        obtain ⟨p', cc, y1, y2, y3⟩ := k_runOn (N := N) hR.1.st (r := j) (by omega)
        rw [k_u_n j1] at g
        simp only [hR.1.cv, hR.1.now, hR.1.st.cv, y1, y2.cv, k_has y2, Option.bind_some, Option.elim_some]
        rw [if_pos (k_xb0 (fun y => g ⟨g1, y⟩))]
      · simp only [hR.1.cv, hR.1.now, hR.1.st.cv, k_runOn_o (N := N) hR.1.st (r := k) (by omega), Option.bind_some, Option.elim_none]
    · unfold F_X6_isGoneIn
      rw [hR.2.1.cv, k_isPlace hR.2.1 hms, Option.bind_some, if_pos (k_xb0 g)]
      exact k_ask_w (B := fun f5 => (x_cv f5 6 (x + 70) (F_X6_value N f5 (x + 70) k p)).bind fun z7 => if z7 = (-1) then some (true, f5) else some (false, f5)) hR.2.1 (Or.inl rfl)
theorem k_law49 (hN : 50000 ≤ N) (hL : L ≤ 1536) (h3 : 3 * t + 3 ≤ L) (hI : k_In x m o t h.1) : ∃ r, F_law_49 N L xs x m o (nI (3 * t)) h = some r ∧ k_In x m o (t + 1) r := by
  obtain ⟨rfl, rfl, n, q, St, S, bf, len, V, c, hR⟩ := hI
  have s1 : x_sld L xs (nI (3 * t) + 1) = some (xs (3 * t + 1)) := k_sld (j := 1) h3 hL (by omega)
  have hms := hR.2.2.2.1.2.2.2.1
  unfold F_law_49
  simp only [s1, Option.bind_some]
  generalize xs (3 * t + 1) = k
  obtain ⟨f1, r, b1, b2, hA, hR1⟩ := hR.gth (N := N) (by omega)
  have hlt := hA.2
  by_cases g : 50 ≤ k.toInt ∧ k.toInt ≤ 100
  · obtain ⟨j, j1, rfl, j3⟩ := k_nn (x := k) (by omega)
    refine k_lawOKm (zX := x_cv h.1 5 x (F_X5_leavesIfBuilt N h.1 x (nI j))) (M := fun z => F_X6_leavesIfBuilt N z (x + 70) (nI j)) (v := nI (k_ru (k_all S).1 (k_each S.2.2.2.1 j))) hR1 ?_ (fun f1 hm => ?_)
    · unfold F_X5_leavesIfBuilt
      rw [hR.1.cv, k_reqFill, Option.bind_some, if_pos g]
      simp only [x_se, hR.1.now, hR.1.gth, Option.bind_some, hR.1.gcv, b1, b2.n, hR1.1.st.cv, k_leavesOutOf (N := N) hR1.1.st hms.1 (p := j) (n := (k_all S).1) (by omega) (by omega)]
    · unfold F_X6_leavesIfBuilt
      rw [k_isFill, Option.bind_some, if_neg (k_xb1 g)]
      exact k_ask_y (B := fun f5 => (x_cv f5 6 (x + 70) (F_X6_leavesBuilt N f5 (x + 70) (nI j))).bind fun z7 => some (z7.1, z7.2)) hm hms (fun f5 V5 y1 y2 => by
        obtain ⟨f6, V6, d1, d2, d3, d4⟩ := k_mlb hN hA y1 y2 (p := j) (by omega)
        exact ⟨f6, V6, by simp only [y1.cv, d1, Option.bind_some], d2, d4, d3⟩)
  · refine k_lawNOm (zX := x_cv h.1 5 x (F_X5_leavesIfBuilt N h.1 x k)) (M := fun z => F_X6_leavesIfBuilt N z (x + 70) k) (k := 0) (e := 1) (r := 0) hR ?_ rfl (by decide) ?_
    · unfold F_X5_leavesIfBuilt
      rw [hR.1.cv, k_reqFill, Option.bind_some, if_neg g]
      rfl
    · unfold F_X6_leavesIfBuilt
      rw [k_isFill, Option.bind_some, if_pos (k_xb0 g)]
      exact k_ask_n (B := fun f5 => (x_cv f5 6 (x + 70) (F_X6_leavesBuilt N f5 (x + 70) k)).bind fun z7 => some (z7.1, z7.2)) hR.2.1 (Or.inl rfl)
theorem k_law50 (hN : 50000 ≤ N) (hL : L ≤ 1536) (h3 : 3 * t + 3 ≤ L) (hI : k_In x m o t h.1) : ∃ r, F_law_50 N L xs x m o (nI (3 * t)) h = some r ∧ k_In x m o (t + 1) r := by
  obtain ⟨rfl, rfl, n, q, St, S, bf, len, V, c, hR⟩ := hI
  have s1 : x_sld L xs (nI (3 * t) + 1) = some (xs (3 * t + 1)) := k_sld (j := 1) h3 hL (by omega)
  have hms := hR.2.2.2.1.2.2.2.1
  unfold F_law_50
  simp only [s1, Option.bind_some]
  generalize xs (3 * t + 1) = k
  obtain ⟨f1, r, b1, b2, hA, hR1⟩ := hR.gth (N := N) (by omega)
  have hlt := hA.2
  obtain ⟨e1, e2, e3⟩ := hms.1.2.2.2.2.2.2.e (by omega)
  by_cases g : 50 ≤ k.toInt ∧ k.toInt ≤ 100
  · obtain ⟨j, j1, rfl, j3⟩ := k_nn (x := k) (by omega)
    have he := k_each_r hms.1 (p := j) (by omega)
    have hle := k_ru_le (c := (k_all S).1) he.1
    refine k_lawOKm (zX := x_cv h.1 5 x (F_X5_levelsIfBuilt N h.1 x (nI j))) (M := fun z => F_X6_levelsIfBuilt N z (x + 70) (nI j)) (v := nI (k_lv (k_u S.2.2.2.2.1) 32 (k_ru (k_all S).1 (k_each S.2.2.2.1 j)))) hR1 ?_ (fun f1 hm => ?_)
    · unfold F_X5_levelsIfBuilt
      rw [hR.1.cv, k_reqFill, Option.bind_some, if_pos g]
      simp only [x_se, hR.1.now, hR.1.gth, Option.bind_some, hR.1.gcv, b1, b2.n, hR1.1.st.cv, k_levelsOutOf (N := N) (by omega) hR1.1.st hms.1 (p := j) (n := (k_all S).1) (by omega) (by omega)]
    · unfold F_X6_levelsIfBuilt
      rw [k_isFill, Option.bind_some, if_neg (k_xb1 g)]
      exact k_ask_y (B := fun f5 => (x_cv f5 6 (x + 70) (F_X6_leavesBuilt N f5 (x + 70) (nI j))).bind fun z11 => (x_getr z11.2 6 (x + 70) 0).bind fun v12 => Option.bind v12 fun a13 => (x_ald z11.2 a13 1).bind fun v14 => (x_cv z11.2 6 (x + 70) (F_X6_levelsOf N z11.2 (x + 70) z11.1 v14)).bind fun z15 => some (z15, z11.2)) hm hms (fun f5 V5 y1 y2 => by
        obtain ⟨f6, V6, d1, d2, d3, d4⟩ := k_mlb hN hA y1 y2 (p := j) (by omega)
        have v1 : V6.1 1 1 = S.2.2.2.2.1 := by rw [d3.1 1 (by simp)]; exact y2.2.2.1.2.1
        have o1 : x_ald f6 (x + 70 + 1) 1 = some (nI (k_u S.2.2.2.2.1)) := by rw [← e1, ← v1]; exact k_ld1 d2 (i := 1) (by omega)
        exact ⟨f6, V6, by simp only [y1.cv, d1, Option.bind_some, d2.r0, o1, d2.cv, k_mlevelsOf (N := N) (f := f6) (m := x + 70) (cnt := k_ru (k_all S).1 (k_each S.2.2.2.1 j)) (by omega) e2 (show k_u S.2.2.2.2.1 ≤ 100 by omega) (by omega)], d2, d4, d3⟩)
  · refine k_lawNOm (zX := x_cv h.1 5 x (F_X5_levelsIfBuilt N h.1 x k)) (M := fun z => F_X6_levelsIfBuilt N z (x + 70) k) (k := 0) (e := 1) (r := 0) hR ?_ rfl (by decide) ?_
    · unfold F_X5_levelsIfBuilt
      rw [hR.1.cv, k_reqFill, Option.bind_some, if_neg g]
      rfl
    · unfold F_X6_levelsIfBuilt
      rw [k_isFill, Option.bind_some, if_pos (k_xb0 g)]
      exact k_ask_n (B := fun f5 => (x_cv f5 6 (x + 70) (F_X6_leavesBuilt N f5 (x + 70) k)).bind fun z11 => (x_getr z11.2 6 (x + 70) 0).bind fun v12 => Option.bind v12 fun a13 => (x_ald z11.2 a13 1).bind fun v14 => (x_cv z11.2 6 (x + 70) (F_X6_levelsOf N z11.2 (x + 70) z11.1 v14)).bind fun z15 => some (z15, z11.2)) hR.2.1 (Or.inl rfl)
end KAR
