/-! Calls that ask, by one pattern. -/
section KAP
variable {N L : Nat} {xs : Nat → Int32} {x m o t : Nat} {h : XH} {f : XM} {n len : Nat} {q : Nat → Option Nat} {St : Nat → KS} {S : KS} {bf : Nat → Int32} {V : KM} {c : Nat}
/-- the reference's answer, whatever lies about it -/
def k_ans {α : Type} (x : Nat) (f : XM) (V : KM) (e : Int32) (v : α) (z : Option (α × XM)) : Prop := ∃ (f2 : XM) (V2 : KM), z = some (v, f2) ∧ k_mo f2 (x + 70) V2 ∧ k_fr f f2 (x + 70) (x + 70 + 10) ∧ k_mx V V2 [5, 6, 7, 9] [8, 11, 12, 14] ∧ V2.2 11 = e
theorem k_ask_y {α : Type} {v d : α} {B : XM → Option (α × XM)} (hm : k_mo f (x + 70) V) (hs : k_ms (V.1 1) S c) (hB : ∀ f5 V5, k_mo f5 (x + 70) V5 → k_ms (V5.1 1) S c → ∃ (f6 : XM) (V6 : KM), B f5 = some (v, f6) ∧ k_mo f6 (x + 70) V6 ∧ k_fr f5 f6 (x + 70) (x + 70 + 10) ∧ k_mx V5 V6 [7] [8]) : k_ans x f V 0 v ((x_puti f 6 (x + 70) 11 0).bind fun f5 => (x_geti f5 6 (x + 70) 11).bind fun v6 => if v6 ≤ 0 then B f5 else some (d, f5)) := by
  obtain ⟨f2, c1, c2, c3⟩ := hm.pi (i := 11) (by omega) 0
  have h11 : (k_sI V 11 0).2 11 = 0 := k_sI_s
  obtain ⟨f6, V6, b1, b2, b3, b4⟩ := hB f2 _ c2 hs
  refine ⟨f6, V6, ?_, b2, c3.tr b3, (k_sI_mx (by simp)).tr (b4.wd (by simp) (by simp)), (b4.2 11 (by simp)).trans h11⟩
  simp only [c1, c2.i11, h11, Option.bind_some]
  rw [if_pos (by decide), b1]
theorem k_ask_n {α : Type} {d : α} {e : Int32} {B : XM → Option (α × XM)} (hm : k_mo f (x + 70) V) (he : e = 1 ∨ e = 2) : k_ans x f V e d ((x_puti f 6 (x + 70) 11 e).bind fun f5 => (x_geti f5 6 (x + 70) 11).bind fun v6 => if v6 ≤ 0 then B f5 else some (d, f5)) := by
  obtain ⟨f2, c1, c2, c3⟩ := hm.pi (i := 11) (by omega) e
  have h11 : (k_sI V 11 e).2 11 = e := k_sI_s
  refine ⟨f2, _, ?_, c2, c3, k_sI_mx (by simp), h11⟩
  simp only [c1, c2.i11, h11, Option.bind_some]
  rw [if_neg (by rcases he with rfl | rfl <;> decide)]
theorem k_ask_z {α : Type} {v d : α} {B : XM → Option (α × XM)} (hm : k_mo f (x + 70) V) (hs : k_ms (V.1 1) S c) (hB : ∀ f5 V5, k_mo f5 (x + 70) V5 → k_ms (V5.1 1) S c → B f5 = some (v, f5)) : k_ans x f V 0 v ((x_puti f 6 (x + 70) 11 0).bind fun f5 => (x_geti f5 6 (x + 70) 11).bind fun v6 => if v6 = 0 then B f5 else some (d, f5)) := by
  obtain ⟨f2, c1, c2, c3⟩ := hm.pi (i := 11) (by omega) 0
  have h11 : (k_sI V 11 0).2 11 = 0 := k_sI_s
  refine ⟨f2, _, ?_, c2, c3, k_sI_mx (by simp), h11⟩
  simp only [c1, c2.i11, h11, Option.bind_some]
  rw [if_pos trivial, hB f2 _ c2 hs]
theorem k_ask_w {α : Type} {d : α} {e : Int32} {B : XM → Option (α × XM)} (hm : k_mo f (x + 70) V) (he : e = 1 ∨ e = 2) : k_ans x f V e d ((x_puti f 6 (x + 70) 11 e).bind fun f5 => (x_geti f5 6 (x + 70) 11).bind fun v6 => if v6 = 0 then B f5 else some (d, f5)) := by
  obtain ⟨f2, c1, c2, c3⟩ := hm.pi (i := 11) (by omega) e
  have h11 : (k_sI V 11 e).2 11 = e := k_sI_s
  refine ⟨f2, _, ?_, c2, c3, k_sI_mx (by simp), h11⟩
  simp only [c1, c2.i11, h11, Option.bind_some]
  rw [if_neg (by rcases he with rfl | rfl <;> decide)]
/-- nothing but a number read -/
theorem k_bB {α : Type} {v : α} {B : XM → Option (α × XM)} {f5 : XM} {V5 : KM} (hm : k_mo f5 (x + 70) V5) (h : B f5 = some (v, f5)) : ∃ (f6 : XM) (V6 : KM), B f5 = some (v, f6) ∧ k_mo f6 (x + 70) V6 ∧ k_fr f5 f6 (x + 70) (x + 70 + 10) ∧ k_mx V5 V6 [7] [8] := ⟨f5, V5, h, hm, k_fr.rf, k_mx.rf⟩
theorem k_lawOK {M : XM → Option (Int32 × XM)} {zX : Option (Int32 ⊕ Nat)} {G : Nat → Option (Int32 × XM)} {v : Int32} (hR : k_Rl x t f n q St S bf len V c) (hX : zX = some (.inl v)) (hM : ∀ f1, k_mo f1 (x + 70) V → k_ans x f1 V 0 v (M f1)) :
    ∃ r, ((zX.bind fun z1 => x_se z1 (fun w2 => (x_astl f (x + 80) 0 ((w2 : Int32).toInt64)).bind fun f4 => some (0, f4)) (fun e3 => G e3)).bind fun z3 => (x_cv z3.2 6 (x + 70) (M z3.2)).bind fun z6 => (x_cv z6.2 6 (x + 70) (F_X6_thrown N z6.2 (x + 70))).bind fun z7 => if z7 = z3.1 then if z3.1 = 0 then (x_aldl z6.2 (x + 80) 0).bind fun v8 => if (lg_cmp v8 ((z6.1 : Int32).toInt64)) = 0 then some z6.2 else none else some z6.2 else none) = some r ∧ k_In x (x + 70) (x + 80) (t + 1) r := by
  obtain ⟨f1, a1, a2, a3⟩ := hR.put v.toInt64
  obtain ⟨f2, V2, b1, b2, b3, b4, b5⟩ := hM f1 a2.2.1
  refine k_lawQ a2 (e := 0) (r := v) ?_ (fun _ => a3) b1 b2 b3 b4 b5
  rw [hX]
  simp only [x_se, Option.bind_some, a1]
theorem k_lawNO {M : XM → Option (Int32 × XM)} {zX : Option (Int32 ⊕ Nat)} {G : Nat → Option (Int32 × XM)} {W : Int32 → Option (Int32 × XM)} {k : Nat} {r e : Int32} (hR : k_Rl x t f n q St S bf len V c) (hX : zX = some (.inr k)) (hG : G k = some (e, f)) (he : e ≠ 0) (hM : k_ans x f V e r (M f)) :
    ∃ r, ((zX.bind fun z1 => x_se z1 W (fun e3 => G e3)).bind fun z3 => (x_cv z3.2 6 (x + 70) (M z3.2)).bind fun z6 => (x_cv z6.2 6 (x + 70) (F_X6_thrown N z6.2 (x + 70))).bind fun z7 => if z7 = z3.1 then if z3.1 = 0 then (x_aldl z6.2 (x + 80) 0).bind fun v8 => if (lg_cmp v8 ((z6.1 : Int32).toInt64)) = 0 then some z6.2 else none else some z6.2 else none) = some r ∧ k_In x (x + 70) (x + 80) (t + 1) r := by
  obtain ⟨f2, V2, b1, b2, b3, b4, b5⟩ := hM
  refine k_lawQ hR (e := e) (r := r) ?_ (fun z => absurd z he) b1 b2 b3 b4 b5
  rw [hX]
  exact hG
theorem k_lawOKB {M : XM → Option (Bool × XM)} {zX : Option (Bool ⊕ Nat)} {G : Nat → Option (Int32 × XM)} {v : Bool} (hR : k_Rl x t f n q St S bf len V c) (hX : zX = some (.inl v)) (hM : ∀ f1, k_mo f1 (x + 70) V → k_ans x f1 V 0 v (M f1)) :
    ∃ r, ((zX.bind fun z1 => x_se z1 (fun w2 => if (x_b w2) = 0 then (x_astl f (x + 80) 0 (0 : Int64)).bind fun f4 => some (0, f4) else (x_astl f (x + 80) 0 (1 : Int64)).bind fun f5 => some (0, f5)) (fun e3 => G e3)).bind fun z3 => (x_cv z3.2 6 (x + 70) (M z3.2)).bind fun z6 => (x_cv z6.2 6 (x + 70) (F_X6_thrown N z6.2 (x + 70))).bind fun z7 => if z7 = z3.1 then if z3.1 = 0 then (x_aldl z6.2 (x + 80) 0).bind fun v8 => if (x_b z6.1) = 0 then if (lg_cmp v8 (0 : Int64)) = 0 then some z6.2 else none else if (lg_cmp v8 (1 : Int64)) = 0 then some z6.2 else none else some z6.2 else none) = some r ∧ k_In x (x + 70) (x + 80) (t + 1) r := by
  obtain ⟨f1, a1, a2, a3⟩ := hR.put (if v then 1 else 0)
  obtain ⟨f2, V2, b1, b2, b3, b4, b5⟩ := hM f1 a2.2.1
  refine k_lawB a2 (e := 0) (b := v) ?_ (fun _ => a3) b1 b2 b3 b4 b5
  rw [hX]
  cases v with
  | true =>
    have a1' : x_astl f (x + 80) 0 (1 : Int64) = some f1 := a1
    simp only [x_se, Option.bind_some, a1']
    rfl
  | false =>
    have a1' : x_astl f (x + 80) 0 (0 : Int64) = some f1 := a1
    simp only [x_se, Option.bind_some, a1']
    rfl
theorem k_lawNOB {M : XM → Option (Bool × XM)} {zX : Option (Bool ⊕ Nat)} {G : Nat → Option (Int32 × XM)} {W : Bool → Option (Int32 × XM)} {k : Nat} {r : Bool} {e : Int32} (hR : k_Rl x t f n q St S bf len V c) (hX : zX = some (.inr k)) (hG : G k = some (e, f)) (he : e ≠ 0) (hM : k_ans x f V e r (M f)) :
    ∃ r, ((zX.bind fun z1 => x_se z1 W (fun e3 => G e3)).bind fun z3 => (x_cv z3.2 6 (x + 70) (M z3.2)).bind fun z6 => (x_cv z6.2 6 (x + 70) (F_X6_thrown N z6.2 (x + 70))).bind fun z7 => if z7 = z3.1 then if z3.1 = 0 then (x_aldl z6.2 (x + 80) 0).bind fun v8 => if (x_b z6.1) = 0 then if (lg_cmp v8 (0 : Int64)) = 0 then some z6.2 else none else if (lg_cmp v8 (1 : Int64)) = 0 then some z6.2 else none else some z6.2 else none) = some r ∧ k_In x (x + 70) (x + 80) (t + 1) r := by
  obtain ⟨f2, V2, b1, b2, b3, b4, b5⟩ := hM
  refine k_lawB hR (e := e) (b := r) ?_ (fun z => absurd z he) b1 b2 b3 b4 b5
  rw [hX]
  exact hG
theorem k_isLeaf {hN : True} (hm : k_mo f m V) (hs : k_ms (V.1 1) S c) (l : Int32) : F_X6_isLeaf N f m l = some (decide (0 ≤ l.toInt ∧ l.toInt < S.2.2.1.2.2.1)) := by
  have h512 := hs.wt.2.2.2.1
  have e0 : (0 : Int32).toInt = 0 := rfl
  have e1 : (nI S.2.2.1.2.2.1 - 1).toInt = (S.2.2.1.2.2.1 : Int) - 1 := pk_sub_toInt (a := S.2.2.1.2.2.1) (b := 1) (by omega) (by omega)
  simp only [F_X6_isLeaf, hm.r0, k_l8 hm hs, Option.bind_some, k_in, e0, e1]
  congr 1
  rw [decide_eq_decide]
  omega
theorem k_isRun (hm : k_mo f m V) (hs : k_ms (V.1 1) S c) (l : Int32) : F_X6_isRun N f m l = some (decide (0 ≤ l.toInt ∧ l.toInt ≤ S.1)) := by
  have h6 := hs.1.1
  have e0 : (0 : Int32).toInt = 0 := rfl
  simp only [F_X6_isRun, hm.r0, k_l6 hm hs, Option.bind_some, k_in, e0]
  rw [nI_toInt (by omega)]
theorem k_reqLeaf (h : k_ci f x n q St S bf len) (l : Int32) : F_X5_requireLeaf N f x l = some (if 0 ≤ l.toInt ∧ l.toInt < S.2.2.1.2.2.1 then .inl () else .inr 2) := by
  have h5 := h.st.tree.2.2.2.2
  have e0 : (0 : Int32).toInt = 0 := rfl
  unfold F_X5_requireLeaf
  by_cases g : l < 0
  · rw [if_pos g, if_neg (by rw [k_i_lt, e0] at g; omega)]
  · rw [if_neg g]
    rw [k_i_lt, e0] at g
    simp only [h.now, h.st.tr, h.st.tree.l, Option.bind_some]
    by_cases g2 : l < nI S.2.2.1.2.2.1
    · rw [if_pos g2, if_pos (by rw [k_i_lt, nI_toInt (by omega)] at g2; omega)]
    · rw [if_neg g2, if_neg (by rw [k_i_lt, nI_toInt (by omega)] at g2; omega)]
theorem k_law34 (hN : 50000 ≤ N) (hL : L ≤ 1536) (h3 : 3 * t + 3 ≤ L) (hI : k_In x m o t h.1) : ∃ r, F_law_34 N L xs x m o (nI (3 * t)) h = some r ∧ k_In x m o (t + 1) r := by
  obtain ⟨rfl, rfl, n, q, St, S, bf, len, V, c, hR⟩ := hI
  have s1 : x_sld L xs (nI (3 * t) + 1) = some (xs (3 * t + 1)) := k_sld (j := 1) h3 hL (by omega)
  have hms := hR.2.2.2.1.2.2.2.1
  unfold F_law_34
  simp only [s1, Option.bind_some]
  generalize xs (3 * t + 1) = k
  by_cases g : 0 ≤ k.toInt ∧ k.toInt < S.2.2.1.2.2.1
  · obtain ⟨j, j1, rfl, j3⟩ := k_nn (x := k) (by omega)
    have hj : j < S.2.2.1.2.2.1 := by omega
    refine k_lawOK (zX := x_cv h.1 5 x (F_X5_entriesOf N h.1 x (nI j))) (M := fun z => F_X6_entriesOf N z (x + 70) (nI j)) (v := nI (k_own S.2.2.1 j)) hR ?_ (fun f1 hm => ?_)
    · unfold F_X5_entriesOf
      rw [hR.1.cv, hR.1.cv, k_reqLeaf hR.1, Option.bind_some, if_pos g]
      simp only [x_se, hR.1.now, hR.1.st.tr, hR.1.st.tree.cv, k_ownCount (N := N) (by omega) hR.1.st.tree hms.wt hj, Option.bind_some]
    · unfold F_X6_entriesOf
      rw [hm.cv, k_isLeaf (hN := trivial) hm hms, Option.bind_some, if_neg (k_xb1 g)]
      exact k_ask_y (B := fun f5 => (x_cv f5 6 (x + 70) (F_X6_own N f5 (x + 70) (nI j))).bind fun z7 => some (z7, f5)) hm hms (fun f5 V5 y1 y2 => k_bB (B := fun f5 => (x_cv f5 6 (x + 70) (F_X6_own N f5 (x + 70) (nI j))).bind fun z7 => some (z7, f5)) y1 (by simp only [y1.cv, k_mown (N := N) (by omega) y1 y2 hj, Option.bind_some]))
  · refine k_lawNO (zX := x_cv h.1 5 x (F_X5_entriesOf N h.1 x k)) (M := fun z => F_X6_entriesOf N z (x + 70) k) (k := 2) (e := 1) (r := 0) hR ?_ rfl (by decide) ?_
    · unfold F_X5_entriesOf
      rw [hR.1.cv, hR.1.cv, k_reqLeaf hR.1, Option.bind_some, if_neg g]
      rfl
    · unfold F_X6_entriesOf
      rw [hR.2.1.cv, k_isLeaf (hN := trivial) hR.2.1 hms, Option.bind_some, if_pos (k_xb0 g)]
      exact k_ask_n (B := fun f5 => (x_cv f5 6 (x + 70) (F_X6_own N f5 (x + 70) k)).bind fun z7 => some (z7, f5)) hR.2.1 (Or.inl rfl)
theorem k_law36 (hN : 50000 ≤ N) (hL : L ≤ 1536) (h3 : 3 * t + 3 ≤ L) (hI : k_In x m o t h.1) : ∃ r, F_law_36 N L xs x m o (nI (3 * t)) h = some r ∧ k_In x m o (t + 1) r := by
  obtain ⟨rfl, rfl, n, q, St, S, bf, len, V, c, hR⟩ := hI
  have s1 : x_sld L xs (nI (3 * t) + 1) = some (xs (3 * t + 1)) := k_sld (j := 1) h3 hL (by omega)
  have hms := hR.2.2.2.1.2.2.2.1
  unfold F_law_36
  simp only [s1, Option.bind_some]
  generalize xs (3 * t + 1) = k
  by_cases g : 0 ≤ k.toInt ∧ k.toInt < S.2.2.1.2.2.1
  · obtain ⟨j, j1, rfl, j3⟩ := k_nn (x := k) (by omega)
    have hj : j < S.2.2.1.2.2.1 := by omega
    refine k_lawOK (zX := x_cv h.1 5 x (F_X5_overflowOf N h.1 x (nI j))) (M := fun z => F_X6_overflowOf N z (x + 70) (nI j)) (v := nI (k_ovf S.2.2.1 j)) hR ?_ (fun f1 hm => ?_)
    · unfold F_X5_overflowOf
      rw [hR.1.cv, hR.1.cv, k_reqLeaf hR.1, Option.bind_some, if_pos g]
      simp only [x_se, hR.1.now, hR.1.st.tr, hR.1.st.tree.cv, k_overflowCount (N := N) (by omega) hR.1.st.tree hms.wt hj, Option.bind_some]
    · unfold F_X6_overflowOf
      rw [hm.cv, k_isLeaf (hN := trivial) hm hms, Option.bind_some, if_neg (k_xb1 g)]
      exact k_ask_y (B := fun f5 => (x_cv f5 6 (x + 70) (F_X6_over N f5 (x + 70) (nI j))).bind fun z7 => some (z7, f5)) hm hms (fun f5 V5 y1 y2 => k_bB (B := fun f5 => (x_cv f5 6 (x + 70) (F_X6_over N f5 (x + 70) (nI j))).bind fun z7 => some (z7, f5)) y1 (by simp only [y1.cv, k_mover (N := N) (by omega) y1 y2 hj, Option.bind_some]))
  · refine k_lawNO (zX := x_cv h.1 5 x (F_X5_overflowOf N h.1 x k)) (M := fun z => F_X6_overflowOf N z (x + 70) k) (k := 2) (e := 1) (r := 0) hR ?_ rfl (by decide) ?_
    · unfold F_X5_overflowOf
      rw [hR.1.cv, hR.1.cv, k_reqLeaf hR.1, Option.bind_some, if_neg g]
      rfl
    · unfold F_X6_overflowOf
      rw [hR.2.1.cv, k_isLeaf (hN := trivial) hR.2.1 hms, Option.bind_some, if_pos (k_xb0 g)]
      exact k_ask_n (B := fun f5 => (x_cv f5 6 (x + 70) (F_X6_over N f5 (x + 70) k)).bind fun z7 => some (z7, f5)) hR.2.1 (Or.inl rfl)
theorem k_law37 (hN : 50000 ≤ N) (hL : L ≤ 1536) (h3 : 3 * t + 3 ≤ L) (hI : k_In x m o t h.1) : ∃ r, F_law_37 N L xs x m o (nI (3 * t)) h = some r ∧ k_In x m o (t + 1) r := by
  obtain ⟨rfl, rfl, n, q, St, S, bf, len, V, c, hR⟩ := hI
  have s1 : x_sld L xs (nI (3 * t) + 1) = some (xs (3 * t + 1)) := k_sld (j := 1) h3 hL (by omega)
  have hms := hR.2.2.2.1.2.2.2.1
  unfold F_law_37
  simp only [s1, Option.bind_some]
  generalize xs (3 * t + 1) = k
  by_cases g : 0 ≤ k.toInt ∧ k.toInt < S.2.2.1.2.2.1
  · obtain ⟨j, j1, rfl, j3⟩ := k_nn (x := k) (by omega)
    have hj : j < S.2.2.1.2.2.1 := by omega
    refine k_lawOK (zX := x_cv h.1 5 x (F_X5_overflowLeaves N h.1 x (nI j))) (M := fun z => F_X6_overflowLeaves N z (x + 70) (nI j)) (v := nI (k_ru (k_ovf S.2.2.1 j) (k_u S.2.2.1.2.2.2.2.1))) hR ?_ (fun f1 hm => ?_)
    · unfold F_X5_overflowLeaves
      rw [hR.1.cv, hR.1.cv, k_reqLeaf hR.1, Option.bind_some, if_pos g]
      simp only [x_se, hR.1.now, hR.1.st.tr, hR.1.st.tree.cv, k_overflowLeafCount (N := N) (by omega) hR.1.st.tree hms.wt hj, Option.bind_some]
    · unfold F_X6_overflowLeaves
      rw [hm.cv, k_isLeaf (hN := trivial) hm hms, Option.bind_some, if_neg (k_xb1 g)]
      exact k_ask_y (B := fun f5 => (x_cv f5 6 (x + 70) (F_X6_overs N f5 (x + 70) (nI j))).bind fun z7 => some (z7, f5)) hm hms (fun f5 V5 y1 y2 => k_bB (B := fun f5 => (x_cv f5 6 (x + 70) (F_X6_overs N f5 (x + 70) (nI j))).bind fun z7 => some (z7, f5)) y1 (by simp only [y1.cv, k_movers (N := N) (by omega) y1 y2 hj, Option.bind_some]))
  · refine k_lawNO (zX := x_cv h.1 5 x (F_X5_overflowLeaves N h.1 x k)) (M := fun z => F_X6_overflowLeaves N z (x + 70) k) (k := 2) (e := 1) (r := 0) hR ?_ rfl (by decide) ?_
    · unfold F_X5_overflowLeaves
      rw [hR.1.cv, hR.1.cv, k_reqLeaf hR.1, Option.bind_some, if_neg g]
      rfl
    · unfold F_X6_overflowLeaves
      rw [hR.2.1.cv, k_isLeaf (hN := trivial) hR.2.1 hms, Option.bind_some, if_pos (k_xb0 g)]
      exact k_ask_n (B := fun f5 => (x_cv f5 6 (x + 70) (F_X6_overs N f5 (x + 70) k)).bind fun z7 => some (z7, f5)) hR.2.1 (Or.inl rfl)
theorem k_law28 (hN : 50000 ≤ N) (hL : L ≤ 1536) (h3 : 3 * t + 3 ≤ L) (hI : k_In x m o t h.1) : ∃ r, F_law_28 N L xs x m o (nI (3 * t)) h = some r ∧ k_In x m o (t + 1) r := by
  obtain ⟨rfl, rfl, n, q, St, S, bf, len, V, c, hR⟩ := hI
  have s1 : x_sld L xs (nI (3 * t) + 1) = some (xs (3 * t + 1)) := k_sld (j := 1) h3 hL (by omega)
  have hms := hR.2.2.2.1.2.2.2.1
  unfold F_law_28
  simp only [s1, Option.bind_some]
  generalize xs (3 * t + 1) = k
  have h6 := hms.1.1
  by_cases g : 0 ≤ k.toInt ∧ k.toInt ≤ S.1
  · obtain ⟨j, j1, rfl, j3⟩ := k_nn (x := k) (by omega)
    have hj : j ≤ S.1 := by omega
    obtain ⟨p, cc, y1, y2, y3⟩ := k_runOn (N := N) hR.1.st hj
    refine k_lawOK (zX := x_cv h.1 5 x (F_X5_sizeOf N h.1 x (nI j))) (M := fun z => F_X6_sizeOf N z (x + 70) (nI j)) (v := nI (S.2.1 j).1) hR ?_ (fun f1 hm => ?_)
    · unfold F_X5_sizeOf
      simp only [hR.1.cv, hR.1.now, hR.1.st.cv, y1, y2.n, Option.bind_some, Option.elim_some]
    · unfold F_X6_sizeOf
      rw [hm.cv, k_isRun hm hms, Option.bind_some, if_neg (k_xb1 g)]
      exact k_ask_y (B := fun f5 => (x_cv f5 6 (x + 70) (F_X6_size N f5 (x + 70) (nI j))).bind fun z7 => some (z7, f5)) hm hms (fun f5 V5 y1 y2 => k_bB (B := fun f5 => (x_cv f5 6 (x + 70) (F_X6_size N f5 (x + 70) (nI j))).bind fun z7 => some (z7, f5)) y1 (by simp only [y1.cv, k_size (N := N) y1 y2 hj, Option.bind_some]))
  · refine k_lawNO (zX := x_cv h.1 5 x (F_X5_sizeOf N h.1 x k)) (M := fun z => F_X6_sizeOf N z (x + 70) k) (k := 2) (e := 1) (r := 0) hR ?_ rfl (by decide) ?_
    · unfold F_X5_sizeOf
      simp only [hR.1.cv, hR.1.now, hR.1.st.cv, k_runOn_o (N := N) hR.1.st (r := k) (by omega), Option.bind_some, Option.elim_none]
    · unfold F_X6_sizeOf
      rw [hR.2.1.cv, k_isRun hR.2.1 hms, Option.bind_some, if_pos (k_xb0 g)]
      exact k_ask_n (B := fun f5 => (x_cv f5 6 (x + 70) (F_X6_size N f5 (x + 70) k)).bind fun z7 => some (z7, f5)) hR.2.1 (Or.inl rfl)
theorem k_law31 (hN : 50000 ≤ N) (hL : L ≤ 1536) (h3 : 3 * t + 3 ≤ L) (hI : k_In x m o t h.1) : ∃ r, F_law_31 N L xs x m o (nI (3 * t)) h = some r ∧ k_In x m o (t + 1) r := by
  obtain ⟨rfl, rfl, n, q, St, S, bf, len, V, c, hR⟩ := hI
  have s1 : x_sld L xs (nI (3 * t) + 1) = some (xs (3 * t + 1)) := k_sld (j := 1) h3 hL (by omega)
  have hms := hR.2.2.2.1.2.2.2.1
  unfold F_law_31
  simp only [s1, Option.bind_some]
  generalize xs (3 * t + 1) = k
  have h6 := hms.1.1
  by_cases g : 0 ≤ k.toInt ∧ k.toInt ≤ 9999
  · have hv := k_runTelling (N := N) (by omega) hR.1.st hms.1 k
    by_cases gv : k_run S k ≤ S.1
    · refine k_lawOK (zX := x_cv h.1 5 x (F_X5_runOf N h.1 x k)) (M := fun z => F_X6_runOf N z (x + 70) k) (v := nI (k_run S k)) hR ?_ (fun f1 hm => ?_)
      · unfold F_X5_runOf
        rw [hR.1.cv, k_reqKey, Option.bind_some, if_pos g]
        rw [if_pos gv] at hv
        simp only [x_se, hR.1.now, Option.bind_some, hR.1.st.cv, hv]
        rw [if_neg (k_nim1 _ (by omega))]
      · unfold F_X6_runOf
        rw [k_isKey, Option.bind_some, if_neg (k_xb1 g), hm.cv, k_runWith (by omega) hm hms, Option.bind_some, if_pos gv, if_neg (k_nim1 _ (by omega))]
        exact k_ask_y (B := fun f5 => (x_cv f5 6 (x + 70) (F_X6_runWith N f5 (x + 70) k)).bind fun z7 => some (z7, f5)) hm hms (fun f5 V5 y1 y2 => k_bB (B := fun f5 => (x_cv f5 6 (x + 70) (F_X6_runWith N f5 (x + 70) k)).bind fun z7 => some (z7, f5)) y1 (by simp only [y1.cv, k_runWith (N := N) (by omega) y1 y2, Option.bind_some]; rw [if_pos gv]))
    · refine k_lawNO (zX := x_cv h.1 5 x (F_X5_runOf N h.1 x k)) (M := fun z => F_X6_runOf N z (x + 70) k) (k := 1) (e := 2) (r := 0) hR ?_ rfl (by decide) ?_
      · unfold F_X5_runOf
        rw [hR.1.cv, k_reqKey, Option.bind_some, if_pos g]
        rw [if_neg gv] at hv
        simp only [x_se, hR.1.now, Option.bind_some, hR.1.st.cv, hv]
        rw [if_pos trivial]
      · unfold F_X6_runOf
        rw [k_isKey, Option.bind_some, if_neg (k_xb1 g), hR.2.1.cv, k_runWith (by omega) hR.2.1 hms, Option.bind_some, if_neg gv, if_pos rfl]
        exact k_ask_n (B := fun f5 => (x_cv f5 6 (x + 70) (F_X6_runWith N f5 (x + 70) k)).bind fun z7 => some (z7, f5)) hR.2.1 (Or.inr rfl)
  · refine k_lawNO (zX := x_cv h.1 5 x (F_X5_runOf N h.1 x k)) (M := fun z => F_X6_runOf N z (x + 70) k) (k := 0) (e := 1) (r := 0) hR ?_ rfl (by decide) ?_
    · unfold F_X5_runOf
      rw [hR.1.cv, k_reqKey, Option.bind_some, if_neg g]
      rfl
    · unfold F_X6_runOf
      rw [k_isKey, Option.bind_some, if_pos (k_xb0 g)]
      exact k_ask_n (B := fun f5 => (x_cv f5 6 (x + 70) (F_X6_runWith N f5 (x + 70) k)).bind fun z7 => some (z7, f5)) hR.2.1 (Or.inl rfl)
theorem k_isFoundA (hm : k_mo f (x + 70) V) (hs : k_ms (V.1 1) S c) (hN : 50000 ≤ N) {k : Int32} (g : 0 ≤ k.toInt ∧ k.toInt ≤ 9999) : k_ans x f V 0 (decide (k_val S k ≠ -1)) (F_X6_isFound N f (x + 70) k) := by
  unfold F_X6_isFound
  rw [k_isKey, Option.bind_some, if_neg (k_xb1 g)]
  exact k_ask_z (B := fun f5 => (x_cv f5 6 (x + 70) (F_X6_valueBy N f5 (x + 70) k)).bind fun z7 => if z7 = (-1) then some (false, f5) else some (true, f5)) hm hs (fun f5 V5 y1 y2 => by
    simp only [y1.cv, k_valueBy (N := N) (by omega) y1 y2, Option.bind_some]
    by_cases gv : k_val S k = -1
    · rw [if_pos gv, decide_eq_false (fun y => y gv)]
    · rw [if_neg gv, decide_eq_true gv])
theorem k_isFoundN (hm : k_mo f (x + 70) V) {k : Int32} (g : ¬ (0 ≤ k.toInt ∧ k.toInt ≤ 9999)) : k_ans x f V 1 false (F_X6_isFound N f (x + 70) k) := by
  unfold F_X6_isFound
  rw [k_isKey, Option.bind_some, if_pos (k_xb0 g)]
  exact k_ask_w (B := fun f5 => (x_cv f5 6 (x + 70) (F_X6_valueBy N f5 (x + 70) k)).bind fun z7 => if z7 = (-1) then some (false, f5) else some (true, f5)) hm (Or.inl rfl)
theorem k_ans.cvd {α : Type} {e : Int32} {v : α} {z : Option (α × XM)} (hm : k_mo f (x + 70) V) (h : k_ans x f V e v z) : k_ans x f V e v ((x_cv f 6 (x + 70) z).bind fun z1 => some (z1.1, z1.2)) := by
  obtain ⟨f2, V2, b1, b2⟩ := h
  exact ⟨f2, V2, by rw [hm.cv, b1]; rfl, b2⟩
theorem k_law17 (hN : 50000 ≤ N) (hL : L ≤ 1536) (h3 : 3 * t + 3 ≤ L) (hI : k_In x m o t h.1) : ∃ r, F_law_17 N L xs x m o (nI (3 * t)) h = some r ∧ k_In x m o (t + 1) r := by
  obtain ⟨rfl, rfl, n, q, St, S, bf, len, V, c, hR⟩ := hI
  have s1 : x_sld L xs (nI (3 * t) + 1) = some (xs (3 * t + 1)) := k_sld (j := 1) h3 hL (by omega)
  have hms := hR.2.2.2.1.2.2.2.1
  unfold F_law_17
  simp only [s1, Option.bind_some]
  generalize xs (3 * t + 1) = k
  by_cases g : 0 ≤ k.toInt ∧ k.toInt ≤ 9999
  · refine k_lawOKB (zX := x_cv h.1 5 x (F_X5_isFoundByTree N h.1 x k)) (M := fun z => F_X6_isFoundByTree N z (x + 70) k) (v := decide (k_val S k ≠ -1)) hR ?_ (fun f1 hm => (k_isFoundA hm hms hN g).cvd hm)
    · unfold F_X5_isFoundByTree
      rw [hR.1.cv, k_reqKey, Option.bind_some, if_pos g]
      simp only [x_se, hR.1.now, Option.bind_some, hR.1.st.cv, k_standingValue (N := N) (by omega) hR.1.st hms.1 k]
      by_cases gv : k_val S k = -1
      · rw [if_pos gv, decide_eq_false (fun y => y gv)]
      · rw [if_neg gv, decide_eq_true gv]
  · refine k_lawNOB (zX := x_cv h.1 5 x (F_X5_isFoundByTree N h.1 x k)) (M := fun z => F_X6_isFoundByTree N z (x + 70) k) (k := 0) (e := 1) (r := false) hR ?_ rfl (by decide) ((k_isFoundN hR.2.1 g).cvd hR.2.1)
    unfold F_X5_isFoundByTree
    rw [hR.1.cv, k_reqKey, Option.bind_some, if_neg g]
    rfl
theorem k_law18 (hN : 50000 ≤ N) (hL : L ≤ 1536) (h3 : 3 * t + 3 ≤ L) (hI : k_In x m o t h.1) : ∃ r, F_law_18 N L xs x m o (nI (3 * t)) h = some r ∧ k_In x m o (t + 1) r := by
  obtain ⟨rfl, rfl, n, q, St, S, bf, len, V, c, hR⟩ := hI
  have s1 : x_sld L xs (nI (3 * t) + 1) = some (xs (3 * t + 1)) := k_sld (j := 1) h3 hL (by omega)
  have hms := hR.2.2.2.1.2.2.2.1
  unfold F_law_18
  simp only [s1, Option.bind_some]
  generalize xs (3 * t + 1) = k
  by_cases g : 0 ≤ k.toInt ∧ k.toInt ≤ 9999
  · refine k_lawOKB (zX := x_cv h.1 5 x (F_X5_isFoundByGoing N h.1 x k)) (M := fun z => F_X6_isFoundByGoing N z (x + 70) k) (v := decide (k_val S k ≠ -1)) hR ?_ (fun f1 hm => (k_isFoundA hm hms hN g).cvd hm)
    · unfold F_X5_isFoundByGoing
      rw [hR.1.cv, k_reqKey, Option.bind_some, if_pos g]
      simp only [x_se, hR.1.now, Option.bind_some, hR.1.st.cv, k_standsByGoing (N := N) (by omega) hR.1.st hms.1 k]
  · refine k_lawNOB (zX := x_cv h.1 5 x (F_X5_isFoundByGoing N h.1 x k)) (M := fun z => F_X6_isFoundByGoing N z (x + 70) k) (k := 0) (e := 1) (r := false) hR ?_ rfl (by decide) ((k_isFoundN hR.2.1 g).cvd hR.2.1)
    unfold F_X5_isFoundByGoing
    rw [hR.1.cv, k_reqKey, Option.bind_some, if_neg g]
    rfl
end KAP
