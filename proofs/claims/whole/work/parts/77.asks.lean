/-! Calls that ask. -/
section KAS
variable {N L : Nat} {xs : Nat → Int32} {x m o t : Nat} {h : XH} {f : XM} {n len : Nat} {q : Nat → Option Nat} {St : Nat → KS} {S : KS} {bf : Nat → Int32} {V : KM} {c : Nat}
theorem k_Rl.fin {f' : XM} {V' : KM} (hR : k_Rl x t f n q St S bf len V c) (hf : k_fr f f' (x + 70) (x + 70 + 10)) (hm : k_mo f' (x + 70) V') (hx : k_mx V V' [5, 6, 7, 9] [8, 11, 12, 14]) : k_In x (x + 70) (x + 80) (t + 1) f' :=
  k_qry hR (fun a ha => hf a (by omega)) (hR.1.gat.ext (fun a y1 y2 => hf a (by omega))) hm hx (hR.2.2.1.ext (hf _ (by omega)))
theorem k_Rl.gth (hN : 5000 ≤ N) (hR : k_Rl x t f n q St S bf len V c) : ∃ (f1 : XM) (r : Nat), F_X0_gather N f (x + 63) (x + 1) = some (some r, f1) ∧ k_row f1 r 532 (k_all S) ∧ k_okA S ∧ k_Rl x t f1 n q St S bf len V c := by
  obtain ⟨r1, r2, r3, r4, r5⟩ := hR
  obtain ⟨f1, r, Q, b1, b2, b3, b4, b5, b6, b7⟩ := k_gather (N := N) hN r1.st r4.2.2.2.1.1 r1.gat (Or.inr (by omega))
  obtain ⟨w1, w2⟩ := k_rowA b2 b7
  exact ⟨f1, r, b1, w1, w2, r1.setnow (k_fr2.ofg b6 (Nat.le_refl _) (by omega)) (r1.st.fr b6 (by omega)) b5, r2.ext (fun a y1 y2 => b6 a (by omega)), r3.ext (b6 _ (by omega)), r4, r5⟩
theorem k_Rl.put (hR : k_Rl x t f n q St S bf len V c) (v : Int64) : ∃ f1, x_astl f (x + 80) 0 v = some f1 ∧ k_Rl x t f1 n q St S bf len V c ∧ x_aldl f1 (x + 80) 0 = some v := by
  obtain ⟨r1, r2, r3, r4, r5⟩ := hR
  obtain ⟨f1, b1, b2, b3, b4⟩ := r3.st v
  exact ⟨f1, b1, ⟨r1.frm b2 (by omega) (by omega), r2.ext (fun a y1 y2 => b2 a (by omega)), b3, r4, r5⟩, b4⟩
/-- what was thrown is set down -/
theorem k_Rl.thr (hR : k_Rl x t f n q St S bf len V c) (e : Int32) : ∃ f2, x_puti f 6 (x + 70) 11 e = some f2 ∧ k_mo f2 (x + 70) (k_sI V 11 e) ∧ k_fr f f2 (x + 70) (x + 70 + 10) ∧ x_geti f2 6 (x + 70) 11 = some e ∧ k_ms ((k_sI V 11 e).1 1) S c ∧ k_mx V (k_sI V 11 e) [5, 6, 7, 9] [8, 11, 12, 14] := by
  obtain ⟨f2, c1, c2, c3⟩ := hR.2.1.pi (i := 11) (by omega) e
  have h11 : (k_sI V 11 e).2 11 = e := k_sI_s
  refine ⟨f2, c1, c2, c3, ?_, hR.2.2.2.1.2.2.2.1, k_sI_mx (by simp)⟩
  rw [c2.i11, h11]
theorem k_lawQ {M : XM → Option (Int32 × XM)} {zL : Option (Int32 × XM)} {e r : Int32} {f1 f2 : XM} {V2 : KM} (hR : k_Rl x t f1 n q St S bf len V c) (h1 : zL = some (e, f1)) (h0 : e = 0 → x_aldl f1 (x + 80) 0 = some r.toInt64) (h2 : M f1 = some (r, f2)) (hm2 : k_mo f2 (x + 70) V2) (hf : k_fr f1 f2 (x + 70) (x + 70 + 10)) (hx : k_mx V V2 [5, 6, 7, 9] [8, 11, 12, 14]) (h11 : V2.2 11 = e) :
    ∃ r, (zL.bind fun z3 => (x_cv z3.2 6 (x + 70) (M z3.2)).bind fun z6 => (x_cv z6.2 6 (x + 70) (F_X6_thrown N z6.2 (x + 70))).bind fun z7 => if z7 = z3.1 then if z3.1 = 0 then (x_aldl z6.2 (x + 80) 0).bind fun v8 => if (lg_cmp v8 ((z6.1 : Int32).toInt64)) = 0 then some z6.2 else none else some z6.2 else none) = some r ∧ k_In x (x + 70) (x + 80) (t + 1) r :=
  ⟨f2, k_lawT h1 hR.2.1 h2 hm2 h11 (fun z => by rw [k_aldl_c (hf _ (by omega))]; exact h0 z), hR.fin hf hm2 hx⟩
theorem k_lawB {M : XM → Option (Bool × XM)} {zL : Option (Int32 × XM)} {e : Int32} {b : Bool} {f1 f2 : XM} {V2 : KM} (hR : k_Rl x t f1 n q St S bf len V c) (h1 : zL = some (e, f1)) (h0 : e = 0 → x_aldl f1 (x + 80) 0 = some (if b then 1 else 0)) (h2 : M f1 = some (b, f2)) (hm2 : k_mo f2 (x + 70) V2) (hf : k_fr f1 f2 (x + 70) (x + 70 + 10)) (hx : k_mx V V2 [5, 6, 7, 9] [8, 11, 12, 14]) (h11 : V2.2 11 = e) :
    ∃ r, (zL.bind fun z3 => (x_cv z3.2 6 (x + 70) (M z3.2)).bind fun z6 => (x_cv z6.2 6 (x + 70) (F_X6_thrown N z6.2 (x + 70))).bind fun z7 => if z7 = z3.1 then if z3.1 = 0 then (x_aldl z6.2 (x + 80) 0).bind fun v8 => if (x_b z6.1) = 0 then if (lg_cmp v8 (0 : Int64)) = 0 then some z6.2 else none else if (lg_cmp v8 (1 : Int64)) = 0 then some z6.2 else none else some z6.2 else none) = some r ∧ k_In x (x + 70) (x + 80) (t + 1) r := by
  refine ⟨f2, ?_, hR.fin hf hm2 hx⟩
  rw [h1]
  simp only [Option.bind_some, hR.2.1.cv, h2, hm2.cv, F_X6_thrown, hm2.i11, h11]
  rw [if_pos trivial]
  by_cases z : e = 0
  · rw [if_pos z, k_aldl_c (hf _ (by omega)), h0 z, Option.bind_some]
    cases b with
    | true => rfl
    | false => rfl
  · rw [if_neg z]
/-- numbers asked without an argument -/
theorem k_law27 (hI : k_In x m o t h.1) : ∃ r, F_law_27 N L xs x m o (nI (3 * t)) h = some r ∧ k_In x m o (t + 1) r := by
  obtain ⟨rfl, rfl, n, q, St, S, bf, len, V, c, hR⟩ := hI
  obtain ⟨f2, c1, c2, c3, c4, c5, c6⟩ := hR.thr 0
  refine ⟨f2, ?_, hR.fin c3 c2 c6⟩
  simp only [F_law_27, hR.1.cv, F_X5_runs, hR.1.now, hR.1.st.cc, Option.bind_some, hR.2.1.cv, F_X6_runs, c1, c2.r0, k_l6 c2 c5]
  rw [if_pos trivial]
theorem k_law32 (hI : k_In x m o t h.1) : ∃ r, F_law_32 N L xs x m o (nI (3 * t)) h = some r ∧ k_In x m o (t + 1) r := by
  obtain ⟨rfl, rfl, n, q, St, S, bf, len, V, c, hR⟩ := hI
  obtain ⟨f2, c1, c2, c3, c4, c5, c6⟩ := hR.thr 0
  refine ⟨f2, ?_, hR.fin c3 c2 c6⟩
  simp only [F_law_32, hR.1.cv, F_X5_entries, hR.1.now, hR.1.st.tr, hR.1.st.tree.r, hR.1.st.tree.row.n, Option.bind_some, hR.2.1.cv, F_X6_entries, c1, c2.r0, k_l7 c2 c5]
  rw [if_pos trivial]
theorem k_law33 (hI : k_In x m o t h.1) : ∃ r, F_law_33 N L xs x m o (nI (3 * t)) h = some r ∧ k_In x m o (t + 1) r := by
  obtain ⟨rfl, rfl, n, q, St, S, bf, len, V, c, hR⟩ := hI
  obtain ⟨f2, c1, c2, c3, c4, c5, c6⟩ := hR.thr 0
  refine ⟨f2, ?_, hR.fin c3 c2 c6⟩
  simp only [F_law_33, hR.1.cv, F_X5_leaves, hR.1.now, hR.1.st.tr, hR.1.st.tree.l, Option.bind_some, hR.2.1.cv, F_X6_leaves, c1, c2.r0, k_l8 c2 c5]
  rw [if_pos trivial]
theorem k_law38 (hN : 50000 ≤ N) (hI : k_In x m o t h.1) : ∃ r, F_law_38 N L xs x m o (nI (3 * t)) h = some r ∧ k_In x m o (t + 1) r := by
  obtain ⟨rfl, rfl, n, q, St, S, bf, len, V, c, hR⟩ := hI
  obtain ⟨f2, c1, c2, c3, c4, c5, c6⟩ := hR.thr 0
  refine ⟨f2, ?_, hR.fin c3 c2 c6⟩
  simp only [F_law_38, hR.1.cv, F_X5_levels, hR.1.now, hR.1.st.tr, hR.1.st.tree.cv, k_levelCount (N := N) (by omega) hR.1.st.tree c5.wt, Option.bind_some, hR.2.1.cv, F_X6_levels, c1, c2.cv, k_mallLevels (N := N) (by omega) c2 c5]
  rw [if_pos trivial]
theorem k_law43 (hI : k_In x m o t h.1) : ∃ r, F_law_43 N L xs x m o (nI (3 * t)) h = some r ∧ k_In x m o (t + 1) r := by
  obtain ⟨rfl, rfl, n, q, St, S, bf, len, V, c, hR⟩ := hI
  obtain ⟨f2, c1, c2, c3, c4, c5, c6⟩ := hR.thr 0
  have g4 : x_ald f2 (x + 70 + 1) 4 = some S.2.2.2.2.2.1 := by rw [← c5.2.2.1.2.2.1]; exact k_ld1 c2 (i := 4) (by omega)
  refine ⟨f2, ?_, hR.fin c3 c2 c6⟩
  simp only [F_law_43, hR.1.cv, F_X5_builds, hR.1.now, hR.1.st.bc, Option.bind_some, hR.2.1.cv, F_X6_builds, c1, c2.r0, g4]
  rw [if_pos trivial]
theorem k_law44 (hI : k_In x m o t h.1) : ∃ r, F_law_44 N L xs x m o (nI (3 * t)) h = some r ∧ k_In x m o (t + 1) r := by
  obtain ⟨rfl, rfl, n, q, St, S, bf, len, V, c, hR⟩ := hI
  obtain ⟨f2, c1, c2, c3, c4, c5, c6⟩ := hR.thr 0
  have g4 : x_ald f2 (x + 70 + 1) 5 = some S.2.2.2.2.2.2 := by rw [← c5.2.2.1.2.2.2.1]; exact k_ld1 c2 (i := 5) (by omega)
  refine ⟨f2, ?_, hR.fin c3 c2 c6⟩
  simp only [F_law_44, hR.1.cv, F_X5_written, hR.1.now, hR.1.st.wc, Option.bind_some, hR.2.1.cv, F_X6_written, c1, c2.r0, g4]
  rw [if_pos trivial]
theorem k_law45 (hN : 50000 ≤ N) (hI : k_In x m o t h.1) : ∃ r, F_law_45 N L xs x m o (nI (3 * t)) h = some r ∧ k_In x m o (t + 1) r := by
  obtain ⟨rfl, rfl, n, q, St, S, bf, len, V, c, hR⟩ := hI
  obtain ⟨f2, c1, c2, c3, c4, c5, c6⟩ := hR.thr 0
  refine ⟨f2, ?_, hR.fin c3 c2 c6⟩
  simp only [F_law_45, hR.1.cv, F_X5_told, hR.1.now, hR.1.st.cv, k_toldCount (N := N) (by omega) hR.1.st, Option.bind_some, hR.2.1.cv, F_X6_told, c1, c2.cv, k_mallTold (N := N) (by omega) c2 c5]
  rw [if_pos trivial]
theorem k_law25 (hN : 50000 ≤ N) (hI : k_In x m o t h.1) : ∃ r, F_law_25 N L xs x m o (nI (3 * t)) h = some r ∧ k_In x m o (t + 1) r := by
  obtain ⟨rfl, rfl, n, q, St, S, bf, len, V, c, hR⟩ := hI
  obtain ⟨f1, r, b1, b2, hA, hR1⟩ := hR.gth (N := N) (by omega)
  obtain ⟨f2, c1, c2, c3, c4, c5, c6⟩ := hR1.thr 0
  obtain ⟨f3, V3, d1, d2, d3, d4, -, -⟩ := k_finds (N := N) (by omega) hA c2 c5
  refine ⟨f3, ?_, hR1.fin (c3.tr d4) d2 (c6.tr (d3.wd (by simp) (by simp)))⟩
  simp only [F_law_25, hR.1.cv, F_X5_found, hR.1.gth, hR.1.now, hR.1.gcv, b1, b2.n, Option.bind_some, hR1.2.1.cv, F_X6_found, c1, c2.cv, d1]
  rw [if_pos trivial]
theorem k_law48 (hN : 50000 ≤ N) (hI : k_In x m o t h.1) : ∃ r, F_law_48 N L xs x m o (nI (3 * t)) h = some r ∧ k_In x m o (t + 1) r := by
  obtain ⟨rfl, rfl, n, q, St, S, bf, len, V, c, hR⟩ := hI
  obtain ⟨f1, r, b1, b2, hA, hR1⟩ := hR.gth (N := N) (by omega)
  obtain ⟨f2, c1, c2, c3, c4, c5, c6⟩ := hR1.thr 0
  obtain ⟨f3, V3, d1, d2, d3, d4⟩ := k_mworst (N := N) (by omega) c2 c5 hA
  have hm : F_X5_mostPagesOf N f1 x r = some (nI (k_wst S)) := by
    have := k_mostPages (N := N) (by omega) hR1.1.now hR1.1.st c5.1 hA b2 (k_all S).1 N 0 (by omega) (by have := hA.2; omega)
    exact this
  refine ⟨f3, ?_, hR1.fin (c3.tr d4) d2 (c6.tr (d3.wd (by simp) (by simp)))⟩
  simp only [F_law_48, hR.1.cv, F_X5_worstPages, hR.1.gth, hR.1.now, hR.1.gcv, b1, hR1.1.cv, hm, Option.bind_some, hR1.2.1.cv, F_X6_worstPages, c1, c2.cv, d1]
  rw [if_pos trivial]
theorem k_law19 (hN : 50000 ≤ N) (hL : L ≤ 1536) (h3 : 3 * t + 3 ≤ L) (hI : k_In x m o t h.1) : ∃ r, F_law_19 N L xs x m o (nI (3 * t)) h = some r ∧ k_In x m o (t + 1) r := by
  obtain ⟨rfl, rfl, n, q, St, S, bf, len, V, c, hR⟩ := hI
  have s1 : x_sld L xs (nI (3 * t) + 1) = some (xs (3 * t + 1)) := k_sld (j := 1) h3 hL (by omega)
  have hms := hR.2.2.2.1.2.2.2.1
  unfold F_law_19
  simp only [s1, Option.bind_some]
  generalize xs (3 * t + 1) = k
  by_cases g : 0 ≤ k.toInt ∧ k.toInt ≤ 9999
  · have hv := k_standingValue (N := N) (by omega) hR.1.st hms.1 k
    by_cases gv : k_val S k = -1
    · obtain ⟨f2, c1, c2, c3, c4, c5, c6⟩ := hR.thr 2
      refine k_lawQ (M := fun z => F_X6_valueOf N z (x + 70) k) (r := 0) (f2 := f2) hR (e := 2) ?_ (fun z => absurd z (by decide)) ?_ c2 c3 c6 k_sI_s
      · unfold F_L_valueOf F_X5_valueOf
        rw [hR.1.cv, k_reqKey, Option.bind_some, if_pos g]
        simp only [x_se, hR.1.now, Option.bind_some, hR.1.st.cv, hv]
        rw [if_pos gv]
        rfl
      · unfold F_X6_valueOf
        rw [k_isKey, Option.bind_some, if_neg (k_xb1 g), hR.2.1.cv, k_valueBy (by omega) hR.2.1 hms, Option.bind_some, if_pos gv]
        simp only [c1, c4, Option.bind_some]
        rw [if_neg (by decide)]
    · obtain ⟨f1, a1, a2, a3⟩ := hR.put (k_val S k).toInt64
      obtain ⟨f2, c1, c2, c3, c4, c5, c6⟩ := a2.thr 0
      refine k_lawQ (M := fun z => F_X6_valueOf N z (x + 70) k) (r := k_val S k) (f1 := f1) (f2 := f2) a2 (e := 0) ?_ (fun _ => a3) ?_ c2 c3 c6 k_sI_s
      · unfold F_L_valueOf F_X5_valueOf
        rw [hR.1.cv, k_reqKey, Option.bind_some, if_pos g]
        simp only [x_se, hR.1.now, Option.bind_some, hR.1.st.cv, hv]
        rw [if_neg gv]
        simp only [Option.bind_some, a1]
      · unfold F_X6_valueOf
        rw [k_isKey, Option.bind_some, if_neg (k_xb1 g), a2.2.1.cv, k_valueBy (by omega) a2.2.1 hms, Option.bind_some, if_neg gv]
        simp only [c1, c4, Option.bind_some]
        rw [if_pos (by decide), c2.cv, k_valueBy (by omega) c2 c5, Option.bind_some]
  · obtain ⟨f2, c1, c2, c3, c4, c5, c6⟩ := hR.thr 1
    refine k_lawQ (M := fun z => F_X6_valueOf N z (x + 70) k) (r := 0) (f2 := f2) hR (e := 1) ?_ (fun z => absurd z (by decide)) ?_ c2 c3 c6 k_sI_s
    · unfold F_L_valueOf F_X5_valueOf
      rw [hR.1.cv, k_reqKey, Option.bind_some, if_neg g]
      rfl
    · unfold F_X6_valueOf
      rw [k_isKey, Option.bind_some, if_pos (k_xb0 g)]
      simp only [c1, c4, Option.bind_some]
      rw [if_neg (by decide)]
theorem k_law20 (hN : 50000 ≤ N) (hL : L ≤ 1536) (h3 : 3 * t + 3 ≤ L) (hI : k_In x m o t h.1) : ∃ r, F_law_20 N L xs x m o (nI (3 * t)) h = some r ∧ k_In x m o (t + 1) r := by
  obtain ⟨rfl, rfl, n, q, St, S, bf, len, V, c, hR⟩ := hI
  have s1 : x_sld L xs (nI (3 * t) + 1) = some (xs (3 * t + 1)) := k_sld (j := 1) h3 hL (by omega)
  have hms := hR.2.2.2.1.2.2.2.1
  unfold F_law_20
  simp only [s1, Option.bind_some]
  generalize xs (3 * t + 1) = k
  by_cases g : 0 ≤ k.toInt ∧ k.toInt ≤ 9999
  · have hv := k_pagesRead (N := N) (by omega) hR.1.st hms.1 g.1
    obtain ⟨f1, a1, a2, a3⟩ := hR.put (nI (k_pg S k)).toInt64
    obtain ⟨f2, c1, c2, c3, c4, c5, c6⟩ := a2.thr 0
    refine k_lawQ (M := fun z => F_X6_pagesFor N z (x + 70) k) (r := nI (k_pg S k)) (f1 := f1) (f2 := f2) a2 (e := 0) ?_ (fun _ => a3) ?_ c2 c3 c6 k_sI_s
    · unfold F_L_pagesFor F_X5_pagesFor
      rw [hR.1.cv, k_reqKey, Option.bind_some, if_pos g]
      simp only [x_se, hR.1.now, Option.bind_some, hR.1.st.cv, hv, a1]
    · unfold F_X6_pagesFor
      rw [k_isKey, Option.bind_some, if_neg (k_xb1 g)]
      simp only [c1, c4, Option.bind_some]
      rw [if_pos (by decide), c2.cv, k_mpages (by omega) c2 c5 g.1, Option.bind_some]
  · obtain ⟨f2, c1, c2, c3, c4, c5, c6⟩ := hR.thr 1
    refine k_lawQ (M := fun z => F_X6_pagesFor N z (x + 70) k) (r := 0) (f2 := f2) hR (e := 1) ?_ (fun z => absurd z (by decide)) ?_ c2 c3 c6 k_sI_s
    · unfold F_L_pagesFor F_X5_pagesFor
      rw [hR.1.cv, k_reqKey, Option.bind_some, if_neg g]
      rfl
    · unfold F_X6_pagesFor
      rw [k_isKey, Option.bind_some, if_pos (k_xb0 g)]
      simp only [c1, c4, Option.bind_some]
      rw [if_neg (by decide)]
end KAS
