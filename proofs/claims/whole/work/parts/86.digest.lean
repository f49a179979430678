/-! The digest: the law. -/
section KDL
variable {N L : Nat} {xs : Nat → Int32} {x m o t : Nat} {h : XH} {f : XM} {n len : Nat} {q : Nat → Option Nat} {St : Nat → KS} {S : KS} {bf : Nat → Int32} {V : KM} {c : Nat}
theorem k_mdigest (hN : 50000 ≤ N) (hR : k_Rl x t f n q St S bf len V c) (hA : k_okA S) : ∃ (f' : XM) (V' : KM), F_X6_digest N f (x + 70) = some (k_hall S n (q 7).isSome (q 8).isSome bf len, f') ∧ k_mo f' (x + 70) V' ∧ k_fr f f' (x + 70) (x + 70 + 10) ∧ k_mx V V' [5, 6, 7, 9] [8, 11, 12, 14] := by
  obtain ⟨f1, c1, c2, c3, c4, c5, c6⟩ := hR.thr 0
  have hlen := hR.1.2.1
  have hn6 := hR.1.1
  have hlt := hA.2
  have hn160 := c5.wt.2.2.1
  have hcn := k_cnt_le (fun i => decide (0 < S.2.2.1.2.1 i)) S.2.2.1.1.1
  obtain ⟨p1, p2, p3, p4, p5, p6⟩ := hR.2.2.2.1
  obtain ⟨f2, V2, d1, d2, d3, d4⟩ := k_mkeysIn (N := N) (by omega) c2 c5 hA (k_hnodes S.2.2.1 (k_hleaves S.2.2.1 (k_hruns S 4391)))
  have s2 : k_ms (V2.1 1) S c := by rw [d3.1 1 (by simp)]; exact c5
  have g4 : x_ald f2 (x + 70 + 1) 4 = some S.2.2.2.2.2.1 := by rw [← s2.2.2.1.2.2.1]; exact k_ld1 d2 (i := 4) (by omega)
  have g5 : x_ald f2 (x + 70 + 1) 5 = some S.2.2.2.2.2.2 := by rw [← s2.2.2.1.2.2.2.1]; exact k_ld1 d2 (i := 5) (by omega)
  obtain ⟨f3, V3, e1, e2, e3, e4⟩ := k_mworst (N := N) (by omega) d2 s2 hA
  have s3 : k_ms (V3.1 1) S c := by rw [e3.1 1 (by simp)]; exact s2
  obtain ⟨f4, V4, i1, i2, i3, i4⟩ := k_m76 (N := N) (m := x + 70) hN hA e2 s3 (k_mix (k_mix (k_mix (k_mix (k_hcnt S (k_hkeys S (k_hnodes S.2.2.1 (k_hleaves S.2.2.1 (k_hruns S 4391))))) S.2.2.2.2.2.1.toInt64) S.2.2.2.2.2.2.toInt64) (nI (k_told S)).toInt64) (nI (k_wst S)).toInt64) (K := fun y1_21 y3_21 g21 =>
  (x_geti g21 6 (x + 70) 2).bind fun v22 =>
  (x_cv g21 6 (x + 70) (F_X6_share N g21 (x + 70))).bind fun z23 =>
  (F_Jxe99ae_doubleToLongBits_ccdee N g21 z23).bind fun z24 =>
  (x_cv g21 6 (x + 70) (F_X6_mean N g21 (x + 70))).bind fun z25 =>
  (F_Jxe99ae_doubleToLongBits_ccdee N z25.2 z25.1).bind fun z26 =>
  (x_getr z25.2 6 (x + 70) 4).bind fun v27 =>
  Option.bind v27 fun a28 =>
  (x_ald z25.2 a28 0).bind fun v29 =>
  (x_getr z25.2 6 (x + 70) 4).bind fun v30 =>
  Option.bind v30 fun a31 =>
  (x_ald z25.2 a31 1).bind fun v32 =>
  (x_geti z25.2 6 (x + 70) 10).bind fun v33 =>
  F_X6_digest_L200 N z25.2 (x + 70) (fun y1_39 y3_39 =>
  some (y1_39, z25.2)) N (((31 : Int64) * (((31 : Int64) * (((31 : Int64) * (((31 : Int64) * (((31 : Int64) * (((31 : Int64) * y1_21) + (v22 : Int32).toInt64)) + z24)) + z26)) + (v29 : Int32).toInt64)) + (v32 : Int32).toInt64)) + (v33 : Int32).toInt64) 0)
  have s4 : k_ms (V4.1 1) S c := by rw [i3.1 1 (by simp)]; exact s3
  obtain ⟨f5, V5, j1, j2, j3, j4⟩ := k_mmean (N := N) (by omega) i2 s4 hA
  have mx4 : k_mx V V4 [5, 6, 7, 9] [8, 11, 12, 14] := ((c6.tr (d3.wd (by simp) (by simp))).tr (e3.wd (by simp) (by simp))).tr (i3.wd (by simp) (by simp))
  have mx5 : k_mx V V5 [5, 6, 7, 9] [8, 11, 12, 14] := mx4.tr (j3.wd (by simp) (by simp))
  have n4 : V4.2 2 = nI n := (mx4.2 2 (by simp)).trans p1
  have kf : ∀ i, i < 2 → (V5.1 4 i).toInt64 = if (q (i + 7)).isSome = true then 1 else 0 := fun i hi => by
    rw [mx5.1 4 (by simp)]
    rcases p6 i hi with ⟨y1, y2⟩ | ⟨⟨p, y1⟩, y2, -⟩
    · rw [y1, y2]; exact k_i32_0
    · rw [y1, y2]; exact k_i32_1
  have q0 : x_ald f5 (x + 70 + 4) 0 = some (V5.1 4 0) := j2.ld (a := 4) (i := 0) (by omega) (by omega) (by show _ < 2; omega)
  have q1 : x_ald f5 (x + 70 + 4) 1 = some (V5.1 4 1) := j2.ld (a := 4) (i := 1) (by omega) (by omega) (by show _ < 2; omega)
  have l10 : V5.2 10 = nI len := (mx5.2 10 (by simp)).trans p2
  have dl1 : F_Jxe99ae_doubleToLongBits_ccdee N f4 (k_shr S.2.2.1) = some (k_shr S.2.2.1).toInt64 := k_dlb (by omega) (by omega)
  have dl2 : F_Jxe99ae_doubleToLongBits_ccdee N f5 (k_men S) = some (k_men S).toInt64 := k_dlb (k_pgs_le c5.1 hA) (by omega)
  refine ⟨f5, V5, ?_, j2, (((c3.tr d4).tr e4).tr i4).tr j4, mx5⟩
  unfold F_X6_digest
  simp only [c1, c2.cv, k_mrunsIn (N := N) (by omega) c2 c5, k_mleavesIn (N := N) (by omega) c2 c5, k_mnodesIn (N := N) (by omega) c2 c5, d1, d2.r0, g4, g5, d2.cv, k_mallTold (N := N) (by omega) d2 s2, e1, Option.bind_some]
  refine i1.trans ?_
  simp only [i2.i2, n4, i2.cv, k_mshare (N := N) (by omega) i2 s4, dl1, j1, dl2, j2.r4, q0, q1, j2.i10, l10, Option.bind_some]
  have lp := k_mtx_loop (N := N) (bf := bf) j2 hlen l10 (fun i hi => by rw [mx5.1 8 (by simp)]; exact p3 i hi) (k_mix (k_mix (k_mix (k_hacc S n (k_hcnt S (k_hkeys S (k_hnodes S.2.2.1 (k_hleaves S.2.2.1 (k_hruns S 4391)))))) (V5.1 4 0).toInt64) (V5.1 4 1).toInt64) (nI len).toInt64) (K := fun y1_39 y3_39 => some (y1_39, f5)) len N 0 (by omega) (by omega)
  refine Eq.trans (b := F_X6_digest_L200 N f5 (x + 70) (fun y1_39 y3_39 => some (y1_39, f5)) N (k_hf (fun i h => k_mix h (bf i).toInt64) 0 (k_mix (k_mix (k_mix (k_hacc S n (k_hcnt S (k_hkeys S (k_hnodes S.2.2.1 (k_hleaves S.2.2.1 (k_hruns S 4391)))))) (V5.1 4 0).toInt64) (V5.1 4 1).toInt64) (nI len).toInt64)) (nI 0)) rfl (lp.trans ?_)
  rw [kf 0 (by omega), kf 1 (by omega)]
  rfl
theorem k_law51 (hN : 50000 ≤ N) (hI : k_In x m o t h.1) : ∃ r, F_law_51 N L xs x m o (nI (3 * t)) h = some r ∧ k_In x m o (t + 1) r := by
  obtain ⟨rfl, rfl, n, q, St, S, bf, len, V, c, hR⟩ := hI
  obtain ⟨f1, r, b1, b2, hA, hR1⟩ := hR.gth (N := N) (by omega)
  have hw := hR.2.2.2.1.2.2.2.1.1
  obtain ⟨f2, V2, d1, d2, d3, d4⟩ := k_mdigest hN hR1 hA
  have hcl : F_X5_digest N h.1 x = some (k_hall S n (q 7).isSome (q 8).isSome bf len, f1) := by
    unfold F_X5_digest
    simp only [hR.1.gth, hR.1.now, hR.1.gcv, b1, Option.bind_some, hR1.1.cv, k_hashOfRuns hR1.1.now hR1.1.st (show 5000 ≤ N by omega), k_hashOfLeaves (show 5000 ≤ N by omega) hR1.1.now hR1.1.st hw.2.2.2.2.1, k_hashOfNodes (show 5000 ≤ N by omega) hR1.1.now hR1.1.st hw.2.2.2.2.1, k_hashOfFound (show 5000 ≤ N by omega) hR1.1.now hR1.1.st hw hA b2, k_hashOfCounts (show 5000 ≤ N by omega) hR1.1.now hR1.1.st hw hA b2, k_hashOfAccounts (show 5000 ≤ N by omega) hR1.1.now hR1.1.cnt (fun {β} {o} => hR1.1.cv) hR1.1.st hw hA b2, k_htexts hN hR1.1]
    rfl
  refine ⟨f2, ?_, hR1.fin d3 d2 d4⟩
  simp only [F_law_51, hR.1.cv, hcl, Option.bind_some, hR1.2.1.cv, d1]
  rw [if_pos (by unfold lg_cmp; simp)]
end KDL
