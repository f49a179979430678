/-! Share and mean. -/
section KSH2
variable {N L : Nat} {xs : Nat → Int32} {x m o t : Nat} {h : XH}
theorem k_shr_self {T : KT} (hw : k_wt T) : FP.dcmp (k_shr T) (k_shr T) = some .eq := by
  have h1 := k_cnt_le (fun i => decide (0 < T.2.1 i)) T.1.1
  have h2 := hw.2.2.1
  exact k_ds_self (by omega) (by omega)
theorem k_men_self {S : KS} (hw : k_ws S) (hA : k_okA S) : FP.dcmp (k_men S) (k_men S) = some .eq := by
  have h2 := hA.2
  exact k_ds_self (k_pgs_le hw hA) (by omega)
theorem k_law46 (hN : 50000 ≤ N) (hI : k_In x m o t h.1) : ∃ r, F_law_46 N L xs x m o (nI (3 * t)) h = some r ∧ k_In x m o (t + 1) r := by
  obtain ⟨rfl, rfl, n, q, St, S, bf, len, V, c, hR⟩ := hI
  obtain ⟨f2, c1, c2, c3, c4, c5, c6⟩ := hR.thr 0
  refine ⟨f2, ?_, hR.fin c3 c2 c6⟩
  simp only [F_law_46, hR.1.cv, F_X5_overflowShare, hR.1.now, hR.1.st.tr, hR.1.st.tree.cv, k_shareInOverflow (N := N) (by omega) hR.1.st.tree c5.wt, Option.bind_some, hR.2.1.cv, F_X6_overflowShare, c1, c2.cv, k_mshare (N := N) (by omega) c2 c5, k_shr_self c5.wt]
  rw [if_pos (by decide)]
theorem k_law47 (hN : 50000 ≤ N) (hI : k_In x m o t h.1) : ∃ r, F_law_47 N L xs x m o (nI (3 * t)) h = some r ∧ k_In x m o (t + 1) r := by
  obtain ⟨rfl, rfl, n, q, St, S, bf, len, V, c, hR⟩ := hI
  obtain ⟨f1, r, b1, b2, hA, hR1⟩ := hR.gth (N := N) (by omega)
  obtain ⟨f2, c1, c2, c3, c4, c5, c6⟩ := hR1.thr 0
  obtain ⟨f3, V3, d1, d2, d3, d4⟩ := k_mmean (N := N) (by omega) c2 c5 hA
  have hm : F_X5_meanPagesOf N f1 x r = some (k_men S) := by
    have := k_meanPages (N := N) (by omega) hR1.1.now hR1.1.st c5.1 hA b2 (k_all S).1 N 0 (by omega) (by have := hA.2; omega)
    exact this
  refine ⟨f3, ?_, hR1.fin (c3.tr d4) d2 (c6.tr (d3.wd (by simp) (by simp)))⟩
  simp only [F_law_47, hR.1.cv, F_X5_meanPages, hR.1.gth, hR.1.now, hR.1.gcv, b1, hR1.1.cv, hm, Option.bind_some, hR1.2.1.cv, F_X6_meanPages, c1, c2.cv, d1, k_men_self c5.1 hA]
  rw [if_pos (by decide)]
end KSH2
