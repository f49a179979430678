/-! The digest of the class: accounts. -/
section KHD
variable {wz : Nat}
variable {N : Nat} {f : XM} {b : Nat} {S : KS} {T : KT}
theorem k_hashOfAccounts {x n p : Nat} (hN : 5000 ≤ N) (hx : x_getr f 5 x 0 = some (some b)) (hn : x_geti f 5 x 3 = some (nI n)) (hcv : ∀ {β : Type} {o : Option β}, x_cv f 5 x o = o) (h : k_st f b S) (hw : k_ws S) (hA : k_okA S) (hr : k_row f p 532 (k_all S)) (h0 : Int64) : F_X5_hashOfAccounts N f x h0 p = some (k_hacc S n h0) := by
  have hl := hr.le
  have hcn := k_cnt_le (fun i => decide (0 < S.2.2.1.2.1 i)) S.2.2.1.1.1
  have htn := h.tree.row.le
  have m1 : F_X5_mostPagesOf N f x p = some (nI (k_wst S)) := k_mostPages hN hx h hw hA hr (k_all S).1 N 0 (by omega) (by omega)
  have m2 : F_X5_meanPagesOf N f x p = some (k_men S) := k_meanPages hN hx h hw hA hr (k_all S).1 N 0 (by omega) (by omega)
  have l1 : F_X3_leavesOutOf N f b (nI (k_all S).1) 50 = some (nI (k_lvb S 50)) := k_leavesOutOf h hw (p := 50) (by omega) (by omega)
  have l2 : F_X3_levelsOutOf N f b (nI (k_all S).1) 50 = some (nI (k_llb S 50)) := k_levelsOutOf (by omega) h hw (p := 50) (by omega) (by omega)
  have l3 : F_X3_leavesOutOf N f b (nI (k_all S).1) 100 = some (nI (k_lvb S 100)) := k_leavesOutOf h hw (p := 100) (by omega) (by omega)
  have l4 : F_X3_levelsOutOf N f b (nI (k_all S).1) 100 = some (nI (k_llb S 100)) := k_levelsOutOf (by omega) h hw (p := 100) (by omega) (by omega)
  have b1 : F_X5_bitsOf N f (k_shr S.2.2.1) = some (k_shr S.2.2.1).toInt64 := k_bits hN (by omega) (by omega)
  have b2 : F_X5_bitsOf N f (k_men S) = some (k_men S).toInt64 := k_bits hN (k_pgs_le hw hA) (by omega)
  simp only [F_X5_hashOfAccounts, hx, hn, hcv, h.bc, h.wc, h.cv, k_toldCount (show 1000 ≤ N by omega) h, m1, hr.n, l1, l2, l3, l4, h.tr, h.tree.cv, k_shareInOverflow (show 1000 ≤ N by omega) h.tree hw.2.2.2.2.1, b1, m2, b2, k_mixF, Option.bind_some]
  rfl
end KHD

