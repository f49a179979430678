/-! Share and mean. -/
section KSH2
variable {wz : Nat}
variable {N L : Nat} {xs : Nat → Int32} {x m o t : Nat} {h : XH}
theorem k_shr_self {T : KT} (hw : k_wt T) : FP.dcmp (k_shr T) (k_shr T) = some .eq := by
  have h1 := k_cnt_le (fun i => decide (0 < T.2.1 i)) T.1.1
  have h2 := hw.2.2.1
  exact k_ds_self (by omega) (by omega)
theorem k_men_self {S : KS} (hw : k_ws S) (hA : k_okA S) : FP.dcmp (k_men S) (k_men S) = some .eq := by
  have h2 := hA.2
  exact k_ds_self (k_pgs_le hw hA) (by omega)
end KSH2

