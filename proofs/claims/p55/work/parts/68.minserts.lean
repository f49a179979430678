/-! The reference: an entry written, wherever it belongs. -/
theorem k_cnt_pos {p : Nat → Bool} : ∀ {n : Nat}, 0 < k_cnt p n → ∃ i, i < n ∧ p i = true
  | 0, h => absurd h (Nat.lt_irrefl _)
  | n + 1, h => by
    cases z : p n with
    | true => exact ⟨n, Nat.lt_succ_self _, z⟩
    | false =>
      rw [k_cnt_n z] at h
      obtain ⟨i, h1, h2⟩ := k_cnt_pos h
      exact ⟨i, by omega, h2⟩
theorem k_lf_mono {T : KT} {a b : Int32} (h : a.toInt ≤ b.toInt) : k_lf T a ≤ k_lf T b := by
  rcases Nat.lt_or_ge (k_lf T b) (k_lf T a) with z | z
  · have h1 := of_decide_eq_false (k_fst_no (fun i => decide (a.toInt < (T.2.2.2.1 i).toInt)) T.2.2.1 (k_lf T b) z)
    have hle := k_lf_le T a
    have h2 := of_decide_eq_true (k_fst_yes (fun i => decide (b.toInt < (T.2.2.2.1 i).toInt)) T.2.2.1 (by unfold k_lf at z hle; omega))
    unfold k_lf at h1
    omega
  · exact z
section KML
variable {wz : Nat}
variable {N : Nat} {f : XM} {m c : Nat} {S : KS}
theorem k_tfx_n {S : KS} (h : S.2.2.1.2.2.2.2.1 ≠ 0) : k_tfx S = S.2.2.1 := if_neg h
end KML

