/-! The reference: all keys that are found. -/
def k_any (S : KS) (y : Int32) : Prop := (∃ r, r ≤ S.1 ∧ k_tl (S.2.1 r) y = true) ∨ k_pl S.2.2.1.1.1 S.2.2.1.1.2.1 y < S.2.2.1.1.1
def k_nxp (S : KS) (k : Int32) (P : Int32 → Prop) (z : Int32) : Prop := (∀ y, P y → k.toInt < y.toInt → z.toInt ≤ y.toInt) ∧ (z = 10000 ∨ (k_any S z ∧ k.toInt < z.toInt)) ∧ z.toInt ≤ 10000
theorem k_any_r {S : KS} (hw : k_ws S) {y : Int32} (h : k_any S y) : 0 ≤ y.toInt ∧ y.toInt < 10000 := by
  rcases h with ⟨r, hr, h⟩ | h
  · obtain ⟨i, hi, e⟩ := k_pl_iff.mp (of_decide_eq_true h)
    rw [← e]; exact (hw.2.1 r hr).2 i hi
  · obtain ⟨i, hi, e⟩ := k_pl_iff.mp h
    rw [← e]; exact hw.2.2.2.2.1.1.2 i hi
theorem k_val_any {S : KS} {y : Int32} (h : k_val S y ≠ -1) : k_any S y := by
  unfold k_val at h
  by_cases g : k_run S y ≤ S.1
  · exact Or.inl ⟨_, g, k_run_yes g⟩
  · rw [if_neg g] at h
    by_cases g2 : k_pl S.2.2.1.1.1 S.2.2.1.1.2.1 y < S.2.2.1.1.1
    · exact Or.inr g2
    · rw [if_neg g2] at h
      exact absurd rfl h
/-- one more key is looked at -/
theorem k_nxp_step {S : KS} {k z y : Int32} {P : Int32 → Prop} (h : k_nxp S k P z) (hy : k_any S y) (hr : y.toInt < 10000) : k_nxp S k (fun w => P w ∨ w = y) (if y ≤ k then z else if z ≤ y then z else y) := by
  obtain ⟨h1, h2, h3⟩ := h
  by_cases g1 : y ≤ k
  · rw [if_pos g1]
    refine ⟨fun w hw hk => ?_, h2, h3⟩
    rcases hw with hw | rfl
    · exact h1 w hw hk
    · rw [k_i_le] at g1; omega
  · rw [if_neg g1]
    rw [k_i_le] at g1
    by_cases g2 : z ≤ y
    · rw [if_pos g2]
      refine ⟨fun w hw hk => ?_, h2, h3⟩
      rcases hw with hw | rfl
      · exact h1 w hw hk
      · rw [k_i_le] at g2; exact g2
    · rw [if_neg g2]
      rw [k_i_le] at g2
      refine ⟨fun w hw hk => ?_, Or.inr ⟨hy, by omega⟩, by omega⟩
      rcases hw with hw | rfl
      · have := h1 w hw hk; omega
      · exact Int.le_refl _
theorem k_nxp_cong {S : KS} {k z : Int32} {P P' : Int32 → Prop} (h : k_nxp S k P z) (e : ∀ w, P' w → P w) : k_nxp S k P' z := ⟨fun w hw hk => h.1 w (e w hw) hk, h.2⟩
section KFD
variable {wz : Nat}
variable {N : Nat} {f : XM} {m c : Nat} {S : KS}
/-! all that is found, as one row -/
noncomputable def k_all (S : KS) : KR := @Classical.epsilon KR ⟨k_R0⟩ (fun Q => k_fnd S Q)
/-- there is such a row, and it isn't long -/
def k_okA (S : KS) : Prop := k_fnd S (k_all S) ∧ (k_all S).1 ≤ 532
theorem k_fnd_uniq {S : KS} {Q R : KR} (hQ : k_fnd S Q) (hR : k_fnd S R) : Q.1 = R.1 ∧ ∀ i, i < Q.1 → Q.2.1 i = R.2.1 i ∧ Q.2.2 i = R.2.2 i := by
  have key : ∀ {A B : KR}, k_fnd S A → k_fnd S B → ∀ x, (∃ i, i < A.1 ∧ A.2.1 i = x) → (∃ i, i < B.1 ∧ B.2.1 i = x) := fun hA hB x ⟨i, hi, e⟩ => by
    obtain ⟨j, hj, e1, -⟩ := (hB.2 x _).mpr ((hA.2 x (_ : Int32)).mp ⟨i, hi, e, rfl⟩)
    exact ⟨j, hj, e1⟩
  obtain ⟨e1, e2⟩ := k_srt_uniq hQ.1 hR.1 (fun x => ⟨key hQ hR x, key hR hQ x⟩)
  refine ⟨e1, fun i hi => ⟨e2 i hi, ?_⟩⟩
  have a := ((hQ.2 _ _).mp ⟨i, hi, rfl, rfl⟩).1
  have b := ((hR.2 _ _).mp ⟨i, by omega, rfl, rfl⟩).1
  rw [← e2 i hi] at b
  exact a.symm.trans b
theorem k_okA_of {S : KS} {Q : KR} (h : k_fnd S Q) (hn : Q.1 ≤ 532) : k_okA S := by
  have := @Classical.epsilon_spec KR (fun Q => k_fnd S Q) ⟨Q, h⟩
  have e : k_fnd S (k_all S) := this
  exact ⟨e, by rw [← (k_fnd_uniq h e).1]; exact hn⟩
theorem k_all_v {S : KS} (h : k_fnd S (k_all S)) {i : Nat} (hi : i < (k_all S).1) : k_val S ((k_all S).2.1 i) = (k_all S).2.2 i ∧ (k_all S).2.2 i ≠ -1 := (h.2 _ _).mp ⟨i, hi, rfl, rfl⟩
end KFD

