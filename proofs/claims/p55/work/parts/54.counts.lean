/-! Counting by runs and leaves is counting what is found. -/
theorem k_sum_0 : ∀ (M : Nat), k_sum (fun _ => 0) M = 0
  | 0 => rfl
  | M + 1 => by rw [k_sum, k_sum_0 M]
theorem k_sum_add (p q : Nat → Nat) : ∀ (M : Nat), k_sum (fun r => p r + q r) M = k_sum p M + k_sum q M
  | 0 => rfl
  | M + 1 => by
    rw [k_sum, k_sum, k_sum, k_sum_add p q M]
    omega
theorem k_sum_one {M a : Nat} (h : a < M) : k_sum (fun r => if a = r then 1 else 0) M = 1 := by
  induction M with
  | zero => omega
  | succ M ih =>
    rw [k_sum]
    by_cases e : a = M
    · subst e
      rw [if_pos rfl, k_sum_cong (q := fun _ => 0) (fun i hi => if_neg (by omega)), k_sum_0]
    · rw [if_neg e, ih (by omega)]
theorem k_cnt_split {p : Nat → Bool} {g : Nat → Nat} {M : Nat} : ∀ {n : Nat}, (∀ i, i < n → p i = true → g i < M) → k_cnt p n = k_sum (fun r => k_cnt (fun i => p i && decide (g i = r)) n) M
  | 0, _ => (k_sum_0 M).symm
  | n + 1, h => by
    have ih := k_cnt_split (p := p) (g := g) (M := M) (n := n) (fun i hi => h i (by omega))
    have e : ∀ r, k_cnt (fun i => p i && decide (g i = r)) (n + 1) = k_cnt (fun i => p i && decide (g i = r)) n + (if p n = true then (if g n = r then 1 else 0) else 0) := fun r => by
      rw [k_cnt]
      congr 1
      by_cases z : p n = true
      · rw [if_pos z, z]
        by_cases y : g n = r
        · rw [if_pos y, decide_eq_true y]; rfl
        · rw [if_neg y, decide_eq_false y]; rfl
      · rw [if_neg z]
        rw [Bool.not_eq_true] at z
        rw [z]; rfl
    rw [k_sum_cong (fun r _ => e r), k_sum_add, ← ih, k_cnt]
    congr 1
    by_cases z : p n = true
    · simp only [if_pos z]
      rw [k_sum_one (h n (by omega) z)]
    · simp only [if_neg z]
      rw [k_sum_0]
theorem k_cst_eq {S : KS} (hw : k_ws S) (hA : k_okA S) (lo hi : Int32) : k_cst S lo hi = k_btw (k_all S).1 (k_all S).2.1 lo hi := by
  unfold k_cst k_btw
  rw [k_cnt_split (g := fun i => k_run S ((k_all S).2.1 i)) (M := S.1 + 2) (fun i _ _ => by have := k_run_le S ((k_all S).2.1 i); omega)]
  show k_sum (fun r => k_cown S r lo hi) (S.1 + 1) + _ = k_sum (fun r => k_cnt _ _) (S.1 + 1) + k_cnt _ _
  refine congr (congrArg HAdd.hAdd ?_) ?_
  · refine k_sum_cong (fun r hr => ?_)
    unfold k_cown
    refine k_cnt_eqv (a := (S.2.1 r).2.1) (b := (k_all S).2.1) (k_srt_dn (hw.2.1 r (by omega))) (k_srt_dn hA.1.1) (fun j hj hq => ?_) (fun i hi hq => ?_)
    · rw [Bool.and_eq_true, Bool.and_eq_true, decide_eq_true_eq, decide_eq_true_eq, decide_eq_true_eq] at hq
      obtain ⟨h1, h2, h3⟩ := hq
      have hp := k_pl_eq (hw.2.1 r (by omega)) hj
      have hv : k_val S ((S.2.1 r).2.1 j) = (S.2.1 r).2.2 j := by
        unfold k_val
        rw [if_pos (by omega), h3, hp]
      obtain ⟨i, hi, e1, -⟩ := (hA.1.2 ((S.2.1 r).2.1 j) ((S.2.1 r).2.2 j)).mpr ⟨hv, h2⟩
      exact ⟨i, hi, by rw [e1, decide_eq_true h1, decide_eq_true h3]; rfl, e1⟩
    · rw [Bool.and_eq_true, decide_eq_true_eq, decide_eq_true_eq] at hq
      obtain ⟨h1, h3⟩ := hq
      obtain ⟨v1, v2⟩ := k_all_v hA.1 hi
      have ht := k_run_yes (S := S) (k := (k_all S).2.1 i) (by omega)
      rw [h3] at ht
      have hpl := of_decide_eq_true ht
      refine ⟨k_pl (S.2.1 r).1 (S.2.1 r).2.1 ((k_all S).2.1 i), hpl, ?_, k_pl_at hpl⟩
      rw [k_pl_at hpl, decide_eq_true h1, decide_eq_true h3]
      have : (S.2.1 r).2.2 (k_pl (S.2.1 r).1 (S.2.1 r).2.1 ((k_all S).2.1 i)) ≠ -1 := by
        unfold k_val at v1
        rw [if_pos (by omega), h3] at v1
        rw [v1]; exact v2
      rw [decide_eq_true this]; rfl
  · unfold k_ctree
    refine k_cnt_eqv (a := S.2.2.1.1.2.1) (b := (k_all S).2.1) (k_srt_dn hw.2.2.2.2.1.1) (k_srt_dn hA.1.1) (fun j hj hq => ?_) (fun i hi hq => ?_)
    · rw [Bool.and_eq_true, decide_eq_true_eq, decide_eq_true_eq] at hq
      obtain ⟨h1, h3⟩ := hq
      have hp := k_pl_eq hw.2.2.2.2.1.1 hj
      have hv : k_val S (S.2.2.1.1.2.1 j) = S.2.2.1.1.2.2 j := by
        unfold k_val
        rw [if_neg (by omega), hp, if_pos hj]
      obtain ⟨i, hi, e1, -⟩ := (hA.1.2 _ _).mpr ⟨hv, hw.2.2.2.2.1.2.2.2.2.2.2.1 j hj⟩
      exact ⟨i, hi, by rw [e1, decide_eq_true h1, decide_eq_true h3]; rfl, e1⟩
    · rw [Bool.and_eq_true, decide_eq_true_eq, decide_eq_true_eq] at hq
      obtain ⟨h1, h3⟩ := hq
      obtain ⟨v1, v2⟩ := k_all_v hA.1 hi
      have hpl : k_pl S.2.2.1.1.1 S.2.2.1.1.2.1 ((k_all S).2.1 i) < S.2.2.1.1.1 := by
        unfold k_val at v1
        rw [if_neg (by omega)] at v1
        by_cases g : k_pl S.2.2.1.1.1 S.2.2.1.1.2.1 ((k_all S).2.1 i) < S.2.2.1.1.1
        · exact g
        · rw [if_neg g] at v1
          exact absurd v1.symm v2
      refine ⟨_, hpl, ?_, k_pl_at hpl⟩
      rw [k_pl_at hpl, decide_eq_true h1, decide_eq_true h3]; rfl

