/-! Checks by counting, and what follows from them. -/
def k_srtb (n : Nat) (g : Nat → Int32) : Bool := k_alb (fun i => decide (0 ≤ (g i).toInt ∧ (g i).toInt < 10000) && (decide (i = 0) || decide ((g (i - 1)).toInt < (g i).toInt))) n
theorem k_srtb_sp {n : Nat} {g : Nat → Int32} (h : k_srtb n g = true) : k_srt n g := by
  have h1 : ∀ i, i < n → (0 ≤ (g i).toInt ∧ (g i).toInt < 10000) ∧ (i = 0 ∨ (g (i - 1)).toInt < (g i).toInt) := fun i hi => by
    have := k_alb_sp h i hi
    rw [Bool.and_eq_true, Bool.or_eq_true] at this
    exact ⟨of_decide_eq_true this.1, this.2.imp of_decide_eq_true of_decide_eq_true⟩
  have h2 : ∀ d i, i + d + 1 < n → (g i).toInt < (g (i + d + 1)).toInt := by
    intro d
    induction d with
    | zero =>
      intro i hi
      rcases (h1 (i + 1) (by omega)).2 with z | z
      · omega
      · exact z
    | succ d ih =>
      intro i hi
      have a := ih i (by omega)
      rcases (h1 (i + (d + 1) + 1) (by omega)).2 with z | z
      · omega
      · have e : i + (d + 1) + 1 - 1 = i + d + 1 := by omega
        rw [e] at z
        omega
  refine ⟨fun i j hij hj => ?_, fun i hi => (h1 i hi).1⟩
  have := h2 (j - i - 1) i (by omega)
  rw [show i + (j - i - 1) + 1 = j by omega] at this
  exact this
def k_memb (R : KR) (k v : Int32) : Bool := decide (k_pl R.1 R.2.1 k < R.1) && decide (R.2.2 (k_pl R.1 R.2.1 k) = v)
theorem k_memb_sp {R : KR} {k v : Int32} (h : k_memb R k v = true) : k_mem R k v := by
  rw [k_memb, Bool.and_eq_true] at h
  have h1 := of_decide_eq_true h.1
  exact ⟨_, h1, k_pl_at h1, of_decide_eq_true h.2⟩
/-- two rows merged -/
def k_mgdb (O Y M : KR) : Bool := k_srtb M.1 M.2.1 && (k_alb (fun i => k_memb Y (M.2.1 i) (M.2.2 i) || (k_memb O (M.2.1 i) (M.2.2 i) && !k_tl Y (M.2.1 i))) M.1 && (k_alb (fun i => k_memb M (Y.2.1 i) (Y.2.2 i)) Y.1 && k_alb (fun i => k_tl Y (O.2.1 i) || k_memb M (O.2.1 i) (O.2.2 i)) O.1))
theorem k_mgdb_sp {O Y M : KR} (h : k_mgdb O Y M = true) : k_mgd O Y M := by
  rw [k_mgdb, Bool.and_eq_true, Bool.and_eq_true, Bool.and_eq_true] at h
  obtain ⟨h1, h2, h3, h4⟩ := h
  refine ⟨k_srtb_sp h1, fun k v => ⟨fun y => ?_, fun y => ?_⟩⟩
  · obtain ⟨i, hi, rfl, rfl⟩ := y
    have := k_alb_sp h2 i hi
    rw [Bool.or_eq_true, Bool.and_eq_true] at this
    rcases this with z | ⟨z, w⟩
    · exact Or.inl (k_memb_sp z)
    · exact Or.inr ⟨k_memb_sp z, k_tl_no.mp (by cases hh : k_tl Y (M.2.1 i) with | false => rfl | true => rw [hh] at w; cases w)⟩
  · rcases y with ⟨i, hi, rfl, rfl⟩ | ⟨⟨i, hi, rfl, rfl⟩, z⟩
    · exact k_memb_sp (k_alb_sp h3 i hi)
    · have := k_alb_sp h4 i hi
      rw [Bool.or_eq_true] at this
      rcases this with w | w
      · rw [k_tl_no.mpr z] at w; cases w
      · exact k_memb_sp w
/-- what is found -/
def k_fndb (S : KS) (Q : KR) : Bool := k_srtb Q.1 Q.2.1 && (k_alb (fun i => decide (k_val S (Q.2.1 i) = Q.2.2 i) && decide (Q.2.2 i ≠ -1)) Q.1 && (k_alb (fun r => k_alb (fun i => decide (k_val S ((S.2.1 r).2.1 i) = -1) || k_memb Q ((S.2.1 r).2.1 i) (k_val S ((S.2.1 r).2.1 i))) (S.2.1 r).1) (S.1 + 1) && k_alb (fun i => decide (k_val S (S.2.2.1.1.2.1 i) = -1) || k_memb Q (S.2.2.1.1.2.1 i) (k_val S (S.2.2.1.1.2.1 i))) S.2.2.1.1.1))
theorem k_fndb_sp {S : KS} {Q : KR} (h : k_fndb S Q = true) : k_fnd S Q := by
  rw [k_fndb, Bool.and_eq_true, Bool.and_eq_true, Bool.and_eq_true] at h
  obtain ⟨h1, h2, h3, h4⟩ := h
  refine ⟨k_srtb_sp h1, fun k v => ⟨fun y => ?_, fun y => ?_⟩⟩
  · obtain ⟨i, hi, rfl, rfl⟩ := y
    have := k_alb_sp h2 i hi
    rw [Bool.and_eq_true] at this
    exact ⟨of_decide_eq_true this.1, of_decide_eq_true this.2⟩
  · obtain ⟨rfl, y2⟩ := y
    by_cases z : k_run S k ≤ S.1
    · have ht := k_run_yes z
      obtain ⟨i, hi, e⟩ := k_pl_iff.mp (of_decide_eq_true ht)
      have := k_alb_sp (k_alb_sp h3 (k_run S k) (by omega)) i hi
      rw [e, Bool.or_eq_true] at this
      rcases this with w | w
      · exact absurd (of_decide_eq_true w) y2
      · exact k_memb_sp w
    · have hv : k_val S k = if k_pl S.2.2.1.1.1 S.2.2.1.1.2.1 k < S.2.2.1.1.1 then S.2.2.1.1.2.2 (k_pl S.2.2.1.1.1 S.2.2.1.1.2.1 k) else -1 := by
        unfold k_val
        rw [if_neg z]
      by_cases w : k_pl S.2.2.1.1.1 S.2.2.1.1.2.1 k < S.2.2.1.1.1
      · obtain ⟨i, hi, e⟩ := k_pl_iff.mp w
        have := k_alb_sp h4 i hi
        rw [e, Bool.or_eq_true] at this
        rcases this with u | u
        · exact absurd (of_decide_eq_true u) y2
        · exact k_memb_sp u
      · rw [if_neg w] at hv
        exact absurd hv y2
theorem k_all_of {S : KS} {Q : KR} (h : k_fnd S Q) : k_rq2 (k_all S) Q := by
  have e : k_fnd S (k_all S) := @Classical.epsilon_spec KR (fun Q => k_fnd S Q) ⟨Q, h⟩
  exact k_fnd_uniq e h
/-! asks of what is found, told by such a row -/
def qq_nx (Q : KR) (k : Int32) : KA := if 0 ≤ k.toInt ∧ k.toInt ≤ 9999 then (if k_rk Q.1 Q.2.1 (k + 1) < Q.1 then .inl (Q.2.1 (k_rk Q.1 Q.2.1 (k + 1))) else .inr 1) else .inr 0
def qq_kb (Q : KR) (k : Int32) : KA := if 0 ≤ k.toInt ∧ k.toInt ≤ 9999 then (if k_rk Q.1 Q.2.1 k = 0 then .inr 1 else .inl (Q.2.1 (k_rk Q.1 Q.2.1 k - 1))) else .inr 0
def qq_cn (Q : KR) (lo hi : Int32) : KA := if (0 ≤ lo.toInt ∧ lo.toInt ≤ 9999) ∧ lo.toInt ≤ hi.toInt ∧ hi.toInt ≤ 9999 then .inl (nI (k_btw Q.1 Q.2.1 lo hi)) else .inr 0
def qq_ka (Q : KR) (p : Int32) : KA := if 0 ≤ p.toInt ∧ p.toInt < Q.1 then .inl (Q.2.1 (k_u p)) else .inr 2
def qq_lb (S : KS) (Q : KR) (p : Int32) : KA := if 50 ≤ p.toInt ∧ p.toInt ≤ 100 then .inl (nI (k_ru Q.1 (k_each S.2.2.2.1 (k_u p)))) else .inr 0
def qq_ll (S : KS) (Q : KR) (p : Int32) : KA := if 50 ≤ p.toInt ∧ p.toInt ≤ 100 then .inl (nI (k_lv (k_u S.2.2.2.2.1) 32 (k_ru Q.1 (k_each S.2.2.2.1 (k_u p))))) else .inr 0
section KQQ
variable {S : KS} {Q : KR}
theorem k_rk_q {R R' : KR} (e : k_rq2 R R') (k : Int32) : k_rk R.1 R.2.1 k = k_rk R'.1 R'.2.1 k := by
  rw [← e.1]
  exact k_rk_cong (fun i hi => (e.2 i hi).1)
theorem qq_nx_of (h : k_fnd S Q) (k : Int32) : qa_nx S k = qq_nx Q k := by
  have e := k_all_of h
  unfold qa_nx qq_nx
  rw [k_rk_q e, e.1]
  by_cases g : 0 ≤ k.toInt ∧ k.toInt ≤ 9999
  · rw [if_pos g, if_pos g]
    by_cases z : k_rk Q.1 Q.2.1 (k + 1) < Q.1
    · rw [if_pos z, if_pos z, (e.2 _ (by rw [e.1]; exact z)).1]
    · rw [if_neg z, if_neg z]
  · rw [if_neg g, if_neg g]
theorem qq_kb_of (h : k_fnd S Q) (k : Int32) : qa_kb S k = qq_kb Q k := by
  have e := k_all_of h
  have hl := k_rk_le Q.1 Q.2.1 k
  unfold qa_kb qq_kb
  rw [k_rk_q e]
  by_cases g : 0 ≤ k.toInt ∧ k.toInt ≤ 9999
  · rw [if_pos g, if_pos g]
    by_cases z : k_rk Q.1 Q.2.1 k = 0
    · rw [if_pos z, if_pos z]
    · rw [if_neg z, if_neg z, (e.2 _ (by rw [e.1]; omega)).1]
  · rw [if_neg g, if_neg g]
theorem qq_cn_of (h : k_fnd S Q) (lo hi : Int32) : qa_cn S lo hi = qq_cn Q lo hi := by
  have e := k_all_of h
  unfold qa_cn qq_cn k_btw
  rw [e.1, k_cnt_cong (q := fun i => decide (lo.toInt ≤ (Q.2.1 i).toInt ∧ (Q.2.1 i).toInt ≤ hi.toInt)) (fun i hi => by rw [(e.2 i (by rw [e.1]; exact hi)).1])]
theorem qq_ka_of (h : k_fnd S Q) (p : Int32) : qa_ka S p = qq_ka Q p := by
  have e := k_all_of h
  unfold qa_ka qq_ka
  rw [e.1]
  by_cases g : 0 ≤ p.toInt ∧ p.toInt < Q.1
  · rw [if_pos g, if_pos g]
    have : k_u p < (k_all S).1 := by rw [e.1]; unfold k_u; omega
    rw [(e.2 _ this).1]
  · rw [if_neg g, if_neg g]
theorem qq_lb_of (h : k_fnd S Q) (p : Int32) : qa_lb S p = qq_lb S Q p := by
  unfold qa_lb qq_lb k_lvb
  rw [(k_all_of h).1]
theorem qq_ll_of (h : k_fnd S Q) (p : Int32) : qa_ll S p = qq_ll S Q p := by
  unfold qa_ll qq_ll k_llb k_lvb
  rw [(k_all_of h).1]
theorem qq_fd_of (h : k_fnd S Q) : (k_all S).1 = Q.1 := (k_all_of h).1
theorem k_mxp_cg {p q : Nat → Nat} : ∀ {n : Nat}, (∀ i, i < n → p i = q i) → k_mxp p n = k_mxp q n
  | 0, _ => rfl
  | n + 1, h => by rw [k_mxp, k_mxp, k_mxp_cg (fun i hi => h i (by omega)), h n (by omega)]
theorem qq_ws_of (h : k_fnd S Q) : k_wst S = k_mxp (fun i => k_pg S (Q.2.1 i)) Q.1 := by
  have e := k_all_of h
  unfold k_wst
  rw [e.1]
  exact k_mxp_cg (fun i hi => by rw [(e.2 i (by rw [e.1]; exact hi)).1])
theorem qq_mn_of (h : k_fnd S Q) : k_men S = k_ds (k_sum (fun i => k_pg S (Q.2.1 i)) Q.1) Q.1 := by
  have e := k_all_of h
  unfold k_men k_pgs
  rw [e.1, k_sum_cong (q := fun i => k_pg S (Q.2.1 i)) (fun i hi => by rw [(e.2 i (by rw [e.1]; exact hi)).1])]
end KQQ
/-! merging and building, told by rows -/
theorem k_ac3_of {S S' : KS} {M : KR} {a b : Int32} (h1 : k_mgdb (S.2.1 S.1) (S.2.1 (S.1 - 1)) M = true) (h2 : 2 ≤ S.1 ∧ M.1 ≤ 60) (h3 : k_eqb (k_smg S M) S' = true) : (k_ac 3 S a b).1 = .inl (nI M.1) ∧ k_eq2 (k_ac 3 S a b).2 S' := by
  obtain ⟨n1, n2, n3⟩ := k_mrg_of (k_mgdb_sp h1)
  have e2 : k_eq2 (k_smg S (k_mrg (S.2.1 S.1) (S.2.1 (S.1 - 1)))) (k_smg S M) := by
    refine ⟨rfl, fun r hr => ?_, k_tq.rf, rfl⟩
    show k_rq2 (if r = S.1 - 1 then k_mrg (S.2.1 S.1) (S.2.1 (S.1 - 1)) else S.2.1 r) (if r = S.1 - 1 then M else S.2.1 r)
    by_cases z : r = S.1 - 1
    · rw [if_pos z, if_pos z]; exact ⟨n2.symm, fun i hi => ⟨(n3 i (by omega)).1.symm, (n3 i (by omega)).2.symm⟩⟩
    · rw [if_neg z, if_neg z]; exact k_rq2.rf
  refine ⟨?_, e2.tr (k_eqb_sp h3)⟩
  show k_an (k_ex2 (decide (2 ≤ S.1 ∧ (k_mrg (S.2.1 S.1) (S.2.1 (S.1 - 1))).1 ≤ 60))) (nI (k_mrg (S.2.1 S.1) (S.2.1 (S.1 - 1))).1) = _
  rw [← n2, decide_eq_true (show 2 ≤ S.1 ∧ M.1 ≤ 60 from h2)]
  rfl
theorem k_ac3_no {S : KS} {M : KR} {a b : Int32} (h1 : k_mgdb (S.2.1 S.1) (S.2.1 (S.1 - 1)) M = true) (h2 : 60 < M.1) : (k_ac 3 S a b).1 = .inr 1 := by
  obtain ⟨n1, n2, n3⟩ := k_mrg_of (k_mgdb_sp h1)
  show k_an (k_ex2 (decide (2 ≤ S.1 ∧ (k_mrg (S.2.1 S.1) (S.2.1 (S.1 - 1))).1 ≤ 60))) (nI (k_mrg (S.2.1 S.1) (S.2.1 (S.1 - 1))).1) = _
  rw [← n2, decide_eq_false (show ¬ (2 ≤ S.1 ∧ M.1 ≤ 60) by omega)]
  rfl
theorem k_ac4_of {S S' : KS} {Q : KR} {a b : Int32} (h1 : k_fnd S Q) (h2 : (50 ≤ a.toInt ∧ a.toInt ≤ 100) ∧ Q.1 ≤ 160) (h3 : k_eqb (k_sbl S Q (k_u a)) S' = true) (hw : k_ws S) : (k_ac 4 S a b).1 = .inl (nI (k_ru Q.1 (k_each S.2.2.2.1 (k_u a)))) ∧ k_eq2 (k_ac 4 S a b).2 S' := by
  have e := k_all_of h1
  have hp : k_u a ≤ 100 := by unfold k_u; omega
  have e2 : k_eq2 (k_sbl S (k_all S) (k_u a)) (k_sbl S Q (k_u a)) := by
    have hea := k_each_r hw hp
    refine ⟨rfl, fun r hr => k_rq2.rf, ⟨e, fun _ _ => rfl, ?_, fun i hi => ?_, rfl⟩, ?_⟩
    · show k_ru (k_all S).1 _ = k_ru Q.1 _
      rw [e.1]
    · have hi' : i < k_ru (k_all S).1 (k_each S.2.2.2.1 (k_u a)) := hi
      show (if i = 0 then 0 else (k_all S).2.1 (k_each S.2.2.2.1 (k_u a) * i)) = if i = 0 then 0 else Q.2.1 (k_each S.2.2.2.1 (k_u a) * i)
      rw [(e.2 _ (k_ru_lt hea.1 hi')).1]
    · show (S.2.2.2.1, S.2.2.2.2.1, S.2.2.2.2.2.1 + 1, S.2.2.2.2.2.2 + nI (k_all S).1) = _
      rw [e.1]
      rfl
  refine ⟨?_, e2.tr (k_eqb_sp h3)⟩
  show k_an (k_ex3 (decide _) (decide _)) _ = _
  rw [e.1, decide_eq_true h2.1, decide_eq_true h2.2]
  rfl
theorem k_ac4_no {S : KS} {Q : KR} {a b : Int32} (h1 : k_fnd S Q) (h2 : (50 ≤ a.toInt ∧ a.toInt ≤ 100) ∧ 160 < Q.1) : (k_ac 4 S a b).1 = .inr 1 := by
  have e := k_all_of h1
  show k_an (k_ex3 (decide _) (decide _)) _ = _
  rw [e.1, decide_eq_true h2.1, decide_eq_false (show ¬ Q.1 ≤ 160 by omega)]
  rfl
