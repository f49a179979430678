/-! The 87 entries that come to an overflow leaf: states by their number. -/
def k_lx (k : Nat) : QS := ([[]], ((List.range 72).map (fun i => (i, if i % 12 = 0 then 9 else i / 12, 0)) ++ (List.range k).map (fun i => (100 + i, i, i + 1)) ++ [(9999, 99, 0)], (List.range 18).map (fun i => 4 * i) ++ [9999], 4, 3), 8, 3, 1, 73)
def k_ck5 (S : KS) (a b v : Int32) (S' : KS) : Bool := decide ((0 ≤ a.toInt ∧ a.toInt ≤ 9999) ∧ 0 ≤ b.toInt ∧ b.toInt ≤ 99) && (k_cin S a && (decide ((k_twr (k_tfx S) a b).1 = v) && k_eqb (k_stt S (k_twr (k_tfx S) a b).2) S'))
theorem k_ck5_sp {S S' : KS} {a b v : Int32} (h : k_ck5 S a b v S' = true) : (k_ac 5 S a b).1 = .inl v ∧ k_eq2 (k_ac 5 S a b).2 S' := by
  rw [k_ck5, Bool.and_eq_true, Bool.and_eq_true, Bool.and_eq_true] at h
  obtain ⟨h1, h2, h3, h4⟩ := h
  refine ⟨?_, k_eqb_sp h4⟩
  show k_an (k_ex3 (decide _) (k_cin S a)) (k_twr (k_tfx S) a b).1 = _
  rw [h1, h2, of_decide_eq_true h3]
  rfl
theorem k_l87a : k_alb (fun k => k_ck5 (k_of (k_lx k)) (nI (100 + k)) (nI k) 2 (k_of (k_lx (k + 1)))) 87 = true := by decide +kernel
theorem k_l87 (k : Nat) (h : k < 87) : (k_ac 5 (k_of (k_lx k)) (nI (100 + k)) (nI k)).1 = .inl 2 ∧ k_eq2 (k_ac 5 (k_of (k_lx k)) (nI (100 + k)) (nI k)).2 (k_of (k_lx (k + 1))) := k_ck5_sp (k_alb_sp k_l87a k h)
