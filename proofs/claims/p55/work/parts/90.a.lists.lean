/-! States as lists of numbers. -/
abbrev QRow : Type := List (Nat × Nat)
abbrev QT : Type := List (Nat × Nat × Nat) × List Nat × Nat × Nat
abbrev QS : Type := List QRow × QT × Nat × Nat × Nat × Nat
def k_or (l : QRow) : KR := (l.length, fun i => nI (l.getD i (0, 0)).1, fun i => if (l.getD i (0, 0)).2 = 0 then -1 else nI ((l.getD i (0, 0)).2 - 1))
def k_ot (t : QT) : KT := ((t.1.length, fun i => nI (t.1.getD i (0, 0, 0)).1, fun i => nI (t.1.getD i (0, 0, 0)).2.1), fun i => nI (t.1.getD i (0, 0, 0)).2.2, t.2.1.length, fun i => nI (t.2.1.getD i 0), nI t.2.2.1, nI t.2.2.2)
def k_of (s : QS) : KS := (s.1.length - 1, fun r => k_or (s.1.getD r []), k_ot s.2.1, nI s.2.2.1, nI s.2.2.2.1, nI s.2.2.2.2.1, nI s.2.2.2.2.2)
def k_e0s : QS := ([[]], ([], [], 0, 0), 4, 3, 0, 0)
theorem k_of0 : k_eq2 k_S0 (k_of k_e0s) := by
  unfold k_eq2 k_rq2 k_tq k_rq2
  decide +kernel
def k_lx (k : Nat) : QS := ([[]], ((List.range 72).map (fun i => (i, 1, 0)) ++ (List.range k).map (fun i => (100 + i, i, i + 1)) ++ [(9999, 99, 0)], (List.range 18).map (fun i => 4 * i) ++ [9999], 4, 3), 8, 3, 1, 73)
def k_ck5 (S : KS) (a b v : Int32) (S' : KS) : Prop := k_cin S a = true ∧ (k_twr (k_tfx S) a b).1 = v ∧ k_eq2 (k_stt S (k_twr (k_tfx S) a b).2) S'
theorem k_tst : ∀ k, k < 4 → k_ck5 (k_of (k_lx k)) (nI (100 + k)) (nI k) 2 (k_of (k_lx (k + 1))) := by
  unfold k_ck5 k_eq2 k_rq2 k_tq k_rq2
  decide +kernel
