/-! States as lists of numbers. -/
abbrev QRow : Type := List (Nat × Nat)
abbrev QT : Type := List (Nat × Nat × Nat) × List Nat × Nat × Nat
abbrev QS : Type := List QRow × QT × Nat × Nat × Nat × Nat
def k_or (l : QRow) : KR := (l.length, fun i => nI (l.getD i (0, 0)).1, fun i => if (l.getD i (0, 0)).2 = 0 then -1 else nI ((l.getD i (0, 0)).2 - 1))
def k_ot (t : QT) : KT := ((t.1.length, fun i => nI (t.1.getD i (0, 0, 0)).1, fun i => nI (t.1.getD i (0, 0, 0)).2.1), fun i => nI (t.1.getD i (0, 0, 0)).2.2, t.2.1.length, fun i => nI (t.2.1.getD i 0), nI t.2.2.1, nI t.2.2.2)
def k_of (s : QS) : KS := (s.1.length - 1, fun r => k_or (s.1.getD r []), k_ot s.2.1, nI s.2.2.1, nI s.2.2.2.1, nI s.2.2.2.2.1, nI s.2.2.2.2.2)
/-- for all numbers below -/
def k_alb (p : Nat → Bool) : Nat → Bool
  | 0 => true
  | n + 1 => p n && k_alb p n
theorem k_alb_sp {p : Nat → Bool} : ∀ {n : Nat}, k_alb p n = true → ∀ i, i < n → p i = true
  | 0, _, i, hi => absurd hi (Nat.not_lt_zero _)
  | n + 1, h, i, hi => by
    rw [k_alb, Bool.and_eq_true] at h
    by_cases z : i = n
    · rw [z]; exact h.1
    · exact k_alb_sp h.2 i (by omega)
def k_rqb (R R' : KR) : Bool := decide (R.1 = R'.1) && k_alb (fun i => decide (R.2.1 i = R'.2.1 i) && decide (R.2.2 i = R'.2.2 i)) R.1
theorem k_rqb_sp {R R' : KR} (h : k_rqb R R' = true) : k_rq2 R R' := by
  rw [k_rqb, Bool.and_eq_true] at h
  refine ⟨of_decide_eq_true h.1, fun i hi => ?_⟩
  have := k_alb_sp h.2 i hi
  rw [Bool.and_eq_true] at this
  exact ⟨of_decide_eq_true this.1, of_decide_eq_true this.2⟩
def k_tqb (T T' : KT) : Bool := k_rqb T.1 T'.1 && (k_alb (fun i => decide (T.2.1 i = T'.2.1 i)) T.1.1 && (decide (T.2.2.1 = T'.2.2.1) && (k_alb (fun i => decide (T.2.2.2.1 i = T'.2.2.2.1 i)) T.2.2.1 && decide (T.2.2.2.2 = T'.2.2.2.2))))
theorem k_tqb_sp {T T' : KT} (h : k_tqb T T' = true) : k_tq T T' := by
  rw [k_tqb, Bool.and_eq_true, Bool.and_eq_true, Bool.and_eq_true, Bool.and_eq_true] at h
  obtain ⟨h1, h2, h3, h4, h5⟩ := h
  exact ⟨k_rqb_sp h1, fun i hi => of_decide_eq_true (k_alb_sp h2 i hi), of_decide_eq_true h3, fun i hi => of_decide_eq_true (k_alb_sp h4 i hi), of_decide_eq_true h5⟩
def k_eqb (S S' : KS) : Bool := decide (S.1 = S'.1) && (k_alb (fun r => k_rqb (S.2.1 r) (S'.2.1 r)) (S.1 + 1) && (k_tqb S.2.2.1 S'.2.2.1 && decide (S.2.2.2 = S'.2.2.2)))
theorem k_eqb_sp {S S' : KS} (h : k_eqb S S' = true) : k_eq2 S S' := by
  rw [k_eqb, Bool.and_eq_true, Bool.and_eq_true, Bool.and_eq_true] at h
  obtain ⟨h1, h2, h3, h4⟩ := h
  exact ⟨of_decide_eq_true h1, fun r hr => k_rqb_sp (k_alb_sp h2 r (by omega)), k_tqb_sp h3, of_decide_eq_true h4⟩
def k_e0s : QS := ([[]], ([], [], 0, 0), 4, 3, 0, 0)
theorem k_of0 : k_eq2 k_S0 (k_of k_e0s) := k_eqb_sp (by decide +kernel)
