/-! Orders that are carried out, one by one, by the class and by the reference. -/
def k_sc (N : Nat) (f : XM) (x : Nat) (r : Option KS) : Prop := ∃ (f' : XM) (S2 : KS), F_X5_carryOut N f x = some (r.isSome, f') ∧ k_fr2 f f' (x + 1) (x + 63) ∧ k_st f' (x + 1) S2 ∧ k_gat f' (x + 63) ∧ ∀ S', r = some S' → S2 = S'
theorem k_nneg {n : Nat} (h : n < 2 ^ 31) : ¬ nI n < 0 := nI_pos h
theorem k_wr_pos (R : KR) (k v : Int32) : 0 < (k_wr R k v).1 := by
  rw [k_wr_n]
  split <;> omega
theorem k_twr_nn {T : KT} {k v : Int32} (h : (k_twr T k v).1 ≠ -1) : ¬ (k_twr T k v).1 < 0 := by
  unfold k_twr at h ⊢
  by_cases g1 : k_pl T.1.1 T.1.2.1 k < T.1.1
  · rw [if_pos g1]; show ¬ (0 : Int32) < 0; decide
  · rw [if_neg g1] at h ⊢
    by_cases g2 : 160 ≤ T.1.1
    · rw [if_pos g2] at h; exact absurd rfl h
    · rw [if_neg g2]
      by_cases g3 : T.2.2.1 = 0
      · rw [if_pos g3]; show ¬ (3 : Int32) < 0; decide
      · rw [if_neg g3]
        by_cases g4 : k_own T (k_lf T k - 1) < k_u T.2.2.2.2.1
        · rw [if_pos g4]; show ¬ (1 : Int32) < 0; decide
        · rw [if_neg g4]
          by_cases g5 : k_lf T k = T.2.2.1 ∧ (T.1.2.1 (T.1.1 - 1)).toInt < k.toInt
          · rw [if_pos g5]; show ¬ (3 : Int32) < 0; decide
          · rw [if_neg g5]; show ¬ (2 : Int32) < 0; decide
section KST
variable {wz : Nat}
variable {N : Nat} {f : XM} {x n len : Nat} {q : Nat → Option Nat} {St : Nat → KS} {S : KS} {bf : Nat → Int32} {w : KQ}
end KST

