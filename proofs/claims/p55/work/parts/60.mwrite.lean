/-! The reference: a key written into a run; states laid aside. -/
/-- run r, as it lies -/
def k_rr (G : Nat → Int32) (r : Nat) (R : KR) : Prop := G (9 + 121 * r) = nI R.1 ∧ ∀ i, i < R.1 → G (10 + 121 * r + 2 * i) = R.2.1 i ∧ G (11 + 121 * r + 2 * i) = R.2.2 i
section KMW
variable {wz : Nat}
variable {N : Nat} {f : XM} {m c r : Nat} {R : KR}
/-! laying states -/
end KMW

