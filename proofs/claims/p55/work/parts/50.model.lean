/-! The reference: its picture, and what is read of its numbers. -/
def k_sz (a : Nat) : Nat := match a with
  | 1 => 6696
  | 2 => 40176
  | 3 => 13392
  | 4 => 2
  | 5 => 6696
  | 6 => 240
  | 7 => 1200
  | 8 => 60
  | _ => 93
theorem k_sz_r (a : Nat) : k_sz a < 2 ^ 31 := by
  unfold k_sz
  split <;> omega
section KMO
variable {wz : Nat}
variable {N : Nat} {f : XM} {m : Nat}
end KMO
/-! indices -/
section KMR
variable {wz : Nat}
variable {N : Nat} {f : XM} {m c : Nat} {S : KS}
end KMR

