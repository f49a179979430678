/-! Keys beside a key, keys by their place. -/
section KBS
variable {wz : Nat}
variable {N L : Nat} {xs : Nat → Int32} {x m o t : Nat} {h : XH} {f : XM} {n len : Nat} {q : Nat → Option Nat} {St : Nat → KS} {S : KS} {bf : Nat → Int32} {c : Nat}
/-- the place of the key beside -/
noncomputable def k_bp (S : KS) (k : Int32) (b : Bool) : Int32 := if b then (if k_rk (k_all S).1 (k_all S).2.1 (k + 1) < (k_all S).1 then nI (k_rk (k_all S).1 (k_all S).2.1 (k + 1)) else -1) else nI (k_rk (k_all S).1 (k_all S).2.1 k) - 1
theorem k_key_ne (hA : k_okA S) {i : Nat} (hi : i < (k_all S).1) : (k_all S).2.1 i ≠ -1 := k_val99 (hA.1.1.2 i hi).1
end KBS

