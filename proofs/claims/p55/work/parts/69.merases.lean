/-! The reference: an entry taken out. -/
theorem k_cnt_imp {p q : Nat → Bool} : ∀ {n : Nat}, (∀ i, i < n → p i = true → q i = true) → k_cnt p n ≤ k_cnt q n
  | 0, _ => Nat.le_refl _
  | n + 1, h => by
    have ih := k_cnt_imp (p := p) (q := q) (n := n) (fun i hi => h i (by omega))
    have := h n (Nat.lt_succ_self n)
    rw [k_cnt, k_cnt]
    cases hp : p n with
    | true => rw [this hp]; omega
    | false =>
      simp only [Bool.false_eq_true, if_false]
      omega
def k_sw (n j0 j : Nat) : Nat := if j = j0 then n - 1 else j
theorem k_cnt_sw {p : Nat → Bool} {n j0 : Nat} (h : j0 < n) : k_cnt p n = k_cnt (fun j => p (k_sw n j0 j)) (n - 1) + if p j0 then 1 else 0 := by
  obtain ⟨n, rfl⟩ : ∃ m, n = m + 1 := ⟨n - 1, by omega⟩
  show _ = k_cnt _ n + _
  by_cases z : j0 = n
  · subst z
    rw [k_cnt, k_cnt_cong (p := fun j => p (k_sw (j0 + 1) j0 j)) (q := p) (fun j hj => by unfold k_sw; rw [if_neg (by omega)])]
  · have h1 : k_cnt (fun j => p (k_sw (n + 1) j0 j) && !decide (j = j0)) n = k_cnt (fun j => p j && !decide (j = j0)) n := k_cnt_cong (fun j hj => by
      by_cases y : j = j0
      · simp [y]
      · unfold k_sw; rw [if_neg y])
    have h2 := k_cnt_del (p := fun j => p (k_sw (n + 1) j0 j)) (show j0 < n by omega)
    have h3 := k_cnt_del (p := p) (show j0 < n by omega)
    have h4 : k_sw (n + 1) j0 j0 = n := by unfold k_sw; rw [if_pos rfl]; rfl
    rw [h1] at h2
    rw [k_cnt, h3, h2]
    simp only [h4]
    omega
theorem k_rem_v {r i : Nat} {g : Nat → Int32} (h : i ≠ r) : k_rem r g (if i < r then i else i - 1) = g i := by
  by_cases z : i < r
  · rw [if_pos z, k_rem_lo z]
  · rw [if_neg z, k_rem_hi (by omega)]
    exact congrArg g (by omega)
section KMX
variable {wz : Nat}
variable {N : Nat} {f : XM} {m c : Nat} {S : KS}
end KMX

