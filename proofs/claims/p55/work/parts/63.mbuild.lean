/-! The reference: built anew. -/
theorem k_rem_i {i e : Nat} (hi : i < 2 ^ 29) (he : 1 ≤ e) (he2 : e < 2 ^ 29) : x_rem (nI i) (nI e) = some (nI (i % e)) := by
  have hd : i / e ≤ i := Nat.div_le_self _ _
  have h1 : nI i / nI e = nI (i / e) := pk_div (by omega) (by omega) (by omega)
  unfold x_rem
  rw [if_neg (nI_ne0 (by omega) (by omega)), h1, pk_mul]
  have h2 : nI i = nI (i % e) + nI (i / e * e) := by
    rw [nI_add]
    congr 1
    have := Nat.mod_add_div i e
    rw [Nat.mul_comm] at this
    omega
  rw [h2, Int32.add_sub_cancel]
def k_Ga (G : Nat → Int32) (n : Nat) (k v l o : Int32) (a : Nat) : Int32 := if a = 856 + 4 * n then k else if a = 857 + 4 * n then v else if a = 858 + 4 * n then l else if a = 859 + 4 * n then o else if a = 7 then nI (n + 1) else G a
section KMB
variable {wz : Nat}
variable {N : Nat} {f : XM} {m c : Nat} {S : KS}
theorem k_ru_st {i each : Nat} (he : 1 ≤ each) : (i % each = 0 → each * k_ru i each = i ∧ k_ru (i + 1) each = k_ru i each + 1) ∧ (i % each ≠ 0 → k_ru (i + 1) each = k_ru i each) ∧ k_ru (i + 1) each = i / each + 1 := by
  have hq : k_ru (i + 1) each = i / each + 1 := by
    show (i + 1 + each - 1) / each = _
    rw [show i + 1 + each - 1 = i + each by omega, Nat.add_div_right _ (by omega)]
  have hm := Nat.mod_add_div i each
  have hl := Nat.mod_lt i (show 0 < each by omega)
  refine ⟨fun z => ?_, fun z => ?_, hq⟩
  · have h1 : k_ru i each = i / each := by
      show (i + each - 1) / each = _
      refine (Nat.div_eq_iff (by omega)).mpr ?_
      rw [Nat.mul_comm (i / each)]
      omega
    rw [hq, h1]
    exact ⟨by omega, rfl⟩
  · rw [hq]
    show _ = (i + each - 1) / each
    refine ((Nat.div_eq_iff (by omega)).mpr ?_).symm
    rw [Nat.add_mul, Nat.mul_comm (i / each)]
    omega
end KMB

