/-! Entries come to be: the reference's against the tree's. -/
theorem k_ins_pl {n : Nat} {g : Nat → Int32} {k : Int32} (hs : k_srt n g) (hk : 0 ≤ k.toInt ∧ k.toInt < 10000) (hp : ¬ k_pl n g k < n) {i : Nat} (hi : i < n) : k_pl (n + 1) (k_ins (k_rk n g k) k g) (g i) = if i < k_rk n g k then i else i + 1 := by
  have hS := k_ins_srt hs hk hp
  by_cases z : i < k_rk n g k
  · rw [if_pos z]
    have := k_pl_eq hS (i := i) (by omega)
    rw [k_ins_lo z] at this
    exact this
  · rw [if_neg z]
    have := k_pl_eq hS (i := i + 1) (by omega)
    rw [k_ins_hi (show k_rk n g k < i + 1 by omega)] at this
    exact this
theorem k_ins_pk {n : Nat} {g : Nat → Int32} {k : Int32} (hs : k_srt n g) (hk : 0 ≤ k.toInt ∧ k.toInt < 10000) (hp : ¬ k_pl n g k < n) : k_pl (n + 1) (k_ins (k_rk n g k) k g) k = k_rk n g k := by
  have := k_pl_eq (k_ins_srt hs hk hp) (i := k_rk n g k) (by have := k_rk_le n g k; omega)
  rw [k_ins_at] at this
  exact this
theorem k_ins_v {r i : Nat} {x : Int32} {g : Nat → Int32} : k_ins r x g (if i < r then i else i + 1) = g i := by
  by_cases z : i < r
  · rw [if_pos z, k_ins_lo z]
  · rw [if_neg z, k_ins_hi (by omega)]
    rfl
/-- a leaf behind the last -/
theorem k_lf_app {T : KT} {k : Int32} (hb : ∀ i, i < T.2.2.1 → 0 < T.2.2.1 → (T.2.2.2.1 i).toInt < k.toInt) (hk : 0 ≤ k.toInt) : k_lf (k_tleaf T k) k = T.2.2.1 + 1 := by
  refine k_fst_eq (n := T.2.2.1 + 1) (Nat.le_refl _) (fun j hj => decide_eq_false ?_) (fun z => absurd z (Nat.lt_irrefl _))
  show ¬ k.toInt < (upd T.2.2.2.1 T.2.2.1 (if T.2.2.1 = 0 then 0 else k) j).toInt
  by_cases z : j = T.2.2.1
  · rw [z, k_upd_s]
    by_cases y : T.2.2.1 = 0
    · rw [if_pos y]
      have e0 : (0 : Int32).toInt = 0 := rfl
      omega
    · rw [if_neg y]; omega
  · rw [k_upd_n z]
    have := hb j (by omega) (by omega)
    omega
theorem k_lf_app' {T : KT} {k x : Int32} (hl : 0 < T.2.2.1) (hx : x.toInt < k.toInt) : k_lf (k_tleaf T k) x = k_lf T x := by
  have hle := k_lf_le T x
  refine k_fst_eq (n := T.2.2.1 + 1) (by omega) (fun j hj => ?_) (fun _ => ?_)
  · show decide (x.toInt < (upd T.2.2.2.1 T.2.2.1 (if T.2.2.1 = 0 then 0 else k) j).toInt) = false
    rw [k_upd_n (by omega)]
    exact k_fst_no (fun i => decide (x.toInt < (T.2.2.2.1 i).toInt)) _ j hj
  · show decide (x.toInt < (upd T.2.2.2.1 T.2.2.1 (if T.2.2.1 = 0 then 0 else k) (k_lf T x)).toInt) = true
    by_cases z : k_lf T x = T.2.2.1
    · rw [z, k_upd_s, if_neg (by omega)]; exact decide_eq_true hx
    · rw [k_upd_n z]
      exact k_fst_yes (fun i => decide (x.toInt < (T.2.2.2.1 i).toInt)) T.2.2.1 (by unfold k_lf at hle z; omega)
section KMG
variable {wz : Nat}
variable {N : Nat} {f : XM} {m c : Nat} {S : KS}
end KMG

