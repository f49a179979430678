/-! The 87 entries that come to an overflow leaf: states by their number. -/
def k_lx (k : Nat) : QS := ([[]], ((List.range 72).map (fun i => (i, if i % 12 = 0 then 9 else i / 12, 0)) ++ (List.range k).map (fun i => (100 + i, i, i + 1)) ++ [(9999, 99, 0)], (List.range 18).map (fun i => 4 * i) ++ [9999], 4, 3), 8, 3, 1, 73)
def k_ck5 (S : KS) (a b v : Int32) (S' : KS) : Bool := decide ((0 ≤ a.toInt ∧ a.toInt ≤ 9999) ∧ 0 ≤ b.toInt ∧ b.toInt ≤ 99) && (k_cin S a && (decide ((k_twr (k_tfx S) a b).1 = v) && k_eqb (k_stt S (k_twr (k_tfx S) a b).2) S'))
theorem k_ck5_sp {S S' : KS} {a b v : Int32} (h : k_ck5 S a b v S' = true) : (k_ac 5 S a b).1 = .inl v ∧ k_eq2 (k_ac 5 S a b).2 S' := by
  rw [k_ck5, Bool.and_eq_true, Bool.and_eq_true, Bool.and_eq_true] at h
  obtain ⟨h1, h2, h3, h4⟩ := h
  refine ⟨?_, k_eqb_sp h4⟩
  show k_an (k_ex3 (decide _) (k_cin S a)) (k_twr (k_tfx S) a b).1 = _
  rw [h1, h2, of_decide_eq_true h3]
  rfl
theorem k_lz_0 : k_ck5 (k_of (k_lx 0)) 100 0 2 (k_of (k_lx 1)) = true := by decide +kernel
theorem k_lz_1 : k_ck5 (k_of (k_lx 1)) 101 1 2 (k_of (k_lx 2)) = true := by decide +kernel
theorem k_lz_2 : k_ck5 (k_of (k_lx 2)) 102 2 2 (k_of (k_lx 3)) = true := by decide +kernel
theorem k_lz_3 : k_ck5 (k_of (k_lx 3)) 103 3 2 (k_of (k_lx 4)) = true := by decide +kernel
theorem k_lz_4 : k_ck5 (k_of (k_lx 4)) 104 4 2 (k_of (k_lx 5)) = true := by decide +kernel
theorem k_lz_5 : k_ck5 (k_of (k_lx 5)) 105 5 2 (k_of (k_lx 6)) = true := by decide +kernel
theorem k_lz_6 : k_ck5 (k_of (k_lx 6)) 106 6 2 (k_of (k_lx 7)) = true := by decide +kernel
theorem k_lz_7 : k_ck5 (k_of (k_lx 7)) 107 7 2 (k_of (k_lx 8)) = true := by decide +kernel
theorem k_lz_8 : k_ck5 (k_of (k_lx 8)) 108 8 2 (k_of (k_lx 9)) = true := by decide +kernel
theorem k_lz_9 : k_ck5 (k_of (k_lx 9)) 109 9 2 (k_of (k_lx 10)) = true := by decide +kernel
theorem k_lz_10 : k_ck5 (k_of (k_lx 10)) 110 10 2 (k_of (k_lx 11)) = true := by decide +kernel
theorem k_lz_11 : k_ck5 (k_of (k_lx 11)) 111 11 2 (k_of (k_lx 12)) = true := by decide +kernel
theorem k_lz_12 : k_ck5 (k_of (k_lx 12)) 112 12 2 (k_of (k_lx 13)) = true := by decide +kernel
theorem k_lz_13 : k_ck5 (k_of (k_lx 13)) 113 13 2 (k_of (k_lx 14)) = true := by decide +kernel
theorem k_lz_14 : k_ck5 (k_of (k_lx 14)) 114 14 2 (k_of (k_lx 15)) = true := by decide +kernel
theorem k_lz_15 : k_ck5 (k_of (k_lx 15)) 115 15 2 (k_of (k_lx 16)) = true := by decide +kernel
theorem k_lz_16 : k_ck5 (k_of (k_lx 16)) 116 16 2 (k_of (k_lx 17)) = true := by decide +kernel
theorem k_lz_17 : k_ck5 (k_of (k_lx 17)) 117 17 2 (k_of (k_lx 18)) = true := by decide +kernel
theorem k_lz_18 : k_ck5 (k_of (k_lx 18)) 118 18 2 (k_of (k_lx 19)) = true := by decide +kernel
theorem k_lz_19 : k_ck5 (k_of (k_lx 19)) 119 19 2 (k_of (k_lx 20)) = true := by decide +kernel
theorem k_lz_20 : k_ck5 (k_of (k_lx 20)) 120 20 2 (k_of (k_lx 21)) = true := by decide +kernel
theorem k_lz_21 : k_ck5 (k_of (k_lx 21)) 121 21 2 (k_of (k_lx 22)) = true := by decide +kernel
theorem k_lz_22 : k_ck5 (k_of (k_lx 22)) 122 22 2 (k_of (k_lx 23)) = true := by decide +kernel
theorem k_lz_23 : k_ck5 (k_of (k_lx 23)) 123 23 2 (k_of (k_lx 24)) = true := by decide +kernel
theorem k_lz_24 : k_ck5 (k_of (k_lx 24)) 124 24 2 (k_of (k_lx 25)) = true := by decide +kernel
theorem k_lz_25 : k_ck5 (k_of (k_lx 25)) 125 25 2 (k_of (k_lx 26)) = true := by decide +kernel
theorem k_lz_26 : k_ck5 (k_of (k_lx 26)) 126 26 2 (k_of (k_lx 27)) = true := by decide +kernel
theorem k_lz_27 : k_ck5 (k_of (k_lx 27)) 127 27 2 (k_of (k_lx 28)) = true := by decide +kernel
theorem k_lz_28 : k_ck5 (k_of (k_lx 28)) 128 28 2 (k_of (k_lx 29)) = true := by decide +kernel
theorem k_lz_29 : k_ck5 (k_of (k_lx 29)) 129 29 2 (k_of (k_lx 30)) = true := by decide +kernel
theorem k_lz_30 : k_ck5 (k_of (k_lx 30)) 130 30 2 (k_of (k_lx 31)) = true := by decide +kernel
theorem k_lz_31 : k_ck5 (k_of (k_lx 31)) 131 31 2 (k_of (k_lx 32)) = true := by decide +kernel
theorem k_lz_32 : k_ck5 (k_of (k_lx 32)) 132 32 2 (k_of (k_lx 33)) = true := by decide +kernel
theorem k_lz_33 : k_ck5 (k_of (k_lx 33)) 133 33 2 (k_of (k_lx 34)) = true := by decide +kernel
theorem k_lz_34 : k_ck5 (k_of (k_lx 34)) 134 34 2 (k_of (k_lx 35)) = true := by decide +kernel
theorem k_lz_35 : k_ck5 (k_of (k_lx 35)) 135 35 2 (k_of (k_lx 36)) = true := by decide +kernel
theorem k_lz_36 : k_ck5 (k_of (k_lx 36)) 136 36 2 (k_of (k_lx 37)) = true := by decide +kernel
theorem k_lz_37 : k_ck5 (k_of (k_lx 37)) 137 37 2 (k_of (k_lx 38)) = true := by decide +kernel
theorem k_lz_38 : k_ck5 (k_of (k_lx 38)) 138 38 2 (k_of (k_lx 39)) = true := by decide +kernel
theorem k_lz_39 : k_ck5 (k_of (k_lx 39)) 139 39 2 (k_of (k_lx 40)) = true := by decide +kernel
theorem k_lz_40 : k_ck5 (k_of (k_lx 40)) 140 40 2 (k_of (k_lx 41)) = true := by decide +kernel
theorem k_lz_41 : k_ck5 (k_of (k_lx 41)) 141 41 2 (k_of (k_lx 42)) = true := by decide +kernel
theorem k_lz_42 : k_ck5 (k_of (k_lx 42)) 142 42 2 (k_of (k_lx 43)) = true := by decide +kernel
theorem k_lz_43 : k_ck5 (k_of (k_lx 43)) 143 43 2 (k_of (k_lx 44)) = true := by decide +kernel
theorem k_lz_44 : k_ck5 (k_of (k_lx 44)) 144 44 2 (k_of (k_lx 45)) = true := by decide +kernel
