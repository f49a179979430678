/-! States stay as they come to be. -/
theorem k_ins_lo {p j : Nat} {x : Int32} {g : Nat → Int32} (h : j < p) : k_ins p x g j = g j := if_pos h
theorem k_ins_at {p : Nat} {x : Int32} {g : Nat → Int32} : k_ins p x g p = x := by unfold k_ins; rw [if_neg (by omega), if_pos rfl]
theorem k_ins_hi {p j : Nat} {x : Int32} {g : Nat → Int32} (h : p < j) : k_ins p x g j = g (j - 1) := by unfold k_ins; rw [if_neg (by omega), if_neg (by omega)]
theorem k_rem_lo {p j : Nat} {g : Nat → Int32} (h : j < p) : k_rem p g j = g j := if_pos h
theorem k_rem_hi {p j : Nat} {g : Nat → Int32} (h : p ≤ j) : k_rem p g j = g (j + 1) := if_neg (by omega)
theorem k_ins_srt {n : Nat} {g : Nat → Int32} {k : Int32} (h : k_srt n g) (hk : 0 ≤ k.toInt ∧ k.toInt < 10000) (hp : ¬ k_pl n g k < n) : k_srt (n + 1) (k_ins (k_rk n g k) k g) := by
  have hr := k_rk_le n g k
  have hlo : ∀ j, j < k_rk n g k → (g j).toInt < k.toInt := fun j hj => k_rk_lo hj
  have hhi : ∀ j, k_rk n g k ≤ j → j < n → k.toInt < (g j).toInt := fun j h1 h2 => by
    have h3 := k_rk_hi h h1 h2
    have h4 := k_pl_no hp h2
    rcases Int.lt_or_eq_of_le h3 with y | y
    · exact y
    · exact absurd (Int32.toInt_inj.mp y.symm) h4
  refine ⟨fun i j hij hj => ?_, fun i hi => ?_⟩
  · rcases Nat.lt_trichotomy j (k_rk n g k) with y | y | y
    · rw [k_ins_lo y, k_ins_lo (by omega)]; exact h.1 i j hij (by omega)
    · rw [y, k_ins_at, k_ins_lo (by omega)]; exact hlo i (by omega)
    · rw [k_ins_hi y]
      rcases Nat.lt_trichotomy i (k_rk n g k) with z | z | z
      · rw [k_ins_lo z]
        have := hlo i z
        have := hhi (j - 1) (by omega) (by omega)
        omega
      · rw [z, k_ins_at]; exact hhi (j - 1) (by omega) (by omega)
      · rw [k_ins_hi z]; exact h.1 (i - 1) (j - 1) (by omega) (by omega)
  · rcases Nat.lt_trichotomy i (k_rk n g k) with y | y | y
    · rw [k_ins_lo y]; exact h.2 i (by omega)
    · rw [y, k_ins_at]; exact hk
    · rw [k_ins_hi y]; exact h.2 (i - 1) (by omega)
theorem k_rem_srt {n p : Nat} {g : Nat → Int32} (h : k_srt n g) : k_srt (n - 1) (k_rem p g) := by
  refine ⟨fun i j hij hj => ?_, fun i hi => ?_⟩
  · rcases Nat.lt_or_ge j p with y | y
    · rw [k_rem_lo y, k_rem_lo (by omega)]; exact h.1 i j hij (by omega)
    · rw [k_rem_hi y]
      rcases Nat.lt_or_ge i p with z | z
      · rw [k_rem_lo z]; exact h.1 i (j + 1) (by omega) (by omega)
      · rw [k_rem_hi z]; exact h.1 (i + 1) (j + 1) (by omega) (by omega)
  · rcases Nat.lt_or_ge i p with y | y
    · rw [k_rem_lo y]; exact h.2 i (by omega)
    · rw [k_rem_hi y]; exact h.2 (i + 1) (by omega)
theorem k_wr_srt {R : KR} {k v : Int32} (h : k_srt R.1 R.2.1) (hk : 0 ≤ k.toInt ∧ k.toInt < 10000) : k_srt (k_wr R k v).1 (k_wr R k v).2.1 := by
  unfold k_wr
  by_cases g : k_pl R.1 R.2.1 k < R.1
  · rw [if_pos g]; exact h
  · rw [if_neg g]; exact k_ins_srt h hk g
theorem k_wr_n (R : KR) (k v : Int32) : (k_wr R k v).1 = if k_pl R.1 R.2.1 k < R.1 then R.1 else R.1 + 1 := by
  unfold k_wr
  split <;> rfl
theorem k_ws_s0 {S : KS} {k v : Int32} (h : k_ws S) (hk : 0 ≤ k.toInt ∧ k.toInt < 10000) (ho : k_pl (S.2.1 0).1 (S.2.1 0).2.1 k < (S.2.1 0).1 ∨ (S.2.1 0).1 < 12) : k_ws (k_s0 S (k_wr (S.2.1 0) k v)) := by
  obtain ⟨h1, h2, h3, h4, h5, h6, h7⟩ := h
  refine ⟨h1, fun r hr => ?_, ?_, fun r hr hr2 => ?_, h5, h6, h7⟩
  · show k_srt (if r = 0 then k_wr (S.2.1 0) k v else S.2.1 r).1 (if r = 0 then k_wr (S.2.1 0) k v else S.2.1 r).2.1
    by_cases z : r = 0
    · rw [if_pos z]; exact k_wr_srt (h2 0 (Nat.zero_le _)) hk
    · rw [if_neg z]; exact h2 r hr
  · show (if (0 : Nat) = 0 then k_wr (S.2.1 0) k v else S.2.1 0).1 ≤ 12
    rw [if_pos rfl, k_wr_n]
    split <;> omega
  · show (if r = 0 then k_wr (S.2.1 0) k v else S.2.1 r).1 ≤ 60
    rw [if_neg (by omega)]; exact h4 r hr hr2
theorem k_ws_cl {S : KS} (h : k_ws S) (hc : S.1 < 6) : k_ws (k_scl S) := by
  obtain ⟨h1, h2, h3, h4, h5, h6, h7⟩ := h
  refine ⟨by show S.1 + 1 ≤ 6; omega, fun r hr => ?_, ?_, fun r hr hr2 => ?_, h5, h6, h7⟩
  · have hr' : r ≤ S.1 + 1 := hr
    show k_srt (if r = 0 then (0, (S.2.1 0).2) else S.2.1 (r - 1)).1 (if r = 0 then (0, (S.2.1 0).2) else S.2.1 (r - 1)).2.1
    by_cases z : r = 0
    · rw [if_pos z]; exact ⟨fun i j _ hj => absurd hj (Nat.not_lt_zero _), fun i hi => absurd hi (Nat.not_lt_zero _)⟩
    · rw [if_neg z]; exact h2 (r - 1) (by omega)
  · show (if (0 : Nat) = 0 then (0, (S.2.1 0).2) else S.2.1 (0 - 1)).1 ≤ 12
    rw [if_pos rfl]; exact Nat.zero_le _
  · have hr' : r ≤ S.1 + 1 := hr2
    show (if r = 0 then (0, (S.2.1 0).2) else S.2.1 (r - 1)).1 ≤ 60
    rw [if_neg (by omega)]
    by_cases z : r = 1
    · rw [z]; show (S.2.1 0).1 ≤ 60; omega
    · exact h4 (r - 1) (by omega) (by omega)
theorem k_ws_mg {S : KS} {M : KR} (h : k_ws S) (hc : 2 ≤ S.1) (hM : k_srt M.1 M.2.1) (hn : M.1 ≤ 60) : k_ws (k_smg S M) := by
  obtain ⟨h1, h2, h3, h4, h5, h6, h7⟩ := h
  refine ⟨by show S.1 - 1 ≤ 6; omega, fun r hr => ?_, ?_, fun r hr hr2 => ?_, h5, h6, h7⟩
  · have hr' : r ≤ S.1 - 1 := hr
    show k_srt (if r = S.1 - 1 then M else S.2.1 r).1 (if r = S.1 - 1 then M else S.2.1 r).2.1
    by_cases z : r = S.1 - 1
    · rw [if_pos z]; exact hM
    · rw [if_neg z]; exact h2 r (by omega)
  · show (if 0 = S.1 - 1 then M else S.2.1 0).1 ≤ 12
    rw [if_neg (by omega)]; exact h3
  · have hr' : r ≤ S.1 - 1 := hr2
    show (if r = S.1 - 1 then M else S.2.1 r).1 ≤ 60
    by_cases z : r = S.1 - 1
    · rw [if_pos z]; exact hn
    · rw [if_neg z]; exact h4 r hr (by omega)
theorem k_ru_lt {n e i : Nat} (he : 1 ≤ e) (h : i < k_ru n e) : e * i < n := by
  rw [Nat.mul_comm]; exact k_ru_mul he h
theorem k_ws_bl {S : KS} {Q : KR} {p : Nat} (h : k_ws S) (hp : p ≤ 100) (hQ : k_fnd S Q) (hn : Q.1 ≤ 160) : k_ws (k_sbl S Q p) := by
  have he := k_each_r h hp
  obtain ⟨h1, h2, h3, h4, h5, h6, h7⟩ := h
  have hlc : k_ru Q.1 (k_each S.2.2.2.1 p) ≤ Q.1 := k_ru_le he.1
  refine ⟨Nat.zero_le _, fun r hr => ⟨fun i j _ hj => absurd hj (Nat.not_lt_zero _), fun i hi => absurd hi (Nat.not_lt_zero _)⟩, Nat.zero_le _, fun r hr hr2 => Nat.zero_le _, ⟨hQ.1, ⟨fun i j hij hj => ?_, fun i hi => ?_⟩, hn, ?_, fun z => ?_, fun z => rfl, fun i hi => ?_, fun i hi => ⟨0, rfl, Nat.le_refl _, Nat.zero_le _⟩, Or.inr ⟨h6, h7⟩⟩, h6, h7⟩
  · have hj' : j < k_ru Q.1 (k_each S.2.2.2.1 p) := hj
    have hej := k_ru_lt he.1 hj'
    show (if i = 0 then 0 else Q.2.1 (k_each S.2.2.2.1 p * i)).toInt < (if j = 0 then 0 else Q.2.1 (k_each S.2.2.2.1 p * j)).toInt
    have hm : k_each S.2.2.2.1 p * i < k_each S.2.2.2.1 p * j := Nat.mul_lt_mul_of_pos_left hij (by omega)
    rw [if_neg (show ¬ j = 0 by omega)]
    by_cases z : i = 0
    · rw [if_pos z]
      rw [z] at hm
      have a := hQ.1.1 0 _ (by omega) hej
      have b := (hQ.1.2 0 (by omega)).1
      have e0 : (0 : Int32).toInt = 0 := rfl
      omega
    · rw [if_neg z]
      exact hQ.1.1 _ _ hm hej
  · have hi' : i < k_ru Q.1 (k_each S.2.2.2.1 p) := hi
    show 0 ≤ (if i = 0 then 0 else Q.2.1 (k_each S.2.2.2.1 p * i)).toInt ∧ (if i = 0 then 0 else Q.2.1 (k_each S.2.2.2.1 p * i)).toInt < 10000
    by_cases z : i = 0
    · rw [if_pos z]; decide
    · rw [if_neg z]; exact hQ.1.2 _ (k_ru_lt he.1 hi')
  · show k_ru Q.1 (k_each S.2.2.2.1 p) ≤ 512
    omega
  · have z' : k_ru Q.1 (k_each S.2.2.2.1 p) = 0 := z
    show Q.1 = 0
    rcases Nat.eq_zero_or_pos Q.1 with y | y
    · exact y
    · exfalso
      have : 1 ≤ k_ru Q.1 (k_each S.2.2.2.1 p) := (Nat.le_div_iff_mul_le (by omega)).mpr (by omega)
      omega
  · exact ((hQ.2 _ _).mp ⟨i, hi, rfl, rfl⟩).2
theorem k_wt_set {T : KT} {k v : Int32} (h : k_wt T) (hv : v ≠ -1) : k_wt (k_tset T k v) := by
  obtain ⟨h1, h2, h3, h4, h5, h6, h7, h8, h9⟩ := h
  refine ⟨h1, h2, h3, h4, h5, h6, fun i hi => ?_, h8, h9⟩
  show upd T.1.2.2 (k_pl T.1.1 T.1.2.1 k) v i ≠ -1
  by_cases z : i = k_pl T.1.1 T.1.2.1 k
  · rw [z, k_upd_s]; exact hv
  · rw [k_upd_n z]; exact h7 i hi
theorem k_wt_ins {T : KT} {k v p : Int32} (h : k_wt T) (hk : 0 ≤ k.toInt ∧ k.toInt < 10000) (hpl : ¬ k_pl T.1.1 T.1.2.1 k < T.1.1) (hn : T.1.1 < 160) (hl : 0 < T.2.2.1) (hv : v ≠ -1) (hp : k_sm p 0 160) : k_wt (k_tins T k v p) := by
  obtain ⟨h1, h2, h3, h4, h5, h6, h7, h8, h9⟩ := h
  have hr := k_rk_le T.1.1 T.1.2.1 k
  refine ⟨k_ins_srt h1 hk hpl, h2, by show T.1.1 + 1 ≤ 160; omega, h4, fun z => ?_, h6, fun i hi => ?_, fun i hi => ?_, h9⟩
  · have z' : T.2.2.1 = 0 := z
    omega
  · have hi' : i < T.1.1 + 1 := hi
    show k_ins _ v T.1.2.2 i ≠ -1
    rcases Nat.lt_trichotomy i (k_rk T.1.1 T.1.2.1 k) with y | y | y
    · rw [k_ins_lo y]; exact h7 i (by omega)
    · rw [y, k_ins_at]; exact hv
    · rw [k_ins_hi y]; exact h7 (i - 1) (by omega)
  · have hi' : i < T.1.1 + 1 := hi
    show k_sm (k_ins _ p T.2.1 i) 0 160
    rcases Nat.lt_trichotomy i (k_rk T.1.1 T.1.2.1 k) with y | y | y
    · rw [k_ins_lo y]; exact h8 i (by omega)
    · rw [y, k_ins_at]; exact hp
    · rw [k_ins_hi y]; exact h8 (i - 1) (by omega)
/-- a leaf appended, and its entry -/
theorem k_wt_app {T : KT} {k v : Int32} (h : k_wt T) (hk : 0 ≤ k.toInt ∧ k.toInt < 10000) (hpl : ¬ k_pl T.1.1 T.1.2.1 k < T.1.1) (hn : T.1.1 < 160) (hl : T.2.2.1 < 512) (hv : v ≠ -1) (hnum : k_sm T.2.2.2.2.1 2 8 ∧ k_sm T.2.2.2.2.2 2 6) (hb : ∀ i, i < T.2.2.1 → 0 < T.2.2.1 → (T.2.2.2.1 i).toInt < k.toInt) : k_wt (k_tins (k_tleaf T k) k v 0) := by
  obtain ⟨h1, h2, h3, h4, h5, h6, h7, h8, h9⟩ := h
  have hr := k_rk_le T.1.1 T.1.2.1 k
  refine ⟨k_ins_srt h1 hk hpl, ⟨fun i j hij hj => ?_, fun i hi => ?_⟩, by show T.1.1 + 1 ≤ 160; omega, by show T.2.2.1 + 1 ≤ 512; omega, fun z => ?_, fun z => ?_, fun i hi => ?_, fun i hi => ?_, Or.inr hnum⟩
  · have hj' : j < T.2.2.1 + 1 := hj
    show (upd T.2.2.2.1 T.2.2.1 _ i).toInt < (upd T.2.2.2.1 T.2.2.1 _ j).toInt
    rw [k_upd_n (show i ≠ T.2.2.1 by omega)]
    by_cases z : j = T.2.2.1
    · rw [z, k_upd_s, if_neg (by omega)]; exact hb i (by omega) (by omega)
    · rw [k_upd_n z]; exact h2.1 i j hij (by omega)
  · have hi' : i < T.2.2.1 + 1 := hi
    show 0 ≤ (upd T.2.2.2.1 T.2.2.1 _ i).toInt ∧ (upd T.2.2.2.1 T.2.2.1 _ i).toInt < 10000
    by_cases z : i = T.2.2.1
    · rw [z, k_upd_s]
      split
      · decide
      · exact hk
    · rw [k_upd_n z]; exact h2.2 i (by omega)
  · have z' : T.2.2.1 + 1 = 0 := z
    omega
  · show upd T.2.2.2.1 T.2.2.1 _ 0 = 0
    by_cases y : T.2.2.1 = 0
    · rw [y, k_upd_s, if_pos rfl]
    · rw [k_upd_n (by omega)]; exact h6 (by omega)
  · have hi' : i < T.1.1 + 1 := hi
    show k_ins _ v T.1.2.2 i ≠ -1
    rcases Nat.lt_trichotomy i (k_rk T.1.1 T.1.2.1 k) with y | y | y
    · have y' : i < k_rk (k_tleaf T k).1.1 (k_tleaf T k).1.2.1 k := y
      rw [k_ins_lo y']; exact h7 i (by omega)
    · have y' : i = k_rk (k_tleaf T k).1.1 (k_tleaf T k).1.2.1 k := y
      rw [y', k_ins_at]; exact hv
    · have y' : k_rk (k_tleaf T k).1.1 (k_tleaf T k).1.2.1 k < i := y
      rw [k_ins_hi y']; exact h7 (i - 1) (by omega)
  · have hi' : i < T.1.1 + 1 := hi
    show k_sm (k_ins _ 0 T.2.1 i) 0 160
    rcases Nat.lt_trichotomy i (k_rk T.1.1 T.1.2.1 k) with y | y | y
    · have y' : i < k_rk (k_tleaf T k).1.1 (k_tleaf T k).1.2.1 k := y
      rw [k_ins_lo y']; exact h8 i (by omega)
    · have y' : i = k_rk (k_tleaf T k).1.1 (k_tleaf T k).1.2.1 k := y
      rw [y', k_ins_at]; exact ⟨0, rfl, Nat.le_refl _, Nat.zero_le _⟩
    · have y' : k_rk (k_tleaf T k).1.1 (k_tleaf T k).1.2.1 k < i := y
      rw [k_ins_hi y']; exact h8 (i - 1) (by omega)
/-- behind all: the bounds lie below -/
theorem k_beh {T : KT} {k : Int32} (h : k_wt T) (hlf : k_lf T k = T.2.2.1) (hown : 0 < k_own T (k_lf T k - 1)) (hlast : (T.1.2.1 (T.1.1 - 1)).toInt < k.toInt) : ∀ i, i < T.2.2.1 → 0 < T.2.2.1 → (T.2.2.2.1 i).toInt < k.toInt := by
  intro i hi hl
  -- there is an own entry of the last leaf
  have hex : ∃ j, j < T.1.1 ∧ k_inl T (k_lf T k - 1) (T.1.2.1 j) = true := by
    rcases Classical.em (∃ j, j < T.1.1 ∧ k_inl T (k_lf T k - 1) (T.1.2.1 j) = true) with y | y
    · exact y
    · exfalso
      have : k_own T (k_lf T k - 1) = 0 := k_cnt_0 (fun j hj => by
        cases z : k_inl T (k_lf T k - 1) (T.1.2.1 j) with
        | false => rfl
        | true => exact absurd ⟨j, hj, z⟩ y)
      omega
  obtain ⟨j, hj, hin⟩ := hex
  have hin' := of_decide_eq_true hin
  have hb : k_bd T (k_lf T k - 1) = T.2.2.2.1 (T.2.2.1 - 1) := by
    unfold k_bd
    rw [hlf, if_pos (by omega)]
  have h1 : (T.2.2.2.1 (T.2.2.1 - 1)).toInt ≤ (T.1.2.1 j).toInt := by rw [← hb]; exact hin'.1
  have h2 : (T.1.2.1 j).toInt ≤ (T.1.2.1 (T.1.1 - 1)).toInt := by
    rcases Nat.eq_or_lt_of_le (show j ≤ T.1.1 - 1 by omega) with e | e
    · rw [e]; exact Int.le_refl _
    · exact Int.le_of_lt (h.1.1 j _ e (by omega))
  have h3 : (T.2.2.2.1 i).toInt ≤ (T.2.2.2.1 (T.2.2.1 - 1)).toInt := by
    rcases Nat.eq_or_lt_of_le (show i ≤ T.2.2.1 - 1 by omega) with e | e
    · rw [e]; exact Int.le_refl _
    · exact Int.le_of_lt (h.2.1.1 i _ e (by omega))
  omega
theorem k_wt_twr {T : KT} {k v : Int32} (h : k_wt T) (hk : 0 ≤ k.toInt ∧ k.toInt < 10000) (hl : T.2.2.1 < 512) (hv : v ≠ -1) (hnum : k_sm T.2.2.2.2.1 2 8 ∧ k_sm T.2.2.2.2.2 2 6) : k_wt (k_twr T k v).2 := by
  unfold k_twr
  by_cases g1 : k_pl T.1.1 T.1.2.1 k < T.1.1
  · rw [if_pos g1]; exact k_wt_set h hv
  · rw [if_neg g1]
    by_cases g2 : 160 ≤ T.1.1
    · rw [if_pos g2]; exact h
    · rw [if_neg g2]
      by_cases g3 : T.2.2.1 = 0
      · rw [if_pos g3]
        exact k_wt_app h hk g1 (by omega) hl hv hnum (fun i hi z => absurd z (by omega))
      · rw [if_neg g3]
        by_cases g4 : k_own T (k_lf T k - 1) < k_u T.2.2.2.2.1
        · rw [if_pos g4]
          exact k_wt_ins h hk g1 (by omega) (by omega) hv ⟨0, rfl, Nat.le_refl _, Nat.zero_le _⟩
        · rw [if_neg g4]
          have hil := (hnum.1.e (by omega)).2.1
          by_cases g5 : k_lf T k = T.2.2.1 ∧ (T.1.2.1 (T.1.1 - 1)).toInt < k.toInt
          · rw [if_pos g5]
            exact k_wt_app h hk g1 (by omega) hl hv hnum (k_beh h g5.1 (by omega) g5.2)
          · rw [if_neg g5]
            have := k_ovf_le T (k_lf T k - 1)
            exact k_wt_ins h hk g1 (by omega) (by omega) hv ⟨_, rfl, Nat.zero_le _, by omega⟩
theorem k_wt_del {T : KT} {k : Int32} (h : k_wt T) : k_wt (k_tdel T k) := by
  obtain ⟨h1, h2, h3, h4, h5, h6, h7, h8, h9⟩ := h
  refine ⟨k_rem_srt h1, h2, by show T.1.1 - 1 ≤ 160; omega, h4, fun z => ?_, h6, fun i hi => ?_, fun i hi => ?_, h9⟩
  · have := h5 z
    show T.1.1 - 1 = 0
    omega
  · have hi' : i < T.1.1 - 1 := hi
    show k_rem _ T.1.2.2 i ≠ -1
    rcases Nat.lt_or_ge i (k_pl T.1.1 T.1.2.1 k) with y | y
    · rw [k_rem_lo y]; exact h7 i (by omega)
    · rw [k_rem_hi y]; exact h7 (i + 1) (by omega)
  · have hi' : i < T.1.1 - 1 := hi
    show k_sm (k_rem _ (k_tup T k) i) 0 160
    have key : ∀ j, j < T.1.1 → k_sm (k_tup T k j) 0 160 := fun j hj => by
      unfold k_tup
      split
      · rename_i y
        obtain ⟨q, q1, q2, q3⟩ := h8 j hj
        have hpos : 0 < q := by
          have a := y.1
          have b := y.2.2
          rw [k_i_lt] at a b
          rw [q1, nI_toInt (by omega)] at b
          have e0 : (0 : Int32).toInt = 0 := rfl
          omega
        obtain ⟨q', rfl⟩ : ∃ q', q = q' + 1 := ⟨q - 1, by omega⟩
        rw [q1, nI_pred]
        exact ⟨q', rfl, Nat.zero_le _, by omega⟩
      · exact h8 j hj
    rcases Nat.lt_or_ge i (k_pl T.1.1 T.1.2.1 k) with y | y
    · rw [k_rem_lo y]; exact key i (by omega)
    · rw [k_rem_hi y]; exact key (i + 1) (by omega)
theorem k_ws_tt {S : KS} {T : KT} (h : k_ws S) (hT : k_wt T) : k_ws (k_stt S T) := ⟨h.1, h.2.1, h.2.2.1, h.2.2.2.1, hT, h.2.2.2.2.2⟩
/-! how many keys runs tell of -/
theorem k_sum_first (p : Nat → Nat) : ∀ n, k_sum p (n + 1) = p 0 + k_sum (fun i => p (i + 1)) n
  | 0 => by simp [k_sum]
  | n + 1 => by
    rw [k_sum, k_sum_first p n, k_sum]
    omega
theorem k_told_s0 (S : KS) (R : KR) : k_told (k_s0 S R) + (S.2.1 0).1 = k_told S + R.1 := by
  unfold k_told
  show k_sum (fun r => (if r = 0 then R else S.2.1 r).1) (S.1 + 1) + _ = _
  rw [k_sum_first, k_sum_first (fun r => (S.2.1 r).1)]
  have : k_sum (fun i => (if i + 1 = 0 then R else S.2.1 (i + 1)).1) S.1 = k_sum (fun i => (S.2.1 (i + 1)).1) S.1 := k_sum_cong (fun i hi => by rw [if_neg (by omega)])
  rw [this, if_pos rfl]
  omega
theorem k_told_cl (S : KS) : k_told (k_scl S) = k_told S := by
  unfold k_told
  show k_sum (fun r => (if r = 0 then (0, (S.2.1 0).2) else S.2.1 (r - 1)).1) (S.1 + 1 + 1) = _
  rw [k_sum_first, if_pos rfl]
  have : k_sum (fun i => (if i + 1 = 0 then (0, (S.2.1 0).2) else S.2.1 (i + 1 - 1)).1) (S.1 + 1) = k_sum (fun i => (S.2.1 i).1) (S.1 + 1) := k_sum_cong (fun i hi => by rw [if_neg (by omega)]; rfl)
  rw [this]
  show 0 + _ = _
  omega
theorem k_told_mg {S : KS} {M : KR} (hc : 2 ≤ S.1) (hM : M.1 ≤ (S.2.1 S.1).1 + (S.2.1 (S.1 - 1)).1) : k_told (k_smg S M) ≤ k_told S := by
  unfold k_told
  obtain ⟨c, hcc⟩ : ∃ c, S.1 = c + 1 := ⟨S.1 - 1, by omega⟩
  show k_sum (fun r => (if r = S.1 - 1 then M else S.2.1 r).1) (S.1 - 1 + 1) ≤ _
  rw [hcc] at hM ⊢
  rw [show c + 1 - 1 = c from rfl] at hM ⊢
  rw [k_sum, k_sum, k_sum, if_pos rfl]
  have : k_sum (fun r => (if r = c then M else S.2.1 r).1) c = k_sum (fun r => (S.2.1 r).1) c := k_sum_cong (fun i hi => by rw [if_neg (by omega)])
  rw [this]
  omega
theorem k_told_bl (S : KS) (Q : KR) (p : Nat) : k_told (k_sbl S Q p) = 0 := rfl
theorem k_sum_mono {p q : Nat → Nat} : ∀ {n : Nat}, (∀ i, i < n → p i ≤ q i) → k_sum p n ≤ k_sum q n
  | 0, _ => Nat.le_refl _
  | n + 1, h => by
    have := k_sum_mono (p := p) (q := q) (n := n) (fun i hi => h i (by omega))
    have := h n (by omega)
    rw [k_sum, k_sum]
    omega
/-- no more keys are found than runs and tree tell of -/
theorem k_fnd_le {S : KS} {Q : KR} (hw : k_ws S) (hQ : k_fnd S Q) : Q.1 ≤ k_told S + S.2.2.1.1.1 := by
  have e := k_cnt_all (p := fun _ => true) (n := Q.1) (fun _ _ => rfl)
  rw [k_cnt_split (p := fun _ => true) (g := fun i => k_run S (Q.2.1 i)) (M := (S.1 + 1) + 1) (fun i _ _ => by have := k_run_le S (Q.2.1 i); omega), k_sum] at e
  have hv : ∀ i, i < Q.1 → k_val S (Q.2.1 i) ≠ -1 := fun i hi => by
    have := (hQ.2 _ _).mp ⟨i, hi, rfl, rfl⟩
    rw [this.1]; exact this.2
  have h1 : k_sum (fun r => k_cnt (fun i => true && decide (k_run S (Q.2.1 i) = r)) Q.1) (S.1 + 1) ≤ k_told S := k_sum_mono (fun r hr => by
    have := k_cnt_rel (q := fun i => true && decide (k_run S (Q.2.1 i) = r)) (p := fun _ => true) (a := Q.2.1) (b := (S.2.1 r).2.1) (m := (S.2.1 r).1) (n := Q.1) (k_srt_dn hQ.1) (fun j hj hq => by
      rw [Bool.true_and, decide_eq_true_eq] at hq
      have ht := k_run_yes (S := S) (k := Q.2.1 j) (by omega)
      rw [hq] at ht
      have hp := of_decide_eq_true ht
      exact ⟨_, hp, rfl, k_pl_at hp⟩)
    rw [k_cnt_all (p := fun _ => true) (fun _ _ => rfl)] at this
    exact this)
  have h2 : k_cnt (fun i => true && decide (k_run S (Q.2.1 i) = S.1 + 1)) Q.1 ≤ S.2.2.1.1.1 := by
    have := k_cnt_rel (q := fun i => true && decide (k_run S (Q.2.1 i) = S.1 + 1)) (p := fun _ => true) (a := Q.2.1) (b := S.2.2.1.1.2.1) (m := S.2.2.1.1.1) (n := Q.1) (k_srt_dn hQ.1) (fun j hj hq => by
      rw [Bool.true_and, decide_eq_true_eq] at hq
      have hv1 := hv j hj
      unfold k_val at hv1
      rw [if_neg (by omega)] at hv1
      by_cases g : k_pl S.2.2.1.1.1 S.2.2.1.1.2.1 (Q.2.1 j) < S.2.2.1.1.1
      · exact ⟨_, g, rfl, k_pl_at g⟩
      · rw [if_neg g] at hv1
        exact absurd rfl hv1)
    rw [k_cnt_all (p := fun _ => true) (fun _ _ => rfl)] at this
    exact this
  omega

