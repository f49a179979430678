/-! The digest of the class: nodes, what is found, counts, accounts, texts. -/
section KHD
variable {wz : Nat}
variable {N : Nat} {f : XM} {b : Nat} {S : KS} {T : KT}
theorem k_tlv_pos {T : KT} (hw : k_wt T) (h : 0 < k_tlv T) : 0 < T.2.2.1 := by
  rcases Nat.eq_zero_or_pos T.2.2.1 with z | z
  · unfold k_tlv at h
    rw [z] at h
    exact absurd h (by show ¬ 0 < k_lv _ 32 0; exact Nat.lt_irrefl 0)
  · exact z
theorem k_wt_nl {T : KT} (hw : k_wt T) (h : 0 < T.2.2.1) : k_sm T.2.2.2.2.1 2 8 ∧ k_sm T.2.2.2.2.2 2 6 := by
  rcases hw.2.2.2.2.2.2.2.2 with ⟨z1, z2, z3⟩ | z
  · omega
  · exact z
theorem k_hnode_loop {z4 : Int32} {v : Nat} (hN : 5000 ≤ N) (h : k_tree f b T) (hw : k_wt T) (hl : 0 < T.2.2.1) (hv : v < 32) (h0 : Int64) {K : Int64 → Int32 → Option Int64} : ∀ (d fuel i : Nat), i + d = k_nc (k_u T.2.2.2.2.2) (v + 1) T.2.2.1 → d < fuel →
    F_X5_hashOfNodes_L54 N f b z4 (nI v) (nI (k_nc (k_u T.2.2.2.2.2) (v + 1) T.2.2.1)) K fuel (k_hf (fun x h => k_mix (k_mix h (k_ch T (v + 1) (nI x)).toInt64) (T.2.2.2.1 (x * k_u T.2.2.2.2.2 ^ (v + 1))).toInt64) i h0) (nI i) = K (k_hf (fun x h => k_mix (k_mix h (k_ch T (v + 1) (nI x)).toInt64) (T.2.2.2.1 (x * k_u T.2.2.2.2.2 ^ (v + 1))).toInt64) (k_nc (k_u T.2.2.2.2.2) (v + 1) T.2.2.1) h0) (nI (k_nc (k_u T.2.2.2.2.2) (v + 1) T.2.2.1)) := by
  have h5 := h.2.2.2.2
  obtain ⟨m1, m2⟩ := k_wt_nl hw hl
  obtain ⟨e1, e2, e3⟩ := m2.e (by omega)
  have hle := k_nc_le (show 1 ≤ k_u T.2.2.2.2.2 by omega) (v + 1) T.2.2.1
  intro d
  induction d with
  | zero =>
    intro fuel i h1 h2
    obtain ⟨u, rfl⟩ : ∃ u, fuel = u + 1 := ⟨fuel - 1, by omega⟩
    have e : i = k_nc (k_u T.2.2.2.2.2) (v + 1) T.2.2.1 := by omega
    rw [F_X5_hashOfNodes_L54, if_pos (nI_le (by omega) (by omega)), e]
  | succ d ih =>
    intro fuel i h1 h2
    obtain ⟨u, rfl⟩ : ∃ u, fuel = u + 1 := ⟨fuel - 1, by omega⟩
    have i2 := ih u (i + 1) (by omega) (by omega)
    rw [k_hf] at i2
    have q1 := k_cchildren (N := N) (by omega) h m2 (D := v + 1) (by omega) (by omega) (nI i)
    have q2 := k_nodeBound (N := N) (by omega) h e1 (by omega) (D := v + 1) (x := i) (by omega) (by omega)
    rw [nI_pred] at q1 q2
    rw [F_X5_hashOfNodes_L54, if_neg (nI_ge (by omega) (by omega))]
    simp only [h.cv, q1, q2, k_mixF, Option.bind_some, k_add1]
    exact i2
theorem k_hnodes_loop (hN : 5000 ≤ N) (h : k_tree f b T) (hw : k_wt T) (h0 : Int64) : ∀ (d fuel v : Nat), v + d = k_tlv T → d < fuel →
    F_X5_hashOfNodes_L26 N f b (nI (k_tlv T)) (fun y _ => some y) fuel (k_hf (fun v h => k_hf (fun x h => k_mix (k_mix h (k_ch T (v + 1) (nI x)).toInt64) (T.2.2.2.1 (x * k_u T.2.2.2.2.2 ^ (v + 1))).toInt64) (k_nc (k_u T.2.2.2.2.2) (v + 1) T.2.2.1) (k_mix h (nI (k_nc (k_u T.2.2.2.2.2) (v + 1) T.2.2.1)).toInt64)) v h0) (nI v) = some (k_hf (fun v h => k_hf (fun x h => k_mix (k_mix h (k_ch T (v + 1) (nI x)).toInt64) (T.2.2.2.1 (x * k_u T.2.2.2.2.2 ^ (v + 1))).toInt64) (k_nc (k_u T.2.2.2.2.2) (v + 1) T.2.2.1) (k_mix h (nI (k_nc (k_u T.2.2.2.2.2) (v + 1) T.2.2.1)).toInt64)) (k_tlv T) h0) := by
  have h5 := h.2.2.2.2
  have htl : k_tlv T ≤ 32 := k_lv_le _ _ _
  intro d
  induction d with
  | zero =>
    intro fuel v h1 h2
    obtain ⟨u, rfl⟩ : ∃ u, fuel = u + 1 := ⟨fuel - 1, by omega⟩
    have e : v = k_tlv T := by omega
    subst e
    rw [F_X5_hashOfNodes_L26, if_pos (nI_le (Nat.le_refl _) (by omega))]
  | succ d ih =>
    intro fuel v h1 h2
    obtain ⟨u, rfl⟩ : ∃ u, fuel = u + 1 := ⟨fuel - 1, by omega⟩
    have hl := k_tlv_pos hw (by omega)
    obtain ⟨m1, m2⟩ := k_wt_nl hw hl
    obtain ⟨e1, e2, e3⟩ := m2.e (by omega)
    have hle := k_nc_le (show 1 ≤ k_u T.2.2.2.2.2 by omega) (v + 1) T.2.2.1
    have i2 := ih u (v + 1) (by omega) (by omega)
    rw [k_hf] at i2
    have q1 := k_nodeCount (N := N) (by omega) h e1 (by omega) (by omega) (D := v + 1) (by omega)
    rw [nI_pred] at q1
    rw [F_X5_hashOfNodes_L26, if_neg (nI_ge (by omega) (by omega))]
    simp only [h.cv, q1, k_mixF, Option.bind_some]
    refine (k_hnode_loop (N := N) hN h hw hl (by omega) _ (k_nc (k_u T.2.2.2.2.2) (v + 1) T.2.2.1) N 0 (by omega) (by omega)).trans ?_
    rw [k_add1]
    exact i2
theorem k_hashOfNodes {x : Nat} (hN : 5000 ≤ N) (hx : x_getr f 5 x 0 = some (some b)) (h : k_st f b S) (hw : k_wt S.2.2.1) (h0 : Int64) : F_X5_hashOfNodes N f x h0 = some (k_hnodes S.2.2.1 h0) := by
  have htl : k_tlv S.2.2.1 ≤ 32 := k_lv_le _ _ _
  simp only [F_X5_hashOfNodes, hx, h.tr, h.tree.cv, k_levelCount (show 1000 ≤ N by omega) h.tree hw, k_mixF, Option.bind_some]
  exact k_hnodes_loop hN h.tree hw _ (k_tlv S.2.2.1) N 0 (by omega) (by omega)
/-- a row that holds all that is found -/
def k_isA (S : KS) (R : KR) : Prop := R.1 = (k_all S).1 ∧ ∀ i, i < R.1 → R.2.1 i = (k_all S).2.1 i ∧ R.2.2 i = (k_all S).2.2 i
theorem k_rowA {p : Nat} {Q : KR} (h : k_row f p 532 Q) (hQ : k_fnd S Q) : k_row f p 532 (k_all S) ∧ k_okA S := by
  have hA := k_okA_of hQ h.le
  obtain ⟨e1, e2⟩ := k_fnd_uniq hQ hA.1
  exact ⟨h.cong e1 (fun i hi => (e2 i hi).1) (fun i hi => (e2 i hi).2), hA⟩
theorem k_hfound_loop {x p : Nat} (hN : 5000 ≤ N) (hx : x_getr f 5 x 0 = some (some b)) (h : k_st f b S) (hw : k_ws S) (hA : k_okA S) (hr : k_row f p 532 (k_all S)) (h0 : Int64) : ∀ (d fuel i : Nat), i + d = (k_all S).1 → d < fuel →
    F_X5_hashOfFound_L14 N f x p (fun y _ => some y) fuel (k_hf (k_hkey S) i h0) (nI i) = some (k_hf (k_hkey S) (k_all S).1 h0) := by
  have hl := hr.le
  intro d
  induction d with
  | zero =>
    intro fuel i h1 h2
    obtain ⟨u, rfl⟩ : ∃ u, fuel = u + 1 := ⟨fuel - 1, by omega⟩
    have e : i = (k_all S).1 := by omega
    subst e
    simp only [F_X5_hashOfFound_L14, hr.n, Option.bind_some]
    rw [if_pos (nI_le (Nat.le_refl _) (by omega))]
  | succ d ih =>
    intro fuel i h1 h2
    obtain ⟨u, rfl⟩ : ∃ u, fuel = u + 1 := ⟨fuel - 1, by omega⟩
    have i2 := ih u (i + 1) (by omega) (by omega)
    rw [k_hf] at i2
    have hi : i < (k_all S).1 := by omega
    obtain ⟨v1, v2⟩ := k_all_v hA.1 hi
    have hk := (hA.1.1.2 i hi).1
    simp only [F_X5_hashOfFound_L14, hr.n, hr.cv, k_keyOn hr hi, hx, h.cv, k_standingValue (show 1000 ≤ N by omega) h hw, k_pagesRead (show 1000 ≤ N by omega) h hw hk, k_standsByGoing hN h hw, k_mixF, k_mixG, Option.bind_some, k_add1, v1]
    rw [if_neg (nI_ge (by omega) (by omega)), if_pos (decide_eq_true v2)]
    exact i2
theorem k_hashOfFound {x p : Nat} (hN : 5000 ≤ N) (hx : x_getr f 5 x 0 = some (some b)) (h : k_st f b S) (hw : k_ws S) (hA : k_okA S) (hr : k_row f p 532 (k_all S)) (h0 : Int64) : F_X5_hashOfFound N f x h0 p = some (k_hkeys S h0) := by
  have hl := hr.le
  simp only [F_X5_hashOfFound, hr.n, k_mixF, Option.bind_some]
  exact k_hfound_loop hN hx h hw hA hr _ (k_all S).1 N 0 (by omega) (by omega)
theorem k_hashOfCounts {x p : Nat} (hN : 5000 ≤ N) (hx : x_getr f 5 x 0 = some (some b)) (h : k_st f b S) (hw : k_ws S) (hA : k_okA S) (hr : k_row f p 532 (k_all S)) (h0 : Int64) : F_X5_hashOfCounts N f x h0 p = some (k_hcnt S h0) := by
  simp only [F_X5_hashOfCounts, hx, h.cv, k_countStanding hN h hw, hr.cv, k_countFrom hN hr hA.1.1, k_mixF, k_cst_eq hw hA, Option.bind_some]
  rfl
theorem k_mostPages {x p : Nat} (hN : 5000 ≤ N) (hx : x_getr f 5 x 0 = some (some b)) (h : k_st f b S) (hw : k_ws S) (hA : k_okA S) (hr : k_row f p 532 (k_all S)) : ∀ (d fuel i : Nat), i + d = (k_all S).1 → d < fuel →
    F_X5_mostPagesOf_L4 N f x p (fun y _ => some y) fuel (nI (k_mxp (fun i => k_pg S ((k_all S).2.1 i)) i)) (nI i) = some (nI (k_wst S)) := by
  have hl := hr.le
  intro d
  induction d with
  | zero =>
    intro fuel i h1 h2
    obtain ⟨u, rfl⟩ : ∃ u, fuel = u + 1 := ⟨fuel - 1, by omega⟩
    have e : i = (k_all S).1 := by omega
    subst e
    simp only [F_X5_mostPagesOf_L4, hr.n, Option.bind_some]
    rw [if_pos (nI_le (Nat.le_refl _) (by omega))]
    rfl
  | succ d ih =>
    intro fuel i h1 h2
    obtain ⟨u, rfl⟩ : ∃ u, fuel = u + 1 := ⟨fuel - 1, by omega⟩
    have i2 := ih u (i + 1) (by omega) (by omega)
    have hi : i < (k_all S).1 := by omega
    have hk := (hA.1.1.2 i hi).1
    have b1 := k_pg_le hw ((k_all S).2.1 i)
    have b2 := k_mxp_le (p := fun i => k_pg S ((k_all S).2.1 i)) (m := 300) (n := i) (fun i _ => k_pg_le hw _)
    simp only [F_X5_mostPagesOf_L4, hr.n, hr.cv, k_keyOn hr hi, hx, h.cv, k_pagesRead (show 1000 ≤ N by omega) h hw hk, Option.bind_some, k_add1]
    rw [if_neg (nI_ge (by omega) (by omega)), k_imax _ _ (by omega) (by omega)]
    exact i2
theorem k_meanPages {x p : Nat} (hN : 5000 ≤ N) (hx : x_getr f 5 x 0 = some (some b)) (h : k_st f b S) (hw : k_ws S) (hA : k_okA S) (hr : k_row f p 532 (k_all S)) : ∀ (d fuel i : Nat), i + d = (k_all S).1 → d < fuel →
    F_X5_meanPagesOf_L4 N f x p (fun y2_7 y3_7 => (x_geti f 2 p 2).bind fun v8 => if 0 < v8 then (x_geti f 2 p 2).bind fun v9 => (x_dn (FP.ddiv (FP.i2d y2_7) (FP.i2d v9))).bind fun v10 => some v10 else some FP.dconst0) fuel (nI (k_sum (fun i => k_pg S ((k_all S).2.1 i)) i)) (nI i) = some (k_men S) := by
  have hl := hr.le
  intro d
  induction d with
  | zero =>
    intro fuel i h1 h2
    obtain ⟨u, rfl⟩ : ∃ u, fuel = u + 1 := ⟨fuel - 1, by omega⟩
    have e : i = (k_all S).1 := by omega
    subst e
    simp only [F_X5_meanPagesOf_L4, hr.n, Option.bind_some]
    rw [if_pos (nI_le (Nat.le_refl _) (by omega))]
    unfold k_men k_ds
    by_cases z : (k_all S).1 = 0
    · rw [if_pos z, if_neg (by rw [z]; decide)]
    · rw [if_neg z, if_pos (show (0 : Int32) < nI (k_all S).1 from nI_lt (a := 0) (by omega) (by omega))]
      have := k_dq_n (a := k_pgs S) (b := (k_all S).1) (k_pgs_le hw hA) (by omega) (by omega)
      rw [show k_sum (fun i => k_pg S ((k_all S).2.1 i)) (k_all S).1 = k_pgs S from rfl, this]
      rfl
  | succ d ih =>
    intro fuel i h1 h2
    obtain ⟨u, rfl⟩ : ∃ u, fuel = u + 1 := ⟨fuel - 1, by omega⟩
    have i2 := ih u (i + 1) (by omega) (by omega)
    have hi : i < (k_all S).1 := by omega
    have hk := (hA.1.1.2 i hi).1
    simp only [F_X5_meanPagesOf_L4, hr.n, hr.cv, k_keyOn hr hi, hx, h.cv, k_pagesRead (show 1000 ≤ N by omega) h hw hk, Option.bind_some, k_add1, nI_add] at i2 ⊢
    rw [if_neg (nI_ge (by omega) (by omega))]
    exact i2
theorem k_share_loop (h : k_tree f b T) (hw : k_wt T) : ∀ (d fuel i : Nat), i + d = T.1.1 → d < fuel →
    F_X4_shareInOverflow_L4 N f b (fun y1_6 y2_6 => (x_getr f 4 b 0).bind fun v7 => Option.bind v7 fun a8 => (x_geti f 2 a8 2).bind fun v9 => if 0 < v9 then (x_getr f 4 b 0).bind fun v10 => Option.bind v10 fun a11 => (x_geti f 2 a11 2).bind fun v12 => (x_dn (FP.ddiv (FP.i2d y1_6) (FP.i2d v12))).bind fun v13 => some v13 else some FP.dconst0) fuel (nI (k_cnt (fun i => decide (0 < T.2.1 i)) i)) (nI i) = some (k_shr T) := by
  have hl := h.row.le
  intro d
  induction d with
  | zero =>
    intro fuel i h1 h2
    obtain ⟨u, rfl⟩ : ∃ u, fuel = u + 1 := ⟨fuel - 1, by omega⟩
    have e : i = T.1.1 := by omega
    subst e
    have hc := k_cnt_le (fun i => decide (0 < T.2.1 i)) T.1.1
    simp only [F_X4_shareInOverflow_L4, h.r, h.row.n, Option.bind_some]
    rw [if_pos (nI_le (Nat.le_refl _) (by omega))]
    unfold k_shr k_ds
    by_cases z : T.1.1 = 0
    · rw [if_pos z, if_neg (by rw [z]; decide)]
    · rw [if_neg z, if_pos (show (0 : Int32) < nI T.1.1 from nI_lt (a := 0) (by omega) (by omega)), k_dq_n (by omega) (by omega) (by omega)]
      rfl
  | succ d ih =>
    intro fuel i h1 h2
    obtain ⟨u, rfl⟩ : ∃ u, fuel = u + 1 := ⟨fuel - 1, by omega⟩
    have i2 := ih u (i + 1) (by omega) (by omega)
    simp only [F_X4_shareInOverflow_L4, h.r, h.row.n, h.cv, k_placeOn h (i := i) (by omega), Option.bind_some, k_add1] at i2 ⊢
    rw [if_neg (nI_ge (by omega) (by omega))]
    by_cases g : 0 < T.2.1 i
    · rw [if_neg (by rw [k_i_le]; rw [k_i_lt] at g; omega)]
      rw [k_cnt_y (decide_eq_true g)] at i2
      exact i2
    · rw [if_pos (by rw [k_i_le]; rw [k_i_lt] at g; omega)]
      rw [k_cnt_n (decide_eq_false g)] at i2
      exact i2
theorem k_shareInOverflow (hN : 1000 ≤ N) (h : k_tree f b T) (hw : k_wt T) : F_X4_shareInOverflow N f b = some (k_shr T) :=
  k_share_loop h hw T.1.1 N 0 (by omega) (by have := h.row.le; omega)
end KHD

