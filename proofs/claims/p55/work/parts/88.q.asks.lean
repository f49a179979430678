/-! What the class's asking methods answer, of the state alone. -/
abbrev KA : Type := Int32 ⊕ Nat
def qm (a : KA) (f : XM) : (Int32 × XM) ⊕ (Nat × XM) := match a with | .inl v => .inl (v, f) | .inr c => .inr (c, f)
def qa_val (S : KS) (k : Int32) : KA := if 0 ≤ k.toInt ∧ k.toInt ≤ 9999 then (if k_val S k = -1 then .inr 1 else .inl (k_val S k)) else .inr 0
def qa_ft (S : KS) (k : Int32) : Bool ⊕ Nat := if 0 ≤ k.toInt ∧ k.toInt ≤ 9999 then .inl (decide (k_val S k ≠ -1)) else .inr 0
def qa_pg (S : KS) (k : Int32) : KA := if 0 ≤ k.toInt ∧ k.toInt ≤ 9999 then .inl (nI (k_pg S k)) else .inr 0
def qa_cl (S : KS) (lo hi : Int32) : KA := if (0 ≤ lo.toInt ∧ lo.toInt ≤ 9999) ∧ lo.toInt ≤ hi.toInt ∧ hi.toInt ≤ 9999 then .inl (nI (k_cst S lo hi)) else .inr 0
def qa_sz (S : KS) (r : Int32) : KA := if 0 ≤ r.toInt ∧ r.toInt ≤ S.1 then .inl (nI (S.2.1 (k_u r)).1) else .inr 2
def qa_ki (S : KS) (r p : Int32) : KA := if (0 ≤ r.toInt ∧ r.toInt ≤ S.1) ∧ 0 ≤ p.toInt ∧ p.toInt < (S.2.1 (k_u r)).1 then .inl ((S.2.1 (k_u r)).2.1 (k_u p)) else .inr 2
def qa_go (S : KS) (r p : Int32) : Bool ⊕ Nat := if (0 ≤ r.toInt ∧ r.toInt ≤ S.1) ∧ 0 ≤ p.toInt ∧ p.toInt < (S.2.1 (k_u r)).1 then .inl (decide ((S.2.1 (k_u r)).2.2 (k_u p) = -1)) else .inr 2
def qa_run (S : KS) (k : Int32) : KA := if 0 ≤ k.toInt ∧ k.toInt ≤ 9999 then (if k_run S k ≤ S.1 then .inl (nI (k_run S k)) else .inr 1) else .inr 0
def qa_own (S : KS) (l : Int32) : KA := if 0 ≤ l.toInt ∧ l.toInt < S.2.2.1.2.2.1 then .inl (nI (k_own S.2.2.1 (k_u l))) else .inr 2
def qa_ov (S : KS) (l : Int32) : KA := if 0 ≤ l.toInt ∧ l.toInt < S.2.2.1.2.2.1 then .inl (nI (k_ovf S.2.2.1 (k_u l))) else .inr 2
def qa_ol (S : KS) (l : Int32) : KA := if 0 ≤ l.toInt ∧ l.toInt < S.2.2.1.2.2.1 then .inl (nI (k_ru (k_ovf S.2.2.1 (k_u l)) (k_u S.2.2.1.2.2.2.2.1))) else .inr 2
def qa_lk (S : KS) (l p : Int32) : KA := if (0 ≤ l.toInt ∧ l.toInt < S.2.2.1.2.2.1) ∧ 0 ≤ p.toInt ∧ k_oe S.2.2.1 (k_u l) (k_u p) < S.2.2.1.1.1 then .inl (S.2.2.1.1.2.1 (k_oe S.2.2.1 (k_u l) (k_u p))) else .inr 2
def qa_nd (S : KS) (v : Int32) : KA := if 0 ≤ v.toInt ∧ v.toInt < k_tlv S.2.2.1 then .inl (nI (k_nn2 S (k_u v))) else .inr 2
def qa_ch (S : KS) (v p : Int32) : KA := if (0 ≤ v.toInt ∧ v.toInt < k_tlv S.2.2.1) ∧ 0 ≤ p.toInt ∧ p.toInt < k_nn2 S (k_u v) then .inl (k_ch S.2.2.1 (k_u v + 1) p) else .inr 2
def qa_bd (S : KS) (v p : Int32) : KA := if (0 ≤ v.toInt ∧ v.toInt < k_tlv S.2.2.1) ∧ 0 ≤ p.toInt ∧ p.toInt < k_nn2 S (k_u v) then .inl (S.2.2.1.2.2.2.1 (k_u p * k_u S.2.2.1.2.2.2.2.2 ^ (k_u v + 1))) else .inr 2
def qa_lf (S : KS) (k : Int32) : KA := if 0 ≤ k.toInt ∧ k.toInt ≤ 9999 then (if S.2.2.1.2.2.1 = 0 then .inr 1 else .inl (nI (k_lf S.2.2.1 k - 1))) else .inr 0
noncomputable def qa_nx (S : KS) (k : Int32) : KA := if 0 ≤ k.toInt ∧ k.toInt ≤ 9999 then (if k_rk (k_all S).1 (k_all S).2.1 (k + 1) < (k_all S).1 then .inl ((k_all S).2.1 (k_rk (k_all S).1 (k_all S).2.1 (k + 1))) else .inr 1) else .inr 0
noncomputable def qa_kb (S : KS) (k : Int32) : KA := if 0 ≤ k.toInt ∧ k.toInt ≤ 9999 then (if k_rk (k_all S).1 (k_all S).2.1 k = 0 then .inr 1 else .inl ((k_all S).2.1 (k_rk (k_all S).1 (k_all S).2.1 k - 1))) else .inr 0
noncomputable def qa_cn (S : KS) (lo hi : Int32) : KA := if (0 ≤ lo.toInt ∧ lo.toInt ≤ 9999) ∧ lo.toInt ≤ hi.toInt ∧ hi.toInt ≤ 9999 then .inl (nI (k_btw (k_all S).1 (k_all S).2.1 lo hi)) else .inr 0
noncomputable def qa_ka (S : KS) (p : Int32) : KA := if 0 ≤ p.toInt ∧ p.toInt < (k_all S).1 then .inl ((k_all S).2.1 (k_u p)) else .inr 2
noncomputable def qa_lb (S : KS) (p : Int32) : KA := if 50 ≤ p.toInt ∧ p.toInt ≤ 100 then .inl (nI (k_lvb S (k_u p))) else .inr 0
noncomputable def qa_ll (S : KS) (p : Int32) : KA := if 50 ≤ p.toInt ∧ p.toInt ≤ 100 then .inl (nI (k_llb S (k_u p))) else .inr 0
section KQA
variable {wz : Nat}
variable {N : Nat} {x : Nat} {f : XM} {n len : Nat} {q : Nat → Option Nat} {St : Nat → KS} {S : KS} {bf : Nat → Int32}
theorem q_saved (h : k_ci f x wz n q St S bf len) : F_X5_savedStates N f x = some (nI n) := by
  simp only [F_X5_savedStates, h.cnt, Option.bind_some]
theorem q_val (hN : 50000 ≤ N) (h : k_ci f x wz n q St S bf len) (hw : k_ws S) (k : Int32) : F_X5_valueOf N f x k = some (qa_val S k) := by
  unfold F_X5_valueOf qa_val
  rw [k_reqKey, Option.bind_some]
  by_cases g : 0 ≤ k.toInt ∧ k.toInt ≤ 9999
  · rw [if_pos g, if_pos g]
    simp only [x_se, h.now, Option.bind_some, h.st.cv, k_standingValue (N := N) (by omega) h.st hw k]
    by_cases gv : k_val S k = -1
    · rw [if_pos gv, if_pos gv]
    · rw [if_neg gv, if_neg gv]
  · rw [if_neg g, if_neg g]
    rfl
theorem q_ft (hN : 50000 ≤ N) (h : k_ci f x wz n q St S bf len) (hw : k_ws S) (k : Int32) : F_X5_isFoundByTree N f x k = some (qa_ft S k) := by
  unfold F_X5_isFoundByTree qa_ft
  rw [k_reqKey, Option.bind_some]
  by_cases g : 0 ≤ k.toInt ∧ k.toInt ≤ 9999
  · rw [if_pos g, if_pos g]
    simp only [x_se, h.now, Option.bind_some, h.st.cv, k_standingValue (N := N) (by omega) h.st hw k]
    by_cases gv : k_val S k = -1
    · rw [if_pos gv, decide_eq_false (fun y => y gv)]
    · rw [if_neg gv, decide_eq_true gv]
  · rw [if_neg g, if_neg g]
    rfl
theorem q_fg (hN : 50000 ≤ N) (h : k_ci f x wz n q St S bf len) (hw : k_ws S) (k : Int32) : F_X5_isFoundByGoing N f x k = some (qa_ft S k) := by
  unfold F_X5_isFoundByGoing qa_ft
  rw [k_reqKey, Option.bind_some]
  by_cases g : 0 ≤ k.toInt ∧ k.toInt ≤ 9999
  · rw [if_pos g, if_pos g]
    simp only [x_se, h.now, Option.bind_some, h.st.cv, k_standsByGoing (N := N) (by omega) h.st hw k]
  · rw [if_neg g, if_neg g]
    rfl
theorem q_pg (hN : 50000 ≤ N) (h : k_ci f x wz n q St S bf len) (hw : k_ws S) (k : Int32) : F_X5_pagesFor N f x k = some (qa_pg S k) := by
  unfold F_X5_pagesFor qa_pg
  rw [k_reqKey, Option.bind_some]
  by_cases g : 0 ≤ k.toInt ∧ k.toInt ≤ 9999
  · rw [if_pos g, if_pos g]
    simp only [x_se, h.now, Option.bind_some, h.st.cv, k_pagesRead (N := N) (by omega) h.st hw g.1]
  · rw [if_neg g, if_neg g]
    rfl
theorem q_cl (hN : 50000 ≤ N) (h : k_ci f x wz n q St S bf len) (hw : k_ws S) (lo hi : Int32) : F_X5_countByLeaves N f x lo hi = some (qa_cl S lo hi) := by
  unfold F_X5_countByLeaves qa_cl
  rw [k_reqRange, Option.bind_some]
  by_cases g : (0 ≤ lo.toInt ∧ lo.toInt ≤ 9999) ∧ lo.toInt ≤ hi.toInt ∧ hi.toInt ≤ 9999
  · rw [if_pos g, if_pos g]
    simp only [x_se, h.now, Option.bind_some, h.st.cv, k_countStanding (N := N) (by omega) h.st hw lo hi]
  · rw [if_neg g, if_neg g]
    rfl
theorem q_run (hN : 50000 ≤ N) (h : k_ci f x wz n q St S bf len) (hw : k_ws S) (k : Int32) : F_X5_runOf N f x k = some (qa_run S k) := by
  unfold F_X5_runOf qa_run
  rw [k_reqKey, Option.bind_some]
  by_cases g : 0 ≤ k.toInt ∧ k.toInt ≤ 9999
  · rw [if_pos g, if_pos g]
    simp only [x_se, h.now, Option.bind_some, h.st.cv, k_runTelling (N := N) (by omega) h.st hw k]
    by_cases gv : k_run S k ≤ S.1
    · have h6 := h.st.2.1
      rw [if_pos gv, if_pos gv, if_neg (k_nim1 _ (by omega))]
    · rw [if_neg gv, if_neg gv, if_pos rfl]
  · rw [if_neg g, if_neg g]
    rfl
theorem q_sz (h : k_ci f x wz n q St S bf len) (r : Int32) : F_X5_sizeOf N f x r = some (qa_sz S r) := by
  unfold F_X5_sizeOf qa_sz
  by_cases g : 0 ≤ r.toInt ∧ r.toInt ≤ S.1
  · obtain ⟨j, j1, rfl, j3⟩ := k_nn (x := r) (by omega)
    obtain ⟨p, cc, y1, y2, y3⟩ := k_runOn (N := N) h.st (r := j) (by omega)
    rw [if_pos g, k_u_n j1]
    simp only [h.now, h.st.cv, y1, y2.n, Option.bind_some, Option.elim_some]
  · rw [if_neg g]
    simp only [h.now, h.st.cv, k_runOn_o (N := N) h.st (r := r) (by omega), Option.bind_some, Option.elim_none]
theorem q_ki (h : k_ci f x wz n q St S bf len) (r p : Int32) : F_X5_keyIn N f x r p = some (qa_ki S r p) := by
  unfold F_X5_keyIn qa_ki
  by_cases g1 : 0 ≤ r.toInt ∧ r.toInt ≤ S.1
  · obtain ⟨j, j1, rfl, j3⟩ := k_nn (x := r) (by omega)
    obtain ⟨p', cc, y1, y2, y3⟩ := k_runOn (N := N) h.st (r := j) (by omega)
    have hle := y2.le
    have hc4 := y2.c4
    rw [k_u_n j1]
    by_cases g : 0 ≤ p.toInt ∧ p.toInt < (S.2.1 j).1
    · obtain ⟨u, u1, rfl, u3⟩ := k_nn (x := p) (by omega)
      rw [if_pos ⟨g1, g⟩, k_u_n u1]
      simp only [h.now, h.st.cv, y1, y2.cv, k_has y2, Option.bind_some, Option.elim_some]
      rw [if_neg (k_xb1 g)]
      simp only [k_keyOn (N := N) y2 (i := u) (by omega), Option.bind_some]
    · rw [if_neg (fun y => g y.2)]
      simp only [h.now, h.st.cv, y1, y2.cv, k_has y2, Option.bind_some, Option.elim_some]
      rw [if_pos (k_xb0 g)]
  · rw [if_neg (fun y => g1 y.1)]
    simp only [h.now, h.st.cv, k_runOn_o (N := N) h.st (r := r) (by omega), Option.bind_some, Option.elim_none]
theorem q_go (h : k_ci f x wz n q St S bf len) (r p : Int32) : F_X5_isGoneIn N f x r p = some (qa_go S r p) := by
  unfold F_X5_isGoneIn qa_go
  by_cases g1 : 0 ≤ r.toInt ∧ r.toInt ≤ S.1
  · obtain ⟨j, j1, rfl, j3⟩ := k_nn (x := r) (by omega)
    obtain ⟨p', cc, y1, y2, y3⟩ := k_runOn (N := N) h.st (r := j) (by omega)
    have hle := y2.le
    have hc4 := y2.c4
    rw [k_u_n j1]
    by_cases g : 0 ≤ p.toInt ∧ p.toInt < (S.2.1 j).1
    · obtain ⟨u, u1, rfl, u3⟩ := k_nn (x := p) (by omega)
      rw [if_pos ⟨g1, g⟩, k_u_n u1]
      simp only [h.now, h.st.cv, y1, y2.cv, k_has y2, Option.bind_some, Option.elim_some]
      rw [if_neg (k_xb1 g)]
      simp only [k_valueOn (N := N) y2 (i := u) (by omega), Option.bind_some]
      by_cases gv : (S.2.1 j).2.2 u = -1
      · rw [if_pos gv, decide_eq_true gv]
      · rw [if_neg gv, decide_eq_false gv]
    · rw [if_neg (fun y => g y.2)]
      simp only [h.now, h.st.cv, y1, y2.cv, k_has y2, Option.bind_some, Option.elim_some]
      rw [if_pos (k_xb0 g)]
  · rw [if_neg (fun y => g1 y.1)]
    simp only [h.now, h.st.cv, k_runOn_o (N := N) h.st (r := r) (by omega), Option.bind_some, Option.elim_none]
theorem q_own (hN : 50000 ≤ N) (h : k_ci f x wz n q St S bf len) (hw : k_ws S) (l : Int32) : F_X5_entriesOf N f x l = some (qa_own S l) := by
  unfold F_X5_entriesOf qa_own
  rw [h.cv, k_reqLeaf h, Option.bind_some]
  by_cases g : 0 ≤ l.toInt ∧ l.toInt < S.2.2.1.2.2.1
  · obtain ⟨j, j1, rfl, j3⟩ := k_nn (x := l) (by omega)
    rw [if_pos g, if_pos g, k_u_n j1]
    simp only [x_se, h.now, h.st.tr, h.st.tree.cv, k_ownCount (N := N) (by omega) h.st.tree hw.2.2.2.2.1 (l := j) (by omega), Option.bind_some]
  · rw [if_neg g, if_neg g]
    rfl
theorem q_ov (hN : 50000 ≤ N) (h : k_ci f x wz n q St S bf len) (hw : k_ws S) (l : Int32) : F_X5_overflowOf N f x l = some (qa_ov S l) := by
  unfold F_X5_overflowOf qa_ov
  rw [h.cv, k_reqLeaf h, Option.bind_some]
  by_cases g : 0 ≤ l.toInt ∧ l.toInt < S.2.2.1.2.2.1
  · obtain ⟨j, j1, rfl, j3⟩ := k_nn (x := l) (by omega)
    rw [if_pos g, if_pos g, k_u_n j1]
    simp only [x_se, h.now, h.st.tr, h.st.tree.cv, k_overflowCount (N := N) (by omega) h.st.tree hw.2.2.2.2.1 (l := j) (by omega), Option.bind_some]
  · rw [if_neg g, if_neg g]
    rfl
theorem q_ol (hN : 50000 ≤ N) (h : k_ci f x wz n q St S bf len) (hw : k_ws S) (l : Int32) : F_X5_overflowLeaves N f x l = some (qa_ol S l) := by
  unfold F_X5_overflowLeaves qa_ol
  rw [h.cv, k_reqLeaf h, Option.bind_some]
  by_cases g : 0 ≤ l.toInt ∧ l.toInt < S.2.2.1.2.2.1
  · obtain ⟨j, j1, rfl, j3⟩ := k_nn (x := l) (by omega)
    rw [if_pos g, if_pos g, k_u_n j1]
    simp only [x_se, h.now, h.st.tr, h.st.tree.cv, k_overflowLeafCount (N := N) (by omega) h.st.tree hw.2.2.2.2.1 (l := j) (by omega), Option.bind_some]
  · rw [if_neg g, if_neg g]
    rfl
theorem q_lk (hN : 50000 ≤ N) (h : k_ci f x wz n q St S bf len) (hw : k_ws S) (l p : Int32) : F_X5_leafKey N f x l p = some (qa_lk S l p) := by
  unfold F_X5_leafKey qa_lk
  have hn160 := hw.2.2.2.2.1.2.2.1
  rw [h.cv, k_reqLeaf h, Option.bind_some]
  by_cases g : 0 ≤ l.toInt ∧ l.toInt < S.2.2.1.2.2.1
  · obtain ⟨j, j1, rfl, j3⟩ := k_nn (x := l) (by omega)
    rw [if_pos g, k_u_n j1]
    have hoe := k_ownEntry (N := N) (by omega) h.st.tree hw.2.2.2.2.1 (l := j) (by omega) p
    by_cases ge : 0 ≤ p.toInt ∧ k_oe S.2.2.1 j (k_u p) < S.2.2.1.1.1
    · rw [if_pos ge] at hoe
      rw [if_pos ⟨g, ge⟩]
      simp only [x_se, h.now, h.st.tr, h.st.tree.cv, hoe, Option.bind_some]
      rw [if_neg (k_nim1 _ (by omega))]
      simp only [h.st.tree.r, h.st.tree.row.cv, k_keyOn (N := N) h.st.tree.row ge.2, Option.bind_some]
    · rw [if_neg ge] at hoe
      rw [if_neg (fun y => ge y.2)]
      simp only [x_se, h.now, h.st.tr, h.st.tree.cv, hoe, Option.bind_some]
      rw [if_pos trivial]
  · rw [if_neg g, if_neg (fun y => g y.1)]
    rfl
theorem q_levels (hN : 50000 ≤ N) (h : k_ci f x wz n q St S bf len) (hw : k_ws S) : F_X5_levels N f x = some (nI (k_tlv S.2.2.1)) := by
  simp only [F_X5_levels, h.now, h.st.tr, h.st.tree.cv, k_levelCount (N := N) (by omega) h.st.tree hw.2.2.2.2.1, Option.bind_some]
theorem q_nd (hN : 50000 ≤ N) (h : k_ci f x wz n q St S bf len) (hw : k_ws S) (v : Int32) : F_X5_nodesAt N f x v = some (qa_nd S v) := by
  have h32 : k_tlv S.2.2.1 ≤ 32 := k_lv_32 _ _ _
  unfold F_X5_nodesAt qa_nd
  rw [h.cv, k_reqLevel hN h hw, Option.bind_some]
  by_cases g : 0 ≤ v.toInt ∧ v.toInt < k_tlv S.2.2.1
  · obtain ⟨j, j1, rfl, j3⟩ := k_nn (x := v) (by omega)
    have hl := k_tlv_pos hw.2.2.2.2.1 (by omega)
    rw [if_pos g, if_pos g, k_u_n j1]
    simp only [x_se, h.now, h.st.tr, h.st.tree.cv, k_cnodes hN h.st.tree hw.2.2.2.2.1 hl (v := j) (by omega), Option.bind_some]
  · rw [if_neg g, if_neg g]
    rfl
theorem q_ch (hN : 50000 ≤ N) (h : k_ci f x wz n q St S bf len) (hw : k_ws S) (v p : Int32) : F_X5_childrenOf N f x v p = some (qa_ch S v p) := by
  have h32 : k_tlv S.2.2.1 ≤ 32 := k_lv_32 _ _ _
  unfold F_X5_childrenOf qa_ch
  rw [h.cv, k_reqLevel hN h hw, Option.bind_some]
  by_cases g1 : 0 ≤ v.toInt ∧ v.toInt < k_tlv S.2.2.1
  · obtain ⟨j, j1, rfl, j3⟩ := k_nn (x := v) (by omega)
    have hl := k_tlv_pos hw.2.2.2.2.1 (by omega)
    rw [if_pos g1, k_u_n j1]
    simp only [x_se, h.cv, k_reqNode hN h hw.2.2.2.2.1 hl (v := j) (by omega), Option.bind_some]
    by_cases g : 0 ≤ p.toInt ∧ p.toInt < k_nn2 S j
    · obtain ⟨u, u1, rfl, u3⟩ := k_nn (x := p) (by omega)
      have hcc := k_cchildren (N := N) (by omega) h.st.tree (k_wt_nl hw.2.2.2.2.1 hl).2 (D := j + 1) (by omega) (by omega) (nI u)
      rw [nI_pred] at hcc
      rw [if_pos g, if_pos ⟨g1, g⟩]
      simp only [h.now, h.st.tr, h.st.tree.cv, hcc, Option.bind_some]
    · rw [if_neg g, if_neg (fun y => g y.2)]
  · rw [if_neg g1, if_neg (fun y => g1 y.1)]
    rfl
theorem q_bd (hN : 50000 ≤ N) (h : k_ci f x wz n q St S bf len) (hw : k_ws S) (v p : Int32) : F_X5_boundOf N f x v p = some (qa_bd S v p) := by
  have h32 : k_tlv S.2.2.1 ≤ 32 := k_lv_32 _ _ _
  unfold F_X5_boundOf qa_bd
  rw [h.cv, k_reqLevel hN h hw, Option.bind_some]
  by_cases g1 : 0 ≤ v.toInt ∧ v.toInt < k_tlv S.2.2.1
  · obtain ⟨j, j1, rfl, j3⟩ := k_nn (x := v) (by omega)
    have hl := k_tlv_pos hw.2.2.2.2.1 (by omega)
    obtain ⟨e1, e2, e3⟩ := (k_wt_nl hw.2.2.2.2.1 hl).2.e (by omega)
    rw [if_pos g1, k_u_n j1]
    simp only [x_se, h.cv, k_reqNode hN h hw.2.2.2.2.1 hl (v := j) (by omega), Option.bind_some]
    by_cases g : 0 ≤ p.toInt ∧ p.toInt < k_nn2 S j
    · obtain ⟨u, u1, rfl, u3⟩ := k_nn (x := p) (by omega)
      have hu : u < k_nc (k_u S.2.2.1.2.2.2.2.2) (j + 1) S.2.2.1.2.2.1 := by
        have : u < k_nn2 S j := by omega
        unfold k_nn2 at this
        exact this
      have hcc := k_nodeBound (N := N) (by omega) h.st.tree e1 (by omega) (D := j + 1) (x := u) (by omega) hu
      rw [nI_pred] at hcc
      rw [if_pos g, if_pos ⟨g1, g⟩, k_u_n u1]
      simp only [h.now, h.st.tr, h.st.tree.cv, hcc, Option.bind_some]
    · rw [if_neg g, if_neg (fun y => g y.2)]
  · rw [if_neg g1, if_neg (fun y => g1 y.1)]
    rfl
theorem q_lf (hN : 50000 ≤ N) (h : k_ci f x wz n q St S bf len) (hw : k_ws S) (k : Int32) : F_X5_leafFor N f x k = some (qa_lf S k) := by
  have h512 := hw.2.2.2.2.1.2.2.2.1
  unfold F_X5_leafFor qa_lf
  rw [k_reqKey, Option.bind_some]
  by_cases g : 0 ≤ k.toInt ∧ k.toInt ≤ 9999
  · have hlc := k_leafOfKey (N := N) (by omega) h.st.tree hw.2.2.2.2.1 k
    have hle := k_lf_le S.2.2.1 k
    rw [if_pos g, if_pos g]
    simp only [x_se, h.now, h.st.tr, h.st.tree.cv, hlc, Option.bind_some]
    by_cases gl : S.2.2.1.2.2.1 = 0
    · rw [if_pos gl, if_pos (by rw [show k_lf S.2.2.1 k = 0 by omega]; rfl)]
    · have hlp := k_lf_pos hw.2.2.2.2.1 g.1 (show 0 < S.2.2.1.2.2.1 by omega)
      obtain ⟨u, hu⟩ : ∃ u, k_lf S.2.2.1 k = u + 1 := ⟨k_lf S.2.2.1 k - 1, by omega⟩
      rw [if_neg gl, hu, nI_pred, if_neg (k_nim1 _ (by omega))]
      rfl
  · rw [if_neg g, if_neg g]
    rfl
theorem q_runs (h : k_ci f x wz n q St S bf len) : F_X5_runs N f x = some (nI S.1) := by
  simp only [F_X5_runs, h.now, h.st.cc, Option.bind_some]
theorem q_entries (h : k_ci f x wz n q St S bf len) : F_X5_entries N f x = some (nI S.2.2.1.1.1) := by
  simp only [F_X5_entries, h.now, h.st.tr, h.st.tree.r, h.st.tree.row.n, Option.bind_some]
theorem q_leaves (h : k_ci f x wz n q St S bf len) : F_X5_leaves N f x = some (nI S.2.2.1.2.2.1) := by
  simp only [F_X5_leaves, h.now, h.st.tr, h.st.tree.l, Option.bind_some]
theorem q_builds (h : k_ci f x wz n q St S bf len) : F_X5_builds N f x = some S.2.2.2.2.2.1 := by
  simp only [F_X5_builds, h.now, h.st.bc, Option.bind_some]
theorem q_written (h : k_ci f x wz n q St S bf len) : F_X5_written N f x = some S.2.2.2.2.2.2 := by
  simp only [F_X5_written, h.now, h.st.wc, Option.bind_some]
theorem q_told (hN : 50000 ≤ N) (h : k_ci f x wz n q St S bf len) : F_X5_told N f x = some (nI (k_told S)) := by
  simp only [F_X5_told, h.now, h.st.cv, k_toldCount (N := N) (by omega) h.st, Option.bind_some]
theorem q_share (hN : 50000 ≤ N) (h : k_ci f x wz n q St S bf len) (hw : k_ws S) : F_X5_overflowShare N f x = some (k_shr S.2.2.1) := by
  simp only [F_X5_overflowShare, h.now, h.st.tr, h.st.tree.cv, k_shareInOverflow (N := N) (by omega) h.st.tree hw.2.2.2.2.1, Option.bind_some]
/-- what is gathered -/
theorem q_gth (hN : 50000 ≤ N) (h : k_ci f x wz n q St S bf len) (hw : k_ws S) : ∃ (f1 : XM) (r : Nat), F_X0_gather N f (x + 63) (x + 1) = some (some r, f1) ∧ k_row f1 r 532 (k_all S) ∧ k_okA S ∧ k_ci f1 x wz n q St S bf len ∧ ∀ a, x + 70 ≤ a → f1 a = f a := by
  obtain ⟨f1, r, Q, b1, b2, b3, b4, b5, b6, b7⟩ := k_gather (N := N) (by omega) h.st hw h.gat (Or.inr (by omega))
  obtain ⟨w1, w2⟩ := k_rowA b2 b7
  exact ⟨f1, r, b1, w1, w2, h.setnow (k_fr2.ofg b6 (Nat.le_refl _) (by omega)) (h.st.fr b6 (by omega)) b5, fun a ha => b6 a (by omega)⟩
theorem q_found (hN : 50000 ≤ N) (h : k_ci f x wz n q St S bf len) (hw : k_ws S) : ∃ f1, F_X5_found N f x = some (nI (k_all S).1, f1) ∧ k_ci f1 x wz n q St S bf len ∧ ∀ a, x + 70 ≤ a → f1 a = f a := by
  obtain ⟨f1, r, b1, b2, hA, h1, b3⟩ := q_gth hN h hw
  refine ⟨f1, ?_, h1, b3⟩
  simp only [F_X5_found, h.now, h.gth, Option.bind_some, h.gcv, b1, b2.n]
theorem q_ka (hN : 50000 ≤ N) (h : k_ci f x wz n q St S bf len) (hw : k_ws S) (p : Int32) : ∃ f1, F_X5_keyAt N f x p = some (qm (qa_ka S p) f1) ∧ k_ci f1 x wz n q St S bf len ∧ ∀ a, x + 70 ≤ a → f1 a = f a := by
  obtain ⟨f1, r, b1, b2, hA, h1, b3⟩ := q_gth hN h hw
  have hlt := hA.2
  refine ⟨f1, ?_, h1, b3⟩
  unfold F_X5_keyAt qa_ka
  by_cases g : 0 ≤ p.toInt ∧ p.toInt < (k_all S).1
  · obtain ⟨j, j1, rfl, j3⟩ := k_nn (x := p) (by omega)
    have hj : j < (k_all S).1 := by omega
    rw [if_pos g, k_u_n j1]
    simp only [h.now, h.gth, Option.bind_some, h.gcv, b1, b2.cv, k_keyOn (N := N) b2 hj]
    rw [if_neg (k_key_ne hA hj)]
    rfl
  · rw [if_neg g]
    simp only [h.now, h.gth, Option.bind_some, h.gcv, b1, b2.cv, k_keyOn_o (N := N) b2 (i := p) (by omega)]
    rw [if_pos trivial]
    rfl
theorem q_nx (hN : 50000 ≤ N) (h : k_ci f x wz n q St S bf len) (hw : k_ws S) (k : Int32) : ∃ f1, F_X5_nextKey N f x k = some (qm (qa_nx S k) f1) ∧ k_ci f1 x wz n q St S bf len ∧ ∀ a, x + 70 ≤ a → f1 a = f a := by
  obtain ⟨f1, r, b1, b2, hA, h1, b3⟩ := q_gth hN h hw
  have hlt := hA.2
  unfold F_X5_nextKey qa_nx
  rw [k_reqKey, Option.bind_some]
  by_cases g : 0 ≤ k.toInt ∧ k.toInt ≤ 9999
  · refine ⟨f1, ?_, h1, b3⟩
    rw [if_pos g, if_pos g]
    have hle := k_rk_le (k_all S).1 (k_all S).2.1 (k + 1)
    by_cases z : k_rk (k_all S).1 (k_all S).2.1 (k + 1) < (k_all S).1
    · rw [if_pos z]
      simp only [x_se, h.now, h.gth, Option.bind_some, h.gcv, b1, b2.cv, k_firstFrom (N := N) (by omega) b2 hA.1.1, k_keyOn (N := N) b2 z]
      rw [if_neg (k_key_ne hA z)]
      rfl
    · rw [if_neg z]
      simp only [x_se, h.now, h.gth, Option.bind_some, h.gcv, b1, b2.cv, k_firstFrom (N := N) (by omega) b2 hA.1.1, k_keyOn_o (N := N) b2 (i := nI (k_rk (k_all S).1 (k_all S).2.1 (k + 1))) (Or.inr (by rw [nI_toInt (by omega)]; omega))]
      rw [if_pos trivial]
      rfl
  · refine ⟨f, ?_, h, fun _ _ => rfl⟩
    rw [if_neg g, if_neg g]
    rfl
theorem q_kb (hN : 50000 ≤ N) (h : k_ci f x wz n q St S bf len) (hw : k_ws S) (k : Int32) : ∃ f1, F_X5_keyBefore N f x k = some (qm (qa_kb S k) f1) ∧ k_ci f1 x wz n q St S bf len ∧ ∀ a, x + 70 ≤ a → f1 a = f a := by
  obtain ⟨f1, r, b1, b2, hA, h1, b3⟩ := q_gth hN h hw
  have hlt := hA.2
  unfold F_X5_keyBefore qa_kb
  rw [k_reqKey, Option.bind_some]
  by_cases g : 0 ≤ k.toInt ∧ k.toInt ≤ 9999
  · refine ⟨f1, ?_, h1, b3⟩
    rw [if_pos g, if_pos g]
    have hle := k_rk_le (k_all S).1 (k_all S).2.1 k
    by_cases z : k_rk (k_all S).1 (k_all S).2.1 k = 0
    · rw [if_pos z]
      simp only [x_se, h.now, h.gth, Option.bind_some, h.gcv, b1, b2.cv, k_firstFrom (N := N) (by omega) b2 hA.1.1, z, k_keyOn_o (N := N) b2 (i := nI 0 - 1) (Or.inl (by decide))]
      rw [if_pos trivial]
      rfl
    · obtain ⟨u, hu⟩ : ∃ u, k_rk (k_all S).1 (k_all S).2.1 k = u + 1 := ⟨k_rk (k_all S).1 (k_all S).2.1 k - 1, by omega⟩
      rw [if_neg z]
      simp only [x_se, h.now, h.gth, Option.bind_some, h.gcv, b1, b2.cv, k_firstFrom (N := N) (by omega) b2 hA.1.1, hu, nI_pred, k_keyOn (N := N) b2 (i := u) (by omega)]
      rw [if_neg (k_key_ne hA (by omega))]
      rfl
  · refine ⟨f, ?_, h, fun _ _ => rfl⟩
    rw [if_neg g, if_neg g]
    rfl
theorem q_cn (hN : 50000 ≤ N) (h : k_ci f x wz n q St S bf len) (hw : k_ws S) (lo hi : Int32) : ∃ f1, F_X5_countByNext N f x lo hi = some (qm (qa_cn S lo hi) f1) ∧ k_ci f1 x wz n q St S bf len ∧ ∀ a, x + 70 ≤ a → f1 a = f a := by
  obtain ⟨f1, r, b1, b2, hA, h1, b3⟩ := q_gth hN h hw
  unfold F_X5_countByNext qa_cn
  rw [k_reqRange, Option.bind_some]
  by_cases g : (0 ≤ lo.toInt ∧ lo.toInt ≤ 9999) ∧ lo.toInt ≤ hi.toInt ∧ hi.toInt ≤ 9999
  · refine ⟨f1, ?_, h1, b3⟩
    rw [if_pos g, if_pos g]
    simp only [x_se, h.now, h.gth, Option.bind_some, h.gcv, b1, b2.cv, k_countFrom (N := N) (by omega) b2 hA.1.1]
    rfl
  · refine ⟨f, ?_, h, fun _ _ => rfl⟩
    rw [if_neg g, if_neg g]
    rfl
theorem q_lb (hN : 50000 ≤ N) (h : k_ci f x wz n q St S bf len) (hw : k_ws S) (p : Int32) : ∃ f1, F_X5_leavesIfBuilt N f x p = some (qm (qa_lb S p) f1) ∧ k_ci f1 x wz n q St S bf len ∧ ∀ a, x + 70 ≤ a → f1 a = f a := by
  obtain ⟨f1, r, b1, b2, hA, h1, b3⟩ := q_gth hN h hw
  have hlt := hA.2
  unfold F_X5_leavesIfBuilt qa_lb
  rw [k_reqFill, Option.bind_some]
  by_cases g : 50 ≤ p.toInt ∧ p.toInt ≤ 100
  · obtain ⟨j, j1, rfl, j3⟩ := k_nn (x := p) (by omega)
    refine ⟨f1, ?_, h1, b3⟩
    rw [if_pos g, if_pos g, k_u_n j1]
    simp only [x_se, h.now, h.gth, Option.bind_some, h.gcv, b1, b2.n, h1.st.cv, k_leavesOutOf (N := N) h1.st hw (p := j) (n := (k_all S).1) (by omega) (by omega)]
    rfl
  · refine ⟨f, ?_, h, fun _ _ => rfl⟩
    rw [if_neg g, if_neg g]
    rfl
theorem q_ll (hN : 50000 ≤ N) (h : k_ci f x wz n q St S bf len) (hw : k_ws S) (p : Int32) : ∃ f1, F_X5_levelsIfBuilt N f x p = some (qm (qa_ll S p) f1) ∧ k_ci f1 x wz n q St S bf len ∧ ∀ a, x + 70 ≤ a → f1 a = f a := by
  obtain ⟨f1, r, b1, b2, hA, h1, b3⟩ := q_gth hN h hw
  have hlt := hA.2
  unfold F_X5_levelsIfBuilt qa_ll
  rw [k_reqFill, Option.bind_some]
  by_cases g : 50 ≤ p.toInt ∧ p.toInt ≤ 100
  · obtain ⟨j, j1, rfl, j3⟩ := k_nn (x := p) (by omega)
    refine ⟨f1, ?_, h1, b3⟩
    rw [if_pos g, if_pos g, k_u_n j1]
    simp only [x_se, h.now, h.gth, Option.bind_some, h.gcv, b1, b2.n, h1.st.cv, k_levelsOutOf (N := N) (by omega) h1.st hw (p := j) (n := (k_all S).1) (by omega) (by omega)]
    rfl
  · refine ⟨f, ?_, h, fun _ _ => rfl⟩
    rw [if_neg g, if_neg g]
    rfl
theorem q_mean (hN : 50000 ≤ N) (h : k_ci f x wz n q St S bf len) (hw : k_ws S) : ∃ f1, F_X5_meanPages N f x = some (k_men S, f1) ∧ k_ci f1 x wz n q St S bf len ∧ ∀ a, x + 70 ≤ a → f1 a = f a := by
  obtain ⟨f1, r, b1, b2, hA, h1, b3⟩ := q_gth hN h hw
  refine ⟨f1, ?_, h1, b3⟩
  have hm : F_X5_meanPagesOf N f1 x r = some (k_men S) := k_meanPages (N := N) (by omega) h1.now h1.st hw hA b2 (k_all S).1 N 0 (by omega) (by have := hA.2; omega)
  simp only [F_X5_meanPages, h.now, h.gth, Option.bind_some, h.gcv, b1, h1.cv, hm]
theorem q_worst (hN : 50000 ≤ N) (h : k_ci f x wz n q St S bf len) (hw : k_ws S) : ∃ f1, F_X5_worstPages N f x = some (nI (k_wst S), f1) ∧ k_ci f1 x wz n q St S bf len ∧ ∀ a, x + 70 ≤ a → f1 a = f a := by
  obtain ⟨f1, r, b1, b2, hA, h1, b3⟩ := q_gth hN h hw
  refine ⟨f1, ?_, h1, b3⟩
  have hm : F_X5_mostPagesOf N f1 x r = some (nI (k_wst S)) := k_mostPages (N := N) (by omega) h1.now h1.st hw hA b2 (k_all S).1 N 0 (by omega) (by have := hA.2; omega)
  simp only [F_X5_worstPages, h.now, h.gth, Option.bind_some, h.gcv, b1, h1.cv, hm]
theorem q_digest (hN : 50000 ≤ N) (h : k_ci f x wz n q St S bf len) (hw : k_ws S) : ∃ f1, F_X5_digest N f x = some (k_hall S n (q 7).isSome (q 8).isSome bf len, f1) ∧ k_ci f1 x wz n q St S bf len ∧ ∀ a, x + 70 ≤ a → f1 a = f a := by
  obtain ⟨f1, r, b1, b2, hA, h1, b3⟩ := q_gth hN h hw
  refine ⟨f1, ?_, h1, b3⟩
  unfold F_X5_digest
  simp only [h.gth, h.now, h.gcv, b1, Option.bind_some, h1.cv, k_hashOfRuns h1.now h1.st (show 5000 ≤ N by omega), k_hashOfLeaves (show 5000 ≤ N by omega) h1.now h1.st hw.2.2.2.2.1, k_hashOfNodes (show 5000 ≤ N by omega) h1.now h1.st hw.2.2.2.2.1, k_hashOfFound (show 5000 ≤ N by omega) h1.now h1.st hw hA b2, k_hashOfCounts (show 5000 ≤ N by omega) h1.now h1.st hw hA b2, k_hashOfAccounts (show 5000 ≤ N by omega) h1.now h1.cnt (fun {β} {o} => h1.cv) h1.st hw hA b2, k_htexts hN h1]
  rfl
end KQA
