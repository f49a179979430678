/-! Calls that ask of levels, nodes, leaves. -/
section KAV
variable {N L : Nat} {xs : Nat → Int32} {x m o t : Nat} {h : XH} {f : XM} {n len : Nat} {q : Nat → Option Nat} {St : Nat → KS} {S : KS} {bf : Nat → Int32} {V : KM} {c : Nat}
theorem k_lv_32 (a : Nat) : ∀ d c, k_lv a d c ≤ d
  | 0, _ => Nat.le_refl _
  | d + 1, c => by
    have := k_lv_32 a d (k_ru c a)
    unfold k_lv
    split <;> omega
theorem k_isLevel (hN : 50000 ≤ N) (hm : k_mo f m V) (hs : k_ms (V.1 1) S c) (l : Int32) : F_X6_isLevel N f m l = some (decide (0 ≤ l.toInt ∧ l.toInt < k_tlv S.2.2.1)) := by
  have h32 : k_tlv S.2.2.1 ≤ 32 := k_lv_32 _ _ _
  have e0 : (0 : Int32).toInt = 0 := rfl
  have e1 : (nI (k_tlv S.2.2.1) - 1).toInt = (k_tlv S.2.2.1 : Int) - 1 := pk_sub_toInt (a := k_tlv S.2.2.1) (b := 1) (by omega) (by omega)
  simp only [F_X6_isLevel, hm.cv, k_mallLevels (N := N) (by omega) hm hs, Option.bind_some, k_in, e0, e1]
  congr 1
  rw [decide_eq_decide]
  omega
theorem k_reqLevel (hN : 50000 ≤ N) (h : k_ci f x n q St S bf len) (hw : k_ws S) (l : Int32) : F_X5_requireLevel N f x l = some (if 0 ≤ l.toInt ∧ l.toInt < k_tlv S.2.2.1 then .inl () else .inr 2) := by
  have h32 : k_tlv S.2.2.1 ≤ 32 := k_lv_32 _ _ _
  have e0 : (0 : Int32).toInt = 0 := rfl
  unfold F_X5_requireLevel
  by_cases g : l < 0
  · rw [if_pos g, if_neg (by rw [k_i_lt, e0] at g; omega)]
  · rw [if_neg g]
    rw [k_i_lt, e0] at g
    simp only [h.now, h.st.tr, h.st.tree.cv, k_levelCount (N := N) (by omega) h.st.tree hw.2.2.2.2.1, Option.bind_some]
    by_cases g2 : l < nI (k_tlv S.2.2.1)
    · rw [if_pos g2, if_pos (by rw [k_i_lt, nI_toInt (by omega)] at g2; omega)]
    · rw [if_neg g2, if_neg (by rw [k_i_lt, nI_toInt (by omega)] at g2; omega)]
/-- how many nodes there are on a level -/
def k_nn2 (S : KS) (v : Nat) : Nat := k_nc (k_u S.2.2.1.2.2.2.2.2) (v + 1) S.2.2.1.2.2.1
theorem k_nn2_le (hw : k_wt S.2.2.1) (hl : 0 < S.2.2.1.2.2.1) (v : Nat) : k_nn2 S v ≤ 512 := by
  obtain ⟨e1, e2, e3⟩ := (k_wt_nl hw hl).2.e (by omega)
  have := k_nc_le (a := k_u S.2.2.1.2.2.2.2.2) (by omega) (v + 1) S.2.2.1.2.2.1
  have h5 := hw.2.2.2.1
  unfold k_nn2
  omega
theorem k_cnodes (hN : 50000 ≤ N) {b : Nat} (h : k_tree f b S.2.2.1) (hw : k_wt S.2.2.1) (hl : 0 < S.2.2.1.2.2.1) {v : Nat} (hv : v < 32) : F_X4_nodeCount N f b (nI v) = some (nI (k_nn2 S v)) := by
  obtain ⟨e1, e2, e3⟩ := (k_wt_nl hw hl).2.e (by omega)
  have := k_nodeCount (N := N) (by omega) h e1 (by omega) (by omega) (D := v + 1) (by omega)
  rw [nI_pred] at this
  exact this
theorem k_mnodes2 (hN : 50000 ≤ N) (hm : k_mo f m V) (hs : k_ms (V.1 1) S c) (hl : 0 < S.2.2.1.2.2.1) {v : Nat} (hv : v < 32) : F_X6_nodes N f m (nI v) = some (nI (k_nn2 S v)) := by
  have := k_mnodes (N := N) (by omega) hm hs hl (D := v + 1) (by omega)
  rw [nI_pred] at this
  exact this
theorem k_isNode (hN : 50000 ≤ N) (hm : k_mo f m V) (hs : k_ms (V.1 1) S c) (k p : Int32) : F_X6_isNode N f m k p = some (decide ((0 ≤ k.toInt ∧ k.toInt < k_tlv S.2.2.1) ∧ 0 ≤ p.toInt ∧ p.toInt < k_nn2 S (k_u k))) := by
  have h32 : k_tlv S.2.2.1 ≤ 32 := k_lv_32 _ _ _
  have e0 : (0 : Int32).toInt = 0 := rfl
  unfold F_X6_isNode
  rw [hm.cv, k_isLevel hN hm hs, Option.bind_some]
  by_cases g : 0 ≤ k.toInt ∧ k.toInt < k_tlv S.2.2.1
  · rw [if_neg (k_xb1 g)]
    obtain ⟨j, j1, rfl, j3⟩ := k_nn (x := k) (by omega)
    have hl := k_tlv_pos hs.wt (by omega)
    have hle := k_nn2_le hs.wt hl j
    rw [hm.cv, k_mnodes2 hN hm hs hl (by omega), Option.bind_some, k_in, Option.bind_some, e0, k_u_n j1]
    have e1 : (nI (k_nn2 S j) - 1).toInt = (k_nn2 S j : Int) - 1 := pk_sub_toInt (a := k_nn2 S j) (b := 1) (by omega) (by omega)
    rw [e1]
    by_cases g2 : 0 ≤ p.toInt ∧ p.toInt < k_nn2 S j
    · rw [if_neg (k_xb1 (by omega)), decide_eq_true ⟨g, g2⟩]
    · rw [if_pos (k_xb0 (by omega)), decide_eq_false (fun y => g2 y.2)]
  · rw [if_pos (k_xb0 g), decide_eq_false (fun y => g y.1)]
theorem k_reqNode (hN : 50000 ≤ N) (h : k_ci f x n q St S bf len) (hw : k_wt S.2.2.1) (hl : 0 < S.2.2.1.2.2.1) {v : Nat} (hv : v < 32) (p : Int32) : F_X5_requireNode N f x (nI v) p = some (if 0 ≤ p.toInt ∧ p.toInt < k_nn2 S v then .inl () else .inr 2) := by
  have hle := k_nn2_le hw hl v
  have e0 : (0 : Int32).toInt = 0 := rfl
  unfold F_X5_requireNode
  by_cases g : p < 0
  · rw [if_pos g, if_neg (by rw [k_i_lt, e0] at g; omega)]
  · rw [if_neg g]
    rw [k_i_lt, e0] at g
    simp only [h.now, h.st.tr, h.st.tree.cv, k_cnodes hN h.st.tree hw hl hv, Option.bind_some]
    by_cases g2 : p < nI (k_nn2 S v)
    · rw [if_pos g2, if_pos (by rw [k_i_lt, nI_toInt (by omega)] at g2; omega)]
    · rw [if_neg g2, if_neg (by rw [k_i_lt, nI_toInt (by omega)] at g2; omega)]
theorem k_law39 (hN : 50000 ≤ N) (hL : L ≤ 1536) (h3 : 3 * t + 3 ≤ L) (hI : k_In x m o t h.1) : ∃ r, F_law_39 N L xs x m o (nI (3 * t)) h = some r ∧ k_In x m o (t + 1) r := by
  obtain ⟨rfl, rfl, n, q, St, S, bf, len, V, c, hR⟩ := hI
  have s1 : x_sld L xs (nI (3 * t) + 1) = some (xs (3 * t + 1)) := k_sld (j := 1) h3 hL (by omega)
  have hms := hR.2.2.2.1.2.2.2.1
  unfold F_law_39
  simp only [s1, Option.bind_some]
  generalize xs (3 * t + 1) = k
  have h32 : k_tlv S.2.2.1 ≤ 32 := k_lv_32 _ _ _
  by_cases g : 0 ≤ k.toInt ∧ k.toInt < k_tlv S.2.2.1
  · obtain ⟨j, j1, rfl, j3⟩ := k_nn (x := k) (by omega)
    have hl := k_tlv_pos hms.wt (by omega)
    refine k_lawOK (zX := x_cv h.1 5 x (F_X5_nodesAt N h.1 x (nI j))) (M := fun z => F_X6_nodesAt N z (x + 70) (nI j)) (v := nI (k_nn2 S j)) hR ?_ (fun f1 hm => ?_)
    · unfold F_X5_nodesAt
      rw [hR.1.cv, hR.1.cv, k_reqLevel hN hR.1 hms.1, Option.bind_some, if_pos g]
      simp only [x_se, hR.1.now, hR.1.st.tr, hR.1.st.tree.cv, k_cnodes hN hR.1.st.tree hms.wt hl (v := j) (by omega), Option.bind_some]
    · unfold F_X6_nodesAt
      rw [hm.cv, k_isLevel hN hm hms, Option.bind_some, if_neg (k_xb1 g)]
      exact k_ask_y (B := fun f5 => (x_cv f5 6 (x + 70) (F_X6_nodes N f5 (x + 70) (nI j))).bind fun z7 => some (z7, f5)) hm hms (fun f5 V5 y1 y2 => k_bB (B := fun f5 => (x_cv f5 6 (x + 70) (F_X6_nodes N f5 (x + 70) (nI j))).bind fun z7 => some (z7, f5)) y1 (by simp only [y1.cv, k_mnodes2 hN y1 y2 hl (v := j) (by omega), Option.bind_some]))
  · refine k_lawNO (zX := x_cv h.1 5 x (F_X5_nodesAt N h.1 x k)) (M := fun z => F_X6_nodesAt N z (x + 70) k) (k := 2) (e := 1) (r := 0) hR ?_ rfl (by decide) ?_
    · unfold F_X5_nodesAt
      rw [hR.1.cv, hR.1.cv, k_reqLevel hN hR.1 hms.1, Option.bind_some, if_neg g]
      rfl
    · unfold F_X6_nodesAt
      rw [hR.2.1.cv, k_isLevel hN hR.2.1 hms, Option.bind_some, if_pos (k_xb0 g)]
      exact k_ask_n (B := fun f5 => (x_cv f5 6 (x + 70) (F_X6_nodes N f5 (x + 70) k)).bind fun z7 => some (z7, f5)) hR.2.1 (Or.inl rfl)
theorem k_law40 (hN : 50000 ≤ N) (hL : L ≤ 1536) (h3 : 3 * t + 3 ≤ L) (hI : k_In x m o t h.1) : ∃ r, F_law_40 N L xs x m o (nI (3 * t)) h = some r ∧ k_In x m o (t + 1) r := by
  obtain ⟨rfl, rfl, n, q, St, S, bf, len, V, c, hR⟩ := hI
  have s1 : x_sld L xs (nI (3 * t) + 1) = some (xs (3 * t + 1)) := k_sld (j := 1) h3 hL (by omega)
  have s2 : x_sld L xs (nI (3 * t) + 2) = some (xs (3 * t + 2)) := k_sld (j := 2) h3 hL (by omega)
  have hms := hR.2.2.2.1.2.2.2.1
  unfold F_law_40
  simp only [s1, s2, Option.bind_some]
  generalize xs (3 * t + 1) = k
  generalize xs (3 * t + 2) = p
  have h32 : k_tlv S.2.2.1 ≤ 32 := k_lv_32 _ _ _
  by_cases g : (0 ≤ k.toInt ∧ k.toInt < k_tlv S.2.2.1) ∧ 0 ≤ p.toInt ∧ p.toInt < k_nn2 S (k_u k)
  · obtain ⟨j, j1, rfl, j3⟩ := k_nn (x := k) (by omega)
    obtain ⟨u, u1, rfl, u3⟩ := k_nn (x := p) (by omega)
    have hl := k_tlv_pos hms.wt (by omega)
    have hu : u < k_nn2 S j := by
      have := g.2.2
      rw [k_u_n j1] at this
      omega
    obtain ⟨e1, e2, e3⟩ := (k_wt_nl hms.wt hl).2.e (by omega)
    have hcc := k_cchildren (N := N) (by omega) hR.1.st.tree (k_wt_nl hms.wt hl).2 (D := j + 1) (by omega) (by omega) (nI u)
    rw [nI_pred] at hcc
    refine k_lawOK (zX := x_cv h.1 5 x (F_X5_childrenOf N h.1 x (nI j) (nI u))) (M := fun z => F_X6_childrenOf N z (x + 70) (nI j) (nI u)) (v := k_ch S.2.2.1 (j + 1) (nI u)) hR ?_ (fun f1 hm => ?_)
    · unfold F_X5_childrenOf
      rw [hR.1.cv, hR.1.cv, k_reqLevel hN hR.1 hms.1, Option.bind_some, if_pos g.1]
      simp only [x_se, hR.1.cv, k_reqNode hN hR.1 hms.wt hl (v := j) (by omega), Option.bind_some]
      rw [if_pos (show 0 ≤ (nI u).toInt ∧ (nI u).toInt < k_nn2 S j by omega)]
      simp only [hR.1.now, hR.1.st.tr, hR.1.st.tree.cv, hcc, Option.bind_some]
    · unfold F_X6_childrenOf
      rw [hm.cv, k_isNode hN hm hms, Option.bind_some, if_neg (k_xb1 g)]
      exact k_ask_y (B := fun f5 => (x_cv f5 6 (x + 70) (F_X6_children N f5 (x + 70) (nI j) (nI u))).bind fun z7 => some (z7, f5)) hm hms (fun f5 V5 y1 y2 => by
        have hmc := k_mchildren (N := N) (by omega) y1 y2 hl (D := j + 1) (by omega) (by omega) (nI u)
        rw [nI_pred] at hmc
        exact k_bB (B := fun f5 => (x_cv f5 6 (x + 70) (F_X6_children N f5 (x + 70) (nI j) (nI u))).bind fun z7 => some (z7, f5)) y1 (by simp only [y1.cv, hmc, Option.bind_some]))
  · refine k_lawNO (zX := x_cv h.1 5 x (F_X5_childrenOf N h.1 x k p)) (M := fun z => F_X6_childrenOf N z (x + 70) k p) (k := 2) (e := 1) (r := 0) hR ?_ rfl (by decide) ?_
    · unfold F_X5_childrenOf
      rw [hR.1.cv, hR.1.cv, k_reqLevel hN hR.1 hms.1, Option.bind_some]
      by_cases g1 : 0 ≤ k.toInt ∧ k.toInt < k_tlv S.2.2.1
      · obtain ⟨j, j1, rfl, j3⟩ := k_nn (x := k) (by omega)
        have hl := k_tlv_pos hms.wt (by omega)
        rw [k_u_n j1] at g
        rw [if_pos g1]
        simp only [x_se, hR.1.cv, k_reqNode hN hR.1 hms.wt hl (v := j) (by omega), Option.bind_some]
        rw [if_neg (fun y => g ⟨g1, y⟩)]
      · rw [if_neg g1]
        rfl
    · unfold F_X6_childrenOf
      rw [hR.2.1.cv, k_isNode hN hR.2.1 hms, Option.bind_some, if_pos (k_xb0 g)]
      exact k_ask_n (B := fun f5 => (x_cv f5 6 (x + 70) (F_X6_children N f5 (x + 70) k p)).bind fun z7 => some (z7, f5)) hR.2.1 (Or.inl rfl)
theorem k_law41 (hN : 50000 ≤ N) (hL : L ≤ 1536) (h3 : 3 * t + 3 ≤ L) (hI : k_In x m o t h.1) : ∃ r, F_law_41 N L xs x m o (nI (3 * t)) h = some r ∧ k_In x m o (t + 1) r := by
  obtain ⟨rfl, rfl, n, q, St, S, bf, len, V, c, hR⟩ := hI
  have s1 : x_sld L xs (nI (3 * t) + 1) = some (xs (3 * t + 1)) := k_sld (j := 1) h3 hL (by omega)
  have s2 : x_sld L xs (nI (3 * t) + 2) = some (xs (3 * t + 2)) := k_sld (j := 2) h3 hL (by omega)
  have hms := hR.2.2.2.1.2.2.2.1
  unfold F_law_41
  simp only [s1, s2, Option.bind_some]
  generalize xs (3 * t + 1) = k
  generalize xs (3 * t + 2) = p
  have h32 : k_tlv S.2.2.1 ≤ 32 := k_lv_32 _ _ _
  by_cases g : (0 ≤ k.toInt ∧ k.toInt < k_tlv S.2.2.1) ∧ 0 ≤ p.toInt ∧ p.toInt < k_nn2 S (k_u k)
  · obtain ⟨j, j1, rfl, j3⟩ := k_nn (x := k) (by omega)
    obtain ⟨u, u1, rfl, u3⟩ := k_nn (x := p) (by omega)
    have hl := k_tlv_pos hms.wt (by omega)
    have hu : u < k_nn2 S j := by
      have := g.2.2
      rw [k_u_n j1] at this
      omega
    obtain ⟨e1, e2, e3⟩ := (k_wt_nl hms.wt hl).2.e (by omega)
    have hcc := k_nodeBound (N := N) (by omega) hR.1.st.tree e1 (by omega) (D := j + 1) (x := u) (by omega) (by have := hu; unfold k_nn2 at this; exact this)
    rw [nI_pred] at hcc
    refine k_lawOK (zX := x_cv h.1 5 x (F_X5_boundOf N h.1 x (nI j) (nI u))) (M := fun z => F_X6_boundOf N z (x + 70) (nI j) (nI u)) (v := S.2.2.1.2.2.2.1 (u * k_u S.2.2.1.2.2.2.2.2 ^ (j + 1))) hR ?_ (fun f1 hm => ?_)
    · unfold F_X5_boundOf
      rw [hR.1.cv, hR.1.cv, k_reqLevel hN hR.1 hms.1, Option.bind_some, if_pos g.1]
      simp only [x_se, hR.1.cv, k_reqNode hN hR.1 hms.wt hl (v := j) (by omega), Option.bind_some]
      rw [if_pos (show 0 ≤ (nI u).toInt ∧ (nI u).toInt < k_nn2 S j by omega)]
      simp only [hR.1.now, hR.1.st.tr, hR.1.st.tree.cv, hcc, Option.bind_some]
    · unfold F_X6_boundOf
      rw [hm.cv, k_isNode hN hm hms, Option.bind_some, if_neg (k_xb1 g)]
      exact k_ask_y (B := fun f5 => (x_cv f5 6 (x + 70) (F_X6_boundBy N f5 (x + 70) (nI j) (nI u))).bind fun z7 => some (z7, f5)) hm hms (fun f5 V5 y1 y2 => by
        have hmc := k_mboundBy (N := N) (by omega) y1 y2 hl (D := j + 1) (x := u) (by omega) (by have := hu; unfold k_nn2 at this; exact this)
        rw [nI_pred] at hmc
        exact k_bB (B := fun f5 => (x_cv f5 6 (x + 70) (F_X6_boundBy N f5 (x + 70) (nI j) (nI u))).bind fun z7 => some (z7, f5)) y1 (by simp only [y1.cv, hmc, Option.bind_some]))
  · refine k_lawNO (zX := x_cv h.1 5 x (F_X5_boundOf N h.1 x k p)) (M := fun z => F_X6_boundOf N z (x + 70) k p) (k := 2) (e := 1) (r := 0) hR ?_ rfl (by decide) ?_
    · unfold F_X5_boundOf
      rw [hR.1.cv, hR.1.cv, k_reqLevel hN hR.1 hms.1, Option.bind_some]
      by_cases g1 : 0 ≤ k.toInt ∧ k.toInt < k_tlv S.2.2.1
      · obtain ⟨j, j1, rfl, j3⟩ := k_nn (x := k) (by omega)
        have hl := k_tlv_pos hms.wt (by omega)
        rw [k_u_n j1] at g
        rw [if_pos g1]
        simp only [x_se, hR.1.cv, k_reqNode hN hR.1 hms.wt hl (v := j) (by omega), Option.bind_some]
        rw [if_neg (fun y => g ⟨g1, y⟩)]
      · rw [if_neg g1]
        rfl
    · unfold F_X6_boundOf
      rw [hR.2.1.cv, k_isNode hN hR.2.1 hms, Option.bind_some, if_pos (k_xb0 g)]
      exact k_ask_n (B := fun f5 => (x_cv f5 6 (x + 70) (F_X6_boundBy N f5 (x + 70) k p)).bind fun z7 => some (z7, f5)) hR.2.1 (Or.inl rfl)
theorem k_law42 (hN : 50000 ≤ N) (hL : L ≤ 1536) (h3 : 3 * t + 3 ≤ L) (hI : k_In x m o t h.1) : ∃ r, F_law_42 N L xs x m o (nI (3 * t)) h = some r ∧ k_In x m o (t + 1) r := by
  obtain ⟨rfl, rfl, n, q, St, S, bf, len, V, c, hR⟩ := hI
  have s1 : x_sld L xs (nI (3 * t) + 1) = some (xs (3 * t + 1)) := k_sld (j := 1) h3 hL (by omega)
  have hms := hR.2.2.2.1.2.2.2.1
  unfold F_law_42
  simp only [s1, Option.bind_some]
  generalize xs (3 * t + 1) = k
  have h512 := hms.wt.2.2.2.1
  by_cases g : 0 ≤ k.toInt ∧ k.toInt ≤ 9999
  · have hlc := k_leafOfKey (N := N) (by omega) hR.1.st.tree hms.wt k
    have hle := k_lf_le S.2.2.1 k
    by_cases gl : S.2.2.1.2.2.1 = 0
    · refine k_lawNO (zX := x_cv h.1 5 x (F_X5_leafFor N h.1 x k)) (M := fun z => F_X6_leafFor N z (x + 70) k) (k := 1) (e := 2) (r := 0) hR ?_ rfl (by decide) ?_
      · unfold F_X5_leafFor
        rw [hR.1.cv, k_reqKey, Option.bind_some, if_pos g]
        simp only [x_se, hR.1.now, hR.1.st.tr, hR.1.st.tree.cv, hlc, Option.bind_some]
        rw [if_pos (by rw [show k_lf S.2.2.1 k = 0 by omega]; rfl)]
      · unfold F_X6_leafFor
        rw [k_isKey, Option.bind_some, if_neg (k_xb1 g), hR.2.1.r0, Option.bind_some, Option.bind_some, k_l8 hR.2.1 hms, Option.bind_some, if_pos (by rw [gl]; rfl)]
        exact k_ask_n (B := fun f5 => (x_cv f5 6 (x + 70) (F_X6_leafOf N f5 (x + 70) k)).bind fun z7 => some (z7, f5)) hR.2.1 (Or.inr rfl)
    · have hlp := k_lf_pos hms.wt g.1 (show 0 < S.2.2.1.2.2.1 by omega)
      obtain ⟨u, hu⟩ : ∃ u, k_lf S.2.2.1 k = u + 1 := ⟨k_lf S.2.2.1 k - 1, by omega⟩
      rw [hu, nI_pred] at hlc
      refine k_lawOK (zX := x_cv h.1 5 x (F_X5_leafFor N h.1 x k)) (M := fun z => F_X6_leafFor N z (x + 70) k) (v := nI u) hR ?_ (fun f1 hm => ?_)
      · unfold F_X5_leafFor
        rw [hR.1.cv, k_reqKey, Option.bind_some, if_pos g]
        simp only [x_se, hR.1.now, hR.1.st.tr, hR.1.st.tree.cv, hlc, Option.bind_some]
        rw [if_neg (k_nim1 _ (by omega))]
      · unfold F_X6_leafFor
        rw [k_isKey, Option.bind_some, if_neg (k_xb1 g), hm.r0, Option.bind_some, Option.bind_some, k_l8 hm hms, Option.bind_some, if_neg (nI_ne0 (by omega) (by omega))]
        exact k_ask_y (B := fun f5 => (x_cv f5 6 (x + 70) (F_X6_leafOf N f5 (x + 70) k)).bind fun z7 => some (z7, f5)) hm hms (fun f5 V5 y1 y2 => k_bB (B := fun f5 => (x_cv f5 6 (x + 70) (F_X6_leafOf N f5 (x + 70) k)).bind fun z7 => some (z7, f5)) y1 (by simp only [y1.cv, k_mleafOf (N := N) (by omega) y1 y2 g.1 (by omega), Option.bind_some, hu, Nat.add_sub_cancel]))
  · refine k_lawNO (zX := x_cv h.1 5 x (F_X5_leafFor N h.1 x k)) (M := fun z => F_X6_leafFor N z (x + 70) k) (k := 0) (e := 1) (r := 0) hR ?_ rfl (by decide) ?_
    · unfold F_X5_leafFor
      rw [hR.1.cv, k_reqKey, Option.bind_some, if_neg g]
      rfl
    · unfold F_X6_leafFor
      rw [k_isKey, Option.bind_some, if_pos (k_xb0 g)]
      exact k_ask_n (B := fun f5 => (x_cv f5 6 (x + 70) (F_X6_leafOf N f5 (x + 70) k)).bind fun z7 => some (z7, f5)) hR.2.1 (Or.inl rfl)
theorem k_law35 (hN : 50000 ≤ N) (hL : L ≤ 1536) (h3 : 3 * t + 3 ≤ L) (hI : k_In x m o t h.1) : ∃ r, F_law_35 N L xs x m o (nI (3 * t)) h = some r ∧ k_In x m o (t + 1) r := by
  obtain ⟨rfl, rfl, n, q, St, S, bf, len, V, c, hR⟩ := hI
  have s1 : x_sld L xs (nI (3 * t) + 1) = some (xs (3 * t + 1)) := k_sld (j := 1) h3 hL (by omega)
  have s2 : x_sld L xs (nI (3 * t) + 2) = some (xs (3 * t + 2)) := k_sld (j := 2) h3 hL (by omega)
  have hms := hR.2.2.2.1.2.2.2.1
  unfold F_law_35
  simp only [s1, s2, Option.bind_some]
  generalize xs (3 * t + 1) = k
  generalize xs (3 * t + 2) = p
  have hn160 := hms.wt.2.2.1
  by_cases g : 0 ≤ k.toInt ∧ k.toInt < S.2.2.1.2.2.1
  · obtain ⟨j, j1, rfl, j3⟩ := k_nn (x := k) (by omega)
    have hj : j < S.2.2.1.2.2.1 := by omega
    have hoe := k_ownEntry (N := N) (by omega) hR.1.st.tree hms.wt hj p
    by_cases ge : 0 ≤ p.toInt ∧ k_oe S.2.2.1 j (k_u p) < S.2.2.1.1.1
    · rw [if_pos ge] at hoe
      refine k_lawOK (zX := x_cv h.1 5 x (F_X5_leafKey N h.1 x (nI j) p)) (M := fun z => F_X6_leafKey N z (x + 70) (nI j) p) (v := S.2.2.1.1.2.1 (k_oe S.2.2.1 j (k_u p))) hR ?_ (fun f1 hm => ?_)
      · unfold F_X5_leafKey
        rw [hR.1.cv, hR.1.cv, k_reqLeaf hR.1, Option.bind_some, if_pos g]
        simp only [x_se, hR.1.now, hR.1.st.tr, hR.1.st.tree.cv, hoe, Option.bind_some]
        rw [if_neg (k_nim1 _ (by omega))]
        simp only [hR.1.st.tree.r, hR.1.st.tree.row.cv, k_keyOn (N := N) hR.1.st.tree.row ge.2, Option.bind_some]
      · have hea := k_entryAt (N := N) (by omega) hm hms hj p
        rw [if_pos ge] at hea
        obtain ⟨u, u1, u2, u3⟩ := hea
        unfold F_X6_leafKey
        rw [hm.cv, k_isLeaf (hN := trivial) hm hms, Option.bind_some, if_neg (k_xb1 g), hm.cv, u2, Option.bind_some, if_neg (k_nim1 _ (by omega))]
        exact k_ask_y (B := fun f5 => (x_cv f5 6 (x + 70) (F_X6_entryAt N f5 (x + 70) (nI j) p)).bind fun z9 => (x_cv f5 6 (x + 70) (F_X6_entry N f5 (x + 70) z9 0)).bind fun z10 => some (z10, f5)) hm hms (fun f5 V5 y1 y2 => by
          have hea := k_entryAt (N := N) (by omega) y1 y2 hj p
          rw [if_pos ge] at hea
          obtain ⟨u, u1, u2, u3⟩ := hea
          exact k_bB (B := fun f5 => (x_cv f5 6 (x + 70) (F_X6_entryAt N f5 (x + 70) (nI j) p)).bind fun z9 => (x_cv f5 6 (x + 70) (F_X6_entry N f5 (x + 70) z9 0)).bind fun z10 => some (z10, f5)) y1 (by simp only [y1.cv, u2, k_ent0 (N := N) y1 (j := u) (by omega), u3, Option.bind_some]))
    · rw [if_neg ge] at hoe
      refine k_lawNO (zX := x_cv h.1 5 x (F_X5_leafKey N h.1 x (nI j) p)) (M := fun z => F_X6_leafKey N z (x + 70) (nI j) p) (k := 2) (e := 1) (r := 0) hR ?_ rfl (by decide) ?_
      · unfold F_X5_leafKey
        rw [hR.1.cv, hR.1.cv, k_reqLeaf hR.1, Option.bind_some, if_pos g]
        simp only [x_se, hR.1.now, hR.1.st.tr, hR.1.st.tree.cv, hoe, Option.bind_some]
        rw [if_pos trivial]
      · have hea := k_entryAt (N := N) (by omega) hR.2.1 hms hj p
        rw [if_neg ge] at hea
        unfold F_X6_leafKey
        rw [hR.2.1.cv, k_isLeaf (hN := trivial) hR.2.1 hms, Option.bind_some, if_neg (k_xb1 g), hR.2.1.cv, hea, Option.bind_some, if_pos rfl]
        exact k_ask_n (B := fun f5 => (x_cv f5 6 (x + 70) (F_X6_entryAt N f5 (x + 70) (nI j) p)).bind fun z9 => (x_cv f5 6 (x + 70) (F_X6_entry N f5 (x + 70) z9 0)).bind fun z10 => some (z10, f5)) hR.2.1 (Or.inl rfl)
  · refine k_lawNO (zX := x_cv h.1 5 x (F_X5_leafKey N h.1 x k p)) (M := fun z => F_X6_leafKey N z (x + 70) k p) (k := 2) (e := 1) (r := 0) hR ?_ rfl (by decide) ?_
    · unfold F_X5_leafKey
      rw [hR.1.cv, hR.1.cv, k_reqLeaf hR.1, Option.bind_some, if_neg g]
      rfl
    · unfold F_X6_leafKey
      rw [hR.2.1.cv, k_isLeaf (hN := trivial) hR.2.1 hms, Option.bind_some, if_pos (k_xb0 g)]
      exact k_ask_n (B := fun f5 => (x_cv f5 6 (x + 70) (F_X6_entryAt N f5 (x + 70) k p)).bind fun z9 => (x_cv f5 6 (x + 70) (F_X6_entry N f5 (x + 70) z9 0)).bind fun z10 => some (z10, f5)) hR.2.1 (Or.inl rfl)
end KAV
