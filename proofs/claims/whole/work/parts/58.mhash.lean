/-! The digest of the reference. -/
theorem k_i32_1 : (1 : Int32).toInt64 = (1 : Int64) := by decide
theorem k_i32_0 : (0 : Int32).toInt64 = (0 : Int64) := by decide
section KMH
variable {N : Nat} {f : XM} {m c : Nat} {V : KM} {S : KS}
theorem k_mhrun_loop (h : k_mo f m V) (hs : k_ms (V.1 1) S c) {r : Nat} (hr : r ≤ S.1) (h0 : Int64) {K : Int64 → Int32 → Option Int64} : ∀ (d fuel i : Nat), i + d = (S.2.1 r).1 → d < fuel →
    F_X6_runsIn_L47 N f m (nI r) K fuel (k_hf (fun i h => k_mix (k_mix h ((S.2.1 r).2.1 i).toInt64) (if (S.2.1 r).2.2 i = -1 then 1 else 0)) i h0) (nI i) = K (k_hf (fun i h => k_mix (k_mix h ((S.2.1 r).2.1 i).toInt64) (if (S.2.1 r).2.2 i = -1 then 1 else 0)) (S.2.1 r).1 h0) (nI (S.2.1 r).1) := by
  have hz := hs.sz hr
  intro d
  induction d with
  | zero =>
    intro fuel i h1 h2
    obtain ⟨u, rfl⟩ : ∃ u, fuel = u + 1 := ⟨fuel - 1, by omega⟩
    have e : i = (S.2.1 r).1 := by omega
    subst e
    simp only [F_X6_runsIn_L47, h.cv, k_size h hs hr, Option.bind_some]
    rw [if_pos (nI_le (Nat.le_refl _) (by omega))]
  | succ d ih =>
    intro fuel i h1 h2
    obtain ⟨u, rfl⟩ : ∃ u, fuel = u + 1 := ⟨fuel - 1, by omega⟩
    have i2 := ih u (i + 1) (by omega) (by omega)
    rw [k_hf] at i2
    simp only [F_X6_runsIn_L47, h.cv, k_size h hs hr, k_key h hs hr (p := i) (by omega), k_value h hs hr (p := i) (by omega), Option.bind_some, k_add1, k_i32_1, k_i32_0]
    rw [if_neg (nI_ge (by omega) (by omega))]
    by_cases g : (S.2.1 r).2.2 i = -1
    · rw [if_pos g] at i2 ⊢
      exact i2
    · rw [if_neg g] at i2 ⊢
      exact i2
theorem k_mhruns_loop (hN : 5000 ≤ N) (h : k_mo f m V) (hs : k_ms (V.1 1) S c) (h0 : Int64) : ∀ (d fuel i : Nat), i + d = S.1 + 1 → d < fuel →
    F_X6_runsIn_L18 N f m (fun y _ => some y) fuel (k_hf (fun r h => k_hrun (S.2.1 r) h) i h0) (nI i) = some (k_hf (fun r h => k_hrun (S.2.1 r) h) (S.1 + 1) h0) := by
  have h6 := hs.1.1
  intro d
  induction d with
  | zero =>
    intro fuel i h1 h2
    obtain ⟨u, rfl⟩ : ∃ u, fuel = u + 1 := ⟨fuel - 1, by omega⟩
    have e : i = S.1 + 1 := by omega
    subst e
    simp only [F_X6_runsIn_L18, h.r0, k_l6 h hs, Option.bind_some]
    rw [if_pos (nI_lt (by omega) (by omega))]
  | succ d ih =>
    intro fuel i h1 h2
    obtain ⟨u, rfl⟩ : ∃ u, fuel = u + 1 := ⟨fuel - 1, by omega⟩
    have hz := hs.sz (r := i) (by omega)
    have i2 := ih u (i + 1) (by omega) (by omega)
    rw [k_hf] at i2
    simp only [F_X6_runsIn_L18, h.r0, k_l6 h hs, h.cv, k_size h hs (r := i) (by omega), Option.bind_some]
    rw [if_neg (nI_nlt (by omega) (by omega))]
    refine (k_mhrun_loop (N := N) h hs (r := i) (by omega) _ (S.2.1 i).1 N 0 (by omega) (by omega)).trans ?_
    rw [k_add1]
    exact i2
theorem k_mrunsIn (hN : 5000 ≤ N) (h : k_mo f m V) (hs : k_ms (V.1 1) S c) (h0 : Int64) : F_X6_runsIn N f m h0 = some (k_hruns S h0) := by
  simp only [F_X6_runsIn, h.r0, k_l6 h hs, Option.bind_some]
  exact k_mhruns_loop hN h hs _ (S.1 + 1) N 0 (by omega) (by have := hs.1.1; omega)
theorem k_mhleaf_loop (hN : 5000 ≤ N) (h : k_mo f m V) (hs : k_ms (V.1 1) S c) {l : Nat} (hl : l < S.2.2.1.2.2.1) (h0 : Int64) {K : Int64 → Int32 → Option Int64} : ∀ (d fuel i : Nat), i + d = k_own S.2.2.1 l → d < fuel →
    F_X6_leavesIn_L64 N f m (nI l) (nI (k_own S.2.2.1 l)) K fuel (k_hf (fun p h => k_hent S.2.2.1 (k_oe S.2.2.1 l p) h) i h0) (nI i) = K (k_hf (fun p h => k_hent S.2.2.1 (k_oe S.2.2.1 l p) h) (k_own S.2.2.1 l) h0) (nI (k_own S.2.2.1 l)) := by
  have hn := hs.wt.2.2.1
  have hol := k_own_le S.2.2.1 l
  intro d
  induction d with
  | zero =>
    intro fuel i h1 h2
    obtain ⟨u, rfl⟩ : ∃ u, fuel = u + 1 := ⟨fuel - 1, by omega⟩
    have e : i = k_own S.2.2.1 l := by omega
    subst e
    rw [F_X6_leavesIn_L64, if_pos (nI_le (Nat.le_refl _) (by omega))]
  | succ d ih =>
    intro fuel i h1 h2
    obtain ⟨u, rfl⟩ : ∃ u, fuel = u + 1 := ⟨fuel - 1, by omega⟩
    have i2 := ih u (i + 1) (by omega) (by omega)
    rw [k_hf] at i2
    -- there is an entry at this place
    have hex : k_oe S.2.2.1 l i < S.2.2.1.1.1 := by
      have key : ∀ n, n ≤ S.2.2.1.1.1 → i < k_cnt (k_oq S.2.2.1 l) n → ∃ j, j < n ∧ k_oq S.2.2.1 l j = true ∧ k_cnt (k_oq S.2.2.1 l) j = i := by
        intro n
        induction n with
        | zero => intro _ hh; exact absurd hh (Nat.not_lt_zero _)
        | succ n ihn =>
          intro hn1 hh
          by_cases y : i < k_cnt (k_oq S.2.2.1 l) n
          · obtain ⟨j, j1, j2, j3⟩ := ihn (by omega) y
            exact ⟨j, by omega, j2, j3⟩
          · cases z : k_oq S.2.2.1 l n with
            | false => rw [k_cnt_n z] at hh; omega
            | true => rw [k_cnt_y z] at hh; exact ⟨n, by omega, z, by omega⟩
      obtain ⟨j, j1, j2, j3⟩ := key S.2.2.1.1.1 (Nat.le_refl _) (by show i < k_own S.2.2.1 l; omega)
      have := k_oe_at j1 j2
      rw [j3] at this
      omega
    have he := k_entryAt (N := N) (by omega) h hs hl (nI i)
    rw [k_u_n (by omega), if_pos ⟨by rw [nI_toInt (by omega)]; omega, hex⟩] at he
    obtain ⟨j, j1, j2, j3⟩ := he
    have hv : k_eV (V.1 1) j = S.2.2.1.1.2.2 (k_oe S.2.2.1 l i) := by
      rw [(hs.me.2.1 j j1).2.1, j3, k_pl_eq hs.wt.1 hex]
    rw [F_X6_leavesIn_L64, if_neg (nI_ge (by omega) (by omega))]
    simp only [h.cv, j2, k_ent0 h (j := j) (by omega), k_ent1 h (j := j) (by omega), Option.bind_some, k_add1, j3, hv]
    exact i2
theorem k_mhleaves_loop (hN : 5000 ≤ N) (h : k_mo f m V) (hs : k_ms (V.1 1) S c) (h0 : Int64) : ∀ (d fuel l : Nat), l + d = S.2.2.1.2.2.1 → d < fuel →
    F_X6_leavesIn_L31 N f m (fun y _ => some y) fuel (k_hf (fun l h => k_hleaf S.2.2.1 l h) l h0) (nI l) = some (k_hf (fun l h => k_hleaf S.2.2.1 l h) S.2.2.1.2.2.1 h0) := by
  have h512 := hs.wt.2.2.2.1
  have hn := hs.wt.2.2.1
  intro d
  induction d with
  | zero =>
    intro fuel l h1 h2
    obtain ⟨u, rfl⟩ : ∃ u, fuel = u + 1 := ⟨fuel - 1, by omega⟩
    have e : l = S.2.2.1.2.2.1 := by omega
    subst e
    simp only [F_X6_leavesIn_L31, h.r0, k_l8 h hs, Option.bind_some]
    rw [if_pos (nI_le (Nat.le_refl _) (by omega))]
  | succ d ih =>
    intro fuel l h1 h2
    obtain ⟨u, rfl⟩ : ∃ u, fuel = u + 1 := ⟨fuel - 1, by omega⟩
    have hol := k_own_le S.2.2.1 l
    have i2 := ih u (l + 1) (by omega) (by omega)
    rw [k_hf] at i2
    simp only [F_X6_leavesIn_L31, h.r0, k_l8 h hs, h.cv, k_mown (show 1000 ≤ N by omega) h hs (l := l) (by omega), k_mover (show 1000 ≤ N by omega) h hs (l := l) (by omega), k_movers (show 1000 ≤ N by omega) h hs (l := l) (by omega), Option.bind_some]
    rw [if_neg (nI_ge (by omega) (by omega))]
    refine (k_mhleaf_loop (N := N) hN h hs (l := l) (by omega) _ (k_own S.2.2.1 l) N 0 (by omega) (by omega)).trans ?_
    rw [k_add1]
    exact i2
theorem k_mleavesIn (hN : 5000 ≤ N) (h : k_mo f m V) (hs : k_ms (V.1 1) S c) (h0 : Int64) : F_X6_leavesIn N f m h0 = some (k_hleaves S.2.2.1 h0) := by
  simp only [F_X6_leavesIn, h.r0, k_l7 h hs, k_l8 h hs, Option.bind_some]
  exact k_mhleaves_loop hN h hs _ S.2.2.1.2.2.1 N 0 (by omega) (by have := hs.wt.2.2.2.1; omega)
theorem k_mhnode_loop {z4 : Int32} {v : Nat} (hN : 5000 ≤ N) (h : k_mo f m V) (hs : k_ms (V.1 1) S c) (hl : 0 < S.2.2.1.2.2.1) (hv : v < 32) (h0 : Int64) {K : Int64 → Int32 → Option Int64} : ∀ (d fuel i : Nat), i + d = k_nc (k_u S.2.2.1.2.2.2.2.2) (v + 1) S.2.2.1.2.2.1 → d < fuel →
    F_X6_nodesIn_L47 N f m z4 (nI v) (nI (k_nc (k_u S.2.2.1.2.2.2.2.2) (v + 1) S.2.2.1.2.2.1)) K fuel (k_hf (fun x h => k_mix (k_mix h (k_ch S.2.2.1 (v + 1) (nI x)).toInt64) (S.2.2.1.2.2.2.1 (x * k_u S.2.2.1.2.2.2.2.2 ^ (v + 1))).toInt64) i h0) (nI i) = K (k_hf (fun x h => k_mix (k_mix h (k_ch S.2.2.1 (v + 1) (nI x)).toInt64) (S.2.2.1.2.2.2.1 (x * k_u S.2.2.1.2.2.2.2.2 ^ (v + 1))).toInt64) (k_nc (k_u S.2.2.1.2.2.2.2.2) (v + 1) S.2.2.1.2.2.1) h0) (nI (k_nc (k_u S.2.2.1.2.2.2.2.2) (v + 1) S.2.2.1.2.2.1)) := by
  have h512 := hs.wt.2.2.2.1
  obtain ⟨i1, i2, i3, i4⟩ := hs.il hl
  obtain ⟨e1, e2, e3⟩ := i4.e (by omega)
  have hle := k_nc_le (show 1 ≤ k_u S.2.2.1.2.2.2.2.2 by omega) (v + 1) S.2.2.1.2.2.1
  intro d
  induction d with
  | zero =>
    intro fuel i h1 h2
    obtain ⟨u, rfl⟩ : ∃ u, fuel = u + 1 := ⟨fuel - 1, by omega⟩
    have e : i = k_nc (k_u S.2.2.1.2.2.2.2.2) (v + 1) S.2.2.1.2.2.1 := by omega
    rw [F_X6_nodesIn_L47, if_pos (nI_le (by omega) (by omega)), e]
  | succ d ih =>
    intro fuel i h1 h2
    obtain ⟨u, rfl⟩ : ∃ u, fuel = u + 1 := ⟨fuel - 1, by omega⟩
    have i2 := ih u (i + 1) (by omega) (by omega)
    rw [k_hf] at i2
    have q1 := k_mchildren (N := N) (by omega) h hs hl (D := v + 1) (by omega) (by omega) (nI i)
    have q2 := k_mboundBy (N := N) (by omega) h hs hl (D := v + 1) (x := i) (by omega) (by omega)
    rw [nI_pred] at q1 q2
    rw [F_X6_nodesIn_L47, if_neg (nI_ge (by omega) (by omega))]
    simp only [h.cv, q1, q2, Option.bind_some, k_add1]
    exact i2
theorem k_mhnodes_loop (hN : 5000 ≤ N) (h : k_mo f m V) (hs : k_ms (V.1 1) S c) (h0 : Int64) : ∀ (d fuel v : Nat), v + d = k_tlv S.2.2.1 → d < fuel →
    F_X6_nodesIn_L18 N f m (nI (k_tlv S.2.2.1)) (fun y _ => some y) fuel (k_hf (fun v h => k_hf (fun x h => k_mix (k_mix h (k_ch S.2.2.1 (v + 1) (nI x)).toInt64) (S.2.2.1.2.2.2.1 (x * k_u S.2.2.1.2.2.2.2.2 ^ (v + 1))).toInt64) (k_nc (k_u S.2.2.1.2.2.2.2.2) (v + 1) S.2.2.1.2.2.1) (k_mix h (nI (k_nc (k_u S.2.2.1.2.2.2.2.2) (v + 1) S.2.2.1.2.2.1)).toInt64)) v h0) (nI v) = some (k_hf (fun v h => k_hf (fun x h => k_mix (k_mix h (k_ch S.2.2.1 (v + 1) (nI x)).toInt64) (S.2.2.1.2.2.2.1 (x * k_u S.2.2.1.2.2.2.2.2 ^ (v + 1))).toInt64) (k_nc (k_u S.2.2.1.2.2.2.2.2) (v + 1) S.2.2.1.2.2.1) (k_mix h (nI (k_nc (k_u S.2.2.1.2.2.2.2.2) (v + 1) S.2.2.1.2.2.1)).toInt64)) (k_tlv S.2.2.1) h0) := by
  have h512 := hs.wt.2.2.2.1
  have htl : k_tlv S.2.2.1 ≤ 32 := k_lv_le _ _ _
  intro d
  induction d with
  | zero =>
    intro fuel v h1 h2
    obtain ⟨u, rfl⟩ : ∃ u, fuel = u + 1 := ⟨fuel - 1, by omega⟩
    have e : v = k_tlv S.2.2.1 := by omega
    subst e
    rw [F_X6_nodesIn_L18, if_pos (nI_le (Nat.le_refl _) (by omega))]
  | succ d ih =>
    intro fuel v h1 h2
    obtain ⟨u, rfl⟩ : ∃ u, fuel = u + 1 := ⟨fuel - 1, by omega⟩
    have hl := k_tlv_pos hs.wt (by omega)
    obtain ⟨i1, i2', i3, i4⟩ := hs.il hl
    obtain ⟨e1, e2, e3⟩ := i4.e (by omega)
    have hle := k_nc_le (show 1 ≤ k_u S.2.2.1.2.2.2.2.2 by omega) (v + 1) S.2.2.1.2.2.1
    have i2 := ih u (v + 1) (by omega) (by omega)
    rw [k_hf] at i2
    have q1 := k_mnodes (N := N) (by omega) h hs hl (D := v + 1) (by omega)
    rw [nI_pred] at q1
    rw [F_X6_nodesIn_L18, if_neg (nI_ge (by omega) (by omega))]
    simp only [h.cv, q1, Option.bind_some]
    refine (k_mhnode_loop (N := N) hN h hs hl (by omega) _ (k_nc (k_u S.2.2.1.2.2.2.2.2) (v + 1) S.2.2.1.2.2.1) N 0 (by omega) (by omega)).trans ?_
    rw [k_add1]
    exact i2
theorem k_mnodesIn (hN : 5000 ≤ N) (h : k_mo f m V) (hs : k_ms (V.1 1) S c) (h0 : Int64) : F_X6_nodesIn N f m h0 = some (k_hnodes S.2.2.1 h0) := by
  have htl : k_tlv S.2.2.1 ≤ 32 := k_lv_le _ _ _
  simp only [F_X6_nodesIn, h.cv, k_mallLevels (show 1000 ≤ N by omega) h hs, Option.bind_some]
  exact k_mhnodes_loop hN h hs _ (k_tlv S.2.2.1) N 0 (by omega) (by omega)
theorem k_mhk_loop (hN : 5000 ≤ N) (h : k_mo f m V) (hs : k_ms (V.1 1) S c) (hA : k_okA S) (hf : k_fd V S) (h0 : Int64) {K : Int64 → Int32 → Option (Int64 × XM)} : ∀ (d fuel i : Nat), i + d = (k_all S).1 → d < fuel →
    F_X6_keysIn_L18 N f m (nI (k_all S).1) K fuel (k_hf (k_hkey S) i h0) (nI i) = K (k_hf (k_hkey S) (k_all S).1 h0) (nI (k_all S).1) := by
  have hn := hA.2
  intro d
  induction d with
  | zero =>
    intro fuel i h1 h2
    obtain ⟨u, rfl⟩ : ∃ u, fuel = u + 1 := ⟨fuel - 1, by omega⟩
    have e : i = (k_all S).1 := by omega
    subst e
    rw [F_X6_keysIn_L18, if_pos (nI_le (Nat.le_refl _) (by omega))]
  | succ d ih =>
    intro fuel i h1 h2
    obtain ⟨u, rfl⟩ : ∃ u, fuel = u + 1 := ⟨fuel - 1, by omega⟩
    have hi : i < (k_all S).1 := by omega
    have hk := (hA.1.1.2 i hi).1
    have i2 := ih u (i + 1) (by omega) (by omega)
    rw [k_hf] at i2
    rw [F_X6_keysIn_L18, if_neg (nI_ge (by omega) (by omega))]
    simp only [h.r7, h.cv, k_fk h hA hf hi, k_fv h hA hf hi, k_mpages (show 1000 ≤ N by omega) h hs hk, Option.bind_some, k_add1]
    exact i2
theorem k_mkeysIn (hN : 20000 ≤ N) (h : k_mo f m V) (hs : k_ms (V.1 1) S c) (hA : k_okA S) (h0 : Int64) : ∃ (f' : XM) (V' : KM), F_X6_keysIn N f m h0 = some (k_hcnt S (k_hkeys S h0), f') ∧ k_mo f' m V' ∧ k_mx V V' [7] [8] ∧ k_fr f f' m (m + 10) := by
  obtain ⟨f1, V1, a1, a2, a3, a4, a5, a6⟩ := k_finds hN hA h hs
  have g1 : V1.1 1 = V.1 1 := a3.1 1 (by simp)
  obtain ⟨f2, V2, b1, b2, b3, b4, b5⟩ := k_between hN hA a2 (by rw [g1]; exact hs) 0 9999
  have g2 : V2.1 1 = V.1 1 := (b3.1 1 (by simp)).trans g1
  obtain ⟨f3, V3, c1, c2, c3, c4, c5⟩ := k_between hN hA b2 (by rw [g2]; exact hs) 100 500
  have hn := hA.2
  refine ⟨f3, V3, ?_, c2, (a3.tr b3).tr c3, (a4.tr b4).tr c4⟩
  simp only [F_X6_keysIn, h.cv, a1, Option.bind_some]
  refine (k_mhk_loop (by omega) a2 (by rw [g1]; exact hs) hA a6 _ (k_all S).1 N 0 (by omega) (by omega)).trans ?_
  obtain ⟨u, hu⟩ : ∃ u, N = u + 1 + 1 + 1 := ⟨N - 3, by omega⟩
  conv => lhs; arg 4; rw [hu]
  rw [F_X6_keysIn_L98, if_neg (by decide), if_pos rfl]
  simp only [a2.cv, b1, Option.bind_some]
  rw [F_X6_keysIn_L98, if_neg (by decide), if_neg (by decide)]
  simp only [b2.cv, c1, Option.bind_some]
  rw [F_X6_keysIn_L98, if_pos (by decide)]
  rfl
theorem k_mworst_loop (hN : 5000 ≤ N) (h : k_mo f m V) (hs : k_ms (V.1 1) S c) (hA : k_okA S) (hf : k_fd V S) {K : Int32 → Int32 → Option (Int32 × XM)} : ∀ (d fuel i : Nat), i + d = (k_all S).1 → d < fuel →
    F_X6_worst_L9 N f m (nI (k_all S).1) K fuel (nI (k_mxp (fun i => k_pg S ((k_all S).2.1 i)) i)) (nI i) = K (nI (k_wst S)) (nI (k_all S).1) := by
  have hn := hA.2
  intro d
  induction d with
  | zero =>
    intro fuel i h1 h2
    obtain ⟨u, rfl⟩ : ∃ u, fuel = u + 1 := ⟨fuel - 1, by omega⟩
    have e : i = (k_all S).1 := by omega
    subst e
    rw [F_X6_worst_L9, if_pos (nI_le (Nat.le_refl _) (by omega))]
    rfl
  | succ d ih =>
    intro fuel i h1 h2
    obtain ⟨u, rfl⟩ : ∃ u, fuel = u + 1 := ⟨fuel - 1, by omega⟩
    have hi : i < (k_all S).1 := by omega
    have hk := (hA.1.1.2 i hi).1
    have i2 := ih u (i + 1) (by omega) (by omega)
    have b1 := k_pg_le hs.1 ((k_all S).2.1 i)
    have b2 := k_mxp_le (p := fun i => k_pg S ((k_all S).2.1 i)) (m := 300) (n := i) (fun i _ => k_pg_le hs.1 _)
    rw [k_mxp] at i2
    rw [F_X6_worst_L9, if_neg (nI_ge (by omega) (by omega))]
    simp only [h.r7, h.cv, k_fk h hA hf hi, k_mpages (show 1000 ≤ N by omega) h hs hk, Option.bind_some, k_add1]
    by_cases g : k_pg S ((k_all S).2.1 i) ≤ k_mxp (fun i => k_pg S ((k_all S).2.1 i)) i
    · rw [if_pos (nI_le g (by omega))]
      rw [Nat.max_eq_left g] at i2
      exact i2
    · rw [if_neg (nI_ge (by omega) (by omega))]
      rw [Nat.max_eq_right (by omega)] at i2
      exact i2
theorem k_mworst (hN : 20000 ≤ N) (h : k_mo f m V) (hs : k_ms (V.1 1) S c) (hA : k_okA S) : ∃ (f' : XM) (V' : KM), F_X6_worst N f m = some (nI (k_wst S), f') ∧ k_mo f' m V' ∧ k_mx V V' [7] [8] ∧ k_fr f f' m (m + 10) := by
  obtain ⟨f1, V1, a1, a2, a3, a4, a5, a6⟩ := k_finds hN hA h hs
  have g1 : V1.1 1 = V.1 1 := a3.1 1 (by simp)
  refine ⟨f1, V1, ?_, a2, a3, a4⟩
  simp only [F_X6_worst, h.cv, a1, Option.bind_some]
  exact k_mworst_loop (by omega) a2 (by rw [g1]; exact hs) hA a6 (k_all S).1 N 0 (by omega) (by have := hA.2; omega)
theorem k_mmean_loop (hN : 5000 ≤ N) (h : k_mo f m V) (hs : k_ms (V.1 1) S c) (hA : k_okA S) (hf : k_fd V S) {K : UInt64 → Int32 → Option (UInt64 × XM)} : ∀ (d fuel i : Nat), i + d = (k_all S).1 → d < fuel →
    F_X6_mean_L10 N f m (nI (k_all S).1) K fuel (FP.i2d (nI (k_sum (fun i => k_pg S ((k_all S).2.1 i)) i))) (nI i) = K (FP.i2d (nI (k_pgs S))) (nI (k_all S).1) := by
  have hn := hA.2
  intro d
  induction d with
  | zero =>
    intro fuel i h1 h2
    obtain ⟨u, rfl⟩ : ∃ u, fuel = u + 1 := ⟨fuel - 1, by omega⟩
    have e : i = (k_all S).1 := by omega
    subst e
    rw [F_X6_mean_L10, if_pos (nI_le (Nat.le_refl _) (by omega))]
    rfl
  | succ d ih =>
    intro fuel i h1 h2
    obtain ⟨u, rfl⟩ : ∃ u, fuel = u + 1 := ⟨fuel - 1, by omega⟩
    have hi : i < (k_all S).1 := by omega
    have hk := (hA.1.1.2 i hi).1
    have i2 := ih u (i + 1) (by omega) (by omega)
    have b1 := k_pg_le hs.1 ((k_all S).2.1 i)
    have b2 := k_sum_le (p := fun i => k_pg S ((k_all S).2.1 i)) (m := 300) (n := i) (fun i _ => k_pg_le hs.1 _)
    rw [F_X6_mean_L10, if_neg (nI_ge (by omega) (by omega))]
    simp only [h.r7, h.cv, k_fk h hA hf hi, k_mpages (show 1000 ≤ N by omega) h hs hk, Option.bind_some, k_add1, k_dadd (a := k_sum (fun i => k_pg S ((k_all S).2.1 i)) i) (b := k_pg S ((k_all S).2.1 i)) (by omega) (by omega)]
    exact i2
theorem k_mmean (hN : 20000 ≤ N) (h : k_mo f m V) (hs : k_ms (V.1 1) S c) (hA : k_okA S) : ∃ (f' : XM) (V' : KM), F_X6_mean N f m = some (k_men S, f') ∧ k_mo f' m V' ∧ k_mx V V' [7] [8] ∧ k_fr f f' m (m + 10) := by
  obtain ⟨f1, V1, a1, a2, a3, a4, a5, a6⟩ := k_finds hN hA h hs
  have g1 : V1.1 1 = V.1 1 := a3.1 1 (by simp)
  have hn := hA.2
  refine ⟨f1, V1, ?_, a2, a3, a4⟩
  simp only [F_X6_mean, h.cv, a1, Option.bind_some, k_d0]
  refine (k_mmean_loop (by omega) a2 (by rw [g1]; exact hs) hA a6 (k_all S).1 N 0 (by omega) (by omega)).trans ?_
  unfold k_men k_ds
  by_cases z : (k_all S).1 = 0
  · rw [if_pos z, if_pos (by rw [z]; rfl), k_d0]
  · rw [if_neg z, if_neg (nI_ne0 (by omega) (by omega)), k_dq_n (k_pgs_le hs.1 hA) (by omega) (by omega)]
    rfl
theorem k_mshare_loop (h : k_mo f m V) (hs : k_ms (V.1 1) S c) {K : UInt64 → Int32 → Option UInt64} : ∀ (d fuel i : Nat), i + d = S.2.2.1.1.1 → d < fuel →
    F_X6_share_L4 N f m K fuel (FP.i2d (nI (k_cnt (fun j => decide (0 < k_eO (V.1 1) j)) i))) (nI i) = K (FP.i2d (nI (k_cnt (fun j => decide (0 < k_eO (V.1 1) j)) S.2.2.1.1.1))) (nI S.2.2.1.1.1) := by
  have hn := hs.wt.2.2.1
  intro d
  induction d with
  | zero =>
    intro fuel i h1 h2
    obtain ⟨u, rfl⟩ : ∃ u, fuel = u + 1 := ⟨fuel - 1, by omega⟩
    have e : i = S.2.2.1.1.1 := by omega
    subst e
    simp only [F_X6_share_L4, h.r0, k_l7 h hs, Option.bind_some]
    rw [if_pos (nI_le (Nat.le_refl _) (by omega))]
  | succ d ih =>
    intro fuel i h1 h2
    obtain ⟨u, rfl⟩ : ∃ u, fuel = u + 1 := ⟨fuel - 1, by omega⟩
    have i2 := ih u (i + 1) (by omega) (by omega)
    have hc := k_cnt_le (fun j => decide (0 < k_eO (V.1 1) j)) i
    simp only [F_X6_share_L4, h.r0, k_l7 h hs, h.cv, k_ent3 h (j := i) (by omega), Option.bind_some, k_add1, k_d0, k_d1, k_dadd (a := k_cnt (fun j => decide (0 < k_eO (V.1 1) j)) i) (b := 0) (by omega) (by omega), k_dadd (a := k_cnt (fun j => decide (0 < k_eO (V.1 1) j)) i) (b := 1) (by omega) (by omega), Nat.add_zero]
    rw [if_neg (nI_ge (by omega) (by omega))]
    by_cases g : 0 < k_eO (V.1 1) i
    · rw [if_neg (by rw [k_i_le]; rw [k_i_lt] at g; omega)]
      rw [k_cnt_y (decide_eq_true g)] at i2
      exact i2
    · rw [if_pos (by rw [k_i_le]; rw [k_i_lt] at g; omega)]
      rw [k_cnt_n (decide_eq_false g)] at i2
      exact i2
theorem k_mshare (hN : 1000 ≤ N) (h : k_mo f m V) (hs : k_ms (V.1 1) S c) : F_X6_share N f m = some (k_shr S.2.2.1) := by
  have hn := hs.wt.2.2.1
  have e := k_me_cnt hs.wt.1 hs.me (q := fun j => decide (0 < k_eO (V.1 1) j)) (p := fun i => decide (0 < S.2.2.1.2.1 i)) (fun j hj => by
    show decide _ = decide _
    rw [decide_eq_decide]; exact (hs.or0 hj).2)
  have hc := k_cnt_le (fun i => decide (0 < S.2.2.1.2.1 i)) S.2.2.1.1.1
  unfold F_X6_share
  rw [k_d0]
  refine (k_mshare_loop (N := N) h hs S.2.2.1.1.1 N 0 (by omega) (by omega)).trans ?_
  simp only [h.r0, k_l7 h hs, Option.bind_some, e]
  unfold k_shr k_ds
  by_cases z : S.2.2.1.1.1 = 0
  · rw [if_pos z, if_pos (by rw [z]; rfl), k_d0]
  · rw [if_neg z, if_neg (nI_ne0 (by omega) (by omega)), k_dq_n (by omega) (by omega) (by omega)]
    rfl
end KMH
