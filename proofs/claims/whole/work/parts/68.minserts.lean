/-! The reference: an entry written, wherever it belongs. -/
theorem k_cnt_pos {p : Nat → Bool} : ∀ {n : Nat}, 0 < k_cnt p n → ∃ i, i < n ∧ p i = true
  | 0, h => absurd h (Nat.lt_irrefl _)
  | n + 1, h => by
    cases z : p n with
    | true => exact ⟨n, Nat.lt_succ_self _, z⟩
    | false =>
      rw [k_cnt_n z] at h
      obtain ⟨i, h1, h2⟩ := k_cnt_pos h
      exact ⟨i, by omega, h2⟩
theorem k_lf_mono {T : KT} {a b : Int32} (h : a.toInt ≤ b.toInt) : k_lf T a ≤ k_lf T b := by
  rcases Nat.lt_or_ge (k_lf T b) (k_lf T a) with z | z
  · have h1 := of_decide_eq_false (k_fst_no (fun i => decide (a.toInt < (T.2.2.2.1 i).toInt)) T.2.2.1 (k_lf T b) z)
    have hle := k_lf_le T a
    have h2 := of_decide_eq_true (k_fst_yes (fun i => decide (b.toInt < (T.2.2.2.1 i).toInt)) T.2.2.1 (by unfold k_lf at z hle; omega))
    unfold k_lf at h1
    omega
  · exact z
section KML
variable {N : Nat} {f : XM} {m c : Nat} {V : KM} {S : KS}
theorem k_tfx_n {S : KS} (h : S.2.2.1.2.2.2.2.1 ≠ 0) : k_tfx S = S.2.2.1 := if_neg h
theorem k_ad_ms {G G' : Nat → Int32} {k v : Int32} {w : Nat} (hs : k_ms G S c) (hc : c + 1 ≤ 1200) (hl : 0 < S.2.2.1.2.2.1) (hk : 0 ≤ k.toInt ∧ k.toInt < 10000) (hv : v ≠ -1) (hpl : ¬ k_pl S.2.2.1.1.1 S.2.2.1.1.2.1 k < S.2.2.1.1.1) (hn : S.2.2.1.1.1 < 160) (hw : w ≤ c + 1)
    (hbig : w ≠ 0 → ∀ j, j < S.2.2.1.1.1 → k_eL G j = nI (k_lf S.2.2.1 k - 1) → (k_eO G j).toInt < w)
    (h2 : ∀ a, G' a = k_Ga G S.2.2.1.1.1 k v (nI (k_lf S.2.2.1 k - 1)) (nI w) a) : k_ms G' (k_stt S (k_tins S.2.2.1 k v (if w = 0 then 0 else nI (k_ovf S.2.2.1 (k_lf S.2.2.1 k - 1) + 1)))) (c + 1) := by
  have hil0 := hs.2.2.2.2.2.1
  have h23' := hs.2.2.2.2.2.2.1
  have hcl := hs.2.2.2.2.2.2.2.2.1
  have hct := hs.2.2.2.2.2.2.2.2.2.2
  have h512 := hs.wt.2.2.2.1
  have hlf := k_lf_le S.2.2.1 k
  have hlp := k_lf_pos hs.wt hk.1 hl
  have hovl := k_ovf_le S.2.2.1 (k_lf S.2.2.1 k - 1)
  have hov := k_ovf_m hs (l := k_lf S.2.2.1 k - 1) (by omega)
  have hGs : ∀ a, a ≠ 7 → ¬ (856 + 4 * S.2.2.1.1.1 ≤ a ∧ a < 860 + 4 * S.2.2.1.1.1) → G' a = G a := fun a x1 x2 => by
    rw [h2 a]; unfold k_Ga
    rw [if_neg (by omega), if_neg (by omega), if_neg (by omega), if_neg (by omega), if_neg x1]
  have hm := k_me_ins (G := G) (G' := G') (c := c) (c' := c + 1) (k := k) (v := v) (w := w) (T := S.2.2.1) hs.wt hs.me (by omega) hw hc hk hpl (fun j hj => by
    unfold k_eK k_eV k_eL k_eO
    exact ⟨hGs _ (by omega) (by omega), hGs _ (by omega) (by omega), hGs _ (by omega) (by omega), hGs _ (by omega) (by omega)⟩) (by
    unfold k_eK; rw [h2]; unfold k_Ga; rw [if_pos rfl]) (by
    unfold k_eV; rw [h2]; unfold k_Ga; rw [if_neg (by omega), if_pos rfl]) (by
    unfold k_eL; rw [h2]; unfold k_Ga; rw [if_neg (by omega), if_neg (by omega), if_pos rfl]) (by
    unfold k_eO; rw [h2]; unfold k_Ga; rw [if_neg (by omega), if_neg (by omega), if_neg (by omega), if_pos rfl]) hbig
  rw [hov, Nat.add_comm 1] at hm
  refine hs.tree (k_wt_ins hs.wt hk hpl hn hl hv ?_) (by omega) hc (fun a x1 x2 x3 x4 x5 => hGs a x4 (by omega)) ?_ ?_ (fun l hl' => ?_) hil0 (fun z => ?_) hm (show S.2.2.1.2.2.1 ≤ c + 1 by omega) (show k_told S + (S.2.2.1.1.1 + 1) ≤ c + 1 by omega)
  · split
    · exact ⟨0, rfl, Nat.le_refl _, Nat.zero_le _⟩
    · exact ⟨_, rfl, Nat.zero_le _, by omega⟩
  · rw [h2]; unfold k_Ga
    rw [if_neg (by omega), if_neg (by omega), if_neg (by omega), if_neg (by omega), if_pos rfl]
    rfl
  · rw [hGs 8 (by omega) (by omega)]; exact hs.2.2.1.2.2.2.2.2.2
  · rw [hGs _ (by omega) (by omega)]; exact hs.2.2.2.2.1 l hl'
  · obtain ⟨y1, y2⟩ := h23' z
    exact ⟨(hGs 2 (by omega) (by omega)).trans y1, (hGs 3 (by omega) (by omega)).trans y2⟩
theorem k_minserts (hN : 1000 ≤ N) (h : k_mo f m V) (hs : k_ms (V.1 1) S c) (hc : c + 1 ≤ 1200) (hl : S.2.2.1.2.2.1 < 512) {k v : Int32} (hk : 0 ≤ k.toInt ∧ k.toInt < 10000) (hv : v ≠ -1) (hcan : k_pl S.2.2.1.1.1 S.2.2.1.1.2.1 k < S.2.2.1.1.1 ∨ S.2.2.1.1.1 < 160) :
    ∃ (f' : XM) (V' : KM), F_X6_inserts N f m k v = some ((k_twr (k_tfx S) k v).1, f') ∧ k_mo f' m V' ∧ k_mx V V' [1] [] ∧ k_fr f f' m (m + 10) ∧ k_ms (V'.1 1) (k_stt S (k_twr (k_tfx S) k v).2) (c + 1) := by
  have hwt := hs.wt
  have hn160 := hwt.2.2.1
  have hil0 := hs.2.2.2.2.2.1
  have h23' := hs.2.2.2.2.2.2.1
  have hcl := hs.2.2.2.2.2.2.2.2.1
  have hct := hs.2.2.2.2.2.2.2.2.2.2
  have g7 : V.1 1 7 = nI S.2.2.1.1.1 := hs.2.2.1.2.2.2.2.2.1
  have g8 : V.1 1 8 = nI S.2.2.1.2.2.1 := hs.2.2.1.2.2.2.2.2.2
  obtain ⟨t1, t2, t3, t4, t5⟩ := k_tfx_wt hs.1
  by_cases g : k_pl S.2.2.1.1.1 S.2.2.1.1.2.1 k < S.2.2.1.1.1
  · have g' := (k_me_pl hs.me k).mpr g
    have hlp : S.2.2.1.2.2.1 ≠ 0 := fun z => by have := hwt.2.2.2.2.1 z; omega
    have hfx : k_tfx S = S.2.2.1 := k_tfx_n (fun e => hlp (hil0.mp e).1)
    have hek : k_eK (V.1 1) (k_pl S.2.2.1.1.1 (k_eK (V.1 1)) k) = k := k_pl_at g'
    have hent := k_entryOf hN h hs k
    rw [if_pos g'] at hent
    generalize k_pl S.2.2.1.1.1 (k_eK (V.1 1)) k = j0 at *
    obtain ⟨f1, a1, a2, a3⟩ := h.st (a := 1) (i := 857 + 4 * j0) (by omega) (by omega) (by show _ < 6696; omega) v
    refine ⟨f1, _, ?_, a2, k_sA_mx (by simp), a3, ?_⟩
    · have ix : (856 + 4 * nI j0 + 1 : Int32) = nI (857 + 4 * j0) := by
        rw [k_lit 856, k_lit 4, pk_mul, nI_add, k_add1]; exact congrArg nI (by omega)
      simp only [F_X6_inserts, h.cv, hent, Option.bind_some]
      rw [if_neg (k_nim1 _ (by omega)), h.r0, Option.bind_some, Option.bind_some, ix, a1, Option.bind_some, hfx]
      unfold k_twr
      rw [if_pos g]
    · rw [hfx]
      unfold k_twr
      rw [if_pos g]
      have hG : ∀ a, (k_sA V 1 (857 + 4 * j0) v).1 1 a = if a = 857 + 4 * j0 then v else V.1 1 a := fun a => by
        rw [k_sA_s]
        by_cases z : a = 857 + 4 * j0
        · rw [if_pos z, z, k_upd_s]
        · rw [if_neg z, k_upd_n z]
      have hm := k_me_set (G := V.1 1) (G' := (k_sA V 1 (857 + 4 * j0) v).1 1) (v := v) hwt hs.me g' (fun j hj => by
        unfold k_eK k_eV k_eL k_eO
        rw [hG, hG, hG, hG, if_neg (by omega), if_neg (by omega), if_neg (by omega)]
        refine ⟨rfl, rfl, rfl, ?_⟩
        by_cases z : j = j0
        · rw [if_pos z]; exact if_pos (by omega)
        · rw [if_neg z]; exact if_neg (by omega))
      rw [hek] at hm
      exact hs.tree (k_wt_set hwt hv) (by omega) hc (fun a x1 x2 x3 x4 x5 => by rw [hG, if_neg (by omega)]) (by rw [hG, if_neg (by omega)]; exact g7) (by rw [hG, if_neg (by omega)]; exact g8) (fun l hl' => by rw [hG, if_neg (by omega)]; exact hs.2.2.2.2.1 l hl') hil0 (fun z => by
        obtain ⟨y1, y2⟩ := h23' z
        rw [hG, hG, if_neg (by omega), if_neg (by omega)]
        exact ⟨y1, y2⟩) (hm.mono (by omega)) (show S.2.2.1.2.2.1 ≤ c + 1 by omega) (show k_told S + S.2.2.1.1.1 ≤ c + 1 by omega)
  · have g' : ¬ k_pl S.2.2.1.1.1 (k_eK (V.1 1)) k < S.2.2.1.1.1 := fun z => g ((k_me_pl hs.me k).mp z)
    have hn : S.2.2.1.1.1 < 160 := by omega
    have hpl' : ¬ k_pl (k_tfx S).1.1 (k_tfx S).1.2.1 k < (k_tfx S).1.1 := by rw [t4]; exact g
    have hn' : ¬ 160 ≤ (k_tfx S).1.1 := by rw [t4]; omega
    simp only [F_X6_inserts, h.cv, k_entryOf hN h hs, Option.bind_some]
    rw [if_neg g', if_pos rfl, h.r0, Option.bind_some, Option.bind_some, k_l8 h hs, Option.bind_some]
    by_cases z : S.2.2.1.2.2.1 = 0
    · have hn0 := hwt.2.2.2.2.1 z
      obtain ⟨f1, V1, a1, a2, a3, a4, a5⟩ := k_mappends (N := N) h hs hc hl hk hv g hn (fun i hi _ => by omega) (fun i hi => by omega)
      have hT : k_twr (k_tfx S) k v = (3, k_tins (k_tleaf (k_tfx S) k) k v 0) := by
        unfold k_twr
        rw [if_neg hpl', if_neg hn', if_pos (t5.trans z)]
      refine ⟨f1, V1, ?_, a2, a3, a4, ?_⟩
      · rw [if_pos (by rw [z]; rfl), a1, Option.bind_some, hT]
      · rw [hT]; exact a5
    · have hfx : k_tfx S = S.2.2.1 := k_tfx_n (fun e => z (hil0.mp e).1)
      have hlf := k_lf_le S.2.2.1 k
      have hlp := k_lf_pos hwt hk.1 (show 0 < S.2.2.1.2.2.1 by omega)
      have l2 := k_l2 h hs (show 0 < S.2.2.1.2.2.1 by omega)
      obtain ⟨i1, i2, i3, i4⟩ := hs.il (show 0 < S.2.2.1.2.2.1 by omega)
      obtain ⟨e1, e2, e3⟩ := i3.e (by omega)
      have hown := k_own_le S.2.2.1 (k_lf S.2.2.1 k - 1)
      rw [if_neg (nI_ne0 (by omega) (by omega)), k_mleafOf hN h hs hk.1 (by omega), Option.bind_some, k_mown hN h hs (by omega), Option.bind_some, Option.bind_some, Option.bind_some, l2, Option.bind_some]
      have adds : ∀ w, w ≤ c + 1 → (w ≠ 0 → ∀ j, j < S.2.2.1.1.1 → k_eL (V.1 1) j = nI (k_lf S.2.2.1 k - 1) → (k_eO (V.1 1) j).toInt < w) → ∃ (f' : XM) (V' : KM), F_X6_adds N f m k v (nI (k_lf S.2.2.1 k - 1)) (nI w) = some f' ∧ k_mo f' m V' ∧ k_mx V V' [1] [] ∧ k_fr f f' m (m + 10) ∧ k_ms (V'.1 1) (k_stt S (k_tins S.2.2.1 k v (if w = 0 then 0 else nI (k_ovf S.2.2.1 (k_lf S.2.2.1 k - 1) + 1)))) (c + 1) := fun w hw1 hw2 => by
        obtain ⟨f1, V1, a1, a2, a3, a4, a5⟩ := k_madds (N := N) h g7 hn k v (nI (k_lf S.2.2.1 k - 1)) (nI w)
        exact ⟨f1, V1, a1, a2, a3, a4, k_ad_ms hs hc (by omega) hk hv g hn hw1 hw2 a5⟩
      obtain ⟨M, m1, m2, m3⟩ := k_gr_ord (N := N) hN h hs (nI (k_lf S.2.2.1 k - 1))
      obtain ⟨fo, Vo, o1, o2, o3, o4, o5⟩ := adds (M + 1) (by omega) (fun _ j hj e => by have := m3 j hj e; omega)
      rw [if_neg (Nat.succ_ne_zero _)] at o5
      rw [hfx]
      by_cases gf : k_own S.2.2.1 (k_lf S.2.2.1 k - 1) < k_u S.2.2.1.2.2.2.2.1
      · obtain ⟨f1, V1, a1, a2, a3, a4, a5⟩ := adds 0 (by omega) (fun y => absurd rfl y)
        have hT : k_twr S.2.2.1 k v = (1, k_tins S.2.2.1 k v 0) := by
          unfold k_twr
          rw [if_neg g, if_neg (by omega), if_neg z, if_pos gf]
        refine ⟨f1, V1, ?_, a2, a3, a4, ?_⟩
        · have a1' : F_X6_adds N f m k v (nI (k_lf S.2.2.1 k - 1)) 0 = some f1 := a1
          rw [if_neg (by rw [e1]; exact nI_ge gf (by omega)), a1', Option.bind_some, hT]
        · rw [hT]
          rw [if_pos rfl] at a5
          exact a5
      · rw [if_pos (show S.2.2.1.2.2.2.2.1 ≤ nI (k_own S.2.2.1 (k_lf S.2.2.1 k - 1)) by rw [e1]; exact nI_le (by omega) (by omega)), Option.bind_some, Option.bind_some, k_l8 h hs, Option.bind_some]
        obtain ⟨q, hq⟩ : ∃ q, S.2.2.1.2.2.1 = q + 1 := ⟨S.2.2.1.2.2.1 - 1, by omega⟩
        have hT0 : k_twr S.2.2.1 k v = if k_lf S.2.2.1 k = S.2.2.1.2.2.1 ∧ (S.2.2.1.1.2.1 (S.2.2.1.1.1 - 1)).toInt < k.toInt then (3, k_tins (k_tleaf S.2.2.1 k) k v 0) else (2, k_tins S.2.2.1 k v (nI (k_ovf S.2.2.1 (k_lf S.2.2.1 k - 1) + 1))) := by
          unfold k_twr
          rw [if_neg g, if_neg (by omega), if_neg z, if_neg gf]
        by_cases gl : k_lf S.2.2.1 k = S.2.2.1.2.2.1
        · rw [if_pos (show nI (k_lf S.2.2.1 k - 1) = nI S.2.2.1.2.2.1 - 1 by rw [gl, hq, nI_pred]; rfl)]
          obtain ⟨x, x1, x2, x3⟩ := k_gr_key (N := N) hN h hs (nI (k_lf S.2.2.1 k - 1))
          rw [x1, Option.bind_some]
          -- a key of its own in the last leaf
          have hown1 : 0 < k_cnt (fun j => decide (k_eL (V.1 1) j = nI (k_lf S.2.2.1 k - 1)) && decide (k_eO (V.1 1) j = 0)) S.2.2.1.1.1 := by
            rw [k_own_m hs (show k_lf S.2.2.1 k - 1 < S.2.2.1.2.2.1 by omega)]; omega
          have hx : x.toInt = (S.2.2.1.1.2.1 (S.2.2.1.1.1 - 1)).toInt := by
            obtain ⟨j1, y1, y2⟩ := k_cnt_pos hown1
            simp only [Bool.and_eq_true, decide_eq_true_eq] at y2
            have b1 := x2 j1 y1 y2.1
            have k1 := hs.me.2.1 j1 y1
            have r1 := hwt.1.2 _ k1.1
            rw [k_pl_at k1.1] at r1
            rcases x3 with rfl | ⟨j2, w1, w2, rfl⟩
            · have : (-1 : Int32).toInt = -1 := rfl
              omega
            · have k2 := hs.me.2.1 j2 w1
              have le2 : (k_eK (V.1 1) j2).toInt ≤ (S.2.2.1.1.2.1 (S.2.2.1.1.1 - 1)).toInt := by
                rw [← k_pl_at k2.1]
                rcases Nat.eq_or_lt_of_le (show k_pl S.2.2.1.1.1 S.2.2.1.1.2.1 (k_eK (V.1 1) j2) ≤ S.2.2.1.1.1 - 1 by omega) with y | y
                · rw [y]; exact Int.le_refl _
                · exact Int.le_of_lt (hwt.1.1 _ _ y (by omega))
              obtain ⟨j3, v1, v2⟩ := hs.me.2.2.1 (S.2.2.1.1.1 - 1) (by omega)
              have k3 := hs.me.2.1 j3 v1
              have lf2 : k_lf S.2.2.1 (k_eK (V.1 1) j2) = S.2.2.1.2.2.1 := by
                have q1 := k2.2.2.1
                rw [w2] at q1
                have q2 := k_lf_le S.2.2.1 (k_eK (V.1 1) j2)
                have q3 := (nI_eq (by omega) (by omega)).mp q1
                have q4 := hwt.1.2 _ k2.1
                rw [k_pl_at k2.1] at q4
                have q5 := k_lf_pos hwt q4.1 (show 0 < S.2.2.1.2.2.1 by omega)
                omega
              have lf3 : k_lf S.2.2.1 (k_eK (V.1 1) j3) = S.2.2.1.2.2.1 := by
                have q1 := k_lf_mono (T := S.2.2.1) le2
                rw [← v2] at q1
                have q2 := k_lf_le S.2.2.1 (k_eK (V.1 1) j3)
                omega
              have b3 := x2 j3 v1 (by rw [k3.2.2.1, lf3, gl])
              rw [v2] at b3
              omega
          by_cases gk : k ≤ x
          · rw [if_pos gk, m1, Option.bind_some, k_add1, o1, Option.bind_some]
            have hT : k_twr S.2.2.1 k v = (2, k_tins S.2.2.1 k v (nI (k_ovf S.2.2.1 (k_lf S.2.2.1 k - 1) + 1))) := by
              rw [hT0, if_neg (fun y => by rw [k_i_le] at gk; omega)]
            rw [hT]
            exact ⟨fo, Vo, rfl, o2, o3, o4, o5⟩
          · have hlast : (S.2.2.1.1.2.1 (S.2.2.1.1.1 - 1)).toInt < k.toInt := by rw [k_i_le] at gk; omega
            have hT : k_twr S.2.2.1 k v = (3, k_tins (k_tleaf S.2.2.1 k) k v 0) := by rw [hT0, if_pos ⟨gl, hlast⟩]
            obtain ⟨f1, V1, a1, a2, a3, a4, a5⟩ := k_mappends (N := N) h hs hc hl hk hv g hn (k_beh hwt gl (by omega) hlast) (fun i hi => by
              rcases Nat.eq_or_lt_of_le (show i ≤ S.2.2.1.1.1 - 1 by omega) with y | y
              · rw [y]; exact hlast
              · have := hwt.1.1 i _ y (by omega)
                omega)
            rw [hfx] at a5
            rw [if_neg gk, a1, Option.bind_some, hT]
            exact ⟨f1, V1, rfl, a2, a3, a4, a5⟩
        · rw [if_neg (show ¬ nI (k_lf S.2.2.1 k - 1) = nI S.2.2.1.2.2.1 - 1 by rw [hq, nI_pred, nI_eq (by omega) (by omega)]; omega), m1, Option.bind_some, k_add1, o1, Option.bind_some]
          have hT : k_twr S.2.2.1 k v = (2, k_tins S.2.2.1 k v (nI (k_ovf S.2.2.1 (k_lf S.2.2.1 k - 1) + 1))) := by
            rw [hT0, if_neg (fun y => gl y.1)]
          rw [hT]
          exact ⟨fo, Vo, rfl, o2, o3, o4, o5⟩
end KML
