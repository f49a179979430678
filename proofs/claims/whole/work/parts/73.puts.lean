/-! Calls that may change: merging, building, entries, sizes. -/
section KPV
variable {N : Nat} {f : XM} {x n len : Nat} {q : Nat → Option Nat} {St : Nat → KS} {S : KS} {bf : Nat → Int32} {V : KM} {c m hs : Nat}
theorem k_xmerge (hN : 50000 ≤ N) (h : k_ci f x n q St S bf len) (hd : ∀ (a : Nat) (e : XE), f a = some e → a < hs) (hx : x + 81 ≤ hs) (hw : k_ws S) : ∃ (M : KR) (b : Bool), (b = true → 2 ≤ S.1 ∧ k_mgd (S.2.1 S.1) (S.2.1 (S.1 - 1)) M ∧ M.1 ≤ 60) ∧ (b = false → S.1 < 2 ∨ (2 ≤ S.1 ∧ k_mgd (S.2.1 S.1) (S.2.1 (S.1 - 1)) M ∧ 60 < M.1)) ∧ k_cx f x n q St S bf len (k_ex2 b) (nI M.1) (k_smg S M) (F_X5_mergeRuns N (f, hs) x) := by
  obtain ⟨sp, f1, a1, a2, a3, a4, a5, a6⟩ := k_ccopy (N := N) (by omega) h hd
  have ht := k_mergeOldest (N := N) (by omega) a4.st hw a4.gat (Or.inr (by omega))
  unfold F_X5_mergeRuns
  simp only [a1, h.now, Option.bind_some, a2, a3, a4.now, a4.gth, a4.st.cv]
  by_cases g : S.1 < 2
  · rw [if_pos g] at ht
    rw [ht, Option.bind_some]
    exact ⟨k_R0, false, fun e => by (cases e), fun _ => Or.inl g, k_cx_no a4 a5 k_fr2.rf a4.st a4.gat⟩
  · rw [if_neg g] at ht
    obtain ⟨f2, M, b1, b2, b3, b4, b5⟩ := ht
    by_cases g2 : 60 < M.1
    · rw [if_pos g2] at b5
      rw [b5.1, Option.bind_some]
      exact ⟨M, false, fun e => by (cases e), fun _ => Or.inr ⟨by omega, b1, g2⟩, k_cx_no a4 a5 b4 b5.2 b3⟩
    · rw [if_neg g2] at b5
      rw [b5.1, Option.bind_some]
      exact ⟨M, true, fun _ => ⟨by omega, b1, by omega⟩, fun e => by (cases e), k_cx_yes (by omega) a4 a5 a6 hx b4 b5.2 b3 (k_nim1 _ (by omega))⟩
theorem k_mmerge (hN : 50000 ≤ N) (h : k_mo f m V) (hs : k_ms (V.1 1) S c) (hn : n ≤ 6) (h2 : V.2 2 = nI n) {M : KR} {b : Bool} (hb1 : b = true → 2 ≤ S.1 ∧ k_mgd (S.2.1 S.1) (S.2.1 (S.1 - 1)) M ∧ M.1 ≤ 60) (hb0 : b = false → S.1 < 2 ∨ (2 ≤ S.1 ∧ k_mgd (S.2.1 S.1) (S.2.1 (S.1 - 1)) M ∧ 60 < M.1)) : k_mr m f V n c (k_e1 (k_ex2 b)) (nI M.1) (k_smg S M) (F_X6_mergeRuns N f m) := by
  have h6 := hs.1.1
  have tg : 2 ≤ S.1 → k_mgd (S.2.1 S.1) (S.2.1 (S.1 - 1)) M → F_X6_together N f m = some (nI M.1) := fun y z => k_together (q := S.1 - 1) (by omega) h hs (by omega) z
  have hM : 2 ≤ S.1 → k_mgd (S.2.1 S.1) (S.2.1 (S.1 - 1)) M → M.1 ≤ 120 := fun y z => by
    have := k_mgd_n (hs.1.2.1 S.1 (Nat.le_refl _)) (hs.1.2.1 (S.1 - 1) (by omega)) z
    have a := hs.sz (r := S.1) (Nat.le_refl _)
    have b := hs.sz (r := S.1 - 1) (by omega)
    have e := k_cnt_le (fun i => !k_tl (S.2.1 S.1) ((S.2.1 (S.1 - 1)).2.1 i)) (S.2.1 (S.1 - 1)).1
    omega
  unfold F_X6_mergeRuns
  rw [h.r0, Option.bind_some, Option.bind_some, k_l6 h hs, Option.bind_some]
  cases b with
  | true =>
    obtain ⟨y1, y2, y3⟩ := hb1 rfl
    rw [if_neg (show ¬ nI S.1 < 2 from nI_nlt (b := 2) y1 (by omega)), h.cv, tg y1 y2, Option.bind_some, if_pos (show nI M.1 ≤ 60 from nI_le (b := 60) y3 (by omega))]
    refine k_mp_yes (A := fun z => F_X6_merges N z m) hN h k_mx.rf k_fr.rf hn h2 (fun f1 V1 h1 e1 => ?_)
    obtain ⟨f2, V2, b1, b2, b3, b4, b5⟩ := k_mmerges (N := N) (S := S) (c := c) (by omega) h1 (by rw [e1]; exact hs) y1 y2 y3
    exact ⟨f2, V2, b1, b2, b3.wd (by simp) (by simp), b4, b5⟩
  | false =>
    rcases hb0 rfl with y | ⟨y1, y2, y3⟩
    · rw [if_pos (show nI S.1 < 2 from nI_lt (b := 2) y (by omega))]
      exact k_mp_no (A := fun z => F_X6_merges N z m) (Or.inl rfl) h k_mx.rf k_fr.rf
    · have := hM y1 y2
      rw [if_neg (show ¬ nI S.1 < 2 from nI_nlt (b := 2) y1 (by omega)), h.cv, tg y1 y2, Option.bind_some, if_neg (show ¬ nI M.1 ≤ 60 from nI_ge (a := 60) y3 (by omega))]
      exact k_mp_no (A := fun z => F_X6_merges N z m) (Or.inl rfl) h k_mx.rf k_fr.rf
/-- what is found fits -/
theorem k_ci.okA (hN : 5000 ≤ N) (h : k_ci f x n q St S bf len) (hw : k_ws S) : k_okA S := by
  obtain ⟨f1, r, Q, b1, b2, b3, b4, b5, b6, b7⟩ := k_gather (N := N) hN h.st hw h.gat (Or.inr (by omega))
  exact k_okA_of b7 (by have := b2.le; omega)
theorem k_sbl_cg {b : Nat} {Q R : KR} {p : Nat} (hw : k_ws S) (hp : p ≤ 100) (h : k_st f b (k_sbl S Q p)) (hn : Q.1 = R.1) (he : ∀ i, i < Q.1 → Q.2.1 i = R.2.1 i ∧ Q.2.2 i = R.2.2 i) : k_st f b (k_sbl S R p) := by
  have hea := k_each_r hw hp
  have ht : k_tree f (b + 5) (k_sbl S R p).2.2.1 := h.tree.cong hn (fun i hi => ⟨(he i hi).1, (he i hi).2, rfl⟩) (by show k_ru Q.1 _ = k_ru R.1 _; rw [hn]) (fun i hi => by
    have hi' : i < k_ru Q.1 (k_each S.2.2.2.1 p) := hi
    show (if i = 0 then 0 else Q.2.1 (k_each S.2.2.2.1 p * i)) = if i = 0 then 0 else R.2.1 (k_each S.2.2.2.1 p * i)
    rw [(he _ (k_ru_lt hea.1 hi')).1]) rfl
  have := h.sett k_fr.rf ht
  have e : k_stt (k_sbl S Q p) (k_sbl S R p).2.2.1 = k_sbl S R p := by
    unfold k_stt k_sbl
    rw [hn]
  rw [e] at this
  exact this
theorem k_xbuild (hN : 50000 ≤ N) (h : k_ci f x n q St S bf len) (hd : ∀ (a : Nat) (e : XE), f a = some e → a < hs) (hx : x + 81 ≤ hs) (hw : k_ws S) (k : Int32) : k_cx f x n q St S bf len (k_ex3 (decide (50 ≤ k.toInt ∧ k.toInt ≤ 100)) (decide ((k_all S).1 ≤ 160))) (nI (k_ru (k_all S).1 (k_each S.2.2.2.1 (k_u k)))) (k_sbl S (k_all S) (k_u k)) (F_X5_build N (f, hs) x k) := by
  have hA := h.okA (N := N) (by omega) hw
  unfold F_X5_build
  rw [k_reqFill, Option.bind_some]
  by_cases g : 50 ≤ k.toInt ∧ k.toInt ≤ 100
  · rw [if_pos g, decide_eq_true g]
    obtain ⟨j, j1, j2, j3⟩ := k_nn (x := k) (by omega)
    have hu : k_u k = j := by rw [j2]; exact k_u_n j1
    obtain ⟨sp, f1, a1, a2, a3, a4, a5, a6⟩ := k_ccopy (N := N) (by omega) h hd
    obtain ⟨f2, Q, b1, b2, b3, b4⟩ := k_rebuild (N := N) (by omega) a4.st hw a4.gat (Or.inr (by omega)) (p := j) (by omega)
    obtain ⟨u1, u2⟩ := k_fnd_uniq b1 hA.1
    have he := k_each_r hw (p := j) (by omega)
    show k_cx _ _ _ _ _ _ _ _ _ _ _ ((x_getr f 5 x 1).bind _)
    simp only [a1, h.now, Option.bind_some, a2, a3, a4.now, a4.gth, a4.st.cv]
    rw [hu, j2]
    by_cases g2 : 160 < Q.1
    · rw [if_pos g2] at b4
      rw [b4.1, Option.bind_some, decide_eq_false (by omega)]
      exact k_cx_no a4 a5 b3 b4.2 b2
    · rw [if_neg g2] at b4
      have hle := k_ru_le (c := Q.1) he.1
      rw [b4.1, Option.bind_some, decide_eq_true (by omega), ← u1]
      exact k_cx_yes (by omega) a4 a5 a6 hx b3 (k_sbl_cg hw (by omega) b4.2 u1 u2) b2 (k_nim1 _ (by omega))
  · rw [if_neg g, decide_eq_false g]
    exact k_cx_bad h
theorem k_mbuild (hN : 50000 ≤ N) (hA : k_okA S) (h : k_mo f m V) (hs : k_ms (V.1 1) S c) (hn : n ≤ 6) (h2 : V.2 2 = nI n) (hc : c + 1 ≤ 1200) (k : Int32) : k_mr m f V n (c + 1) (k_e2 (k_ex3 (decide (50 ≤ k.toInt ∧ k.toInt ≤ 100)) (decide ((k_all S).1 ≤ 160)))) (nI (k_ru (k_all S).1 (k_each S.2.2.2.1 (k_u k)))) (k_sbl S (k_all S) (k_u k)) (F_X6_build N f m k) := by
  unfold F_X6_build
  rw [k_isFill, Option.bind_some]
  by_cases g : 50 ≤ k.toInt ∧ k.toInt ≤ 100
  · obtain ⟨j, j1, j2, j3⟩ := k_nn (x := k) (by omega)
    have hu : k_u k = j := by rw [j2]; exact k_u_n j1
    obtain ⟨f1, V1, a1, a2, a3, a4⟩ := k_mcanBuild (N := N) (by omega) hA h hs
    rw [if_neg (k_xb1 g), decide_eq_true g, h.cv, a1, Option.bind_some, hu]
    by_cases g2 : (k_all S).1 ≤ 160
    · rw [if_neg (k_xb1 g2), decide_eq_true g2]
      refine k_mp_yes (A := fun z => F_X6_makes N z m k) hN a2 a3 a4 hn h2 (fun f1 V1 h1 e1 => ?_)
      rw [j2]
      obtain ⟨f2, V2, b1, b2, b3, b4, b5⟩ := k_mmakes (N := N) (by omega) hA h1 (by rw [e1]; exact hs) (p := j) (by omega) g2 hc
      exact ⟨f2, V2, b1, b2, b3.wd (by simp) (by simp), b4, b5⟩
    · rw [if_pos (k_xb0 g2), decide_eq_false g2]
      exact k_mp_no (A := fun z => F_X6_makes N z m k) (Or.inr rfl) a2 a3 a4
  · rw [if_pos (k_xb0 g), decide_eq_false g]
    exact k_mp_no (A := fun z => F_X6_makes N z m k) (Or.inl rfl) h k_mx.rf k_fr.rf
def k_cin (S : KS) (k : Int32) : Bool := decide (¬ k_run S k ≤ S.1 ∧ (k_pl S.2.2.1.1.1 S.2.2.1.1.2.1 k < S.2.2.1.1.1 ∨ S.2.2.1.1.1 < 160))
theorem k_twr_m1 (T : KT) (k v : Int32) : (k_twr T k v).1 = -1 ↔ ¬ (k_pl T.1.1 T.1.2.1 k < T.1.1 ∨ T.1.1 < 160) := by
  unfold k_twr
  by_cases g1 : k_pl T.1.1 T.1.2.1 k < T.1.1
  · rw [if_pos g1]; exact ⟨fun e => absurd e (show ¬ (0 : Int32) = -1 by decide), fun e => absurd (Or.inl g1) e⟩
  · rw [if_neg g1]
    by_cases g2 : 160 ≤ T.1.1
    · rw [if_pos g2]; exact ⟨fun _ => by omega, fun _ => rfl⟩
    · rw [if_neg g2]
      refine ⟨fun e => ?_, fun e => by omega⟩
      split at e
      · exact absurd e (show ¬ (3 : Int32) = -1 by decide)
      · split at e
        · exact absurd e (show ¬ (1 : Int32) = -1 by decide)
        · split at e
          · exact absurd e (show ¬ (3 : Int32) = -1 by decide)
          · exact absurd e (show ¬ (2 : Int32) = -1 by decide)
theorem k_xinsert (hN : 50000 ≤ N) (h : k_ci f x n q St S bf len) (hd : ∀ (a : Nat) (e : XE), f a = some e → a < hs) (hx : x + 81 ≤ hs) (hw : k_ws S) (hl : S.2.2.1.2.2.1 < 512) (k v : Int32) : k_cx f x n q St S bf len (k_ex3 (decide ((0 ≤ k.toInt ∧ k.toInt ≤ 9999) ∧ 0 ≤ v.toInt ∧ v.toInt ≤ 99)) (k_cin S k)) (k_twr (k_tfx S) k v).1 (k_stt S (k_twr (k_tfx S) k v).2) (F_X5_insert N (f, hs) x k v) := by
  unfold F_X5_insert
  rw [k_reqKey, Option.bind_some]
  by_cases g : 0 ≤ k.toInt ∧ k.toInt ≤ 9999
  · rw [if_pos g]
    show k_cx _ _ _ _ _ _ _ _ _ _ _ ((F_X5_requireValue N f v).bind _)
    rw [k_reqVal, Option.bind_some]
    by_cases g2 : 0 ≤ v.toInt ∧ v.toInt ≤ 99
    · rw [if_pos g2, decide_eq_true ⟨g, g2⟩]
      obtain ⟨sp, f1, a1, a2, a3, a4, a5, a6⟩ := k_ccopy (N := N) (by omega) h hd
      have ht := k_writeEntry (N := N) (by omega) a4.st hw hl g.1 v
      obtain ⟨-, -, -, t4, -⟩ := k_tfx_wt hw
      show k_cx _ _ _ _ _ _ _ _ _ _ _ ((x_getr f 5 x 1).bind _)
      simp only [a1, h.now, Option.bind_some, a2, a3, a4.now, a4.st.cv]
      unfold k_cin
      by_cases g3 : k_run S k ≤ S.1
      · rw [if_pos g3] at ht
        rw [ht, Option.bind_some, decide_eq_false (fun y => y.1 g3)]
        exact k_cx_no a4 a5 k_fr2.rf a4.st a4.gat
      · rw [if_neg g3] at ht
        obtain ⟨f2, b1, b2, b3⟩ := ht
        rw [b1, Option.bind_some]
        have hm := k_twr_m1 (k_tfx S) k v
        rw [t4] at hm
        by_cases g4 : k_pl S.2.2.1.1.1 S.2.2.1.1.2.1 k < S.2.2.1.1.1 ∨ S.2.2.1.1.1 < 160
        · have hne : ¬ (k_twr (k_tfx S) k v).1 = -1 := fun e => hm.mp e g4
          rw [if_neg hne] at b3
          rw [decide_eq_true ⟨g3, g4⟩]
          exact k_cx_yes (by omega) a4 a5 a6 hx (k_fr2.ofb b2 (Nat.le_refl _) (by omega)) b3 (a4.gat.ext (fun a c d => b2 a (by omega))) hne
        · have he := hm.mpr g4
          rw [if_pos he] at b3
          rw [decide_eq_false (fun y => g4 y.2), he, b3]
          exact k_cx_no a4 a5 k_fr2.rf a4.st a4.gat
    · rw [if_neg g2, decide_eq_false (fun y => g2 y.2)]
      exact k_cx_bad h
  · rw [if_neg g, decide_eq_false (fun y => g y.1)]
    exact k_cx_bad h
theorem k_mcanInsert (hN : 1000 ≤ N) (h : k_mo f m V) (hs : k_ms (V.1 1) S c) (k : Int32) : F_X6_canInsert N f m k = some (k_cin S k) := by
  have h6 := hs.1.1
  have hn := hs.wt.2.2.1
  have hp := k_pl_le S.2.2.1.1.1 (k_eK (V.1 1)) k
  unfold F_X6_canInsert k_cin
  rw [h.cv, k_runWith hN h hs, Option.bind_some]
  by_cases g : k_run S k ≤ S.1
  · rw [if_pos g, if_neg (k_nim1 _ (by omega)), decide_eq_false (fun y => y.1 g)]
  · rw [if_neg g, if_pos rfl, h.cv, k_entryOf hN h hs, Option.bind_some]
    have hpl := k_me_pl hs.me k
    by_cases g2 : k_pl S.2.2.1.1.1 (k_eK (V.1 1)) k < S.2.2.1.1.1
    · rw [if_pos g2, if_neg (k_nim1 _ (by omega)), decide_eq_true ⟨g, Or.inl (hpl.mp g2)⟩]
    · rw [if_neg g2, if_pos rfl, h.r0, Option.bind_some, Option.bind_some, k_l7 h hs, Option.bind_some]
      by_cases g3 : S.2.2.1.1.1 < 160
      · rw [if_neg (show ¬ (160 : Int32) ≤ nI S.2.2.1.1.1 from nI_ge (b := 160) g3 (by omega)), decide_eq_true ⟨g, Or.inr g3⟩]
      · rw [if_pos (show (160 : Int32) ≤ nI S.2.2.1.1.1 from nI_le (a := 160) (by omega) (by omega)), decide_eq_false (fun y => by
          rcases y.2 with z | z
          · exact g2 (hpl.mpr z)
          · exact g3 z)]
theorem k_val99 {v : Int32} (h : 0 ≤ v.toInt) : v ≠ -1 := fun e => by
  rw [e] at h
  exact absurd h (by decide)
theorem k_minsert (hN : 50000 ≤ N) (h : k_mo f m V) (hs : k_ms (V.1 1) S c) (hn : n ≤ 6) (h2 : V.2 2 = nI n) (hc : c + 1 ≤ 1200) (hl : S.2.2.1.2.2.1 < 512) (k v : Int32) : k_mr m f V n (c + 1) (k_e2 (k_ex3 (decide ((0 ≤ k.toInt ∧ k.toInt ≤ 9999) ∧ 0 ≤ v.toInt ∧ v.toInt ≤ 99)) (k_cin S k))) (k_twr (k_tfx S) k v).1 (k_stt S (k_twr (k_tfx S) k v).2) (F_X6_insert N f m k v) := by
  unfold F_X6_insert
  rw [k_isKey, Option.bind_some]
  by_cases g : 0 ≤ k.toInt ∧ k.toInt ≤ 9999
  · rw [if_neg (k_xb1 g), k_isValue, Option.bind_some]
    by_cases g2 : 0 ≤ v.toInt ∧ v.toInt ≤ 99
    · rw [if_neg (k_xb1 g2), decide_eq_true ⟨g, g2⟩, h.cv, k_mcanInsert (by omega) h hs, Option.bind_some]
      cases g3 : k_cin S k with
      | true =>
        have g4 := of_decide_eq_true g3
        rw [if_neg (by decide)]
        refine k_mp_yes (A := fun z => F_X6_inserts N z m k v) hN h k_mx.rf k_fr.rf hn h2 (fun f1 V1 h1 e1 => ?_)
        obtain ⟨f2, V2, b1, b2, b3, b4, b5⟩ := k_minserts (N := N) (by omega) h1 (by rw [e1]; exact hs) hc hl (k := k) (by omega) (k_val99 g2.1) g4.2
        exact ⟨f2, V2, b1, b2, b3.wd (by simp) (by simp), b4, b5⟩
      | false =>
        rw [if_pos (show x_b false = 0 from rfl)]
        exact k_mp_no (A := fun z => F_X6_inserts N z m k v) (Or.inr rfl) h k_mx.rf k_fr.rf
    · rw [if_pos (k_xb0 g2), decide_eq_false (fun y => g2 y.2)]
      exact k_mp_no (A := fun z => F_X6_inserts N z m k v) (Or.inl rfl) h k_mx.rf k_fr.rf
  · rw [if_pos (k_xb0 g), decide_eq_false (fun y => g y.1)]
    exact k_mp_no (A := fun z => F_X6_inserts N z m k v) (Or.inl rfl) h k_mx.rf k_fr.rf
theorem k_xerase (hN : 50000 ≤ N) (h : k_ci f x n q St S bf len) (hd : ∀ (a : Nat) (e : XE), f a = some e → a < hs) (hx : x + 81 ≤ hs) (hw : k_ws S) (k : Int32) : k_cx f x n q St S bf len (k_ex3 (decide (0 ≤ k.toInt ∧ k.toInt ≤ 9999)) (decide (¬ (k_run S k ≤ S.1 ∨ ¬ k_pl S.2.2.1.1.1 S.2.2.1.1.2.1 k < S.2.2.1.1.1)))) (S.2.2.1.1.2.2 (k_pl S.2.2.1.1.1 S.2.2.1.1.2.1 k)) (k_stt S (k_tdel S.2.2.1 k)) (F_X5_erase N (f, hs) x k) := by
  unfold F_X5_erase
  rw [k_reqKey, Option.bind_some]
  by_cases g : 0 ≤ k.toInt ∧ k.toInt ≤ 9999
  · rw [if_pos g, decide_eq_true g]
    obtain ⟨sp, f1, a1, a2, a3, a4, a5, a6⟩ := k_ccopy (N := N) (by omega) h hd
    have ht := k_eraseEntry (N := N) (by omega) a4.st hw g.1
    show k_cx _ _ _ _ _ _ _ _ _ _ _ ((x_getr f 5 x 1).bind _)
    simp only [a1, h.now, Option.bind_some, a2, a3, a4.now, a4.st.cv]
    by_cases g3 : k_run S k ≤ S.1 ∨ ¬ k_pl S.2.2.1.1.1 S.2.2.1.1.2.1 k < S.2.2.1.1.1
    · rw [if_pos g3] at ht
      rw [ht, Option.bind_some, decide_eq_false (fun y => y g3)]
      exact k_cx_no a4 a5 k_fr2.rf a4.st a4.gat
    · rw [if_neg g3] at ht
      obtain ⟨f2, b1, b2, b3⟩ := ht
      rw [b1, Option.bind_some, decide_eq_true g3]
      exact k_cx_yes (by omega) a4 a5 a6 hx (k_fr2.ofb b2 (Nat.le_refl _) (by omega)) b3 (a4.gat.ext (fun a c d => b2 a (by omega))) (hw.2.2.2.2.1.2.2.2.2.2.2.1 _ (by
        by_cases y : k_pl S.2.2.1.1.1 S.2.2.1.1.2.1 k < S.2.2.1.1.1
        · exact y
        · exact absurd (Or.inr y) g3))
  · rw [if_neg g, decide_eq_false g]
    exact k_cx_bad h
theorem k_mcanErase (hN : 1000 ≤ N) (h : k_mo f m V) (hs : k_ms (V.1 1) S c) (k : Int32) : F_X6_canErase N f m k = some (decide (¬ (k_run S k ≤ S.1 ∨ ¬ k_pl S.2.2.1.1.1 S.2.2.1.1.2.1 k < S.2.2.1.1.1))) := by
  have h6 := hs.1.1
  have hn := hs.wt.2.2.1
  unfold F_X6_canErase
  rw [h.cv, k_runWith hN h hs, Option.bind_some]
  by_cases g : k_run S k ≤ S.1
  · rw [if_pos g, if_neg (k_nim1 _ (by omega)), decide_eq_false (fun y => y (Or.inl g))]
  · rw [if_neg g, if_pos rfl, h.cv, k_entryOf hN h hs, Option.bind_some]
    have hpl := k_me_pl hs.me k
    by_cases g2 : k_pl S.2.2.1.1.1 (k_eK (V.1 1)) k < S.2.2.1.1.1
    · have hh : ¬ (k_run S k ≤ S.1 ∨ ¬ k_pl S.2.2.1.1.1 S.2.2.1.1.2.1 k < S.2.2.1.1.1) := fun y => by
        rcases y with z | z
        · exact g z
        · exact z (hpl.mp g2)
      rw [if_pos g2, if_neg (k_nim1 _ (by omega)), decide_eq_true hh]
    · rw [if_neg g2, if_pos rfl, decide_eq_false (fun y => y (Or.inr (fun z => g2 (hpl.mpr z))))]
theorem k_merase (hN : 50000 ≤ N) (h : k_mo f m V) (hs : k_ms (V.1 1) S c) (hn : n ≤ 6) (h2 : V.2 2 = nI n) (k : Int32) : k_mr m f V n c (k_e2 (k_ex3 (decide (0 ≤ k.toInt ∧ k.toInt ≤ 9999)) (decide (¬ (k_run S k ≤ S.1 ∨ ¬ k_pl S.2.2.1.1.1 S.2.2.1.1.2.1 k < S.2.2.1.1.1))))) (S.2.2.1.1.2.2 (k_pl S.2.2.1.1.1 S.2.2.1.1.2.1 k)) (k_stt S (k_tdel S.2.2.1 k)) (F_X6_erase N f m k) := by
  unfold F_X6_erase
  rw [k_isKey, Option.bind_some]
  by_cases g : 0 ≤ k.toInt ∧ k.toInt ≤ 9999
  · rw [if_neg (k_xb1 g), decide_eq_true g, h.cv, k_mcanErase (by omega) h hs, Option.bind_some]
    by_cases g3 : ¬ (k_run S k ≤ S.1 ∨ ¬ k_pl S.2.2.1.1.1 S.2.2.1.1.2.1 k < S.2.2.1.1.1)
    · rw [if_neg (k_xb1 g3), decide_eq_true g3]
      refine k_mp_yes (A := fun z => F_X6_erases N z m k) hN h k_mx.rf k_fr.rf hn h2 (fun f1 V1 h1 e1 => ?_)
      obtain ⟨f2, V2, b1, b2, b3, b4, b5⟩ := k_merases (N := N) (S := S) (c := c) (by omega) h1 (by rw [e1]; exact hs) (k := k) (by
        by_cases y : k_pl S.2.2.1.1.1 S.2.2.1.1.2.1 k < S.2.2.1.1.1
        · exact y
        · exact absurd (Or.inr y) g3)
      exact ⟨f2, V2, b1, b2, b3.wd (by simp) (by simp), b4, b5⟩
    · rw [if_pos (k_xb0 g3), decide_eq_false g3]
      exact k_mp_no (A := fun z => F_X6_erases N z m k) (Or.inr rfl) h k_mx.rf k_fr.rf
  · rw [if_pos (k_xb0 g), decide_eq_false g]
    exact k_mp_no (A := fun z => F_X6_erases N z m k) (Or.inl rfl) h k_mx.rf k_fr.rf
end KPV
