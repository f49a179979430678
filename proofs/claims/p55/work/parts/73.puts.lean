/-! Calls that may change: merging, building, entries, sizes. -/
section KPV
variable {wz : Nat}
variable {N : Nat} {f : XM} {x n len : Nat} {q : Nat → Option Nat} {St : Nat → KS} {S : KS} {bf : Nat → Int32} {c m hs : Nat}
theorem k_xmerge (hN : 50000 ≤ N) (h : k_ci f x wz n q St S bf len) (hd : ∀ (a : Nat) (e : XE), f a = some e → a < hs) (hx : x + 70 ≤ hs ∧ wz ≤ hs) (hw : k_ws S) : ∃ (M : KR) (b : Bool), (b = true → 2 ≤ S.1 ∧ k_mgd (S.2.1 S.1) (S.2.1 (S.1 - 1)) M ∧ M.1 ≤ 60) ∧ (b = false → S.1 < 2 ∨ (2 ≤ S.1 ∧ k_mgd (S.2.1 S.1) (S.2.1 (S.1 - 1)) M ∧ 60 < M.1)) ∧ k_cx f x wz n q St S bf len (k_ex2 b) (nI M.1) (k_smg S M) (F_X5_mergeRuns N (f, hs) x) := by
  obtain ⟨sp, f1, a1, a2, a3, a4, a5, a6⟩ := k_ccopy (N := N) (by omega) h hd
  have ht := k_mergeOldest (N := N) (by omega) a4.st hw a4.gat (Or.inr (by omega))
  unfold F_X5_mergeRuns
  simp only [a1, h.now, Option.bind_some, a2, a3, a4.now, a4.gth, a4.st.cv]
  by_cases g : S.1 < 2
  · rw [if_pos g] at ht
    rw [ht, Option.bind_some]
    exact ⟨k_R0, false, fun e => by (cases e), fun _ => Or.inl g, k_cx_no a4 a5 k_fr2.rf a4.st a4.gat⟩
  · rw [if_neg g] at ht
    obtain ⟨f2, M, b1, b2, b3, b4, b5⟩ := ht
    by_cases g2 : 60 < M.1
    · rw [if_pos g2] at b5
      rw [b5.1, Option.bind_some]
      exact ⟨M, false, fun e => by (cases e), fun _ => Or.inr ⟨by omega, b1, g2⟩, k_cx_no a4 a5 b4 b5.2 b3⟩
    · rw [if_neg g2] at b5
      rw [b5.1, Option.bind_some]
      exact ⟨M, true, fun _ => ⟨by omega, b1, by omega⟩, fun e => by (cases e), k_cx_yes (by omega) a4 a5 a6 hx b4 b5.2 b3 (k_nim1 _ (by omega))⟩
/-- what is found fits -/
theorem k_ci.okA (hN : 5000 ≤ N) (h : k_ci f x wz n q St S bf len) (hw : k_ws S) : k_okA S := by
  obtain ⟨f1, r, Q, b1, b2, b3, b4, b5, b6, b7⟩ := k_gather (N := N) hN h.st hw h.gat (Or.inr (by omega))
  exact k_okA_of b7 (by have := b2.le; omega)
theorem k_sbl_cg {b : Nat} {Q R : KR} {p : Nat} (hw : k_ws S) (hp : p ≤ 100) (h : k_st f b (k_sbl S Q p)) (hn : Q.1 = R.1) (he : ∀ i, i < Q.1 → Q.2.1 i = R.2.1 i ∧ Q.2.2 i = R.2.2 i) : k_st f b (k_sbl S R p) := by
  have hea := k_each_r hw hp
  have ht : k_tree f (b + 5) (k_sbl S R p).2.2.1 := h.tree.cong hn (fun i hi => ⟨(he i hi).1, (he i hi).2, rfl⟩) (by show k_ru Q.1 _ = k_ru R.1 _; rw [hn]) (fun i hi => by
    have hi' : i < k_ru Q.1 (k_each S.2.2.2.1 p) := hi
    show (if i = 0 then 0 else Q.2.1 (k_each S.2.2.2.1 p * i)) = if i = 0 then 0 else R.2.1 (k_each S.2.2.2.1 p * i)
    rw [(he _ (k_ru_lt hea.1 hi')).1]) rfl
  have := h.sett k_fr.rf ht
  have e : k_stt (k_sbl S Q p) (k_sbl S R p).2.2.1 = k_sbl S R p := by
    unfold k_stt k_sbl
    rw [hn]
  rw [e] at this
  exact this
theorem k_xbuild (hN : 50000 ≤ N) (h : k_ci f x wz n q St S bf len) (hd : ∀ (a : Nat) (e : XE), f a = some e → a < hs) (hx : x + 70 ≤ hs ∧ wz ≤ hs) (hw : k_ws S) (k : Int32) : k_cx f x wz n q St S bf len (k_ex3 (decide (50 ≤ k.toInt ∧ k.toInt ≤ 100)) (decide ((k_all S).1 ≤ 160))) (nI (k_ru (k_all S).1 (k_each S.2.2.2.1 (k_u k)))) (k_sbl S (k_all S) (k_u k)) (F_X5_build N (f, hs) x k) := by
  have hA := h.okA (N := N) (by omega) hw
  unfold F_X5_build
  rw [k_reqFill, Option.bind_some]
  by_cases g : 50 ≤ k.toInt ∧ k.toInt ≤ 100
  · rw [if_pos g, decide_eq_true g]
    obtain ⟨j, j1, j2, j3⟩ := k_nn (x := k) (by omega)
    have hu : k_u k = j := by rw [j2]; exact k_u_n j1
    obtain ⟨sp, f1, a1, a2, a3, a4, a5, a6⟩ := k_ccopy (N := N) (by omega) h hd
    obtain ⟨f2, Q, b1, b2, b3, b4⟩ := k_rebuild (N := N) (by omega) a4.st hw a4.gat (Or.inr (by omega)) (p := j) (by omega)
    obtain ⟨u1, u2⟩ := k_fnd_uniq b1 hA.1
    have he := k_each_r hw (p := j) (by omega)
    show k_cx _ _ _ _ _ _ _ _ _ _ _ _ ((x_getr f 5 x 1).bind _)
    simp only [a1, h.now, Option.bind_some, a2, a3, a4.now, a4.gth, a4.st.cv]
    rw [hu, j2]
    by_cases g2 : 160 < Q.1
    · rw [if_pos g2] at b4
      rw [b4.1, Option.bind_some, decide_eq_false (by omega)]
      exact k_cx_no a4 a5 b3 b4.2 b2
    · rw [if_neg g2] at b4
      have hle := k_ru_le (c := Q.1) he.1
      rw [b4.1, Option.bind_some, decide_eq_true (by omega), ← u1]
      exact k_cx_yes (by omega) a4 a5 a6 hx b3 (k_sbl_cg hw (by omega) b4.2 u1 u2) b2 (k_nim1 _ (by omega))
  · rw [if_neg g, decide_eq_false g]
    exact k_cx_bad h
def k_cin (S : KS) (k : Int32) : Bool := decide (¬ k_run S k ≤ S.1 ∧ (k_pl S.2.2.1.1.1 S.2.2.1.1.2.1 k < S.2.2.1.1.1 ∨ S.2.2.1.1.1 < 160))
theorem k_twr_m1 (T : KT) (k v : Int32) : (k_twr T k v).1 = -1 ↔ ¬ (k_pl T.1.1 T.1.2.1 k < T.1.1 ∨ T.1.1 < 160) := by
  unfold k_twr
  by_cases g1 : k_pl T.1.1 T.1.2.1 k < T.1.1
  · rw [if_pos g1]; exact ⟨fun e => absurd e (show ¬ (0 : Int32) = -1 by decide), fun e => absurd (Or.inl g1) e⟩
  · rw [if_neg g1]
    by_cases g2 : 160 ≤ T.1.1
    · rw [if_pos g2]; exact ⟨fun _ => by omega, fun _ => rfl⟩
    · rw [if_neg g2]
      refine ⟨fun e => ?_, fun e => by omega⟩
      split at e
      · exact absurd e (show ¬ (3 : Int32) = -1 by decide)
      · split at e
        · exact absurd e (show ¬ (1 : Int32) = -1 by decide)
        · split at e
          · exact absurd e (show ¬ (3 : Int32) = -1 by decide)
          · exact absurd e (show ¬ (2 : Int32) = -1 by decide)
theorem k_xinsert (hN : 50000 ≤ N) (h : k_ci f x wz n q St S bf len) (hd : ∀ (a : Nat) (e : XE), f a = some e → a < hs) (hx : x + 70 ≤ hs ∧ wz ≤ hs) (hw : k_ws S) (hl : S.2.2.1.2.2.1 < 512) (k v : Int32) : k_cx f x wz n q St S bf len (k_ex3 (decide ((0 ≤ k.toInt ∧ k.toInt ≤ 9999) ∧ 0 ≤ v.toInt ∧ v.toInt ≤ 99)) (k_cin S k)) (k_twr (k_tfx S) k v).1 (k_stt S (k_twr (k_tfx S) k v).2) (F_X5_insert N (f, hs) x k v) := by
  unfold F_X5_insert
  rw [k_reqKey, Option.bind_some]
  by_cases g : 0 ≤ k.toInt ∧ k.toInt ≤ 9999
  · rw [if_pos g]
    show k_cx _ _ _ _ _ _ _ _ _ _ _ _ ((F_X5_requireValue N f v).bind _)
    rw [k_reqVal, Option.bind_some]
    by_cases g2 : 0 ≤ v.toInt ∧ v.toInt ≤ 99
    · rw [if_pos g2, decide_eq_true ⟨g, g2⟩]
      obtain ⟨sp, f1, a1, a2, a3, a4, a5, a6⟩ := k_ccopy (N := N) (by omega) h hd
      have ht := k_writeEntry (N := N) (by omega) a4.st hw hl g.1 v
      obtain ⟨-, -, -, t4, -⟩ := k_tfx_wt hw
      show k_cx _ _ _ _ _ _ _ _ _ _ _ _ ((x_getr f 5 x 1).bind _)
      simp only [a1, h.now, Option.bind_some, a2, a3, a4.now, a4.st.cv]
      unfold k_cin
      by_cases g3 : k_run S k ≤ S.1
      · rw [if_pos g3] at ht
        rw [ht, Option.bind_some, decide_eq_false (fun y => y.1 g3)]
        exact k_cx_no a4 a5 k_fr2.rf a4.st a4.gat
      · rw [if_neg g3] at ht
        obtain ⟨f2, b1, b2, b3⟩ := ht
        rw [b1, Option.bind_some]
        have hm := k_twr_m1 (k_tfx S) k v
        rw [t4] at hm
        by_cases g4 : k_pl S.2.2.1.1.1 S.2.2.1.1.2.1 k < S.2.2.1.1.1 ∨ S.2.2.1.1.1 < 160
        · have hne : ¬ (k_twr (k_tfx S) k v).1 = -1 := fun e => hm.mp e g4
          rw [if_neg hne] at b3
          rw [decide_eq_true ⟨g3, g4⟩]
          exact k_cx_yes (by omega) a4 a5 a6 hx (k_fr2.ofb b2 (Nat.le_refl _) (by omega)) b3 (a4.gat.ext (fun a c d => b2 a (by omega))) hne
        · have he := hm.mpr g4
          rw [if_pos he] at b3
          rw [decide_eq_false (fun y => g4 y.2), he, b3]
          exact k_cx_no a4 a5 k_fr2.rf a4.st a4.gat
    · rw [if_neg g2, decide_eq_false (fun y => g2 y.2)]
      exact k_cx_bad h
  · rw [if_neg g, decide_eq_false (fun y => g y.1)]
    exact k_cx_bad h
theorem k_val99 {v : Int32} (h : 0 ≤ v.toInt) : v ≠ -1 := fun e => by
  rw [e] at h
  exact absurd h (by decide)
theorem k_xerase (hN : 50000 ≤ N) (h : k_ci f x wz n q St S bf len) (hd : ∀ (a : Nat) (e : XE), f a = some e → a < hs) (hx : x + 70 ≤ hs ∧ wz ≤ hs) (hw : k_ws S) (k : Int32) : k_cx f x wz n q St S bf len (k_ex3 (decide (0 ≤ k.toInt ∧ k.toInt ≤ 9999)) (decide (¬ (k_run S k ≤ S.1 ∨ ¬ k_pl S.2.2.1.1.1 S.2.2.1.1.2.1 k < S.2.2.1.1.1)))) (S.2.2.1.1.2.2 (k_pl S.2.2.1.1.1 S.2.2.1.1.2.1 k)) (k_stt S (k_tdel S.2.2.1 k)) (F_X5_erase N (f, hs) x k) := by
  unfold F_X5_erase
  rw [k_reqKey, Option.bind_some]
  by_cases g : 0 ≤ k.toInt ∧ k.toInt ≤ 9999
  · rw [if_pos g, decide_eq_true g]
    obtain ⟨sp, f1, a1, a2, a3, a4, a5, a6⟩ := k_ccopy (N := N) (by omega) h hd
    have ht := k_eraseEntry (N := N) (by omega) a4.st hw g.1
    show k_cx _ _ _ _ _ _ _ _ _ _ _ _ ((x_getr f 5 x 1).bind _)
    simp only [a1, h.now, Option.bind_some, a2, a3, a4.now, a4.st.cv]
    by_cases g3 : k_run S k ≤ S.1 ∨ ¬ k_pl S.2.2.1.1.1 S.2.2.1.1.2.1 k < S.2.2.1.1.1
    · rw [if_pos g3] at ht
      rw [ht, Option.bind_some, decide_eq_false (fun y => y g3)]
      exact k_cx_no a4 a5 k_fr2.rf a4.st a4.gat
    · rw [if_neg g3] at ht
      obtain ⟨f2, b1, b2, b3⟩ := ht
      rw [b1, Option.bind_some, decide_eq_true g3]
      exact k_cx_yes (by omega) a4 a5 a6 hx (k_fr2.ofb b2 (Nat.le_refl _) (by omega)) b3 (a4.gat.ext (fun a c d => b2 a (by omega))) (hw.2.2.2.2.1.2.2.2.2.2.2.1 _ (by
        by_cases y : k_pl S.2.2.1.1.1 S.2.2.1.1.2.1 k < S.2.2.1.1.1
        · exact y
        · exact absurd (Or.inr y) g3))
  · rw [if_neg g, decide_eq_false g]
    exact k_cx_bad h
end KPV

