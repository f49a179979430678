/-! Values: of runs none below -1, of entries none below 0. -/
def k_vr (R : KR) (lo : Int) : Prop := ∀ i, i < R.1 → lo ≤ (R.2.2 i).toInt
def k_vv (S : KS) : Prop := (∀ r, r ≤ S.1 → k_vr (S.2.1 r) (-1)) ∧ k_vr S.2.2.1.1 0
theorem k_vv_val {S : KS} {k : Int32} (h : k_vv S) (hk : k_val S k ≠ -1) : 0 ≤ (k_val S k).toInt := by
  have em : (-1 : Int32).toInt = -1 := rfl
  unfold k_val at hk ⊢
  by_cases g : k_run S k ≤ S.1
  · rw [if_pos g] at hk ⊢
    have ht := of_decide_eq_true (k_run_yes g)
    have h1 := h.1 _ g _ ht
    rcases Int.lt_or_eq_of_le h1 with y | y
    · omega
    · exact absurd (Int32.toInt_inj.mp (y.symm.trans em.symm)) hk
  · rw [if_neg g] at hk ⊢
    by_cases g2 : k_pl S.2.2.1.1.1 S.2.2.1.1.2.1 k < S.2.2.1.1.1
    · rw [if_pos g2]
      exact h.2 _ g2
    · rw [if_neg g2] at hk
      exact absurd rfl hk
theorem k_vr_ins {n p : Nat} {g g2 : Nat → Int32} {k v : Int32} {lo : Int} (h : k_vr (n, g, g2) lo) (hp : p ≤ n) (hv : lo ≤ v.toInt) : k_vr (n + 1, k_ins p k g, k_ins p v g2) lo := by
  intro i hi
  have hi' : i < n + 1 := hi
  show lo ≤ (k_ins p v g2 i).toInt
  rcases Nat.lt_trichotomy i p with y | y | y
  · rw [k_ins_lo y]; exact h i (show i < n by omega)
  · rw [y, k_ins_at]; exact hv
  · rw [k_ins_hi y]; exact h (i - 1) (show i - 1 < n by omega)
theorem k_vr_upd {n p : Nat} {g g2 : Nat → Int32} {v : Int32} {lo : Int} (h : k_vr (n, g, g2) lo) (hv : lo ≤ v.toInt) : k_vr (n, g, upd g2 p v) lo := by
  intro i hi
  show lo ≤ (upd g2 p v i).toInt
  by_cases z : i = p
  · rw [z, k_upd_s]; exact hv
  · rw [k_upd_n z]; exact h i hi
theorem k_vr_wr {R : KR} {k v : Int32} {lo : Int} (h : k_vr R lo) (hv : lo ≤ v.toInt) : k_vr (k_wr R k v) lo := by
  unfold k_wr
  by_cases g : k_pl R.1 R.2.1 k < R.1
  · rw [if_pos g]; exact k_vr_upd h hv
  · rw [if_neg g]; exact k_vr_ins h (k_rk_le _ _ _) hv
theorem k_vv_s0 {S : KS} {k v : Int32} (h : k_vv S) (hv : -1 ≤ v.toInt) : k_vv (k_s0 S (k_wr (S.2.1 0) k v)) := ⟨fun r hr => by
  show k_vr (if r = 0 then k_wr (S.2.1 0) k v else S.2.1 r) (-1)
  by_cases z : r = 0
  · rw [if_pos z]; exact k_vr_wr (h.1 0 (Nat.zero_le _)) hv
  · rw [if_neg z]; exact h.1 r hr, h.2⟩
theorem k_vv_cl {S : KS} (h : k_vv S) : k_vv (k_scl S) := ⟨fun r hr => by
  have hr' : r ≤ S.1 + 1 := hr
  show k_vr (if r = 0 then (0, (S.2.1 0).2) else S.2.1 (r - 1)) (-1)
  by_cases z : r = 0
  · rw [if_pos z]; exact fun i hi => absurd hi (Nat.not_lt_zero _)
  · rw [if_neg z]; exact h.1 (r - 1) (by omega), h.2⟩
theorem k_vv_mg {S : KS} {M : KR} (h : k_vv S) (hc : 2 ≤ S.1) (hM : k_mgd (S.2.1 S.1) (S.2.1 (S.1 - 1)) M) : k_vv (k_smg S M) := ⟨fun r hr => by
  have hr' : r ≤ S.1 - 1 := hr
  show k_vr (if r = S.1 - 1 then M else S.2.1 r) (-1)
  by_cases z : r = S.1 - 1
  · rw [if_pos z]
    intro i hi
    rcases (hM.2 _ _).mp ⟨i, hi, rfl, rfl⟩ with ⟨j, j1, -, j3⟩ | ⟨⟨j, j1, -, j3⟩, -⟩
    · rw [← j3]; exact h.1 (S.1 - 1) (by omega) j j1
    · rw [← j3]; exact h.1 S.1 (Nat.le_refl _) j j1
  · rw [if_neg z]; exact h.1 r (by omega), h.2⟩
theorem k_vv_bl {S : KS} {Q : KR} {p : Nat} (h : k_vv S) (hQ : k_fnd S Q) : k_vv (k_sbl S Q p) := ⟨fun r hr i hi => absurd hi (Nat.not_lt_zero _), fun i hi => by
  obtain ⟨e1, e2⟩ := (hQ.2 _ _).mp ⟨i, hi, rfl, rfl⟩
  show 0 ≤ (Q.2.2 i).toInt
  rw [← e1]
  exact k_vv_val h (by rw [e1]; exact e2)⟩
theorem k_vv_tw {S : KS} {k v : Int32} (h : k_vv S) (hv : 0 ≤ v.toInt) : k_vv (k_stt S (k_twr (k_tfx S) k v).2) := by
  refine ⟨h.1, ?_⟩
  have hT : k_vr (k_tfx S).1 0 := by
    unfold k_tfx
    split
    · exact h.2
    · exact h.2
  show k_vr (k_twr (k_tfx S) k v).2.1 0
  generalize k_tfx S = T at hT
  unfold k_twr
  split
  · exact k_vr_upd hT hv
  · split
    · exact hT
    · split
      · exact k_vr_ins hT (k_rk_le _ _ _) hv
      · split
        · exact k_vr_ins hT (k_rk_le _ _ _) hv
        · split
          · exact k_vr_ins hT (k_rk_le _ _ _) hv
          · exact k_vr_ins hT (k_rk_le _ _ _) hv
theorem k_vv_del {S : KS} {k : Int32} (h : k_vv S) : k_vv (k_stt S (k_tdel S.2.2.1 k)) := ⟨h.1, fun i hi => by
  have hi' : i < S.2.2.1.1.1 - 1 := hi
  show 0 ≤ (k_rem (k_pl S.2.2.1.1.1 S.2.2.1.1.2.1 k) S.2.2.1.1.2.2 i).toInt
  rcases Nat.lt_or_ge i (k_pl S.2.2.1.1.1 S.2.2.1.1.2.1 k) with y | y
  · rw [k_rem_lo y]; exact h.2 i (by omega)
  · rw [k_rem_hi y]; exact h.2 (i + 1) (by omega)⟩
/-- of the state that stands, the saved ones, and those in slots -/
def k_vs (n : Nat) (q : Nat → Option Nat) (St : Nat → KS) (S : KS) : Prop := k_vv S ∧ (∀ i, i < n → k_vv (St (i + 1))) ∧ ∀ i, i < 2 → (∃ p, q (i + 7) = some p) → k_vv (St (i + 7))
theorem k_vs.saved {n n' : Nat} {q q' : Nat → Option Nat} {St St' : Nat → KS} {S S' : KS} (h : k_vs n q St S) (hn6 : n ≤ 6) (hn' : n' = (if n < 6 then n + 1 else 6)) (hS : ∀ i, i < n' → St' (i + 1) = k_svl n (fun i => if i = 0 then S else St i) i) (hq : ∀ i, i < 2 → q' (i + 7) = q (i + 7) ∧ St' (i + 7) = St (i + 7)) (hv : k_vv S') : k_vs n' q' St' S' := by
  refine ⟨hv, fun i hi => ?_, fun i hi y => ?_⟩
  · rw [hS i hi]
    unfold k_svl
    by_cases z : n < 6
    · rw [if_pos z] at hn'
      rw [if_pos z]
      by_cases y : i < n
      · rw [if_pos y]
        show k_vv (if i + 1 = 0 then S else St (i + 1))
        rw [if_neg (by omega)]
        exact h.2.1 i y
      · rw [if_neg y]
        exact h.1
    · rw [if_neg z] at hn'
      rw [if_neg z]
      by_cases y : i < 5
      · rw [if_pos y]
        show k_vv (if i + 2 = 0 then S else St (i + 2))
        rw [if_neg (by omega)]
        exact h.2.1 (i + 1) (by omega)
      · rw [if_neg y]
        exact h.1
  · rw [(hq i hi).2]
    rw [(hq i hi).1] at y
    exact h.2.2 i hi y
theorem k_vs.kept {n j : Nat} {q q' : Nat → Option Nat} {St : Nat → KS} {S : KS} (h : k_vs n q St S) (hn : n ≤ 6) (hq : ∀ i, i ≠ j + 7 → q' i = q i) : k_vs n q' (fun i => if i = j + 7 then S else St i) S := by
  refine ⟨h.1, fun i hi => ?_, fun i hi y => ?_⟩
  · show k_vv (if i + 1 = j + 7 then S else St (i + 1))
    rw [if_neg (by omega)]
    exact h.2.1 i hi
  · show k_vv (if i + 7 = j + 7 then S else St (i + 7))
    by_cases z : i + 7 = j + 7
    · rw [if_pos z]; exact h.1
    · rw [if_neg z]
      rw [hq (i + 7) z] at y
      exact h.2.2 i hi y

