/-! States: the picture, and what is read of it. -/
/-- closed runs, runs (0 the first, then the youngest ..), tree, numbers -/
abbrev KS : Type := Nat × (Nat → KR) × KT × Int32 × Int32 × Int32 × Int32
def k_st (f : XM) (b : Nat) (S : KS) : Prop :=
  f b = some (.inr (3, [.ref (b + 1), .ref (b + 4), .int (nI S.1), .ref (b + 5), .int S.2.2.2.1, .int S.2.2.2.2.1, .int S.2.2.2.2.2.1, .int S.2.2.2.2.2.2])) ∧ S.1 ≤ 6 ∧ k_row f (b + 1) 12 (S.2.1 0) ∧ k_tree f (b + 5) S.2.2.1 ∧
  ∃ (g : Nat → Option Nat) (w : Nat → Nat) (Q : Nat → KR), f (b + 4) = some (.inl (.object (x_cls 2), 6, .inr (.inr (.inr (.inr g))))) ∧ (∀ i, i < 6 → g i = some (b + 11 + 3 * w i) ∧ w i < 6 ∧ k_row f (b + 11 + 3 * w i) 60 (Q i)) ∧ (∀ i j, i < j → j < 6 → w i ≠ w j) ∧ (∀ i, i < S.1 → Q i = S.2.1 (S.1 - i))
theorem k_st.ext {f f' : XM} {b : Nat} {S : KS} (h : k_st f b S) (e : ∀ q, b ≤ q → q < b + 29 → f' q = f q) : k_st f' b S := by
  obtain ⟨h1, h2, h3, h4, g, w, Q, h5, h6, h7, h8⟩ := h
  refine ⟨(e _ (by omega) (by omega)).trans h1, h2, h3.ext (fun q a c => e q (by omega) (by omega)), h4.ext (fun q a c => e q (by omega) (by omega)), g, w, Q, (e _ (by omega) (by omega)).trans h5, fun i hi => ?_, h7, h8⟩
  obtain ⟨k1, k2, k3⟩ := h6 i hi
  exact ⟨k1, k2, k3.ext (fun q a c => e q (by omega) (by omega))⟩
theorem k_st.fr {f f' : XM} {b lo hi : Nat} {S : KS} (h : k_st f b S) (e : k_fr f f' lo hi) (d : b + 29 ≤ lo ∨ hi ≤ b) : k_st f' b S := h.ext (fun q h1 h2 => e q (by omega))
/-- a state as it comes to be -/
def k_ws (S : KS) : Prop :=
  S.1 ≤ 6 ∧ (∀ r, r ≤ S.1 → k_srt (S.2.1 r).1 (S.2.1 r).2.1) ∧ (S.2.1 0).1 ≤ 12 ∧ (∀ r, 1 ≤ r → r ≤ S.1 → (S.2.1 r).1 ≤ 60) ∧ k_wt S.2.2.1 ∧ k_sm S.2.2.2.1 2 8 ∧ k_sm S.2.2.2.2.1 2 6
/-- whether a run tells of a key -/
def k_tl (R : KR) (k : Int32) : Bool := decide (k_pl R.1 R.2.1 k < R.1)
/-- the youngest run that tells of a key; one more than there are if none does -/
def k_run (S : KS) (k : Int32) : Nat := k_fst (fun r => k_tl (S.2.1 r) k) (S.1 + 1)
/-- the value that counts of a key; -1 if it isn't found -/
def k_val (S : KS) (k : Int32) : Int32 :=
  if k_run S k ≤ S.1 then (S.2.1 (k_run S k)).2.2 (k_pl (S.2.1 (k_run S k)).1 (S.2.1 (k_run S k)).2.1 k)
  else if k_pl S.2.2.1.1.1 S.2.2.1.1.2.1 k < S.2.2.1.1.1 then S.2.2.1.1.2.2 (k_pl S.2.2.1.1.1 S.2.2.1.1.2.1 k) else -1
def k_pg (S : KS) (k : Int32) : Nat :=
  if k_run S k ≤ S.1 then k_cnt (fun r => decide (0 < (S.2.1 r).1)) (k_run S k + 1) else k_cnt (fun r => decide (0 < (S.2.1 r).1)) (S.1 + 1) + k_tpg S.2.2.1 k
theorem k_run_le (S : KS) (k : Int32) : k_run S k ≤ S.1 + 1 := k_fst_le _ _
theorem k_run_no {S : KS} {k : Int32} {r : Nat} (h : r < k_run S k) : k_tl (S.2.1 r) k = false := k_fst_no (fun r => k_tl (S.2.1 r) k) _ r h
theorem k_run_yes {S : KS} {k : Int32} (h : k_run S k ≤ S.1) : k_tl (S.2.1 (k_run S k)) k = true := k_fst_yes (fun r => k_tl (S.2.1 r) k) (S.1 + 1) (by unfold k_run at h; omega)
theorem k_aldr {f : XM} {ci a n : Nat} {g : Nat → Option Nat} (h : f a = some (.inl (.object (x_cls ci), n, .inr (.inr (.inr (.inr g)))))) {i : Nat} (hi : i < n) (hn : n < 2 ^ 31) : x_aldr f ci a (nI i) = some (g i) := by
  have h1 : ¬ (nI i < 0 ∨ n ≤ (nI i).toNatClampNeg) := nI_in hi hn
  have h2 : (nI i).toNatClampNeg = i := nI_clamp (by omega)
  simp only [x_aldr, h]
  rw [if_pos trivial, if_neg h1, h2]
theorem k_alenr {f : XM} {a n : Nat} {ty : FieldType} {x} (h : f a = some (.inl (ty, n, x))) : x_alen f a = some (nI n) := by simp [x_alen, h, nI]
section KSR
variable {wz : Nat}
variable {N : Nat} {f : XM} {b : Nat} {S : KS}
theorem k_st.cv {β : Type} {o : Option β} (h : k_st f b S) : x_cv f 3 b o = o := k_cv h.1
theorem k_st.op (h : k_st f b S) : x_getr f 3 b 0 = some (some (b + 1)) := k_getr h.1 rfl
theorem k_st.cl (h : k_st f b S) : x_getr f 3 b 1 = some (some (b + 4)) := k_getr h.1 rfl
theorem k_st.cc (h : k_st f b S) : x_geti f 3 b 2 = some (nI S.1) := k_geti h.1 rfl
theorem k_st.tr (h : k_st f b S) : x_getr f 3 b 3 = some (some (b + 5)) := k_getr h.1 rfl
theorem k_st.il (h : k_st f b S) : x_geti f 3 b 4 = some S.2.2.2.1 := k_geti h.1 rfl
theorem k_st.nl (h : k_st f b S) : x_geti f 3 b 5 = some S.2.2.2.2.1 := k_geti h.1 rfl
theorem k_st.bc (h : k_st f b S) : x_geti f 3 b 6 = some S.2.2.2.2.2.1 := k_geti h.1 rfl
theorem k_st.wc (h : k_st f b S) : x_geti f 3 b 7 = some S.2.2.2.2.2.2 := k_geti h.1 rfl
theorem k_st.row (h : k_st f b S) : k_row f (b + 1) 12 (S.2.1 0) := h.2.2.1
theorem k_st.tree (h : k_st f b S) : k_tree f (b + 5) S.2.2.1 := h.2.2.2.1
theorem k_st.crow (h : k_st f b S) {i : Nat} (hi : i < S.1) : ∃ p, x_aldr f 2 (b + 4) (nI i) = some (some p) ∧ k_row f p 60 (S.2.1 (S.1 - i)) ∧ b ≤ p ∧ p + 3 ≤ b + 29 := by
  obtain ⟨h1, h2, h3, h4, g, w, Q, h5, h6, h7, h8⟩ := h
  obtain ⟨k1, k2, k3⟩ := h6 i (by omega)
  exact ⟨b + 11 + 3 * w i, by rw [k_aldr h5 (by omega) (by omega), k1], by rw [← h8 i hi]; exact k3, by omega, by omega⟩
theorem k_st.cln (h : k_st f b S) : x_alen f (b + 4) = some (nI 6) := by
  obtain ⟨h1, h2, h3, h4, g, w, Q, h5, h6, h7, h8⟩ := h
  exact k_alenr h5
/-- a run, and where it lies -/
theorem k_runOn (h : k_st f b S) {r : Nat} (hr : r ≤ S.1) : ∃ p c, F_X3_runOn N f b (nI r) = some (some p) ∧ k_row f p c (S.2.1 r) ∧ b ≤ p ∧ p + 3 ≤ b + 29 ∧ c ≤ 60 := by
  have h6 := h.2.1
  by_cases z : r = 0
  · refine ⟨b + 1, 12, ?_, z ▸ h.row, by omega, by omega, by omega⟩
    simp only [F_X3_runOn, h.cc, h.op, Option.bind_some]
    rw [if_neg (nI_pos (by omega)), if_pos (nI_le hr (by omega)), if_pos (by rw [z]; rfl)]
  · obtain ⟨p, h1, h2, h3, h4⟩ := h.crow (i := S.1 - r) (by omega)
    rw [show S.1 - (S.1 - r) = r by omega] at h2
    refine ⟨p, 60, ?_, h2, h3, h4, by omega⟩
    simp only [F_X3_runOn, h.cc, h.cl, h.cln, Option.bind_some]
    rw [if_neg (nI_pos (by omega)), if_pos (nI_le hr (by omega)), if_neg (nI_ne0 (by omega) (by omega)), pk_sub hr, if_pos (nI_lt (by omega) (by omega)), h1]
    rfl
theorem k_runOn_o (h : k_st f b S) {r : Int32} (hr : r.toInt < 0 ∨ (S.1 : Int) < r.toInt) : F_X3_runOn N f b r = some none := by
  have h6 := h.2.1
  have e0 : (0 : Int32).toInt = 0 := rfl
  simp only [F_X3_runOn, h.cc, Option.bind_some]
  by_cases z : r < 0
  · rw [if_pos z]
  · rw [k_i_lt, e0] at z
    rw [if_neg (by rw [k_i_lt, e0]; exact z), if_neg (by rw [k_i_le, nI_toInt (by omega)]; omega)]
theorem k_tl_loop (hN : 1000 ≤ N) (h : k_st f b S) (hw : k_ws S) (k : Int32) : ∀ (d fuel i : Nat), i + d = S.1 + 1 → d < fuel → i ≤ k_run S k →
    F_X3_runTelling_L2 N f b k (fun _ => some (-1)) fuel (nI i) = some (if k_run S k ≤ S.1 then nI (k_run S k) else -1) := by
  have h6 := h.2.1
  have hrl := k_run_le S k
  intro d
  induction d with
  | zero =>
    intro fuel i h1 h2 h3
    obtain ⟨u, rfl⟩ : ∃ u, fuel = u + 1 := ⟨fuel - 1, by omega⟩
    simp only [F_X3_runTelling_L2, h.cc, Option.bind_some]
    rw [if_pos (nI_lt (by omega) (by omega)), if_neg (by omega)]
  | succ d ih =>
    intro fuel i h1 h2 h3
    obtain ⟨u, rfl⟩ : ∃ u, fuel = u + 1 := ⟨fuel - 1, by omega⟩
    obtain ⟨p, c, r1, r2, -, -, r5⟩ := k_runOn (N := N) h (r := i) (by omega)
    simp only [F_X3_runTelling_L2, h.cc, h.cv, r1, r2.cv, Option.elim_some, k_placeOf hN r2 (hw.2.1 i (by omega)), Option.bind_some, k_add1]
    rw [if_neg (nI_nlt (by omega) (by omega))]
    by_cases g : k_pl (S.2.1 i).1 (S.2.1 i).2.1 k < (S.2.1 i).1
    · have e : k_run S k = i := k_fst_eq (by omega) (fun j hj => k_run_no (Nat.lt_of_lt_of_le hj h3)) (fun _ => decide_eq_true g)
      rw [if_pos g, if_neg (k_nim1 _ (by have := r2.le; omega)), e, if_pos (by omega)]
    · rw [if_neg g, if_pos rfl]
      refine ih u (i + 1) (by omega) (by omega) ?_
      rcases Nat.eq_or_lt_of_le h3 with e | e
      · have := k_run_yes (S := S) (k := k) (by omega)
        rw [← e] at this
        exact absurd (of_decide_eq_true this) g
      · exact e
theorem k_runTelling (hN : 1000 ≤ N) (h : k_st f b S) (hw : k_ws S) (k : Int32) : F_X3_runTelling N f b k = some (if k_run S k ≤ S.1 then nI (k_run S k) else -1) :=
  k_tl_loop hN h hw k (S.1 + 1) N 0 (by omega) (by have := h.2.1; omega) (Nat.zero_le _)
theorem k_standingValue (hN : 1000 ≤ N) (h : k_st f b S) (hw : k_ws S) (k : Int32) : F_X3_standingValue N f b k = some (k_val S k) := by
  have h6 := h.2.1
  unfold k_val
  simp only [F_X3_standingValue, h.cv, k_runTelling hN h hw, Option.bind_some]
  by_cases g : k_run S k ≤ S.1
  · obtain ⟨p, c, r1, r2, -, -, r5⟩ := k_runOn (N := N) h g
    have hp := of_decide_eq_true (k_run_yes g)
    rw [if_pos g, if_pos g]
    simp only [r1, r2.cv, Option.bind_some, Option.elim_some, k_placeOf hN r2 (hw.2.1 _ g)]
    rw [if_pos hp]
    simp only [k_valueOn r2 hp, Option.bind_some]
  · rw [if_neg g, if_neg g]
    simp only [k_runOn_o h (r := -1) (Or.inl (by decide)), Option.bind_some, Option.elim_none, h.tr, h.tree.r, h.tree.row.cv, k_placeOf hN h.tree.row hw.2.2.2.2.1.1]
    by_cases g2 : k_pl S.2.2.1.1.1 S.2.2.1.1.2.1 k < S.2.2.1.1.1
    · rw [if_pos g2, if_pos g2]
      simp only [k_valueOn h.tree.row g2, Option.bind_some]
    · rw [if_neg g2, if_neg g2]
      simp only [k_valueOn_o h.tree.row (i := -1) (Or.inl (by decide)), Option.bind_some]
end KSR

