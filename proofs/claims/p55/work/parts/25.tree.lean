/-! The tree: what is read of it. -/
abbrev KT : Type := KR × (Nat → Int32) × Nat × (Nat → Int32) × Int32 × Int32
/-- a tree's object lies at b, its row behind it, then the places, the bounds -/
def k_tree (f : XM) (b : Nat) (T : KT) : Prop :=
  f b = some (.inr (4, [.ref (b + 1), .ref (b + 4), .ref (b + 5), .int (nI T.2.2.1), .int T.2.2.2.2.1, .int T.2.2.2.2.2])) ∧ k_row f (b + 1) 160 T.1 ∧
  (∃ gp : Nat → Int32, f (b + 4) = some (.inl (.int, 160, .inl gp)) ∧ ∀ i, i < T.1.1 → gp i = T.2.1 i) ∧ (∃ gb : Nat → Int32, f (b + 5) = some (.inl (.int, 512, .inl gb)) ∧ ∀ i, i < T.2.2.1 → gb i = T.2.2.2.1 i) ∧ T.2.2.1 ≤ 512
theorem k_tree.ext {f f' : XM} {b : Nat} {T : KT} (h : k_tree f b T) (e : ∀ q, b ≤ q → q < b + 6 → f' q = f q) : k_tree f' b T := by
  obtain ⟨h1, h2, ⟨gp, h3, h4⟩, ⟨gb, h5, h6⟩, h7⟩ := h
  exact ⟨(e _ (by omega) (by omega)).trans h1, h2.ext (fun q a c => e q (by omega) (by omega)), ⟨gp, (e _ (by omega) (by omega)).trans h3, h4⟩, ⟨gb, (e _ (by omega) (by omega)).trans h5, h6⟩, h7⟩
theorem k_tree.fr {f f' : XM} {b lo hi : Nat} {T : KT} (h : k_tree f b T) (e : k_fr f f' lo hi) (d : b + 6 ≤ lo ∨ hi ≤ b) : k_tree f' b T := h.ext (fun q h1 h2 => e q (by omega))
theorem k_tree.cong {f : XM} {b : Nat} {T T' : KT} (h : k_tree f b T) (e1 : T.1.1 = T'.1.1) (e2 : ∀ i, i < T.1.1 → T.1.2.1 i = T'.1.2.1 i ∧ T.1.2.2 i = T'.1.2.2 i ∧ T.2.1 i = T'.2.1 i) (e3 : T.2.2.1 = T'.2.2.1) (e4 : ∀ i, i < T.2.2.1 → T.2.2.2.1 i = T'.2.2.2.1 i) (e5 : T.2.2.2.2 = T'.2.2.2.2) : k_tree f b T' := by
  obtain ⟨h1, h2, ⟨gp, h3, h4⟩, ⟨gb, h5, h6⟩, h7⟩ := h
  refine ⟨by rw [← e3, ← e5]; exact h1, h2.cong e1 (fun i hi => (e2 i hi).1) (fun i hi => (e2 i hi).2.1), ⟨gp, h3, fun i hi => (h4 i (by omega)).trans (e2 i (by omega)).2.2⟩, ⟨gb, h5, fun i hi => (h6 i (by omega)).trans (e4 i (by omega))⟩, by omega⟩
/-- a small number -/
def k_sm (x : Int32) (lo hi : Nat) : Prop := ∃ j : Nat, x = nI j ∧ lo ≤ j ∧ j ≤ hi
/-- a tree as it comes to be -/
def k_wt (T : KT) : Prop :=
  k_srt T.1.1 T.1.2.1 ∧ k_srt T.2.2.1 T.2.2.2.1 ∧ T.1.1 ≤ 160 ∧ T.2.2.1 ≤ 512 ∧ (T.2.2.1 = 0 → T.1.1 = 0) ∧ (0 < T.2.2.1 → T.2.2.2.1 0 = 0) ∧ (∀ i, i < T.1.1 → T.1.2.2 i ≠ -1) ∧ (∀ i, i < T.1.1 → k_sm (T.2.1 i) 0 160) ∧
  ((T.2.2.1 = 0 ∧ T.2.2.2.2.1 = 0 ∧ T.2.2.2.2.2 = 0) ∨ (k_sm T.2.2.2.2.1 2 8 ∧ k_sm T.2.2.2.2.2 2 6))
/-- the bound of a leaf; behind the last 10000 -/
def k_bd (T : KT) (l : Nat) : Int32 := if l < T.2.2.1 then T.2.2.2.1 l else 10000
/-- how many leaves' bounds are not above a key -/
def k_lf (T : KT) (k : Int32) : Nat := k_fst (fun i => decide (k.toInt < (T.2.2.2.1 i).toInt)) T.2.2.1
/-- whether a key lies in a leaf's range -/
def k_inl (T : KT) (l : Nat) (k : Int32) : Bool := decide ((k_bd T l).toInt ≤ k.toInt ∧ k.toInt < (k_bd T (l + 1)).toInt)
def k_own (T : KT) (l : Nat) : Nat := k_cnt (fun i => k_inl T l (T.1.2.1 i) && decide (T.2.1 i = 0)) T.1.1
def k_ovf (T : KT) (l : Nat) : Nat := k_cnt (fun i => k_inl T l (T.1.2.1 i) && decide (0 < T.2.1 i)) T.1.1
theorem k_bd_r {T : KT} (h : k_wt T) (l : Nat) : 0 ≤ (k_bd T l).toInt ∧ (k_bd T l).toInt ≤ 10000 := by
  unfold k_bd
  split
  · have := h.2.1.2 l (by assumption); omega
  · decide
theorem k_bd_mono {T : KT} (h : k_wt T) {l m : Nat} (hl : l ≤ m) : (k_bd T l).toInt ≤ (k_bd T m).toInt := by
  by_cases hm : m < T.2.2.1
  · rcases Nat.eq_or_lt_of_le hl with e | e
    · rw [e]; exact Int.le_refl _
    · unfold k_bd
      rw [if_pos (by omega), if_pos hm]
      exact Int.le_of_lt (h.2.1.1 l m e hm)
  · have := (k_bd_r h l).2
    unfold k_bd at this ⊢
    rw [if_neg hm]
    exact this
theorem k_rk_mono {n : Nat} {g : Nat → Int32} (hs : k_srt n g) {a b : Int32} (h : a.toInt ≤ b.toInt) : k_rk n g a ≤ k_rk n g b := by
  rcases Nat.lt_or_ge (k_rk n g b) (k_rk n g a) with z | z
  · have h1 := k_rk_lo z
    have h2 := k_rk_hi hs (Nat.le_refl (k_rk n g b)) (Nat.lt_of_lt_of_le z (k_rk_le _ _ _))
    omega
  · exact z
theorem k_rk_iff {n : Nat} {g : Nat → Int32} (hs : k_srt n g) {a : Int32} {i : Nat} (hi : i < n) : k_rk n g a ≤ i ↔ a.toInt ≤ (g i).toInt := by
  constructor
  · intro h; exact k_rk_hi hs h hi
  · intro h
    rcases Nat.lt_or_ge i (k_rk n g a) with z | z
    · have := k_rk_lo z; omega
    · exact z
/-- the leaf of a key: its range holds it -/
theorem k_lf_le (T : KT) (k : Int32) : k_lf T k ≤ T.2.2.1 := k_fst_le _ _
theorem k_lf_pos {T : KT} (h : k_wt T) {k : Int32} (hk : 0 ≤ k.toInt) (hl : 0 < T.2.2.1) : 0 < k_lf T k := by
  rcases Nat.eq_zero_or_pos (k_lf T k) with z | z
  · have := k_fst_yes (fun i => decide (k.toInt < (T.2.2.2.1 i).toInt)) T.2.2.1 (by unfold k_lf at z; omega)
    have z' : k_fst (fun i => decide (k.toInt < (T.2.2.2.1 i).toInt)) T.2.2.1 = 0 := z
    rw [z'] at this
    have := of_decide_eq_true this
    rw [h.2.2.2.2.2.1 hl] at this
    have e0 : (0 : Int32).toInt = 0 := rfl
    omega
  · exact z
theorem k_lf_inl {T : KT} (h : k_wt T) {k : Int32} (hk : k.toInt < 10000) {l : Nat} (hl : l < T.2.2.1) : k_inl T l k = true ↔ k_lf T k = l + 1 := by
  have hb : k_bd T l = T.2.2.2.1 l := if_pos hl
  unfold k_inl
  rw [decide_eq_true_eq, hb]
  constructor
  · rintro ⟨h1, h2⟩
    refine k_fst_eq hl (fun j hj => decide_eq_false ?_) (fun hj => decide_eq_true ?_)
    · rcases Nat.eq_or_lt_of_le (Nat.le_of_lt_succ hj) with e | e
      · rw [e]; omega
      · have := h.2.1.1 j l e hl; omega
    · have : k_bd T (l + 1) = T.2.2.2.1 (l + 1) := if_pos hj
      rw [← this]; exact h2
  · intro e
    constructor
    · have := of_decide_eq_false (k_fst_no (fun i => decide (k.toInt < (T.2.2.2.1 i).toInt)) T.2.2.1 l (by unfold k_lf at e; omega))
      omega
    · unfold k_bd
      split
      · rename_i z
        have := of_decide_eq_true (k_fst_yes (fun i => decide (k.toInt < (T.2.2.2.1 i).toInt)) T.2.2.1 (by unfold k_lf at e; omega))
        unfold k_lf at e
        rw [e] at this
        exact this
      · exact hk
section KTR
variable {wz : Nat}
variable {N : Nat} {f : XM} {b : Nat} {T : KT}
theorem k_tree.cv {β : Type} {o : Option β} (h : k_tree f b T) : x_cv f 4 b o = o := k_cv h.1
theorem k_tree.r (h : k_tree f b T) : x_getr f 4 b 0 = some (some (b + 1)) := k_getr h.1 rfl
theorem k_tree.p (h : k_tree f b T) : x_getr f 4 b 1 = some (some (b + 4)) := k_getr h.1 rfl
theorem k_tree.bo (h : k_tree f b T) : x_getr f 4 b 2 = some (some (b + 5)) := k_getr h.1 rfl
theorem k_tree.l (h : k_tree f b T) : x_geti f 4 b 3 = some (nI T.2.2.1) := k_geti h.1 rfl
theorem k_tree.il (h : k_tree f b T) : x_geti f 4 b 4 = some T.2.2.2.2.1 := k_geti h.1 rfl
theorem k_tree.nl (h : k_tree f b T) : x_geti f 4 b 5 = some T.2.2.2.2.2 := k_geti h.1 rfl
theorem k_tree.row (h : k_tree f b T) : k_row f (b + 1) 160 T.1 := h.2.1
theorem k_tree.pl (h : k_tree f b T) : x_alen f (b + 4) = some (nI 160) := by
  obtain ⟨gp, h3, -⟩ := h.2.2.1
  exact k_alen h3
theorem k_tree.bl (h : k_tree f b T) : x_alen f (b + 5) = some (nI 512) := by
  obtain ⟨gp, h3, -⟩ := h.2.2.2.1
  exact k_alen h3
theorem k_tree.pa (h : k_tree f b T) {i : Nat} (hi : i < T.1.1) : x_ald f (b + 4) (nI i) = some (T.2.1 i) := by
  have hl := h.row.le
  obtain ⟨gp, h3, h4⟩ := h.2.2.1
  rw [k_ald h3 (by omega) (by omega), h4 i hi]
theorem k_tree.ba (h : k_tree f b T) {i : Nat} (hi : i < T.2.2.1) : x_ald f (b + 5) (nI i) = some (T.2.2.2.1 i) := by
  have hl := h.2.2.2.2
  obtain ⟨gp, h3, h4⟩ := h.2.2.2.1
  rw [k_ald h3 (by omega) (by omega), h4 i hi]
theorem k_boundOn (h : k_tree f b T) {l : Nat} (hl : l < 2 ^ 31) : F_X4_boundOn N f b (nI l) = some (k_bd T l) := by
  have h5 := h.2.2.2.2
  unfold k_bd
  simp only [F_X4_boundOn, h.l, h.bo, h.bl, Option.bind_some]
  rw [if_neg (nI_pos hl)]
  by_cases g : l < T.2.2.1
  · rw [if_neg (nI_ge g (by omega)), if_neg (nI_ge (by omega) (by omega)), if_pos g, h.ba g, Option.bind_some]
  · rw [if_pos (nI_le (by omega) hl), if_neg g]
theorem k_leaf_loop (h : k_tree f b T) (hw : k_wt T) (k : Int32) : ∀ (d s fuel lo hi : Nat), s + d = 32 → d < fuel → lo ≤ k_lf T k → k_lf T k ≤ hi → hi ≤ T.2.2.1 → hi - lo < 2 ^ d →
    F_X4_leafOfKey_L10 N f b k (fun y2 _ _ => some (y2 - 1)) fuel (nI lo) (nI hi) (nI s) = some (nI (k_lf T k) - 1) := by
  have hl := h.2.2.2.2
  intro d
  induction d with
  | zero =>
    intro s fuel lo hi h1 h2 h3 h4 h5 h6
    obtain ⟨m, rfl⟩ : ∃ m, fuel = m + 1 := ⟨fuel - 1, by omega⟩
    have e : s = 32 := by omega
    subst e
    rw [F_X4_leafOfKey_L10, if_pos (show (32 : Int32) ≤ nI 32 from nI_le (a := 32) (by omega) (by omega))]
    have : lo = k_lf T k := by omega
    rw [this]
  | succ d ih =>
    intro s fuel lo hi h1 h2 h3 h4 h5 h6
    obtain ⟨m, rfl⟩ : ∃ m, fuel = m + 1 := ⟨fuel - 1, by omega⟩
    rw [F_X4_leafOfKey_L10, if_neg (show ¬ (32 : Int32) ≤ nI s from nI_ge (b := 32) (by omega) (by omega))]
    by_cases g : hi ≤ lo
    · rw [if_pos (nI_le g (by omega))]
      have : lo = k_lf T k := by omega
      rw [this]
    · rw [if_neg (nI_ge (by omega) (by omega))]
      have hm : (lo + hi) / 2 < T.2.2.1 := by omega
      simp only [k_mid lo hi (by omega), h.bo, h.bl, h.ba hm, Option.bind_some, k_add1]
      rw [if_neg (nI_ge (by omega) (by omega))]
      by_cases g2 : k < T.2.2.2.1 ((lo + hi) / 2)
      · rw [if_pos g2]
        refine ih (s + 1) m lo ((lo + hi) / 2) (by omega) (by omega) h3 ?_ (by omega) (by rw [Nat.pow_succ] at h6; omega)
        rcases Nat.lt_or_ge ((lo + hi) / 2) (k_lf T k) with z | z
        · have := of_decide_eq_false (k_fst_no (fun i => decide (k.toInt < (T.2.2.2.1 i).toInt)) T.2.2.1 _ z)
          rw [k_i_lt] at g2
          omega
        · exact z
      · rw [if_neg g2]
        refine ih (s + 1) m ((lo + hi) / 2 + 1) hi (by omega) (by omega) ?_ h4 h5 (by rw [Nat.pow_succ] at h6; omega)
        rcases Nat.lt_or_ge ((lo + hi) / 2) (k_lf T k) with z | z
        · exact z
        · have h8 := of_decide_eq_true (k_fst_yes (fun i => decide (k.toInt < (T.2.2.2.1 i).toInt)) T.2.2.1 (Nat.lt_of_le_of_lt z hm))
          rw [k_i_lt] at g2
          have z' : k_fst (fun i => decide (k.toInt < (T.2.2.2.1 i).toInt)) T.2.2.1 ≤ (lo + hi) / 2 := z
          rcases Nat.eq_or_lt_of_le z' with e | e
          · rw [e] at h8; omega
          · have := hw.2.1.1 _ _ e hm; omega
theorem k_leafOfKey (hN : 1000 ≤ N) (h : k_tree f b T) (hw : k_wt T) (k : Int32) : F_X4_leafOfKey N f b k = some (nI (k_lf T k) - 1) := by
  have hl := h.2.2.2.2
  simp only [F_X4_leafOfKey, h.l, Option.bind_some]
  exact k_leaf_loop h hw k 32 0 N 0 T.2.2.1 (by omega) (by omega) (by omega) (k_lf_le _ _) (Nat.le_refl _) (by omega)
theorem k_firstEntry (hN : 1000 ≤ N) (h : k_tree f b T) (hw : k_wt T) {l : Nat} (hl : l < 2 ^ 31) : F_X4_firstEntry N f b (nI l) = some (nI (k_rk T.1.1 T.1.2.1 (k_bd T l))) := by
  simp only [F_X4_firstEntry, h.r, h.cv, h.row.cv, k_boundOn h hl, k_firstFrom hN h.row hw.1, Option.bind_some]
theorem k_placeOn (h : k_tree f b T) {i : Nat} (hi : i < T.1.1) : F_X4_placeOn N f b (nI i) = some (T.2.1 i) := by
  have hl := h.row.le
  simp only [F_X4_placeOn, h.p, h.pl, h.pa hi, Option.bind_some]
  rw [if_neg (nI_pos (by omega)), if_neg (nI_ge (by omega) (by omega))]
theorem k_own_loop (h : k_tree f b T) (q : Nat → Bool) (hi : Nat) (hh : hi ≤ T.1.1) : ∀ (d fuel i : Nat), i + d = hi → d < fuel → (∀ j, i ≤ j → j < hi → q j = decide (T.2.1 j = 0)) →
    F_X4_ownCount_L31 N f b (nI hi) (fun y _ => some y) fuel (nI (k_cnt q i)) (nI i) = some (nI (k_cnt q hi)) := by
  have hl := h.row.le
  intro d
  induction d with
  | zero =>
    intro fuel i h1 h2 hq
    obtain ⟨u, rfl⟩ : ∃ u, fuel = u + 1 := ⟨fuel - 1, by omega⟩
    have e : i = hi := by omega
    subst e
    rw [F_X4_ownCount_L31, if_pos (nI_le (Nat.le_refl _) (by omega))]
  | succ d ih =>
    intro fuel i h1 h2 hq
    obtain ⟨u, rfl⟩ : ∃ u, fuel = u + 1 := ⟨fuel - 1, by omega⟩
    have i2 := ih u (i + 1) (by omega) (by omega) (fun j a c => hq j (by omega) c)
    rw [F_X4_ownCount_L31, if_neg (nI_ge (by omega) (by omega))]
    simp only [h.cv, k_placeOn h (i := i) (by omega), Option.bind_some, k_add1]
    have hqi := hq i (Nat.le_refl _) (by omega)
    by_cases g : T.2.1 i = 0
    · rw [decide_eq_true g] at hqi
      rw [if_pos g, ← k_cnt_y hqi]
      exact i2
    · rw [decide_eq_false g] at hqi
      rw [if_neg g, ← k_cnt_n hqi]
      exact i2
theorem k_ovf_loop (h : k_tree f b T) (q : Nat → Bool) (hi : Nat) (hh : hi ≤ T.1.1) : ∀ (d fuel i : Nat), i + d = hi → d < fuel → (∀ j, i ≤ j → j < hi → q j = decide (0 < T.2.1 j)) →
    F_X4_overflowCount_L31 N f b (nI hi) (fun y _ => some y) fuel (nI (k_cnt q i)) (nI i) = some (nI (k_cnt q hi)) := by
  have hl := h.row.le
  intro d
  induction d with
  | zero =>
    intro fuel i h1 h2 hq
    obtain ⟨u, rfl⟩ : ∃ u, fuel = u + 1 := ⟨fuel - 1, by omega⟩
    have e : i = hi := by omega
    subst e
    rw [F_X4_overflowCount_L31, if_pos (nI_le (Nat.le_refl _) (by omega))]
  | succ d ih =>
    intro fuel i h1 h2 hq
    obtain ⟨u, rfl⟩ : ∃ u, fuel = u + 1 := ⟨fuel - 1, by omega⟩
    have i2 := ih u (i + 1) (by omega) (by omega) (fun j a c => hq j (by omega) c)
    rw [F_X4_overflowCount_L31, if_neg (nI_ge (by omega) (by omega))]
    simp only [h.cv, k_placeOn h (i := i) (by omega), Option.bind_some, k_add1]
    have hqi := hq i (Nat.le_refl _) (by omega)
    by_cases g : 0 < T.2.1 i
    · rw [decide_eq_true g] at hqi
      rw [if_neg (by rw [k_i_le]; rw [k_i_lt] at g; omega), ← k_cnt_y hqi]
      exact i2
    · rw [decide_eq_false g] at hqi
      rw [if_pos (by rw [k_i_le]; rw [k_i_lt] at g; omega), ← k_cnt_n hqi]
      exact i2
/-- a count over a leaf's range, and over all -/
theorem k_leaf_cnt (hw : k_wt T) (q : Nat → Bool) (l : Nat) : k_cnt (fun i => k_inl T l (T.1.2.1 i) && q i) (k_rk T.1.1 T.1.2.1 (k_bd T l)) = 0 ∧ k_cnt (fun i => k_inl T l (T.1.2.1 i) && q i) (k_rk T.1.1 T.1.2.1 (k_bd T (l + 1))) = k_cnt (fun i => k_inl T l (T.1.2.1 i) && q i) T.1.1 ∧
    ∀ j, k_rk T.1.1 T.1.2.1 (k_bd T l) ≤ j → j < k_rk T.1.1 T.1.2.1 (k_bd T (l + 1)) → (k_inl T l (T.1.2.1 j) && q j) = q j := by
  refine ⟨k_cnt_0 (fun j hj => ?_), (k_cnt_tail (k_rk_le _ _ _) (fun j h1 h2 => ?_)).symm, fun j h1 h2 => ?_⟩
  · have := k_rk_lo hj
    unfold k_inl
    rw [decide_eq_false (by omega)]
    rfl
  · have := k_rk_hi hw.1 h1 h2
    unfold k_inl
    rw [decide_eq_false (by omega)]
    rfl
  · have g1 := k_rk_hi hw.1 h1 (Nat.lt_of_lt_of_le h2 (k_rk_le _ _ _))
    have g2 := k_rk_lo h2
    unfold k_inl
    rw [decide_eq_true ⟨g1, g2⟩]
    rfl
theorem k_ownCount (hN : 1000 ≤ N) (h : k_tree f b T) (hw : k_wt T) {l : Nat} (hl : l < T.2.2.1) : F_X4_ownCount N f b (nI l) = some (nI (k_own T l)) := by
  have h5 := h.2.2.2.2
  have hr := h.row.le
  have hr2 := k_rk_le T.1.1 T.1.2.1 (k_bd T (l + 1))
  have hm := k_rk_mono hw.1 (k_bd_mono hw (show l ≤ l + 1 by omega))
  obtain ⟨c1, c2, c3⟩ := k_leaf_cnt hw (fun i => decide (T.2.1 i = 0)) l
  simp only [F_X4_ownCount, h.r, h.cv, h.row.cv, k_add1, k_boundOn h (l := l) (by omega), k_boundOn h (l := l + 1) (by omega), k_firstFrom hN h.row hw.1, Option.bind_some]
  have := k_own_loop (N := N) h _ _ hr2 (k_rk T.1.1 T.1.2.1 (k_bd T (l + 1)) - k_rk T.1.1 T.1.2.1 (k_bd T l)) N _ (by omega) (by omega) c3
  rw [c1, c2] at this
  exact this
theorem k_overflowCount (hN : 1000 ≤ N) (h : k_tree f b T) (hw : k_wt T) {l : Nat} (hl : l < T.2.2.1) : F_X4_overflowCount N f b (nI l) = some (nI (k_ovf T l)) := by
  have h5 := h.2.2.2.2
  have hr := h.row.le
  have hr2 := k_rk_le T.1.1 T.1.2.1 (k_bd T (l + 1))
  have hm := k_rk_mono hw.1 (k_bd_mono hw (show l ≤ l + 1 by omega))
  obtain ⟨c1, c2, c3⟩ := k_leaf_cnt hw (fun i => decide (0 < T.2.1 i)) l
  simp only [F_X4_overflowCount, h.r, h.cv, h.row.cv, k_add1, k_boundOn h (l := l) (by omega), k_boundOn h (l := l + 1) (by omega), k_firstFrom hN h.row hw.1, Option.bind_some]
  have := k_ovf_loop (N := N) h _ _ hr2 (k_rk T.1.1 T.1.2.1 (k_bd T (l + 1)) - k_rk T.1.1 T.1.2.1 (k_bd T l)) N _ (by omega) (by omega) c3
  rw [c1, c2] at this
  exact this
end KTR

