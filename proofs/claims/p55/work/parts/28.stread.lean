/-! States: what is read by loops over runs and leaves. -/
def k_sum (p : Nat → Nat) : Nat → Nat
  | 0 => 0
  | n + 1 => k_sum p n + p n
theorem k_sum_le {p : Nat → Nat} {m : Nat} : ∀ {n : Nat}, (∀ i, i < n → p i ≤ m) → k_sum p n ≤ m * n
  | 0, _ => Nat.zero_le _
  | n + 1, h => by
    have := k_sum_le (p := p) (m := m) (n := n) (fun i hi => h i (by omega))
    have := h n (by omega)
    rw [k_sum, Nat.mul_add]
    omega
theorem k_sum_cong {p q : Nat → Nat} : ∀ {n : Nat}, (∀ i, i < n → p i = q i) → k_sum p n = k_sum q n
  | 0, _ => rfl
  | n + 1, h => by rw [k_sum, k_sum, k_sum_cong (fun i hi => h i (by omega)), h n (by omega)]
theorem k_m1 (x : Int32) : x + (-1) = x - 1 := (Int32.sub_eq_add_neg x 1).symm
theorem k_xlt0 (i : Nat) (h : i < 2 ^ 30) : (nI i - 1 < (0 : Int32)) ↔ i = 0 := by
  have e0 : (0 : Int32).toInt = 0 := rfl
  rw [k_i_lt, e0, show (nI i - 1).toInt = (i : Int) - 1 from pk_sub_toInt (a := i) (b := 1) h (by omega)]
  omega
/-- the value that counts, by the runs from r on, and the tree -/
def k_vfr (S : KS) (k : Int32) (r : Nat) : Int32 :=
  let q := k_fst (fun j => decide (r ≤ j) && k_tl (S.2.1 j) k) (S.1 + 1)
  if q ≤ S.1 then (S.2.1 q).2.2 (k_pl (S.2.1 q).1 (S.2.1 q).2.1 k)
  else if k_pl S.2.2.1.1.1 S.2.2.1.1.2.1 k < S.2.2.1.1.1 then S.2.2.1.1.2.2 (k_pl S.2.2.1.1.1 S.2.2.1.1.2.1 k) else -1
theorem k_vfr_0 (S : KS) (k : Int32) : k_vfr S k 0 = k_val S k := by
  have : k_fst (fun j => decide (0 ≤ j) && k_tl (S.2.1 j) k) (S.1 + 1) = k_run S k := k_fst_cong (fun i hi => by simp)
  unfold k_vfr k_val
  simp only [this]
theorem k_vfr_top (S : KS) (k : Int32) : k_vfr S k (S.1 + 1) = if k_pl S.2.2.1.1.1 S.2.2.1.1.2.1 k < S.2.2.1.1.1 then S.2.2.1.1.2.2 (k_pl S.2.2.1.1.1 S.2.2.1.1.2.1 k) else -1 := by
  have : k_fst (fun j => decide (S.1 + 1 ≤ j) && k_tl (S.2.1 j) k) (S.1 + 1) = S.1 + 1 := k_fst_eq (Nat.le_refl _) (fun j hj => by rw [decide_eq_false (by omega)]; rfl) (fun h => absurd h (by omega))
  unfold k_vfr
  simp only [this]
  rw [if_neg (by omega)]
theorem k_vfr_y {S : KS} {k : Int32} {r : Nat} (hr : r ≤ S.1) (h : k_tl (S.2.1 r) k = true) : k_vfr S k r = (S.2.1 r).2.2 (k_pl (S.2.1 r).1 (S.2.1 r).2.1 k) := by
  have : k_fst (fun j => decide (r ≤ j) && k_tl (S.2.1 j) k) (S.1 + 1) = r := k_fst_eq (by omega) (fun j hj => by rw [decide_eq_false (by omega)]; rfl) (fun _ => by rw [h, decide_eq_true (Nat.le_refl r)]; rfl)
  unfold k_vfr
  simp only [this]
  rw [if_pos hr]
theorem k_vfr_n {S : KS} {k : Int32} {r : Nat} (h : k_tl (S.2.1 r) k = false) : k_vfr S k r = k_vfr S k (r + 1) := by
  have : k_fst (fun j => decide (r ≤ j) && k_tl (S.2.1 j) k) (S.1 + 1) = k_fst (fun j => decide (r + 1 ≤ j) && k_tl (S.2.1 j) k) (S.1 + 1) := k_fst_cong (fun j hj => by
    by_cases z : j = r
    · subst z; simp [h]
    · congr 1
      rw [decide_eq_decide]
      omega)
  unfold k_vfr
  simp only [this]
/-- keys of a run that count -/
def k_cown (S : KS) (r : Nat) (lo hi : Int32) : Nat := k_cnt (fun i => decide (lo.toInt ≤ ((S.2.1 r).2.1 i).toInt ∧ ((S.2.1 r).2.1 i).toInt ≤ hi.toInt) && (decide ((S.2.1 r).2.2 i ≠ -1) && decide (k_run S ((S.2.1 r).2.1 i) = r))) (S.2.1 r).1
def k_ctree (S : KS) (lo hi : Int32) : Nat → Nat := k_cnt (fun i => decide (lo.toInt ≤ (S.2.2.1.1.2.1 i).toInt ∧ (S.2.2.1.1.2.1 i).toInt ≤ hi.toInt) && decide (k_run S (S.2.2.1.1.2.1 i) = S.1 + 1))
def k_cst (S : KS) (lo hi : Int32) : Nat := k_sum (fun r => k_cown S r lo hi) (S.1 + 1) + k_ctree S lo hi S.2.2.1.1.1
def k_told (S : KS) : Nat := k_sum (fun r => (S.2.1 r).1) (S.1 + 1)
section KSQ
variable {wz : Nat}
variable {N : Nat} {f : XM} {b : Nat} {S : KS}
theorem k_going_loop (hN : 5000 ≤ N) (h : k_st f b S) (hw : k_ws S) (k : Int32) : ∀ (i fuel : Nat), i ≤ S.1 + 1 → i < fuel →
    F_X3_standsByGoing_L18 N f b k (fun y _ => some y) fuel (decide (k_vfr S k i ≠ -1)) (nI i - 1) = some (decide (k_val S k ≠ -1)) := by
  have h6 := h.2.1
  intro i
  induction i with
  | zero =>
    intro fuel h1 h2
    obtain ⟨u, rfl⟩ : ∃ u, fuel = u + 1 := ⟨fuel - 1, by omega⟩
    rw [F_X3_standsByGoing_L18, if_pos ((k_xlt0 0 (by omega)).mpr rfl), k_vfr_0]
  | succ i ih =>
    intro fuel h1 h2
    obtain ⟨u, rfl⟩ : ∃ u, fuel = u + 1 := ⟨fuel - 1, by omega⟩
    obtain ⟨p, c, r1, r2, -, -, r5⟩ := k_runOn (N := N) h (r := i) (by omega)
    have hi := ih u (by omega) (by omega)
    rw [F_X3_standsByGoing_L18, if_neg (fun z => by have := (k_xlt0 (i + 1) (by omega)).mp z; omega)]
    simp only [nI_pred, h.cv, r1, r2.cv, Option.elim_some, k_standsAfter hN r2 (hw.2.1 i (by omega)), Option.bind_some, k_m1]
    by_cases g : k_pl (S.2.1 i).1 (S.2.1 i).2.1 k < (S.2.1 i).1
    · rw [k_vfr_y (by omega) (decide_eq_true g)] at hi
      rw [if_pos g]
      exact hi
    · rw [k_vfr_n (decide_eq_false g)] at hi
      rw [if_neg g]
      exact hi
theorem k_standsByGoing (hN : 5000 ≤ N) (h : k_st f b S) (hw : k_ws S) (k : Int32) : F_X3_standsByGoing N f b k = some (decide (k_val S k ≠ -1)) := by
  have h6 := h.2.1
  have := k_going_loop (N := N) hN h hw k (S.1 + 1) N (by omega) (by omega)
  rw [k_vfr_top, nI_pred] at this
  simp only [F_X3_standsByGoing, h.tr, h.cc, h.tree.r, h.tree.row.cv, k_standsAfter hN h.tree.row hw.2.2.2.2.1.1, Option.bind_some]
  by_cases g : k_pl S.2.2.1.1.1 S.2.2.1.1.2.1 k < S.2.2.1.1.1
  · rw [if_pos g] at this ⊢
    exact this
  · rw [if_neg g] at this ⊢
    exact this
theorem k_pages_loop (hN : 1000 ≤ N) (h : k_st f b S) (hw : k_ws S) {k : Int32} (hk : 0 ≤ k.toInt) : ∀ (d fuel i : Nat), i + d = S.1 + 1 → d < fuel → i ≤ k_run S k →
    F_X3_pagesRead_L4 N f b k (fun y2_7 y3_7 => (x_getr f 3 b 3).bind fun v8 => Option.bind v8 fun a9 => (x_cv f 4 a9 (F_X4_pagesRead N f a9 k)).bind fun z10 => some (y2_7 + z10)) fuel (nI (k_cnt (fun r => decide (0 < (S.2.1 r).1)) i)) (nI i) = some (nI (k_pg S k)) := by
  have h6 := h.2.1
  have hrl := k_run_le S k
  intro d
  induction d with
  | zero =>
    intro fuel i h1 h2 h3
    obtain ⟨u, rfl⟩ : ∃ u, fuel = u + 1 := ⟨fuel - 1, by omega⟩
    have e : i = S.1 + 1 := by omega
    subst e
    simp only [F_X3_pagesRead_L4, h.cc, Option.bind_some]
    rw [if_pos (nI_lt (by omega) (by omega))]
    simp only [h.tr, h.tree.cv, k_tpagesRead hN h.tree hw.2.2.2.2.1 hk, Option.bind_some, nI_add]
    unfold k_pg
    rw [if_neg (by omega)]
  | succ d ih =>
    intro fuel i h1 h2 h3
    obtain ⟨u, rfl⟩ : ∃ u, fuel = u + 1 := ⟨fuel - 1, by omega⟩
    obtain ⟨p, c, r1, r2, -, -, r5⟩ := k_runOn (N := N) h (r := i) (by omega)
    have hr4 := r2.c4
    have hrle := r2.le
    simp only [F_X3_pagesRead_L4, h.cc, h.cv, r1, r2.n, Option.elim_some, Option.bind_some, k_add1]
    rw [if_neg (nI_nlt (by omega) (by omega))]
    by_cases g : k_pl (S.2.1 i).1 (S.2.1 i).2.1 k < (S.2.1 i).1
    · have e : k_run S k = i := k_fst_eq (by omega) (fun j hj => k_run_no (Nat.lt_of_lt_of_le hj h3)) (fun _ => decide_eq_true g)
      rw [if_neg (nI_ne0 (by omega) (by omega))]
      simp only [r2.cv, k_placeOf hN r2 (hw.2.1 i (by omega)), Option.bind_some]
      rw [if_pos g, if_neg (k_nim1 _ (by omega))]
      unfold k_pg
      rw [e, if_pos (by omega), k_cnt_y (p := fun r => decide (0 < (S.2.1 r).1)) (n := i) (decide_eq_true (by omega))]
    · have hne : i + 1 ≤ k_run S k := by
        rcases Nat.eq_or_lt_of_le h3 with e | e
        · have := k_run_yes (S := S) (k := k) (by omega)
          rw [← e] at this
          exact absurd (of_decide_eq_true this) g
        · exact e
      have hi := ih u (i + 1) (by omega) (by omega) hne
      by_cases z : (S.2.1 i).1 = 0
      · rw [k_cnt_n (p := fun r => decide (0 < (S.2.1 r).1)) (n := i) (decide_eq_false (by omega))] at hi
        rw [z, if_pos (by rfl)]
        exact hi
      · rw [k_cnt_y (p := fun r => decide (0 < (S.2.1 r).1)) (n := i) (decide_eq_true (by omega))] at hi
        rw [if_neg (nI_ne0 (by omega) (by omega))]
        simp only [r2.cv, k_placeOf hN r2 (hw.2.1 i (by omega)), Option.bind_some]
        rw [if_neg g, if_pos rfl]
        exact hi
theorem k_pagesRead (hN : 1000 ≤ N) (h : k_st f b S) (hw : k_ws S) {k : Int32} (hk : 0 ≤ k.toInt) : F_X3_pagesRead N f b k = some (nI (k_pg S k)) :=
  k_pages_loop hN h hw hk (S.1 + 1) N 0 (by omega) (by have := h.2.1; omega) (Nat.zero_le _)
theorem k_told_loop (h : k_st f b S) : ∀ (d fuel i : Nat), i + d = S.1 + 1 → d < fuel →
    F_X3_toldCount_L4 N f b (fun y _ => some y) fuel (nI (k_sum (fun r => (S.2.1 r).1) i)) (nI i) = some (nI (k_told S)) := by
  have h6 := h.2.1
  intro d
  induction d with
  | zero =>
    intro fuel i h1 h2
    obtain ⟨u, rfl⟩ : ∃ u, fuel = u + 1 := ⟨fuel - 1, by omega⟩
    have e : i = S.1 + 1 := by omega
    subst e
    simp only [F_X3_toldCount_L4, h.cc, Option.bind_some]
    rw [if_pos (nI_lt (by omega) (by omega))]
    rfl
  | succ d ih =>
    intro fuel i h1 h2
    obtain ⟨u, rfl⟩ : ∃ u, fuel = u + 1 := ⟨fuel - 1, by omega⟩
    obtain ⟨p, c, r1, r2, -, -, r5⟩ := k_runOn (N := N) h (r := i) (by omega)
    simp only [F_X3_toldCount_L4, h.cc, h.cv, r1, r2.n, Option.elim_some, Option.bind_some, k_add1, nI_add]
    rw [if_neg (nI_nlt (by omega) (by omega))]
    exact ih u (i + 1) (by omega) (by omega)
theorem k_toldCount (hN : 1000 ≤ N) (h : k_st f b S) : F_X3_toldCount N f b = some (nI (k_told S)) :=
  k_told_loop h (S.1 + 1) N 0 (by omega) (by have := h.2.1; omega)
theorem k_run_eq {S : KS} {k : Int32} {r : Nat} (hr : r ≤ S.1) (h6 : S.1 ≤ 6) : ((if k_run S k ≤ S.1 then nI (k_run S k) else -1) = nI r) ↔ k_run S k = r := by
  by_cases g : k_run S k ≤ S.1
  · rw [if_pos g, nI_eq (by omega) (by omega)]
  · rw [if_neg g]
    constructor
    · intro e; exact absurd e.symm (k_nim1 r (by omega))
    · intro e; omega
theorem k_cown_loop {p c r : Nat} (hN : 1000 ≤ N) (h : k_st f b S) (hw : k_ws S) (hr : r ≤ S.1) (hp : k_row f p c (S.2.1 r)) (lo hi : Int32) : ∀ (d fuel i : Nat), i + d = (S.2.1 r).1 → d < fuel →
    F_X3_countOwn_L6 N f b p (nI r) lo hi (fun y _ => some y) fuel (nI (k_cnt (fun i => decide (lo.toInt ≤ ((S.2.1 r).2.1 i).toInt ∧ ((S.2.1 r).2.1 i).toInt ≤ hi.toInt) && (decide ((S.2.1 r).2.2 i ≠ -1) && decide (k_run S ((S.2.1 r).2.1 i) = r))) i)) (nI i) = some (nI (k_cown S r lo hi)) := by
  have h6 := h.2.1
  have hl := hp.le
  have hc := hp.c4
  intro d
  induction d with
  | zero =>
    intro fuel i h1 h2
    obtain ⟨u, rfl⟩ : ∃ u, fuel = u + 1 := ⟨fuel - 1, by omega⟩
    have e : i = (S.2.1 r).1 := by omega
    subst e
    simp only [F_X3_countOwn_L6, hp.n, Option.bind_some]
    rw [if_pos (nI_le (Nat.le_refl _) (by omega))]
    rfl
  | succ d ih =>
    intro fuel i h1 h2
    obtain ⟨u, rfl⟩ : ∃ u, fuel = u + 1 := ⟨fuel - 1, by omega⟩
    have i2 := ih u (i + 1) (by omega) (by omega)
    simp only [F_X3_countOwn_L6, hp.n, hp.cv, h.cv, k_keyOn hp (i := i) (by omega), k_valueOn hp (i := i) (by omega), k_runTelling hN h hw, Option.bind_some, k_add1]
    rw [if_neg (nI_ge (by omega) (by omega))]
    by_cases g1 : (S.2.1 r).2.1 i < lo
    · rw [k_cnt_n (by rw [k_i_lt] at g1; rw [decide_eq_false (by omega)]; rfl)] at i2
      rw [if_pos g1]
      exact i2
    · rw [if_neg g1]
      by_cases g2 : hi < (S.2.1 r).2.1 i
      · rw [k_cnt_n (by rw [k_i_lt] at g2; rw [decide_eq_false (by omega)]; rfl)] at i2
        rw [if_pos g2]
        exact i2
      · rw [if_neg g2]
        rw [k_i_lt] at g1 g2
        by_cases g3 : (S.2.1 r).2.2 i = -1
        · rw [k_cnt_n (by rw [decide_eq_false (p := (S.2.1 r).2.2 i ≠ -1) (fun z => z g3)]; simp)] at i2
          rw [if_pos g3]
          exact i2
        · rw [if_neg g3]
          by_cases g4 : k_run S ((S.2.1 r).2.1 i) = r
          · rw [k_cnt_y (by rw [decide_eq_true (show _ ≤ _ ∧ _ ≤ _ from ⟨by omega, by omega⟩), decide_eq_true g3, decide_eq_true g4]; rfl)] at i2
            rw [if_pos ((k_run_eq hr h6).mpr g4)]
            exact i2
          · rw [k_cnt_n (by rw [decide_eq_false g4]; simp)] at i2
            rw [if_neg (fun z => g4 ((k_run_eq hr h6).mp z))]
            exact i2
theorem k_cst_runs {lo hi : Int32} {K : Int32 → Int32 → Option Int32} (hN : 5000 ≤ N) (h : k_st f b S) (hw : k_ws S) : ∀ (d fuel i : Nat), i + d = S.1 + 1 → d < fuel →
    F_X3_countStanding_L5 N f b lo hi K fuel (nI (k_sum (fun r => k_cown S r lo hi) i)) (nI i) = K (nI (k_sum (fun r => k_cown S r lo hi) (S.1 + 1))) (nI (S.1 + 1)) := by
  have h6 := h.2.1
  intro d
  induction d with
  | zero =>
    intro fuel i h1 h2
    obtain ⟨u, rfl⟩ : ∃ u, fuel = u + 1 := ⟨fuel - 1, by omega⟩
    have e : i = S.1 + 1 := by omega
    subst e
    simp only [F_X3_countStanding_L5, h.cc, Option.bind_some]
    rw [if_pos (nI_lt (by omega) (by omega))]
  | succ d ih =>
    intro fuel i h1 h2
    obtain ⟨u, rfl⟩ : ∃ u, fuel = u + 1 := ⟨fuel - 1, by omega⟩
    obtain ⟨p, c, r1, r2, -, -, r5⟩ := k_runOn (N := N) h (r := i) (by omega)
    have hle := r2.le
    have e : F_X3_countOwn N f b p (nI i) lo hi = some (nI (k_cown S i lo hi)) := k_cown_loop (by omega) h hw (by omega) r2 lo hi (S.2.1 i).1 N 0 (by omega) (by omega)
    simp only [F_X3_countStanding_L5, h.cc, h.cv, r1, Option.elim_some, e, Option.bind_some, k_add1, nI_add]
    rw [if_neg (nI_nlt (by omega) (by omega))]
    exact ih u (i + 1) (by omega) (by omega)
theorem k_cst_in {lo hi a4 : Int32} {K : Int32 → Int32 → Option Int32} {base e : Nat} (hN : 5000 ≤ N) (h : k_st f b S) (hw : k_ws S) (he : e ≤ S.2.2.1.1.1) : ∀ (d fuel i : Nat), i + d = e → d < fuel →
    F_X3_countStanding_L85 N f b lo hi a4 (nI e) K fuel (nI (base + k_ctree S lo hi i)) (nI i) = K (nI (base + k_ctree S lo hi e)) (nI e) := by
  have h6 := h.2.1
  have hl := h.tree.row.le
  intro d
  induction d with
  | zero =>
    intro fuel i h1 h2
    obtain ⟨u, rfl⟩ : ∃ u, fuel = u + 1 := ⟨fuel - 1, by omega⟩
    have e : i = e := by omega
    subst e
    rw [F_X3_countStanding_L85, if_pos (nI_le (Nat.le_refl _) (by omega))]
  | succ d ih =>
    intro fuel i h1 h2
    obtain ⟨u, rfl⟩ : ∃ u, fuel = u + 1 := ⟨fuel - 1, by omega⟩
    have i2 := ih u (i + 1) (by omega) (by omega)
    rw [F_X3_countStanding_L85, if_neg (nI_ge (by omega) (by omega))]
    simp only [h.tr, h.tree.r, h.tree.row.cv, h.cv, k_keyOn h.tree.row (i := i) (by omega), k_runTelling (show 1000 ≤ N by omega) h hw, Option.bind_some, k_add1]
    have hnone : ((if k_run S (S.2.2.1.1.2.1 i) ≤ S.1 then nI (k_run S (S.2.2.1.1.2.1 i)) else -1) = (-1 : Int32)) ↔ k_run S (S.2.2.1.1.2.1 i) = S.1 + 1 := by
      have := k_run_le S (S.2.2.1.1.2.1 i)
      by_cases g : k_run S (S.2.2.1.1.2.1 i) ≤ S.1
      · rw [if_pos g]
        constructor
        · intro e; exact absurd e (k_nim1 _ (by omega))
        · intro e; omega
      · rw [if_neg g]
        constructor
        · intro _; omega
        · intro _; rfl
    have es : k_ctree S lo hi (i + 1) = k_ctree S lo hi i + if (decide (lo.toInt ≤ (S.2.2.1.1.2.1 i).toInt ∧ (S.2.2.1.1.2.1 i).toInt ≤ hi.toInt) && decide (k_run S (S.2.2.1.1.2.1 i) = S.1 + 1)) = true then 1 else 0 := rfl
    by_cases g1 : S.2.2.1.1.2.1 i < lo
    · rw [es, if_neg (by rw [k_i_lt] at g1; rw [decide_eq_false (by omega)]; simp), Nat.add_zero] at i2
      rw [if_pos g1]
      exact i2
    · rw [if_neg g1]
      by_cases g2 : hi < S.2.2.1.1.2.1 i
      · rw [es, if_neg (by rw [k_i_lt] at g2; rw [decide_eq_false (by omega)]; simp), Nat.add_zero] at i2
        rw [if_pos g2]
        exact i2
      · rw [if_neg g2]
        rw [k_i_lt] at g1 g2
        by_cases g4 : k_run S (S.2.2.1.1.2.1 i) = S.1 + 1
        · rw [es, if_pos (by rw [decide_eq_true (show _ ≤ _ ∧ _ ≤ _ from ⟨by omega, by omega⟩), decide_eq_true g4]; rfl)] at i2
          rw [if_pos (hnone.mpr g4)]
          exact i2
        · rw [es, if_neg (by rw [decide_eq_false g4]; simp), Nat.add_zero] at i2
          rw [if_neg (fun z => g4 (hnone.mp z))]
          exact i2
theorem k_cst_leaves {lo hi : Int32} {base : Nat} (hN : 5000 ≤ N) (h : k_st f b S) (hw : k_ws S) : ∀ (d fuel l : Nat), l + d = S.2.2.1.2.2.1 → d < fuel →
    F_X3_countStanding_L49 N f b lo hi (fun y _ => some y) fuel (nI (base + k_ctree S lo hi (k_rk S.2.2.1.1.1 S.2.2.1.1.2.1 (k_bd S.2.2.1 l)))) (nI l) = some (nI (base + k_ctree S lo hi S.2.2.1.1.1)) := by
  have h6 := h.2.1
  have hl := h.tree.row.le
  have h5 := h.tree.2.2.2.2
  have hwt := hw.2.2.2.2.1
  intro d
  induction d with
  | zero =>
    intro fuel i h1 h2
    obtain ⟨u, rfl⟩ : ∃ u, fuel = u + 1 := ⟨fuel - 1, by omega⟩
    simp only [F_X3_countStanding_L49, h.tr, h.tree.l, Option.bind_some]
    rw [if_pos (nI_le (by omega) (by omega))]
    have : k_rk S.2.2.1.1.1 S.2.2.1.1.2.1 (k_bd S.2.2.1 i) = S.2.2.1.1.1 := by
      refine k_rk_eq (Nat.le_refl _) (fun j hj => ?_) (fun z => absurd z (by omega))
      unfold k_bd
      rw [if_neg (by omega)]
      exact (hwt.1.2 j hj).2
    rw [this]
  | succ d ih =>
    intro fuel i h1 h2
    obtain ⟨u, rfl⟩ : ∃ u, fuel = u + 1 := ⟨fuel - 1, by omega⟩
    have hm := k_rk_mono hwt.1 (k_bd_mono hwt (show i ≤ i + 1 by omega))
    have hr2 := k_rk_le S.2.2.1.1.1 S.2.2.1.1.2.1 (k_bd S.2.2.1 (i + 1))
    simp only [F_X3_countStanding_L49, h.tr, h.tree.l, h.tree.cv, k_add1, k_firstEntry (show 1000 ≤ N by omega) h.tree hwt (l := i) (by omega), k_firstEntry (show 1000 ≤ N by omega) h.tree hwt (l := i + 1) (by omega), Option.bind_some]
    rw [if_neg (nI_ge (by omega) (by omega)), k_cst_in hN h hw hr2 (k_rk S.2.2.1.1.1 S.2.2.1.1.2.1 (k_bd S.2.2.1 (i + 1)) - k_rk S.2.2.1.1.1 S.2.2.1.1.2.1 (k_bd S.2.2.1 i)) N _ (by omega) (by omega)]
    exact ih u (i + 1) (by omega) (by omega)
theorem k_countStanding (hN : 5000 ≤ N) (h : k_st f b S) (hw : k_ws S) (lo hi : Int32) : F_X3_countStanding N f b lo hi = some (nI (k_cst S lo hi)) := by
  have h6 := h.2.1
  have h5 := h.tree.2.2.2.2
  have hwt := hw.2.2.2.2.1
  have e0 : k_ctree S lo hi (k_rk S.2.2.1.1.1 S.2.2.1.1.2.1 (k_bd S.2.2.1 0)) = 0 := by
    have : k_rk S.2.2.1.1.1 S.2.2.1.1.2.1 (k_bd S.2.2.1 0) = 0 := by
      rcases Nat.eq_zero_or_pos S.2.2.1.2.2.1 with z | z
      · have := k_rk_le S.2.2.1.1.1 S.2.2.1.1.2.1 (k_bd S.2.2.1 0)
        have := hwt.2.2.2.2.1 z
        omega
      · refine k_rk_eq (Nat.zero_le _) (fun j hj => absurd hj (Nat.not_lt_zero _)) (fun hp => ?_)
        unfold k_bd
        rw [if_pos z, hwt.2.2.2.2.2.1 z]
        exact (hwt.1.2 0 hp).1
    rw [this]
    rfl
  have := k_cst_leaves (N := N) (lo := lo) (hi := hi) (base := k_sum (fun r => k_cown S r lo hi) (S.1 + 1)) hN h hw S.2.2.1.2.2.1 N 0 (by omega) (by omega)
  rw [e0] at this
  unfold F_X3_countStanding
  exact (k_cst_runs hN h hw (S.1 + 1) N 0 (by omega) (by omega)).trans this
end KSQ

