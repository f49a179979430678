/-! The reference: leaves, entries, levels, pages. -/
/-- a count over the reference's entries is one over the tree's -/
theorem k_me_cnt {G : Nat → Int32} {T : KT} {c : Nat} (hs : k_srt T.1.1 T.1.2.1) (h : k_me G T c) {q p : Nat → Bool} (e : ∀ j, j < T.1.1 → q j = p (k_pl T.1.1 T.1.2.1 (k_eK G j))) : k_cnt q T.1.1 = k_cnt p T.1.1 := by
  refine k_cnt_eqv (a := k_eK G) (b := T.1.2.1) (fun i j a b => h.1 i j a b) (k_srt_dn hs) (fun j hj hq => ?_) (fun i hi hp => ?_)
  · have h1 := (h.2.1 j hj).1
    exact ⟨_, h1, by rw [← e j hj]; exact hq, k_pl_at h1⟩
  · obtain ⟨j, hj, ej⟩ := h.2.2.1 i hi
    exact ⟨j, hj, by rw [e j hj, ej, k_pl_eq hs hi]; exact hp, ej⟩
section KMS
variable {N : Nat} {f : XM} {m c : Nat} {V : KM} {S : KS}
theorem k_ms.me {G : Nat → Int32} (h : k_ms G S c) : k_me G S.2.2.1 c := h.2.2.2.2.2.2.2.1
theorem k_ms.lf {G : Nat → Int32} (h : k_ms G S c) {j l : Nat} (hj : j < S.2.2.1.1.1) (hl : l < S.2.2.1.2.2.1) : k_eL G j = nI l ↔ k_inl S.2.2.1 l (S.2.2.1.1.2.1 (k_pl S.2.2.1.1.1 S.2.2.1.1.2.1 (k_eK G j))) = true := by
  have hp := (h.me.2.1 j hj).1
  have hr := h.wt.1.2 _ hp
  have hle := k_lf_le S.2.2.1 (k_eK G j)
  have h512 := h.wt.2.2.2.1
  rw [k_pl_at hp] at hr ⊢
  rw [k_lf_inl h.wt hr.2 hl, (h.me.2.1 j hj).2.2.1, nI_eq (by omega) (by omega)]
  have := k_lf_pos h.wt hr.1 (by omega)
  omega
theorem k_ms.or0 {G : Nat → Int32} (h : k_ms G S c) {j : Nat} (hj : j < S.2.2.1.1.1) : (k_eO G j = 0 ↔ S.2.2.1.2.1 (k_pl S.2.2.1.1.1 S.2.2.1.1.2.1 (k_eK G j)) = 0) ∧ (0 < k_eO G j ↔ 0 < S.2.2.1.2.1 (k_pl S.2.2.1.1.1 S.2.2.1.1.2.1 (k_eK G j))) := by
  obtain ⟨h1, h2, h3, ⟨o, o1, o2, o3⟩, h5⟩ := h.me.2.1 j hj
  have hc := h.2.1
  have hle := k_cnt_le (fun i => decide (k_eL G i = k_eL G j) && (decide (0 < k_eO G i) && decide (k_eO G i < k_eO G j))) S.2.2.1.1.1
  have hn := h.wt.2.2.1
  rw [h5]
  by_cases z : k_eO G j = 0
  · rw [if_pos z, z]
    exact ⟨Iff.rfl, Iff.rfl⟩
  · rw [if_neg z]
    have ho : o ≠ 0 := fun e => z (by rw [o1, e]; rfl)
    refine ⟨⟨fun e => absurd e z, fun e => absurd e (nI_ne0 (by omega) (by unfold k_ahd; omega))⟩, ⟨fun _ => ?_, fun _ => ?_⟩⟩
    · exact nI_lt (a := 0) (by omega) (by unfold k_ahd; omega)
    · rw [o1]; exact nI_lt (a := 0) (by omega) (by omega)
theorem k_own_m {G : Nat → Int32} (h : k_ms G S c) {l : Nat} (hl : l < S.2.2.1.2.2.1) : k_cnt (fun j => decide (k_eL G j = nI l) && decide (k_eO G j = 0)) S.2.2.1.1.1 = k_own S.2.2.1 l := by
  refine k_me_cnt h.wt.1 h.me (p := fun i => k_inl S.2.2.1 l (S.2.2.1.1.2.1 i) && decide (S.2.2.1.2.1 i = 0)) (fun j hj => ?_)
  show (decide (k_eL G j = nI l) && decide (k_eO G j = 0)) = (k_inl S.2.2.1 l _ && decide _)
  congr 1
  · rw [Bool.eq_iff_iff, decide_eq_true_eq]; exact h.lf hj hl
  · rw [decide_eq_decide]; exact (h.or0 hj).1
theorem k_ovf_m {G : Nat → Int32} (h : k_ms G S c) {l : Nat} (hl : l < S.2.2.1.2.2.1) : k_cnt (fun j => decide (k_eL G j = nI l) && decide (0 < k_eO G j)) S.2.2.1.1.1 = k_ovf S.2.2.1 l := by
  refine k_me_cnt h.wt.1 h.me (p := fun i => k_inl S.2.2.1 l (S.2.2.1.1.2.1 i) && decide (0 < S.2.2.1.2.1 i)) (fun j hj => ?_)
  show (decide (k_eL G j = nI l) && decide (0 < k_eO G j)) = (k_inl S.2.2.1 l _ && decide _)
  congr 1
  · rw [Bool.eq_iff_iff, decide_eq_true_eq]; exact h.lf hj hl
  · rw [decide_eq_decide]; exact (h.or0 hj).2
theorem k_add0 (x : Int32) : x + 0 = x := Int32.add_zero x
theorem k_mown_loop (h : k_mo f m V) (hs : k_ms (V.1 1) S c) (l : Int32) : ∀ (d fuel i : Nat), i + d = S.2.2.1.1.1 → d < fuel →
    F_X6_own_L4 N f m l (fun y _ => some y) fuel (nI (k_cnt (fun j => decide (k_eL (V.1 1) j = l) && decide (k_eO (V.1 1) j = 0)) i)) (nI i) = some (nI (k_cnt (fun j => decide (k_eL (V.1 1) j = l) && decide (k_eO (V.1 1) j = 0)) S.2.2.1.1.1)) := by
  have hn := hs.wt.2.2.1
  intro d
  induction d with
  | zero =>
    intro fuel i h1 h2
    obtain ⟨u, rfl⟩ : ∃ u, fuel = u + 1 := ⟨fuel - 1, by omega⟩
    have e : i = S.2.2.1.1.1 := by omega
    subst e
    simp only [F_X6_own_L4, h.r0, k_l7 h hs, Option.bind_some]
    rw [if_pos (nI_le (Nat.le_refl _) (by omega))]
  | succ d ih =>
    intro fuel i h1 h2
    obtain ⟨u, rfl⟩ : ∃ u, fuel = u + 1 := ⟨fuel - 1, by omega⟩
    have i2 := ih u (i + 1) (by omega) (by omega)
    simp only [F_X6_own_L4, h.r0, k_l7 h hs, h.cv, k_ent2 h (j := i) (by omega), k_ent3 h (j := i) (by omega), Option.bind_some, k_add1, k_add0]
    rw [if_neg (nI_ge (by omega) (by omega))]
    by_cases g : k_eL (V.1 1) i = l
    · rw [if_pos g]
      by_cases g2 : k_eO (V.1 1) i = 0
      · rw [if_pos g2]
        rw [k_cnt_y (by rw [decide_eq_true g, decide_eq_true g2]; rfl)] at i2
        exact i2
      · rw [if_neg g2]
        rw [k_cnt_n (by rw [decide_eq_false g2]; simp)] at i2
        exact i2
    · rw [if_neg g]
      rw [k_cnt_n (by rw [decide_eq_false g]; rfl)] at i2
      exact i2
theorem k_mown (hN : 1000 ≤ N) (h : k_mo f m V) (hs : k_ms (V.1 1) S c) {l : Nat} (hl : l < S.2.2.1.2.2.1) : F_X6_own N f m (nI l) = some (nI (k_own S.2.2.1 l)) := by
  have := k_mown_loop (N := N) h hs (nI l) S.2.2.1.1.1 N 0 (by omega) (by have := hs.wt.2.2.1; omega)
  rw [k_own_m hs hl] at this
  exact this
theorem k_mover_loop (h : k_mo f m V) (hs : k_ms (V.1 1) S c) (l : Int32) : ∀ (d fuel i : Nat), i + d = S.2.2.1.1.1 → d < fuel →
    F_X6_over_L4 N f m l (fun y _ => some y) fuel (nI (k_cnt (fun j => decide (k_eL (V.1 1) j = l) && decide (0 < k_eO (V.1 1) j)) i)) (nI i) = some (nI (k_cnt (fun j => decide (k_eL (V.1 1) j = l) && decide (0 < k_eO (V.1 1) j)) S.2.2.1.1.1)) := by
  have hn := hs.wt.2.2.1
  intro d
  induction d with
  | zero =>
    intro fuel i h1 h2
    obtain ⟨u, rfl⟩ : ∃ u, fuel = u + 1 := ⟨fuel - 1, by omega⟩
    have e : i = S.2.2.1.1.1 := by omega
    subst e
    simp only [F_X6_over_L4, h.r0, k_l7 h hs, Option.bind_some]
    rw [if_pos (nI_le (Nat.le_refl _) (by omega))]
  | succ d ih =>
    intro fuel i h1 h2
    obtain ⟨u, rfl⟩ : ∃ u, fuel = u + 1 := ⟨fuel - 1, by omega⟩
    have i2 := ih u (i + 1) (by omega) (by omega)
    simp only [F_X6_over_L4, h.r0, k_l7 h hs, h.cv, k_ent2 h (j := i) (by omega), k_ent3 h (j := i) (by omega), Option.bind_some, k_add1, k_add0]
    rw [if_neg (nI_ge (by omega) (by omega))]
    by_cases g : k_eL (V.1 1) i = l
    · rw [if_pos g]
      by_cases g2 : 0 < k_eO (V.1 1) i
      · rw [if_neg (by rw [k_i_le]; rw [k_i_lt] at g2; omega)]
        rw [k_cnt_y (by rw [decide_eq_true g, decide_eq_true g2]; rfl)] at i2
        exact i2
      · rw [if_pos (by rw [k_i_le]; rw [k_i_lt] at g2; omega)]
        rw [k_cnt_n (by rw [decide_eq_false g2]; simp)] at i2
        exact i2
    · rw [if_neg g]
      rw [k_cnt_n (by rw [decide_eq_false g]; rfl)] at i2
      exact i2
theorem k_mover (hN : 1000 ≤ N) (h : k_mo f m V) (hs : k_ms (V.1 1) S c) {l : Nat} (hl : l < S.2.2.1.2.2.1) : F_X6_over N f m (nI l) = some (nI (k_ovf S.2.2.1 l)) := by
  have := k_mover_loop (N := N) h hs (nI l) S.2.2.1.1.1 N 0 (by omega) (by have := hs.wt.2.2.1; omega)
  rw [k_ovf_m hs hl] at this
  exact this
/-- a tree with leaves has its numbers -/
theorem k_ms.il {G : Nat → Int32} (h : k_ms G S c) (hl : 0 < S.2.2.1.2.2.1) : G 2 = S.2.2.1.2.2.2.2.1 ∧ G 3 = S.2.2.1.2.2.2.2.2 ∧ k_sm S.2.2.1.2.2.2.2.1 2 8 ∧ k_sm S.2.2.1.2.2.2.2.2 2 6 := by
  rcases h.wt.2.2.2.2.2.2.2.2 with ⟨z1, z2, z3⟩ | ⟨z2, z3⟩
  · omega
  · have hne : S.2.2.1.2.2.2.2.1 ≠ 0 := fun e => by
      have := (h.2.2.2.2.2.1.mp e).1
      omega
    exact ⟨(h.2.2.2.2.2.2.1 hne).1, (h.2.2.2.2.2.2.1 hne).2, z2, z3⟩
theorem k_l2 (h : k_mo f m V) (hs : k_ms (V.1 1) S c) (hl : 0 < S.2.2.1.2.2.1) : x_ald f (m + 1) 2 = some S.2.2.1.2.2.2.2.1 := by
  rw [← (hs.il hl).1]; exact k_ld1 h (i := 2) (by omega)
theorem k_l3 (h : k_mo f m V) (hs : k_ms (V.1 1) S c) (hl : 0 < S.2.2.1.2.2.1) : x_ald f (m + 1) 3 = some S.2.2.1.2.2.2.2.2 := by
  rw [← (hs.il hl).2.1]; exact k_ld1 h (i := 3) (by omega)
theorem k_ovf_le (T : KT) (l : Nat) : k_ovf T l ≤ T.1.1 := k_cnt_le _ _
theorem k_own_le (T : KT) (l : Nat) : k_own T l ≤ T.1.1 := k_cnt_le _ _
theorem k_movers (hN : 1000 ≤ N) (h : k_mo f m V) (hs : k_ms (V.1 1) S c) {l : Nat} (hl : l < S.2.2.1.2.2.1) : F_X6_overs N f m (nI l) = some (nI (k_ru (k_ovf S.2.2.1 l) (k_u S.2.2.1.2.2.2.2.1))) := by
  have h512 := hs.wt.2.2.2.1
  have hn := hs.wt.2.2.1
  obtain ⟨i1, i2, i3, i4⟩ := hs.il (by omega)
  obtain ⟨e1, e2, e3⟩ := i3.e (by omega)
  have := k_ovf_le S.2.2.1 l
  simp only [F_X6_overs, h.r0, k_l8 h hs, h.cv, k_mover hN h hs hl, k_l2 h hs (by omega), Option.bind_some]
  rw [if_neg (nI_ne0 (by omega) (by omega)), e1, k_ru_n (by omega) (by omega) (by omega), ← e1]
  rfl
theorem k_bound (h : k_mo f m V) (hs : k_ms (V.1 1) S c) {l : Nat} (hl : l < S.2.2.1.2.2.1) : F_X6_bound N f m (nI l) = some (S.2.2.1.2.2.2.1 l) := by
  have h512 := hs.wt.2.2.2.1
  simp only [F_X6_bound, h.r0, k_ixb, k_ld1 h (i := 1496 + l) (by omega), hs.2.2.2.2.1 l hl, Option.bind_some]
theorem k_mleaf_loop (h : k_mo f m V) (hs : k_ms (V.1 1) S c) (k : Int32) : ∀ (d fuel lo hi : Nat), hi - lo ≤ d → d < fuel → lo + 1 ≤ k_lf S.2.2.1 k → k_lf S.2.2.1 k ≤ hi + 1 → hi < S.2.2.1.2.2.1 →
    F_X6_leafOf_L12 N f m k (fun y _ => some y) fuel (nI lo) (nI hi) = some (nI (k_lf S.2.2.1 k - 1)) := by
  have h512 := hs.wt.2.2.2.1
  intro d
  induction d with
  | zero =>
    intro fuel lo hi h1 h2 h3 h4 h5
    obtain ⟨u, rfl⟩ : ∃ u, fuel = u + 1 := ⟨fuel - 1, by omega⟩
    rw [F_X6_leafOf_L12, if_pos (nI_le (by omega) (by omega))]
    congr 2
    omega
  | succ d ih =>
    intro fuel lo hi h1 h2 h3 h4 h5
    obtain ⟨u, rfl⟩ : ∃ u, fuel = u + 1 := ⟨fuel - 1, by omega⟩
    by_cases g : hi ≤ lo
    · rw [F_X6_leafOf_L12, if_pos (nI_le g (by omega))]
      congr 2
      omega
    · have hd : x_div ((nI lo + nI hi) + 1) 2 = some (nI ((lo + hi + 1) / 2)) := by
        unfold x_div
        rw [if_neg (by decide), nI_add, k_add1, k_lit 2, pk_div (by omega) (by omega) (by omega)]
      rw [F_X6_leafOf_L12, if_neg (nI_ge (by omega) (by omega))]
      simp only [hd, Option.bind_some, h.cv, k_bound h hs (l := (lo + hi + 1) / 2) (by omega), k_i10, k_i00, if_true, if_false]
      by_cases g2 : k < S.2.2.1.2.2.2.1 ((lo + hi + 1) / 2)
      · rw [if_pos g2]
        rw [k_i_lt] at g2
        obtain ⟨q, hq⟩ : ∃ q, (lo + hi + 1) / 2 = q + 1 := ⟨(lo + hi + 1) / 2 - 1, by omega⟩
        rw [hq, nI_pred]
        refine ih u lo q (by omega) (by omega) h3 ?_ (by omega)
        rcases Nat.lt_or_ge ((lo + hi + 1) / 2) (k_lf S.2.2.1 k) with z | z
        · have := of_decide_eq_false (k_fst_no (fun i => decide (k.toInt < (S.2.2.1.2.2.2.1 i).toInt)) S.2.2.1.2.2.1 _ z)
          omega
        · omega
      · rw [if_neg g2]
        rw [k_i_lt] at g2
        refine ih u _ hi (by omega) (by omega) ?_ h4 h5
        rcases Nat.lt_or_ge ((lo + hi + 1) / 2) (k_lf S.2.2.1 k) with z | z
        · exact z
        · have z' : k_fst (fun i => decide (k.toInt < (S.2.2.1.2.2.2.1 i).toInt)) S.2.2.1.2.2.1 ≤ (lo + hi + 1) / 2 := z
          have h8 := of_decide_eq_true (k_fst_yes (fun i => decide (k.toInt < (S.2.2.1.2.2.2.1 i).toInt)) S.2.2.1.2.2.1 (by omega))
          rcases Nat.eq_or_lt_of_le z' with e | e
          · rw [e] at h8; omega
          · have := hs.wt.2.1.1 _ _ e (by omega); omega
theorem k_mleafOf (hN : 1000 ≤ N) (h : k_mo f m V) (hs : k_ms (V.1 1) S c) {k : Int32} (hk : 0 ≤ k.toInt) (hl : 0 < S.2.2.1.2.2.1) : F_X6_leafOf N f m k = some (nI (k_lf S.2.2.1 k - 1)) := by
  have h512 := hs.wt.2.2.2.1
  obtain ⟨q, hq⟩ : ∃ q, S.2.2.1.2.2.1 = q + 1 := ⟨S.2.2.1.2.2.1 - 1, by omega⟩
  have hp := k_lf_pos hs.wt hk hl
  have hle := k_lf_le S.2.2.1 k
  have e8 : x_ald f (m + 1) 8 = some (nI (q + 1)) := by rw [← hq]; exact k_l8 h hs
  simp only [F_X6_leafOf, h.r0, e8, Option.bind_some, nI_pred]
  exact k_mleaf_loop h hs k q N 0 q (by omega) (by omega) (by omega) (by omega) (by omega)
theorem k_mlev_loop {a : Nat} (ha : 2 ≤ a) (ha2 : a ≤ 100) : ∀ (d fuel cnt lv : Nat), cnt ≤ 2 ^ d → d < fuel → cnt < 2 ^ 28 →
    F_X6_levelsOf_L5 N f (nI a) (fun y _ => some y) fuel (nI lv) (nI cnt) = some (nI (lv + k_lv a d cnt)) := by
  intro d
  induction d with
  | zero =>
    intro fuel cnt lv h1 h2 h3
    obtain ⟨u, rfl⟩ : ∃ u, fuel = u + 1 := ⟨fuel - 1, by omega⟩
    rw [F_X6_levelsOf_L5, if_pos (show nI cnt ≤ 1 from nI_le (b := 1) (by simpa using h1) (by omega))]
    rfl
  | succ d ih =>
    intro fuel cnt lv h1 h2 h3
    obtain ⟨u, rfl⟩ : ∃ u, fuel = u + 1 := ⟨fuel - 1, by omega⟩
    rw [F_X6_levelsOf_L5]
    unfold k_lv
    by_cases g : cnt ≤ 1
    · rw [if_pos (show nI cnt ≤ 1 from nI_le (b := 1) g (by omega)), if_pos g]
      rfl
    · rw [if_neg (show ¬ nI cnt ≤ 1 from nI_ge (a := 1) (by omega) (by omega)), if_neg g, k_ru_n (by omega) (by omega) (by omega), Option.bind_some, k_add1]
      have hle := k_ru_le (a := a) (c := cnt) (by omega)
      rw [ih u (k_ru cnt a) (lv + 1) (k_ru_half ha h1) (by omega) (by omega)]
      congr 2
      omega
theorem k_mlevelsOf (hN : 1000 ≤ N) {a cnt : Nat} (ha : 2 ≤ a) (ha2 : a ≤ 100) (hc : cnt < 2 ^ 28) : F_X6_levelsOf N f m (nI cnt) (nI a) = some (nI (k_lv a 32 cnt)) := by
  have := k_mlev_loop (N := N) (f := f) ha ha2 32 N cnt 0 (by have : (2 : Nat) ^ 28 ≤ 2 ^ 32 := by decide
                                                              omega) (by omega) hc
  rw [Nat.zero_add] at this
  exact this
theorem k_mallLevels (hN : 1000 ≤ N) (h : k_mo f m V) (hs : k_ms (V.1 1) S c) : F_X6_allLevels N f m = some (nI (k_tlv S.2.2.1)) := by
  have h512 := hs.wt.2.2.2.1
  rcases Nat.eq_zero_or_pos S.2.2.1.2.2.1 with z | z
  · obtain ⟨u, hu⟩ : ∃ u, N = u + 1 := ⟨N - 1, by omega⟩
    have l3 : x_ald f (m + 1) 3 = some (V.1 1 3) := k_ld1 h (i := 3) (by omega)
    have e8 : x_ald f (m + 1) 8 = some (nI 0) := by rw [k_l8 h hs, z]
    have lv0 : F_X6_levelsOf N f m (nI 0) (V.1 1 3) = some (nI 0) := by
      rw [F_X6_levelsOf]
      conv => lhs; arg 5; rw [hu]
      rw [F_X6_levelsOf_L5, if_pos (show nI 0 ≤ 1 from nI_le (b := 1) (by omega) (by omega))]
      rfl
    have e0 : k_tlv S.2.2.1 = 0 := by
      unfold k_tlv
      rw [z]
      rfl
    simp only [F_X6_allLevels, h.r0, e8, l3, h.cv, lv0, Option.bind_some, e0]
  · obtain ⟨i1, i2, i3, i4⟩ := hs.il z
    obtain ⟨e1, e2, e3⟩ := i4.e (by omega)
    simp only [F_X6_allLevels, h.r0, k_l8 h hs, k_l3 h hs z, h.cv, Option.bind_some]
    rw [e1, k_mlevelsOf hN e2 (by omega) (by omega), Option.bind_some]
    rfl
theorem k_mahd_loop (h : k_mo f m V) (hs : k_ms (V.1 1) S c) {e : Nat} (he : e < S.2.2.1.1.1) {K : Int32 → Int32 → Option Int32} : ∀ (d fuel i : Nat), i + d = S.2.2.1.1.1 → d < fuel →
    F_X6_overflowLeafOf_L4 N f m (nI e) K fuel (nI (k_ahd (V.1 1) i e)) (nI i) = K (nI (k_ahd (V.1 1) S.2.2.1.1.1 e)) (nI S.2.2.1.1.1) := by
  have hn := hs.wt.2.2.1
  intro d
  induction d with
  | zero =>
    intro fuel i h1 h2
    obtain ⟨u, rfl⟩ : ∃ u, fuel = u + 1 := ⟨fuel - 1, by omega⟩
    have e : i = S.2.2.1.1.1 := by omega
    subst e
    simp only [F_X6_overflowLeafOf_L4, h.r0, k_l7 h hs, Option.bind_some]
    rw [if_pos (nI_le (Nat.le_refl _) (by omega))]
  | succ d ih =>
    intro fuel i h1 h2
    obtain ⟨u, rfl⟩ : ∃ u, fuel = u + 1 := ⟨fuel - 1, by omega⟩
    have i2 := ih u (i + 1) (by omega) (by omega)
    simp only [F_X6_overflowLeafOf_L4, h.r0, k_l7 h hs, h.cv, k_ent2 h (j := i) (by omega), k_ent3 h (j := i) (by omega), k_ent2 h (j := e) (by omega), k_ent3 h (j := e) (by omega), Option.bind_some, k_add1, k_add0]
    rw [if_neg (nI_ge (by omega) (by omega))]
    have es : k_ahd (V.1 1) (i + 1) e = k_ahd (V.1 1) i e + if (decide (k_eL (V.1 1) i = k_eL (V.1 1) e) && (decide (0 < k_eO (V.1 1) i) && decide (k_eO (V.1 1) i < k_eO (V.1 1) e))) = true then 1 else 0 := rfl
    by_cases g : k_eL (V.1 1) i = k_eL (V.1 1) e
    · rw [if_pos g]
      by_cases g2 : 0 < k_eO (V.1 1) i
      · rw [if_neg (by rw [k_i_le]; rw [k_i_lt] at g2; omega)]
        by_cases g3 : k_eO (V.1 1) i < k_eO (V.1 1) e
        · rw [if_neg (by rw [k_i_le]; rw [k_i_lt] at g3; omega)]
          rw [es, if_pos (by rw [decide_eq_true g, decide_eq_true g2, decide_eq_true g3]; rfl)] at i2
          exact i2
        · rw [if_pos (by rw [k_i_le]; rw [k_i_lt] at g3; omega)]
          rw [es, if_neg (by rw [decide_eq_false g3]; simp), Nat.add_zero] at i2
          exact i2
      · rw [if_pos (by rw [k_i_le]; rw [k_i_lt] at g2; omega)]
        rw [es, if_neg (by rw [decide_eq_false g2]; simp), Nat.add_zero] at i2
        exact i2
    · rw [if_neg g]
      rw [es, if_neg (by rw [decide_eq_false g]; simp), Nat.add_zero] at i2
      exact i2
theorem k_mpg_loop (hN : 1000 ≤ N) (h : k_mo f m V) (hs : k_ms (V.1 1) S c) (k : Int32) {K : Int32 → Int32 → Option Int32} : ∀ (d fuel i : Nat), i + d = S.1 + 1 → d < fuel → i ≤ k_run S k →
    F_X6_pages_L4 N f m k K fuel (nI (k_cnt (fun r => decide (0 < (S.2.1 r).1)) i)) (nI i) = (if k_run S k ≤ S.1 then some (nI (k_cnt (fun r => decide (0 < (S.2.1 r).1)) (k_run S k + 1))) else K (nI (k_cnt (fun r => decide (0 < (S.2.1 r).1)) (S.1 + 1))) (nI (S.1 + 1))) := by
  have h6 := hs.1.1
  have hrl := k_run_le S k
  intro d
  induction d with
  | zero =>
    intro fuel i h1 h2 h3
    obtain ⟨u, rfl⟩ : ∃ u, fuel = u + 1 := ⟨fuel - 1, by omega⟩
    have e : i = S.1 + 1 := by omega
    subst e
    simp only [F_X6_pages_L4, h.r0, k_l6 h hs, Option.bind_some]
    rw [if_pos (nI_lt (by omega) (by omega)), if_neg (by omega)]
  | succ d ih =>
    intro fuel i h1 h2 h3
    obtain ⟨u, rfl⟩ : ∃ u, fuel = u + 1 := ⟨fuel - 1, by omega⟩
    have hz := hs.sz (r := i) (by omega)
    simp only [F_X6_pages_L4, h.r0, k_l6 h hs, h.cv, k_size h hs (r := i) (by omega), k_placeIn hN h hs (r := i) (by omega), Option.bind_some, k_add1, k_add0]
    rw [if_neg (nI_nlt (by omega) (by omega))]
    by_cases g : k_tl (S.2.1 i) k = true
    · have e : k_run S k = i := k_fst_eq (by omega) (fun j hj => k_run_no (Nat.lt_of_lt_of_le hj h3)) (fun _ => g)
      have hlt := of_decide_eq_true g
      rw [if_pos g, if_neg (k_nim1 _ (by omega)), if_neg (show ¬ nI (S.2.1 i).1 ≤ 0 from nI_ge (a := 0) (by omega) (by omega)), if_neg (k_nim1 _ (by omega)), e, if_pos (by omega), k_cnt_y (p := fun r => decide (0 < (S.2.1 r).1)) (n := i) (decide_eq_true (by omega))]
    · have hne : i + 1 ≤ k_run S k := by
        rcases Nat.eq_or_lt_of_le h3 with e | e
        · have := k_run_yes (S := S) (k := k) (by omega)
          rw [← e] at this
          exact absurd this g
        · exact e
      have hi := ih u (i + 1) (by omega) (by omega) hne
      simp only [if_neg g, if_true]
      by_cases z : (S.2.1 i).1 = 0
      · rw [k_cnt_n (p := fun r => decide (0 < (S.2.1 r).1)) (n := i) (decide_eq_false (by omega))] at hi
        rw [z, if_pos (by decide)]
        exact hi
      · rw [k_cnt_y (p := fun r => decide (0 < (S.2.1 r).1)) (n := i) (decide_eq_true (by omega))] at hi
        rw [if_neg (show ¬ nI (S.2.1 i).1 ≤ 0 from nI_ge (a := 0) (by omega) (by omega))]
        exact hi
theorem k_mpages (hN : 1000 ≤ N) (h : k_mo f m V) (hs : k_ms (V.1 1) S c) {k : Int32} (hk : 0 ≤ k.toInt) : F_X6_pages N f m k = some (nI (k_pg S k)) := by
  have h6 := hs.1.1
  have h512 := hs.wt.2.2.2.1
  have hn := hs.wt.2.2.1
  have htl : k_tlv S.2.2.1 ≤ 32 := k_lv_le _ _ _
  unfold k_pg k_tpg
  refine (k_mpg_loop hN h hs k (S.1 + 1) N 0 (by omega) (by omega) (Nat.zero_le _)).trans ?_
  by_cases g : k_run S k ≤ S.1
  · rw [if_pos g, if_pos g]
  · rw [if_neg g, if_neg g]
    simp only [h.r0, k_l8 h hs, Option.bind_some]
    by_cases z : S.2.2.1.2.2.1 = 0
    · rw [if_pos (by rw [z]; rfl), if_pos z]
      rfl
    · rw [if_neg (nI_ne0 (by omega) (by omega)), if_neg z]
      obtain ⟨i1, i2, i3, i4⟩ := hs.il (by omega)
      obtain ⟨e1, e2, e3⟩ := i3.e (by omega)
      have hlf := k_lf_pos hs.wt hk (by omega)
      have hle := k_lf_le S.2.2.1 k
      simp only [h.cv, k_entryOf hN h hs, k_mallLevels hN h hs, Option.bind_some]
      unfold k_bh
      by_cases g2 : k_pl S.2.2.1.1.1 (k_eK (V.1 1)) k < S.2.2.1.1.1
      · have g3 := (k_me_pl hs.me k).mp g2
        obtain ⟨q1, q2, q3, q4, q5⟩ := hs.me.2.1 _ g2
        rw [k_pl_at g2] at q5
        rw [if_pos g2, if_neg (k_nim1 _ (by omega)), if_pos g3]
        simp only [k_ent3 h (show k_pl S.2.2.1.1.1 (k_eK (V.1 1)) k < 160 by omega), Option.bind_some]
        by_cases g4 : k_eO (V.1 1) (k_pl S.2.2.1.1.1 (k_eK (V.1 1)) k) = 0
        · rw [if_pos g4] at q5 ⊢
          rw [q5, show k_u (0 : Int32) = 0 from rfl, k_add1, nI_add]
          have : k_ru 0 (k_u S.2.2.1.2.2.2.2.1) = 0 := Nat.div_eq_of_lt (by omega)
          rw [this]
        · rw [if_neg g4] at q5 ⊢
          have hah := k_cnt_le (fun i => decide (k_eL (V.1 1) i = k_eL (V.1 1) (k_pl S.2.2.1.1.1 (k_eK (V.1 1)) k)) && (decide (0 < k_eO (V.1 1) i) && decide (k_eO (V.1 1) i < k_eO (V.1 1) (k_pl S.2.2.1.1.1 (k_eK (V.1 1)) k)))) S.2.2.1.1.1
          have hah' : k_ahd (V.1 1) S.2.2.1.1.1 (k_pl S.2.2.1.1.1 (k_eK (V.1 1)) k) ≤ 160 := by unfold k_ahd; omega
          have hol : F_X6_overflowLeafOf N f m (nI (k_pl S.2.2.1.1.1 (k_eK (V.1 1)) k)) = some (nI (k_ahd (V.1 1) S.2.2.1.1.1 (k_pl S.2.2.1.1.1 (k_eK (V.1 1)) k) / k_u S.2.2.1.2.2.2.2.1 + 1)) := by
            refine (k_mahd_loop (N := N) h hs g2 S.2.2.1.1.1 N 0 (by omega) (by omega)).trans ?_
            simp only [h.r0, k_l2 h hs (by omega), Option.bind_some]
            unfold x_div
            rw [e1, if_neg (nI_ne0 (by omega) (by omega)), pk_div (by omega) (by omega) (by omega), ← e1]
            simp only [Option.bind_some, k_add1]
          simp only [hol, Option.bind_some]
          rw [q5, k_u_n (by omega), k_add1, nI_add, nI_add]
          congr 2
          have : k_ru (1 + k_ahd (V.1 1) S.2.2.1.1.1 (k_pl S.2.2.1.1.1 (k_eK (V.1 1)) k)) (k_u S.2.2.1.2.2.2.2.1) = k_ahd (V.1 1) S.2.2.1.1.1 (k_pl S.2.2.1.1.1 (k_eK (V.1 1)) k) / k_u S.2.2.1.2.2.2.2.1 + 1 := by
            unfold k_ru
            rw [show 1 + k_ahd (V.1 1) S.2.2.1.1.1 (k_pl S.2.2.1.1.1 (k_eK (V.1 1)) k) + k_u S.2.2.1.2.2.2.2.1 - 1 = k_ahd (V.1 1) S.2.2.1.1.1 (k_pl S.2.2.1.1.1 (k_eK (V.1 1)) k) + k_u S.2.2.1.2.2.2.2.1 by omega, Nat.add_div_right _ (by omega)]
          rw [this]
          omega
      · have g3 := fun z => g2 ((k_me_pl hs.me k).mpr z)
        rw [if_neg g2, if_pos rfl, if_neg g3]
        simp only [k_mleafOf hN h hs hk (by omega), k_movers hN h hs (l := k_lf S.2.2.1 k - 1) (by omega), Option.bind_some, k_add1, nI_add]
        congr 2
        omega
end KMS
