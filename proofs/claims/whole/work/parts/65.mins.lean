/-! Entries come to be: the reference's against the tree's. -/
theorem k_ins_pl {n : Nat} {g : Nat → Int32} {k : Int32} (hs : k_srt n g) (hk : 0 ≤ k.toInt ∧ k.toInt < 10000) (hp : ¬ k_pl n g k < n) {i : Nat} (hi : i < n) : k_pl (n + 1) (k_ins (k_rk n g k) k g) (g i) = if i < k_rk n g k then i else i + 1 := by
  have hS := k_ins_srt hs hk hp
  by_cases z : i < k_rk n g k
  · rw [if_pos z]
    have := k_pl_eq hS (i := i) (by omega)
    rw [k_ins_lo z] at this
    exact this
  · rw [if_neg z]
    have := k_pl_eq hS (i := i + 1) (by omega)
    rw [k_ins_hi (show k_rk n g k < i + 1 by omega)] at this
    exact this
theorem k_ins_pk {n : Nat} {g : Nat → Int32} {k : Int32} (hs : k_srt n g) (hk : 0 ≤ k.toInt ∧ k.toInt < 10000) (hp : ¬ k_pl n g k < n) : k_pl (n + 1) (k_ins (k_rk n g k) k g) k = k_rk n g k := by
  have := k_pl_eq (k_ins_srt hs hk hp) (i := k_rk n g k) (by have := k_rk_le n g k; omega)
  rw [k_ins_at] at this
  exact this
theorem k_ins_v {r i : Nat} {x : Int32} {g : Nat → Int32} : k_ins r x g (if i < r then i else i + 1) = g i := by
  by_cases z : i < r
  · rw [if_pos z, k_ins_lo z]
  · rw [if_neg z, k_ins_hi (by omega)]
    rfl
theorem k_me_ins {G G' : Nat → Int32} {T : KT} {c c' : Nat} {k v : Int32} {w : Nat} (hw : k_wt T) (h : k_me G T c) (hcc : c ≤ c') (hwc : w ≤ c') (hc2 : c' ≤ 1200) (hk : 0 ≤ k.toInt ∧ k.toInt < 10000) (hpl : ¬ k_pl T.1.1 T.1.2.1 k < T.1.1)
    (e : ∀ j, j < T.1.1 → k_eK G' j = k_eK G j ∧ k_eV G' j = k_eV G j ∧ k_eL G' j = k_eL G j ∧ k_eO G' j = k_eO G j) (ek : k_eK G' T.1.1 = k) (ev : k_eV G' T.1.1 = v) (el : k_eL G' T.1.1 = nI (k_lf T k - 1)) (eo : k_eO G' T.1.1 = nI w) (hbig : w ≠ 0 → ∀ j, j < T.1.1 → k_eL G j = nI (k_lf T k - 1) → (k_eO G j).toInt < w) :
    k_me G' (k_tins T k v (if w = 0 then 0 else nI (1 + k_cnt (fun i => decide (k_eL G i = nI (k_lf T k - 1)) && decide (0 < k_eO G i)) T.1.1))) c' := by
  have hs := hw.1
  have hwt : (nI w).toInt = (w : Int) := nI_toInt (by omega)
  have hw0 : w ≠ 0 → nI w ≠ 0 := fun z => nI_ne0 (Nat.pos_of_ne_zero z) (by omega)
  have hnk : ∀ j, j < T.1.1 → k_eK G j ≠ k := fun j hj z => by
    have := (h.2.1 j hj).1
    rw [z] at this
    exact hpl this
  obtain ⟨h1, h2, h3, h4⟩ := h
  refine ⟨fun i j hij hj => ?_, fun j hj => ?_, fun i hi => ?_, fun i j hij hj y1 y2 => ?_⟩
  · have hj' : j < T.1.1 + 1 := hj
    rw [(e i (by omega)).1]
    rcases Nat.eq_or_lt_of_le (Nat.le_of_lt_succ hj') with z | z
    · rw [z, ek]; exact hnk i (by omega)
    · rw [(e j z).1]; exact h1 i j hij z
  · have hj' : j < T.1.1 + 1 := hj
    show k_pl (T.1.1 + 1) (k_ins (k_rk T.1.1 T.1.2.1 k) k T.1.2.1) (k_eK G' j) < T.1.1 + 1 ∧ k_eV G' j = k_ins (k_rk T.1.1 T.1.2.1 k) v T.1.2.2 (k_pl (T.1.1 + 1) (k_ins (k_rk T.1.1 T.1.2.1 k) k T.1.2.1) (k_eK G' j)) ∧ k_eL G' j = nI (k_lf T (k_eK G' j) - 1) ∧ k_sm (k_eO G' j) 0 c' ∧ k_ins (k_rk T.1.1 T.1.2.1 k) _ T.2.1 (k_pl (T.1.1 + 1) (k_ins (k_rk T.1.1 T.1.2.1 k) k T.1.2.1) (k_eK G' j)) = if k_eO G' j = 0 then 0 else nI (1 + k_ahd G' (T.1.1 + 1) j)
    rcases Nat.eq_or_lt_of_le (Nat.le_of_lt_succ hj') with z | z
    · rw [z, ek, ev, el, eo, k_ins_pk hs hk hpl, k_ins_at, k_ins_at]
      refine ⟨by have := k_rk_le T.1.1 T.1.2.1 k; omega, rfl, rfl, ⟨w, rfl, Nat.zero_le _, hwc⟩, ?_⟩
      by_cases z0 : w = 0
      · rw [if_pos z0, if_pos (by rw [z0]; rfl)]
      · rw [if_neg z0, if_neg (hw0 z0)]
        congr 2
        unfold k_ahd
        rw [k_cnt, if_neg (by rw [eo]; simp [Int32.lt_irrefl])]
        refine k_cnt_cong (fun i hi => ?_)
        rw [(e i hi).2.2.1, (e i hi).2.2.2, el, eo]
        by_cases y : k_eL G i = nI (k_lf T k - 1)
        · have hb := hbig z0 i hi y
          have : k_eO G i < nI w := by rw [k_i_lt, hwt]; exact hb
          simp [y, this]
        · simp [y]
    · obtain ⟨a1, a2, a3, a4, a5⟩ := h2 j z
      have hp : k_pl (T.1.1 + 1) (k_ins (k_rk T.1.1 T.1.2.1 k) k T.1.2.1) (k_eK G j) = if k_pl T.1.1 T.1.2.1 (k_eK G j) < k_rk T.1.1 T.1.2.1 k then k_pl T.1.1 T.1.2.1 (k_eK G j) else k_pl T.1.1 T.1.2.1 (k_eK G j) + 1 := by
        have := k_ins_pl hs hk hpl a1
        rw [k_pl_at a1] at this
        exact this
      rw [(e j z).1, (e j z).2.1, (e j z).2.2.1, (e j z).2.2.2, hp, k_ins_v, k_ins_v]
      obtain ⟨o, o1, o2, o3⟩ := a4
      refine ⟨by split <;> omega, a2, a3, ⟨o, o1, o2, by omega⟩, ?_⟩
      rw [a5]
      by_cases z0 : k_eO G j = 0
      · rw [if_pos z0, if_pos z0]
      · rw [if_neg z0, if_neg z0]
        congr 2
        unfold k_ahd
        rw [k_cnt, if_neg (by
          rw [el, eo, (e j z).2.2.1, (e j z).2.2.2]
          by_cases y : nI (k_lf T k - 1) = k_eL G j
          · by_cases z1 : w = 0
            · rw [z1, decide_eq_false (show ¬ (0 : Int32) < nI 0 by rw [k_i_lt]; decide)]
              simp
            · have hb := hbig z1 j z y.symm
              have : ¬ nI w < k_eO G j := by rw [k_i_lt, hwt]; omega
              simp [this]
          · simp [y])]
        exact (k_cnt_cong (fun i hi => by rw [(e i hi).2.2.1, (e i hi).2.2.2, (e j z).2.2.1, (e j z).2.2.2])).symm
  · have hi' : i < T.1.1 + 1 := hi
    show ∃ j, j < T.1.1 + 1 ∧ k_eK G' j = k_ins (k_rk T.1.1 T.1.2.1 k) k T.1.2.1 i
    rcases Nat.lt_trichotomy i (k_rk T.1.1 T.1.2.1 k) with z | z | z
    · have := k_rk_le T.1.1 T.1.2.1 k
      obtain ⟨j, hj, ej⟩ := h3 i (by omega)
      exact ⟨j, by omega, by rw [(e j hj).1, ej, k_ins_lo z]⟩
    · exact ⟨T.1.1, by omega, by rw [ek, z, k_ins_at]⟩
    · obtain ⟨j, hj, ej⟩ := h3 (i - 1) (by omega)
      exact ⟨j, by omega, by rw [(e j hj).1, ej, k_ins_hi z]⟩
  · have hj' : j < T.1.1 + 1 := hj
    rw [(e i (by omega)).2.2.1] at y1
    rw [(e i (by omega)).2.2.2] at y2 ⊢
    rcases Nat.eq_or_lt_of_le (Nat.le_of_lt_succ hj') with z | z
    · rw [z, el] at y1
      rw [z, eo] at y2
      by_cases z0 : w = 0
      · rw [y2, z0]; rfl
      · have := hbig z0 i (by omega) y1
        rw [y2, hwt] at this
        omega
    · rw [(e j z).2.2.1] at y1
      rw [(e j z).2.2.2] at y2
      exact h4 i j hij z y1 y2
/-- a value changed -/
theorem k_me_set {G G' : Nat → Int32} {T : KT} {c j0 : Nat} {v : Int32} (hw : k_wt T) (h : k_me G T c) (hj0 : j0 < T.1.1)
    (e : ∀ j, j < T.1.1 → k_eK G' j = k_eK G j ∧ k_eL G' j = k_eL G j ∧ k_eO G' j = k_eO G j ∧ k_eV G' j = if j = j0 then v else k_eV G j) : k_me G' (k_tset T (k_eK G j0) v) c := by
  obtain ⟨h1, h2, h3, h4⟩ := h
  refine ⟨fun i j hij hj => ?_, fun j hj => ?_, fun i hi => ?_, fun i j hij hj => ?_⟩
  · rw [(e i (Nat.lt_trans hij hj)).1, (e j hj).1]; exact h1 i j hij hj
  · have hj' : j < T.1.1 := hj
    obtain ⟨a1, a2, a3, a4, a5⟩ := h2 j hj'
    have ea : k_ahd G' T.1.1 j = k_ahd G T.1.1 j := k_cnt_cong (fun i hi => by rw [(e i hi).2.1, (e j hj').2.1, (e i hi).2.2.1, (e j hj').2.2.1])
    obtain ⟨b1, b2, b3, b4⟩ := e j hj'
    show k_pl T.1.1 T.1.2.1 (k_eK G' j) < T.1.1 ∧ k_eV G' j = upd T.1.2.2 (k_pl T.1.1 T.1.2.1 (k_eK G j0)) v (k_pl T.1.1 T.1.2.1 (k_eK G' j)) ∧ k_eL G' j = nI (k_lf T (k_eK G' j) - 1) ∧ k_sm (k_eO G' j) 0 c ∧ T.2.1 (k_pl T.1.1 T.1.2.1 (k_eK G' j)) = if k_eO G' j = 0 then 0 else nI (1 + k_ahd G' T.1.1 j)
    rw [b1, b2, b3, b4, ea]
    refine ⟨a1, ?_, a3, a4, a5⟩
    by_cases z : j = j0
    · rw [if_pos z, z, k_upd_s]
    · rw [if_neg z, k_upd_n (fun y => ?_)]
      · exact a2
      · have y2 : k_eK G j = k_eK G j0 := by rw [← k_pl_at a1, y, k_pl_at (h2 j0 hj0).1]
        rcases Nat.lt_trichotomy j j0 with x | x | x
        · exact h1 j j0 x hj0 y2
        · exact z x
        · exact h1 j0 j x hj' y2.symm
  · obtain ⟨j, hj, ej⟩ := h3 i hi
    exact ⟨j, hj, (e j hj).1.trans ej⟩
  · rw [(e i (Nat.lt_trans hij hj)).2.1, (e j hj).2.1, (e i (Nat.lt_trans hij hj)).2.2.1, (e j hj).2.2.1]
    exact h4 i j hij hj
/-- a leaf behind the last -/
theorem k_lf_app {T : KT} {k : Int32} (hb : ∀ i, i < T.2.2.1 → 0 < T.2.2.1 → (T.2.2.2.1 i).toInt < k.toInt) (hk : 0 ≤ k.toInt) : k_lf (k_tleaf T k) k = T.2.2.1 + 1 := by
  refine k_fst_eq (n := T.2.2.1 + 1) (Nat.le_refl _) (fun j hj => decide_eq_false ?_) (fun z => absurd z (Nat.lt_irrefl _))
  show ¬ k.toInt < (upd T.2.2.2.1 T.2.2.1 (if T.2.2.1 = 0 then 0 else k) j).toInt
  by_cases z : j = T.2.2.1
  · rw [z, k_upd_s]
    by_cases y : T.2.2.1 = 0
    · rw [if_pos y]
      have e0 : (0 : Int32).toInt = 0 := rfl
      omega
    · rw [if_neg y]; omega
  · rw [k_upd_n z]
    have := hb j (by omega) (by omega)
    omega
theorem k_lf_app' {T : KT} {k x : Int32} (hl : 0 < T.2.2.1) (hx : x.toInt < k.toInt) : k_lf (k_tleaf T k) x = k_lf T x := by
  have hle := k_lf_le T x
  refine k_fst_eq (n := T.2.2.1 + 1) (by omega) (fun j hj => ?_) (fun _ => ?_)
  · show decide (x.toInt < (upd T.2.2.2.1 T.2.2.1 (if T.2.2.1 = 0 then 0 else k) j).toInt) = false
    rw [k_upd_n (by omega)]
    exact k_fst_no (fun i => decide (x.toInt < (T.2.2.2.1 i).toInt)) _ j hj
  · show decide (x.toInt < (upd T.2.2.2.1 T.2.2.1 (if T.2.2.1 = 0 then 0 else k) (k_lf T x)).toInt) = true
    by_cases z : k_lf T x = T.2.2.1
    · rw [z, k_upd_s, if_neg (by omega)]; exact decide_eq_true hx
    · rw [k_upd_n z]
      exact k_fst_yes (fun i => decide (x.toInt < (T.2.2.2.1 i).toInt)) T.2.2.1 (by unfold k_lf at hle z; omega)
theorem k_me_leaf {G : Nat → Int32} {T : KT} {c : Nat} {k : Int32} (h : k_me G T c) (hx : ∀ i, i < T.1.1 → k_lf (k_tleaf T k) (T.1.2.1 i) = k_lf T (T.1.2.1 i)) : k_me G (k_tleaf T k) c := by
  obtain ⟨h1, h2, h3, h4⟩ := h
  refine ⟨h1, fun j hj => ?_, h3, h4⟩
  obtain ⟨a1, a2, a3, a4, a5⟩ := h2 j hj
  refine ⟨a1, a2, ?_, a4, a5⟩
  have := hx _ a1
  rw [k_pl_at a1] at this
  rw [this]
  exact a3
/-- the tree has changed -/
theorem k_ms.tree {G G' : Nat → Int32} {S : KS} {c c' : Nat} {T : KT} (h : k_ms G S c) (hT : k_wt T) (hcc : c ≤ c') (hc2 : c' ≤ 1200) (hsame : ∀ a, a < 856 → a ≠ 2 → a ≠ 3 → a ≠ 7 → a ≠ 8 → G' a = G a) (e7 : G' 7 = nI T.1.1) (e8 : G' 8 = nI T.2.2.1) (eb : ∀ l, l < T.2.2.1 → G' (1496 + l) = T.2.2.2.1 l)
    (hz : T.2.2.2.2.1 = 0 ↔ T.2.2.1 = 0 ∧ S.2.2.2.2.2.1 = 0) (h23 : T.2.2.2.2.1 ≠ 0 → G' 2 = T.2.2.2.2.1 ∧ G' 3 = T.2.2.2.2.2) (he : k_me G' T c') (hl : T.2.2.1 ≤ c') (ht : k_told S + T.1.1 ≤ c') : k_ms G' (k_stt S T) c' := by
  have h6 := h.1.1
  have hsz := fun r (hr : r ≤ S.1) => h.sz hr
  obtain ⟨h1, h2, ⟨a0, a1, a4, a5, a6, a7, a8⟩, h4, h5, h6', h7, h8, h9, ⟨b, b1, b2, b3⟩, h11⟩ := h
  refine ⟨k_ws_tt h1 hT, hc2, ⟨(hsame 0 (by omega) (by omega) (by omega) (by omega) (by omega)).trans a0, (hsame 1 (by omega) (by omega) (by omega) (by omega) (by omega)).trans a1, (hsame 4 (by omega) (by omega) (by omega) (by omega) (by omega)).trans a4, (hsame 5 (by omega) (by omega) (by omega) (by omega) (by omega)).trans a5, (hsame 6 (by omega) (by omega) (by omega) (by omega) (by omega)).trans a6, e7, e8⟩, fun r hr => ?_, eb, hz, h23, he, hl, ⟨b, b1, b2, by omega⟩, ht⟩
  have hr' : r ≤ S.1 := hr
  have := hsz r hr'
  exact ⟨(hsame _ (by omega) (by omega) (by omega) (by omega) (by omega)).trans (h4 r hr').1, fun i hi => ⟨(hsame _ (by have : i < (S.2.1 r).1 := hi; omega) (by omega) (by omega) (by omega) (by omega)).trans ((h4 r hr').2 i hi).1, (hsame _ (by have : i < (S.2.1 r).1 := hi; omega) (by omega) (by omega) (by omega) (by omega)).trans ((h4 r hr').2 i hi).2⟩⟩
section KMG
variable {N : Nat} {f : XM} {m c : Nat} {V : KM} {S : KS}
theorem k_gr_loop (h : k_mo f m V) (hs : k_ms (V.1 1) S c) (l : Int32) {w : Nat} (hw : w < 4) {K : Int32 → Int32 → Option Int32} : ∀ (d fuel i : Nat) (x0 : Int32), i + d = S.2.2.1.1.1 → d < fuel →
    ∃ z, F_X6_greatest_L13 N f m l (nI w) K fuel x0 (nI i) = K z (nI S.2.2.1.1.1) ∧ (x0.toInt ≤ z.toInt) ∧ (∀ j, i ≤ j → j < S.2.2.1.1.1 → k_eL (V.1 1) j = l → (V.1 1 (856 + 4 * j + w)).toInt ≤ z.toInt) ∧ (z = x0 ∨ ∃ j, j < S.2.2.1.1.1 ∧ k_eL (V.1 1) j = l ∧ V.1 1 (856 + 4 * j + w) = z) := by
  have hn := hs.wt.2.2.1
  intro d
  induction d with
  | zero =>
    intro fuel i x0 h1 h2
    obtain ⟨u, rfl⟩ : ∃ u, fuel = u + 1 := ⟨fuel - 1, by omega⟩
    have e : i = S.2.2.1.1.1 := by omega
    refine ⟨x0, ?_, Int.le_refl _, fun j a b => by omega, Or.inl rfl⟩
    simp only [F_X6_greatest_L13, h.r0, k_l7 h hs, Option.bind_some]
    rw [if_pos (nI_le (by omega) (by omega)), e]
  | succ d ih =>
    intro fuel i x0 h1 h2
    obtain ⟨u, rfl⟩ : ∃ u, fuel = u + 1 := ⟨fuel - 1, by omega⟩
    simp only [F_X6_greatest_L13, h.r0, k_l7 h hs, h.cv, k_ent2 h (j := i) (by omega), k_entry h (j := i) (w := w) (by omega) hw, Option.bind_some, k_add1]
    rw [if_neg (nI_ge (by omega) (by omega))]
    by_cases g : k_eL (V.1 1) i = l
    · rw [if_pos g]
      by_cases g2 : V.1 1 (856 + 4 * i + w) ≤ x0
      · obtain ⟨z, z1, z2, z3, z4⟩ := ih u (i + 1) x0 (by omega) (by omega)
        rw [if_pos g2]
        refine ⟨z, z1, z2, fun j a b e => ?_, z4⟩
        rcases Nat.eq_or_lt_of_le a with y | y
        · rw [← y]; rw [k_i_le] at g2; omega
        · exact z3 j y b e
      · obtain ⟨z, z1, z2, z3, z4⟩ := ih u (i + 1) (V.1 1 (856 + 4 * i + w)) (by omega) (by omega)
        rw [if_neg g2]
        rw [k_i_le] at g2
        refine ⟨z, z1, by omega, fun j a b e => ?_, ?_⟩
        · rcases Nat.eq_or_lt_of_le a with y | y
          · rw [← y]; exact z2
          · exact z3 j y b e
        · rcases z4 with y | y
          · exact Or.inr ⟨i, by omega, g, y.symm⟩
          · exact Or.inr y
    · obtain ⟨z, z1, z2, z3, z4⟩ := ih u (i + 1) x0 (by omega) (by omega)
      rw [if_neg g]
      refine ⟨z, z1, z2, fun j a b e => ?_, z4⟩
      rcases Nat.eq_or_lt_of_le a with y | y
      · rw [← y] at e; exact absurd e g
      · exact z3 j y b e
theorem k_gr_ord (hN : 1000 ≤ N) (h : k_mo f m V) (hs : k_ms (V.1 1) S c) (l : Int32) : ∃ M, F_X6_greatest N f m l 3 = some (nI M) ∧ M ≤ c ∧ ∀ j, j < S.2.2.1.1.1 → k_eL (V.1 1) j = l → (k_eO (V.1 1) j).toInt ≤ M := by
  have hn := hs.wt.2.2.1
  have hc := hs.2.1
  obtain ⟨z, z1, z2, z3, z4⟩ := k_gr_loop (N := N) h hs l (w := 3) (by omega) (K := fun y _ => some y) S.2.2.1.1.1 N 0 0 (by omega) (by omega)
  have hz : ∃ M, z = nI M ∧ M ≤ c := by
    rcases z4 with y | ⟨j, y1, y2, y3⟩
    · exact ⟨0, y, Nat.zero_le _⟩
    · obtain ⟨-, -, -, ⟨o, o1, o2, o3⟩, -⟩ := hs.me.2.1 j y1
      refine ⟨o, ?_, o3⟩
      rw [← y3, ← o1]
      exact congrArg (V.1 1) (by omega)
  obtain ⟨M, rfl, hM⟩ := hz
  refine ⟨M, ?_, hM, fun j hj e => ?_⟩
  · rw [F_X6_greatest, if_neg (by decide)]
    exact z1
  · have := z3 j (Nat.zero_le _) hj e
    rw [nI_toInt (by omega), show 856 + 4 * j + 3 = 859 + 4 * j by omega] at this
    exact this
theorem k_gr_key (hN : 1000 ≤ N) (h : k_mo f m V) (hs : k_ms (V.1 1) S c) (l : Int32) : ∃ z, F_X6_greatest N f m l 0 = some z ∧ (∀ j, j < S.2.2.1.1.1 → k_eL (V.1 1) j = l → (k_eK (V.1 1) j).toInt ≤ z.toInt) ∧ (z = -1 ∨ ∃ j, j < S.2.2.1.1.1 ∧ k_eL (V.1 1) j = l ∧ k_eK (V.1 1) j = z) := by
  have hn := hs.wt.2.2.1
  obtain ⟨z, z1, z2, z3, z4⟩ := k_gr_loop (N := N) h hs l (w := 0) (by omega) (K := fun y _ => some y) S.2.2.1.1.1 N 0 (-1) (by omega) (by omega)
  refine ⟨z, ?_, fun j hj e => z3 j (Nat.zero_le _) hj e, z4⟩
  rw [F_X6_greatest, if_pos rfl]
  exact z1
end KMG
