/-! The reference: the two oldest runs merged. -/
theorem k_wr_mem {R : KR} (hs : k_srt R.1 R.2.1) {k v k' v' : Int32} : k_mem (k_wr R k v) k' v' ↔ (k' = k ∧ v' = v) ∨ (k' ≠ k ∧ k_mem R k' v') := by
  unfold k_wr
  by_cases g : k_pl R.1 R.2.1 k < R.1
  · rw [if_pos g]
    constructor
    · rintro ⟨i, hi, e1, e2⟩
      have e1' : R.2.1 i = k' := e1
      have e2' : upd R.2.2 (k_pl R.1 R.2.1 k) v i = v' := e2
      by_cases z : i = k_pl R.1 R.2.1 k
      · rw [z, k_upd_s] at e2'
        rw [z, k_pl_at g] at e1'
        exact Or.inl ⟨e1'.symm, e2'.symm⟩
      · rw [k_upd_n z] at e2'
        refine Or.inr ⟨fun e => z ?_, i, hi, e1', e2'⟩
        rw [e] at e1'
        exact k_srt_ne hs hi g (e1'.trans (k_pl_at g).symm)
    · rintro (⟨rfl, rfl⟩ | ⟨h1, i, hi, e1, e2⟩)
      · exact ⟨_, g, k_pl_at g, k_upd_s⟩
      · refine ⟨i, hi, e1, ?_⟩
        show upd R.2.2 _ v i = v'
        rw [k_upd_n (fun z => h1 (by rw [← e1, z, k_pl_at g]))]
        exact e2
  · rw [if_neg g]
    have hr := k_rk_le R.1 R.2.1 k
    constructor
    · rintro ⟨i, hi, e1, e2⟩
      have hi' : i < R.1 + 1 := hi
      have e1' : k_ins (k_rk R.1 R.2.1 k) k R.2.1 i = k' := e1
      have e2' : k_ins (k_rk R.1 R.2.1 k) v R.2.2 i = v' := e2
      rcases Nat.lt_trichotomy i (k_rk R.1 R.2.1 k) with y | y | y
      · rw [k_ins_lo y] at e1' e2'
        exact Or.inr ⟨fun e => k_pl_no g (show i < R.1 by omega) (e1'.trans e), i, by omega, e1', e2'⟩
      · rw [y, k_ins_at] at e1' e2'
        exact Or.inl ⟨e1'.symm, e2'.symm⟩
      · rw [k_ins_hi y] at e1' e2'
        exact Or.inr ⟨fun e => k_pl_no g (show i - 1 < R.1 by omega) (e1'.trans e), i - 1, by omega, e1', e2'⟩
    · rintro (⟨rfl, rfl⟩ | ⟨h1, i, hi, e1, e2⟩)
      · exact ⟨k_rk R.1 R.2.1 k', Nat.lt_succ_of_le hr, k_ins_at, k_ins_at⟩
      · rcases Nat.lt_or_ge i (k_rk R.1 R.2.1 k) with y | y
        · exact ⟨i, Nat.lt_succ_of_lt hi, (k_ins_lo y).trans e1, (k_ins_lo y).trans e2⟩
        · exact ⟨i + 1, Nat.succ_lt_succ hi, (k_ins_hi (by omega)).trans e1, (k_ins_hi (by omega)).trans e2⟩
noncomputable def k_mrg (O Y : KR) : KR := @Classical.epsilon KR ⟨k_R0⟩ (fun M => k_mgd O Y M)
theorem k_mgd_uniq {O Y Q R : KR} (hQ : k_mgd O Y Q) (hR : k_mgd O Y R) : Q.1 = R.1 ∧ ∀ i, i < Q.1 → Q.2.1 i = R.2.1 i ∧ Q.2.2 i = R.2.2 i := by
  have key : ∀ {A B : KR}, k_mgd O Y A → k_mgd O Y B → ∀ x, (∃ i, i < A.1 ∧ A.2.1 i = x) → (∃ i, i < B.1 ∧ B.2.1 i = x) := fun hA hB x ⟨i, hi, e⟩ => by
    obtain ⟨j, hj, e1, -⟩ := (hB.2 x _).mpr ((hA.2 x (_ : Int32)).mp ⟨i, hi, e, rfl⟩)
    exact ⟨j, hj, e1⟩
  obtain ⟨e1, e2⟩ := k_srt_uniq hQ.1 hR.1 (fun x => ⟨key hQ hR x, key hR hQ x⟩)
  refine ⟨e1, fun i hi => ⟨e2 i hi, ?_⟩⟩
  obtain ⟨j, hj, f1, f2⟩ := (hR.2 (Q.2.1 i) (Q.2.2 i)).mpr ((hQ.2 _ _).mp ⟨i, hi, rfl, rfl⟩)
  have : j = i := k_srt_ne hR.1 hj (by omega) (f1.trans (e2 i hi))
  rw [← f2, this]
theorem k_mrg_of {O Y M : KR} (h : k_mgd O Y M) : k_mgd O Y (k_mrg O Y) ∧ M.1 = (k_mrg O Y).1 ∧ ∀ i, i < M.1 → M.2.1 i = (k_mrg O Y).2.1 i ∧ M.2.2 i = (k_mrg O Y).2.2 i := by
  have e : k_mgd O Y (k_mrg O Y) := @Classical.epsilon_spec KR (fun M => k_mgd O Y M) ⟨M, h⟩
  exact ⟨e, k_mgd_uniq h e⟩
/-- how many keys a merged run has -/
theorem k_mgd_n {O Y M : KR} (hO : k_srt O.1 O.2.1) (hY : k_srt Y.1 Y.2.1) (h : k_mgd O Y M) : M.1 = O.1 + k_cnt (fun j => !k_tl O (Y.2.1 j)) Y.1 := by
  have hmem : ∀ x, (∃ i, i < M.1 ∧ M.2.1 i = x) ↔ k_tl O x = true ∨ k_tl Y x = true := fun x => by
    constructor
    · rintro ⟨i, hi, rfl⟩
      rcases (h.2 _ _).mp ⟨i, hi, rfl, rfl⟩ with y | y
      · exact Or.inr (k_mem_tl y)
      · exact Or.inl (k_mem_tl y.1)
    · intro y
      by_cases z : k_tl Y x = true
      · obtain ⟨i, hi, e1, -⟩ := (h.2 x _).mpr (Or.inl ((k_mem_v hY).mpr ⟨z, rfl⟩))
        exact ⟨i, hi, e1⟩
      · rcases y with y | y
        · obtain ⟨i, hi, e1, -⟩ := (h.2 x _).mpr (Or.inr ⟨(k_mem_v hO).mpr ⟨y, rfl⟩, k_tl_no.mp (by rwa [Bool.not_eq_true] at z)⟩)
          exact ⟨i, hi, e1⟩
        · exact absurd y z
  have e1 : k_cnt (fun i => k_tl O (M.2.1 i)) M.1 = O.1 := by
    rw [← k_cnt_all (p := fun _ => true) (n := O.1) (fun _ _ => rfl)]
    refine (k_cnt_eqv (a := O.2.1) (b := M.2.1) (k_srt_dn hO) (k_srt_dn h.1) (fun j hj _ => ?_) (fun i hi hp => ?_)).symm
    · have ht : k_tl O (O.2.1 j) = true := decide_eq_true (k_pl_in hj rfl)
      obtain ⟨i, hi, e⟩ := (hmem _).mpr (Or.inl ht)
      exact ⟨i, hi, by rw [e]; exact ht, e⟩
    · have := of_decide_eq_true hp
      exact ⟨_, this, rfl, k_pl_at this⟩
  have e2 : k_cnt (fun i => !k_tl O (M.2.1 i)) M.1 = k_cnt (fun j => !k_tl O (Y.2.1 j)) Y.1 := by
    refine k_cnt_eqv (a := M.2.1) (b := Y.2.1) (k_srt_dn h.1) (k_srt_dn hY) (fun i hi hq => ?_) (fun j hj hp => ?_)
    · rcases (hmem (M.2.1 i)).mp ⟨i, hi, rfl⟩ with y | y
      · rw [y] at hq; exact absurd hq (by decide)
      · have := of_decide_eq_true y
        exact ⟨_, this, by rw [k_pl_at this]; exact hq, k_pl_at this⟩
    · obtain ⟨i, hi, e⟩ := (hmem (Y.2.1 j)).mpr (Or.inr (decide_eq_true (k_pl_in hj rfl)))
      exact ⟨i, hi, by rw [e]; exact hp, e⟩
  have e3 := k_cnt_or (p := fun i => k_tl O (M.2.1 i)) (q := fun i => !k_tl O (M.2.1 i)) (n := M.1) (fun k _ => by cases k_tl O (M.2.1 k) <;> simp)
  rw [k_cnt_all (fun k _ => by cases k_tl O (M.2.1 k) <;> rfl), e1, e2] at e3
  exact e3
section KMG
variable {N : Nat} {f : XM} {m c : Nat} {V : KM} {S : KS}
theorem k_tg_loop (hN : 5000 ≤ N) (h : k_mo f m V) (hs : k_ms (V.1 1) S c) {q : Nat} (hq : S.1 = q + 1) (n0 : Nat) : ∀ (d fuel i : Nat), i + d = (S.2.1 q).1 → d < fuel →
    F_X6_together_L16 N f m (nI S.1) (fun y _ => some y) fuel (nI (n0 + k_cnt (fun j => !k_tl (S.2.1 S.1) ((S.2.1 q).2.1 j)) i)) (nI i) = some (nI (n0 + k_cnt (fun j => !k_tl (S.2.1 S.1) ((S.2.1 q).2.1 j)) (S.2.1 q).1)) := by
  have h6 := hs.1.1
  have hz := hs.sz (r := q) (by omega)
  have hz1 := hs.sz (r := S.1) (by omega)
  have em : nI S.1 - 1 = nI q := by rw [hq]; exact nI_pred q
  intro d
  induction d with
  | zero =>
    intro fuel i h1 h2
    obtain ⟨u, rfl⟩ : ∃ u, fuel = u + 1 := ⟨fuel - 1, by omega⟩
    have e : i = (S.2.1 q).1 := by omega
    subst e
    simp only [F_X6_together_L16, em, h.cv, k_size h hs (r := q) (by omega), Option.bind_some]
    rw [if_pos (nI_le (Nat.le_refl _) (by omega))]
  | succ d ih =>
    intro fuel i h1 h2
    obtain ⟨u, rfl⟩ : ∃ u, fuel = u + 1 := ⟨fuel - 1, by omega⟩
    have i2 := ih u (i + 1) (by omega) (by omega)
    simp only [F_X6_together_L16, em, h.cv, k_size h hs (r := q) (by omega), k_key h hs (r := q) (p := i) (by omega) (by omega), k_placeIn (show 1000 ≤ N by omega) h hs (r := S.1) (Nat.le_refl _), Option.bind_some, k_add1, k_add0]
    rw [if_neg (nI_ge (by omega) (by omega))]
    cases g : k_tl (S.2.1 S.1) ((S.2.1 q).2.1 i) with
    | true =>
      have := of_decide_eq_true g
      rw [k_cnt_n (by rw [g]; rfl)] at i2
      rw [if_pos rfl, if_neg (k_nim1 _ (by omega))]
      exact i2
    | false =>
      rw [k_cnt_y (by rw [g]; rfl)] at i2
      simp only [Bool.false_eq_true, if_false, if_true]
      exact i2
theorem k_together (hN : 5000 ≤ N) (h : k_mo f m V) (hs : k_ms (V.1 1) S c) {q : Nat} (hq : S.1 = q + 1) {M : KR} (hM : k_mgd (S.2.1 S.1) (S.2.1 q) M) : F_X6_together N f m = some (nI M.1) := by
  have h6 := hs.1.1
  have hz := hs.sz (r := q) (by omega)
  have := k_tg_loop (N := N) hN h hs hq (S.2.1 S.1).1 (S.2.1 q).1 N 0 (by omega) (by omega)
  rw [← k_mgd_n (hs.1.2.1 S.1 (Nat.le_refl _)) (hs.1.2.1 q (by omega)) hM] at this
  simp only [F_X6_together, h.r0, k_l6 h hs, h.cv, k_size h hs (r := S.1) (Nat.le_refl _), Option.bind_some]
  exact this
/-- a run copied out -/
theorem k_mc_loop {r : Nat} {R : KR} {c1 : Int32} (hr : r ≤ 6) (hn : R.1 ≤ 60) {K : Int32 → Int32 → XM → Option (Int32 × XM)} : ∀ (d fuel i n : Nat) (f : XM) (V : KM), i + d = R.1 → d < fuel → n + d ≤ 120 → k_mo f m V → k_rr (V.1 1) r R →
    ∃ (f' : XM) (V' : KM), F_X6_merges_L22 N m c1 (nI r) K fuel (nI n) (nI i) f = K (nI (n + d)) (nI R.1) f' ∧ k_mo f' m V' ∧ k_mx V V' [6] [] ∧ k_fr f f' m (m + 10) ∧ (∀ a, a < 2 * n → V'.1 6 a = V.1 6 a) ∧ (∀ j, i ≤ j → j < R.1 → V'.1 6 (2 * (n + (j - i))) = R.2.1 j ∧ V'.1 6 (2 * (n + (j - i)) + 1) = R.2.2 j) := by
  intro d
  induction d with
  | zero =>
    intro fuel i n f V h1 h2 h3 h hR
    obtain ⟨u, rfl⟩ : ∃ u, fuel = u + 1 := ⟨fuel - 1, by omega⟩
    have e : i = R.1 := by omega
    subst e
    refine ⟨f, V, ?_, h, k_mx.rf, k_fr.rf, fun _ _ => rfl, fun j a b => absurd b (by omega)⟩
    simp only [F_X6_merges_L22, h.cv, k_size' h hr hR, Option.bind_some]
    rw [if_pos (nI_le (Nat.le_refl _) (by omega))]
    rfl
  | succ d ih =>
    intro fuel i n f V h1 h2 h3 h hR
    obtain ⟨u, rfl⟩ : ∃ u, fuel = u + 1 := ⟨fuel - 1, by omega⟩
    obtain ⟨f1, a1, a2, a3⟩ := h.st (a := 6) (i := 2 * n) (by omega) (by omega) (by show _ < 240; omega) (R.2.1 i)
    obtain ⟨f2, b1, b2, b3⟩ := a2.st (a := 6) (i := 2 * n + 1) (by omega) (by omega) (by show _ < 240; omega) (R.2.2 i)
    have ev : (k_sA V 6 (2 * n) (R.2.1 i)).1 1 (11 + 121 * r + 2 * i) = R.2.2 i := (hR.2 i (by omega)).2
    obtain ⟨f', V', r1, r2, r3, r4, r5, r6⟩ := ih u (i + 1) (n + 1) f2 _ (by omega) (by omega) (by omega) b2 hR
    have hw : ∀ a, (k_sA (k_sA V 6 (2 * n) (R.2.1 i)) 6 (2 * n + 1) (R.2.2 i)).1 6 a = upd (upd (V.1 6) (2 * n) (R.2.1 i)) (2 * n + 1) (R.2.2 i) a := fun a => by rw [k_sA_s, k_sA_s]
    refine ⟨f', V', ?_, r2, ((k_sA_mx (by simp)).tr (k_sA_mx (by simp))).tr r3, (a3.tr b3).tr r4, fun a ha => ?_, fun j hj1 hj2 => ?_⟩
    · simp only [F_X6_merges_L22, h.cv, k_size' h hr hR, Option.bind_some]
      rw [if_neg (nI_ge (by omega) (by omega))]
      have q1 : x_ast f (m + 6) (2 * nI n) (R.2.1 i) = some f1 := by rw [k_ix2]; exact a1
      have q2 : x_ast f1 (m + 6) (2 * nI n + 1) (R.2.2 i) = some f2 := by rw [k_ix2, k_add1]; exact b1
      simp only [h.r6, k_key' h hr (p := i) (by omega), (hR.2 i (by omega)).1, q1, a2.r6, a2.cv, k_value' a2 hr (p := i) (by omega), ev, q2, Option.bind_some, k_add1]
      rw [r1]
      congr 2
      omega
    · rw [r5 a (by omega), hw, k_upd_n (by omega), k_upd_n (by omega)]
    · by_cases z : j = i
      · subst z
        rw [Nat.sub_self, Nat.add_zero, r5 _ (by omega), r5 _ (by omega), hw, hw, k_upd_n (by omega), k_upd_s, k_upd_s]
        exact ⟨rfl, rfl⟩
      · have := r6 j (by omega) hj2
        rw [show n + 1 + (j - (i + 1)) = n + (j - i) by omega] at this
        exact this
/-- what a run tells of, behind i keys of the older and j of the younger one -/
def k_mgp (O Y : KR) (i j : Nat) (R : KR) : Prop := k_srt R.1 R.2.1 ∧ ∀ k v, k_mem R k v ↔ (∃ j', j' < j ∧ Y.2.1 j' = k ∧ Y.2.2 j' = v) ∨ (∃ i', i' < i ∧ O.2.1 i' = k ∧ O.2.2 i' = v ∧ ∀ j', j' < j → Y.2.1 j' ≠ k)
theorem k_mgp_le {O Y R M : KR} {i j : Nat} (hi : i ≤ O.1) (hj : j ≤ Y.1) (hO : k_srt O.1 O.2.1) (hY : k_srt Y.1 Y.2.1) (h : k_mgp O Y i j R) (hM : k_mgd O Y M) : R.1 ≤ M.1 := by
  have := k_cnt_rel (q := fun _ => true) (p := fun _ => true) (a := R.2.1) (b := M.2.1) (m := M.1) (n := R.1) (k_srt_dn h.1) (fun t ht _ => by
    have hm : ∃ v, k_mem M (R.2.1 t) v := by
      rcases (h.2 _ _).mp ⟨t, ht, rfl, rfl⟩ with ⟨j', a, b, -⟩ | ⟨i', a, b, -, -⟩
      · exact ⟨_, (hM.2 _ _).mpr (Or.inl ⟨j', by omega, b, rfl⟩)⟩
      · by_cases z : k_tl Y (R.2.1 t) = true
        · exact ⟨_, (hM.2 _ _).mpr (Or.inl ((k_mem_v hY).mpr ⟨z, rfl⟩))⟩
        · exact ⟨_, (hM.2 _ _).mpr (Or.inr ⟨⟨i', by omega, b, rfl⟩, k_tl_no.mp (by rwa [Bool.not_eq_true] at z)⟩)⟩
    obtain ⟨v, q, q1, q2, -⟩ := hm
    exact ⟨q, q1, rfl, q2⟩)
  rw [k_cnt_all (fun _ _ => rfl), k_cnt_all (fun _ _ => rfl)] at this
  exact this
theorem k_mgp_o {O Y R : KR} {i : Nat} (hO : k_srt O.1 O.2.1) (h : k_mgp O Y i 0 R) (hi : i < O.1) : k_mgp O Y (i + 1) 0 (k_wr R (O.2.1 i) (O.2.2 i)) := by
  refine ⟨k_wr_srt h.1 (hO.2 i hi), fun k v => ?_⟩
  rw [k_wr_mem h.1, h.2]
  constructor
  · rintro (⟨rfl, rfl⟩ | ⟨h1, ⟨j', a, -⟩ | ⟨i', a, b, c, d⟩⟩)
    · exact Or.inr ⟨i, by omega, rfl, rfl, fun j hj => absurd hj (Nat.not_lt_zero _)⟩
    · exact absurd a (Nat.not_lt_zero _)
    · exact Or.inr ⟨i', by omega, b, c, d⟩
  · rintro (⟨j', a, -⟩ | ⟨i', a, b, c, d⟩)
    · exact absurd a (Nat.not_lt_zero _)
    · by_cases z : i' = i
      · exact Or.inl ⟨by rw [← b, z], by rw [← c, z]⟩
      · refine Or.inr ⟨fun e => z ?_, Or.inr ⟨i', by omega, b, c, d⟩⟩
        exact k_srt_ne hO (by omega) hi (b.trans e)
theorem k_mgp_y {O Y R : KR} {j : Nat} (hY : k_srt Y.1 Y.2.1) (h : k_mgp O Y O.1 j R) (hj : j < Y.1) : k_mgp O Y O.1 (j + 1) (k_wr R (Y.2.1 j) (Y.2.2 j)) := by
  refine ⟨k_wr_srt h.1 (hY.2 j hj), fun k v => ?_⟩
  rw [k_wr_mem h.1, h.2]
  constructor
  · rintro (⟨rfl, rfl⟩ | ⟨h1, ⟨j', a, b, c⟩ | ⟨i', a, b, c, d⟩⟩)
    · exact Or.inl ⟨j, by omega, rfl, rfl⟩
    · exact Or.inl ⟨j', by omega, b, c⟩
    · refine Or.inr ⟨i', a, b, c, fun j' hj' e => ?_⟩
      by_cases z : j' = j
      · exact h1 (by rw [← e, z])
      · exact d j' (by omega) e
  · rintro (⟨j', a, b, c⟩ | ⟨i', a, b, c, d⟩)
    · by_cases z : j' = j
      · exact Or.inl ⟨by rw [← b, z], by rw [← c, z]⟩
      · refine Or.inr ⟨fun e => z ?_, Or.inl ⟨j', by omega, b, c⟩⟩
        exact k_srt_ne hY (by omega) hj (b.trans e)
    · refine Or.inr ⟨fun e => d j (by omega) e.symm, Or.inr ⟨i', a, b, c, fun j' hj' => d j' (by omega)⟩⟩
/-- the keys written one by one into run q; t of them done -/
theorem k_mw_loop {O Y M : KR} {q : Nat} (hN : 5000 ≤ N) (hO : k_srt O.1 O.2.1) (hY : k_srt Y.1 Y.2.1) (hO6 : O.1 ≤ 60) (hY6 : Y.1 ≤ 60) (hM : k_mgd O Y M) (hM6 : M.1 ≤ 60) (hq : q ≤ 6) {K : Int32 → XM → Option (Int32 × XM)} : ∀ (d fuel t : Nat) (f : XM) (V : KM) (R : KR), t + d = O.1 + Y.1 → d < fuel → k_mo f m V → V.1 1 6 = nI q → k_rr (V.1 1) q R → k_mgp O Y (min t O.1) (t - O.1) R →
    (∀ j, j < O.1 → V.1 6 (2 * j) = O.2.1 j ∧ V.1 6 (2 * j + 1) = O.2.2 j) → (∀ j, j < Y.1 → V.1 6 (2 * (O.1 + j)) = Y.2.1 j ∧ V.1 6 (2 * (O.1 + j) + 1) = Y.2.2 j) →
    ∃ (f' : XM) (V' : KM) (R' : KR), F_X6_merges_L111 N m (nI (O.1 + Y.1)) K fuel (nI t) f = K (nI (O.1 + Y.1)) f' ∧ k_mo f' m V' ∧ k_mx V V' [1] [] ∧ k_fr f f' m (m + 10) ∧ k_rr (V'.1 1) q R' ∧ k_mgp O Y O.1 Y.1 R' ∧ (∀ a, ¬ (9 + 121 * q ≤ a ∧ a < 130 + 121 * q) → V'.1 1 a = V.1 1 a) := by
  intro d
  induction d with
  | zero =>
    intro fuel t f V R h1 h2 h h6 hR hP hV1 hV2
    obtain ⟨u, rfl⟩ : ∃ u, fuel = u + 1 := ⟨fuel - 1, by omega⟩
    have e : t = O.1 + Y.1 := by omega
    subst e
    refine ⟨f, V, R, ?_, h, k_mx.rf, k_fr.rf, hR, ?_, fun _ _ => rfl⟩
    · rw [F_X6_merges_L111, if_pos (nI_le (Nat.le_refl _) (by omega))]
    · rw [Nat.min_eq_right (by omega), show O.1 + Y.1 - O.1 = Y.1 by omega] at hP
      exact hP
  | succ d ih =>
    intro fuel t f V R h1 h2 h h6 hR hP hV1 hV2
    obtain ⟨u, rfl⟩ : ∃ u, fuel = u + 1 := ⟨fuel - 1, by omega⟩
    have l6 : x_ald f (m + 1) 6 = some (nI q) := by rw [← h6]; exact k_ld1 h (i := 6) (by omega)
    -- the next key
    have key : ∃ x y, V.1 6 (2 * t) = x ∧ V.1 6 (2 * t + 1) = y ∧ k_mgp O Y (min (t + 1) O.1) (t + 1 - O.1) (k_wr R x y) := by
      by_cases g : t < O.1
      · refine ⟨_, _, rfl, rfl, ?_⟩
        rw [Nat.min_eq_left (by omega), show t - O.1 = 0 by omega] at hP
        rw [Nat.min_eq_left (by omega), show t + 1 - O.1 = 0 by omega, (hV1 t g).1, (hV1 t g).2]
        exact k_mgp_o hO hP g
      · obtain ⟨j, rfl⟩ : ∃ j, t = O.1 + j := ⟨t - O.1, by omega⟩
        refine ⟨_, _, rfl, rfl, ?_⟩
        rw [Nat.min_eq_right (by omega), show O.1 + j - O.1 = j by omega] at hP
        rw [Nat.min_eq_right (by omega), show O.1 + j + 1 - O.1 = j + 1 by omega, (hV2 j (by omega)).1, (hV2 j (by omega)).2]
        exact k_mgp_y hY hP (by omega)
    obtain ⟨x, y, e1, e2, hP'⟩ := key
    have hRn : R.1 ≤ 60 := Nat.le_trans (k_mgp_le (Nat.min_le_right _ _) (by omega) hO hY hP hM) hM6
    have hRn' : (k_wr R x y).1 ≤ 60 := Nat.le_trans (k_mgp_le (Nat.min_le_right _ _) (by omega) hO hY hP' hM) hM6
    have ho : k_pl R.1 R.2.1 x < R.1 ∨ R.1 < 60 := by
      rw [k_wr_n] at hRn'
      by_cases g : k_pl R.1 R.2.1 x < R.1
      · exact Or.inl g
      · rw [if_neg g] at hRn'; exact Or.inr (by omega)
    obtain ⟨f1, V1, a1, a2, a3, a4, a5, a6⟩ := k_writes (N := N) hN h hq hR hP.1 hRn y ho
    have em : V1.1 6 = V.1 6 := a3.1 6 (by simp)
    obtain ⟨f', V', R', r1, r2, r3, r4, r5, r6, r7⟩ := ih u (t + 1) f1 V1 _ (by omega) (by omega) a2 (by rw [a6 6 (by omega)]; exact h6) a5 hP' (by rw [em]; exact hV1) (by rw [em]; exact hV2)
    refine ⟨f', V', R', ?_, r2, a3.tr r3, a4.tr r4, r5, r6, fun a ha => (r7 a ha).trans (a6 a ha)⟩
    have q1 : x_ald f (m + 6) (2 * nI t) = some x := by rw [k_ix2, ← e1]; exact h.ld (by omega) (by omega) (by show _ < 240; omega)
    have q2 : x_ald f (m + 6) (2 * nI t + 1) = some y := by rw [k_ix2, k_add1, ← e2]; exact h.ld (by omega) (by omega) (by show _ < 240; omega)
    rw [F_X6_merges_L111, if_neg (nI_ge (by omega) (by omega))]
    simp only [h.r0, l6, h.r6, q1, q2, h.cv, a1, Option.bind_some, k_add1]
    exact r1
theorem k_mmerges (hN : 5000 ≤ N) (h : k_mo f m V) (hs : k_ms (V.1 1) S c) (hc2 : 2 ≤ S.1) {M : KR} (hM : k_mgd (S.2.1 S.1) (S.2.1 (S.1 - 1)) M) (hM6 : M.1 ≤ 60) : ∃ (f' : XM) (V' : KM), F_X6_merges N f m = some (nI M.1, f') ∧ k_mo f' m V' ∧ k_mx V V' [1, 6] [] ∧ k_fr f f' m (m + 10) ∧ k_ms (V'.1 1) (k_smg S M) c := by
  obtain ⟨q, hq⟩ : ∃ q, S.1 = q + 1 := ⟨S.1 - 1, by omega⟩
  have h6 := hs.1.1
  have hM' : k_mgd (S.2.1 (q + 1)) (S.2.1 q) M := by
    rw [hq] at hM
    exact hM
  have hz := hs.sz (r := q) (by omega)
  have hz1 := hs.sz (r := q + 1) (by omega)
  have sO := hs.1.2.1 (q + 1) (by omega)
  have sY := hs.1.2.1 q (by omega)
  have em : nI S.1 - 1 = nI q := by rw [hq]; exact nI_pred q
  obtain ⟨u, hu⟩ : ∃ u, N = u + 1 + 1 + 1 := ⟨N - 3, by omega⟩
  -- the two runs copied out
  obtain ⟨f1, V1, a1, a2, a3, a4, a5, a6⟩ := k_mc_loop (N := N) (m := m) (r := q + 1) (R := S.2.1 (q + 1)) (c1 := nI S.1) (by omega) hz1 (K := fun y2_15 y4_15 g15 => F_X6_merges_L12 N m (nI S.1) (fun y2_16 y3_16 g16 =>
  (x_getr g16 6 m 0).bind fun v17 =>
  Option.bind v17 fun a18 =>
  (x_ald g16 a18 6).bind fun v19 =>
  (x_ast g16 a18 6 (v19 - 1)).bind fun f20 =>
  (x_getr f20 6 m 0).bind fun v21 =>
  (x_getr f20 6 m 0).bind fun v22 =>
  Option.bind v22 fun a23 =>
  (x_ald f20 a23 6).bind fun v24 =>
  Option.bind v21 fun a25 =>
  (x_ast f20 a25 (9 + (121 * v24)) 0).bind fun f26 =>
  F_X6_merges_L111 N m y2_16 (fun y3_38 g38 =>
  (x_getr g38 6 m 0).bind fun v39 =>
  Option.bind v39 fun a40 =>
  (x_ald g38 a40 6).bind fun v41 =>
  (x_cv g38 6 m (F_X6_size N g38 m v41)).bind fun z42 =>
  some (z42, g38)) N 0 f26) (u + 1 + 1) y2_15 (nI (q + 1) + (-1)) g15) (S.2.1 (q + 1)).1 N 0 0 f V (by omega) (by omega) (by omega) h (hs.rr (by omega))
  rw [Nat.zero_add] at a1
  have g1 : V1.1 1 = V.1 1 := a3.1 1 (by simp)
  obtain ⟨f2, V2, b1, b2, b3, b4, b5, b6⟩ := k_mc_loop (N := N) (m := m) (r := q) (R := S.2.1 q) (c1 := nI S.1) (by omega) hz (K := fun y2_15 y4_15 g15 => F_X6_merges_L12 N m (nI S.1) (fun y2_16 y3_16 g16 =>
  (x_getr g16 6 m 0).bind fun v17 =>
  Option.bind v17 fun a18 =>
  (x_ald g16 a18 6).bind fun v19 =>
  (x_ast g16 a18 6 (v19 - 1)).bind fun f20 =>
  (x_getr f20 6 m 0).bind fun v21 =>
  (x_getr f20 6 m 0).bind fun v22 =>
  Option.bind v22 fun a23 =>
  (x_ald f20 a23 6).bind fun v24 =>
  Option.bind v21 fun a25 =>
  (x_ast f20 a25 (9 + (121 * v24)) 0).bind fun f26 =>
  F_X6_merges_L111 N m y2_16 (fun y3_38 g38 =>
  (x_getr g38 6 m 0).bind fun v39 =>
  Option.bind v39 fun a40 =>
  (x_ald g38 a40 6).bind fun v41 =>
  (x_cv g38 6 m (F_X6_size N g38 m v41)).bind fun z42 =>
  some (z42, g38)) N 0 f26) (u + 1) y2_15 (nI q + (-1)) g15) (S.2.1 q).1 N 0 (S.2.1 (q + 1)).1 f1 V1 (by omega) (by omega) (by omega) a2 (by rw [g1]; exact hs.rr (by omega))
  have g2 : V2.1 1 = V.1 1 := (b3.1 1 (by simp)).trans g1
  -- the closed count, the run emptied
  obtain ⟨f3, c1, c2, c3⟩ := b2.st (a := 1) (i := 6) (by omega) (by omega) (by show _ < 6696; omega) (nI q)
  have e6 : (k_sA V2 1 6 (nI q)).1 1 6 = nI q := by rw [k_sA_s, k_upd_s]
  obtain ⟨f4, d1, d2, d3⟩ := c2.st (a := 1) (i := 9 + 121 * q) (by omega) (by omega) (by show _ < 6696; omega) 0
  have hW : ∀ a, a ≠ 6 → a ≠ 9 + 121 * q → (k_sA (k_sA V2 1 6 (nI q)) 1 (9 + 121 * q) 0).1 1 a = V.1 1 a := fun a y1 y2 => by rw [k_sA_s, k_upd_n y2, k_sA_s, k_upd_n y1, g2]
  have hM6' : (k_sA (k_sA V2 1 6 (nI q)) 1 (9 + 121 * q) 0).1 6 = V2.1 6 := by rw [k_sA_n (by omega), k_sA_n (by omega)]
  obtain ⟨f5, V5, R5, w1, w2, w3, w4, w5, w6, w7⟩ := k_mw_loop (N := N) (m := m) (O := S.2.1 (q + 1)) (Y := S.2.1 q) (M := M) (q := q) hN sO sY hz1 hz hM' hM6 (by omega) (K := fun y3_38 g38 =>
  (x_getr g38 6 m 0).bind fun v39 =>
  Option.bind v39 fun a40 =>
  (x_ald g38 a40 6).bind fun v41 =>
  (x_cv g38 6 m (F_X6_size N g38 m v41)).bind fun z42 =>
  some (z42, g38)) ((S.2.1 (q + 1)).1 + (S.2.1 q).1) N 0 f4 _ k_R0 (by omega) (by omega) d2 (by rw [k_sA_s, k_upd_n (by omega)]; exact e6) ⟨by rw [k_sA_s, k_upd_s]; rfl, fun i hi => absurd hi (Nat.not_lt_zero _)⟩
    ⟨⟨fun i j _ hj => absurd hj (Nat.not_lt_zero _), fun i hi => absurd hi (Nat.not_lt_zero _)⟩, fun k v => by
      rw [Nat.min_eq_left (Nat.zero_le _), show 0 - (S.2.1 (q + 1)).1 = 0 by omega]
      constructor
      · rintro ⟨i, hi, -⟩; exact absurd hi (Nat.not_lt_zero _)
      · rintro (⟨i, hi, -⟩ | ⟨i, hi, -⟩)
        · exact absurd hi (Nat.not_lt_zero _)
        · exact absurd hi (Nat.not_lt_zero _)⟩
    (fun j hj => by
      rw [hM6', b5 _ (by omega), b5 _ (by omega)]
      have := a6 j (Nat.zero_le _) hj
      rw [Nat.sub_zero, Nat.zero_add] at this
      exact this) (fun j hj => by
      rw [hM6']
      have := b6 j (Nat.zero_le _) hj
      rw [Nat.sub_zero] at this
      exact this)
  have hR5 : k_mgd (S.2.1 (q + 1)) (S.2.1 q) R5 := ⟨w6.1, fun k v => by
    rw [w6.2]
    constructor
    · rintro (⟨j, a, b, c⟩ | ⟨i, a, b, c, d⟩)
      · exact Or.inl ⟨j, a, b, c⟩
      · exact Or.inr ⟨⟨i, a, b, c⟩, d⟩
    · rintro (⟨j, a, b, c⟩ | ⟨⟨i, a, b, c⟩, d⟩)
      · exact Or.inl ⟨j, a, b, c⟩
      · exact Or.inr ⟨i, a, b, c, d⟩⟩
  obtain ⟨n1, n2⟩ := k_mgd_uniq hR5 hM'
  have hrM : k_rr (V5.1 1) q M := ⟨by rw [w5.1, n1], fun i hi => by rw [(w5.2 i (by omega)).1, (w5.2 i (by omega)).2]; exact n2 i (by omega)⟩
  have e65 : V5.1 1 6 = nI q := by rw [w7 6 (by omega), k_sA_s, k_upd_n (by omega)]; exact e6
  refine ⟨f5, V5, ?_, w2, (((((a3.wd (by simp) (by simp)).tr (b3.wd (by simp) (by simp))).tr (k_sA_mx (by simp))).tr (k_sA_mx (by simp))).tr (w3.wd (by simp) (by simp))), (((a4.tr b4).tr c3).tr d3).tr w4, ?_⟩
  · have l6 : x_ald f2 (m + 1) 6 = some (nI S.1) := by rw [← show V2.1 1 6 = nI S.1 by rw [g2]; exact hs.2.2.1.2.2.2.2.1]; exact k_ld1 b2 (i := 6) (by omega)
    have l63 : x_ald f3 (m + 1) 6 = some (nI q) := by rw [← e6]; exact k_ld1 c2 (i := 6) (by omega)
    have l65 : x_ald f5 (m + 1) 6 = some (nI q) := by rw [← e65]; exact k_ld1 w2 (i := 6) (by omega)
    have c1' : x_ast f2 (m + 1) 6 (nI q) = some f3 := c1
    have d1' : x_ast f3 (m + 1) (9 + 121 * nI q) 0 = some f4 := by rw [k_ixs]; exact d1
    simp only [F_X6_merges, h.r0, k_l6 h hs, Option.bind_some]
    conv => lhs; arg 5; rw [hu]
    rw [F_X6_merges_L12, em, if_neg (nI_nlt (by omega) (by omega))]
    rw [show nI S.1 = nI (q + 1) from congrArg nI hq] at *
    refine (show F_X6_merges_L22 N m (nI (q + 1)) (nI (q + 1)) _ N 0 0 f = _ from a1).trans ?_
    rw [F_X6_merges_L12, em, show nI (q + 1) + (-1) = nI q from pk_m1 q, if_neg (nI_nlt (Nat.le_refl _) (by omega))]
    refine (show F_X6_merges_L22 N m (nI (q + 1)) (nI q) _ N _ 0 f1 = _ from b1).trans ?_
    rw [F_X6_merges_L12, em, if_pos (by
      rw [k_m1, k_i_lt, show (nI q - 1).toInt = (q : Int) - 1 from pk_sub_toInt (a := q) (b := 1) (by omega) (by omega), nI_toInt (by omega)]
      omega)]
    simp only [b2.r0, l6, em, c1', c2.r0, l63, d1', Option.bind_some]
    refine (show F_X6_merges_L111 N m _ _ N 0 f4 = _ from w1).trans ?_
    simp only [w2.r0, l65, w2.cv, k_size' w2 (r := q) (by omega) hrM, Option.bind_some]
  · have hcc : S.1 - 1 = q := by omega
    refine hs.runs (k_ws_mg hs.1 hc2 hM.1 hM6) rfl (by show V5.1 1 6 = nI (S.1 - 1); rw [hcc]; exact e65) (fun a ha => ?_) (fun r hr => ?_) (Nat.le_refl _) hs.2.1 ?_
    · rw [w7 a (by omega), hW a (by omega) (by omega)]
    · have hr' : r ≤ S.1 - 1 := hr
      show k_rr _ r (if r = S.1 - 1 then M else S.2.1 r)
      by_cases z : r = S.1 - 1
      · rw [if_pos z, z, hcc]; exact hrM
      · rw [if_neg z]
        have hzr := hs.sz (r := r) (by omega)
        have hrr := hs.rr (r := r) (by omega)
        exact ⟨by rw [w7 _ (by omega), hW _ (by omega) (by omega)]; exact hrr.1, fun i hi => ⟨by rw [w7 _ (by omega), hW _ (by omega) (by omega)]; exact (hrr.2 i hi).1, by rw [w7 _ (by omega), hW _ (by omega) (by omega)]; exact (hrr.2 i hi).2⟩⟩
    · have hn := k_mgd_n sO sY hM'
      have hcl := k_cnt_le (fun j => !k_tl (S.2.1 (q + 1)) ((S.2.1 q).2.1 j)) (S.2.1 q).1
      have := k_told_mg (S := S) (M := M) hc2 (by rw [hq, show q + 1 - 1 = q from rfl]; omega)
      have := hs.2.2.2.2.2.2.2.2.2.2
      omega
end KMG
