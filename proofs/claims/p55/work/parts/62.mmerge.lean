/-! The reference: the two oldest runs merged. -/
theorem k_wr_mem {R : KR} (hs : k_srt R.1 R.2.1) {k v k' v' : Int32} : k_mem (k_wr R k v) k' v' ↔ (k' = k ∧ v' = v) ∨ (k' ≠ k ∧ k_mem R k' v') := by
  unfold k_wr
  by_cases g : k_pl R.1 R.2.1 k < R.1
  · rw [if_pos g]
    constructor
    · rintro ⟨i, hi, e1, e2⟩
      have e1' : R.2.1 i = k' := e1
      have e2' : upd R.2.2 (k_pl R.1 R.2.1 k) v i = v' := e2
      by_cases z : i = k_pl R.1 R.2.1 k
      · rw [z, k_upd_s] at e2'
        rw [z, k_pl_at g] at e1'
        exact Or.inl ⟨e1'.symm, e2'.symm⟩
      · rw [k_upd_n z] at e2'
        refine Or.inr ⟨fun e => z ?_, i, hi, e1', e2'⟩
        rw [e] at e1'
        exact k_srt_ne hs hi g (e1'.trans (k_pl_at g).symm)
    · rintro (⟨rfl, rfl⟩ | ⟨h1, i, hi, e1, e2⟩)
      · exact ⟨_, g, k_pl_at g, k_upd_s⟩
      · refine ⟨i, hi, e1, ?_⟩
        show upd R.2.2 _ v i = v'
        rw [k_upd_n (fun z => h1 (by rw [← e1, z, k_pl_at g]))]
        exact e2
  · rw [if_neg g]
    have hr := k_rk_le R.1 R.2.1 k
    constructor
    · rintro ⟨i, hi, e1, e2⟩
      have hi' : i < R.1 + 1 := hi
      have e1' : k_ins (k_rk R.1 R.2.1 k) k R.2.1 i = k' := e1
      have e2' : k_ins (k_rk R.1 R.2.1 k) v R.2.2 i = v' := e2
      rcases Nat.lt_trichotomy i (k_rk R.1 R.2.1 k) with y | y | y
      · rw [k_ins_lo y] at e1' e2'
        exact Or.inr ⟨fun e => k_pl_no g (show i < R.1 by omega) (e1'.trans e), i, by omega, e1', e2'⟩
      · rw [y, k_ins_at] at e1' e2'
        exact Or.inl ⟨e1'.symm, e2'.symm⟩
      · rw [k_ins_hi y] at e1' e2'
        exact Or.inr ⟨fun e => k_pl_no g (show i - 1 < R.1 by omega) (e1'.trans e), i - 1, by omega, e1', e2'⟩
    · rintro (⟨rfl, rfl⟩ | ⟨h1, i, hi, e1, e2⟩)
      · exact ⟨k_rk R.1 R.2.1 k', Nat.lt_succ_of_le hr, k_ins_at, k_ins_at⟩
      · rcases Nat.lt_or_ge i (k_rk R.1 R.2.1 k) with y | y
        · exact ⟨i, Nat.lt_succ_of_lt hi, (k_ins_lo y).trans e1, (k_ins_lo y).trans e2⟩
        · exact ⟨i + 1, Nat.succ_lt_succ hi, (k_ins_hi (by omega)).trans e1, (k_ins_hi (by omega)).trans e2⟩
noncomputable def k_mrg (O Y : KR) : KR := @Classical.epsilon KR ⟨k_R0⟩ (fun M => k_mgd O Y M)
theorem k_mgd_uniq {O Y Q R : KR} (hQ : k_mgd O Y Q) (hR : k_mgd O Y R) : Q.1 = R.1 ∧ ∀ i, i < Q.1 → Q.2.1 i = R.2.1 i ∧ Q.2.2 i = R.2.2 i := by
  have key : ∀ {A B : KR}, k_mgd O Y A → k_mgd O Y B → ∀ x, (∃ i, i < A.1 ∧ A.2.1 i = x) → (∃ i, i < B.1 ∧ B.2.1 i = x) := fun hA hB x ⟨i, hi, e⟩ => by
    obtain ⟨j, hj, e1, -⟩ := (hB.2 x _).mpr ((hA.2 x (_ : Int32)).mp ⟨i, hi, e, rfl⟩)
    exact ⟨j, hj, e1⟩
  obtain ⟨e1, e2⟩ := k_srt_uniq hQ.1 hR.1 (fun x => ⟨key hQ hR x, key hR hQ x⟩)
  refine ⟨e1, fun i hi => ⟨e2 i hi, ?_⟩⟩
  obtain ⟨j, hj, f1, f2⟩ := (hR.2 (Q.2.1 i) (Q.2.2 i)).mpr ((hQ.2 _ _).mp ⟨i, hi, rfl, rfl⟩)
  have : j = i := k_srt_ne hR.1 hj (by omega) (f1.trans (e2 i hi))
  rw [← f2, this]
theorem k_mrg_of {O Y M : KR} (h : k_mgd O Y M) : k_mgd O Y (k_mrg O Y) ∧ M.1 = (k_mrg O Y).1 ∧ ∀ i, i < M.1 → M.2.1 i = (k_mrg O Y).2.1 i ∧ M.2.2 i = (k_mrg O Y).2.2 i := by
  have e : k_mgd O Y (k_mrg O Y) := @Classical.epsilon_spec KR (fun M => k_mgd O Y M) ⟨M, h⟩
  exact ⟨e, k_mgd_uniq h e⟩
/-- how many keys a merged run has -/
theorem k_mgd_n {O Y M : KR} (hO : k_srt O.1 O.2.1) (hY : k_srt Y.1 Y.2.1) (h : k_mgd O Y M) : M.1 = O.1 + k_cnt (fun j => !k_tl O (Y.2.1 j)) Y.1 := by
  have hmem : ∀ x, (∃ i, i < M.1 ∧ M.2.1 i = x) ↔ k_tl O x = true ∨ k_tl Y x = true := fun x => by
    constructor
    · rintro ⟨i, hi, rfl⟩
      rcases (h.2 _ _).mp ⟨i, hi, rfl, rfl⟩ with y | y
      · exact Or.inr (k_mem_tl y)
      · exact Or.inl (k_mem_tl y.1)
    · intro y
      by_cases z : k_tl Y x = true
      · obtain ⟨i, hi, e1, -⟩ := (h.2 x _).mpr (Or.inl ((k_mem_v hY).mpr ⟨z, rfl⟩))
        exact ⟨i, hi, e1⟩
      · rcases y with y | y
        · obtain ⟨i, hi, e1, -⟩ := (h.2 x _).mpr (Or.inr ⟨(k_mem_v hO).mpr ⟨y, rfl⟩, k_tl_no.mp (by rwa [Bool.not_eq_true] at z)⟩)
          exact ⟨i, hi, e1⟩
        · exact absurd y z
  have e1 : k_cnt (fun i => k_tl O (M.2.1 i)) M.1 = O.1 := by
    rw [← k_cnt_all (p := fun _ => true) (n := O.1) (fun _ _ => rfl)]
    refine (k_cnt_eqv (a := O.2.1) (b := M.2.1) (k_srt_dn hO) (k_srt_dn h.1) (fun j hj _ => ?_) (fun i hi hp => ?_)).symm
    · have ht : k_tl O (O.2.1 j) = true := decide_eq_true (k_pl_in hj rfl)
      obtain ⟨i, hi, e⟩ := (hmem _).mpr (Or.inl ht)
      exact ⟨i, hi, by rw [e]; exact ht, e⟩
    · have := of_decide_eq_true hp
      exact ⟨_, this, rfl, k_pl_at this⟩
  have e2 : k_cnt (fun i => !k_tl O (M.2.1 i)) M.1 = k_cnt (fun j => !k_tl O (Y.2.1 j)) Y.1 := by
    refine k_cnt_eqv (a := M.2.1) (b := Y.2.1) (k_srt_dn h.1) (k_srt_dn hY) (fun i hi hq => ?_) (fun j hj hp => ?_)
    · rcases (hmem (M.2.1 i)).mp ⟨i, hi, rfl⟩ with y | y
      · rw [y] at hq; exact absurd hq (by decide)
      · have := of_decide_eq_true y
        exact ⟨_, this, by rw [k_pl_at this]; exact hq, k_pl_at this⟩
    · obtain ⟨i, hi, e⟩ := (hmem (Y.2.1 j)).mpr (Or.inr (decide_eq_true (k_pl_in hj rfl)))
      exact ⟨i, hi, by rw [e]; exact hp, e⟩
  have e3 := k_cnt_or (p := fun i => k_tl O (M.2.1 i)) (q := fun i => !k_tl O (M.2.1 i)) (n := M.1) (fun k _ => by cases k_tl O (M.2.1 k) <;> simp)
  rw [k_cnt_all (fun k _ => by cases k_tl O (M.2.1 k) <;> rfl), e1, e2] at e3
  exact e3
section KMG
variable {wz : Nat}
variable {N : Nat} {f : XM} {m c : Nat} {S : KS}
/-- what a run tells of, behind i keys of the older and j of the younger one -/
def k_mgp (O Y : KR) (i j : Nat) (R : KR) : Prop := k_srt R.1 R.2.1 ∧ ∀ k v, k_mem R k v ↔ (∃ j', j' < j ∧ Y.2.1 j' = k ∧ Y.2.2 j' = v) ∨ (∃ i', i' < i ∧ O.2.1 i' = k ∧ O.2.2 i' = v ∧ ∀ j', j' < j → Y.2.1 j' ≠ k)
theorem k_mgp_le {O Y R M : KR} {i j : Nat} (hi : i ≤ O.1) (hj : j ≤ Y.1) (hO : k_srt O.1 O.2.1) (hY : k_srt Y.1 Y.2.1) (h : k_mgp O Y i j R) (hM : k_mgd O Y M) : R.1 ≤ M.1 := by
  have := k_cnt_rel (q := fun _ => true) (p := fun _ => true) (a := R.2.1) (b := M.2.1) (m := M.1) (n := R.1) (k_srt_dn h.1) (fun t ht _ => by
    have hm : ∃ v, k_mem M (R.2.1 t) v := by
      rcases (h.2 _ _).mp ⟨t, ht, rfl, rfl⟩ with ⟨j', a, b, -⟩ | ⟨i', a, b, -, -⟩
      · exact ⟨_, (hM.2 _ _).mpr (Or.inl ⟨j', by omega, b, rfl⟩)⟩
      · by_cases z : k_tl Y (R.2.1 t) = true
        · exact ⟨_, (hM.2 _ _).mpr (Or.inl ((k_mem_v hY).mpr ⟨z, rfl⟩))⟩
        · exact ⟨_, (hM.2 _ _).mpr (Or.inr ⟨⟨i', by omega, b, rfl⟩, k_tl_no.mp (by rwa [Bool.not_eq_true] at z)⟩)⟩
    obtain ⟨v, q, q1, q2, -⟩ := hm
    exact ⟨q, q1, rfl, q2⟩)
  rw [k_cnt_all (fun _ _ => rfl), k_cnt_all (fun _ _ => rfl)] at this
  exact this
theorem k_mgp_o {O Y R : KR} {i : Nat} (hO : k_srt O.1 O.2.1) (h : k_mgp O Y i 0 R) (hi : i < O.1) : k_mgp O Y (i + 1) 0 (k_wr R (O.2.1 i) (O.2.2 i)) := by
  refine ⟨k_wr_srt h.1 (hO.2 i hi), fun k v => ?_⟩
  rw [k_wr_mem h.1, h.2]
  constructor
  · rintro (⟨rfl, rfl⟩ | ⟨h1, ⟨j', a, -⟩ | ⟨i', a, b, c, d⟩⟩)
    · exact Or.inr ⟨i, by omega, rfl, rfl, fun j hj => absurd hj (Nat.not_lt_zero _)⟩
    · exact absurd a (Nat.not_lt_zero _)
    · exact Or.inr ⟨i', by omega, b, c, d⟩
  · rintro (⟨j', a, -⟩ | ⟨i', a, b, c, d⟩)
    · exact absurd a (Nat.not_lt_zero _)
    · by_cases z : i' = i
      · exact Or.inl ⟨by rw [← b, z], by rw [← c, z]⟩
      · refine Or.inr ⟨fun e => z ?_, Or.inr ⟨i', by omega, b, c, d⟩⟩
        exact k_srt_ne hO (by omega) hi (b.trans e)
theorem k_mgp_y {O Y R : KR} {j : Nat} (hY : k_srt Y.1 Y.2.1) (h : k_mgp O Y O.1 j R) (hj : j < Y.1) : k_mgp O Y O.1 (j + 1) (k_wr R (Y.2.1 j) (Y.2.2 j)) := by
  refine ⟨k_wr_srt h.1 (hY.2 j hj), fun k v => ?_⟩
  rw [k_wr_mem h.1, h.2]
  constructor
  · rintro (⟨rfl, rfl⟩ | ⟨h1, ⟨j', a, b, c⟩ | ⟨i', a, b, c, d⟩⟩)
    · exact Or.inl ⟨j, by omega, rfl, rfl⟩
    · exact Or.inl ⟨j', by omega, b, c⟩
    · refine Or.inr ⟨i', a, b, c, fun j' hj' e => ?_⟩
      by_cases z : j' = j
      · exact h1 (by rw [← e, z])
      · exact d j' (by omega) e
  · rintro (⟨j', a, b, c⟩ | ⟨i', a, b, c, d⟩)
    · by_cases z : j' = j
      · exact Or.inl ⟨by rw [← b, z], by rw [← c, z]⟩
      · refine Or.inr ⟨fun e => z ?_, Or.inl ⟨j', by omega, b, c⟩⟩
        exact k_srt_ne hY (by omega) hj (b.trans e)
    · refine Or.inr ⟨fun e => d j (by omega) e.symm, Or.inr ⟨i', a, b, c, fun j' hj' => d j' (by omega)⟩⟩
end KMG

