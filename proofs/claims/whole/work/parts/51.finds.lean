/-! The reference: all keys that are found. -/
def k_any (S : KS) (y : Int32) : Prop := (∃ r, r ≤ S.1 ∧ k_tl (S.2.1 r) y = true) ∨ k_pl S.2.2.1.1.1 S.2.2.1.1.2.1 y < S.2.2.1.1.1
def k_nxp (S : KS) (k : Int32) (P : Int32 → Prop) (z : Int32) : Prop := (∀ y, P y → k.toInt < y.toInt → z.toInt ≤ y.toInt) ∧ (z = 10000 ∨ (k_any S z ∧ k.toInt < z.toInt)) ∧ z.toInt ≤ 10000
theorem k_any_r {S : KS} (hw : k_ws S) {y : Int32} (h : k_any S y) : 0 ≤ y.toInt ∧ y.toInt < 10000 := by
  rcases h with ⟨r, hr, h⟩ | h
  · obtain ⟨i, hi, e⟩ := k_pl_iff.mp (of_decide_eq_true h)
    rw [← e]; exact (hw.2.1 r hr).2 i hi
  · obtain ⟨i, hi, e⟩ := k_pl_iff.mp h
    rw [← e]; exact hw.2.2.2.2.1.1.2 i hi
theorem k_val_any {S : KS} {y : Int32} (h : k_val S y ≠ -1) : k_any S y := by
  unfold k_val at h
  by_cases g : k_run S y ≤ S.1
  · exact Or.inl ⟨_, g, k_run_yes g⟩
  · rw [if_neg g] at h
    by_cases g2 : k_pl S.2.2.1.1.1 S.2.2.1.1.2.1 y < S.2.2.1.1.1
    · exact Or.inr g2
    · rw [if_neg g2] at h
      exact absurd rfl h
/-- one more key is looked at -/
theorem k_nxp_step {S : KS} {k z y : Int32} {P : Int32 → Prop} (h : k_nxp S k P z) (hy : k_any S y) (hr : y.toInt < 10000) : k_nxp S k (fun w => P w ∨ w = y) (if y ≤ k then z else if z ≤ y then z else y) := by
  obtain ⟨h1, h2, h3⟩ := h
  by_cases g1 : y ≤ k
  · rw [if_pos g1]
    refine ⟨fun w hw hk => ?_, h2, h3⟩
    rcases hw with hw | rfl
    · exact h1 w hw hk
    · rw [k_i_le] at g1; omega
  · rw [if_neg g1]
    rw [k_i_le] at g1
    by_cases g2 : z ≤ y
    · rw [if_pos g2]
      refine ⟨fun w hw hk => ?_, h2, h3⟩
      rcases hw with hw | rfl
      · exact h1 w hw hk
      · rw [k_i_le] at g2; exact g2
    · rw [if_neg g2]
      rw [k_i_le] at g2
      refine ⟨fun w hw hk => ?_, Or.inr ⟨hy, by omega⟩, by omega⟩
      rcases hw with hw | rfl
      · have := h1 w hw hk; omega
      · exact Int.le_refl _
theorem k_nxp_cong {S : KS} {k z : Int32} {P P' : Int32 → Prop} (h : k_nxp S k P z) (e : ∀ w, P' w → P w) : k_nxp S k P' z := ⟨fun w hw hk => h.1 w (e w hw) hk, h.2⟩
section KFD
variable {N : Nat} {f : XM} {m c : Nat} {V : KM} {S : KS}
theorem k_nt_run (h : k_mo f m V) (hs : k_ms (V.1 1) S c) {r : Nat} (hr : r ≤ S.1) (k : Int32) {K : Int32 → Int32 → Option Int32} : ∀ (d fuel i : Nat) (z : Int32) (P : Int32 → Prop), i + d = (S.2.1 r).1 → d < fuel → k_nxp S k P z →
    ∃ z', F_X6_nextTold_L20 N f m k (nI r) K fuel z (nI i) = K z' (nI (S.2.1 r).1) ∧ k_nxp S k (fun w => P w ∨ ∃ j, i ≤ j ∧ j < (S.2.1 r).1 ∧ (S.2.1 r).2.1 j = w) z' := by
  have hz := hs.sz hr
  intro d
  induction d with
  | zero =>
    intro fuel i z P h1 h2 h3
    obtain ⟨u, rfl⟩ : ∃ u, fuel = u + 1 := ⟨fuel - 1, by omega⟩
    refine ⟨z, ?_, k_nxp_cong h3 (fun w hw => ?_)⟩
    · simp only [F_X6_nextTold_L20, h.cv, k_size h hs hr, Option.bind_some]
      rw [if_pos (nI_le (by omega) (by omega)), show i = (S.2.1 r).1 by omega]
    · rcases hw with hw | ⟨j, a, b, -⟩
      · exact hw
      · omega
  | succ d ih =>
    intro fuel i z P h1 h2 h3
    obtain ⟨u, rfl⟩ : ∃ u, fuel = u + 1 := ⟨fuel - 1, by omega⟩
    have hk := (hs.1.2.1 r hr).2 i (by omega)
    have hst := k_nxp_step (y := (S.2.1 r).2.1 i) h3 (Or.inl ⟨r, hr, decide_eq_true (k_pl_in (show i < (S.2.1 r).1 by omega) rfl)⟩) hk.2
    obtain ⟨z', r1, r2⟩ := ih u (i + 1) _ _ (by omega) (by omega) hst
    refine ⟨z', ?_, k_nxp_cong r2 (fun w hw => ?_)⟩
    · simp only [F_X6_nextTold_L20, h.cv, k_size h hs hr, k_key h hs hr (p := i) (by omega), Option.bind_some, k_add1]
      rw [if_neg (nI_ge (by omega) (by omega))]
      by_cases g1 : (S.2.1 r).2.1 i ≤ k
      · rw [if_pos g1] at r1 ⊢
        exact r1
      · rw [if_neg g1] at r1 ⊢
        by_cases g2 : z ≤ (S.2.1 r).2.1 i
        · rw [if_pos g2] at r1 ⊢
          exact r1
        · rw [if_neg g2] at r1 ⊢
          exact r1
    · rcases hw with hw | ⟨j, a, b, e⟩
      · exact Or.inl (Or.inl hw)
      · by_cases y : j = i
        · exact Or.inl (Or.inr (by rw [← e, y]))
        · exact Or.inr ⟨j, by omega, b, e⟩
theorem k_nt_runs (hN : 1000 ≤ N) (h : k_mo f m V) (hs : k_ms (V.1 1) S c) (k : Int32) {K : Int32 → Int32 → Option Int32} : ∀ (d fuel i : Nat) (z : Int32) (P : Int32 → Prop), i + d = S.1 + 1 → d < fuel → k_nxp S k P z →
    ∃ z', F_X6_nextTold_L5 N f m k K fuel z (nI i) = K z' (nI (S.1 + 1)) ∧ k_nxp S k (fun w => P w ∨ ∃ r, i ≤ r ∧ r ≤ S.1 ∧ k_tl (S.2.1 r) w = true) z' := by
  have h6 := hs.1.1
  intro d
  induction d with
  | zero =>
    intro fuel i z P h1 h2 h3
    obtain ⟨u, rfl⟩ : ∃ u, fuel = u + 1 := ⟨fuel - 1, by omega⟩
    refine ⟨z, ?_, k_nxp_cong h3 (fun w hw => ?_)⟩
    · simp only [F_X6_nextTold_L5, h.r0, k_l6 h hs, Option.bind_some]
      rw [if_pos (nI_lt (by omega) (by omega)), show i = S.1 + 1 by omega]
    · rcases hw with hw | ⟨r, a, b, -⟩
      · exact hw
      · omega
  | succ d ih =>
    intro fuel i z P h1 h2 h3
    obtain ⟨u, rfl⟩ : ∃ u, fuel = u + 1 := ⟨fuel - 1, by omega⟩
    have hz := hs.sz (r := i) (by omega)
    obtain ⟨z1, q1, q2⟩ := k_nt_run (N := N) h hs (r := i) (by omega) k (K := fun y3_10 y5_10 => F_X6_nextTold_L5 N f m k K u y3_10 (nI i + 1)) (S.2.1 i).1 N 0 z P (by omega) (by omega) h3
    obtain ⟨z', r1, r2⟩ := ih u (i + 1) z1 _ (by omega) (by omega) q2
    refine ⟨z', ?_, k_nxp_cong r2 (fun w hw => ?_)⟩
    · simp only [F_X6_nextTold_L5, h.r0, k_l6 h hs, Option.bind_some]
      rw [if_neg (nI_nlt (by omega) (by omega))]
      refine Eq.trans q1 ?_
      rw [k_add1]
      exact r1
    · rcases hw with hw | ⟨r, a, b, e⟩
      · exact Or.inl (Or.inl hw)
      · by_cases y : r = i
        · obtain ⟨j, hj, ej⟩ := k_pl_iff.mp (of_decide_eq_true e)
          rw [y] at hj ej
          exact Or.inl (Or.inr ⟨j, Nat.zero_le _, hj, ej⟩)
        · exact Or.inr ⟨r, by omega, b, e⟩
theorem k_nt_ents (h : k_mo f m V) (hs : k_ms (V.1 1) S c) (k : Int32) : ∀ (d fuel i : Nat) (z : Int32) (P : Int32 → Prop), i + d = S.2.2.1.1.1 → d < fuel → k_nxp S k P z →
    ∃ z', F_X6_nextTold_L83 N f m k (fun y _ => some y) fuel z (nI i) = some z' ∧ k_nxp S k (fun w => P w ∨ ∃ j, i ≤ j ∧ j < S.2.2.1.1.1 ∧ k_eK (V.1 1) j = w) z' := by
  have hn := hs.wt.2.2.1
  have hme := hs.2.2.2.2.2.2.2.1
  intro d
  induction d with
  | zero =>
    intro fuel i z P h1 h2 h3
    obtain ⟨u, rfl⟩ : ∃ u, fuel = u + 1 := ⟨fuel - 1, by omega⟩
    refine ⟨z, ?_, k_nxp_cong h3 (fun w hw => ?_)⟩
    · simp only [F_X6_nextTold_L83, h.r0, k_l7 h hs, Option.bind_some]
      rw [if_pos (nI_le (by omega) (by omega))]
    · rcases hw with hw | ⟨j, a, b, -⟩
      · exact hw
      · omega
  | succ d ih =>
    intro fuel i z P h1 h2 h3
    obtain ⟨u, rfl⟩ : ∃ u, fuel = u + 1 := ⟨fuel - 1, by omega⟩
    have hp := (hme.2.1 i (by omega)).1
    have hk : (k_eK (V.1 1) i).toInt < 10000 := by
      have := hs.wt.1.2 _ hp
      rw [k_pl_at hp] at this
      exact this.2
    have hst := k_nxp_step (y := k_eK (V.1 1) i) h3 (Or.inr hp) hk
    obtain ⟨z', r1, r2⟩ := ih u (i + 1) _ _ (by omega) (by omega) hst
    refine ⟨z', ?_, k_nxp_cong r2 (fun w hw => ?_)⟩
    · simp only [F_X6_nextTold_L83, h.r0, k_l7 h hs, h.cv, k_ent0 h (j := i) (by omega), Option.bind_some, k_add1]
      rw [if_neg (nI_ge (by omega) (by omega))]
      by_cases g1 : k_eK (V.1 1) i ≤ k
      · rw [if_pos g1] at r1 ⊢
        exact r1
      · rw [if_neg g1] at r1 ⊢
        by_cases g2 : z ≤ k_eK (V.1 1) i
        · rw [if_pos g2] at r1 ⊢
          exact r1
        · rw [if_neg g2] at r1 ⊢
          exact r1
    · rcases hw with hw | ⟨j, a, b, e⟩
      · exact Or.inl (Or.inl hw)
      · by_cases y : j = i
        · exact Or.inl (Or.inr (by rw [← e, y]))
        · exact Or.inr ⟨j, by omega, b, e⟩
theorem k_nextTold (hN : 1000 ≤ N) (h : k_mo f m V) (hs : k_ms (V.1 1) S c) (k : Int32) : ∃ z, F_X6_nextTold N f m k 10000 = some z ∧ k_nxp S k (k_any S) z := by
  obtain ⟨z1, q1, q2⟩ := k_nt_runs (N := N) hN h hs k (K := fun y3_11 y4_11 => F_X6_nextTold_L83 N f m k (fun y3_19 y4_19 => some y3_19) N y3_11 0) (S.1 + 1) N 0 10000 (fun _ => False) (by omega) (by have := hs.1.1; omega) ⟨fun y hy _ => absurd hy id, Or.inl rfl, by decide⟩
  obtain ⟨z2, r1, r2⟩ := k_nt_ents (N := N) h hs k S.2.2.1.1.1 N 0 z1 _ (by omega) (by have := hs.wt.2.2.1; omega) q2
  refine ⟨z2, ?_, k_nxp_cong r2 (fun w hw => ?_)⟩
  · unfold F_X6_nextTold
    exact q1.trans r1
  · rcases hw with ⟨r, hr, e⟩ | hw
    · exact Or.inl (Or.inr ⟨r, Nat.zero_le _, hr, e⟩)
    · obtain ⟨j, hj, e⟩ := k_pl_iff.mp ((k_me_pl hs.2.2.2.2.2.2.2.1 w).mpr hw)
      exact Or.inr ⟨j, Nat.zero_le _, hj, e⟩
/-! all that is found, as one row -/
noncomputable def k_all (S : KS) : KR := @Classical.epsilon KR ⟨k_R0⟩ (fun Q => k_fnd S Q)
/-- there is such a row, and it isn't long -/
def k_okA (S : KS) : Prop := k_fnd S (k_all S) ∧ (k_all S).1 ≤ 532
theorem k_fnd_uniq {S : KS} {Q R : KR} (hQ : k_fnd S Q) (hR : k_fnd S R) : Q.1 = R.1 ∧ ∀ i, i < Q.1 → Q.2.1 i = R.2.1 i ∧ Q.2.2 i = R.2.2 i := by
  have key : ∀ {A B : KR}, k_fnd S A → k_fnd S B → ∀ x, (∃ i, i < A.1 ∧ A.2.1 i = x) → (∃ i, i < B.1 ∧ B.2.1 i = x) := fun hA hB x ⟨i, hi, e⟩ => by
    obtain ⟨j, hj, e1, -⟩ := (hB.2 x _).mpr ((hA.2 x (_ : Int32)).mp ⟨i, hi, e, rfl⟩)
    exact ⟨j, hj, e1⟩
  obtain ⟨e1, e2⟩ := k_srt_uniq hQ.1 hR.1 (fun x => ⟨key hQ hR x, key hR hQ x⟩)
  refine ⟨e1, fun i hi => ⟨e2 i hi, ?_⟩⟩
  have a := ((hQ.2 _ _).mp ⟨i, hi, rfl, rfl⟩).1
  have b := ((hR.2 _ _).mp ⟨i, by omega, rfl, rfl⟩).1
  rw [← e2 i hi] at b
  exact a.symm.trans b
theorem k_okA_of {S : KS} {Q : KR} (h : k_fnd S Q) (hn : Q.1 ≤ 532) : k_okA S := by
  have := @Classical.epsilon_spec KR (fun Q => k_fnd S Q) ⟨Q, h⟩
  have e : k_fnd S (k_all S) := this
  exact ⟨e, by rw [← (k_fnd_uniq h e).1]; exact hn⟩
theorem k_all_v {S : KS} (h : k_fnd S (k_all S)) {i : Nat} (hi : i < (k_all S).1) : k_val S ((k_all S).2.1 i) = (k_all S).2.2 i ∧ (k_all S).2.2 i ≠ -1 := (h.2 _ _).mp ⟨i, hi, rfl, rfl⟩
theorem k_finds_loop (hN : 20000 ≤ N) (hA : k_okA S) {K : Int32 → XM → Option (Int32 × XM)} : ∀ (d fuel : Nat) (x : Int32) (f : XM) (V : KM) (Q : KR), (10000 : Int) - x.toInt ≤ d → d < fuel → k_mo f m V → k_ms (V.1 1) S c → V.2 8 = nI Q.1 → (∀ i, i < Q.1 → V.1 7 (2 * i) = Q.2.1 i ∧ V.1 7 (2 * i + 1) = Q.2.2 i) → k_srt Q.1 Q.2.1 → (∀ k v, k_mem Q k v ↔ (k_val S k = v ∧ v ≠ -1) ∧ k.toInt < x.toInt) → x.toInt ≤ 10000 → (x = 10000 ∨ k_any S x) →
    ∃ (f' : XM) (V' : KM) (Q' : KR) (x' : Int32), F_X6_finds_L14 N m K fuel x f = K x' f' ∧ k_mo f' m V' ∧ k_mx V V' [7] [8] ∧ k_fr f f' m (m + 10) ∧ V'.2 8 = nI Q'.1 ∧ (∀ i, i < Q'.1 → V'.1 7 (2 * i) = Q'.2.1 i ∧ V'.1 7 (2 * i + 1) = Q'.2.2 i) ∧ k_fnd S Q' := by
  intro d
  induction d with
  | zero =>
    intro fuel x f V Q h1 h2 h3 h4 h5 h6 h7 h8 h9 h10
    obtain ⟨u, rfl⟩ : ∃ u, fuel = u + 1 := ⟨fuel - 1, by omega⟩
    have e1 : (9999 : Int32).toInt = 9999 := rfl
    refine ⟨f, V, Q, x, ?_, h3, k_mx.rf, k_fr.rf, h5, h6, h7, fun k v => ?_⟩
    · rw [F_X6_finds_L14, if_pos (by rw [k_i_lt, e1]; omega)]
    · rw [h8]
      constructor
      · exact fun z => z.1
      · intro z
        refine ⟨z, ?_⟩
        have := (k_any_r h4.1 (k_val_any (by rw [z.1]; exact z.2))).2
        omega
  | succ d ih =>
    intro fuel x f V Q h1 h2 h3 h4 h5 h6 h7 h8 h9 h10
    obtain ⟨u, rfl⟩ : ∃ u, fuel = u + 1 := ⟨fuel - 1, by omega⟩
    have e1 : (9999 : Int32).toInt = 9999 := rfl
    by_cases g : (9999 : Int32) < x
    · rw [k_i_lt, e1] at g
      refine ⟨f, V, Q, x, ?_, h3, k_mx.rf, k_fr.rf, h5, h6, h7, fun k v => ?_⟩
      · rw [F_X6_finds_L14, if_pos (by rw [k_i_lt, e1]; omega)]
      · rw [h8]
        constructor
        · exact fun z => z.1
        · intro z
          refine ⟨z, ?_⟩
          have := (k_any_r h4.1 (k_val_any (by rw [z.1]; exact z.2))).2
          omega
    · have gx := g
      rw [k_i_lt, e1] at gx
      have hx : k_any S x := by
        rcases h10 with rfl | y
        · exact absurd (show (9999 : Int32).toInt < (10000 : Int32).toInt by decide) (by rw [e1]; exact gx)
        · exact y
      have hxr := k_any_r h4.1 hx
      by_cases gv : k_val S x = -1
      · obtain ⟨z, z1, z2, z3, z4⟩ := k_nextTold (N := N) (by omega) h3 h4 x
        have hzx : x.toInt < z.toInt := by
          rcases z3 with rfl | ⟨-, y⟩
          · have : (10000 : Int32).toInt = 10000 := rfl
            omega
          · exact y
        obtain ⟨f', V', Q', x', r⟩ := ih u z f V Q (by omega) (by omega) h3 h4 h5 h6 h7 (fun k v => by
          rw [h8]
          constructor
          · rintro ⟨a, b⟩; exact ⟨a, by omega⟩
          · rintro ⟨a, b⟩
            refine ⟨a, ?_⟩
            have ha := k_val_any (S := S) (y := k) (by rw [a.1]; exact a.2)
            rcases Int.lt_trichotomy k.toInt x.toInt with y | y | y
            · exact y
            · have : k = x := Int32.toInt_inj.mp y
              rw [this] at a
              exact absurd (a.1.symm.trans gv) a.2
            · have := z2 k ha y; omega) (by omega) (by
            rcases z3 with y | y
            · exact Or.inl y
            · exact Or.inr y.1)
        refine ⟨f', V', Q', x', ?_, r.2⟩
        rw [F_X6_finds_L14, if_neg g]
        simp only [h3.cv, k_valueBy (show 1000 ≤ N by omega) h3 h4, Option.bind_some, z1]
        rw [if_pos gv]
        exact r.1
      · -- room
        have hlen : Q.1 < 532 := by
          have hle := k_cnt_rel (q := fun _ => true) (p := fun i => decide ((k_all S).2.1 i ≠ x)) (a := Q.2.1) (b := (k_all S).2.1) (m := (k_all S).1) (n := Q.1) (k_srt_dn h7) (fun j hj _ => by
            have := (h8 _ _).mp ⟨j, hj, rfl, rfl⟩
            obtain ⟨i, hi, e1, e2⟩ := (hA.1.2 _ _).mpr this.1
            exact ⟨i, hi, decide_eq_true (fun e => by rw [← e1, e] at this; omega), e1⟩)
          obtain ⟨i, hi, e1, e2⟩ := (hA.1.2 x (k_val S x)).mpr ⟨rfl, gv⟩
          have hlt : k_cnt (fun i => decide ((k_all S).2.1 i ≠ x)) (k_all S).1 + 1 ≤ (k_all S).1 := by
            have h := k_cnt_del (p := fun _ => true) hi
            rw [k_cnt_all (fun _ _ => rfl), if_pos rfl] at h
            have h2 : k_cnt (fun i => decide ((k_all S).2.1 i ≠ x)) (k_all S).1 ≤ k_cnt (fun k => true && !decide (k = i)) (k_all S).1 := by
              rw [k_cnt_cong (p := fun i => decide ((k_all S).2.1 i ≠ x)) (q := fun k => true && !decide (k = i)) (fun k hk => by
                by_cases z : k = i
                · rw [z]; simp [e1]
                · have : (k_all S).2.1 k ≠ x := fun e => z (k_srt_ne hA.1.1 hk hi (e.trans e1.symm))
                  simp [this, z])]
              exact Nat.le_refl _
            omega
          rw [k_cnt_all (fun _ _ => rfl)] at hle
          have := hA.2
          omega
        obtain ⟨f1, a1, a2, a3⟩ := h3.st (a := 7) (i := 2 * Q.1) (by omega) (by omega) (by show _ < 1200; omega) x
        obtain ⟨f2, b1, b2, b3⟩ := a2.st (a := 7) (i := 2 * Q.1 + 1) (by omega) (by omega) (by show _ < 1200; omega) (k_val S x)
        obtain ⟨f3, c1, c2, c3⟩ := b2.pi (i := 8) (by omega) (nI (Q.1 + 1))
        have hmx : k_mx V (k_sI (k_sA (k_sA V 7 (2 * Q.1) x) 7 (2 * Q.1 + 1) (k_val S x)) 8 (nI (Q.1 + 1))) [7] [8] := ((k_sA_mx (by simp)).tr (k_sA_mx (by simp))).tr (k_sI_mx (by simp))
        have hG : (k_sI (k_sA (k_sA V 7 (2 * Q.1) x) 7 (2 * Q.1 + 1) (k_val S x)) 8 (nI (Q.1 + 1))).1 1 = V.1 1 := hmx.1 1 (by simp)
        obtain ⟨z, z1, z2, z3, z4⟩ := k_nextTold (N := N) (S := S) (c := c) (by omega) c2 (by rw [hG]; exact h4) x
        have hzx : x.toInt < z.toInt := by
          rcases z3 with rfl | ⟨-, y⟩
          · have : (10000 : Int32).toInt = 10000 := rfl
            omega
          · exact y
        obtain ⟨f', V', Q', x', r1, r2, r3, r4, r5⟩ := ih u z f3 _ (k_push Q x (k_val S x)) (by omega) (by omega) c2 (by rw [hG]; exact h4) k_sI_s (fun i hi => by
          have hi' : i < Q.1 + 1 := hi
          show (k_sA (k_sA V 7 (2 * Q.1) x) 7 (2 * Q.1 + 1) (k_val S x)).1 7 (2 * i) = upd Q.2.1 Q.1 x i ∧ (k_sA (k_sA V 7 (2 * Q.1) x) 7 (2 * Q.1 + 1) (k_val S x)).1 7 (2 * i + 1) = upd Q.2.2 Q.1 (k_val S x) i
          rw [k_sA_s, k_sA_s]
          by_cases y : i = Q.1
          · rw [y, k_upd_n (by omega), k_upd_s, k_upd_s, k_upd_s, k_upd_s]
            exact ⟨rfl, rfl⟩
          · rw [k_upd_n (by omega), k_upd_n (by omega), k_upd_n y, k_upd_n (by omega), k_upd_n (by omega), k_upd_n y]
            exact h6 i (by omega)) (k_push_srt h7 (fun t ht => ((h8 _ _).mp ⟨t, ht, rfl, rfl⟩).2) hxr) (fun k v => by
          rw [k_push_mem, h8]
          constructor
          · rintro (⟨a, b⟩ | ⟨rfl, rfl⟩)
            · exact ⟨a, by omega⟩
            · exact ⟨⟨rfl, gv⟩, hzx⟩
          · rintro ⟨a, b⟩
            have ha := k_val_any (S := S) (y := k) (by rw [a.1]; exact a.2)
            rcases Int.lt_trichotomy k.toInt x.toInt with y | y | y
            · exact Or.inl ⟨a, y⟩
            · have : k = x := Int32.toInt_inj.mp y
              exact Or.inr ⟨this.symm, by rw [← this]; exact a.1⟩
            · have := z2 k ha y; omega) (by omega) (by
            rcases z3 with y | y
            · exact Or.inl y
            · exact Or.inr y.1)
        refine ⟨f', V', Q', x', ?_, r2, hmx.tr r3, ((a3.tr b3).tr c3).tr r4, r5⟩
        rw [F_X6_finds_L14, if_neg g]
        have j1 : x_ast f (m + 7) (2 * nI Q.1) x = some f1 := by rw [k_ix2]; exact a1
        have j2 : x_ast f1 (m + 7) (2 * nI Q.1 + 1) (k_val S x) = some f2 := by rw [k_ix2, k_add1]; exact b1
        have e8 : (k_sA V 7 (2 * Q.1) x).2 8 = nI Q.1 := h5
        have e8' : (k_sA (k_sA V 7 (2 * Q.1) x) 7 (2 * Q.1 + 1) (k_val S x)).2 8 = nI Q.1 := h5
        simp only [h3.cv, k_valueBy (show 1000 ≤ N by omega) h3 h4, Option.bind_some]
        rw [if_neg gv]
        simp only [h3.r7, h3.i8, h5, Option.bind_some, j1, a2.r7, a2.i8, e8, j2, b2.i8, e8', k_add1, c1, c2.cv, z1]
        exact r1
theorem k_finds (hN : 20000 ≤ N) (hA : k_okA S) (h : k_mo f m V) (hs : k_ms (V.1 1) S c) : ∃ (f' : XM) (V' : KM), F_X6_finds N f m = some (nI (k_all S).1, f') ∧ k_mo f' m V' ∧ k_mx V V' [7] [8] ∧ k_fr f f' m (m + 10) ∧ V'.2 8 = nI (k_all S).1 ∧ ∀ i, i < (k_all S).1 → V'.1 7 (2 * i) = (k_all S).2.1 i ∧ V'.1 7 (2 * i + 1) = (k_all S).2.2 i := by
  obtain ⟨f1, a1, a2, a3⟩ := h.pi (i := 8) (by omega) 0
  obtain ⟨z, z1, z2, z3, z4⟩ := k_nextTold (N := N) (S := S) (c := c) (by omega) a2 hs (-1)
  obtain ⟨f', V', Q', x', r1, r2, r3, r4, r5, r6, r7⟩ := k_finds_loop (N := N) (c := c) hN hA (K := fun y1_17 g17 => (x_geti g17 6 m 8).bind fun v18 => some (v18, g17)) 10001 N z f1 _ k_R0 (by
    rcases z3 with rfl | ⟨-, y⟩
    · decide
    · have : (-1 : Int32).toInt = -1 := rfl
      omega) (by omega) a2 hs k_sI_s (fun i hi => absurd hi (Nat.not_lt_zero _)) ⟨fun i j _ hj => absurd hj (Nat.not_lt_zero _), fun i hi => absurd hi (Nat.not_lt_zero _)⟩ (fun k v => by
      constructor
      · rintro ⟨i, hi, -⟩; exact absurd hi (Nat.not_lt_zero _)
      · rintro ⟨a, b⟩
        have ha := k_val_any (S := S) (y := k) (by rw [a.1]; exact a.2)
        have hr := (k_any_r hs.1 ha).1
        have := z2 k ha (by have : (-1 : Int32).toInt = -1 := rfl; omega)
        omega) z4 (by
      rcases z3 with y | y
      · exact Or.inl y
      · exact Or.inr y.1)
  obtain ⟨u1, u2⟩ := k_fnd_uniq r7 hA.1
  refine ⟨f', V', ?_, r2, (k_sI_mx (by simp)).tr r3, a3.tr r4, by rw [r5, u1], fun i hi => ?_⟩
  · simp only [F_X6_finds, a1, a2.cv, z1, Option.bind_some]
    refine r1.trans ?_
    simp only [r2.i8, r5, u1, Option.bind_some]
  · rw [(r6 i (by omega)).1, (r6 i (by omega)).2]
    exact u2 i (by omega)
end KFD
