/-! The digest: what both come to. -/
def k_hf (step : Nat → Int64 → Int64) : Nat → Int64 → Int64
  | 0, h => h
  | n + 1, h => step n (k_hf step n h)
theorem k_hf_cong {s t : Nat → Int64 → Int64} : ∀ {n : Nat} {h : Int64}, (∀ i h, i < n → s i h = t i h) → k_hf s n h = k_hf t n h
  | 0, _, _ => rfl
  | n + 1, h, e => by rw [k_hf, k_hf, k_hf_cong (fun i h hi => e i h (by omega)), e n _ (by omega)]
def k_mix (h v : Int64) : Int64 := (31 : Int64) * h + v
def k_hrun (R : KR) (h : Int64) : Int64 := k_hf (fun i h => k_mix (k_mix h (R.2.1 i).toInt64) (if R.2.2 i = -1 then 1 else 0)) R.1 (k_mix h (nI R.1).toInt64)
def k_hruns (S : KS) (h : Int64) : Int64 := k_hf (fun r h => k_hrun (S.2.1 r) h) (S.1 + 1) (k_mix h (nI S.1).toInt64)
/-- the own entries of a leaf, one behind the other -/
def k_hent (T : KT) (i : Nat) (h : Int64) : Int64 := k_mix (k_mix h (T.1.2.1 i).toInt64) (T.1.2.2 i).toInt64
def k_hleaf (T : KT) (l : Nat) (h : Int64) : Int64 := k_mix (k_mix (k_hf (fun p h => k_hent T (k_oe T l p) h) (k_own T l) (k_mix h (nI (k_own T l)).toInt64)) (nI (k_ovf T l)).toInt64) (nI (k_ru (k_ovf T l) (k_u T.2.2.2.2.1))).toInt64
def k_hleaves (T : KT) (h : Int64) : Int64 := k_hf (fun l h => k_hleaf T l h) T.2.2.1 (k_mix (k_mix h (nI T.1.1).toInt64) (nI T.2.2.1).toInt64)
def k_hnodes (T : KT) (h : Int64) : Int64 :=
  k_hf (fun v h => k_hf (fun x h => k_mix (k_mix h (k_ch T (v + 1) (nI x)).toInt64) (T.2.2.2.1 (x * k_u T.2.2.2.2.2 ^ (v + 1))).toInt64) (k_nc (k_u T.2.2.2.2.2) (v + 1) T.2.2.1) (k_mix h (nI (k_nc (k_u T.2.2.2.2.2) (v + 1) T.2.2.1)).toInt64)) (k_tlv T) (k_mix h (nI (k_tlv T)).toInt64)
noncomputable def k_hkey (S : KS) (i : Nat) (h : Int64) : Int64 := k_mix (k_mix (k_mix (k_mix h ((k_all S).2.1 i).toInt64) ((k_all S).2.2 i).toInt64) (nI (k_pg S ((k_all S).2.1 i))).toInt64) 1
noncomputable def k_hkeys (S : KS) (h : Int64) : Int64 := k_hf (k_hkey S) (k_all S).1 (k_mix h (nI (k_all S).1).toInt64)
noncomputable def k_bw (S : KS) (lo hi : Int32) : Int64 := (nI (k_btw (k_all S).1 (k_all S).2.1 lo hi)).toInt64
noncomputable def k_hcnt (S : KS) (h : Int64) : Int64 := k_mix (k_mix (k_mix (k_mix h (k_bw S 0 9999)) (k_bw S 0 9999)) (k_bw S 100 500)) (k_bw S 100 500)
/-- the most pages, the sum of all -/
def k_mxp (p : Nat → Nat) : Nat → Nat
  | 0 => 0
  | n + 1 => max (k_mxp p n) (p n)
noncomputable def k_wst (S : KS) : Nat := k_mxp (fun i => k_pg S ((k_all S).2.1 i)) (k_all S).1
noncomputable def k_pgs (S : KS) : Nat := k_sum (fun i => k_pg S ((k_all S).2.1 i)) (k_all S).1
def k_shr (T : KT) : UInt64 := k_ds (k_cnt (fun i => decide (0 < T.2.1 i)) T.1.1) T.1.1
noncomputable def k_men (S : KS) : UInt64 := k_ds (k_pgs S) (k_all S).1
noncomputable def k_lvb (S : KS) (p : Nat) : Nat := k_ru (k_all S).1 (k_each S.2.2.2.1 p)
noncomputable def k_llb (S : KS) (p : Nat) : Nat := k_lv (k_u S.2.2.2.2.1) 32 (k_lvb S p)
noncomputable def k_hacc (S : KS) (n : Nat) (h : Int64) : Int64 :=
  k_mix (k_mix (k_mix (k_mix (k_mix (k_mix (k_mix (k_mix (k_mix (k_mix (k_mix h S.2.2.2.2.2.1.toInt64) S.2.2.2.2.2.2.toInt64) (nI (k_told S)).toInt64) (nI (k_wst S)).toInt64) (nI (k_lvb S 50)).toInt64) (nI (k_llb S 50)).toInt64) (nI (k_lvb S 100)).toInt64) (nI (k_llb S 100)).toInt64) (nI n).toInt64) (k_shr S.2.2.1).toInt64) (k_men S).toInt64
def k_htxt (s0 s1 : Bool) (bf : Nat → Int32) (len : Nat) (h : Int64) : Int64 := k_hf (fun i h => k_mix h (bf i).toInt64) len (k_mix (k_mix (k_mix h (if s0 then 1 else 0)) (if s1 then 1 else 0)) (nI len).toInt64)
noncomputable def k_hall (S : KS) (n : Nat) (s0 s1 : Bool) (bf : Nat → Int32) (len : Nat) : Int64 := k_htxt s0 s1 bf len (k_hacc S n (k_hcnt S (k_hkeys S (k_hnodes S.2.2.1 (k_hleaves S.2.2.1 (k_hruns S 4391))))))
/-! bounds -/
theorem k_tpg_le {T : KT} (hw : k_wt T) (k : Int32) : k_tpg T k ≤ 200 := by
  unfold k_tpg
  split
  · omega
  · have h1 : k_tlv T ≤ 32 := k_lv_le _ _ _
    have h2 := k_bh_le hw k
    have h3 : k_ru (k_bh T k) (k_u T.2.2.2.2.1) ≤ k_bh T k := by
      rcases hw.2.2.2.2.2.2.2.2 with ⟨z1, z2, z3⟩ | ⟨z2, z3⟩
      · omega
      · exact k_ru_le (by have := (z2.e (by omega)).2.1; omega)
    omega
theorem k_pg_le {S : KS} (hw : k_ws S) (k : Int32) : k_pg S k ≤ 300 := by
  have h1 := k_cnt_le (fun r => decide (0 < (S.2.1 r).1)) (k_run S k + 1)
  have h2 := k_cnt_le (fun r => decide (0 < (S.2.1 r).1)) (S.1 + 1)
  have h3 := k_tpg_le hw.2.2.2.2.1 k
  have h4 := hw.1
  unfold k_pg
  split <;> omega
theorem k_mxp_le {p : Nat → Nat} {m : Nat} : ∀ {n : Nat}, (∀ i, i < n → p i ≤ m) → k_mxp p n ≤ m
  | 0, _ => Nat.zero_le _
  | n + 1, h => by
    rw [k_mxp]
    exact Nat.max_le.mpr ⟨k_mxp_le (fun i hi => h i (by omega)), h n (by omega)⟩
theorem k_pgs_le {S : KS} (hw : k_ws S) (hA : k_okA S) : k_pgs S ≤ 2 ^ 20 := by
  have := k_sum_le (p := fun i => k_pg S ((k_all S).2.1 i)) (m := 300) (n := (k_all S).1) (fun i _ => k_pg_le hw _)
  have := hA.2
  unfold k_pgs
  omega
theorem k_cnt_sub {p q : Nat → Bool} : ∀ {n : Nat}, (∀ k, k < n → p k = true → q k = true) → k_cnt p n ≤ k_cnt q n
  | 0, _ => Nat.le_refl _
  | n + 1, h => by
    have ih := k_cnt_sub (p := p) (q := q) (n := n) (fun k hk => h k (by omega))
    rw [k_cnt, k_cnt]
    cases hp : p n with
    | false => simp; omega
    | true => rw [h n (by omega) hp]; simp; omega
/-- the entries of a leaf by their places, and by going through -/
theorem k_oe_at {T : KT} {l i : Nat} (hi : i < T.1.1) (hq : k_oq T l i = true) : k_oe T l (k_cnt (k_oq T l) i) = i := by
  refine k_fst_eq (Nat.le_of_lt hi) (fun j hj => ?_) (fun _ => ?_)
  · show (k_oq T l j && decide (k_cnt (k_oq T l) j = k_cnt (k_oq T l) i)) = false
    cases y : k_oq T l j with
    | false => rfl
    | true =>
      have h1 : k_cnt (k_oq T l) (j + 1) = k_cnt (k_oq T l) j + 1 := k_cnt_y y
      have h2 := k_cnt_mono (k_oq T l) (show j + 1 ≤ i by omega)
      rw [decide_eq_false (by omega)]; rfl
  · show (k_oq T l i && decide (k_cnt (k_oq T l) i = k_cnt (k_oq T l) i)) = true
    rw [hq, decide_eq_true rfl]; rfl
theorem k_hleaf_go {T : KT} {l : Nat} (h : Int64) : ∀ n, n ≤ T.1.1 → k_hf (fun i h => if k_oq T l i = true then k_hent T i h else h) n h = k_hf (fun p h => k_hent T (k_oe T l p) h) (k_cnt (k_oq T l) n) h
  | 0, _ => rfl
  | n + 1, hn => by
    have ih := k_hleaf_go (T := T) (l := l) h n (by omega)
    rw [k_hf, ih]
    cases hq : k_oq T l n with
    | false => rw [k_cnt_n hq]; rfl
    | true =>
      rw [k_cnt_y hq, k_hf, k_oe_at (by omega) hq]
      rfl
section KHC
variable {wz : Nat}
variable {N : Nat} {f : XM} {b : Nat} {S : KS} {T : KT}
theorem k_mixF (h v : Int64) : F_X5_mix N f h v = some (k_mix h v) := rfl
theorem k_mixG (h : Int64) (v : Bool) : F_X5_mixFlag N f h v = some (k_mix h (if v = true then 1 else 0)) := by
  cases v <;> simp [F_X5_mixFlag, F_X5_mix, k_mix, x_b]
theorem k_hrun_loop {p c x : Nat} {z : Int32} {R : KR} (h : k_row f p c R) (h0 : Int64) {K : Int64 → Int32 → Option Int64} : ∀ (d fuel i : Nat), i + d = R.1 → d < fuel →
    F_X5_hashOfRuns_L61 N f x z p K fuel (k_hf (fun i h => k_mix (k_mix h (R.2.1 i).toInt64) (if R.2.2 i = -1 then 1 else 0)) i h0) (nI i) = K (k_hf (fun i h => k_mix (k_mix h (R.2.1 i).toInt64) (if R.2.2 i = -1 then 1 else 0)) R.1 h0) (nI R.1) := by
  have hl := h.le
  have hc := h.c4
  intro d
  induction d with
  | zero =>
    intro fuel i h1 h2
    obtain ⟨u, rfl⟩ : ∃ u, fuel = u + 1 := ⟨fuel - 1, by omega⟩
    have e : i = R.1 := by omega
    subst e
    simp only [F_X5_hashOfRuns_L61, h.n, Option.bind_some]
    rw [if_pos (nI_le (Nat.le_refl _) (by omega))]
  | succ d ih =>
    intro fuel i h1 h2
    obtain ⟨u, rfl⟩ : ∃ u, fuel = u + 1 := ⟨fuel - 1, by omega⟩
    have i2 := ih u (i + 1) (by omega) (by omega)
    rw [k_hf] at i2
    simp only [F_X5_hashOfRuns_L61, h.n, h.cv, k_keyOn h (i := i) (by omega), k_valueOn h (i := i) (by omega), k_mixF, k_mixG, Option.bind_some, k_add1]
    rw [if_neg (nI_ge (by omega) (by omega))]
    by_cases g : R.2.2 i = -1
    · rw [if_pos g] at i2 ⊢
      exact i2
    · rw [if_neg g] at i2 ⊢
      exact i2
theorem k_hruns_loop {x : Nat} (hx : x_getr f 5 x 0 = some (some b)) (h : k_st f b S) (hN : 5000 ≤ N) (h0 : Int64) : ∀ (d fuel i : Nat), i + d = S.1 + 1 → d < fuel →
    F_X5_hashOfRuns_L16 N f x (fun y _ => some y) fuel (k_hf (fun r h => k_hrun (S.2.1 r) h) i h0) (nI i) = some (k_hf (fun r h => k_hrun (S.2.1 r) h) (S.1 + 1) h0) := by
  have h6 := h.2.1
  intro d
  induction d with
  | zero =>
    intro fuel i h1 h2
    obtain ⟨u, rfl⟩ : ∃ u, fuel = u + 1 := ⟨fuel - 1, by omega⟩
    have e : i = S.1 + 1 := by omega
    subst e
    simp only [F_X5_hashOfRuns_L16, hx, h.cc, Option.bind_some]
    rw [if_pos (nI_lt (by omega) (by omega))]
  | succ d ih =>
    intro fuel i h1 h2
    obtain ⟨u, rfl⟩ : ∃ u, fuel = u + 1 := ⟨fuel - 1, by omega⟩
    obtain ⟨p, c, r1, r2, -, -, r5⟩ := k_runOn (N := N) h (r := i) (by omega)
    have hl := r2.le
    have i2 := ih u (i + 1) (by omega) (by omega)
    rw [k_hf] at i2
    simp only [F_X5_hashOfRuns_L16, hx, h.cc, h.cv, r1, r2.n, k_mixF, Option.elim_some, Option.bind_some]
    rw [if_neg (nI_nlt (by omega) (by omega))]
    refine (k_hrun_loop (N := N) (x := x) (z := nI i) r2 _ (S.2.1 i).1 N 0 (by omega) (by omega)).trans ?_
    rw [k_add1]
    exact i2
theorem k_hashOfRuns {x : Nat} (hx : x_getr f 5 x 0 = some (some b)) (h : k_st f b S) (hN : 5000 ≤ N) (h0 : Int64) : F_X5_hashOfRuns N f x h0 = some (k_hruns S h0) := by
  simp only [F_X5_hashOfRuns, hx, h.cc, k_mixF, Option.bind_some]
  exact k_hruns_loop hx h hN _ (S.1 + 1) N 0 (by omega) (by have := h.2.1; omega)
theorem k_hleaf_loop {z6 : Int32} {l e : Nat} (h : k_tree f b T) (he : e ≤ T.1.1) (h0 : Int64) {K : Int64 → Int32 → Option Int64} : ∀ (d fuel i : Nat), i + d = e → d < fuel → (∀ j, i ≤ j → j < e → k_oq T l j = decide (T.2.1 j = 0)) →
    F_X5_hashOfLeaves_L78 N f b z6 (nI e) K fuel (k_hf (fun i h => if k_oq T l i = true then k_hent T i h else h) i h0) (nI i) = K (k_hf (fun i h => if k_oq T l i = true then k_hent T i h else h) e h0) (nI e) := by
  have hl := h.row.le
  intro d
  induction d with
  | zero =>
    intro fuel i h1 h2 hq
    obtain ⟨u, rfl⟩ : ∃ u, fuel = u + 1 := ⟨fuel - 1, by omega⟩
    have e : i = e := by omega
    subst e
    rw [F_X5_hashOfLeaves_L78, if_pos (nI_le (Nat.le_refl _) (by omega))]
  | succ d ih =>
    intro fuel i h1 h2 hq
    obtain ⟨u, rfl⟩ : ∃ u, fuel = u + 1 := ⟨fuel - 1, by omega⟩
    have i2 := ih u (i + 1) (by omega) (by omega) (fun j a c => hq j (by omega) c)
    rw [k_hf, hq i (Nat.le_refl _) (by omega)] at i2
    rw [F_X5_hashOfLeaves_L78, if_neg (nI_ge (by omega) (by omega))]
    simp only [h.cv, h.r, h.row.cv, k_placeOn h (i := i) (by omega), k_keyOn h.row (i := i) (by omega), k_valueOn h.row (i := i) (by omega), k_mixF, Option.bind_some, k_add1]
    by_cases g : T.2.1 i = 0
    · rw [decide_eq_true g, if_pos rfl] at i2
      rw [if_pos g]
      exact i2
    · rw [decide_eq_false g, if_neg (by decide)] at i2
      rw [if_neg g]
      exact i2
theorem k_hf_skip {s : Nat → Int64 → Int64} {h : Int64} {a c : Nat} (hac : a ≤ c) (e : ∀ i h, a ≤ i → i < c → s i h = h) : k_hf s c h = k_hf s a h := by
  induction c with
  | zero => rw [Nat.le_zero.mp hac]
  | succ c ih =>
    by_cases z : a = c + 1
    · rw [z]
    · rw [k_hf, e c _ (by omega) (by omega)]
      exact ih (by omega) (fun i h h1 h2 => e i h h1 (by omega))
theorem k_hleaves_loop (hN : 5000 ≤ N) (h : k_tree f b T) (hw : k_wt T) (h0 : Int64) : ∀ (d fuel l : Nat), l + d = T.2.2.1 → d < fuel →
    F_X5_hashOfLeaves_L37 N f b (fun y _ => some y) fuel (k_hf (fun l h => k_hleaf T l h) l h0) (nI l) = some (k_hf (fun l h => k_hleaf T l h) T.2.2.1 h0) := by
  have hl := h.row.le
  have h5 := h.2.2.2.2
  intro d
  induction d with
  | zero =>
    intro fuel l h1 h2
    obtain ⟨u, rfl⟩ : ∃ u, fuel = u + 1 := ⟨fuel - 1, by omega⟩
    have e : l = T.2.2.1 := by omega
    subst e
    simp only [F_X5_hashOfLeaves_L37, h.l, Option.bind_some]
    rw [if_pos (nI_le (Nat.le_refl _) (by omega))]
  | succ d ih =>
    intro fuel l h1 h2
    obtain ⟨u, rfl⟩ : ∃ u, fuel = u + 1 := ⟨fuel - 1, by omega⟩
    have i2 := ih u (l + 1) (by omega) (by omega)
    rw [k_hf] at i2
    have hr2 := k_rk_le T.1.1 T.1.2.1 (k_bd T (l + 1))
    have hm := k_rk_mono hw.1 (k_bd_mono hw (show l ≤ l + 1 by omega))
    obtain ⟨c1, c2, c3⟩ := k_leaf_cnt hw (fun i => decide (T.2.1 i = 0)) l
    simp only [F_X5_hashOfLeaves_L37, h.l, h.cv, k_ownCount (show 1000 ≤ N by omega) h hw (l := l) (by omega), k_mixF, k_add1, k_firstEntry (show 1000 ≤ N by omega) h hw (l := l) (by omega), k_firstEntry (show 1000 ≤ N by omega) h hw (l := l + 1) (by omega), k_overflowCount (show 1000 ≤ N by omega) h hw (l := l) (by omega), k_overflowLeafCount (show 1000 ≤ N by omega) h hw (l := l) (by omega), Option.bind_some]
    rw [if_neg (nI_ge (by omega) (by omega))]
    have hlo : k_hf (fun i h => if k_oq T l i = true then k_hent T i h else h) (k_rk T.1.1 T.1.2.1 (k_bd T l)) (k_mix (k_hf (fun l h => k_hleaf T l h) l h0) (nI (k_own T l)).toInt64) = k_mix (k_hf (fun l h => k_hleaf T l h) l h0) (nI (k_own T l)).toInt64 := k_hf_skip (a := 0) (Nat.zero_le _) (fun i h _ hi => by
      have := k_rk_lo hi
      have e : k_oq T l i = false := by
        unfold k_oq k_inl
        rw [decide_eq_false (by omega)]
        rfl
      rw [e]
      rfl)
    have hhi : k_hf (fun i h => if k_oq T l i = true then k_hent T i h else h) T.1.1 (k_mix (k_hf (fun l h => k_hleaf T l h) l h0) (nI (k_own T l)).toInt64) = k_hf (fun i h => if k_oq T l i = true then k_hent T i h else h) (k_rk T.1.1 T.1.2.1 (k_bd T (l + 1))) (k_mix (k_hf (fun l h => k_hleaf T l h) l h0) (nI (k_own T l)).toInt64) := k_hf_skip hr2 (fun i h hi hn => by
      have := k_rk_hi hw.1 hi hn
      have e : k_oq T l i = false := by
        unfold k_oq k_inl
        rw [decide_eq_false (by omega)]
        rfl
      rw [e]
      rfl)
    have lp := k_hleaf_loop (N := N) (z6 := nI l) (l := l) h hr2 (k_mix (k_hf (fun l h => k_hleaf T l h) l h0) (nI (k_own T l)).toInt64) (K := fun y4_27 y8_27 =>
      (F_X4_overflowCount N f b (nI l)).bind fun z28 =>
      (F_X5_mix N f y4_27 ((z28 : Int32).toInt64)).bind fun z29 =>
      (F_X4_overflowLeafCount N f b (nI l)).bind fun z30 =>
      (F_X5_mix N f z29 ((z30 : Int32).toInt64)).bind fun z31 =>
      F_X5_hashOfLeaves_L37 N f b (fun y _ => some y) u z31 (nI (l + 1))) (k_rk T.1.1 T.1.2.1 (k_bd T (l + 1)) - k_rk T.1.1 T.1.2.1 (k_bd T l)) N _ (by omega) (by omega) c3
    rw [hlo, ← hhi, k_hleaf_go _ _ (Nat.le_refl _)] at lp
    simp only [k_overflowCount (show 1000 ≤ N by omega) h hw (l := l) (by omega), k_overflowLeafCount (show 1000 ≤ N by omega) h hw (l := l) (by omega), k_mixF, Option.bind_some] at lp
    exact lp.trans i2
theorem k_hashOfLeaves {x : Nat} (hN : 5000 ≤ N) (hx : x_getr f 5 x 0 = some (some b)) (h : k_st f b S) (hw : k_wt S.2.2.1) (h0 : Int64) : F_X5_hashOfLeaves N f x h0 = some (k_hleaves S.2.2.1 h0) := by
  simp only [F_X5_hashOfLeaves, hx, h.tr, h.tree.r, h.tree.row.n, h.tree.l, k_mixF, Option.bind_some]
  exact k_hleaves_loop hN h.tree hw _ S.2.2.1.2.2.1 N 0 (by omega) (by have := hw.2.2.2.1; omega)
end KHC

