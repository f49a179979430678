/-! The tree: an entry taken out; the tree built. -/
section KTD
variable {wz : Nat}
variable {N : Nat} {b : Nat} {T : KT}
/-- a tree's picture over its cells as they are -/
theorem k_tree.raw {f : XM} (h : k_tree f b T) : ∃ gp : Nat → Int32, f (b + 4) = some (.inl (.int, 160, .inl gp)) ∧ ∀ i, i < T.1.1 → gp i = T.2.1 i := h.2.2.1
theorem k_tree.setp {f f' : XM} {P hp : Nat → Int32} (h : k_tree f b T) (hf : k_fr f f' (b + 4) (b + 5)) (e : f' (b + 4) = some (.inl (.int, 160, .inl hp))) (he : ∀ i, i < T.1.1 → hp i = P i) : k_tree f' b (T.1, P, T.2.2) := by
  obtain ⟨h1, h2, ⟨gp, h3, h4⟩, ⟨gb, h5, h6⟩, h7⟩ := h
  exact ⟨(hf _ (by omega)).trans h1, h2.fr hf (by omega), ⟨hp, e, he⟩, ⟨gb, (hf _ (by omega)).trans h5, h6⟩, h7⟩
theorem k_mub_loop {x : Int32} {hi : Nat} {K : Int32 → XM → Option XM} : ∀ (d fuel i : Nat) (f : XM) (gp : Nat → Int32), i + d = hi → d < fuel → hi ≤ 160 → x_getr f 4 b 1 = some (some (b + 4)) → (∀ e, x_getr (x_up f (b + 4) e) 4 b 1 = some (some (b + 4))) → f (b + 4) = some (.inl (.int, 160, .inl gp)) →
    ∃ (f' : XM) (hp : Nat → Int32), F_X4_moveUpBehind_L29 N b x (nI hi) K fuel (nI i) f = K (nI hi) f' ∧ f' (b + 4) = some (.inl (.int, 160, .inl hp)) ∧ (∀ j, hp j = if i ≤ j ∧ j < hi ∧ x < gp j then gp j - 1 else gp j) ∧ k_fr f f' (b + 4) (b + 5) := by
  intro d
  induction d with
  | zero =>
    intro fuel i f gp h1 h2 h3 hx hx2 hg
    obtain ⟨u, rfl⟩ : ∃ u, fuel = u + 1 := ⟨fuel - 1, by omega⟩
    have e : i = hi := by omega
    subst e
    refine ⟨f, gp, ?_, hg, fun j => by rw [if_neg (by omega)], k_fr.rf⟩
    rw [F_X4_moveUpBehind_L29, if_pos (nI_le (Nat.le_refl _) (by omega))]
  | succ d ih =>
    intro fuel i f gp h1 h2 h3 hx hx2 hg
    obtain ⟨u, rfl⟩ : ∃ u, fuel = u + 1 := ⟨fuel - 1, by omega⟩
    rw [F_X4_moveUpBehind_L29, if_neg (nI_ge (by omega) (by omega))]
    simp only [hx, k_alen hg, Option.bind_some]
    rw [if_neg (nI_ge (by omega) (by omega)), if_neg (nI_pos (by omega))]
    simp only [k_ald hg (i := i) (by omega) (by omega), Option.bind_some, k_add1]
    by_cases g : gp i ≤ x
    · obtain ⟨f', hp, e1, e2, e3, e4⟩ := ih u (i + 1) f gp (by omega) (by omega) h3 hx hx2 hg
      refine ⟨f', hp, ?_, e2, fun j => ?_, e4⟩
      · rw [if_pos g]
        exact e1
      · rw [e3 j]
        by_cases z : j = i
        · subst z
          rw [if_neg (by omega), if_neg (fun z => by rw [k_i_le] at g; have := z.2.2; rw [k_i_lt] at this; omega)]
        · by_cases z2 : i + 1 ≤ j ∧ j < hi ∧ x < gp j
          · rw [if_pos z2, if_pos ⟨by omega, z2.2⟩]
          · rw [if_neg z2, if_neg (fun z3 => z2 ⟨by omega, z3.2⟩)]
    · obtain ⟨f', hp, e1, e2, e3, e4⟩ := ih u (i + 1) (x_up f (b + 4) (.inl (.int, 160, .inl (upd gp i (gp i - 1))))) _ (by omega) (by omega) h3 (hx2 _) (fun e => by
        have := hx2 e
        have e2 : x_up (x_up f (b + 4) (.inl (.int, 160, .inl (upd gp i (gp i - 1))))) (b + 4) e = x_up f (b + 4) e := by
          funext z
          unfold x_up
          split <;> rfl
        rw [e2]; exact this) x_up_s
      refine ⟨f', hp, ?_, e2, fun j => ?_, (k_fr.up (by omega) (by omega)).tr e4⟩
      · rw [if_neg g]
        simp only [k_ast hg (i := i) (by omega) (by omega), Option.bind_some]
        exact e1
      · rw [e3 j]
        by_cases z : j = i
        · subst z
          rw [if_neg (by omega), if_pos ⟨Nat.le_refl _, by omega, by rw [k_i_lt]; rw [k_i_le] at g; omega⟩, k_upd_s]
        · rw [k_upd_n z]
          by_cases z2 : i + 1 ≤ j ∧ j < hi ∧ x < gp j
          · rw [if_pos z2, if_pos ⟨by omega, z2.2⟩]
          · rw [if_neg z2, if_neg (fun z3 => z2 ⟨by omega, z3.2⟩)]
theorem k_to_loop {c2 c3 : Int32} {n p : Nat} {K : Int32 → XM → Option (Int32 × XM)} (hn : n ≤ 160) : ∀ (d fuel m : Nat) (f : XM) (gp : Nat → Int32), n = m + d → d < fuel → p < m → k_tree f b T → T.1.1 = n → f (b + 4) = some (.inl (.int, 160, .inl gp)) →
    ∃ (f' : XM) (hp : Nat → Int32), F_X4_takeOut_L62 N b c2 c3 K fuel (nI m) f = K (nI n) f' ∧ f' (b + 4) = some (.inl (.int, 160, .inl hp)) ∧ (∀ j, hp j = if m ≤ j + 1 ∧ j + 1 < n then gp (j + 1) else gp j) ∧ k_fr f f' (b + 4) (b + 5) := by
  intro d
  induction d generalizing T with
  | zero =>
    intro fuel m f gp h1 h2 h3 ht hT hg
    obtain ⟨u, rfl⟩ : ∃ u, fuel = u + 1 := ⟨fuel - 1, by omega⟩
    have e : m = n := by omega
    subst e
    refine ⟨f, gp, ?_, hg, fun j => by rw [if_neg (by omega)], k_fr.rf⟩
    simp only [F_X4_takeOut_L62, ht.r, ht.row.n, Option.bind_some]
    rw [if_pos (nI_le (by omega) (by omega))]
  | succ d ih =>
    intro fuel m f gp h1 h2 h3 ht hT hg
    obtain ⟨u, rfl⟩ : ∃ u, fuel = u + 1 := ⟨fuel - 1, by omega⟩
    obtain ⟨q, rfl⟩ : ∃ q, m = q + 1 := ⟨m - 1, by omega⟩
    have ht2 : k_tree (x_up f (b + 4) (.inl (.int, 160, .inl (upd gp q (gp (q + 1)))))) b (T.1, upd gp q (gp (q + 1)), T.2.2) := ht.setp (k_fr.up (by omega) (by omega)) x_up_s (fun i hi => rfl)
    obtain ⟨f', hp, e1, e2, e3, e4⟩ := ih (T := (T.1, upd gp q (gp (q + 1)), T.2.2)) u (q + 1 + 1) (x_up f (b + 4) (.inl (.int, 160, .inl (upd gp q (gp (q + 1)))))) _ (by omega) (by omega) (by omega) ht2 hT x_up_s
    refine ⟨f', hp, ?_, e2, fun j => ?_, (k_fr.up (by omega) (by omega)).tr e4⟩
    · simp only [F_X4_takeOut_L62, ht.r, ht.row.n, ht.p, k_alen hg, Option.bind_some]
      rw [if_neg (nI_ge (by omega) (by omega)), if_neg (nI_ge (by omega) (by omega))]
      simp only [k_ald hg (i := q + 1) (by omega) (by omega), nI_pred, k_ast hg (i := q) (by omega) (by omega), Option.bind_some, k_add1]
      exact e1
    · rw [e3 j]
      by_cases z1 : j = q
      · rw [if_neg (by omega), if_pos (by omega), z1, k_upd_s]
      · by_cases z2 : q + 1 + 1 ≤ j + 1 ∧ j + 1 < n
        · rw [if_pos z2, if_pos (by omega), k_upd_n (by omega)]
        · rw [if_neg z2, if_neg (by omega), k_upd_n z1]
theorem k_tdel_fin {f f1 : XM} {P : Nat → Int32} {hp : Nat → Int32} {p : Nat} (hN : 5000 ≤ N) (h : k_tree f b T) (hp0 : p < T.1.1) (hf : k_fr f f1 (b + 4) (b + 5)) (e2 : f1 (b + 4) = some (.inl (.int, 160, .inl hp))) (e3 : ∀ j, j < T.1.1 - 1 → hp j = k_rem p P j) :
    ∃ f', F_X2_removeAt N f1 (b + 1) (nI p) = some f' ∧ k_tree f' b ((T.1.1 - 1, k_rem p T.1.2.1, k_rem p T.1.2.2), k_rem p P, T.2.2) ∧ k_fr f f' b (b + 6) := by
  have h1 := h.setp hf e2 (P := hp) (fun i hi => rfl)
  obtain ⟨f', q1, q2, q3⟩ := k_removeAt (N := N) hN h1.row hp0
  refine ⟨f', q1, ?_, (hf.wd (by omega) (by omega)).tr (q3.wd (by omega) (by omega))⟩
  have := h1.setrow q3 q2 (by show T.1.1 - 1 ≤ T.1.1; omega)
  exact this.cong rfl (fun i hi => ⟨rfl, rfl, e3 i hi⟩) rfl (fun i hi => rfl) rfl
theorem k_takeOut {f : XM} (hN : 5000 ≤ N) (h : k_tree f b T) (hw : k_wt T) {k : Int32} (hk : 0 ≤ k.toInt) : ∃ f', F_X4_takeOut N f b k = some ((if k_pl T.1.1 T.1.2.1 k < T.1.1 then T.1.2.2 (k_pl T.1.1 T.1.2.1 k) else -1), f') ∧ (if k_pl T.1.1 T.1.2.1 k < T.1.1 then k_tree f' b (k_tdel T k) else f' = f) ∧ k_fr f f' b (b + 6) := by
  have hrl := h.row.le
  have hlf := k_lf_le T k
  have hl5 := h.2.2.2.2
  simp only [F_X4_takeOut, h.r, h.row.cv, h.cv, k_placeOf (N := N) (by omega) h.row hw.1, Option.bind_some]
  by_cases g1 : k_pl T.1.1 T.1.2.1 k < T.1.1
  · obtain ⟨gp, hg1, hg2⟩ := h.raw
    have hp := hg2 _ g1
    simp only [if_pos g1]
    rw [if_neg (nI_pos (by omega))]
    simp only [h.p, h.pl, Option.bind_some]
    rw [if_pos (show nI _ < nI 160 from nI_lt (by omega) (by omega))]
    simp only [k_valueOn h.row g1, h.pa g1, Option.bind_some, k_add1]
    by_cases g2 : T.2.1 (k_pl T.1.1 T.1.2.1 k) ≤ 0
    · obtain ⟨f1, hp1, e1, e2, e3, e4⟩ := k_to_loop (N := N) (c2 := nI (k_pl T.1.1 T.1.2.1 k)) (c3 := T.1.2.2 (k_pl T.1.1 T.1.2.1 k)) (p := k_pl T.1.1 T.1.2.1 k) (K := fun y4_26 g26 =>
        (x_getr g26 4 b 0).bind fun v27 =>
        Option.bind v27 fun a28 =>
        (x_cv g26 2 a28 (F_X2_removeAt N g26 a28 (nI (k_pl T.1.1 T.1.2.1 k)))).bind fun z29 =>
        some (T.1.2.2 (k_pl T.1.1 T.1.2.1 k), z29)) hrl (T.1.1 - (k_pl T.1.1 T.1.2.1 k + 1)) N (k_pl T.1.1 T.1.2.1 k + 1) f gp (by omega) (by omega) (by omega) h rfl hg1
      have hne : ¬ 0 < T.2.1 (k_pl T.1.1 T.1.2.1 k) := by rw [k_i_lt]; rw [k_i_le] at g2; omega
      obtain ⟨f2, q1, q2, q3⟩ := k_tdel_fin (N := N) (P := k_tup T k) hN h g1 e4 e2 (fun j hj => by
        rw [e3 j]
        unfold k_rem k_tup
        by_cases z : j < k_pl T.1.1 T.1.2.1 k
        · rw [if_neg (by omega), if_pos z, if_neg (fun z => hne z.1), hg2 j (by omega)]
        · rw [if_pos (by omega), if_neg z, if_neg (fun z => hne z.1), hg2 (j + 1) (by omega)])
      refine ⟨f2, ?_, q2, q3⟩
      rw [if_pos g2, e1]
      have h1 := h.setp e4 e2 (P := hp1) (fun i hi => rfl)
      simp only [h1.r, h1.row.cv, q1, Option.bind_some]
    · have hpos := k_lf_pos hw hk (by
        rcases Nat.eq_zero_or_pos T.2.2.1 with z | z
        · have := hw.2.2.2.2.1 z; omega
        · exact z)
      obtain ⟨q, hq⟩ : ∃ q, k_lf T k = q + 1 := ⟨k_lf T k - 1, by omega⟩
      have hr2 := k_rk_le T.1.1 T.1.2.1 (k_bd T (q + 1))
      have hm := k_rk_mono hw.1 (k_bd_mono hw (show q ≤ q + 1 by omega))
      obtain ⟨f0, hp0, d1, d2, d3, d4⟩ := k_mub_loop (N := N) (b := b) (x := T.2.1 (k_pl T.1.1 T.1.2.1 k)) (hi := k_rk T.1.1 T.1.2.1 (k_bd T (q + 1))) (K := fun y4_20 g20 => some g20) (k_rk T.1.1 T.1.2.1 (k_bd T (q + 1)) - k_rk T.1.1 T.1.2.1 (k_bd T q)) N (k_rk T.1.1 T.1.2.1 (k_bd T q)) f gp (by omega) (by omega) (by omega) h.p (fun e => k_getr ((x_up_n (by omega)).trans h.1) rfl) hg1
      have hup : ∀ i, i < T.1.1 → hp0 i = k_tup T k i := fun i hi => by
        rw [d3 i]
        unfold k_tup
        have hin : k_inl T (k_lf T k - 1) (T.1.2.1 i) = true ↔ k_rk T.1.1 T.1.2.1 (k_bd T q) ≤ i ∧ i < k_rk T.1.1 T.1.2.1 (k_bd T (q + 1)) := by
          rw [hq, Nat.add_sub_cancel]
          unfold k_inl
          rw [decide_eq_true_eq, k_rk_iff hw.1 hi]
          have := k_rk_iff hw.1 hi (a := k_bd T (q + 1))
          omega
        rw [hg2 i hi]
        by_cases z : k_rk T.1.1 T.1.2.1 (k_bd T q) ≤ i ∧ i < k_rk T.1.1 T.1.2.1 (k_bd T (q + 1)) ∧ T.2.1 (k_pl T.1.1 T.1.2.1 k) < T.2.1 i
        · rw [if_pos z, if_pos ⟨by rw [k_i_lt]; rw [k_i_le] at g2; omega, hin.mpr ⟨z.1, z.2.1⟩, z.2.2⟩]
        · rw [if_neg z, if_neg (fun y => z ⟨(hin.mp y.2.1).1, (hin.mp y.2.1).2, y.2.2⟩)]
      have h0 := h.setp d4 d2 hup
      obtain ⟨f1, hp1, e1, e2, e3, e4⟩ := k_to_loop (N := N) (T := (T.1, k_tup T k, T.2.2)) (c2 := nI (k_pl T.1.1 T.1.2.1 k)) (c3 := T.1.2.2 (k_pl T.1.1 T.1.2.1 k)) (p := k_pl T.1.1 T.1.2.1 k) (K := fun y4_48 g48 =>
        (x_getr g48 4 b 0).bind fun v49 =>
        Option.bind v49 fun a50 =>
        (x_cv g48 2 a50 (F_X2_removeAt N g48 a50 (nI (k_pl T.1.1 T.1.2.1 k)))).bind fun z51 =>
        some (T.1.2.2 (k_pl T.1.1 T.1.2.1 k), z51)) hrl (T.1.1 - (k_pl T.1.1 T.1.2.1 k + 1)) N (k_pl T.1.1 T.1.2.1 k + 1) f0 hp0 (by omega) (by omega) (by omega) h0 rfl d2
      obtain ⟨f2, q1, q2, q3⟩ := k_tdel_fin (N := N) (P := k_tup T k) hN h g1 (d4.tr e4) e2 (fun j hj => by
        rw [e3 j]
        unfold k_rem
        by_cases z : j < k_pl T.1.1 T.1.2.1 k
        · rw [if_neg (by omega), if_pos z, hup j (by omega)]
        · rw [if_pos (by omega), if_neg z, hup (j + 1) (by omega)])
      refine ⟨f2, ?_, q2, q3⟩
      rw [if_neg g2, k_leafOfKey (show 1000 ≤ N by omega) h hw, hq, nI_pred]
      simp only [Option.bind_some, F_X4_moveUpBehind, h.r, h.cv, h.row.cv, k_add1, k_boundOn h (l := q) (by omega), k_boundOn h (l := q + 1) (by omega), k_firstFrom (show 1000 ≤ N by omega) h.row hw.1, d1, e1]
      have h1 := h0.setp e4 e2 (P := hp1) (fun i hi => rfl)
      simp only [h1.r, h1.row.cv, q1, Option.bind_some]
  · refine ⟨f, ?_, ?_, k_fr.rf⟩
    · rw [if_neg g1, if_pos (by decide), if_neg g1]
    · rw [if_neg g1]
/-- a tree as it is built -/
def k_tbl (Q : KR) (each : Nat) (T : KT) : KT := (Q, (fun _ => 0), k_ru Q.1 each, (fun i => if i = 0 then 0 else Q.2.1 (each * i)), T.2.2.2.2)
theorem k_tb_loop {Q : KR} {each : Nat} (hN : 5000 ≤ N) (he : 1 ≤ each) (he2 : each ≤ 1000) (hQ : Q.1 ≤ 160) : ∀ (d fuel i : Nat) (f : XM) (T : KT), i + d = Q.1 → d < fuel → k_tree f b T → T.1 = Q → T.2.2.1 = k_ru i each → (∀ j, j < T.2.2.1 → T.2.2.2.1 j = if j = 0 then 0 else Q.2.1 (each * j)) → (∀ j, j < i → T.2.1 j = 0) →
    ∃ f', F_X4_buildOutOf_L18 N b (nI each) (fun _ _ g => some g) fuel (nI (each * k_ru i each - i)) (nI i) f = some f' ∧ k_tree f' b (k_tbl Q each T) ∧ k_fr f f' b (b + 6) := by
  intro d
  induction d with
  | zero =>
    intro fuel i f T h1 h2 ht e1 e2 e3 e4
    obtain ⟨u, rfl⟩ : ∃ u, fuel = u + 1 := ⟨fuel - 1, by omega⟩
    have ei : i = Q.1 := by omega
    refine ⟨f, ?_, ?_, k_fr.rf⟩
    · simp only [F_X4_buildOutOf_L18, ht.r, ht.row.n, Option.bind_some, e1]
      rw [if_pos (nI_le (by omega) (by omega))]
    · exact ht.cong (by rw [e1]; rfl) (fun j hj => ⟨by rw [e1]; rfl, by rw [e1]; rfl, e4 j (by rw [e1] at hj; omega)⟩) (by rw [e2, ei]; rfl) (fun j hj => e3 j hj) rfl
  | succ d ih =>
    intro fuel i f T h1 h2 ht e1 e2 e3 e4
    obtain ⟨u, rfl⟩ : ∃ u, fuel = u + 1 := ⟨fuel - 1, by omega⟩
    obtain ⟨gp, hg1, hg2⟩ := ht.raw
    have hn : T.1.1 = Q.1 := by rw [e1]
    have ht2 : k_tree (x_up f (b + 4) (.inl (.int, 160, .inl (upd gp i 0)))) b (T.1, upd gp i 0, T.2.2) := ht.setp (k_fr.up (by omega) (by omega)) x_up_s (fun i hi => rfl)
    have hp : ∀ j, j < i + 1 → upd gp i 0 j = 0 := fun j hj => by
      by_cases z : j = i
      · rw [z, k_upd_s]
      · rw [k_upd_n z, hg2 j (by omega)]; exact e4 j (by omega)
    -- how many leaves: i ≤ each * k_ru i each < i + each
    have r1 : i ≤ each * k_ru i each ∧ each * k_ru i each < i + each := by
      unfold k_ru
      have a1 := Nat.div_add_mod (i + each - 1) each
      have a2 := Nat.mod_lt (i + each - 1) (show 0 < each by omega)
      omega
    by_cases g : each * k_ru i each - i = 0
    · have hx : each * k_ru i each = i := by omega
      have hru : k_ru (i + 1) each = k_ru i each + 1 := by
        have : i + 1 + each - 1 = i + each := by omega
        show (i + 1 + each - 1) / each = _
        rw [this, Nat.add_div_right _ (by omega), Nat.div_eq_of_eq_mul_right (show 0 < each by omega) hx.symm]
      have hlc : k_ru i each ≤ i := k_ru_le he
      have hkey : F_X2_keyOn N (x_up f (b + 4) (.inl (.int, 160, .inl (upd gp i 0)))) (b + 1) (nI i) = some (Q.2.1 i) := by
        rw [k_keyOn ht2.row (show i < T.1.1 by omega)]
        show some (T.1.2.1 i) = _
        rw [e1]
      obtain ⟨f1, q1, q2, q3⟩ := k_addLeaf (N := N) ht2 (by show T.2.2.1 < 512; omega) (Q.2.1 i)
      obtain ⟨f', w1, w2, w3⟩ := ih u (i + 1) f1 _ (by omega) (by omega) q2 e1 (by show T.2.2.1 + 1 = _; rw [e2, hru]) (fun j hj => by
        have hj' : j < T.2.2.1 + 1 := hj
        show upd T.2.2.2.1 T.2.2.1 (if T.2.2.1 = 0 then 0 else Q.2.1 i) j = _
        by_cases z : j = T.2.2.1
        · rw [z, k_upd_s, e2, hx]
        · rw [k_upd_n z]; exact e3 j (by omega)) (fun j hj => hp j hj)
      refine ⟨f', ?_, w2, ((k_fr.up (by omega) (by omega)).tr q3).tr w3⟩
      simp only [F_X4_buildOutOf_L18, ht.r, ht.row.n, ht.p, ht.pl, Option.bind_some, k_ast hg1 (i := i) (by omega) (by omega), e1]
      rw [if_neg (nI_ge (by omega) (by omega)), if_neg (show ¬ nI 160 ≤ nI i from nI_ge (by omega) (by omega)), g, if_pos (by rfl)]
      simp only [ht2.r, ht2.row.cv, ht2.cv, hkey, Option.bind_some, q1, k_add1]
      obtain ⟨e', he'⟩ : ∃ e', each = e' + 1 := ⟨each - 1, by omega⟩
      have hc : nI each + (-1) = nI (each * k_ru (i + 1) each - (i + 1)) := by
        rw [hru, Nat.mul_add, hx, Nat.mul_one, show i + each - (i + 1) = each - 1 by omega, he', pk_m1]
        rfl
      rw [hc]
      exact w1
    · have hru : k_ru (i + 1) each = k_ru i each := by
        show (i + 1 + each - 1) / each = k_ru i each
        have a3 : (i + 1 + each - 1) / each < k_ru i each + 1 := (Nat.div_lt_iff_lt_mul (by omega)).mpr (by
          rw [Nat.add_mul, Nat.mul_comm (k_ru i each)]
          omega)
        have a4 : k_ru i each ≤ (i + 1 + each - 1) / each := Nat.div_le_div_right (by omega)
        omega
      obtain ⟨f', w1, w2, w3⟩ := ih u (i + 1) _ _ (by omega) (by omega) ht2 e1 (by show T.2.2.1 = _; rw [e2, hru]) (fun j hj => e3 j hj) (fun j hj => hp j hj)
      refine ⟨f', ?_, w2, (k_fr.up (by omega) (by omega)).tr w3⟩
      simp only [F_X4_buildOutOf_L18, ht.r, ht.row.n, ht.p, ht.pl, Option.bind_some, k_ast hg1 (i := i) (by omega) (by omega), e1]
      rw [if_neg (nI_ge (by omega) (by omega)), if_neg (show ¬ nI 160 ≤ nI i from nI_ge (by omega) (by omega)), if_neg (nI_ne0 (by omega) (by omega)), k_add1]
      have hc : nI (each * k_ru i each - i) + (-1) = nI (each * k_ru (i + 1) each - (i + 1)) := by
        rw [hru]
        obtain ⟨e', he'⟩ : ∃ e', each * k_ru i each - i = e' + 1 := ⟨each * k_ru i each - i - 1, by omega⟩
        rw [he', pk_m1]
        congr 1
        omega
      rw [hc]
      exact w1
theorem k_buildOutOf {f : XM} {Q : KR} {a c each : Nat} (hN : 5000 ≤ N) (he : 1 ≤ each) (he2 : each ≤ 1000) (h : k_tree f b T) (hQ : Q.1 ≤ 160) (hr : k_row f a c Q) (hd : a + 3 ≤ b ∨ b + 6 ≤ a) : ∃ f', F_X4_buildOutOf N f b a (nI each) = some f' ∧ k_tree f' b (k_tbl Q each T) ∧ k_fr f f' b (b + 6) := by
  obtain ⟨f1, q1, q2, q3⟩ := k_copyFrom (N := N) h.row hr hQ (by omega)
  obtain ⟨h1, h2, ⟨gp, h3, h4⟩, ⟨gb, h5, h6⟩, h7⟩ := h
  have o1 : f1 b = _ := (q3 b (by omega)).trans h1
  have ht : k_tree (x_up f1 b (.inr (4, [.ref (b + 1), .ref (b + 4), .ref (b + 5), .int (nI 0), .int T.2.2.2.2.1, .int T.2.2.2.2.2]))) b (Q, gp, 0, gb, T.2.2.2.2) :=
    ⟨x_up_s, q2.ext (fun q a c => x_up_n (by omega)), ⟨gp, (x_up_n (by omega)).trans ((q3 _ (by omega)).trans h3), fun i hi => rfl⟩, ⟨gb, (x_up_n (by omega)).trans ((q3 _ (by omega)).trans h5), fun i hi => rfl⟩, by show 0 ≤ 512; omega⟩
  have hz : k_ru 0 each = 0 := Nat.div_eq_of_lt (by omega)
  obtain ⟨f', w1, w2, w3⟩ := k_tb_loop (N := N) hN he he2 hQ Q.1 N 0 _ _ (by omega) (by omega) ht rfl hz.symm (fun j hj => absurd hj (Nat.not_lt_zero _)) (fun j hj => absurd hj (Nat.not_lt_zero _))
  rw [hz, Nat.mul_zero, Nat.zero_sub] at w1
  refine ⟨f', ?_, w2, ((q3.wd (by omega) (by omega)).upd (by omega) (by omega)).tr w3⟩
  simp only [F_X4_buildOutOf, k_getr h1 (k := 0) rfl, h2.cv, q1, Option.bind_some, k_puti o1 (k := 3) (by simp), List.set_cons_succ, List.set_cons_zero]
  exact w1
end KTD

