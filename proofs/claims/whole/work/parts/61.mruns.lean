/-! The reference: runs told, closed, merged. -/
theorem k_me.mono {G : Nat → Int32} {T : KT} {c c' : Nat} (h : k_me G T c) (hc : c ≤ c') : k_me G T c' := by
  obtain ⟨h1, h2, h3, h4⟩ := h
  refine ⟨h1, fun j hj => ?_, h3, h4⟩
  obtain ⟨a, b, d, ⟨o, o1, o2, o3⟩, e⟩ := h2 j hj
  exact ⟨a, b, d, ⟨o, o1, o2, by omega⟩, e⟩
theorem k_me.cong {G G' : Nat → Int32} {T : KT} {c : Nat} (h : k_me G T c) (hn : T.1.1 ≤ 160) (e : ∀ a, 856 ≤ a → a < 1496 → G' a = G a) : k_me G' T c := by
  have ek : ∀ j, j < T.1.1 → k_eK G' j = k_eK G j := fun j hj => e _ (by omega) (by omega)
  have ev : ∀ j, j < T.1.1 → k_eV G' j = k_eV G j := fun j hj => e _ (by omega) (by omega)
  have el : ∀ j, j < T.1.1 → k_eL G' j = k_eL G j := fun j hj => e _ (by omega) (by omega)
  have eo : ∀ j, j < T.1.1 → k_eO G' j = k_eO G j := fun j hj => e _ (by omega) (by omega)
  obtain ⟨h1, h2, h3, h4⟩ := h
  refine ⟨fun i j hi hj => by rw [ek i (by omega), ek j hj]; exact h1 i j hi hj, fun j hj => ?_, fun i hi => ?_, fun i j hi hj => ?_⟩
  · have ea : k_ahd G' T.1.1 j = k_ahd G T.1.1 j := k_cnt_cong (fun i hi => by rw [el i hi, el j hj, eo i hi, eo j hj])
    rw [ek j hj, ev j hj, el j hj, eo j hj, ea]
    exact h2 j hj
  · obtain ⟨j, hj, e1⟩ := h3 i hi
    exact ⟨j, hj, (ek j hj).trans e1⟩
  · rw [el i (by omega), el j hj, eo i (by omega), eo j hj]
    exact h4 i j hi hj
theorem k_ms.rr {G : Nat → Int32} {S : KS} {c r : Nat} (h : k_ms G S c) (hr : r ≤ S.1) : k_rr G r (S.2.1 r) := h.2.2.2.1 r hr
theorem k_ms.mono {G : Nat → Int32} {S : KS} {c c' : Nat} (h : k_ms G S c) (hc : c ≤ c') (hc' : c' ≤ 1200) : k_ms G S c' := by
  obtain ⟨h1, h2, h3, h4, h5, h6, h7, h8, h9, ⟨b, b1, b2, b3⟩, h11⟩ := h
  exact ⟨h1, hc', h3, h4, h5, h6, h7, h8.mono hc, by omega, ⟨b, b1, b2, by omega⟩, by omega⟩
theorem k_ms.cong {G G' : Nat → Int32} {S : KS} {c : Nat} (h : k_ms G S c) (e : ∀ a, a < 6696 → G' a = G a) : k_ms G' S c := by
  have hw := h.1
  have hn := h.wt.2.2.1
  have hl := h.wt.2.2.2.1
  have hs := fun r (hr : r ≤ S.1) => h.sz hr
  obtain ⟨h1, h2, ⟨a0, a1, a4, a5, a6, a7, a8⟩, h4, h5, h6, h7, h8, h9⟩ := h
  refine ⟨h1, h2, ⟨(e 0 (by omega)).trans a0, (e 1 (by omega)).trans a1, (e 4 (by omega)).trans a4, (e 5 (by omega)).trans a5, (e 6 (by omega)).trans a6, (e 7 (by omega)).trans a7, (e 8 (by omega)).trans a8⟩, fun r hr => ⟨(e _ (by have := hw.1; omega)).trans (h4 r hr).1, fun i hi => ⟨(e _ (by have := hw.1; have := hs r hr; omega)).trans ((h4 r hr).2 i hi).1, (e _ (by have := hw.1; have := hs r hr; omega)).trans ((h4 r hr).2 i hi).2⟩⟩, fun l hl' => (e _ (by omega)).trans (h5 l hl'), h6, fun z => by rw [e 2 (by omega), e 3 (by omega)]; exact h7 z, h8.cong hn (fun a _ hb => e a (by omega)), h9⟩
/-- the runs have changed -/
theorem k_ms.runs {G G' : Nat → Int32} {S S' : KS} {c c' : Nat} (h : k_ms G S c) (hw : k_ws S') (hT : S'.2.2 = S.2.2) (h6 : G' 6 = nI S'.1) (hsame : ∀ a, (a < 6 ∨ a = 7 ∨ a = 8 ∨ 856 ≤ a) → G' a = G a) (hr : ∀ r, r ≤ S'.1 → k_rr G' r (S'.2.1 r)) (hc : c ≤ c') (hc' : c' ≤ 1200) (ht : k_told S' + S.2.2.1.1.1 ≤ c') : k_ms G' S' c' := by
  have hn := h.wt.2.2.1
  obtain ⟨h1, h2, ⟨a0, a1, a4, a5, a6, a7, a8⟩, h4, h5, h6', h7, h8, h9, ⟨b, b1, b2, b3⟩, h11⟩ := h
  refine ⟨hw, hc', ?_, hr, ?_, ?_, ?_, ?_, ?_, ?_, ?_⟩
  · rw [hT]
    exact ⟨(hsame 0 (by omega)).trans a0, (hsame 1 (by omega)).trans a1, (hsame 4 (by omega)).trans a4, (hsame 5 (by omega)).trans a5, h6, (hsame 7 (by omega)).trans a7, (hsame 8 (by omega)).trans a8⟩
  · rw [hT]; exact fun l hl => (hsame _ (by omega)).trans (h5 l hl)
  · rw [hT]; exact h6'
  · rw [hT, hsame 2 (by omega), hsame 3 (by omega)]; exact h7
  · rw [hT]; exact (h8.mono hc).cong hn (fun a ha _ => hsame a (by omega))
  · rw [hT]; omega
  · rw [hT]; exact ⟨b, b1, b2, by omega⟩
  · rw [hT]; exact ht
section KMU
variable {N : Nat} {f : XM} {m c : Nat} {V : KM} {S : KS}
theorem k_mcanWrite (hN : 1000 ≤ N) (h : k_mo f m V) (hs : k_ms (V.1 1) S c) (k : Int32) : F_X6_canWrite N f m k = some (decide (k_pl (S.2.1 0).1 (S.2.1 0).2.1 k < (S.2.1 0).1 ∨ (S.2.1 0).1 < 12)) := by
  have ho := hs.1.2.2.1
  have p0 : F_X6_placeIn N f m 0 k = _ := k_placeIn' hN h (r := 0) (by omega) (hs.rr (Nat.zero_le _)) (by omega) k
  have s0 : F_X6_size N f m 0 = _ := k_size' h (r := 0) (by omega) (hs.rr (Nat.zero_le _))
  simp only [F_X6_canWrite, h.cv, p0, s0, Option.bind_some]
  by_cases g : k_pl (S.2.1 0).1 (S.2.1 0).2.1 k < (S.2.1 0).1
  · rw [if_pos g, if_neg (k_nim1 _ (by omega)), decide_eq_true (Or.inl g)]
  · rw [if_neg g, if_pos rfl]
    by_cases g2 : (S.2.1 0).1 < 12
    · rw [if_neg (show ¬ (12 : Int32) ≤ nI (S.2.1 0).1 from nI_ge (b := 12) g2 (by omega)), decide_eq_true (Or.inr g2)]
    · rw [if_pos (show (12 : Int32) ≤ nI (S.2.1 0).1 from nI_le (a := 12) (by omega) (by omega)), decide_eq_false (by omega)]
theorem k_mtells (hN : 5000 ≤ N) (h : k_mo f m V) (hs : k_ms (V.1 1) S c) {k : Int32} (hk : 0 ≤ k.toInt ∧ k.toInt < 10000) (v : Int32) (hc : c + 1 ≤ 1200) (ho : k_pl (S.2.1 0).1 (S.2.1 0).2.1 k < (S.2.1 0).1 ∨ (S.2.1 0).1 < 12) : ∃ (f' : XM) (V' : KM), F_X6_tells N f m k v = some (nI (k_wr (S.2.1 0) k v).1, f') ∧ k_mo f' m V' ∧ k_mx V V' [1] [] ∧ k_fr f f' m (m + 10) ∧ k_ms (V'.1 1) (k_s0 S (k_wr (S.2.1 0) k v)) (c + 1) := by
  have h12 := hs.1.2.2.1
  have h6 := hs.1.1
  obtain ⟨f1, V1, a1, a2, a3, a4, a5, a6⟩ := k_writes (N := N) hN h (r := 0) (by omega) (hs.rr (Nat.zero_le _)) (hs.1.2.1 0 (Nat.zero_le _)) (by omega) v (show _ ∨ (S.2.1 0).1 < 60 by omega)
  have a1' : F_X6_writes N f m 0 k v = some f1 := a1
  have s0 : F_X6_size N f1 m 0 = _ := k_size' a2 (r := 0) (by omega) a5
  refine ⟨f1, V1, ?_, a2, a3, a4, ?_⟩
  · simp only [F_X6_tells, h.cv, a1', a2.cv, s0, Option.bind_some]
  · refine hs.runs (k_ws_s0 hs.1 hk ho) rfl ?_ (fun a ha => a6 a (by omega)) (fun r hr => ?_) (by omega) hc ?_
    · rw [a6 6 (by omega)]; exact hs.2.2.1.2.2.2.2.1
    · have hr' : r ≤ S.1 := hr
      show k_rr (V1.1 1) r (if r = 0 then _ else S.2.1 r)
      by_cases z : r = 0
      · rw [if_pos z, z]; exact a5
      · rw [if_neg z]
        have hz := hs.sz hr'
        exact ⟨(a6 _ (by omega)).trans (hs.rr hr').1, fun i hi => ⟨(a6 _ (by omega)).trans ((hs.rr hr').2 i hi).1, (a6 _ (by omega)).trans ((hs.rr hr').2 i hi).2⟩⟩
    · have h1 := k_told_s0 S (k_wr (S.2.1 0) k v)
      have h2 := hs.2.2.2.2.2.2.2.2.2.2
      have h3 : (k_wr (S.2.1 0) k v).1 ≤ (S.2.1 0).1 + 1 := by
        rw [k_wr_n]
        split <;> omega
      omega
theorem k_mcanClose (h : k_mo f m V) (hs : k_ms (V.1 1) S c) : F_X6_canClose N f m = some (decide (¬ ((S.2.1 0).1 = 0 ∨ S.1 = 6))) := by
  have h12 := hs.1.2.2.1
  have h6 := hs.1.1
  have s0 : F_X6_size N f m 0 = _ := k_size' h (r := 0) (by omega) (hs.rr (Nat.zero_le _))
  simp only [F_X6_canClose, h.cv, s0, h.r0, k_l6 h hs, Option.bind_some]
  by_cases g : (S.2.1 0).1 = 0
  · rw [if_pos (by rw [g]; decide), decide_eq_false (by omega)]
  · rw [if_neg (show ¬ nI (S.2.1 0).1 ≤ 0 from nI_ge (a := 0) (by omega) (by omega))]
    by_cases g2 : S.1 = 6
    · rw [if_pos (show (6 : Int32) ≤ nI S.1 from nI_le (a := 6) (by omega) (by omega)), decide_eq_false (by omega)]
    · rw [if_neg (show ¬ (6 : Int32) ≤ nI S.1 from nI_ge (b := 6) (by omega) (by omega)), decide_eq_true (by omega)]
theorem k_cl_loop {K : Int32 → XM → Option (Int32 × XM)} : ∀ (d fuel i : Nat) (f : XM) (V : KM), i = 9 + d → d < fuel → i ≤ 735 → k_mo f m V →
    ∃ (f' : XM) (V' : KM), F_X6_closes_L18 N m K fuel (nI i - 1) f = K (nI 9 - 1) f' ∧ k_mo f' m V' ∧ k_mx V V' [1] [] ∧ k_fr f f' m (m + 10) ∧ (∀ a, V'.1 1 a = if 130 ≤ a ∧ a < 121 + i then V.1 1 (a - 121) else V.1 1 a) := by
  intro d
  induction d with
  | zero =>
    intro fuel i f V e1 e2 e3 h
    obtain ⟨u, rfl⟩ : ∃ u, fuel = u + 1 := ⟨fuel - 1, by omega⟩
    have e : i = 9 := by omega
    subst e
    refine ⟨f, V, ?_, h, k_mx.rf, k_fr.rf, fun a => by rw [if_neg (by omega)]⟩
    rw [F_X6_closes_L18, if_pos (by rw [show nI 9 - 1 = nI 8 from nI_pred 8]; exact nI_lt (b := 9) (by omega) (by omega))]
  | succ d ih =>
    intro fuel i f V e1 e2 e3 h
    obtain ⟨u, rfl⟩ : ∃ u, fuel = u + 1 := ⟨fuel - 1, by omega⟩
    obtain ⟨q, rfl⟩ : ∃ q, i = q + 1 := ⟨i - 1, by omega⟩
    obtain ⟨f1, b1, b2, b3⟩ := h.st (a := 1) (i := q + 121) (by omega) (by omega) (by show _ < 6696; omega) (V.1 1 q)
    obtain ⟨f', V', r1, r2, r3, r4, r5⟩ := ih u q f1 _ (by omega) (by omega) (by omega) b2
    refine ⟨f', V', ?_, r2, (k_sA_mx (by simp)).tr r3, b3.tr r4, fun a => ?_⟩
    · rw [F_X6_closes_L18, nI_pred, if_neg (show ¬ nI q < 9 from nI_nlt (b := 9) (by omega) (by omega))]
      have ix : (nI q + 121 : Int32) = nI (q + 121) := by rw [k_lit 121, nI_add]
      simp only [h.r0, ix, k_ld1 h (i := q) (by omega), b1, Option.bind_some, k_m1]
      exact r1
    · rw [r5 a, k_sA_s]
      by_cases z : a = q + 121
      · rw [if_neg (by omega), if_pos (by omega), z, k_upd_s]
        exact congrArg (V.1 1) (by omega)
      · rw [k_upd_n z]
        by_cases z2 : 130 ≤ a ∧ a < 121 + q
        · rw [if_pos z2, if_pos (by omega), k_upd_n (by omega)]
        · rw [if_neg z2, if_neg (by omega)]
theorem k_mcloses (hN : 5000 ≤ N) (h : k_mo f m V) (hs : k_ms (V.1 1) S c) (hc6 : S.1 < 6) : ∃ (f' : XM) (V' : KM), F_X6_closes N f m = some (nI (S.1 + 1), f') ∧ k_mo f' m V' ∧ k_mx V V' [1] [] ∧ k_fr f f' m (m + 10) ∧ k_ms (V'.1 1) (k_scl S) c := by
  obtain ⟨f1, V1, l1, l2, l3, l4, l5⟩ := k_cl_loop (N := N) (m := m) (K := fun y1_11 g11 =>
  (x_getr g11 6 m 0).bind fun v12 =>
  Option.bind v12 fun a13 =>
  (x_ast g11 a13 9 0).bind fun f14 =>
  (x_getr f14 6 m 0).bind fun v15 =>
  Option.bind v15 fun a16 =>
  (x_ald f14 a16 6).bind fun v17 =>
  (x_ast f14 a16 6 (v17 + 1)).bind fun f18 =>
  (x_getr f18 6 m 0).bind fun v19 =>
  Option.bind v19 fun a20 =>
  (x_ald f18 a20 6).bind fun v21 =>
  some (v21, f18)) (121 * (S.1 + 1)) N (9 + 121 * (S.1 + 1)) f V rfl (by omega) (by omega) h
  obtain ⟨f2, a1, a2, a3⟩ := l2.st (a := 1) (i := 9) (by omega) (by omega) (by show _ < 6696; omega) 0
  have e6 : (k_sA V1 1 9 0).1 1 6 = nI S.1 := by
    rw [k_sA_s, k_upd_n (by omega), l5, if_neg (by omega)]; exact hs.2.2.1.2.2.2.2.1
  obtain ⟨f3, b1, b2, b3⟩ := a2.st (a := 1) (i := 6) (by omega) (by omega) (by show _ < 6696; omega) (nI (S.1 + 1))
  have e66 : (k_sA (k_sA V1 1 9 0) 1 6 (nI (S.1 + 1))).1 1 6 = nI (S.1 + 1) := by rw [k_sA_s, k_upd_s]
  have hV : ∀ a, a ≠ 6 → a ≠ 9 → (k_sA (k_sA V1 1 9 0) 1 6 (nI (S.1 + 1))).1 1 a = if 130 ≤ a ∧ a < 121 + (9 + 121 * (S.1 + 1)) then V.1 1 (a - 121) else V.1 1 a := fun a y1 y2 => by
    rw [k_sA_s, k_upd_n y1, k_sA_s, k_upd_n y2, l5]
  refine ⟨f3, _, ?_, b2, (l3.tr (k_sA_mx (by simp))).tr (k_sA_mx (by simp)), (l4.tr a3).tr b3, ?_⟩
  · have ix : (9 + 121 * (nI S.1 + 1) : Int32) = nI (9 + 121 * (S.1 + 1)) := by rw [k_add1, k_ixs]
    have d1 : x_ast f1 (m + 1) 9 0 = some f2 := a1
    have d2 : x_ald f2 (m + 1) 6 = some (nI S.1) := by rw [← e6]; exact k_ld1 a2 (i := 6) (by omega)
    have d3 : x_ast f2 (m + 1) 6 (nI (S.1 + 1)) = some f3 := b1
    have d4 : x_ald f3 (m + 1) 6 = some (nI (S.1 + 1)) := by rw [← e66]; exact k_ld1 b2 (i := 6) (by omega)
    simp only [F_X6_closes, h.r0, k_l6 h hs, Option.bind_some, ix]
    refine l1.trans ?_
    simp only [l2.r0, d1, a2.r0, d2, k_add1, d3, b2.r0, d4, Option.bind_some]
  · refine hs.runs (k_ws_cl hs.1 hc6) rfl e66 (fun a ha => ?_) (fun r hr => ?_) (Nat.le_refl _) hs.2.1 ?_
    · rw [hV a (by omega) (by omega), if_neg (by omega)]
    · have hr' : r ≤ S.1 + 1 := hr
      show k_rr _ r (if r = 0 then (0, (S.2.1 0).2) else S.2.1 (r - 1))
      by_cases z : r = 0
      · rw [if_pos z, z]
        refine ⟨?_, fun i hi => absurd hi (Nat.not_lt_zero _)⟩
        rw [k_sA_s, k_upd_n (by omega), k_sA_s, k_upd_s]
        rfl
      · rw [if_neg z]
        have hz := hs.sz (r := r - 1) (by omega)
        have hrr := hs.rr (r := r - 1) (by omega)
        refine ⟨?_, fun i hi => ⟨?_, ?_⟩⟩
        · rw [hV _ (by omega) (by omega), if_pos (by omega), ← hrr.1]
          exact congrArg (V.1 1) (by omega)
        · rw [hV _ (by omega) (by omega), if_pos (by omega), ← (hrr.2 i hi).1]
          exact congrArg (V.1 1) (by omega)
        · rw [hV _ (by omega) (by omega), if_pos (by omega), ← (hrr.2 i hi).2]
          exact congrArg (V.1 1) (by omega)
    · rw [k_told_cl]; exact hs.2.2.2.2.2.2.2.2.2.2
end KMU
