/-! The reference: the building itself. -/
section KMK
variable {N : Nat} {f : XM} {m c : Nat} {V : KM} {S : KS}
theorem k_mk_loop {Q : KR} {each : Nat} (he : 1 ≤ each) (he2 : each ≤ 8) (hQ : Q.1 ≤ 160) {K : Int32 → XM → Option (Int32 × XM)} : ∀ (d fuel i : Nat) (f : XM) (V : KM), i + d = Q.1 → d < fuel → k_mo f m V → (∀ j, j < Q.1 → V.1 7 (2 * j) = Q.2.1 j ∧ V.1 7 (2 * j + 1) = Q.2.2 j) → k_mb (V.1 1) Q each i →
    ∃ (f' : XM) (V' : KM), F_X6_makes_L108 N m (nI Q.1) (nI each) K fuel (nI i) f = K (nI Q.1) f' ∧ k_mo f' m V' ∧ k_mx V V' [1] [] ∧ k_fr f f' m (m + 10) ∧ k_mb (V'.1 1) Q each Q.1 ∧ ∀ a, a < 856 → a ≠ 7 → a ≠ 8 → V'.1 1 a = V.1 1 a := by
  intro d
  induction d with
  | zero =>
    intro fuel i f V h1 h2 h h3 h4
    obtain ⟨u, rfl⟩ : ∃ u, fuel = u + 1 := ⟨fuel - 1, by omega⟩
    have ei : i = Q.1 := by omega
    refine ⟨f, V, ?_, h, k_mx.rf, k_fr.rf, by rw [← ei]; exact h4, fun a _ _ _ => rfl⟩
    rw [F_X6_makes_L108, if_pos (nI_le (by omega) (by omega)), ei]
  | succ d ih =>
    intro fuel i f V h1 h2 h h3 h4
    obtain ⟨u, rfl⟩ : ∃ u, fuel = u + 1 := ⟨fuel - 1, by omega⟩
    obtain ⟨r1, r2, r3⟩ := k_ru_st (i := i) he
    have hle := k_ru_le (c := i) he
    have q1 : x_ald f (m + 7) (nI (2 * i)) = some (Q.2.1 i) := by rw [← (h3 i (by omega)).1]; exact h.ld (by omega) (by omega) (by show _ < 1200; omega)
    have q2 : x_ald f (m + 7) (nI (2 * i + 1)) = some (Q.2.2 i) := by rw [← (h3 i (by omega)).2]; exact h.ld (by omega) (by omega) (by show _ < 1200; omega)
    have q8 : x_ald f (m + 1) 8 = some (nI (k_ru i each)) := by rw [← h4.2.1]; exact k_ld1 h (i := 8) (by omega)
    by_cases g : i % each = 0
    · obtain ⟨s1, s2⟩ := r1 g
      obtain ⟨f1, a1, a2, a3⟩ := h.st (a := 1) (i := 1496 + k_ru i each) (by omega) (by omega) (by show _ < 6696; omega) (if i = 0 then 0 else Q.2.1 i)
      have e8 : (k_sA V 1 (1496 + k_ru i each) (if i = 0 then 0 else Q.2.1 i)).1 1 8 = nI (k_ru i each) := by rw [k_sA_s, k_upd_n (by omega)]; exact h4.2.1
      obtain ⟨f2, b1, b2, b3⟩ := a2.st (a := 1) (i := 8) (by omega) (by omega) (by show _ < 6696; omega) (nI (k_ru i each + 1))
      have hG : ∀ a, (k_sA (k_sA V 1 (1496 + k_ru i each) (if i = 0 then 0 else Q.2.1 i)) 1 8 (nI (k_ru i each + 1))).1 1 a = if a = 8 then nI (k_ru i each + 1) else if a = 1496 + k_ru i each then (if i = 0 then 0 else Q.2.1 i) else V.1 1 a := fun a => by
        rw [k_sA_s]
        by_cases z : a = 8
        · rw [z, k_upd_s, if_pos rfl]
        · rw [k_upd_n z, if_neg z, k_sA_s]
          by_cases z2 : a = 1496 + k_ru i each
          · rw [z2, k_upd_s, if_pos rfl]
          · rw [k_upd_n z2, if_neg z2]
      have e7 : (k_sA (k_sA V 1 (1496 + k_ru i each) (if i = 0 then 0 else Q.2.1 i)) 1 8 (nI (k_ru i each + 1))).1 1 7 = nI i := by rw [hG, if_neg (by omega), if_neg (by omega)]; exact h4.1
      obtain ⟨f3, V3, c1, c2, c3, c4, c5⟩ := k_madds (N := N) b2 e7 (show i < 160 by omega) (Q.2.1 i) (Q.2.2 i) (nI (k_ru i each)) 0
      have m7 : ∀ a, V3.1 7 a = V.1 7 a := fun a => by rw [c3.1 7 (by simp)]; rfl
      have hil : k_ru i each = i / each := by omega
      obtain ⟨f', V', t1, t2, t3, t4, t5, t6⟩ := ih u (i + 1) f3 V3 (by omega) (by omega) c2 (fun j hj => by rw [m7, m7]; exact h3 j hj) (h4.add he (by omega) (lc := k_ru i each + 1) s2.symm (by rw [c5]; unfold k_Ga; rw [if_neg (by omega), if_neg (by omega), if_neg (by omega), if_neg (by omega), if_neg (by omega), hG, if_pos rfl]) (fun l hl => by
          rw [c5]; unfold k_Ga; rw [if_neg (by omega), if_neg (by omega), if_neg (by omega), if_neg (by omega), if_neg (by omega), hG, if_neg (by omega)]
          by_cases z : l = k_ru i each
          · rw [if_pos (by rw [z]), z, s1]
            by_cases z0 : i = 0
            · rw [if_pos z0, if_pos (by omega)]
            · rw [if_neg z0, if_neg (fun e => z0 (by rw [e, Nat.mul_zero] at s1; exact s1.symm))]
          · rw [if_neg (by omega)]; exact h4.2.2.1 l (by omega)) (by rw [c5]; unfold k_Ga; rw [if_neg (by omega), if_neg (by omega), if_neg (by omega), if_neg (by omega), if_pos rfl]) (fun a x1 x2 => by
          rw [← hil, c5]; unfold k_Ga
          rw [hG, if_neg (show ¬ a = 8 by omega), if_neg (show ¬ a = 1496 + k_ru i each by omega)]))
      refine ⟨f', V', ?_, t2, (((k_sA_mx (by simp)).tr (k_sA_mx (by simp))).tr c3).tr t3, ((a3.tr b3).tr c4).tr t4, t5, fun a x1 x2 x3 => ?_⟩
      · rw [F_X6_makes_L108, if_neg (nI_ge (by omega) (by omega))]
        have ix : (1496 + nI (k_ru i each) : Int32) = nI (1496 + k_ru i each) := by rw [k_lit 1496, nI_add]
        have e8' : x_ald f1 (m + 1) 8 = some (nI (k_ru i each)) := by rw [← e8]; exact k_ld1 a2 (i := 8) (by omega)
        have b1' : x_ast f1 (m + 1) 8 (nI (k_ru i each + 1)) = some f2 := b1
        have e9' : x_ald f2 (m + 1) 8 = some (nI (k_ru i each + 1)) := by
          rw [show nI (k_ru i each + 1) = (k_sA (k_sA V 1 (1496 + k_ru i each) (if i = 0 then 0 else Q.2.1 i)) 1 8 (nI (k_ru i each + 1))).1 1 8 from by rw [hG, if_pos rfl]]
          exact k_ld1 b2 (i := 8) (by omega)
        have q1' : x_ald f2 (m + 7) (nI (2 * i)) = some (Q.2.1 i) := by rw [← (h3 i (by omega)).1]; exact b2.ld (a := 7) (by omega) (by omega) (by show _ < 1200; omega)
        have q2' : x_ald f2 (m + 7) (nI (2 * i + 1)) = some (Q.2.2 i) := by rw [← (h3 i (by omega)).2]; exact b2.ld (a := 7) (by omega) (by omega) (by show _ < 1200; omega)
        have em : nI (k_ru i each + 1) - 1 = nI (k_ru i each) := nI_pred _
        simp only [k_rem_i (show i < 2 ^ 29 by omega) he (by omega), Option.bind_some]
        rw [if_pos (by rw [g]; rfl)]
        by_cases z0 : i = 0
        · rw [if_pos z0] at a1
          simp only [h.r0, q8, Option.bind_some]
          rw [if_pos (by rw [z0]; rfl)]
          simp only [ix, a1, a2.r0, e8', k_add1, b1', b2.r7, b2.r0, k_ix2, q1', q2', e9', em, b2.cv, c1, Option.bind_some]
          exact t1
        · rw [if_neg z0] at a1
          simp only [h.r0, q8, Option.bind_some]
          rw [if_neg (nI_ne0 (by omega) (by omega))]
          simp only [h.r7, k_ix2, q1, ix, a1, a2.r0, e8', k_add1, b1', b2.r7, b2.r0, q1', q2', e9', em, b2.cv, c1, Option.bind_some]
          exact t1
      · rw [t6 a x1 x2 x3, c5]; unfold k_Ga
        rw [if_neg (by omega), if_neg (by omega), if_neg (by omega), if_neg (by omega), if_neg x2, hG, if_neg x3, if_neg (by omega)]
    · have s2 := r2 g
      have hil : k_ru i each = i / each + 1 := by omega
      obtain ⟨f3, V3, c1, c2, c3, c4, c5⟩ := k_madds (N := N) h h4.1 (show i < 160 by omega) (Q.2.1 i) (Q.2.2 i) (nI (i / each)) 0
      have m7 : ∀ a, V3.1 7 a = V.1 7 a := fun a => by rw [c3.1 7 (by simp)]
      obtain ⟨f', V', t1, t2, t3, t4, t5, t6⟩ := ih u (i + 1) f3 V3 (by omega) (by omega) c2 (fun j hj => by rw [m7, m7]; exact h3 j hj) (h4.add he (by omega) (lc := k_ru i each) s2.symm (by rw [c5]; unfold k_Ga; rw [if_neg (by omega), if_neg (by omega), if_neg (by omega), if_neg (by omega), if_neg (by omega)]; exact h4.2.1) (fun l hl => by
          rw [c5]; unfold k_Ga; rw [if_neg (by omega), if_neg (by omega), if_neg (by omega), if_neg (by omega), if_neg (by omega)]
          exact h4.2.2.1 l hl) (by rw [c5]; unfold k_Ga; rw [if_neg (by omega), if_neg (by omega), if_neg (by omega), if_neg (by omega), if_pos rfl]) (fun a x1 x2 => c5 a))
      refine ⟨f', V', ?_, t2, c3.tr t3, c4.tr t4, t5, fun a x1 x2 x3 => ?_⟩
      · rw [F_X6_makes_L108, if_neg (nI_ge (by omega) (by omega))]
        have em : nI (i / each + 1) - 1 = nI (i / each) := nI_pred _
        rw [hil] at q8
        simp only [k_rem_i (show i < 2 ^ 29 by omega) he (by omega), Option.bind_some]
        have hlt := Nat.mod_lt i (show 0 < each by omega)
        rw [if_neg (nI_ne0 (by omega) (by omega))]
        simp only [h.r7, h.r0, k_ix2, k_add1, q1, q2, q8, em, h.cv, c1, Option.bind_some]
        exact t1
      · rw [t6 a x1 x2 x3, c5]; unfold k_Ga
        rw [if_neg (by omega), if_neg (by omega), if_neg (by omega), if_neg (by omega), if_neg x2]
/-- the leaf of a key of a tree just built -/
theorem k_lf_bl {S : KS} {p : Nat} (hw : k_ws S) (hp : p ≤ 100) {Q : KR} (hQ : k_fnd S Q) (hn : Q.1 ≤ 160) {j : Nat} (hj : j < Q.1) : k_lf (k_sbl S Q p).2.2.1 (Q.2.1 j) = j / k_each S.2.2.2.1 p + 1 := by
  have he := k_each_r hw hp
  have hwt := (k_ws_bl hw hp hQ hn).2.2.2.2.1
  have hm := Nat.mod_add_div j (k_each S.2.2.2.1 p)
  have hlt := Nat.mod_lt j (show 0 < k_each S.2.2.2.1 p by omega)
  have hlc : j / k_each S.2.2.2.1 p < k_ru Q.1 (k_each S.2.2.2.1 p) := by
    have := (k_ru_st (i := j) he.1).2.2
    have h2 : k_ru (j + 1) (k_each S.2.2.2.1 p) ≤ k_ru Q.1 (k_each S.2.2.2.1 p) := Nat.div_le_div_right (by omega)
    omega
  have hr := (hQ.1.2 j hj)
  refine (k_lf_inl hwt hr.2 hlc).mp ?_
  unfold k_inl
  rw [decide_eq_true_eq]
  unfold k_bd
  rw [if_pos (show j / k_each S.2.2.2.1 p < (k_sbl S Q p).2.2.1.2.2.1 from hlc)]
  constructor
  · show (if j / k_each S.2.2.2.1 p = 0 then (0 : Int32) else Q.2.1 (k_each S.2.2.2.1 p * (j / k_each S.2.2.2.1 p))).toInt ≤ _
    by_cases z : j / k_each S.2.2.2.1 p = 0
    · rw [if_pos z]
      have e0 : (0 : Int32).toInt = 0 := rfl
      omega
    · rw [if_neg z]
      rcases Nat.eq_or_lt_of_le (show k_each S.2.2.2.1 p * (j / k_each S.2.2.2.1 p) ≤ j by omega) with y | y
      · rw [y]; exact Int.le_refl _
      · exact Int.le_of_lt (hQ.1.1 _ _ y hj)
  · by_cases y : j / k_each S.2.2.2.1 p + 1 < (k_sbl S Q p).2.2.1.2.2.1
    · rw [if_pos y]
      have y' : j / k_each S.2.2.2.1 p + 1 < k_ru Q.1 (k_each S.2.2.2.1 p) := y
      have hlt2 := k_ru_lt he.1 y'
      show _ < (if j / k_each S.2.2.2.1 p + 1 = 0 then (0 : Int32) else Q.2.1 (k_each S.2.2.2.1 p * (j / k_each S.2.2.2.1 p + 1))).toInt
      rw [if_neg (Nat.succ_ne_zero _)]
      refine hQ.1.1 _ _ ?_ hlt2
      rw [Nat.mul_add]
      omega
    · rw [if_neg y]
      exact hr.2
theorem k_sbl_ms {G G' : Nat → Int32} {p : Nat} (hA : k_okA S) (hs : k_ms G S c) (hp : p ≤ 100) (hn : (k_all S).1 ≤ 160) (hc : c + 1 ≤ 1200) (hb : k_mb G' (k_all S) (k_each S.2.2.2.1 p) (k_all S).1) (g0 : G' 0 = G 0) (g1 : G' 1 = G 1) (g2 : G' 2 = G 0) (g3 : G' 3 = G 1) (g4 : G' 4 = G 4 + 1) (g5 : G' 5 = G 5 + nI (k_all S).1) (g6 : G' 6 = 0) (g9 : G' 9 = 0) : k_ms G' (k_sbl S (k_all S) p) (c + 1) := by
  have hw := hs.1
  have he := k_each_r hw hp
  have hfl := k_fnd_le hw hA.1
  have hru : k_ru (k_all S).1 (k_each S.2.2.2.1 p) ≤ (k_all S).1 := k_ru_le he.1
  obtain ⟨h1, h2, ⟨a0, a1, a4, a5, a6, a7, a8⟩, h4, h5, h6, h7, h8, h9, ⟨b, b1, b2, b3⟩, h11⟩ := hs
  have hil : S.2.2.2.1 ≠ 0 := by
    obtain ⟨x1, x2, x3⟩ := hw.2.2.2.2.2.1.e (by omega)
    rw [x1]; exact nI_ne0 (by omega) (by omega)
  refine ⟨k_ws_bl hw hp hA.1 hn, hc, ⟨g0.trans a0, g1.trans a1, ?_, ?_, g6, hb.1, hb.2.1⟩, fun r hr => ?_, fun l hl => hb.2.2.1 l hl, ?_, fun _ => ⟨g2.trans a0, g3.trans a1⟩, ⟨fun i j hij hj => ?_, fun j hj => ?_, fun i hi => ⟨i, hi, (hb.2.2.2 i hi).1⟩, fun i j hij hj _ _ => (hb.2.2.2 i (Nat.lt_trans hij hj)).2.2.2⟩, ?_, ⟨b + 1, ?_, Nat.zero_le _, by omega⟩, ?_⟩
  · show G' 4 = S.2.2.2.2.2.1 + 1
    rw [g4, a4]
  · show G' 5 = S.2.2.2.2.2.2 + nI (k_all S).1
    rw [g5, a5]
  · have hr' : r = 0 := Nat.le_zero.mp hr
    subst hr'
    exact ⟨g9, fun i hi => absurd hi (Nat.not_lt_zero _)⟩
  · constructor
    · intro e; exact absurd e hil
    · rintro ⟨-, e⟩
      have e' : S.2.2.2.2.2.1 + 1 = 0 := e
      rw [b1, k_add1] at e'
      exact absurd e' (nI_ne0 (by omega) (by omega))
  · have hj' : j < (k_all S).1 := hj
    rw [(hb.2.2.2 i (by omega)).1, (hb.2.2.2 j hj').1]
    exact fun e => by have := k_srt_ne hA.1.1 (by omega) hj' e; omega
  · have hj' : j < (k_all S).1 := hj
    obtain ⟨y1, y2, y3, y4⟩ := hb.2.2.2 j hj'
    have hpl : k_pl (k_all S).1 (k_all S).2.1 ((k_all S).2.1 j) = j := k_fst_eq (by omega) (fun i hi => decide_eq_false (fun e => by have := k_srt_ne hA.1.1 (by omega) hj' e; omega)) (fun _ => decide_eq_true rfl)
    rw [y1, y2, y3, y4]
    refine ⟨?_, ?_, ?_, ⟨0, rfl, Nat.le_refl _, Nat.zero_le _⟩, ?_⟩
    · show k_pl (k_all S).1 (k_all S).2.1 _ < (k_all S).1
      rw [hpl]; exact hj'
    · show _ = (k_all S).2.2 (k_pl (k_all S).1 (k_all S).2.1 _)
      rw [hpl]
    · rw [k_lf_bl hw hp hA.1 hn hj']; rfl
    · rw [if_pos rfl]; rfl
  · show k_ru (k_all S).1 (k_each S.2.2.2.1 p) ≤ c + 1
    omega
  · show S.2.2.2.2.2.1 + 1 = nI (b + 1)
    rw [b1, k_add1]
  · rw [k_told_bl]
    show 0 + (k_all S).1 ≤ c + 1
    omega
theorem k_mcanBuild (hN : 20000 ≤ N) (hA : k_okA S) (h : k_mo f m V) (hs : k_ms (V.1 1) S c) : ∃ (f' : XM) (V' : KM), F_X6_canBuild N f m = some (decide ((k_all S).1 ≤ 160), f') ∧ k_mo f' m V' ∧ k_mx V V' [7] [8] ∧ k_fr f f' m (m + 10) := by
  obtain ⟨f1, V1, a1, a2, a3, a4, a5, a6⟩ := k_finds (N := N) hN hA h hs
  have hlt := hA.2
  refine ⟨f1, V1, ?_, a2, a3, a4⟩
  simp only [F_X6_canBuild, h.cv, a1, Option.bind_some]
  by_cases g : (k_all S).1 ≤ 160
  · rw [if_neg (show ¬ (160 : Int32) < nI (k_all S).1 from nI_nlt (a := 160) (by omega) (by omega)), decide_eq_true g]
  · rw [if_pos (show (160 : Int32) < nI (k_all S).1 from nI_lt (a := 160) (by omega) (by omega)), decide_eq_false g]
theorem k_mmakes (hN : 20000 ≤ N) (hA : k_okA S) (h : k_mo f m V) (hs : k_ms (V.1 1) S c) {p : Nat} (hp : p ≤ 100) (hn : (k_all S).1 ≤ 160) (hc : c + 1 ≤ 1200) : ∃ (f' : XM) (V' : KM), F_X6_makes N f m (nI p) = some (nI (k_ru (k_all S).1 (k_each S.2.2.2.1 p)), f') ∧ k_mo f' m V' ∧ k_mx V V' [1, 7] [8] ∧ k_fr f f' m (m + 10) ∧ k_ms (V'.1 1) (k_sbl S (k_all S) p) (c + 1) := by
  have he := k_each_r hs.1 hp
  obtain ⟨e1, e2, e3⟩ := hs.1.2.2.2.2.2.1.e (by omega)
  obtain ⟨f1, V1, a1, a2, a3, a4, a5, a6⟩ := k_finds (N := N) hN hA h hs
  have hG : V1.1 1 = V.1 1 := a3.1 1 (by simp)
  have v0 : V.1 1 0 = S.2.2.2.1 := hs.2.2.1.1
  have hdv := k_t3 (show k_u S.2.2.2.1 * p ≤ 800 from Nat.mul_le_mul e3 hp)
  obtain ⟨f2, b1, b2, b3⟩ := a2.st (a := 1) (i := 2) (by omega) (by omega) (by show _ < 6696; omega) (V.1 1 0)
  obtain ⟨f3, c1, c2, c3⟩ := b2.st (a := 1) (i := 3) (by omega) (by omega) (by show _ < 6696; omega) (V.1 1 1)
  obtain ⟨f4, d1, d2, d3⟩ := c2.st (a := 1) (i := 4) (by omega) (by omega) (by show _ < 6696; omega) (V.1 1 4 + 1)
  obtain ⟨f5, g1, g2, g3⟩ := d2.st (a := 1) (i := 5) (by omega) (by omega) (by show _ < 6696; omega) (V.1 1 5 + nI (k_all S).1)
  obtain ⟨f6, i1, i2, i3⟩ := g2.st (a := 1) (i := 6) (by omega) (by omega) (by show _ < 6696; omega) 0
  obtain ⟨f7, j1, j2, j3⟩ := i2.st (a := 1) (i := 9) (by omega) (by omega) (by show _ < 6696; omega) 0
  obtain ⟨f8, l1, l2, l3⟩ := j2.st (a := 1) (i := 7) (by omega) (by omega) (by show _ < 6696; omega) 0
  obtain ⟨f9, m1, m2, m3⟩ := l2.st (a := 1) (i := 8) (by omega) (by omega) (by show _ < 6696; omega) 0
  generalize hV9 : k_sA (k_sA (k_sA (k_sA (k_sA (k_sA (k_sA (k_sA V1 1 2 (V.1 1 0)) 1 3 (V.1 1 1)) 1 4 (V.1 1 4 + 1)) 1 5 (V.1 1 5 + nI (k_all S).1)) 1 6 0) 1 9 0) 1 7 0) 1 8 0 = V9 at m2
  have hmx : k_mx V1 V9 [1, 7] [8] := by
    rw [← hV9]
    exact (((((((k_sA_mx (by simp)).tr (k_sA_mx (by simp))).tr (k_sA_mx (by simp))).tr (k_sA_mx (by simp))).tr (k_sA_mx (by simp))).tr (k_sA_mx (by simp))).tr (k_sA_mx (by simp))).tr (k_sA_mx (by simp))
  have h9 : ∀ a, V9.1 1 a = if a = 8 then 0 else if a = 7 then 0 else if a = 9 then 0 else if a = 6 then 0 else if a = 5 then V.1 1 5 + nI (k_all S).1 else if a = 4 then V.1 1 4 + 1 else if a = 3 then V.1 1 1 else if a = 2 then V.1 1 0 else V.1 1 a := fun a => by
    rw [← hV9]
    simp only [k_sA_s, upd, hG]
  have h97 : ∀ a, V9.1 7 a = V1.1 7 a := fun a => by rw [← hV9]; rfl
  obtain ⟨f', V', t1, t2, t3, t4, t5, t6⟩ := k_mk_loop (N := N) (m := m) he.1 he.2 hn (K := fun _ g89 => (x_getr g89 6 m 0).bind fun v90 => Option.bind v90 fun a91 => (x_ald g89 a91 8).bind fun v92 => some (v92, g89)) (k_all S).1 N 0 f9 V9 (by omega) (by omega) m2 (fun j hj => by rw [h97, h97]; exact a6 j hj) ⟨by rw [h9]; rfl, by
    rw [h9, if_pos rfl]
    have : k_ru 0 (k_each S.2.2.2.1 p) = 0 := Nat.div_eq_of_lt (by omega)
    rw [this]; rfl, fun l hl => by
    have : k_ru 0 (k_each S.2.2.2.1 p) = 0 := Nat.div_eq_of_lt (by omega)
    omega, fun j hj => absurd hj (Nat.not_lt_zero _)⟩
  have e8 : x_ald f' (m + 1) 8 = some (nI (k_ru (k_all S).1 (k_each S.2.2.2.1 p))) := by rw [← t5.2.1]; exact k_ld1 t2 (i := 8) (by omega)
  refine ⟨f', V', ?_, t2, (a3.wd (by simp) (by simp)).tr (hmx.tr (t3.wd (by simp) (by simp))), (((((((((a4.tr b3).tr c3).tr d3).tr g3).tr i3).tr j3).tr l3).tr m3).tr t4), ?_⟩
  · have o0 : x_ald f1 (m + 1) 0 = some S.2.2.2.1 := by rw [← v0, ← hG]; exact k_ld1 a2 (i := 0) (by omega)
    have o0' : x_ald f1 (m + 1) 0 = some (V.1 1 0) := by rw [o0, v0]
    have o1 : x_ald f2 (m + 1) 1 = some (V.1 1 1) := by
      have := k_ld1 b2 (i := 1) (by omega)
      rw [k_sA_s, k_upd_n (by omega), hG] at this
      exact this
    have o4 : x_ald f3 (m + 1) 4 = some (V.1 1 4) := by
      have := k_ld1 c2 (i := 4) (by omega)
      rw [k_sA_s, k_upd_n (by omega), k_sA_s, k_upd_n (by omega), hG] at this
      exact this
    have o5 : x_ald f4 (m + 1) 5 = some (V.1 1 5) := by
      have := k_ld1 d2 (i := 5) (by omega)
      rw [k_sA_s, k_upd_n (by omega), k_sA_s, k_upd_n (by omega), k_sA_s, k_upd_n (by omega), hG] at this
      exact this
    have b1' : x_ast f1 (m + 1) 2 (nI (k_u S.2.2.2.1)) = some f2 := by
      rw [← e1, ← v0]; exact b1
    have c1' : x_ast f2 (m + 1) 3 (V.1 1 1) = some f3 := c1
    have d1' : x_ast f3 (m + 1) 4 (V.1 1 4 + 1) = some f4 := d1
    have g1' : x_ast f4 (m + 1) 5 (V.1 1 5 + nI (k_all S).1) = some f5 := g1
    have i1' : x_ast f5 (m + 1) 6 0 = some f6 := i1
    have j1' : x_ast f6 (m + 1) 9 0 = some f7 := j1
    have l1' : x_ast f7 (m + 1) 7 0 = some f8 := l1
    have m1' : x_ast f8 (m + 1) 8 0 = some f9 := m1
    rw [e1] at o0
    unfold F_X6_makes
    rw [h.cv, a1, Option.bind_some, a2.r0, Option.bind_some, Option.bind_some, o0, Option.bind_some, hdv, Option.bind_some]
    have hend : F_X6_makes_L108 N m (nI (k_all S).1) (nI (k_each S.2.2.2.1 p)) (fun _ g89 => (x_getr g89 6 m 0).bind fun v90 => Option.bind v90 fun a91 => (x_ald g89 a91 8).bind fun v92 => some (v92, g89)) N 0 f9 = some (nI (k_ru (k_all S).1 (k_each S.2.2.2.1 p)), f') := by
      refine t1.trans ?_
      simp only [t2.r0, e8, Option.bind_some]
    by_cases g : 1 ≤ k_u S.2.2.2.1 * p / 100
    · have hE : k_each S.2.2.2.1 p = k_u S.2.2.2.1 * p / 100 := by unfold k_each; omega
      rw [if_pos (show (1 : Int32) ≤ nI (k_u S.2.2.2.1 * p / 100) from nI_le (a := 1) g (by have := he.2; omega))]
      rw [hE] at hend
      rw [hE]
      simp only [a2.r0, o0, b1', b2.r0, o1, c1', c2.r0, o4, d1', d2.r0, o5, g1', g2.r0, i1', i2.r0, j1', j2.r0, l1', l2.r0, m1', Option.bind_some]
      exact hend
    · have hE : k_each S.2.2.2.1 p = 1 := by unfold k_each; omega
      rw [if_neg (show ¬ (1 : Int32) ≤ nI (k_u S.2.2.2.1 * p / 100) from nI_ge (b := 1) (by omega) (by omega))]
      rw [hE] at hend
      rw [hE]
      simp only [a2.r0, o0, b1', b2.r0, o1, c1', c2.r0, o4, d1', d2.r0, o5, g1', g2.r0, i1', i2.r0, j1', j2.r0, l1', l2.r0, m1', Option.bind_some]
      exact hend
  · refine k_sbl_ms hA hs hp hn hc t5 ?_ ?_ ?_ ?_ ?_ ?_ ?_ ?_ 
    · rw [t6 _ (by omega) (by omega) (by omega), h9, if_neg (by omega), if_neg (by omega), if_neg (by omega), if_neg (by omega), if_neg (by omega), if_neg (by omega), if_neg (by omega), if_neg (by omega)]
    · rw [t6 _ (by omega) (by omega) (by omega), h9, if_neg (by omega), if_neg (by omega), if_neg (by omega), if_neg (by omega), if_neg (by omega), if_neg (by omega), if_neg (by omega), if_neg (by omega)]
    · rw [t6 _ (by omega) (by omega) (by omega), h9, if_neg (by omega), if_neg (by omega), if_neg (by omega), if_neg (by omega), if_neg (by omega), if_neg (by omega), if_neg (by omega), if_pos rfl]
    · rw [t6 _ (by omega) (by omega) (by omega), h9, if_neg (by omega), if_neg (by omega), if_neg (by omega), if_neg (by omega), if_neg (by omega), if_neg (by omega), if_pos rfl]
    · rw [t6 _ (by omega) (by omega) (by omega), h9, if_neg (by omega), if_neg (by omega), if_neg (by omega), if_neg (by omega), if_neg (by omega), if_pos rfl]
    · rw [t6 _ (by omega) (by omega) (by omega), h9, if_neg (by omega), if_neg (by omega), if_neg (by omega), if_neg (by omega), if_pos rfl]
    · rw [t6 _ (by omega) (by omega) (by omega), h9, if_neg (by omega), if_neg (by omega), if_neg (by omega), if_pos rfl]
    · rw [t6 _ (by omega) (by omega) (by omega), h9, if_neg (by omega), if_neg (by omega), if_pos rfl]
end KMK
