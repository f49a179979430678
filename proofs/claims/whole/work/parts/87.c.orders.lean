/-! The reference's reading: shares, orders, the whole text; the first error. -/
theorem k_fll6 {j : Nat} (h : j = 1 ∨ j = 10 ∨ (5 ≤ j ∧ j ≤ 9)) : k_fll (nI j) = 6 := by
  unfold k_fll
  rw [nI_toInt (by omega), if_neg (by omega), if_pos]
  rcases h with rfl | rfl | h
  · exact Or.inl rfl
  · exact Or.inr (Or.inl rfl)
  · exact Or.inr (Or.inr (by omega))
theorem k_fll7 {j : Nat} (h1 : 50 ≤ j) (h2 : j ≤ 100) : k_fll (nI j) = 7 := by
  unfold k_fll
  rw [nI_toInt (by omega), if_pos (by omega)]
theorem k_fll8 {j : Nat} (h0 : j < 200) (h : ¬ (j = 1 ∨ j = 10 ∨ (5 ≤ j ∧ j ≤ 9))) (h2 : ¬ (50 ≤ j ∧ j ≤ 100)) : k_fll (nI j) = 8 := by
  unfold k_fll
  rw [nI_toInt (by omega), if_neg (by omega), if_neg]
  intro y
  rcases y with y | y | y
  · exact h (Or.inl ((nI_eq (a := j) (b := 1) (by omega) (by omega)).mp y))
  · exact h (Or.inr (Or.inl ((nI_eq (a := j) (b := 10) (by omega) (by omega)).mp y)))
  · exact h (Or.inr (Or.inr (by omega)))
theorem k_cpl8 {q : KQ} (h : k_cpl q = true) : q.1 ≠ 8 := fun e => by
  have h1 := of_decide_eq_true h
  rw [e] at h1
  rcases h1 with y | y | y
  · exact absurd y (by decide)
  · exact absurd y (by decide)
  · exact absurd y.1 (by decide)
/-- an order that was read, and what was written down of it -/
def k_om (q : KQ) (G : Nat → Int32) (k : Nat) : Prop := G (3 * k) = q.2.1 ∧ (q.2.1 = 99 ∨ (q.2.1 = 98 ∧ ∃ v, 50 ≤ v ∧ v ≤ 100 ∧ q.2.2.1 = nI v ∧ G (3 * k + 1) = nI v) ∨ ((q.2.1 = 100 ∨ q.2.1 = 101) ∧ ∃ v, v ≤ 9999 ∧ q.2.2.1 = nI v ∧ G (3 * k + 1) = nI v) ∨ ((q.2.1 = 112 ∨ q.2.1 = 105) ∧ ∃ v w, v ≤ 9999 ∧ w ≤ 99 ∧ q.2.2.1 = nI v ∧ q.2.2.2 = nI w ∧ G (3 * k + 1) = nI v ∧ G (3 * k + 2) = nI w))
theorem k_om.cg {q : KQ} {G G' : Nat → Int32} {k : Nat} (h : k_om q G k) (e : ∀ i, i < 3 * (k + 1) → G' i = G i) : k_om q G' k := by
  unfold k_om
  rw [e (3 * k) (by omega), e (3 * k + 1) (by omega), e (3 * k + 2) (by omega)]
  exact h
/-- n orders from the spot s on, the first of them number k, to the end -/
def k_ords (bf G : Nat → Int32) (len : Nat) : Nat → Nat → Nat → Prop
  | 0, _, _ => False
  | n + 1, k, s => ∃ e, s < e ∧ e ≤ len ∧ (∀ i, s ≤ i → i < e → bf i ≠ 59) ∧ k_om (k_rs bf e) G k ∧ k_cpl (k_rs bf e) = true ∧ ((n = 0 ∧ e = len) ∨ (e < len ∧ bf e = 59 ∧ k_ords bf G len n (k + 1) (e + 1)))
theorem k_ords_le {bf G : Nat → Int32} {len : Nat} : ∀ (n k s : Nat), k_ords bf G len n k s → s + 2 * n ≤ len + 1 ∧ 1 ≤ n
  | 0, _, _, h => h.elim
  | n + 1, k, s, h => by
    obtain ⟨e, h1, h2, -, -, -, h3⟩ := h
    rcases h3 with ⟨y1, y2⟩ | ⟨-, -, y3⟩
    · omega
    · have := k_ords_le n (k + 1) (e + 1) y3
      omega
def k_ryes (bf : Nat → Int32) (len m k : Nat) (V : KM) (f : XM) (s : Nat) (z : Option (Bool × XM)) : Prop := ∃ (f' : XM) (V' : KM) (s' : Nat), z = some (true, f') ∧ k_mo f' m V' ∧ k_fr f f' m (m + 10) ∧ k_mx V V' [9] [12] ∧ s < s' ∧ k_rv bf len s' k V' ∧ k_cpl (k_rs bf s') = true ∧ k_om (k_rs bf s') (V'.1 9) k ∧ (∀ i, i < 3 * k → V'.1 9 i = V.1 9 i) ∧ (∀ i, s ≤ i → i < s' → bf i ≠ 59) ∧ (s' < len → bf s' ≠ 59 → (k_rs bf (s' + 1)).1 = 8)
section KOR
variable {N m len s k : Nat} {bf : Nat → Int32} {V : KM} {f : XM}
theorem k_isShare (hk : k ≤ 29) (h : k_mo f m V) (hv : k_rv bf len s k V) (hs : k_rs bf s = (5, 98, 0, 0)) : k_rno bf len m V f (F_X6_isShare N f m) ∨ ∃ (f' : XM) (V' : KM) (s' v : Nat), F_X6_isShare N f m = some (true, f') ∧ k_mo f' m V' ∧ k_fr f f' m (m + 10) ∧ k_mx V V' [9] [12] ∧ s < s' ∧ k_rv bf len s' k V' ∧ 50 ≤ v ∧ v ≤ 100 ∧ k_rs bf s' = (7, 98, nI v, 0) ∧ V'.1 9 = upd (V.1 9) (3 * k + 1) (nI v) ∧ (∀ i, s ≤ i → i < s' → bf i ≠ 59) := by
  have hl := hv.1
  unfold F_X6_isShare
  rw [h.cv]
  rcases k_fg (N := N) h hv with ⟨d, d1, d2, d3, d4⟩ | ⟨d1, d2⟩
  · rw [d4, Option.bind_some]
    have st1 : k_rs bf (s + 1) = (k_fll (nI d), 98, nI d, 0) := by
      show k_rd (k_rs bf s) (bf s) = _
      rw [hs, d3]
      exact k_t5 d1
    obtain ⟨f2, b1, b2, b3⟩ := h.pi (i := 12) (by omega) (nI (s + 1))
    have hv2 := hv.sp (s' := s + 1) (by omega)
    have h12 := hv.2.2.2.1
    by_cases e1 : d = 1
    · subst e1
      obtain ⟨f3, c1, c2, c3⟩ := b2.st (a := 9) (i := 3 * k + 1) (by omega) (by omega) (show _ < 93 by omega) 100
      have hv3 := hv2.ar (i := 3 * k + 1) (v := 100)
      rw [if_pos (show nI 1 = 1 from rfl), h.i12, h12, Option.bind_some, k_add1, b1, Option.bind_some, b2.r13, Option.bind_some, b2.i14, hv2.2.2.2.2.1, Option.bind_some, Option.bind_some, k_3m, k_add1, c1, Option.bind_some, c2.cv]
      rw [k_fll6 (Or.inl rfl)] at st1
      have mx3 : k_mx V (k_sA (k_sI V 12 (nI (s + 1))) 9 (3 * k + 1) 100) [9] [12, 14] := (k_sI_mx (by simp)).tr (k_sA_mx (by simp))
      have mx3' : k_mx V (k_sA (k_sI V 12 (nI (s + 1))) 9 (3 * k + 1) 100) [9] [12] := (k_sI_mx (by simp)).tr (k_sA_mx (by simp))
      rcases k_takes (N := N) c2 hv3 48 with ⟨g1, g2, f4, g3, g4, g5⟩ | ⟨g1, f4, g3, g4, g5⟩
      · have hv4 := hv3.sp (s' := s + 1 + 1) (by omega)
        have st2 : k_rs bf (s + 1 + 1) = (6, 98, nI 10, 0) := by
          show k_rd (k_rs bf (s + 1)) (bf (s + 1)) = _
          rw [st1, g2]
          show k_rd (6, 98, nI 1, 0) (nI (0 + 48)) = _
          rw [k_t6 (by omega), k_fll6 (Or.inr (Or.inl rfl))]
        rw [g3, Option.bind_some, if_neg (show ¬ x_b true = 0 by decide), g4.cv]
        rcases k_takes (N := N) g4 hv4 48 with ⟨i1, i2, f5, i3, i4, i5⟩ | ⟨i1, f5, i3, i4, i5⟩
        · have hv5 := hv4.sp (s' := s + 1 + 1 + 1) (by omega)
          refine Or.inr ⟨f5, _, s + 1 + 1 + 1, 100, ?_, i4, ((b3.tr c3).tr g5).tr i5, (mx3'.tr (k_sI_mx (by simp))).tr (k_sI_mx (by simp)), by omega, hv5, by omega, by omega, ?_, ?_, fun i y z => ?_⟩
          · rw [i3, Option.bind_some, if_neg (show ¬ x_b true = 0 by decide)]
          · show k_rd (k_rs bf (s + 1 + 1)) (bf (s + 1 + 1)) = _
            rw [st2, i2]
            show k_rd (6, 98, nI 10, 0) (nI (0 + 48)) = _
            rw [k_t6 (by omega), k_fll7 (by omega) (by omega)]
          · show (k_sA (k_sI V 12 (nI (s + 1))) 9 (3 * k + 1) 100).1 9 = _
            rw [k_sA_s]
            rfl
          · rcases (show i = s ∨ i = s + 1 ∨ i = s + 1 + 1 by omega) with w | w | w
            · rw [w, d3]; exact k_dg_59 d1
            · rw [w, g2]; decide
            · rw [w, i2]; decide
        · refine Or.inl ⟨f5, _, s + 1 + 1, ?_, i4, ((b3.tr c3).tr g5).tr i5, (mx3.tr (k_sI_mx (by simp))).tr (k_sI_mx (by simp)), k_sI_s, k_bx_mk (by omega) (by rw [st2]; exact (show ¬ (6 : Int32) = 8 by decide)) (by rw [st2]; exact k_c6 _) (fun y => ?_)⟩
          · rw [i3, Option.bind_some, if_pos (show x_b false = 0 from rfl)]
          · rw [st2]
            by_cases dg : k_dg (bf (s + 1 + 1)) = false
            · exact k_t6n dg
            · obtain ⟨d', w1, w2⟩ := k_dg_d (k_dg_t dg)
              have w0 : d' ≠ 0 := fun e => i1 y (by rw [w2, e]; rfl)
              rw [w2, k_t6 w1]
              exact k_fll8 (by omega) (by omega) (by omega)
      · refine Or.inl ⟨f4, _, s + 1, ?_, g4, (b3.tr c3).tr g5, mx3.tr (k_sI_mx (by simp)), k_sI_s, k_bx_mk (by omega) (by rw [st1]; exact (show ¬ (6 : Int32) = 8 by decide)) (by rw [st1]; exact k_c6 _) (fun y => ?_)⟩
        · rw [g3, Option.bind_some, if_pos (show x_b false = 0 from rfl)]
        · rw [st1]
          by_cases dg : k_dg (bf (s + 1)) = false
          · exact k_t6n dg
          · obtain ⟨d', w1, w2⟩ := k_dg_d (k_dg_t dg)
            have w0 : d' ≠ 0 := fun e => g1 y (by rw [w2, e]; rfl)
            rw [w2, k_t6 w1]
            exact k_fll8 (by omega) (by omega) (by omega)
    · rw [if_neg (show ¬ nI d = 1 from fun y => e1 ((nI_eq (a := d) (b := 1) (by omega) (by omega)).mp y))]
      by_cases e5 : 5 ≤ d
      · rw [k_fll6 (Or.inr (Or.inr ⟨e5, d1⟩))] at st1
        rw [if_pos (show (5 : Int32) ≤ nI d from nI_le (a := 5) e5 (by omega)), h.i12, h12, Option.bind_some, k_add1, b1, Option.bind_some, b2.cv]
        rcases k_fg (N := N) b2 hv2 with ⟨d', w1, w2, w3, w4⟩ | ⟨w1, w2⟩
        · obtain ⟨f3, c1, c2, c3⟩ := b2.st (a := 9) (i := 3 * k + 1) (by omega) (by omega) (show _ < 93 by omega) (nI (10 * d + d'))
          have hv3 := hv2.ar (i := 3 * k + 1) (v := nI (10 * d + d'))
          obtain ⟨f4, g1, g2, g3⟩ := c2.pi (i := 12) (by omega) (nI (s + 1 + 1))
          have hv4 := hv3.sp (s' := s + 1 + 1) (by omega)
          refine Or.inr ⟨f4, _, s + 1 + 1, 10 * d + d', ?_, g2, (b3.tr c3).tr g3, ((k_sI_mx (by simp)).tr (k_sA_mx (by simp))).tr (k_sI_mx (by simp)), by omega, hv4, by omega, by omega, ?_, ?_, fun i y z => ?_⟩
          · rw [w4, Option.bind_some, b2.r13, Option.bind_some, b2.i14, hv2.2.2.2.2.1, Option.bind_some, Option.bind_some, k_3m, k_add1, k_10, c1, Option.bind_some, c2.i12, hv3.2.2.2.1, Option.bind_some, if_neg (k_nim1 _ (by omega)), k_add1, g1, Option.bind_some, if_neg (k_nim1 _ (by omega))]
          · show k_rd (k_rs bf (s + 1)) (bf (s + 1)) = _
            rw [st1, w3, k_t6 w1, k_fll7 (by omega) (by omega)]
          · show (k_sA (k_sI V 12 (nI (s + 1))) 9 (3 * k + 1) (nI (10 * d + d'))).1 9 = _
            rw [k_sA_s]
            rfl
          · rcases (show i = s ∨ i = s + 1 by omega) with w | w
            · rw [w, d3]; exact k_dg_59 d1
            · rw [w, w3]; exact k_dg_59 w1
        · obtain ⟨f3, c1, c2, c3⟩ := b2.st (a := 9) (i := 3 * k + 1) (by omega) (by omega) (show _ < 93 by omega) ((10 * nI d) + (-1))
          have hv3 := hv2.ar (i := 3 * k + 1) (v := (10 * nI d) + (-1))
          obtain ⟨f4, g1, g2, g3⟩ := c2.pi (i := 12) (by omega) (nI (s + 1) + 0)
          have e0 : nI (s + 1) + 0 = nI (s + 1) := nI_add (s + 1) 0
          refine Or.inl ⟨f4, _, s + 1, ?_, g2, (b3.tr c3).tr g3, ((k_sI_mx (by simp)).tr (k_sA_mx (by simp))).tr (k_sI_mx (by simp)), k_sI_s.trans e0, k_bx_mk (by omega) (by rw [st1]; exact (show ¬ (6 : Int32) = 8 by decide)) (by rw [st1]; exact k_c6 _) (fun y => ?_)⟩
          · rw [w2, Option.bind_some, b2.r13, Option.bind_some, b2.i14, hv2.2.2.2.2.1, Option.bind_some, Option.bind_some, k_3m, k_add1, c1, Option.bind_some, c2.i12, hv3.2.2.2.1, Option.bind_some, if_pos rfl, g1, Option.bind_some, if_pos rfl]
          · rw [st1]
            exact k_t6n (w1 y)
      · rw [if_neg (show ¬ (5 : Int32) ≤ nI d from nI_ge (b := 5) (by omega) (by omega))]
        refine Or.inl ⟨f, V, s, rfl, h, k_fr.rf, k_mx.rf, h12, k_bx_mk hv.2.1 (by rw [hs]; exact (show ¬ (5 : Int32) = 8 by decide)) (by rw [hs]; exact k_c5 _) (fun y => ?_)⟩
        have : k_rd (k_rs bf s) (bf s) = _ := st1
        rw [this]
        exact k_fll8 (by omega) (by omega) (by omega)
  · rw [d2, Option.bind_some, if_neg (by decide), if_neg (by decide)]
    refine Or.inl ⟨f, V, s, rfl, h, k_fr.rf, k_mx.rf, hv.2.2.2.1, k_bx_mk hv.2.1 (by rw [hs]; exact (show ¬ (5 : Int32) = 8 by decide)) (by rw [hs]; exact k_c5 _) (fun y => ?_)⟩
    rw [hs]
    exact k_t5n (d1 y)
theorem k_num1 {b : Int32} (hN : 100 ≤ N) (hk : k ≤ 29) (h : k_mo f m V) (hv : k_rv bf len s k V) (hs : k_rs bf s = (1, b, 0, 0)) :
    (F_X6_isNumber N f m 1 9999 = some (false, f) ∧ k_bx bf len s) ∨ ∃ (f' : XM) (V' : KM) (s' v' : Nat), F_X6_isNumber N f m 1 9999 = some (true, f') ∧ k_mo f' m V' ∧ k_fr f f' m (m + 10) ∧ k_mx V V' [9] [12] ∧ s < s' ∧ k_rv bf len s' k V' ∧ v' ≤ 9999 ∧ k_rs bf s' = (2, b, nI v', 0) ∧ V'.1 9 = upd (V.1 9) (3 * k + 1) (nI v') ∧ (∀ i, s ≤ i → i < s' → bf i ≠ 59) ∧ (s' < len → k_dg (bf s') = true → (k_rd (2, b, nI v', 0) (bf s')).1 = 8) :=
  k_isNumber (N := N) (Q := fun v => (2, b, nI v, 0)) (most := 9999) (pl := 1) hN (by omega) (by omega) (by omega) hk h hv hs (show ¬ (1 : Int32) = 8 by decide) (k_c1 _) (fun d hd => k_u1 hd) (fun x hx => k_t1n hx) (fun v d h1 h2 h3 => k_u2 h2 h1 h3) (fun v d h1 h2 h3 => k_t2b h1 h2 h3)
theorem k_num2 {b : Int32} {v : Nat} (hN : 100 ≤ N) (hk : k ≤ 29) (h : k_mo f m V) (hv : k_rv bf len s k V) (hs : k_rs bf s = (3, b, nI v, 0)) :
    (F_X6_isNumber N f m 2 99 = some (false, f) ∧ k_bx bf len s) ∨ ∃ (f' : XM) (V' : KM) (s' v' : Nat), F_X6_isNumber N f m 2 99 = some (true, f') ∧ k_mo f' m V' ∧ k_fr f f' m (m + 10) ∧ k_mx V V' [9] [12] ∧ s < s' ∧ k_rv bf len s' k V' ∧ v' ≤ 99 ∧ k_rs bf s' = (4, b, nI v, nI v') ∧ V'.1 9 = upd (V.1 9) (3 * k + 2) (nI v') ∧ (∀ i, s ≤ i → i < s' → bf i ≠ 59) ∧ (s' < len → k_dg (bf s') = true → (k_rd (4, b, nI v, nI v') (bf s')).1 = 8) :=
  k_isNumber (N := N) (Q := fun w => (4, b, nI v, nI w)) (most := 99) (pl := 2) hN (by omega) (by omega) (by omega) hk h hv hs (show ¬ (3 : Int32) = 8 by decide) (k_c3 _) (fun d hd => k_u3 hd) (fun x hx => k_t3n hx) (fun v d h1 h2 h3 => k_t4 h2 h1 h3) (fun v d h1 h2 h3 => k_t4b h1 h2 h3)
theorem k_oneNum {b : Int32} (hb : b = 100 ∨ b = 101) (hN : 100 ≤ N) (hk : k ≤ 29) (h : k_mo f m V) (hv : k_rv bf len s k V) (hs : k_rs bf s = (1, b, 0, 0)) (hG : V.1 9 (3 * k) = b) : k_rno bf len m V f (F_X6_isNumber N f m 1 9999) ∨ k_ryes bf len m k V f s (F_X6_isNumber N f m 1 9999) := by
  have hb2 : b ≠ 112 ∧ b ≠ 105 := by rcases hb with rfl | rfl <;> decide
  rcases k_num1 hN hk h hv hs with ⟨a1, a2⟩ | ⟨f1, V1, s1, v1, a1, a2, a3, a4, a5, a6, a7, a8, a9, a10, a11⟩
  · exact Or.inl ⟨f, V, s, a1, h, k_fr.rf, k_mx.rf, hv.2.2.2.1, a2⟩
  · refine Or.inr ⟨f1, V1, s1, a1, a2, a3, a4, a5, a6, by rw [a8]; exact k_c2y hb2.1 hb2.2 _, ?_, fun i hi => by rw [a9]; exact k_upd_n (by omega), a10, fun y z => ?_⟩
    · rw [a8]
      refine ⟨by rw [a9, k_upd_n (by omega)]; exact hG, Or.inr (Or.inr (Or.inl ⟨hb, v1, a7, rfl, by rw [a9]; exact k_upd_s⟩))⟩
    · show (k_rd (k_rs bf s1) (bf s1)).1 = 8
      rw [a8]
      by_cases dg : k_dg (bf s1) = false
      · exact k_t2n dg z hb2
      · exact a11 y (k_dg_t dg)
theorem k_twoNum {b : Int32} (hb : b = 112 ∨ b = 105) (hN : 100 ≤ N) (hk : k ≤ 29) (h : k_mo f m V) (hv : k_rv bf len s k V) (hs : k_rs bf s = (1, b, 0, 0)) (hG : V.1 9 (3 * k) = b) {z : Option (Bool × XM)} (hz : z = (x_cv f 6 m (F_X6_isNumber N f m 1 9999)).bind fun z16 => if (x_b z16.1) = 0 then some (false, z16.2) else (x_cv z16.2 6 m (F_X6_takes N z16.2 m 61)).bind fun z17 => if (x_b z17.1) = 0 then some (false, z17.2) else (x_cv z17.2 6 m (F_X6_isNumber N z17.2 m 2 99)).bind fun z18 => if (x_b z18.1) = 0 then some (false, z18.2) else some (true, z18.2)) : k_rno bf len m V f z ∨ k_ryes bf len m k V f s z := by
  subst hz
  rw [h.cv]
  rcases k_num1 hN hk h hv hs with ⟨a1, a2⟩ | ⟨f1, V1, s1, v1, a1, a2, a3, a4, a5, a6, a7, a8, a9, a10, a11⟩
  · refine Or.inl ⟨f, V, s, ?_, h, k_fr.rf, k_mx.rf, hv.2.2.2.1, a2⟩
    rw [a1, Option.bind_some, if_pos (show x_b false = 0 from rfl)]
  · rw [a1, Option.bind_some, if_neg (show ¬ x_b true = 0 by decide), a2.cv]
    have a4' : k_mx V V1 [9] [12, 14] := a4.wd (by simp) (by simp)
    rcases k_takes (N := N) a2 a6 61 with ⟨g1, g2, f2, g3, g4, g5⟩ | ⟨g1, f2, g3, g4, g5⟩
    · have hv2 := a6.sp (s' := s1 + 1) (by omega)
      have st : k_rs bf (s1 + 1) = (3, b, nI v1, 0) := by
        show k_rd (k_rs bf s1) (bf s1) = _
        rw [a8, g2]
        exact k_t2e hb
      rw [g3, Option.bind_some, if_neg (show ¬ x_b true = 0 by decide), g4.cv]
      rcases k_num2 hN hk g4 hv2 st with ⟨b1, b2⟩ | ⟨f3, V3, s3, v3, b1, b2, b3, b4, b5, b6, b7, b8, b9, b10, b11⟩
      · refine Or.inl ⟨f2, _, s1 + 1, ?_, g4, a3.tr g5, a4'.tr (k_sI_mx (by simp)), k_sI_s, b2⟩
        rw [b1, Option.bind_some, if_pos (show x_b false = 0 from rfl)]
      · refine Or.inr ⟨f3, V3, s3, ?_, b2, (a3.tr g5).tr b3, (a4.tr (k_sI_mx (by simp))).tr b4, by omega, b6, by rw [b8]; exact k_c4 _, ?_, fun i hi => ?_, fun i y w => ?_, fun y w => ?_⟩
        · rw [b1, Option.bind_some, if_neg (show ¬ x_b true = 0 by decide)]
        · rw [b8]
          have e1 : V3.1 9 (3 * k) = b := by
            rw [b9, k_upd_n (by omega)]
            show V1.1 9 (3 * k) = b
            rw [a9, k_upd_n (by omega)]
            exact hG
          have e2 : V3.1 9 (3 * k + 1) = nI v1 := by
            rw [b9, k_upd_n (by omega)]
            show V1.1 9 (3 * k + 1) = _
            rw [a9, k_upd_s]
          have e3 : V3.1 9 (3 * k + 2) = nI v3 := by rw [b9, k_upd_s]
          exact ⟨e1, Or.inr (Or.inr (Or.inr ⟨hb, v1, v3, a7, b7, rfl, rfl, e2, e3⟩))⟩
        · rw [b9, k_upd_n (by omega)]
          show V1.1 9 i = _
          rw [a9, k_upd_n (by omega)]
        · by_cases u : i < s1
          · exact a10 i y u
          · by_cases u2 : i = s1
            · rw [u2, g2]; decide
            · exact b10 i (by omega) w
        · show (k_rd (k_rs bf s3) (bf s3)).1 = 8
          rw [b8]
          by_cases dg : k_dg (bf s3) = false
          · exact k_t4n dg w
          · exact b11 y (k_dg_t dg)
    · refine Or.inl ⟨f2, _, s1, ?_, g4, a3.tr g5, a4'.tr (k_sI_mx (by simp)), k_sI_s, k_bx_mk a6.2.1 (by rw [a8]; exact (show ¬ (2 : Int32) = 8 by decide)) (by rw [a8]; exact k_c2 hb _) (fun y => ?_)⟩
      · rw [g3, Option.bind_some, if_pos (show x_b false = 0 from rfl)]
      · rw [a8]
        by_cases dg : k_dg (bf s1) = false
        · exact k_t2m dg (g1 y) hb
        · exact a11 y (k_dg_t dg)
theorem k_ryes.mn {V0 : KM} {f0 : XM} {s0 : Nat} {z : Option (Bool × XM)} (h : k_ryes bf len m k V f s z) (hf : k_fr f0 f m (m + 10)) (hx : k_mx V0 V [9] [12]) (hs : s0 + 1 = s) (h59 : bf s0 ≠ 59) (hG : ∀ i, i < 3 * k → V.1 9 i = V0.1 9 i) : k_ryes bf len m k V0 f0 s0 z := by
  obtain ⟨f', V', s', a1, a2, a3, a4, a5, a6, a7, a8, a9, a10, a11⟩ := h
  refine ⟨f', V', s', a1, a2, hf.tr a3, hx.tr a4, by omega, a6, a7, a8, fun i hi => (a9 i hi).trans (hG i hi), fun i y w => ?_, a11⟩
  by_cases u : i = s0
  · rw [u]; exact h59
  · exact a10 i (by omega) w
theorem k_isOrder (hN : 100 ≤ N) (h : k_mo f m V) (hv : k_rv bf len s k V) (hk : 2 * k ≤ s) (h0 : (k_rs bf s).1 = 0) : k_rno bf len m V f (F_X6_isOrder N f m) ∨ k_ryes bf len m k V f s (F_X6_isOrder N f m) := by
  have hl := hv.1
  have hsl := hv.2.1
  have h08 : (k_rs bf s).1 ≠ 8 := by rw [h0]; decide
  have h0c : k_cpl (k_rs bf s) = false := k_cpl_n (by rw [h0]; decide) (by rw [h0]; decide) (fun y => by rw [h0] at y; exact absurd y (by decide))
  unfold F_X6_isOrder
  rw [h.i12, h.i10, hv.2.2.2.1, hv.2.2.1, Option.bind_some, Option.bind_some]
  by_cases g : s = len
  · rw [if_pos (by rw [g])]
    exact Or.inl ⟨f, V, s, rfl, h, k_fr.rf, k_mx.rf, hv.2.2.2.1, k_bx_mk hsl h08 h0c (fun y => absurd y (by omega))⟩
  · have hsl2 : s < len := by omega
    have hk29 : k ≤ 29 := by omega
    obtain ⟨f1, a1, a2, a3⟩ := h.st (a := 9) (i := 3 * k) (by omega) (by omega) (show _ < 93 by omega) (bf s)
    have hv1 := hv.ar (i := 3 * k) (v := bf s)
    obtain ⟨f2, b1, b2, b3⟩ := a2.pi (i := 12) (by omega) (nI (s + 1))
    have hv2 := hv1.sp (s' := s + 1) (by omega)
    have hG : (k_sI (k_sA V 9 (3 * k) (bf s)) 12 (nI (s + 1))).1 9 (3 * k) = bf s := by
      show (k_sA V 9 (3 * k) (bf s)).1 9 (3 * k) = _
      rw [k_sA_s, k_upd_s]
    have hG0 : ∀ i, i < 3 * k → (k_sI (k_sA V 9 (3 * k) (bf s)) 12 (nI (s + 1))).1 9 i = V.1 9 i := fun i hi => by
      show (k_sA V 9 (3 * k) (bf s)).1 9 i = _
      rw [k_sA_s, k_upd_n (by omega)]
    have hx : k_mx V (k_sI (k_sA V 9 (3 * k) (bf s)) 12 (nI (s + 1))) [9] [12] := (k_sA_mx (by simp)).tr (k_sI_mx (by simp))
    have hx2 : k_mx V (k_sI (k_sA V 9 (3 * k) (bf s)) 12 (nI (s + 1))) [9] [12, 14] := hx.wd (by simp) (by simp)
    have hfr : k_fr f f2 m (m + 10) := a3.tr b3
    have st : k_rs bf (s + 1) = k_rdL (bf s) := by
      show k_rd (k_rs bf s) (bf s) = _
      rw [k_rd_nc h0c]
      unfold k_rdM
      rw [if_pos h0]
    have l9 : x_ald f (m + 8) (nI s) = some (bf s) := by
      rw [h.ld (a := 8) (i := s) (by omega) (by omega) (show s < 60 by omega), hv.2.2.2.2.2 s hsl2]
    rw [if_neg (fun y => g ((nI_eq (by omega) (by omega)).mp y)), h.r9, Option.bind_some, Option.bind_some, Option.bind_some, l9, Option.bind_some, h.r13, Option.bind_some, h.i14, hv.2.2.2.2.1, Option.bind_some, Option.bind_some, k_3m, a1, Option.bind_some, a2.i12, hv1.2.2.2.1, Option.bind_some, k_add1, b1, Option.bind_some, b2.cv, b2.cv]
    by_cases e1 : bf s = 98
    · rw [if_pos e1]
      rw [e1] at st
      have h59 : bf s ≠ 59 := by rw [e1]; decide
      rcases k_isShare (N := N) hk29 b2 hv2 st with y | ⟨f3, V3, s3, v, c1, c2, c3, c4, c5, c6, c7, c8, c9, c10, c11⟩
      · obtain ⟨f3, V3, e, c1, c2⟩ := y
        exact Or.inl (k_rno.mn ⟨f3, V3, e, by rw [c1]; rfl, c2⟩ hfr hx2)
      · refine Or.inr (k_ryes.mn (V := k_sI (k_sA V 9 (3 * k) (bf s)) 12 (nI (s + 1))) (f := f2) (s := s + 1) ⟨f3, V3, s3, by rw [c1]; rfl, c2, c3, c4, c5, c6, by rw [c9]; exact k_c7 _, ?_, fun i hi => by rw [c10, k_upd_n (by omega)], c11, fun y w => ?_⟩ hfr hx rfl h59 hG0)
        · rw [c9]
          refine ⟨by rw [c10, k_upd_n (by omega), hG]; exact e1, Or.inr (Or.inl ⟨rfl, v, c7, c8, rfl, by rw [c10, k_upd_s]⟩)⟩
        · show (k_rd (k_rs bf s3) (bf s3)).1 = 8
          rw [c9]
          exact k_t7 w
    · rw [if_neg e1]
      by_cases e2 : bf s = 99
      · rw [if_pos e2]
        rw [e2] at st
        have h59 : bf s ≠ 59 := by rw [e2]; decide
        have st' : k_rs bf (s + 1) = (7, 99, 0, 0) := st
        refine Or.inr ⟨f2, _, s + 1, rfl, b2, hfr, hx, by omega, hv2, by rw [st']; exact k_c7 _, ⟨by rw [st', hG]; exact e2, Or.inl (by rw [st'])⟩, hG0, fun i y w => by rw [show i = s by omega]; exact h59, fun y w => ?_⟩
        show (k_rd (k_rs bf (s + 1)) (bf (s + 1))).1 = 8
        rw [st']
        exact k_t7 w
      · rw [if_neg e2]
        by_cases e3 : bf s = 100
        · rw [if_pos e3]
          have h59 : bf s ≠ 59 := by rw [e3]; decide
          rw [e3] at st
          rcases k_oneNum (Or.inl rfl) hN hk29 b2 hv2 (show k_rs bf (s + 1) = (1, 100, 0, 0) from st) (hG.trans e3) with y | y
          · obtain ⟨f3, V3, e, c1, c2⟩ := y
            exact Or.inl (k_rno.mn ⟨f3, V3, e, by rw [c1]; rfl, c2⟩ hfr hx2)
          · obtain ⟨f3, V3, s3, c1, c2⟩ := y
            exact Or.inr (k_ryes.mn ⟨f3, V3, s3, by rw [c1]; rfl, c2⟩ hfr hx rfl h59 hG0)
        · rw [if_neg e3]
          by_cases e4 : bf s = 101
          · rw [if_pos e4]
            have h59 : bf s ≠ 59 := by rw [e4]; decide
            rw [e4] at st
            rcases k_oneNum (Or.inr rfl) hN hk29 b2 hv2 (show k_rs bf (s + 1) = (1, 101, 0, 0) from st) (hG.trans e4) with y | y
            · obtain ⟨f3, V3, e, c1, c2⟩ := y
              exact Or.inl (k_rno.mn ⟨f3, V3, e, by rw [c1]; rfl, c2⟩ hfr hx2)
            · obtain ⟨f3, V3, s3, c1, c2⟩ := y
              exact Or.inr (k_ryes.mn ⟨f3, V3, s3, by rw [c1]; rfl, c2⟩ hfr hx rfl h59 hG0)
          · rw [if_neg e4]
            by_cases e5 : bf s = 105
            · rw [if_pos e5]
              have h59 : bf s ≠ 59 := by rw [e5]; decide
              rw [e5] at st
              rcases k_twoNum (Or.inr rfl) hN hk29 b2 hv2 (show k_rs bf (s + 1) = (1, 105, 0, 0) from st) (hG.trans e5) (by rw [b2.cv]) with y | y
              · exact Or.inl (k_rno.mn y hfr hx2)
              · exact Or.inr (k_ryes.mn y hfr hx rfl h59 hG0)
            · rw [if_neg e5]
              by_cases e6 : bf s = 112
              · rw [if_pos e6]
                have h59 : bf s ≠ 59 := by rw [e6]; decide
                rw [e6] at st
                rcases k_twoNum (Or.inl rfl) hN hk29 b2 hv2 (show k_rs bf (s + 1) = (1, 112, 0, 0) from st) (hG.trans e6) (by rw [b2.cv]) with y | y
                · exact Or.inl (k_rno.mn y hfr hx2)
                · exact Or.inr (k_ryes.mn y hfr hx rfl h59 hG0)
              · rw [if_neg e6]
                obtain ⟨f3, c1, c2, c3⟩ := b2.pi (i := 12) (by omega) (nI s)
                refine Or.inl ⟨f3, _, s, ?_, c2, hfr.tr c3, hx2.tr (k_sI_mx (by simp)), k_sI_s, k_bx_mk hsl h08 h0c (fun y => ?_)⟩
                · rw [b2.i12, hv2.2.2.2.1, Option.bind_some, nI_pred, c1, Option.bind_some]
                · have st' : k_rd (k_rs bf s) (bf s) = k_rdL (bf s) := st
                  rw [st']
                  unfold k_rdL
                  rw [if_neg e1, if_neg e2, if_neg e3, if_neg e4, if_neg e5, if_neg e6]
theorem k_rv.nx {s' : Nat} (h : k_rv bf len s' k V) : k_rv bf len s' (k + 1) (k_sI V 14 (nI (k + 1))) := by
  obtain ⟨h1, h2, h3, h4, h5, h6⟩ := h
  exact ⟨h1, h2, (k_sI_n (by omega)).trans h3, (k_sI_n (by omega)).trans h4, k_sI_s, h6⟩
theorem k_whole_loop (hN : 100 ≤ N) : ∀ (dd fuel s k : Nat) (f : XM) (V : KM), len ≤ s + dd → dd + 1 < fuel → k_mo f m V → k_rv bf len s k V → 2 * k ≤ s → (k_rs bf s).1 = 0 → ∀ z, z = F_X6_isWhole_L12 N m (fun y1_8 g8 => (x_geti g8 6 m 12).bind fun v9 => (x_geti g8 6 m 10).bind fun v10 => if v9 = v10 then some (true, g8) else some (false, g8)) fuel true f →
    k_rno bf len m V f z ∨ ∃ (f' : XM) (V' : KM) (n : Nat), z = some (true, f') ∧ k_mo f' m V' ∧ k_fr f f' m (m + 10) ∧ k_mx V V' [9] [12, 14] ∧ V'.2 14 = nI (k + n) ∧ k_ords bf (V'.1 9) len n k s ∧ (∀ i, i < 3 * k → V'.1 9 i = V.1 9 i) ∧ k_cpl (k_rs bf len) = true := by
  intro dd
  induction dd with
  | zero =>
    intro fuel s k f V h1 h2 h hv hk h0 z hz
    obtain ⟨u, rfl⟩ : ∃ u, fuel = u + 1 := ⟨fuel - 1, by omega⟩
    rw [F_X6_isWhole_L12, if_neg (show ¬ x_b true = 0 by decide), h.cv] at hz
    rcases k_isOrder hN h hv hk h0 with y | y
    · obtain ⟨f1, V1, e, a1, a2⟩ := y
      exact Or.inl ⟨f1, V1, e, by rw [hz, a1, Option.bind_some, if_pos (show x_b false = 0 from rfl)], a2⟩
    · obtain ⟨f1, V1, s1, a1, a2, a3, a4, a5, a6, a7⟩ := y
      have := a6.2.1
      omega
  | succ dd ih =>
    intro fuel s k f V h1 h2 h hv hk h0 z hz
    have hl := hv.1
    obtain ⟨u, rfl⟩ : ∃ u, fuel = u + 1 := ⟨fuel - 1, by omega⟩
    rw [F_X6_isWhole_L12, if_neg (show ¬ x_b true = 0 by decide), h.cv] at hz
    rcases k_isOrder hN h hv hk h0 with y | y
    · obtain ⟨f1, V1, e, a1, a2⟩ := y
      exact Or.inl ⟨f1, V1, e, by rw [hz, a1, Option.bind_some, if_pos (show x_b false = 0 from rfl)], a2⟩
    · obtain ⟨f1, V1, s1, a1, a2, a3, a4, a5, a6, a7, a8, a9, a10, a11⟩ := y
      have a4' : k_mx V V1 [9] [12, 14] := a4.wd (by simp) (by simp)
      obtain ⟨f2, b1, b2, b3⟩ := a2.pi (i := 14) (by omega) (nI (k + 1))
      have hv2 := a6.nx
      have hs1 := a6.2.1
      rw [a1, Option.bind_some, if_neg (show ¬ x_b true = 0 by decide), a2.i14, a6.2.2.2.2.1, Option.bind_some, k_add1, b1, Option.bind_some, b2.cv] at hz
      rcases k_takes (N := N) b2 hv2 59 with ⟨g1, g2, f3, g3, g4, g5⟩ | ⟨g1, f3, g3, g4, g5⟩
      · have hv3 := hv2.sp (s' := s1 + 1) (by omega)
        rw [g3, Option.bind_some] at hz
        have st : (k_rs bf (s1 + 1)).1 = 0 := by
          show (k_rd (k_rs bf s1) (bf s1)).1 = 0
          unfold k_rd
          rw [if_pos ⟨g2, a7⟩]
        have hmx : k_mx V (k_sI (k_sI V1 14 (nI (k + 1))) 12 (nI (s1 + 1))) [9] [12, 14] := (a4'.tr (k_sI_mx (by simp))).tr (k_sI_mx (by simp))
        rcases ih u (s1 + 1) (k + 1) f3 _ (by omega) (by omega) g4 hv3 (by omega) st z hz with y | ⟨f4, V4, n, c1, c2, c3, c4, c5, c6, c7, c8⟩
        · exact Or.inl (y.mn ((a3.tr b3).tr g5) hmx)
        · refine Or.inr ⟨f4, V4, n + 1, c1, c2, ((a3.tr b3).tr g5).tr c3, hmx.tr c4, by rw [c5]; congr 1; omega, ⟨s1, a5, hs1, a10, a8.cg (fun i hi => c7 i hi), a7, Or.inr ⟨g1, g2, c6⟩⟩, fun i hi => (c7 i (by omega)).trans (a9 i hi), c8⟩
      · rw [g3, Option.bind_some] at hz
        obtain ⟨w, rfl⟩ : ∃ w, u = w + 1 := ⟨u - 1, by omega⟩
        have h10 : (k_sI (k_sI V1 14 (nI (k + 1))) 12 (nI s1)).2 10 = nI len := (k_sI_n (by omega)).trans ((k_sI_n (by omega)).trans a6.2.2.1)
        have h12 : (k_sI (k_sI V1 14 (nI (k + 1))) 12 (nI s1)).2 12 = nI s1 := k_sI_s
        have h14 : (k_sI (k_sI V1 14 (nI (k + 1))) 12 (nI s1)).2 14 = nI (k + 1) := (k_sI_n (by omega)).trans k_sI_s
        have hmx : k_mx V (k_sI (k_sI V1 14 (nI (k + 1))) 12 (nI s1)) [9] [12, 14] := (a4'.tr (k_sI_mx (by simp))).tr (k_sI_mx (by simp))
        rw [F_X6_isWhole_L12, if_pos (show x_b false = 0 from rfl), g4.i12, h12, Option.bind_some, g4.i10, h10, Option.bind_some] at hz
        by_cases g : s1 = len
        · rw [if_pos (by rw [g])] at hz
          exact Or.inr ⟨f3, _, 1, hz, g4, (a3.tr b3).tr g5, hmx, h14, ⟨s1, a5, hs1, a10, a8, a7, Or.inl ⟨rfl, g⟩⟩, a9, by rw [← g]; exact a7⟩
        · rw [if_neg (fun y => g ((nI_eq (by omega) (by omega)).mp y))] at hz
          have hlt : s1 < len := by omega
          exact Or.inl ⟨f3, _, s1, hz, g4, (a3.tr b3).tr g5, hmx, h12, ⟨hs1, k_cpl8 a7, fun _ => a11 hlt (g1 hlt)⟩, fun y => absurd y g⟩
theorem k_isWhole (hN : 100 ≤ N) (h : k_mo f m V) (hl : len ≤ 60) (h10 : V.2 10 = nI len) (hb : ∀ i, i < len → V.1 8 i = bf i) : k_rno bf len m V f (F_X6_isWhole N f m) ∨ ∃ (f' : XM) (V' : KM) (n : Nat), F_X6_isWhole N f m = some (true, f') ∧ k_mo f' m V' ∧ k_fr f f' m (m + 10) ∧ k_mx V V' [9] [12, 14] ∧ V'.2 14 = nI n ∧ k_ords bf (V'.1 9) len n 0 0 ∧ k_cpl (k_rs bf len) = true := by
  obtain ⟨f1, a1, a2, a3⟩ := h.pi (i := 12) (by omega) 0
  obtain ⟨f2, b1, b2, b3⟩ := a2.pi (i := 14) (by omega) 0
  have hv : k_rv bf len 0 0 (k_sI (k_sI V 12 0) 14 0) := ⟨hl, Nat.zero_le _, (k_sI_n (by omega)).trans ((k_sI_n (by omega)).trans h10), (k_sI_n (by omega)).trans k_sI_s, k_sI_s, hb⟩
  have hmx : k_mx V (k_sI (k_sI V 12 0) 14 0) [9] [12, 14] := (k_sI_mx (by simp)).tr (k_sI_mx (by simp))
  unfold F_X6_isWhole
  rw [a1, Option.bind_some, b1, Option.bind_some]
  rcases k_whole_loop (N := N) (m := m) hN len N 0 0 f2 _ (by omega) (by omega) b2 hv (by omega) rfl _ rfl with y | ⟨f4, V4, n, c1, c2, c3, c4, c5, c6, c7, c8⟩
  · exact Or.inl (y.mn (a3.tr b3) hmx)
  · exact Or.inr ⟨f4, V4, n, c1, c2, (a3.tr b3).tr c3, hmx.tr c4, by rw [c5, Nat.zero_add], c6, c8⟩
end KOR
section KL11
variable {N L : Nat} {xs : Nat → Int32} {x m o t : Nat} {h : XH} {f : XM} {n len : Nat} {q : Nat → Option Nat} {St : Nat → KS} {S : KS} {bf : Nat → Int32} {V : KM} {c : Nat}
theorem k_ci.rd {f' : XM} (h : k_ci f x n q St S bf len) (hf : ∀ a, ¬ (x + 62 ≤ a ∧ a < x + 63) → f' a = f a) {w : KQ} (hq : k_rq f' (x + 62) w) : k_ci f' x n q St S bf len := by
  obtain ⟨h1, h2, ⟨sp, a1, a2⟩, ⟨g1, a3, a4⟩, ⟨g2, a5, a6⟩, a7, -, b1, b2, a9, a10⟩ := h
  exact ⟨h1, h2, ⟨sp, a1, (hf _ (by omega)).trans a2⟩, ⟨g1, (hf _ (by omega)).trans a3, a4⟩, ⟨g2, (hf _ (by omega)).trans a5, a6⟩, (hf _ (by omega)).trans a7, ⟨_, _, _, _, hq⟩, b1.ext (fun a c d => hf a (by omega)), b2.ext (fun a c d => hf a (by omega)), a9.ext (fun i p a e1 e2 e3 e4 => hf a (by have := (a9.1 i p e1 e2).1; omega)), a10⟩
theorem k_ci.rq (h : k_ci f x n q St S bf len) : ∃ w : KQ, k_rq f (x + 62) w := by
  obtain ⟨-, -, -, -, -, -, ⟨a, b, c, d, e⟩, -⟩ := h
  exact ⟨(a, b, c, d), e⟩
theorem k_Rl.rd {f' : XM} (hR : k_Rl x t f n q St S bf len V c) (hf : ∀ a, ¬ (x + 62 ≤ a ∧ a < x + 63) → f' a = f a) {w : KQ} (hq : k_rq f' (x + 62) w) : k_Rl x t f' n q St S bf len V c :=
  ⟨hR.1.rd hf hq, hR.2.1.ext (fun a y z => hf a (by omega)), hR.2.2.1.ext (hf _ (by omega)), hR.2.2.2.1, hR.2.2.2.2⟩
theorem k_law11 (hN : 50000 ≤ N) (hI : k_In x m o t h.1) : ∃ r, F_law_11 N L xs x m o (nI (3 * t)) h = some r ∧ k_In x m o (t + 1) r := by
  obtain ⟨rfl, rfl, n, q, St, S, bf, len, V, c, hR⟩ := hI
  obtain ⟨r1, r2, r3, r4, r5⟩ := id hR
  obtain ⟨p1, p2, p3, p4, p5, p6⟩ := id r4
  obtain ⟨w, hw⟩ := r1.rq
  have hl := r1.2.1
  obtain ⟨e, f1, a1, a2, a3, a4⟩ := k_errorIn (N := N) (b := x + 61) (p := x + 62) (len := len) (by omega) (by omega) hl hw r1.2.2.2.2.2.1
  have hR1 := hR.rd a4 a3
  obtain ⟨s1, s2, s3, s4, s5⟩ := id hR1
  obtain ⟨f2, b1, b2, b3⟩ := s2.pi (i := 11) (by omega) 0
  have h10 : (k_sI V 11 0).2 10 = nI len := (k_sI_n (by omega)).trans p2
  have hcls : F_X5_firstError N h.1 x = some (nI e, f1) := by
    unfold F_X5_firstError
    rw [r1.rdr, r1.buf, r1.lng]
    simp only [Option.bind_some]
    rw [hw.cv, a1, Option.bind_some]
  unfold F_law_11
  rw [r1.cv, hcls, Option.bind_some, s2.cv]
  unfold F_X6_firstError
  rw [b1, Option.bind_some, b2.cv]
  rcases k_isWhole (N := N) (bf := bf) (len := len) (by omega) b2 hl h10 p3 with ⟨f3, V3, e', c1, c2, c3, c4, c5, c6⟩ | ⟨f3, V3, n', c1, c2, c3, c4, c5, c6, c7⟩
  · have ee : e = e' := a2.eq c6.1
    refine ⟨f3, ?_, ?_⟩
    · rw [c1, Option.bind_some, if_pos (show x_b false = 0 from rfl), c2.i12, c5, Option.bind_some, Option.bind_some, if_pos (show nI e = nI e' by rw [ee])]
    · have hfr := b3.tr c3
      exact k_qry hR1 (fun a ha => hfr a (by omega)) (s1.gat.ext (fun a y1 y2 => hfr a (by omega))) c2 (((k_sI_mx (V := V) (i := 11) (v := 0) (As := [5, 6, 7, 9]) (Is := [8, 11, 12, 14]) (by simp))).tr (c4.wd (by simp) (by simp))) (s3.ext (hfr _ (by omega)))
  · have ee : e = len := a2.eq ⟨Nat.le_refl _, k_cpl8 c7, fun y => absurd y (Nat.lt_irrefl _)⟩
    have h10' : V3.2 10 = nI len := (c4.2 10 (by simp)).trans h10
    refine ⟨f3, ?_, ?_⟩
    · rw [c1, Option.bind_some, if_neg (show ¬ x_b true = 0 by decide), c2.i10, h10', Option.bind_some, Option.bind_some, if_pos (show nI e = nI len by rw [ee])]
    · have hfr := b3.tr c3
      exact k_qry hR1 (fun a ha => hfr a (by omega)) (s1.gat.ext (fun a y1 y2 => hfr a (by omega))) c2 (((k_sI_mx (V := V) (i := 11) (v := 0) (As := [5, 6, 7, 9]) (Is := [8, 11, 12, 14]) (by simp))).tr (c4.wd (by simp) (by simp))) (s3.ext (hfr _ (by omega)))
end KL11
