/-! The reference: an entry in a new leaf, and an entry wherever it belongs. -/
section KMJ
variable {N : Nat} {f : XM} {m c : Nat} {V : KM} {S : KS}
theorem k_mappends (h : k_mo f m V) (hs : k_ms (V.1 1) S c) (hc : c + 1 ≤ 1200) (hl : S.2.2.1.2.2.1 < 512) {k v : Int32} (hk : 0 ≤ k.toInt ∧ k.toInt < 10000) (hv : v ≠ -1) (hpl : ¬ k_pl S.2.2.1.1.1 S.2.2.1.1.2.1 k < S.2.2.1.1.1) (hn : S.2.2.1.1.1 < 160)
    (hb : ∀ i, i < S.2.2.1.2.2.1 → 0 < S.2.2.1.2.2.1 → (S.2.2.1.2.2.2.1 i).toInt < k.toInt) (hx : ∀ i, i < S.2.2.1.1.1 → (S.2.2.1.1.2.1 i).toInt < k.toInt) :
    ∃ (f' : XM) (V' : KM), F_X6_appends N f m k v = some f' ∧ k_mo f' m V' ∧ k_mx V V' [1] [] ∧ k_fr f f' m (m + 10) ∧ k_ms (V'.1 1) (k_stt S (k_tins (k_tleaf (k_tfx S) k) k v 0)) (c + 1) := by
  have g7 : V.1 1 7 = nI S.2.2.1.1.1 := hs.2.2.1.2.2.2.2.2.1
  have g8 : V.1 1 8 = nI S.2.2.1.2.2.1 := hs.2.2.1.2.2.2.2.2.2
  have g4 : V.1 1 4 = S.2.2.2.2.2.1 := hs.2.2.1.2.2.1
  have hil0 := hs.2.2.2.2.2.1
  have l8 := k_l8 h hs
  have ix : (1496 + nI S.2.2.1.2.2.1 : Int32) = nI (1496 + S.2.2.1.2.2.1) := by rw [k_lit 1496, nI_add]
  have l4 : x_ald f (m + 1) 4 = some S.2.2.2.2.2.1 := by rw [← g4]; exact k_ld1 h (i := 4) (by omega)
  by_cases z : S.2.2.1.2.2.1 = 0
  · by_cases zb : S.2.2.2.2.2.1 = 0
    · have hi0 := hil0.mpr ⟨z, zb⟩
      obtain ⟨f1, a1, a2, a3⟩ := h.st (a := 1) (i := 2) (by omega) (by omega) (by show _ < 6696; omega) (V.1 1 0)
      obtain ⟨f2, b1, b2, b3⟩ := a2.st (a := 1) (i := 3) (by omega) (by omega) (by show _ < 6696; omega) (V.1 1 1)
      have hG : ∀ a, a ≠ 2 → a ≠ 3 → (k_sA (k_sA V 1 2 (V.1 1 0)) 1 3 (V.1 1 1)).1 1 a = V.1 1 a := fun a y1 y2 => by rw [k_sA_s, k_upd_n y2, k_sA_s, k_upd_n y1]
      have hG2 : (k_sA (k_sA V 1 2 (V.1 1 0)) 1 3 (V.1 1 1)).1 1 2 = V.1 1 0 := by rw [k_sA_s, k_upd_n (by omega), k_sA_s, k_upd_s]
      have hG3 : (k_sA (k_sA V 1 2 (V.1 1 0)) 1 3 (V.1 1 1)).1 1 3 = V.1 1 1 := by rw [k_sA_s, k_upd_s]
      have m2 : k_mx V (k_sA (k_sA V 1 2 (V.1 1 0)) 1 3 (V.1 1 1)) [1] [] := (k_sA_mx (by simp)).tr (k_sA_mx (by simp))
      generalize k_sA (k_sA V 1 2 (V.1 1 0)) 1 3 (V.1 1 1) = W at *
      obtain ⟨f3, f4, f5, V1, V2, V3, t1, t2, t3, t4, t5, t6, t7, t8, t9, t10, t11⟩ := k_ap_tail (N := N) b2 (lc := S.2.2.1.2.2.1) (n := S.2.2.1.1.1) (by rw [hG 7 (by omega) (by omega)]; exact g7) (by rw [hG 8 (by omega) (by omega)]; exact g8) hn (by omega) k v (if S.2.2.1.2.2.1 = 0 then 0 else k)
      refine ⟨f5, V3, ?_, t8, m2.tr t9, (a3.tr b3).tr t10, ?_⟩
      · have o0 : x_ald f (m + 1) 0 = some (V.1 1 0) := k_ld1 h (i := 0) (by omega)
        have o1 : x_ald f1 (m + 1) 1 = some (V.1 1 1) := by
          have := k_ld1 a2 (i := 1) (by omega)
          rw [k_sA_s, k_upd_n (by omega)] at this
          exact this
        have l8' : x_ald f2 (m + 1) 8 = some (nI S.2.2.1.2.2.1) := by
          have := k_ld1 b2 (i := 8) (by omega)
          rw [hG 8 (by omega) (by omega), g8] at this
          exact this
        have a1' : x_ast f (m + 1) 2 (V.1 1 0) = some f1 := a1
        have b1' : x_ast f1 (m + 1) 3 (V.1 1 1) = some f2 := b1
        have t7' : x_ast f4 (m + 1) 8 (nI (S.2.2.1.2.2.1 + 1)) = some f5 := t7
        have t3' : x_ald f3 (m + 1) 8 = some (nI S.2.2.1.2.2.1) := t3
        have t6' : x_ald f4 (m + 1) 8 = some (nI S.2.2.1.2.2.1) := t6
        rw [if_pos z] at t1
        unfold F_X6_appends
        rw [h.r0, Option.bind_some, Option.bind_some, l8, Option.bind_some, if_pos (by rw [z]; rfl), Option.bind_some, Option.bind_some, l4, Option.bind_some, if_pos zb]
        simp only [o0, a1', a2.r0, o1, b1', b2.r0, l8', Option.bind_some]
        rw [if_pos (by rw [z]; rfl)]
        simp only [ix, t1, t2.r0, t3', t2.cv, t4, t5.r0, t6', k_add1, t7', Option.bind_some]
      · refine k_ap_ms hs hc hl hk hv hpl hn hb hx (fun a y1 y2 => ?_) ?_
        · rw [t11 a]
          by_cases ya : a = 8
          · rw [if_pos ya, if_pos ya]
          · rw [if_neg ya, if_neg ya]
            unfold k_Ga
            simp only [hG a y1 y2]
        · rw [if_pos hi0]
          constructor
          · rw [t11, if_neg (by omega)]; unfold k_Ga
            rw [if_neg (by omega), if_neg (by omega), if_neg (by omega), if_neg (by omega), if_neg (by omega)]
            show (if 2 = 1496 + _ then _ else W.1 1 2) = _
            rw [if_neg (by omega), hG2]
          · rw [t11, if_neg (by omega)]; unfold k_Ga
            rw [if_neg (by omega), if_neg (by omega), if_neg (by omega), if_neg (by omega), if_neg (by omega)]
            show (if 3 = 1496 + _ then _ else W.1 1 3) = _
            rw [if_neg (by omega), hG3]
    · have hi0 : ¬ S.2.2.1.2.2.2.2.1 = 0 := fun e => zb (hil0.mp e).2
      obtain ⟨f3, f4, f5, V1, V2, V3, t1, t2, t3, t4, t5, t6, t7, t8, t9, t10, t11⟩ := k_ap_tail (N := N) h (lc := S.2.2.1.2.2.1) (n := S.2.2.1.1.1) g7 g8 hn (by omega) k v (if S.2.2.1.2.2.1 = 0 then 0 else k)
      refine ⟨f5, V3, ?_, t8, t9, t10, ?_⟩
      · have t7' : x_ast f4 (m + 1) 8 (nI (S.2.2.1.2.2.1 + 1)) = some f5 := t7
        have t3' : x_ald f3 (m + 1) 8 = some (nI S.2.2.1.2.2.1) := t3
        have t6' : x_ald f4 (m + 1) 8 = some (nI S.2.2.1.2.2.1) := t6
        rw [if_pos z] at t1
        unfold F_X6_appends
        rw [h.r0, Option.bind_some, Option.bind_some, l8, Option.bind_some, if_pos (by rw [z]; rfl), Option.bind_some, Option.bind_some, l4, Option.bind_some, if_neg zb]
        simp only [l8, Option.bind_some]
        rw [if_pos (by rw [z]; rfl)]
        simp only [ix, t1, t2.r0, t3', t2.cv, t4, t5.r0, t6', k_add1, t7', Option.bind_some]
      · refine k_ap_ms hs hc hl hk hv hpl hn hb hx (fun a y1 y2 => t11 a) ?_
        rw [if_neg hi0]
        constructor
        · rw [t11, if_neg (by omega)]; unfold k_Ga
          rw [if_neg (by omega), if_neg (by omega), if_neg (by omega), if_neg (by omega), if_neg (by omega)]
          exact if_neg (by omega)
        · rw [t11, if_neg (by omega)]; unfold k_Ga
          rw [if_neg (by omega), if_neg (by omega), if_neg (by omega), if_neg (by omega), if_neg (by omega)]
          exact if_neg (by omega)
  · have hi0 : ¬ S.2.2.1.2.2.2.2.1 = 0 := fun e => z (hil0.mp e).1
    obtain ⟨f3, f4, f5, V1, V2, V3, t1, t2, t3, t4, t5, t6, t7, t8, t9, t10, t11⟩ := k_ap_tail (N := N) h (lc := S.2.2.1.2.2.1) (n := S.2.2.1.1.1) g7 g8 hn (by omega) k v (if S.2.2.1.2.2.1 = 0 then 0 else k)
    refine ⟨f5, V3, ?_, t8, t9, t10, ?_⟩
    · have t7' : x_ast f4 (m + 1) 8 (nI (S.2.2.1.2.2.1 + 1)) = some f5 := t7
      have t3' : x_ald f3 (m + 1) 8 = some (nI S.2.2.1.2.2.1) := t3
      have t6' : x_ald f4 (m + 1) 8 = some (nI S.2.2.1.2.2.1) := t6
      rw [if_neg z] at t1
      unfold F_X6_appends
      rw [h.r0, Option.bind_some, Option.bind_some, l8, Option.bind_some, if_neg (nI_ne0 (by omega) (by omega))]
      simp only [l8, Option.bind_some]
      rw [if_neg (nI_ne0 (by omega) (by omega))]
      simp only [ix, t1, t2.r0, t3', t2.cv, t4, t5.r0, t6', k_add1, t7', Option.bind_some]
    · refine k_ap_ms hs hc hl hk hv hpl hn hb hx (fun a y1 y2 => t11 a) ?_
      rw [if_neg hi0]
      constructor
      · rw [t11, if_neg (by omega)]; unfold k_Ga
        rw [if_neg (by omega), if_neg (by omega), if_neg (by omega), if_neg (by omega), if_neg (by omega)]
        exact if_neg (by omega)
      · rw [t11, if_neg (by omega)]; unfold k_Ga
        rw [if_neg (by omega), if_neg (by omega), if_neg (by omega), if_neg (by omega), if_neg (by omega)]
        exact if_neg (by omega)
end KMJ
