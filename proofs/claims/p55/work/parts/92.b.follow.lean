/-! Following orders. -/
/-- an order carried out: the reader's letter, first and second number -/
noncomputable def k_co (S : KS) (w : KQ) : Option KS :=
  if w.2.1 = 98 then (if (k_all S).1 ≤ 160 then some (k_sbl S (k_all S) (k_u w.2.2.1)) else none)
  else if w.2.1 = 99 then (if (S.2.1 0).1 = 0 ∨ S.1 = 6 then none else some (k_scl S))
  else if w.2.1 = 100 then (if k_room S w.2.2.1 = true then some (k_s0 S (k_wr (S.2.1 0) w.2.2.1 (-1))) else none)
  else if w.2.1 = 101 then (if k_run S w.2.2.1 ≤ S.1 ∨ ¬ k_pl S.2.2.1.1.1 S.2.2.1.1.2.1 w.2.2.1 < S.2.2.1.1.1 then none else some (k_stt S (k_tdel S.2.2.1 w.2.2.1)))
  else if w.2.1 = 105 then (if k_cin S w.2.2.1 = true then some (k_stt S (k_twr (k_tfx S) w.2.2.1 w.2.2.2).2) else none)
  else if w.2.1 = 112 then (if k_room S w.2.2.1 = true then some (k_s0 S (k_wr (S.2.1 0) w.2.2.1 w.2.2.2)) else none)
  else none
/-- its numbers are in their ranges -/
def k_wok (w : KQ) : Bool := (decide (w.2.1 ≠ 98) || decide (50 ≤ w.2.2.1.toInt ∧ w.2.2.1.toInt ≤ 100)) && (decide (0 ≤ w.2.2.1.toInt ∧ w.2.2.1.toInt ≤ 9999) && decide (0 ≤ w.2.2.2.toInt ∧ w.2.2.2.toInt ≤ 99))
section KFO
variable {N : Nat} {f : XM} {x wz c n len : Nat} {S : KS} {q : Nat → Option Nat} {St : Nat → KS} {bf : Nat → Int32} {w : KQ}
theorem k_tell_f (hN : 50000 ≤ N) (h : k_ci f x wz n q St S bf len) (hg : k_gd c S) (v u : Int32) (hv : 0 ≤ v.toInt ∧ v.toInt ≤ 9999) (hu : -1 ≤ u.toInt) :
    ∃ (a : Int32) (f' : XM), F_X3_tell N f (x + 1) v u = some (a, f') ∧ k_fr2 f f' (x + 1) (x + 63) ∧ k_gat f' (x + 63) ∧ (if k_room S v = true then a ≠ -1 ∧ k_st f' (x + 1) (k_s0 S (k_wr (S.2.1 0) v u)) ∧ k_gd (c + 1) (k_s0 S (k_wr (S.2.1 0) v u)) else a = -1 ∧ k_st f' (x + 1) S) := by
  have ht := k_tell (N := N) (by omega) h.st (hg.1.2.1 0 (Nat.zero_le _)) v u
  have h12 := hg.1.2.2.1
  by_cases g : k_pl (S.2.1 0).1 (S.2.1 0).2.1 v < (S.2.1 0).1 ∨ (S.2.1 0).1 < 12
  · rw [if_pos g] at ht
    obtain ⟨f2, b1, b2, b3⟩ := ht
    have hle : (k_wr (S.2.1 0) v u).1 ≤ 13 := by rw [k_wr_n]; split <;> omega
    refine ⟨_, f2, b1, k_fr2.ofb b3 (Nat.le_refl _) (by omega), h.gat.ext (fun a c d => b3 a (by omega)), ?_⟩
    rw [if_pos (show k_room S v = true from decide_eq_true g)]
    exact ⟨fun e => k_nim1 _ (by omega) e, b2, k_ws_s0 hg.1 (by omega) g, k_vv_s0 hg.2.1 hu, by show S.2.2.1.2.2.1 ≤ _; have := hg.2.2; omega⟩
  · rw [if_neg g] at ht
    refine ⟨_, f, ht, k_fr2.rf, h.gat, ?_⟩
    rw [if_neg (show ¬ k_room S v = true from fun e => g (of_decide_eq_true e))]
    exact ⟨rfl, h.st⟩
theorem k_carry (hN : 50000 ≤ N) (hc : c < 351) (h : k_ci f x wz n q St S bf len) (hg : k_gd c S) (hq : k_rq f (x + 62) w) (hw : k_wok w = true) :
    ∃ (f' : XM) (S2 : KS), F_X5_carryOut N f x = some ((k_co S w).isSome, f') ∧ k_fr2 f f' (x + 1) (x + 63) ∧ k_gat f' (x + 63) ∧ k_st f' (x + 1) S2 ∧ ∀ S', k_co S w = some S' → S2 = S' ∧ k_gd (c + 1) S' := by
  obtain ⟨w0, w1, w2, w3⟩ := w
  have hg0 := hg
  obtain ⟨g1, g2, g3⟩ := hg
  unfold k_wok at hw
  rw [Bool.and_eq_true, Bool.and_eq_true, Bool.or_eq_true] at hw
  obtain ⟨r1, r2, r3⟩ := hw
  have r2 := of_decide_eq_true r2
  have r3 := of_decide_eq_true r3
  simp only [] at r1 r2 r3
  have a1 : x_geti f 1 (x + 62) 1 = some w1 := hq.g1
  have a2 : x_geti f 1 (x + 62) 2 = some w2 := hq.g2
  have a3 : x_geti f 1 (x + 62) 3 = some w3 := hq.g3
  unfold F_X5_carryOut k_co
  simp only [h.rdr, Option.bind_some, a1]
  by_cases e1 : w1 = 98
  · rw [if_pos e1, if_pos e1]
    have hp : 50 ≤ w2.toInt ∧ w2.toInt ≤ 100 := by
      rcases r1 with r1 | r1
      · exact absurd e1 (of_decide_eq_true r1)
      · exact of_decide_eq_true r1
    obtain ⟨j, j1, rfl, j3⟩ := k_nn (x := w2) (by omega)
    obtain ⟨f', Q, b1, b2, b3, b4⟩ := k_rebuild (N := N) (by omega) h.st g1 h.gat (Or.inr (by omega)) (p := j) (by omega)
    have hA := k_all_of b1
    simp only [h.now, h.gth, Option.bind_some, a2, h.st.cv, k_u_n j1]
    by_cases z : (k_all S).1 ≤ 160
    · have z' : ¬ 160 < Q.1 := by rw [← hA.1]; omega
      rw [if_neg z'] at b4
      have hea := k_each_r g1 (p := j) (by omega)
      have hru := k_ru_le (a := k_each S.2.2.2.1 j) (c := Q.1) hea.1
      rw [if_pos z, b4.1, Option.bind_some, if_neg (k_nim1 _ (by omega))]
      have hst := k_sbl_cg (R := k_all S) g1 (show j ≤ 100 by omega) b4.2 hA.1.symm (fun i hi => ⟨(hA.2 i (by rw [hA.1]; exact hi)).1.symm, (hA.2 i (by rw [hA.1]; exact hi)).2.symm⟩)
      have hfa : k_fnd S (k_all S) := (k_okA_of b1 (by omega)).1
      refine ⟨f', _, rfl, b3, b2, hst, fun S' e => ?_⟩
      cases e
      refine ⟨rfl, k_ws_bl g1 (by omega) hfa z, k_vv_bl g2 hfa, ?_⟩
      show k_ru (k_all S).1 (k_each S.2.2.2.1 j) ≤ _
      rw [hA.1]
      omega
    · have z' : 160 < Q.1 := by rw [← hA.1]; omega
      rw [if_pos z'] at b4
      rw [if_neg z, b4.1, Option.bind_some, if_pos rfl]
      exact ⟨f', S, rfl, b3, b2, b4.2, fun S' e => by cases e⟩
  · rw [if_neg e1, if_neg e1]
    by_cases e2 : w1 = 99
    · rw [if_pos e2, if_pos e2]
      have ht := k_closeOpen (N := N) (by omega) h.st
      simp only [h.now, Option.bind_some, h.st.cv]
      by_cases z : (S.2.1 0).1 = 0 ∨ S.1 = 6
      · rw [if_pos z] at ht
        rw [if_pos z, ht, Option.bind_some, if_pos rfl]
        exact ⟨f, S, rfl, k_fr2.rf, h.gat, h.st, fun S' e => by cases e⟩
      · rw [if_neg z] at ht
        obtain ⟨f', b1, b2, b3⟩ := ht
        have h6 := g1.1
        rw [if_neg z, b1, Option.bind_some, if_neg (k_nim1 _ (by omega))]
        exact ⟨f', _, rfl, k_fr2.ofb b3 (Nat.le_refl _) (by omega), h.gat.ext (fun a c d => b3 a (by omega)), b2, fun S' e => by cases e; exact ⟨rfl, k_ws_cl g1 (by omega), k_vv_cl g2, by show S.2.2.1.2.2.1 ≤ _; omega⟩⟩
    · rw [if_neg e2, if_neg e2]
      by_cases e3 : w1 = 100
      · rw [if_pos e3, if_pos e3]
        obtain ⟨a, f', b1, b2, b3, b4⟩ := k_tell_f hN h hg0 w2 (-1) r2 (by decide)
        simp only [h.now, h.rdr, Option.bind_some, a2, h.st.cv, b1]
        by_cases z : k_room S w2 = true
        · rw [if_pos z] at b4
          rw [if_pos z, if_neg b4.1]
          exact ⟨f', _, rfl, b2, b3, b4.2.1, fun S' e => by cases e; exact ⟨rfl, b4.2.2⟩⟩
        · rw [if_neg z] at b4
          rw [if_neg z, if_pos b4.1]
          exact ⟨f', S, rfl, b2, b3, b4.2, fun S' e => by cases e⟩
      · rw [if_neg e3, if_neg e3]
        by_cases e4 : w1 = 101
        · rw [if_pos e4, if_pos e4]
          have ht := k_eraseEntry (N := N) (by omega) h.st g1 r2.1
          simp only [h.now, h.rdr, Option.bind_some, a2, h.st.cv]
          by_cases z : k_run S w2 ≤ S.1 ∨ ¬ k_pl S.2.2.1.1.1 S.2.2.1.1.2.1 w2 < S.2.2.1.1.1
          · rw [if_pos z] at ht
            rw [if_pos z, ht, Option.bind_some, if_pos rfl]
            exact ⟨f, S, rfl, k_fr2.rf, h.gat, h.st, fun S' e => by cases e⟩
          · rw [if_neg z] at ht
            obtain ⟨f', b1, b2, b3⟩ := ht
            have hz : k_pl S.2.2.1.1.1 S.2.2.1.1.2.1 w2 < S.2.2.1.1.1 := by omega
            have hv := g1.2.2.2.2.1.2.2.2.2.2.2.1 _ hz
            rw [if_neg z, b1, Option.bind_some, if_neg hv]
            exact ⟨f', _, rfl, k_fr2.ofb b2 (Nat.le_refl _) (by omega), h.gat.ext (fun a c d => b2 a (by omega)), b3, fun S' e => by cases e; exact ⟨rfl, k_ws_tt g1 (k_wt_del g1.2.2.2.2.1), k_vv_del g2, by show S.2.2.1.2.2.1 ≤ _; omega⟩⟩
        · rw [if_neg e4, if_neg e4]
          by_cases e5 : w1 = 105
          · rw [if_pos e5, if_pos e5]
            have ht := k_writeEntry (N := N) (by omega) h.st g1 (by omega) r2.1 w3
            simp only [h.now, h.rdr, Option.bind_some, a2, a3, h.st.cv]
            obtain ⟨t1, t2, t3, t4, t5⟩ := k_tfx_wt g1
            by_cases z1 : k_run S w2 ≤ S.1
            · rw [if_pos z1] at ht
              have z : ¬ k_cin S w2 = true := fun e => (of_decide_eq_true e).1 z1
              rw [if_neg z, ht, Option.bind_some, if_pos rfl]
              exact ⟨f, S, rfl, k_fr2.rf, h.gat, h.st, fun S' e => by cases e⟩
            · rw [if_neg z1] at ht
              obtain ⟨f', b1, b2, b3⟩ := ht
              have hm1 := k_twr_m1 (k_tfx S) w2 w3
              rw [t4] at hm1
              rw [b1, Option.bind_some]
              by_cases z : k_cin S w2 = true
              · have hz := of_decide_eq_true z
                have hne : (k_twr (k_tfx S) w2 w3).1 ≠ -1 := fun e => (hm1.mp e) hz.2
                rw [if_neg hne] at b3
                rw [if_pos z, if_neg hne]
                refine ⟨f', _, rfl, k_fr2.ofb b2 (Nat.le_refl _) (by omega), h.gat.ext (fun a c d => b2 a (by omega)), b3, fun S' e => ?_⟩
                cases e
                refine ⟨rfl, k_ws_tt g1 (k_wt_twr t1 (by omega) (by omega) (fun e => ?_) ⟨t2, t3⟩), k_vv_tw g2 r3.1, ?_⟩
                · rw [e] at r3
                  exact absurd r3.1 (by decide)
                · show (k_twr (k_tfx S) w2 w3).2.2.2.1 ≤ _
                  have := k_tlv_twr (k_tfx S) w2 w3
                  omega
              · have he : (k_twr (k_tfx S) w2 w3).1 = -1 := hm1.mpr (fun y => z (decide_eq_true ⟨z1, y⟩))
                rw [if_pos he] at b3
                rw [if_neg z, if_pos he, b3]
                exact ⟨f, S, rfl, k_fr2.rf, h.gat, h.st, fun S' e => by cases e⟩
          · rw [if_neg e5, if_neg e5]
            by_cases e6 : w1 = 112
            · rw [if_pos e6, if_pos e6]
              obtain ⟨a, f', b1, b2, b3, b4⟩ := k_tell_f hN h hg0 w2 w3 r2 (by omega)
              simp only [h.now, h.rdr, Option.bind_some, a2, a3, h.st.cv, b1]
              by_cases z : k_room S w2 = true
              · rw [if_pos z] at b4
                rw [if_pos z, if_neg b4.1]
                exact ⟨f', _, rfl, b2, b3, b4.2.1, fun S' e => by cases e; exact ⟨rfl, b4.2.2⟩⟩
              · rw [if_neg z] at b4
                rw [if_neg z, if_pos b4.1]
                exact ⟨f', S, rfl, b2, b3, b4.2, fun S' e => by cases e⟩
            · rw [if_neg e6, if_neg e6]
              exact ⟨f, S, rfl, k_fr2.rf, h.gat, h.st, fun S' e => by cases e⟩
/-- all orders from a letter on, d letters being left -/
noncomputable def k_fo (bf : Nat → Int32) (len : Nat) : Nat → KS → Option KS
  | 0, S => k_co S (k_rs bf len)
  | d + 1, S => if bf (len - (d + 1)) = 59 then (k_co S (k_rs bf (len - (d + 1)))).bind (k_fo bf len d) else k_fo bf len d S
theorem k_fo_loop (hN : 50000 ≤ N) (hok : ∀ i, i ≤ len → (i = len ∨ bf i = 59) → k_wok (k_rs bf i) = true) : ∀ (d fuel i c : Nat) (f : XM) (S : KS), i + d = len → d < fuel → c + d < 351 → k_ci f x wz n q St S bf len → k_gd c S → k_rq f (x + 62) (k_rs bf i) →
    ∃ (f' : XM) (S2 : KS), F_X5_carryOutAll_L9 N x (fun y1_25 g25 => (x_cv g25 5 x (F_X5_carryOut N g25 x)).bind fun z26 => some (z26.1, z26.2)) fuel (nI i) f = some ((k_fo bf len d S).isSome, f') ∧ (∀ a, x + 70 ≤ a → a < wz → f' a = f a) ∧ k_ci f' x wz n q St S2 bf len ∧ ∀ S', k_fo bf len d S = some S' → S2 = S' ∧ k_gd (c + d + 1) S' := by
  intro d
  induction d with
  | zero =>
    intro fuel i c f S h1 h2 h3 h hg hq
    obtain ⟨k, rfl⟩ : ∃ k, fuel = k + 1 := ⟨fuel - 1, by omega⟩
    obtain rfl : i = len := by omega
    have hl60 := h.2.1
    obtain ⟨f', S2, a1, a2, a3, a4, a5⟩ := k_carry hN (by omega) h hg hq (hok i (Nat.le_refl _) (Or.inl rfl))
    refine ⟨f', S2, ?_, fun a y1 y2 => a2 a (by omega) (by omega), h.setnow a2 a4 a3, fun S' e => ?_⟩
    · rw [F_X5_carryOutAll_L9, h.lng, Option.bind_some, if_pos (nI_le (Nat.le_refl _) (by omega))]
      rw [h.cv, a1]
      rfl
    · exact a5 S' e
  | succ d ih =>
    intro fuel i c f S h1 h2 h3 h hg hq
    obtain ⟨k, rfl⟩ : ∃ k, fuel = k + 1 := ⟨fuel - 1, by omega⟩
    have hl60 := h.2.1
    have hbuf := h.2.2.2.2.2.1
    have hi : len - (d + 1) = i := by omega
    rw [F_X5_carryOutAll_L9]
    simp only [h.lng, Option.bind_some, h.buf, k_alen hbuf]
    rw [if_neg (nI_ge (by omega) (by omega)), if_neg (nI_ge (by omega) (by omega))]
    simp only [k_ald hbuf (show i < 60 by omega) (by omega), Option.bind_some]
    rw [k_fo, hi]
    by_cases z : bf i = 59
    · rw [if_pos z, if_pos z]
      obtain ⟨f', S2, a1, a2, a3, a4, a5⟩ := k_carry hN (by omega) h hg hq (hok i (by omega) (Or.inr z))
      have h' := h.setnow a2 a4 a3
      rw [h.cv, a1, Option.bind_some]
      cases hco : k_co S (k_rs bf i) with
      | none =>
        rw [hco] at a1
        refine ⟨f', S2, ?_, fun a y1 y2 => a2 a (by omega) (by omega), h', fun S' e => by cases e⟩
        rw [if_pos (by rfl)]
        rfl
      | some S1 =>
        obtain ⟨rfl, hg1⟩ := a5 S1 hco
        have hq' : k_rq f' (x + 62) (k_rs bf i) := by
          have : f' (x + 62) = f (x + 62) := a2 _ (by omega) (by omega)
          exact this.trans hq
        have hbuf' := h'.2.2.2.2.2.1
        obtain ⟨f2, b1, b2, b3⟩ := k_accepts (N := N) hq' (bf i)
        have h2' : k_ci f2 x wz n q St S2 bf len := h'.rd (fun a ha => b3 a (by omega)) b2
        obtain ⟨f3, S3, d1, d2, d3, d4⟩ := ih k (i + 1) (c + 1) f2 S2 (by omega) (by omega) (by omega) h2' hg1 b2
        refine ⟨f3, S3, ?_, fun a y1 y2 => (d2 a y1 y2).trans ((b3 a (by omega)).trans (a2 a (by omega) (by omega))), d3, fun S' e => ?_⟩
        · rw [if_neg (show ¬ x_b (some S2).isSome = 0 by decide)]
          simp only [h'.rdr, h'.buf, Option.bind_some, k_ald hbuf' (show i < 60 by omega) (by omega), hq'.cv, b1, k_add1]
          exact d1
        · obtain ⟨y1, y2⟩ := d4 S' e
          exact ⟨y1, y2.mono (by omega)⟩
    · rw [if_neg z, if_neg z]
      obtain ⟨f2, b1, b2, b3⟩ := k_accepts (N := N) hq (bf i)
      have h2' : k_ci f2 x wz n q St S bf len := h.rd (fun a ha => b3 a (by omega)) b2
      obtain ⟨f3, S3, d1, d2, d3, d4⟩ := ih k (i + 1) c f2 S (by omega) (by omega) (by omega) h2' hg b2
      refine ⟨f3, S3, ?_, fun a y1 y2 => (d2 a y1 y2).trans (b3 a (by omega)), d3, fun S' e => ?_⟩
      · simp only [h.rdr, h.buf, Option.bind_some, k_ald hbuf (show i < 60 by omega) (by omega), hq.cv, b1, k_add1]
        exact d1
      · obtain ⟨y1, y2⟩ := d4 S' e
        exact ⟨y1, y2.mono (by omega)⟩
end KFO
