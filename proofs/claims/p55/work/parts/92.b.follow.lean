/-! Following orders. -/
/-- an order carried out: the reader's letter, first and second number -/
noncomputable def k_co (S : KS) (w : KQ) : Option KS :=
  if w.2.1 = 98 then (if (k_all S).1 ≤ 160 then some (k_sbl S (k_all S) (k_u w.2.2.1)) else none)
  else if w.2.1 = 99 then (if (S.2.1 0).1 = 0 ∨ S.1 = 6 then none else some (k_scl S))
  else if w.2.1 = 100 then (if k_room S w.2.2.1 = true then some (k_s0 S (k_wr (S.2.1 0) w.2.2.1 (-1))) else none)
  else if w.2.1 = 101 then (if k_run S w.2.2.1 ≤ S.1 ∨ ¬ k_pl S.2.2.1.1.1 S.2.2.1.1.2.1 w.2.2.1 < S.2.2.1.1.1 then none else some (k_stt S (k_tdel S.2.2.1 w.2.2.1)))
  else if w.2.1 = 105 then (if k_cin S w.2.2.1 = true then some (k_stt S (k_twr (k_tfx S) w.2.2.1 w.2.2.2).2) else none)
  else if w.2.1 = 112 then (if k_room S w.2.2.1 = true then some (k_s0 S (k_wr (S.2.1 0) w.2.2.1 w.2.2.2)) else none)
  else none
/-- its numbers are in their ranges -/
def k_wok (w : KQ) : Bool := (decide (w.2.1 ≠ 98) || decide (50 ≤ w.2.2.1.toInt ∧ w.2.2.1.toInt ≤ 100)) && (decide (0 ≤ w.2.2.1.toInt ∧ w.2.2.1.toInt ≤ 9999) && decide (0 ≤ w.2.2.2.toInt ∧ w.2.2.2.toInt ≤ 99))
section KFO
variable {N : Nat} {f : XM} {x wz c n len : Nat} {S : KS} {q : Nat → Option Nat} {St : Nat → KS} {bf : Nat → Int32} {w : KQ}
theorem k_tell_f (hN : 50000 ≤ N) (h : k_ci f x wz n q St S bf len) (hg : k_gd c S) (v u : Int32) (hv : 0 ≤ v.toInt ∧ v.toInt ≤ 9999) (hu : -1 ≤ u.toInt) :
    ∃ (a : Int32) (f' : XM), F_X3_tell N f (x + 1) v u = some (a, f') ∧ k_fr2 f f' (x + 1) (x + 63) ∧ k_gat f' (x + 63) ∧ (if k_room S v = true then a ≠ -1 ∧ k_st f' (x + 1) (k_s0 S (k_wr (S.2.1 0) v u)) ∧ k_gd (c + 1) (k_s0 S (k_wr (S.2.1 0) v u)) else a = -1 ∧ k_st f' (x + 1) S) := by
  have ht := k_tell (N := N) (by omega) h.st (hg.1.2.1 0 (Nat.zero_le _)) v u
  have h12 := hg.1.2.2.1
  by_cases g : k_pl (S.2.1 0).1 (S.2.1 0).2.1 v < (S.2.1 0).1 ∨ (S.2.1 0).1 < 12
  · rw [if_pos g] at ht
    obtain ⟨f2, b1, b2, b3⟩ := ht
    have hle : (k_wr (S.2.1 0) v u).1 ≤ 13 := by rw [k_wr_n]; split <;> omega
    refine ⟨_, f2, b1, k_fr2.ofb b3 (Nat.le_refl _) (by omega), h.gat.ext (fun a c d => b3 a (by omega)), ?_⟩
    rw [if_pos (show k_room S v = true from decide_eq_true g)]
    exact ⟨fun e => k_nim1 _ (by omega) e, b2, k_ws_s0 hg.1 (by omega) g, k_vv_s0 hg.2.1 hu, by show S.2.2.1.2.2.1 ≤ _; have := hg.2.2; omega⟩
  · rw [if_neg g] at ht
    refine ⟨_, f, ht, k_fr2.rf, h.gat, ?_⟩
    rw [if_neg (show ¬ k_room S v = true from fun e => g (of_decide_eq_true e))]
    exact ⟨rfl, h.st⟩
theorem k_carry (hN : 50000 ≤ N) (hc : c < 351) (h : k_ci f x wz n q St S bf len) (hg : k_gd c S) (hq : k_rq f (x + 62) w) (hw : k_wok w = true) :
    ∃ (f' : XM) (S2 : KS), F_X5_carryOut N f x = some ((k_co S w).isSome, f') ∧ k_fr2 f f' (x + 1) (x + 63) ∧ k_gat f' (x + 63) ∧ k_st f' (x + 1) S2 ∧ ∀ S', k_co S w = some S' → S2 = S' ∧ k_gd (c + 1) S' := by
  obtain ⟨w0, w1, w2, w3⟩ := w
  have hg0 := hg
  obtain ⟨g1, g2, g3⟩ := hg
  unfold k_wok at hw
  rw [Bool.and_eq_true, Bool.and_eq_true, Bool.or_eq_true] at hw
  obtain ⟨r1, r2, r3⟩ := hw
  have r2 := of_decide_eq_true r2
  have r3 := of_decide_eq_true r3
  simp only [] at r1 r2 r3
  have a1 : x_geti f 1 (x + 62) 1 = some w1 := hq.g1
  have a2 : x_geti f 1 (x + 62) 2 = some w2 := hq.g2
  have a3 : x_geti f 1 (x + 62) 3 = some w3 := hq.g3
  unfold F_X5_carryOut k_co
  simp only [h.rdr, Option.bind_some, a1]
  by_cases e1 : w1 = 98
  · rw [if_pos e1, if_pos e1]
    have hp : 50 ≤ w2.toInt ∧ w2.toInt ≤ 100 := by
      rcases r1 with r1 | r1
      · exact absurd e1 (of_decide_eq_true r1)
      · exact of_decide_eq_true r1
    obtain ⟨j, j1, rfl, j3⟩ := k_nn (x := w2) (by omega)
    obtain ⟨f', Q, b1, b2, b3, b4⟩ := k_rebuild (N := N) (by omega) h.st g1 h.gat (Or.inr (by omega)) (p := j) (by omega)
    have hA := k_all_of b1
    simp only [h.now, h.gth, Option.bind_some, a2, h.st.cv, k_u_n j1]
    by_cases z : (k_all S).1 ≤ 160
    · have z' : ¬ 160 < Q.1 := by rw [← hA.1]; omega
      rw [if_neg z'] at b4
      have hea := k_each_r g1 (p := j) (by omega)
      have hru := k_ru_le (a := k_each S.2.2.2.1 j) (c := Q.1) hea.1
      rw [if_pos z, b4.1, Option.bind_some, if_neg (k_nim1 _ (by omega))]
      have hst := k_sbl_cg (R := k_all S) g1 (show j ≤ 100 by omega) b4.2 hA.1.symm (fun i hi => ⟨(hA.2 i (by rw [hA.1]; exact hi)).1.symm, (hA.2 i (by rw [hA.1]; exact hi)).2.symm⟩)
      have hfa : k_fnd S (k_all S) := (k_okA_of b1 (by omega)).1
      refine ⟨f', _, rfl, b3, b2, hst, fun S' e => ?_⟩
      cases e
      refine ⟨rfl, k_ws_bl g1 (by omega) hfa z, k_vv_bl g2 hfa, ?_⟩
      show k_ru (k_all S).1 (k_each S.2.2.2.1 j) ≤ _
      rw [hA.1]
      omega
    · have z' : 160 < Q.1 := by rw [← hA.1]; omega
      rw [if_pos z'] at b4
      rw [if_neg z, b4.1, Option.bind_some, if_pos rfl]
      exact ⟨f', S, rfl, b3, b2, b4.2, fun S' e => by cases e⟩
  · rw [if_neg e1, if_neg e1]
    by_cases e2 : w1 = 99
    · rw [if_pos e2, if_pos e2]
      have ht := k_closeOpen (N := N) (by omega) h.st
      simp only [h.now, Option.bind_some, h.st.cv]
      by_cases z : (S.2.1 0).1 = 0 ∨ S.1 = 6
      · rw [if_pos z] at ht
        rw [if_pos z, ht, Option.bind_some, if_pos rfl]
        exact ⟨f, S, rfl, k_fr2.rf, h.gat, h.st, fun S' e => by cases e⟩
      · rw [if_neg z] at ht
        obtain ⟨f', b1, b2, b3⟩ := ht
        have h6 := g1.1
        rw [if_neg z, b1, Option.bind_some, if_neg (k_nim1 _ (by omega))]
        exact ⟨f', _, rfl, k_fr2.ofb b3 (Nat.le_refl _) (by omega), h.gat.ext (fun a c d => b3 a (by omega)), b2, fun S' e => by cases e; exact ⟨rfl, k_ws_cl g1 (by omega), k_vv_cl g2, by show S.2.2.1.2.2.1 ≤ _; omega⟩⟩
    · rw [if_neg e2, if_neg e2]
      by_cases e3 : w1 = 100
      · rw [if_pos e3, if_pos e3]
        obtain ⟨a, f', b1, b2, b3, b4⟩ := k_tell_f hN h hg0 w2 (-1) r2 (by decide)
        simp only [h.now, h.rdr, Option.bind_some, a2, h.st.cv, b1]
        by_cases z : k_room S w2 = true
        · rw [if_pos z] at b4
          rw [if_pos z, if_neg b4.1]
          exact ⟨f', _, rfl, b2, b3, b4.2.1, fun S' e => by cases e; exact ⟨rfl, b4.2.2⟩⟩
        · rw [if_neg z] at b4
          rw [if_neg z, if_pos b4.1]
          exact ⟨f', S, rfl, b2, b3, b4.2, fun S' e => by cases e⟩
      · rw [if_neg e3, if_neg e3]
        by_cases e4 : w1 = 101
        · rw [if_pos e4, if_pos e4]
          have ht := k_eraseEntry (N := N) (by omega) h.st g1 r2.1
          simp only [h.now, h.rdr, Option.bind_some, a2, h.st.cv]
          by_cases z : k_run S w2 ≤ S.1 ∨ ¬ k_pl S.2.2.1.1.1 S.2.2.1.1.2.1 w2 < S.2.2.1.1.1
          · rw [if_pos z] at ht
            rw [if_pos z, ht, Option.bind_some, if_pos rfl]
            exact ⟨f, S, rfl, k_fr2.rf, h.gat, h.st, fun S' e => by cases e⟩
          · rw [if_neg z] at ht
            obtain ⟨f', b1, b2, b3⟩ := ht
            have hz : k_pl S.2.2.1.1.1 S.2.2.1.1.2.1 w2 < S.2.2.1.1.1 := by omega
            have hv := g1.2.2.2.2.1.2.2.2.2.2.2.1 _ hz
            rw [if_neg z, b1, Option.bind_some, if_neg hv]
            exact ⟨f', _, rfl, k_fr2.ofb b2 (Nat.le_refl _) (by omega), h.gat.ext (fun a c d => b2 a (by omega)), b3, fun S' e => by cases e; exact ⟨rfl, k_ws_tt g1 (k_wt_del g1.2.2.2.2.1), k_vv_del g2, by show S.2.2.1.2.2.1 ≤ _; omega⟩⟩
        · rw [if_neg e4, if_neg e4]
          by_cases e5 : w1 = 105
          · rw [if_pos e5, if_pos e5]
            have ht := k_writeEntry (N := N) (by omega) h.st g1 (by omega) r2.1 w3
            simp only [h.now, h.rdr, Option.bind_some, a2, a3, h.st.cv]
            obtain ⟨t1, t2, t3, t4, t5⟩ := k_tfx_wt g1
            by_cases z1 : k_run S w2 ≤ S.1
            · rw [if_pos z1] at ht
              have z : ¬ k_cin S w2 = true := fun e => (of_decide_eq_true e).1 z1
              rw [if_neg z, ht, Option.bind_some, if_pos rfl]
              exact ⟨f, S, rfl, k_fr2.rf, h.gat, h.st, fun S' e => by cases e⟩
            · rw [if_neg z1] at ht
              obtain ⟨f', b1, b2, b3⟩ := ht
              have hm1 := k_twr_m1 (k_tfx S) w2 w3
              rw [t4] at hm1
              rw [b1, Option.bind_some]
              by_cases z : k_cin S w2 = true
              · have hz := of_decide_eq_true z
                have hne : (k_twr (k_tfx S) w2 w3).1 ≠ -1 := fun e => (hm1.mp e) hz.2
                rw [if_neg hne] at b3
                rw [if_pos z, if_neg hne]
                refine ⟨f', _, rfl, k_fr2.ofb b2 (Nat.le_refl _) (by omega), h.gat.ext (fun a c d => b2 a (by omega)), b3, fun S' e => ?_⟩
                cases e
                refine ⟨rfl, k_ws_tt g1 (k_wt_twr t1 (by omega) (by omega) (fun e => ?_) ⟨t2, t3⟩), k_vv_tw g2 r3.1, ?_⟩
                · rw [e] at r3
                  exact absurd r3.1 (by decide)
                · show (k_twr (k_tfx S) w2 w3).2.2.2.1 ≤ _
                  have := k_tlv_twr (k_tfx S) w2 w3
                  omega
              · have he : (k_twr (k_tfx S) w2 w3).1 = -1 := hm1.mpr (fun y => z (decide_eq_true ⟨z1, y⟩))
                rw [if_pos he] at b3
                rw [if_neg z, if_pos he, b3]
                exact ⟨f, S, rfl, k_fr2.rf, h.gat, h.st, fun S' e => by cases e⟩
          · rw [if_neg e5, if_neg e5]
            by_cases e6 : w1 = 112
            · rw [if_pos e6, if_pos e6]
              obtain ⟨a, f', b1, b2, b3, b4⟩ := k_tell_f hN h hg0 w2 w3 r2 (by omega)
              simp only [h.now, h.rdr, Option.bind_some, a2, a3, h.st.cv, b1]
              by_cases z : k_room S w2 = true
              · rw [if_pos z] at b4
                rw [if_pos z, if_neg b4.1]
                exact ⟨f', _, rfl, b2, b3, b4.2.1, fun S' e => by cases e; exact ⟨rfl, b4.2.2⟩⟩
              · rw [if_neg z] at b4
                rw [if_neg z, if_pos b4.1]
                exact ⟨f', S, rfl, b2, b3, b4.2, fun S' e => by cases e⟩
            · rw [if_neg e6, if_neg e6]
              exact ⟨f, S, rfl, k_fr2.rf, h.gat, h.st, fun S' e => by cases e⟩
/-- all orders from a letter on, d letters being left -/
noncomputable def k_nm (o : Option KS) (S : KS) : KS := match o with
  | none => S
  | some L => @ite _ (k_eq2 S L) (Classical.propDecidable _) L S
theorem k_nm_q (o : Option KS) (S : KS) : k_eq2 S (k_nm o S) := by
  cases o with
  | none => exact k_eq2.rf
  | some L =>
    show k_eq2 S (@ite _ (k_eq2 S L) (Classical.propDecidable _) L S)
    by_cases z : k_eq2 S L
    · rw [if_pos z]; exact z
    · rw [if_neg z]; exact k_eq2.rf
theorem k_nm_y {L S : KS} (h : k_eq2 S L) : k_nm (some L) S = L := by
  show @ite _ (k_eq2 S L) (Classical.propDecidable _) L S = L
  rw [if_pos h]
/-- g: states, put in the place of such as are alike -/
noncomputable def k_fo (bf : Nat → Int32) (len : Nat) (g : Nat → Option KS) : Nat → KS → Option KS
  | 0, S => (k_co S (k_rs bf len)).map (k_nm (g (len + 1)))
  | d + 1, S => if bf (len - (d + 1)) = 59 then (k_co S (k_rs bf (len - (d + 1)))).bind (fun S' => k_fo bf len g d (k_nm (g d) S')) else k_fo bf len g d S
theorem k_fo_loop {g : Nat → Option KS} (hN : 50000 ≤ N) (hok : ∀ i, i ≤ len → (i = len ∨ bf i = 59) → k_wok (k_rs bf i) = true) : ∀ (d fuel i c : Nat) (f : XM) (S : KS), i + d = len → d < fuel → c + d < 351 → k_ci f x wz n q St S bf len → k_gd c S → k_rq f (x + 62) (k_rs bf i) →
    ∃ (f' : XM) (S2 : KS), F_X5_carryOutAll_L9 N x (fun y1_25 g25 => (x_cv g25 5 x (F_X5_carryOut N g25 x)).bind fun z26 => some (z26.1, z26.2)) fuel (nI i) f = some ((k_fo bf len g d S).isSome, f') ∧ (∀ a, ¬ (x + 1 ≤ a ∧ a < x + 70) → f' a = f a) ∧ k_ci f' x wz n q St S2 bf len ∧ ∀ S', k_fo bf len g d S = some S' → S2 = S' ∧ k_gd (c + d + 1) S' := by
  intro d
  induction d with
  | zero =>
    intro fuel i c f S h1 h2 h3 h hg hq
    obtain ⟨k, rfl⟩ : ∃ k, fuel = k + 1 := ⟨fuel - 1, by omega⟩
    obtain rfl : i = len := by omega
    have hl60 := h.2.1
    obtain ⟨f', S2, a1, a2, a3, a4, a5⟩ := k_carry hN (by omega) h hg hq (hok i (Nat.le_refl _) (Or.inl rfl))
    refine ⟨f', k_nm (g (i + 1)) S2, ?_, fun a ha => a2 a (by omega) (by omega), h.setnow a2 (a4.cg (k_nm_q _ _)) a3, fun S' e => ?_⟩
    · rw [F_X5_carryOutAll_L9, h.lng, Option.bind_some, if_pos (nI_le (Nat.le_refl _) (by omega))]
      rw [h.cv, a1, k_fo, Option.isSome_map]
      rfl
    · rw [k_fo] at e
      cases hco : k_co S (k_rs bf i) with
      | none => rw [hco] at e; cases e
      | some S1 =>
        obtain ⟨rfl, hg1⟩ := a5 S1 hco
        rw [hco] at e
        cases e
        exact ⟨rfl, hg1.cg (k_nm_q _ _)⟩
  | succ d ih =>
    intro fuel i c f S h1 h2 h3 h hg hq
    obtain ⟨k, rfl⟩ : ∃ k, fuel = k + 1 := ⟨fuel - 1, by omega⟩
    have hl60 := h.2.1
    have hbuf := h.2.2.2.2.2.1
    have hi : len - (d + 1) = i := by omega
    rw [F_X5_carryOutAll_L9]
    simp only [h.lng, Option.bind_some, h.buf, k_alen hbuf]
    rw [if_neg (nI_ge (by omega) (by omega)), if_neg (nI_ge (by omega) (by omega))]
    simp only [k_ald hbuf (show i < 60 by omega) (by omega), Option.bind_some]
    rw [k_fo, hi]
    by_cases z : bf i = 59
    · rw [if_pos z, if_pos z]
      obtain ⟨f', S2, a1, a2, a3, a4, a5⟩ := k_carry hN (by omega) h hg hq (hok i (by omega) (Or.inr z))
      have h' := h.setnow a2 a4 a3
      rw [h.cv, a1, Option.bind_some]
      cases hco : k_co S (k_rs bf i) with
      | none =>
        rw [hco] at a1
        refine ⟨f', S2, ?_, fun a ha => a2 a (by omega) (by omega), h', fun S' e => by cases e⟩
        rw [if_pos (by rfl)]
        rfl
      | some S1 =>
        obtain ⟨rfl, hg1⟩ := a5 S1 hco
        have hq' : k_rq f' (x + 62) (k_rs bf i) := by
          have : f' (x + 62) = f (x + 62) := a2 _ (by omega) (by omega)
          exact this.trans hq
        have hbuf' := h'.2.2.2.2.2.1
        obtain ⟨f2, b1, b2, b3⟩ := k_accepts (N := N) hq' (bf i)
        have h2a : k_ci f2 x wz n q St S2 bf len := h'.rd (fun a ha => b3 a (by omega)) b2
        have h2' : k_ci f2 x wz n q St (k_nm (g d) S2) bf len := h2a.setnow (fun _ _ _ => rfl) (h2a.st.cg (k_nm_q _ _)) h2a.gat
        obtain ⟨f3, S3, d1, d2, d3, d4⟩ := ih k (i + 1) (c + 1) f2 (k_nm (g d) S2) (by omega) (by omega) (by omega) h2' (hg1.cg (k_nm_q _ _)) b2
        refine ⟨f3, S3, ?_, fun a ha => (d2 a ha).trans ((b3 a (by omega)).trans (a2 a (by omega) (by omega))), d3, fun S' e => ?_⟩
        · rw [if_neg (show ¬ x_b (some S2).isSome = 0 from (show ¬ x_b true = 0 by decide))]
          simp only [h'.rdr, h'.buf, Option.bind_some, k_ald hbuf' (show i < 60 by omega) (by omega), hq'.cv, b1, k_add1]
          exact d1
        · obtain ⟨y1, y2⟩ := d4 S' e
          exact ⟨y1, y2.mono (by omega)⟩
    · rw [if_neg z, if_neg z]
      obtain ⟨f2, b1, b2, b3⟩ := k_accepts (N := N) hq (bf i)
      have h2' : k_ci f2 x wz n q St S bf len := h.rd (fun a ha => b3 a (by omega)) b2
      obtain ⟨f3, S3, d1, d2, d3, d4⟩ := ih k (i + 1) c f2 S (by omega) (by omega) (by omega) h2' hg b2
      refine ⟨f3, S3, ?_, fun a ha => (d2 a ha).trans (b3 a (by omega)), d3, fun S' e => ?_⟩
      · simp only [h.rdr, h.buf, Option.bind_some, k_ald hbuf (show i < 60 by omega) (by omega), hq.cv, b1, k_add1]
        exact d1
      · obtain ⟨y1, y2⟩ := d4 S' e
        exact ⟨y1, y2.mono (by omega)⟩
theorem k_fo_cg {g : Nat → Option KS} {bf bg : Nat → Int32} {len : Nat} (h : ∀ i, i < len → bf i = bg i) : ∀ (d : Nat) (S : KS), d ≤ len → k_fo bf len g d S = k_fo bg len g d S
  | 0, S, _ => by rw [k_fo, k_fo, k_rs_cg h]
  | d + 1, S, hd => by
    have e : k_fo bf len g d = k_fo bg len g d := funext (fun S' => k_fo_cg h d S' (by omega))
    rw [k_fo, k_fo, h _ (by omega), k_rs_cg (bg := bg) (n := len - (d + 1)) (fun i hi => h i (by omega)), e]
theorem k_fo_sk {g : Nat → Option KS} {bf : Nat → Int32} {len d : Nat} {S : KS} (h : ¬ bf (len - (d + 1)) = 59) : k_fo bf len g (d + 1) S = k_fo bf len g d S := by
  rw [k_fo, if_neg h]
theorem k_fo_sc {g : Nat → Option KS} {bf : Nat → Int32} {len d : Nat} {S S' L : KS} {w : Int32 × Int32 × Int32} (h : bf (len - (d + 1)) = 59) (hw : (k_rs bf (len - (d + 1))).2 = w) (h2 : ∀ m, k_co S (m, w) = some S') (h3 : g d = some L) (h4 : k_eq2 S' L) : k_fo bf len g (d + 1) S = k_fo bf len g d L := by
  have e : k_rs bf (len - (d + 1)) = ((k_rs bf (len - (d + 1))).1, w) := by rw [← hw]
  rw [k_fo, if_pos h, e, h2, Option.bind_some, h3, k_nm_y h4]
theorem k_fo_en {g : Nat → Option KS} {bf : Nat → Int32} {len : Nat} {S S' L : KS} {w : Int32 × Int32 × Int32} (hw : (k_rs bf len).2 = w) (h2 : ∀ m, k_co S (m, w) = some S') (h3 : g (len + 1) = some L) (h4 : k_eq2 S' L) : k_fo bf len g 0 S = some L := by
  have e : k_rs bf len = ((k_rs bf len).1, w) := by rw [← hw]
  rw [k_fo, e, h2, Option.map_some, h3, k_nm_y h4]
/-- the text is orders, all in their ranges -/
def k_txb (T : List Int32) : Bool := k_erb T T.length && (k_cpl (k_rs (k_tx T) T.length) && (k_wok (k_rs (k_tx T) T.length) && k_alb (fun i => decide (k_tx T i ≠ 59) || k_wok (k_rs (k_tx T) i)) T.length))
theorem k_fol {g : Nat → Option KS} {hs : Nat} {P : List KS} {K : Nat → Option KS} {T : List Int32} (hN : 50000 ≤ N) (hc : c + 61 < 351) (h : k_wd x wz c S P K T f) (hd : ∀ (a : Nat) (e : XE), f a = some e → a < hs) (hx : wz ≤ hs) (hT : k_txb T = true) :
    match k_fo (k_tx T) T.length g T.length S with
    | none => ∃ f', F_X5_follow N (f, hs) x = some (.inr (1, f')) ∧ (∀ a, x + 70 ≤ a → a < wz → f' a = f a) ∧ k_wd x wz c S P K T f'
    | some S' => ∃ (f' : XM) (m : Nat), F_X5_follow N (f, hs) x = some (.inl (nI (k_all S').1, (f', m))) ∧ (∀ a, x + 70 ≤ a → a < wz → f' a = f a) ∧ k_wd x wz (c + 61) S' (k_sv P S) K [] f' := by
  have hx70 := h.dom hd
  have hlen := h.len
  obtain ⟨q, St, bf, r1, h2, h3, h4, h5, h6, h7⟩ := h
  have hbf : ∀ i, i < T.length → bf i = k_tx T i := fun i hi => by
    unfold k_tx
    rw [List.getD_eq_getElem?_getD, h4 i hi]
    rfl
  have hl := r1.2.1
  rw [k_txb, Bool.and_eq_true, Bool.and_eq_true, Bool.and_eq_true] at hT
  obtain ⟨t1, t2, t3, t4⟩ := hT
  have hok : ∀ i, i ≤ T.length → (i = T.length ∨ bf i = 59) → k_wok (k_rs bf i) = true := fun i hi hh => by
    rw [k_rs_cg (bg := k_tx T) (n := i) (fun j hj => hbf j (by omega))]
    rcases hh with z | z
    · rw [z]; exact t3
    · by_cases y : i = T.length
      · rw [y]; exact t3
      · have := k_alb_sp t4 i (by omega)
        rw [Bool.or_eq_true] at this
        rcases this with u | u
        · rw [hbf i (by omega)] at z
          exact absurd z (of_decide_eq_true u)
        · exact u
  obtain ⟨w, hw⟩ := r1.rq
  obtain ⟨e', f1, w1, a1, a2, a3, a4⟩ := k_tellsOrders (N := N) (b := x + 61) (p := x + 62) (len := T.length) (by omega) (by omega) hl hw r1.2.2.2.2.2.1
  have ee : e' = T.length := (a2.cg hbf).eq (k_erb_sp t1)
  have hyes : e' = T.length ∧ k_cpl (k_rs bf T.length) = true := ⟨ee, by rw [k_rs_cg hbf]; exact t2⟩
  have hci1 := r1.rd a4 a3
  have hd1 : ∀ (a : Nat) (e : XE), f1 a = some e → a < hs := fun a y ha => by
    by_cases z : x + 62 ≤ a ∧ a < x + 63
    · omega
    · rw [a4 a z] at ha
      exact hd a y ha
  obtain ⟨sp, f2, b1, b2, b3, b4, b5, b6⟩ := k_ccopy (N := N) (by omega) hci1 hd1
  obtain ⟨w2, hw2⟩ := b4.rq
  obtain ⟨f3, c1, c2, c3⟩ := k_rbegin (N := N) hw2
  have hci3 := b4.rd c3 c2
  obtain ⟨f4, S4, d1, d4, d2, d3⟩ := k_fo_loop hN hok T.length N 0 c f3 S (by omega) (by omega) (by omega) hci3 h5 c2
  have efo : k_fo bf T.length g T.length S = k_fo (k_tx T) T.length g T.length S := k_fo_cg hbf _ _ (Nat.le_refl _)
  rw [efo] at d1 d3
  have hall : F_X5_carryOutAll N f2 x = some ((k_fo (k_tx T) T.length g T.length S).isSome, f4) := by
    unfold F_X5_carryOutAll
    rw [b4.rdr, Option.bind_some, Option.bind_some, hw2.cv, c1, Option.bind_some]
    exact d1
  have hfr4 : ∀ a, x + 70 ≤ a → a < wz → f4 a = f a := fun a y z => (d4 a (by omega)).trans ((c3 a (by omega)).trans ((b5 a y z).trans (a4 a (by omega))))
  have hd4 : ∀ (a : Nat) (e : XE), f4 a = some e → a < hs := fun a y ha => by
    by_cases z : x + 1 ≤ a ∧ a < x + 70
    · omega
    · rw [d4 a z, c3 a (by omega)] at ha
      exact b6 a y ha
  cases hfo : k_fo (k_tx T) T.length g T.length S with
  | none =>
    rw [hfo] at hall
    obtain ⟨sp', e1, e2, e3, e4⟩ := d2.sp
    have e4' : k_st f4 sp' S := e4
    obtain ⟨f5, s1, s2, s3⟩ := k_scopy (N := N) (by omega) d2.st e4' (by omega)
    have hci5 := d2.setnow (k_fr2.ofb s3 (Nat.le_refl _) (by omega)) s2 (d2.gat.ext (fun a y1 y2 => s3 a (by omega)))
    refine ⟨f5, ?_, fun a y z => (s3 a (by omega)).trans (hfr4 a y z), q, _, bf, hci5, fun i hi => ?_, fun i hi => ?_, h4, h5, h6, h7⟩
    · unfold F_X5_follow
      simp only [r1.rdr, r1.buf, r1.lng, Option.bind_some, hw.cv, a1]
      rw [if_neg (k_xb1 hyes)]
      simp only [b1, hci1.now, Option.bind_some, b2, b3, b4.cv, hall]
      rw [if_pos (show x_b (Option.isSome (none : Option KS)) = 0 from rfl)]
      simp only [d2.now, e2, Option.bind_some, d2.st.cv, s1]
    · show _ = some (if i + 1 = 0 then S else St (i + 1))
      rw [if_neg (by omega)]; exact h2 i hi
    · show _ = Option.map (fun _ => if i + 7 = 0 then S else St (i + 7)) _
      rw [if_neg (by omega)]; exact h3 i hi
  | some S' =>
    rw [hfo] at hall
    obtain ⟨rfl, hg'⟩ := d3 S' hfo
    obtain ⟨f5, hs', n', q', St', s1, s2, s3, s4, s5, s6⟩ := k_saveSpare (N := N) (by omega) d2 hd4 ⟨hx70, hx⟩
    obtain ⟨f6, u1, u2, u3⟩ := s2.clr
    have hwS : k_ws S4 := hg'.1
    obtain ⟨f7, rr, Q, g1, g2, g3, g4, g5, g6, g7⟩ := k_gather (N := N) (by omega) u2.st hwS u2.gat (Or.inr (by omega))
    obtain ⟨v1, v2⟩ := k_rowA g2 g7
    have hci7 := u2.setnow (k_fr2.ofg g6 (Nat.le_refl _) (by omega)) (u2.st.fr g6 (by omega)) g5
    have hll := k_sv_len P S hlen
    refine ⟨f7, hs', ?_, fun a y z => (g6 a (by omega)).trans ((u3 a (by omega)).trans ((s6 a y z).trans (hfr4 a y z))), q', St', bf, ?_, fun i hi => ?_, fun i hi => ?_, fun i hi => absurd hi (Nat.not_lt_zero _), hg'.mono (by omega), fun s hs => ?_, fun i s hi hs => (h7 i s hi hs).mono (by omega)⟩
    · unfold F_X5_follow
      simp only [r1.rdr, r1.buf, r1.lng, Option.bind_some, hw.cv, a1]
      rw [if_neg (k_xb1 hyes)]
      simp only [b1, hci1.now, Option.bind_some, b2, b3, b4.cv, hall]
      rw [if_neg (show ¬ x_b (Option.isSome (some S4)) = 0 from (show ¬ x_b true = 0 by decide))]
      simp only [d2.cv, s1, u1, u2.gth, u2.now, u2.gcv, g1, v1.n, Option.bind_some]
    · show k_ci f7 x wz (k_sv P S).length q' St' S4 bf 0
      rw [hll, ← s3]; exact hci7
    · have hi' : i < (k_sv P S).length := hi
      rw [hll] at hi'
      show (k_sv P S)[i]? = _
      rw [k_sv_at P S St hlen h2 i hi', s4 i (by rw [s3]; exact hi')]
    · rw [(s5 i hi).1, (s5 i hi).2]
      refine (h3 i hi).trans ?_
      show _ = Option.map (fun _ => if i + 7 = 0 then S else St (i + 7)) _
      rw [if_neg (by omega)]
    · rcases k_sv_mem (show s ∈ k_sv P S from hs) with y | y
      · exact (h6 s y).mono (by omega)
      · rw [y]; exact h5.mono (by omega)
theorem k_fol_no {g : Nat → Option KS} {hs : Nat} {P : List KS} {K : Nat → Option KS} {T : List Int32} (hN : 50000 ≤ N) (hc : c + 61 < 351) (h : k_wd x wz c S P K T f) (hd : ∀ (a : Nat) (e : XE), f a = some e → a < hs) (hx : wz ≤ hs) (hT : k_txb T = true) (hr : k_fo (k_tx T) T.length g T.length S = none) (a b : Int32) :
    ∃ f', F_L_call N (f, hs) x 10 a b = some (-2013, f') ∧ (∀ a, x + 70 ≤ a → a < wz → f' a = f a) ∧ k_wd x wz c S P K T f' := by
  have := k_fol (g := g) hN hc h hd hx hT
  rw [hr] at this
  obtain ⟨f', e1, a2, a3⟩ := this
  refine ⟨f', ?_, a2, a3⟩
  unfold F_L_call F_L_act
  rw [if_neg (show ¬ (12 : Int32) ≤ 10 by decide), if_neg (show ¬ (10 : Int32) = 0 by decide), if_neg (show ¬ (10 : Int32) = 1 by decide), if_neg (show ¬ (10 : Int32) = 2 by decide), if_neg (show ¬ (10 : Int32) = 3 by decide), if_neg (show ¬ (10 : Int32) = 4 by decide), if_neg (show ¬ (10 : Int32) = 5 by decide), if_neg (show ¬ (10 : Int32) = 6 by decide), if_neg (show ¬ (10 : Int32) = 7 by decide), if_neg (show ¬ (10 : Int32) = 8 by decide), if_neg (show ¬ (10 : Int32) = 9 by decide), if_pos rfl]
  simp only [h.cv, e1, Option.bind_some]
  rfl
theorem k_fol_yes {g : Nat → Option KS} {hs : Nat} {P : List KS} {K : Nat → Option KS} {T : List Int32} {S' : KS} (hN : 50000 ≤ N) (hc : c + 61 < 351) (h : k_wd x wz c S P K T f) (hd : ∀ (a : Nat) (e : XE), f a = some e → a < hs) (hx : wz ≤ hs) (hT : k_txb T = true) (hr : k_fo (k_tx T) T.length g T.length S = some S') :
    ∃ (f' : XM) (m : Nat), F_X5_follow N (f, hs) x = some (.inl (nI (k_all S').1, (f', m))) ∧ (∀ a, x + 70 ≤ a → a < wz → f' a = f a) ∧ k_wd x wz (c + 61) S' (k_sv P S) K [] f' := by
  have := k_fol (g := g) hN hc h hd hx hT
  rw [hr] at this
  exact this
end KFO
theorem k_co_b {S : KS} {a b : Int32} (h : (k_all S).1 ≤ 160) (m : Int32) : k_co S (m, 98, a, b) = some (k_sbl S (k_all S) (k_u a)) := by
  unfold k_co
  simp only []
  rw [if_pos trivial, if_pos h]
theorem k_co_c {S : KS} {a b : Int32} (h : ¬ ((S.2.1 0).1 = 0 ∨ S.1 = 6)) (m : Int32) : k_co S (m, 99, a, b) = some (k_scl S) := by
  unfold k_co
  simp only []
  rw [if_neg (show ¬ (99 : Int32) = 98 by decide), if_pos trivial, if_neg h]
theorem k_co_d {S : KS} {a b : Int32} (h : k_room S a = true) (m : Int32) : k_co S (m, 100, a, b) = some (k_s0 S (k_wr (S.2.1 0) a (-1))) := by
  unfold k_co
  simp only []
  rw [if_neg (show ¬ (100 : Int32) = 98 by decide), if_neg (show ¬ (100 : Int32) = 99 by decide), if_pos trivial, if_pos h]
theorem k_co_e {S : KS} {a b : Int32} (h : ¬ (k_run S a ≤ S.1 ∨ ¬ k_pl S.2.2.1.1.1 S.2.2.1.1.2.1 a < S.2.2.1.1.1)) (m : Int32) : k_co S (m, 101, a, b) = some (k_stt S (k_tdel S.2.2.1 a)) := by
  unfold k_co
  simp only []
  rw [if_neg (show ¬ (101 : Int32) = 98 by decide), if_neg (show ¬ (101 : Int32) = 99 by decide), if_neg (show ¬ (101 : Int32) = 100 by decide), if_pos trivial, if_neg h]
theorem k_co_i {S : KS} {a b : Int32} (h : k_cin S a = true) (m : Int32) : k_co S (m, 105, a, b) = some (k_stt S (k_twr (k_tfx S) a b).2) := by
  unfold k_co
  simp only []
  rw [if_neg (show ¬ (105 : Int32) = 98 by decide), if_neg (show ¬ (105 : Int32) = 99 by decide), if_neg (show ¬ (105 : Int32) = 100 by decide), if_neg (show ¬ (105 : Int32) = 101 by decide), if_pos trivial, if_pos h]
theorem k_co_p {S : KS} {a b : Int32} (h : k_room S a = true) (m : Int32) : k_co S (m, 112, a, b) = some (k_s0 S (k_wr (S.2.1 0) a b)) := by
  unfold k_co
  simp only []
  rw [if_neg (show ¬ (112 : Int32) = 98 by decide), if_neg (show ¬ (112 : Int32) = 99 by decide), if_neg (show ¬ (112 : Int32) = 100 by decide), if_neg (show ¬ (112 : Int32) = 101 by decide), if_neg (show ¬ (112 : Int32) = 105 by decide), if_pos trivial, if_pos h]
theorem k_sbl_q {S : KS} {Q : KR} {p : Nat} (h1 : k_fnd S Q) : k_eq2 (k_sbl S (k_all S) p) (k_sbl S Q p) := by
  have e := k_all_of h1
  refine ⟨rfl, fun r hr => k_rq2.rf, ⟨e, fun _ _ => rfl, ?_, fun i hi => ?_, rfl⟩, ?_⟩
  · show k_ru (k_all S).1 _ = k_ru Q.1 _
    rw [e.1]
  · have hi' : i < k_ru (k_all S).1 (k_each S.2.2.2.1 p) := hi
    show (if i = 0 then 0 else (k_all S).2.1 (k_each S.2.2.2.1 p * i)) = if i = 0 then 0 else Q.2.1 (k_each S.2.2.2.1 p * i)
    rw [(e.2 (k_each S.2.2.2.1 p * i) (k_ru_lt (Nat.le_max_left _ _) hi')).1]
  · show (S.2.2.2.1, S.2.2.2.2.1, S.2.2.2.2.2.1 + 1, S.2.2.2.2.2.2 + nI (k_all S).1) = _
    rw [e.1]
    rfl
theorem k_none_of {o : Option KS} (h : o.isNone = true) : o = none := by
  cases o with
  | none => rfl
  | some s => cases h
