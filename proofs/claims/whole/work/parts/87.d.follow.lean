/-! Orders that are carried out, one by one, by the class and by the reference. -/
def k_sc (N : Nat) (f : XM) (x : Nat) (r : Option KS) : Prop := ∃ (f' : XM) (S2 : KS), F_X5_carryOut N f x = some (r.isSome, f') ∧ k_fr2 f f' (x + 1) (x + 63) ∧ k_st f' (x + 1) S2 ∧ k_gat f' (x + 63) ∧ ∀ S', r = some S' → S2 = S'
def k_sr (N : Nat) (S : KS) (w : KQ) (r : Option KS) : Prop := ∀ (g : XM) (m : Nat) (V : KM) (c k : Nat), k_mo g m V → k_ms (V.1 1) S c → c + 1 ≤ 1200 → k ≤ 29 → k_om w (V.1 9) k → ∃ (g' : XM) (V' : KM), F_X6_follows N g m (nI k) = some (r.isSome, g') ∧ k_mo g' m V' ∧ k_mx V V' [1, 7] [8] ∧ k_fr g g' m (m + 10) ∧ ∀ S', r = some S' → k_ms (V'.1 1) S' (c + 1)
def k_fw (N : Nat) (g : XM) (m : Nat) (v3 v6 v9 : Int32) : Option (Bool × XM) :=
  if v9 = 98 then (x_cv g 6 m (F_X6_canBuild N g m)).bind fun z10 => if (x_b z10.1) = 0 then some (false, z10.2) else (x_cv z10.2 6 m (F_X6_makes N z10.2 m v3)).bind fun z11 => if z11.1 < 0 then some (false, z11.2) else some (true, z11.2)
  else if v9 = 99 then (x_cv g 6 m (F_X6_canClose N g m)).bind fun z12 => if (x_b z12) = 0 then some (false, g) else (x_cv g 6 m (F_X6_closes N g m)).bind fun z13 => if z13.1 ≤ 0 then some (false, z13.2) else some (true, z13.2)
  else if v9 = 100 then (x_cv g 6 m (F_X6_canWrite N g m v3)).bind fun z14 => if (x_b z14) = 0 then some (false, g) else (x_cv g 6 m (F_X6_tells N g m v3 (-1))).bind fun z15 => if z15.1 ≤ 0 then some (false, z15.2) else some (true, z15.2)
  else if v9 = 105 then (x_cv g 6 m (F_X6_canInsert N g m v3)).bind fun z16 => if (x_b z16) = 0 then some (false, g) else (x_cv g 6 m (F_X6_inserts N g m v3 v6)).bind fun z17 => if z17.1 < 0 then some (false, z17.2) else some (true, z17.2)
  else if v9 = 112 then (x_cv g 6 m (F_X6_canWrite N g m v3)).bind fun z18 => if (x_b z18) = 0 then some (false, g) else (x_cv g 6 m (F_X6_tells N g m v3 v6)).bind fun z19 => if z19.1 ≤ 0 then some (false, z19.2) else some (true, z19.2)
  else (x_cv g 6 m (F_X6_canErase N g m v3)).bind fun z20 => if (x_b z20) = 0 then some (false, g) else (x_cv g 6 m (F_X6_erases N g m v3)).bind fun z21 => if z21.1 < 0 then some (false, z21.2) else some (true, z21.2)
theorem k_fol {N : Nat} {g : XM} {m : Nat} {V : KM} {k : Nat} (h : k_mo g m V) (hk : k ≤ 29) : F_X6_follows N g m (nI k) = k_fw N g m (V.1 9 (3 * k + 1)) (V.1 9 (3 * k + 2)) (V.1 9 (3 * k)) := by
  have l0 : x_ald g (m + 9) (nI (3 * k)) = some (V.1 9 (3 * k)) := h.ld (a := 9) (by omega) (by omega) (show _ < 93 by omega)
  have l1 : x_ald g (m + 9) (nI (3 * k + 1)) = some (V.1 9 (3 * k + 1)) := h.ld (a := 9) (by omega) (by omega) (show _ < 93 by omega)
  have l2 : x_ald g (m + 9) (nI (3 * k + 2)) = some (V.1 9 (3 * k + 2)) := h.ld (a := 9) (by omega) (by omega) (show _ < 93 by omega)
  have e2 : nI (3 * k) + 2 = nI (3 * k + 2) := nI_add (3 * k) 2
  unfold F_X6_follows k_fw
  simp only [h.r13, Option.bind_some, k_3m, k_add1, e2, l0, l1, l2]
theorem k_nneg {n : Nat} (h : n < 2 ^ 31) : ¬ nI n < 0 := nI_pos h
theorem k_wr_pos (R : KR) (k v : Int32) : 0 < (k_wr R k v).1 := by
  rw [k_wr_n]
  split <;> omega
theorem k_twr_nn {T : KT} {k v : Int32} (h : (k_twr T k v).1 ≠ -1) : ¬ (k_twr T k v).1 < 0 := by
  unfold k_twr at h ⊢
  by_cases g1 : k_pl T.1.1 T.1.2.1 k < T.1.1
  · rw [if_pos g1]; show ¬ (0 : Int32) < 0; decide
  · rw [if_neg g1] at h ⊢
    by_cases g2 : 160 ≤ T.1.1
    · rw [if_pos g2] at h; exact absurd rfl h
    · rw [if_neg g2]
      by_cases g3 : T.2.2.1 = 0
      · rw [if_pos g3]; show ¬ (3 : Int32) < 0; decide
      · rw [if_neg g3]
        by_cases g4 : k_own T (k_lf T k - 1) < k_u T.2.2.2.2.1
        · rw [if_pos g4]; show ¬ (1 : Int32) < 0; decide
        · rw [if_neg g4]
          by_cases g5 : k_lf T k = T.2.2.1 ∧ (T.1.2.1 (T.1.1 - 1)).toInt < k.toInt
          · rw [if_pos g5]; show ¬ (3 : Int32) < 0; decide
          · rw [if_neg g5]; show ¬ (2 : Int32) < 0; decide
section KST
variable {N : Nat} {f : XM} {x n len : Nat} {q : Nat → Option Nat} {St : Nat → KS} {S : KS} {bf : Nat → Int32} {w : KQ}
/-- an order that writes a key down -/
theorem k_stepT (hN : 50000 ≤ N) (h : k_ci f x n q St S bf len) (hw : k_ws S) {v : Nat} (hv : v ≤ 9999) (u : Int32) : ∃ r : Option KS, (∃ (a : Int32) (f' : XM) (S2 : KS), F_X3_tell N f (x + 1) (nI v) u = some (a, f') ∧ (a = -1 ↔ r = none) ∧ k_fr2 f f' (x + 1) (x + 63) ∧ k_st f' (x + 1) S2 ∧ k_gat f' (x + 63) ∧ ∀ S', r = some S' → S2 = S') ∧
    (∀ (g : XM) (m : Nat) (V : KM) (c : Nat), k_mo g m V → k_ms (V.1 1) S c → c + 1 ≤ 1200 → ∃ (g' : XM) (V' : KM), ((x_cv g 6 m (F_X6_canWrite N g m (nI v))).bind fun z14 => if (x_b z14) = 0 then some (false, g) else (x_cv g 6 m (F_X6_tells N g m (nI v) u)).bind fun z15 => if z15.1 ≤ 0 then some (false, z15.2) else some (true, z15.2)) = some (r.isSome, g') ∧ k_mo g' m V' ∧ k_mx V V' [1, 7] [8] ∧ k_fr g g' m (m + 10) ∧ ∀ S', r = some S' → k_ms (V'.1 1) S' (c + 1)) ∧ (∀ S', r = some S' → S' = k_s0 S (k_wr (S.2.1 0) (nI v) u)) := by
  have ht := k_tell (N := N) (by omega) h.st (hw.2.1 0 (Nat.zero_le _)) (nI v) u
  have h12 := hw.2.2.1
  have hvi : (nI v).toInt = (v : Int) := nI_toInt (by omega)
  have hwn := k_wr_n (S.2.1 0) (nI v) u
  have hwp := k_wr_pos (S.2.1 0) (nI v) u
  by_cases g : k_pl (S.2.1 0).1 (S.2.1 0).2.1 (nI v) < (S.2.1 0).1 ∨ (S.2.1 0).1 < 12
  · rw [if_pos g] at ht
    obtain ⟨f2, b1, b2, b3⟩ := ht
    have hle : (k_wr (S.2.1 0) (nI v) u).1 ≤ 13 := by rw [hwn]; split <;> omega
    refine ⟨some (k_s0 S (k_wr (S.2.1 0) (nI v) u)), ⟨_, f2, _, b1, ⟨fun e => absurd e (k_nim1 _ (by omega)), fun e => by cases e⟩, k_fr2.ofb b3 (Nat.le_refl _) (by omega), b2, h.gat.ext (fun a c d => b3 a (by omega)), fun S' e => by cases e; rfl⟩, fun G m V c hm hs hc => ?_, fun S' e => by cases e; rfl⟩
    obtain ⟨g2, V2, d1, d2, d3, d4, d5⟩ := k_mtells (N := N) (by omega) hm hs (k := nI v) (by rw [hvi]; omega) u hc g
    refine ⟨g2, V2, ?_, d2, d3.wd (by simp) (by simp), d4, fun S' e => by cases e; exact d5⟩
    rw [hm.cv, k_mcanWrite (by omega) hm hs, Option.bind_some, if_neg (k_xb1 g), hm.cv, d1, Option.bind_some]
    dsimp only
    rw [if_neg (nI_nle hwp (by omega))]
    rfl
  · rw [if_neg g] at ht
    refine ⟨none, ⟨-1, f, S, ht, ⟨fun _ => rfl, fun _ => rfl⟩, k_fr2.rf, h.st, h.gat, fun S' e => by cases e⟩, fun G m V c hm hs hc => ⟨G, V, ?_, hm, k_mx.rf, k_fr.rf, fun S' e => by cases e⟩, fun S' e => by cases e⟩
    rw [hm.cv, k_mcanWrite (by omega) hm hs, Option.bind_some, if_pos (k_xb0 g)]
    rfl
theorem k_step (hN : 50000 ≤ N) (h : k_ci f x n q St S bf len) (hw : k_ws S) (hvv : k_vv S) (hl : S.2.2.1.2.2.1 < 512) (hq : k_rq f (x + 62) w) {G0 : Nat → Int32} {k0 : Nat} (ho : k_om w G0 k0) : ∃ r : Option KS, k_sc N f x r ∧ k_sr N S w r ∧ ∀ S', r = some S' → k_vv S' := by
  have hA := h.okA (N := N) (by omega) hw
  have h6 := hw.1
  have hcls : ∀ (a : Int32) (f' : XM), (if a = (-1) then some (false, f') else some (true, f')) = some (!decide (a = -1), f') := fun a f' => by
    by_cases e : a = -1
    · rw [if_pos e, decide_eq_true e]; rfl
    · rw [if_neg e, decide_eq_false e]; rfl
  rcases ho.2 with e | ⟨e, v, v1, v2, v3, -⟩ | ⟨e, v, v1, v3, -⟩ | ⟨e, v, u, v1, v2, v3, v4, -, -⟩
  · have ht := k_closeOpen (N := N) (by omega) h.st
    have hfol : ∀ {g : XM} {m : Nat} {V : KM} {k : Nat}, k_mo g m V → k ≤ 29 → k_om w (V.1 9) k → F_X6_follows N g m (nI k) = (x_cv g 6 m (F_X6_canClose N g m)).bind fun z12 => if (x_b z12) = 0 then some (false, g) else (x_cv g 6 m (F_X6_closes N g m)).bind fun z13 => if z13.1 ≤ 0 then some (false, z13.2) else some (true, z13.2) := fun hm hk hom => by
      rw [k_fol hm hk, hom.1, e]
      unfold k_fw
      rw [if_neg (by decide), if_pos rfl]
    have hcar : F_X5_carryOut N f x = (F_X3_closeOpen N f (x + 1)).bind fun z14 => if z14.1 = (-1) then some (false, z14.2) else some (true, z14.2) := by
      unfold F_X5_carryOut
      simp only [h.rdr, h.now, Option.bind_some, hq.g1, h.st.cv]
      rw [e, if_neg (by decide), if_pos rfl]
    by_cases g : (S.2.1 0).1 = 0 ∨ S.1 = 6
    · rw [if_pos g] at ht
      refine ⟨none, ⟨f, S, by rw [hcar, ht]; rfl, k_fr2.rf, h.st, h.gat, fun S' e => by cases e⟩, fun G m V c k hm hs hc hk hom => ⟨G, V, ?_, hm, k_mx.rf, k_fr.rf, fun S' e => by cases e⟩, fun S' e => by cases e⟩
      rw [hfol hm hk hom, hm.cv, k_mcanClose hm hs, Option.bind_some, if_pos (k_xb0 (fun y => y g))]
      rfl
    · rw [if_neg g] at ht
      obtain ⟨f2, b1, b2, b3⟩ := ht
      refine ⟨some (k_scl S), ⟨f2, k_scl S, ?_, k_fr2.ofb b3 (Nat.le_refl _) (by omega), b2, h.gat.ext (fun a c d => b3 a (by omega)), fun S' e => by cases e; rfl⟩, fun G m V c k hm hs hc hk hom => ?_, fun S' e => by cases e; exact k_vv_cl hvv⟩
      · rw [hcar, b1, Option.bind_some]
        dsimp only
        rw [if_neg (k_nim1 _ (by omega))]
        rfl
      · obtain ⟨g2, V2, d1, d2, d3, d4, d5⟩ := k_mcloses (N := N) (S := S) (c := c) (by omega) hm hs (by omega)
        refine ⟨g2, V2, ?_, d2, d3.wd (by simp) (by simp), d4, fun S' e => by cases e; exact d5.mono (by omega) hc⟩
        rw [hfol hm hk hom, hm.cv, k_mcanClose hm hs, Option.bind_some, if_neg (k_xb1 g), hm.cv, d1, Option.bind_some]
        dsimp only
        rw [if_neg (nI_nle (by omega) (by omega))]
        rfl
  · obtain ⟨f2, Q, b1, b2, b3, b4⟩ := k_rebuild (N := N) (by omega) h.st hw h.gat (Or.inr (by omega)) (p := v) (by omega)
    obtain ⟨u1, u2⟩ := k_fnd_uniq b1 hA.1
    have he := k_each_r hw (p := v) (by omega)
    have hfol : ∀ {g : XM} {m : Nat} {V : KM} {k : Nat}, k_mo g m V → k ≤ 29 → k_om w (V.1 9) k → F_X6_follows N g m (nI k) = (x_cv g 6 m (F_X6_canBuild N g m)).bind fun z10 => if (x_b z10.1) = 0 then some (false, z10.2) else (x_cv z10.2 6 m (F_X6_makes N z10.2 m (nI v))).bind fun z11 => if z11.1 < 0 then some (false, z11.2) else some (true, z11.2) := fun {g m V k} hm hk hom => by
      have h1 : V.1 9 (3 * k + 1) = nI v := by
        rcases hom.2 with y | ⟨y, v', -, -, y3, y4⟩ | ⟨y, -⟩ | ⟨y, -⟩
        · rw [e] at y; exact absurd y (by decide)
        · rw [y4, ← y3, v3]
        · rw [e] at y; exact absurd y (by decide)
        · rw [e] at y; exact absurd y (by decide)
      rw [k_fol hm hk, hom.1, e, h1]
      unfold k_fw
      rw [if_pos rfl]
    have hcar : F_X5_carryOut N f x = (F_X3_rebuild N f (x + 1) (nI v) (x + 63)).bind fun z11 => if z11.1 = (-1) then some (false, z11.2) else some (true, z11.2) := by
      unfold F_X5_carryOut
      simp only [h.rdr, h.now, h.gth, Option.bind_some, hq.g1, hq.g2, h.st.cv]
      rw [e, if_pos rfl, v3]
    by_cases g2 : 160 < Q.1
    · rw [if_pos g2] at b4
      refine ⟨none, ⟨f2, S, by rw [hcar, b4.1]; rfl, b3, b4.2, b2, fun S' e => by cases e⟩, fun G m V c k hm hs hc hk hom => ?_, fun S' e => by cases e⟩
      obtain ⟨g1, V1, a1, a2, a3, a4⟩ := k_mcanBuild (N := N) (by omega) hA hm hs
      refine ⟨g1, V1, ?_, a2, a3.wd (by simp) (by simp), a4, fun S' e => by cases e⟩
      rw [hfol hm hk hom, hm.cv, a1, Option.bind_some, if_pos (k_xb0 (by omega))]
      rfl
    · rw [if_neg g2] at b4
      have hle := k_ru_le (c := Q.1) he.1
      refine ⟨some (k_sbl S (k_all S) v), ⟨f2, _, ?_, b3, k_sbl_cg hw (by omega) b4.2 u1 u2, b2, fun S' e => by cases e; rfl⟩, fun G m V c k hm hs hc hk hom => ?_, fun S' e => by cases e; exact k_vv_bl hvv hA.1⟩
      · rw [hcar, b4.1, Option.bind_some]
        dsimp only
        rw [if_neg (k_nim1 _ (by omega))]
        rfl
      · obtain ⟨g1, V1, a1, a2, a3, a4⟩ := k_mcanBuild (N := N) (by omega) hA hm hs
        have e1 : V1.1 1 = V.1 1 := a3.1 1 (by simp)
        obtain ⟨g3, V3, d1, d2, d3, d4, d5⟩ := k_mmakes (N := N) (by omega) hA a2 (by rw [e1]; exact hs) (p := v) (by omega) (by omega) hc
        refine ⟨g3, V3, ?_, d2, (a3.wd (by simp) (by simp)).tr (d3.wd (by simp) (by simp)), a4.tr d4, fun S' e => by cases e; exact d5⟩
        rw [hfol hm hk hom, hm.cv, a1, Option.bind_some, if_neg (k_xb1 (by omega)), a2.cv, d1, Option.bind_some]
        dsimp only
        rw [if_neg (k_nneg (by rw [← u1]; omega))]
        rfl
  · rcases e with e | e
    · obtain ⟨r, ⟨a, f', S2, a1, a2, a3, a4, a5, a6⟩, b1, b2⟩ := k_stepT hN h hw v1 (-1)
      refine ⟨r, ⟨f', S2, ?_, a3, a4, a5, a6⟩, fun G m V c k hm hs hc hk hom => ?_, fun S' y => by rw [b2 S' y]; exact k_vv_s0 hvv (by decide)⟩
      · unfold F_X5_carryOut
        simp only [h.rdr, h.now, Option.bind_some, hq.g1, hq.g2, h.st.cv]
        rw [e, if_neg (by decide), if_neg (by decide), if_pos rfl, v3, a1, Option.bind_some, hcls]
        cases r with
        | none => rw [decide_eq_true (a2.mpr rfl)]; rfl
        | some S' => rw [decide_eq_false (fun y => by have := a2.mp y; cases this)]; rfl
      · have h1 : V.1 9 (3 * k + 1) = nI v := by
          rcases hom.2 with y | ⟨y, -⟩ | ⟨y, v', -, y3, y4⟩ | ⟨y, -⟩
          · rw [e] at y; exact absurd y (by decide)
          · rw [e] at y; exact absurd y (by decide)
          · rw [y4, ← y3, v3]
          · rw [e] at y; exact absurd y (by decide)
        rw [k_fol hm hk, hom.1, e, h1]
        unfold k_fw
        rw [if_neg (by decide), if_neg (by decide), if_pos rfl]
        exact b1 G m V c hm hs hc
    · have ht := k_eraseEntry (N := N) (by omega) h.st hw (k := nI v) (by rw [nI_toInt (by omega)]; omega)
      have hfol : ∀ {g : XM} {m : Nat} {V : KM} {k : Nat}, k_mo g m V → k ≤ 29 → k_om w (V.1 9) k → F_X6_follows N g m (nI k) = (x_cv g 6 m (F_X6_canErase N g m (nI v))).bind fun z20 => if (x_b z20) = 0 then some (false, g) else (x_cv g 6 m (F_X6_erases N g m (nI v))).bind fun z21 => if z21.1 < 0 then some (false, z21.2) else some (true, z21.2) := fun {g m V k} hm hk hom => by
        have h1 : V.1 9 (3 * k + 1) = nI v := by
          rcases hom.2 with y | ⟨y, -⟩ | ⟨y, v', -, y3, y4⟩ | ⟨y, -⟩
          · rw [e] at y; exact absurd y (by decide)
          · rw [e] at y; exact absurd y (by decide)
          · rw [y4, ← y3, v3]
          · rw [e] at y; exact absurd y (by decide)
        rw [k_fol hm hk, hom.1, e, h1]
        unfold k_fw
        rw [if_neg (by decide), if_neg (by decide), if_neg (by decide), if_neg (by decide), if_neg (by decide)]
      have hcar : F_X5_carryOut N f x = (F_X3_eraseEntry N f (x + 1) (nI v)).bind fun z26 => if z26.1 = (-1) then some (false, z26.2) else some (true, z26.2) := by
        unfold F_X5_carryOut
        simp only [h.rdr, h.now, Option.bind_some, hq.g1, hq.g2, h.st.cv]
        rw [e, if_neg (by decide), if_neg (by decide), if_neg (by decide), if_pos rfl, v3]
      by_cases g : k_run S (nI v) ≤ S.1 ∨ ¬ k_pl S.2.2.1.1.1 S.2.2.1.1.2.1 (nI v) < S.2.2.1.1.1
      · rw [if_pos g] at ht
        refine ⟨none, ⟨f, S, by rw [hcar, ht]; rfl, k_fr2.rf, h.st, h.gat, fun S' e => by cases e⟩, fun G m V c k hm hs hc hk hom => ⟨G, V, ?_, hm, k_mx.rf, k_fr.rf, fun S' e => by cases e⟩, fun S' e => by cases e⟩
        rw [hfol hm hk hom, hm.cv, k_mcanErase (by omega) hm hs, Option.bind_some, if_pos (k_xb0 (fun y => y g))]
        rfl
      · rw [if_neg g] at ht
        obtain ⟨f2, b1, b2, b3⟩ := ht
        have hp : k_pl S.2.2.1.1.1 S.2.2.1.1.2.1 (nI v) < S.2.2.1.1.1 := by
          rcases Nat.lt_or_ge (k_pl S.2.2.1.1.1 S.2.2.1.1.2.1 (nI v)) S.2.2.1.1.1 with y | y
          · exact y
          · exact absurd (Or.inr (by omega)) g
        have hval := hvv.2 _ hp
        have e0 : (0 : Int32).toInt = 0 := rfl
        refine ⟨some (k_stt S (k_tdel S.2.2.1 (nI v))), ⟨f2, _, ?_, k_fr2.ofb b2 (Nat.le_refl _) (by omega), b3, h.gat.ext (fun a c d => b2 a (by omega)), fun S' e => by cases e; rfl⟩, fun G m V c k hm hs hc hk hom => ?_, fun S' e => by cases e; exact k_vv_del hvv⟩
        · rw [hcar, b1, Option.bind_some]
          dsimp only
          rw [if_neg (k_val99 hval)]
          rfl
        · obtain ⟨g2, V2, d1, d2, d3, d4, d5⟩ := k_merases (N := N) (S := S) (c := c) (by omega) hm hs (k := nI v) hp
          refine ⟨g2, V2, ?_, d2, d3.wd (by simp) (by simp), d4, fun S' e => by cases e; exact d5.mono (by omega) hc⟩
          rw [hfol hm hk hom, hm.cv, k_mcanErase (by omega) hm hs, Option.bind_some, if_neg (k_xb1 g), hm.cv, d1, Option.bind_some]
          dsimp only
          rw [if_neg (by rw [k_i_lt, e0]; omega)]
          rfl
  · rcases e with e | e
    · obtain ⟨r, ⟨a, f', S2, a1, a2, a3, a4, a5, a6⟩, b1, b2⟩ := k_stepT hN h hw v1 (nI u)
      refine ⟨r, ⟨f', S2, ?_, a3, a4, a5, a6⟩, fun G m V c k hm hs hc hk hom => ?_, fun S' y => by rw [b2 S' y]; exact k_vv_s0 hvv (by rw [nI_toInt (by omega)]; omega)⟩
      · unfold F_X5_carryOut
        simp only [h.rdr, h.now, Option.bind_some, hq.g1, hq.g2, hq.g3, h.st.cv]
        rw [e, if_neg (by decide), if_neg (by decide), if_neg (by decide), if_neg (by decide), if_neg (by decide), if_pos rfl, v3, v4, a1, Option.bind_some, hcls]
        cases r with
        | none => rw [decide_eq_true (a2.mpr rfl)]; rfl
        | some S' => rw [decide_eq_false (fun y => by have := a2.mp y; cases this)]; rfl
      · have h1 : V.1 9 (3 * k + 1) = nI v ∧ V.1 9 (3 * k + 2) = nI u := by
          rcases hom.2 with y | ⟨y, -⟩ | ⟨y, -⟩ | ⟨y, v', u', -, -, y3, y4, y5, y6⟩
          · rw [e] at y; exact absurd y (by decide)
          · rw [e] at y; exact absurd y (by decide)
          · rw [e] at y; exact absurd y (by decide)
          · exact ⟨by rw [y5, ← y3, v3], by rw [y6, ← y4, v4]⟩
        rw [k_fol hm hk, hom.1, e, h1.1, h1.2]
        unfold k_fw
        rw [if_neg (by decide), if_neg (by decide), if_neg (by decide), if_neg (by decide), if_pos rfl]
        exact b1 G m V c hm hs hc
    · have hvi : (nI v).toInt = (v : Int) := nI_toInt (by omega)
      have hui : (nI u).toInt = (u : Int) := nI_toInt (by omega)
      have ht := k_writeEntry (N := N) (by omega) h.st hw hl (k := nI v) (by omega) (nI u)
      obtain ⟨-, -, -, t4, -⟩ := k_tfx_wt hw
      have hfol : ∀ {g : XM} {m : Nat} {V : KM} {k : Nat}, k_mo g m V → k ≤ 29 → k_om w (V.1 9) k → F_X6_follows N g m (nI k) = (x_cv g 6 m (F_X6_canInsert N g m (nI v))).bind fun z16 => if (x_b z16) = 0 then some (false, g) else (x_cv g 6 m (F_X6_inserts N g m (nI v) (nI u))).bind fun z17 => if z17.1 < 0 then some (false, z17.2) else some (true, z17.2) := fun {g m V k} hm hk hom => by
        have h1 : V.1 9 (3 * k + 1) = nI v ∧ V.1 9 (3 * k + 2) = nI u := by
          rcases hom.2 with y | ⟨y, -⟩ | ⟨y, -⟩ | ⟨y, v', u', -, -, y3, y4, y5, y6⟩
          · rw [e] at y; exact absurd y (by decide)
          · rw [e] at y; exact absurd y (by decide)
          · rw [e] at y; exact absurd y (by decide)
          · exact ⟨by rw [y5, ← y3, v3], by rw [y6, ← y4, v4]⟩
        rw [k_fol hm hk, hom.1, e, h1.1, h1.2]
        unfold k_fw
        rw [if_neg (by decide), if_neg (by decide), if_neg (by decide), if_pos rfl]
      have hcar : F_X5_carryOut N f x = (F_X3_writeEntry N f (x + 1) (nI v) (nI u)).bind fun z35 => if z35.1 = (-1) then some (false, z35.2) else some (true, z35.2) := by
        unfold F_X5_carryOut
        simp only [h.rdr, h.now, Option.bind_some, hq.g1, hq.g2, hq.g3, h.st.cv]
        rw [e, if_neg (by decide), if_neg (by decide), if_neg (by decide), if_neg (by decide), if_pos rfl, v3, v4]
      have hno : k_cin S (nI v) = false → k_sr N S w none := fun hc0 G m V c k hm hs hc hk hom => ⟨G, V, by
        rw [hfol hm hk hom, hm.cv, k_mcanInsert (by omega) hm hs, Option.bind_some, hc0, if_pos (show x_b false = 0 from rfl)]
        rfl, hm, k_mx.rf, k_fr.rf, fun S' e => by cases e⟩
      by_cases g3 : k_run S (nI v) ≤ S.1
      · rw [if_pos g3] at ht
        exact ⟨none, ⟨f, S, by rw [hcar, ht]; rfl, k_fr2.rf, h.st, h.gat, fun S' e => by cases e⟩, hno (decide_eq_false (fun y => y.1 g3)), fun S' e => by cases e⟩
      · rw [if_neg g3] at ht
        obtain ⟨f2, b1, b2, b3⟩ := ht
        have hm1 := k_twr_m1 (k_tfx S) (nI v) (nI u)
        rw [t4] at hm1
        by_cases g4 : k_pl S.2.2.1.1.1 S.2.2.1.1.2.1 (nI v) < S.2.2.1.1.1 ∨ S.2.2.1.1.1 < 160
        · have hne : ¬ (k_twr (k_tfx S) (nI v) (nI u)).1 = -1 := fun e => hm1.mp e g4
          rw [if_neg hne] at b3
          refine ⟨some (k_stt S (k_twr (k_tfx S) (nI v) (nI u)).2), ⟨f2, _, ?_, k_fr2.ofb b2 (Nat.le_refl _) (by omega), b3, h.gat.ext (fun a c d => b2 a (by omega)), fun S' e => by cases e; rfl⟩, fun G m V c k hm hs hc hk hom => ?_, fun S' e => by cases e; exact k_vv_tw hvv (by omega)⟩
          · rw [hcar, b1, Option.bind_some]
            dsimp only
            rw [if_neg hne]
            rfl
          · obtain ⟨g2, V2, d1, d2, d3, d4, d5⟩ := k_minserts (N := N) (by omega) hm hs hc hl (k := nI v) (v := nI u) (by omega) (k_nim1 _ (by omega)) g4
            refine ⟨g2, V2, ?_, d2, d3.wd (by simp) (by simp), d4, fun S' e => by cases e; exact d5⟩
            have hc1 : k_cin S (nI v) = true := decide_eq_true ⟨g3, g4⟩
            rw [hfol hm hk hom, hm.cv, k_mcanInsert (by omega) hm hs, Option.bind_some, hc1, if_neg (show ¬ x_b true = 0 by decide), hm.cv, d1, Option.bind_some]
            dsimp only
            rw [if_neg (k_twr_nn hne)]
            rfl
        · have he := hm1.mpr g4
          rw [if_pos he] at b3
          refine ⟨none, ⟨f, S, ?_, k_fr2.rf, h.st, h.gat, fun S' e => by cases e⟩, hno (decide_eq_false (fun y => g4 y.2)), fun S' e => by cases e⟩
          rw [hcar, b1, he, b3]
          rfl
end KST
