/-! All orders, one behind the other. -/
theorem k_mo_mk (m : Nat) (V : KM) : ∃ f : XM, k_mo f m V := by
  refine ⟨fun a => if a = m then some (.inr (6, k_mf m V.2)) else some (.inl (.int, k_sz (a - m), .inl (V.1 (a - m)))), if_pos rfl, fun a h1 h2 => ?_⟩
  show (if m + a = m then _ else _) = _
  rw [if_neg (by omega), show m + a - m = a by omega]
theorem k_om.z {w : KQ} {G : Nat → Int32} {k : Nat} (h : k_om w G k) : k_om w (fun i => G (3 * k + i)) 0 := by
  unfold k_om at h ⊢
  simp only [Nat.mul_zero, Nat.zero_add, Nat.add_zero]
  exact h
theorem k_end_u {bf : Nat → Int32} {len s e e2 : Nat} (h1 : s < e) (h2 : s < e2) (h3 : e ≤ len) (h4 : e2 ≤ len) (h5 : ∀ i, s ≤ i → i < e → bf i ≠ 59) (h6 : ∀ i, s ≤ i → i < e2 → bf i ≠ 59) (h7 : e < len → bf e = 59) (h8 : e2 < len → bf e2 = 59) : e = e2 := by
  rcases Nat.lt_trichotomy e e2 with y | y | y
  · exact absurd (h7 (by omega)) (h6 e (by omega) y)
  · exact y
  · exact absurd (h8 (by omega)) (h5 e2 (by omega) y)
theorem k_ords_n {bf G G2 : Nat → Int32} {len : Nat} : ∀ (n n2 k s : Nat), k_ords bf G len n k s → k_ords bf G2 len n2 k s → n = n2
  | 0, _, _, _, h, _ => h.elim
  | _ + 1, 0, _, _, _, h => h.elim
  | n + 1, n2 + 1, k, s, h, h2 => by
    obtain ⟨e, a1, a2, a3, -, -, a4⟩ := h
    obtain ⟨e2, b1, b2, b3, -, -, b4⟩ := h2
    have he : e = e2 := k_end_u a1 b1 a2 b2 a3 b3 (fun y => by rcases a4 with z | z; exact absurd z.2 (by omega); exact z.2.1) (fun y => by rcases b4 with z | z; exact absurd z.2 (by omega); exact z.2.1)
    subst he
    rcases a4 with z | z
    · rcases b4 with y | y
      · rw [z.1, y.1]
      · exact absurd y.1 (by omega)
    · rcases b4 with y | y
      · exact absurd z.1 (by omega)
      · rw [k_ords_n n n2 (k + 1) (e + 1) z.2.2 y.2.2]
section KOO
variable {N : Nat} {x n len : Nat} {q : Nat → Option Nat} {St : Nat → KS} {S : KS} {bf : Nat → Int32}
theorem k_skip {e : Nat} (he : e ≤ len) (hl : len ≤ 60) : ∀ (dd j : Nat) (f : XM), j + dd = e → k_ci f x n q St S bf len → k_rq f (x + 62) (k_rs bf j) → (∀ i, j ≤ i → i < e → bf i ≠ 59) → ∃ f' : XM, (∀ (K : Int32 → XM → Option (Bool × XM)) (fuel : Nat), F_X5_carryOutAll_L9 N x K (fuel + dd) (nI j) f = F_X5_carryOutAll_L9 N x K fuel (nI e) f') ∧ k_ci f' x n q St S bf len ∧ k_rq f' (x + 62) (k_rs bf e) ∧ k_fr f f' (x + 62) (x + 63) := by
  intro dd
  induction dd with
  | zero =>
    intro j f h1 h hq hn
    have hj : j = e := by omega
    subst hj
    exact ⟨f, fun K fuel => rfl, h, hq, k_fr.rf⟩
  | succ dd ih =>
    intro j f h1 h hq hn
    obtain ⟨f1, a1, a2, a3⟩ := k_accepts (N := N) hq (bf j)
    have hb := h.2.2.2.2.2.1
    have h1' := h.rd a3 a2
    obtain ⟨f2, b1, b2, b3, b4⟩ := ih (j + 1) f1 (by omega) h1' a2 (fun i y z => hn i (by omega) z)
    refine ⟨f2, fun K fuel => ?_, b2, b3, a3.tr b4⟩
    rw [← b1, show fuel + (dd + 1) = (fuel + dd) + 1 by omega, F_X5_carryOutAll_L9]
    simp only [h.lng, h.buf, h.rdr, k_alen hb, Option.bind_some, k_ald hb (i := j) (by omega) (by omega), hq.cv, a1, k_add1]
    rw [if_neg (nI_ge (by omega) (by omega)), if_neg (nI_ge (by omega) (by omega)), if_neg (hn j (Nat.le_refl _) (by omega))]
theorem k_orders (hN : 50000 ≤ N) (hl60 : len ≤ 60) {G : Nat → Int32} : ∀ (nn k s c : Nat) (S : KS) (f : XM), k_ords bf G len nn k s → k_ci f x n q St S bf len → k_rq f (x + 62) (k_rs bf s) → k_vv S → (∃ Gp, k_ms Gp S c) → c + nn ≤ 512 →
    ∃ r : Option KS, (∃ (f' : XM) (S2 : KS), (∀ fuel, len + 1 ≤ s + fuel → F_X5_carryOutAll_L9 N x (fun y1_25 g25 => (x_cv g25 5 x (F_X5_carryOut N g25 x)).bind fun z26 => some (z26.1, z26.2)) fuel (nI s) f = some (r.isSome, f')) ∧ k_ci f' x n q St S2 bf len ∧ (∀ S', r = some S' → S2 = S' ∧ k_vv S') ∧ (∀ a, ¬ (x + 1 ≤ a ∧ a < x + 70) → f' a = f a)) ∧
      (∀ (g : XM) (m : Nat) (V : KM) (c2 fuel : Nat) (K2 : Int32 → XM → Option (Int32 × XM)), k_mo g m V → k_ms (V.1 1) S c2 → c2 + nn ≤ 1200 → k_ords bf (V.1 9) len nn k s → k + nn ≤ 30 → V.2 14 = nI (k + nn) → nn < fuel → ∃ (j : Nat) (g' : XM) (V' : KM), F_X6_follow_L40 N m K2 fuel (nI k) g = K2 (nI j) g' ∧ k_mo g' m V' ∧ k_mx V V' [1, 7] [8] ∧ k_fr g g' m (m + 10) ∧ (r = none → j < k + nn) ∧ ∀ S', r = some S' → j = k + nn ∧ k_ms (V'.1 1) S' (c2 + nn)) := by
  intro nn
  induction nn with
  | zero => intro k s c S f ho; exact ho.elim
  | succ nn ih =>
    intro k s c S f ho h hq hvv hG hc
    obtain ⟨Gp, hGp⟩ := hG
    obtain ⟨e, a1, a2, a3, a4, a5, a6⟩ := ho
    have hw := hGp.1
    have hl : S.2.2.1.2.2.1 < 512 := by have := hGp.2.2.2.2.2.2.2.2.1; omega
    obtain ⟨f1, b1, b2, b3, b4⟩ := k_skip (N := N) a2 hl60 (e - s) s f (by omega) h hq a3
    obtain ⟨r1, ⟨f2, S2, c1, c2, c3, c4, c5⟩, c6, c7⟩ := k_step hN b2 hw hvv hl b3 a4
    have hb := b2.2.2.2.2.2.1
    have hci2 : k_ci f2 x n q St S2 bf len := b2.setnow c2 c3 c4
    have hfr2 : ∀ a, ¬ (x + 1 ≤ a ∧ a < x + 70) → f2 a = f a := fun a ha => (c2 a (by omega) (by omega)).trans (b4 a (by omega))
    have e_end : e < len → bf e = 59 := fun y => by
      rcases a6 with z | z
      · exact absurd z.2 (by omega)
      · exact z.2.1
    have uq : ∀ G2, k_ords bf G2 len (nn + 1) k s → k_om (k_rs bf e) G2 k ∧ ((nn = 0 ∧ e = len) ∨ (e < len ∧ bf e = 59 ∧ k_ords bf G2 len nn (k + 1) (e + 1))) := fun G2 h2 => by
      obtain ⟨e2, d1, d2, d3, d4, -, d6⟩ := h2
      have he : e = e2 := k_end_u a1 d1 a2 d2 a3 d3 e_end (fun y => by
        rcases d6 with z | z
        · exact absurd z.2 (by omega)
        · exact z.2.1)
      subst he
      exact ⟨d4, d6⟩
    cases r1 with
    | none =>
      refine ⟨none, ⟨f2, S2, fun fuel hf => ?_, hci2, (fun S' y => by cases y), hfr2⟩, fun g m V c2 fuel K2 hm hs hcc ho2 hk h14 hfu => ?_⟩
      · rw [show fuel = (fuel - (e - s) - 1) + 1 + (e - s) by omega, b1, F_X5_carryOutAll_L9]
        rcases a6 with ⟨z1, z2⟩ | ⟨z1, z2, -⟩
        · rw [b2.lng, Option.bind_some, if_pos (nI_le (by omega) (by omega)), b2.cv, c1]
          rfl
        · simp only [b2.lng, b2.buf, k_alen hb, Option.bind_some, k_ald hb (i := e) (by omega) (by omega), b2.cv, c1]
          rw [if_neg (nI_ge (by omega) (by omega)), if_neg (nI_ge (by omega) (by omega)), if_pos z2, if_pos (show x_b (Option.isSome (none : Option KS)) = 0 from rfl)]
          rfl
      · obtain ⟨u, rfl⟩ : ∃ u, fuel = u + 1 := ⟨fuel - 1, by omega⟩
        obtain ⟨g', V', d1, d2, d3, d4, d5⟩ := c6 g m V c2 k hm hs (by omega) (by omega) (uq _ ho2).1
        refine ⟨k, g', V', ?_, d2, d3, d4, fun _ => by omega, fun S' y => by cases y⟩
        rw [F_X6_follow_L40, hm.i14, h14, Option.bind_some, if_neg (nI_ge (by omega) (by omega)), hm.cv, d1, Option.bind_some]
        exact if_pos rfl
    | some S' =>
      have hS2 := c5 S' rfl
      subst hS2
      have hv' := c7 S2 rfl
      have hG' : ∃ Gp', k_ms Gp' S2 (c + 1) := by
        obtain ⟨g0, hg0⟩ := k_mo_mk 0 ((fun a => match a with | 1 => Gp | 9 => (fun i => G (3 * k + i)) | _ => fun _ => 0), fun _ => 0)
        obtain ⟨g', V', -, -, -, -, d5⟩ := c6 g0 0 _ c 0 hg0 hGp (by omega) (by omega) a4.z
        exact ⟨_, d5 S2 rfl⟩
      rcases a6 with ⟨z1, z2⟩ | ⟨z1, z2, z3⟩
      · subst z1
        refine ⟨some S2, ⟨f2, S2, fun fuel hf => ?_, hci2, fun S' y => by cases y; exact ⟨rfl, hv'⟩, hfr2⟩, fun g m V c2 fuel K2 hm hs hcc ho2 hk h14 hfu => ?_⟩
        · rw [show fuel = (fuel - (e - s) - 1) + 1 + (e - s) by omega, b1, F_X5_carryOutAll_L9, b2.lng, Option.bind_some, if_pos (nI_le (by omega) (by omega)), b2.cv, c1]
          rfl
        · obtain ⟨u, rfl⟩ : ∃ u, fuel = u + 1 + 1 := ⟨fuel - 2, by omega⟩
          obtain ⟨g', V', d1, d2, d3, d4, d5⟩ := c6 g m V c2 k hm hs (by omega) (by omega) (uq _ ho2).1
          have h14' : V'.2 14 = nI (k + (0 + 1)) := (d3.2 14 (by simp)).trans h14
          refine ⟨k + 1, g', V', ?_, d2, d3, d4, (fun y => by cases y), fun S' y => by cases y; exact ⟨rfl, d5 S2 rfl⟩⟩
          rw [F_X6_follow_L40, hm.i14, h14, Option.bind_some, if_neg (nI_ge (by omega) (by omega)), hm.cv, d1, Option.bind_some]
          refine (if_neg (show ¬ x_b true = 0 by decide)).trans ?_
          show F_X6_follow_L40 N m K2 (u + 1) (nI k + 1) g' = _
          rw [k_add1, F_X6_follow_L40, d2.i14, h14', Option.bind_some, if_pos (nI_le (by omega) (by omega))]
      · have hq2 : k_rq f2 (x + 62) (k_rs bf e) := (c2 (x + 62) (by omega) (by omega)).trans b3
        obtain ⟨f3, p1, p2, p3⟩ := k_accepts (N := N) hq2 (bf e)
        have hci3 := hci2.rd p3 p2
        obtain ⟨r, ⟨f4, S4, q1, q2, q3, q4⟩, q5⟩ := ih (k + 1) (e + 1) (c + 1) S2 f3 z3 hci3 p2 hv' hG' (by omega)
        refine ⟨r, ⟨f4, S4, fun fuel hf => ?_, q2, q3, fun a ha => (q4 a ha).trans ((p3 a (by omega)).trans (hfr2 a ha))⟩, fun g m V c2 fuel K2 hm hs hcc ho2 hk h14 hfu => ?_⟩
        · rw [show fuel = (fuel - (e - s) - 1) + 1 + (e - s) by omega, b1, F_X5_carryOutAll_L9, ← q1 (fuel - (e - s) - 1) (by omega)]
          have hb2 := hci2.2.2.2.2.2.1
          simp only [b2.lng, b2.buf, k_alen hb, Option.bind_some, k_ald hb (i := e) (by omega) (by omega), b2.cv, c1]
          rw [if_neg (nI_ge (by omega) (by omega)), if_neg (nI_ge (by omega) (by omega)), if_pos z2, if_neg (show ¬ x_b (Option.isSome (some S2)) = 0 from (show ¬ x_b true = 0 by decide))]
          simp only [hci2.rdr, hci2.buf, Option.bind_some, k_ald hb2 (i := e) (by omega) (by omega), hq2.cv, p1, k_add1]
        · obtain ⟨u, rfl⟩ : ∃ u, fuel = u + 1 := ⟨fuel - 1, by omega⟩
          obtain ⟨g', V', d1, d2, d3, d4, d5⟩ := c6 g m V c2 k hm hs (by omega) (by omega) (uq _ ho2).1
          have y3 : k_ords bf (V.1 9) len nn (k + 1) (e + 1) := by
            rcases (uq _ ho2).2 with y | y
            · exact absurd y.2 (by omega)
            · exact y.2.2
          have e9 : V'.1 9 = V.1 9 := d3.1 9 (by simp)
          obtain ⟨j, g'', V'', w1, w2, w3, w4, w5, w6⟩ := q5 g' m V' (c2 + 1) u K2 d2 (d5 S2 rfl) (by omega) (by rw [e9]; exact y3) (by omega) (by rw [d3.2 14 (by simp), h14]; congr 1; omega) (by omega)
          refine ⟨j, g'', V'', ?_, w2, d3.tr w3, d4.tr w4, fun y => by have := w5 y; omega, fun S' y => ?_⟩
          · rw [F_X6_follow_L40, hm.i14, h14, Option.bind_some, if_neg (nI_ge (by omega) (by omega)), hm.cv, d1, Option.bind_some]
            refine (if_neg (show ¬ x_b true = 0 by decide)).trans ?_
            show F_X6_follow_L40 N m K2 u (nI k + 1) g' = _
            rw [k_add1]
            exact w1
          · obtain ⟨y1, y2⟩ := w6 S' y
            rw [show c2 + 1 + nn = c2 + (nn + 1) by omega] at y2
            exact ⟨by omega, y2⟩
end KOO
