/-! Orders that are followed: the law. -/
section KL12
variable {N L : Nat} {xs : Nat → Int32} {x m o t : Nat} {h : XH} {f : XM} {n len : Nat} {q : Nat → Option Nat} {St : Nat → KS} {S : KS} {bf : Nat → Int32} {V : KM} {c : Nat}
theorem k_ci.clr (h : k_ci f x n q St S bf len) : ∃ f' : XM, x_puti f 5 x 6 0 = some f' ∧ k_ci f' x n q St S bf 0 ∧ k_fr f f' x (x + 1) := by
  obtain ⟨h1, h2, ⟨sp, a1, a2⟩, ⟨g1, a3, a4⟩, ⟨g2, a5, a6⟩, a7, ⟨ra, rb, rc, rd, a8⟩, b1, b2, a9, a10⟩ := h
  have e2 : ∀ a, a ≠ x → x_up f x (.inr (5, (k_ob x sp n len).set 6 (.int 0))) a = f a := fun a y => x_up_n y
  exact ⟨_, k_puti (v := 0) a2 (k := 6) (by simp [k_ob]), ⟨h1, by omega, ⟨sp, a1, x_up_s⟩, ⟨g1, (e2 _ (by omega)).trans a3, a4⟩, ⟨g2, (e2 _ (by omega)).trans a5, a6⟩, (e2 _ (by omega)).trans a7, ⟨ra, rb, rc, rd, (e2 _ (by omega)).trans a8⟩, b1.ext (fun a c d => e2 a (by omega)), b2.ext (fun a c d => e2 a (by omega)), a9.ext (fun i p a e1 e3 e4 e5 => e2 a (by have := (a9.1 i p e1 e3).1; omega)), a10⟩, k_fr.up (Nat.le_refl _) (Nat.lt_succ_self _)⟩
/-- what the class's call brings: refused as a text, refused by an order, or done -/
def k_l12 (N x : Nat) (f : XM) (n : Nat) (q : Nat → Option Nat) (St : Nat → KS) (S : KS) (bf : Nat → Int32) (len : Nat) (r : Option KS) (z : Option (Int32 × XM)) : Prop :=
  match r with
  | none => ∃ (f' : XM) (St' : Nat → KS), z = some (2, f') ∧ (∀ a, x + 70 ≤ a → a < x + 81 → f' a = f a) ∧ k_ci f' x n q St' S bf len ∧ ∀ i, 1 ≤ i → St' i = St i
  | some S' => ∃ (f' : XM) (n' : Nat) (q' : Nat → Option Nat) (St' : Nat → KS), z = some (0, f') ∧ (∀ a, x + 70 ≤ a → a < x + 80 → f' a = f a) ∧ k_lo f' (x + 80) ∧ x_aldl f' (x + 80) 0 = some (nI (k_all S').1).toInt64 ∧ k_okA S' ∧ k_ci f' x n' q' St' S' bf 0 ∧ n' = (if n < 6 then n + 1 else 6) ∧ (∀ i, i < n' → St' (i + 1) = k_svl n (fun i => if i = 0 then S else St i) i) ∧ (∀ i, i < 2 → q' (i + 7) = q (i + 7) ∧ St' (i + 7) = St (i + 7)) ∧ k_vv S'
theorem k_lead12 (hN : 50000 ≤ N) {hs : Nat} (h : k_ci f x n q St S bf len) (hlo : k_lo f (x + 80)) (hd : ∀ (a : Nat) (e : XE), f a = some e → a < hs) (hx : x + 81 ≤ hs) {w : KQ} (hw : k_rq f (x + 62) w) {e : Nat} (he : k_er bf len e) :
    (¬ (e = len ∧ k_cpl (k_rs bf len) = true) → ∃ (f' : XM) (w' : KQ), F_L_follow N (f, hs) x (x + 80) = some (1, f') ∧ k_rq f' (x + 62) w' ∧ k_fr f f' (x + 62) (x + 63)) ∧
    ((e = len ∧ k_cpl (k_rs bf len) = true) → ∀ {G : Nat → Int32} {nn : Nat}, k_ords bf G len nn 0 0 → (∃ Gp, k_ms Gp S c) → c + nn ≤ 512 → k_vv S → ∃ r : Option KS, k_l12 N x f n q St S bf len r (F_L_follow N (f, hs) x (x + 80)) ∧
      (∀ (g : XM) (m : Nat) (V : KM) (c2 fuel : Nat) (K2 : Int32 → XM → Option (Int32 × XM)), k_mo g m V → k_ms (V.1 1) S c2 → c2 + nn ≤ 1200 → k_ords bf (V.1 9) len nn 0 0 → V.2 14 = nI nn → nn < fuel → ∃ (j : Nat) (g' : XM) (V' : KM), F_X6_follow_L40 N m K2 fuel 0 g = K2 (nI j) g' ∧ k_mo g' m V' ∧ k_mx V V' [1, 7] [8] ∧ k_fr g g' m (m + 10) ∧ (r = none → j < nn) ∧ ∀ S', r = some S' → j = nn ∧ k_ms (V'.1 1) S' (c2 + nn))) := by
  have hl := h.2.1
  obtain ⟨e', f1, w1, a1, a2, a3, a4⟩ := k_tellsOrders (N := N) (b := x + 61) (p := x + 62) (len := len) (by omega) (by omega) hl hw h.2.2.2.2.2.1
  have ee : e = e' := he.eq a2
  subst ee
  have hci1 := h.rd a4 a3
  refine ⟨fun hno => ⟨f1, w1, ?_, a3, a4⟩, fun hyes {G nn} ho hG hc hvv => ?_⟩
  · unfold F_L_follow F_X5_follow
    simp only [h.cv, h.rdr, h.buf, h.lng, Option.bind_some, hw.cv, a1]
    rw [if_pos (k_xb0 hno), Option.bind_some]
    rfl
  · have hd1 : ∀ (a : Nat) (e : XE), f1 a = some e → a < hs := fun a y ha => by
      by_cases z : x + 62 ≤ a ∧ a < x + 63
      · omega
      · rw [a4 a z] at ha
        exact hd a y ha
    obtain ⟨sp, f2, b1, b2, b3, b4, b5, b6⟩ := k_ccopy (N := N) (by omega) hci1 hd1
    obtain ⟨w2, hw2⟩ := b4.rq
    obtain ⟨f3, c1, c2, c3⟩ := k_rbegin (N := N) hw2
    have hci3 := b4.rd c3 c2
    obtain ⟨r, ⟨f4, S4, d1, d2, d3, d4⟩, d5⟩ := k_orders (N := N) hN hl nn 0 0 c S f3 ho hci3 c2 hvv hG hc
    have hall : F_X5_carryOutAll N f2 x = some (r.isSome, f4) := by
      unfold F_X5_carryOutAll
      rw [b4.rdr, Option.bind_some, Option.bind_some, hw2.cv, c1, Option.bind_some]
      exact d1 N (by omega)
    have hfr4 : ∀ a, x + 70 ≤ a → a < x + 81 → f4 a = f a := fun a y z => (d4 a (by omega)).trans ((c3 a (by omega)).trans ((b5 a y z).trans (a4 a (by omega))))
    have hd4 : ∀ (a : Nat) (e : XE), f4 a = some e → a < hs := fun a y ha => by
      by_cases z : x + 1 ≤ a ∧ a < x + 70
      · omega
      · rw [d4 a z, c3 a (by omega)] at ha
        exact b6 a y ha
    refine ⟨r, ?_, fun g m V c2 fuel K2 hm hs2 hcc ho2 h14 hfu => ?_⟩
    · cases r with
      | none =>
        obtain ⟨sp', e1, e2, e3, e4⟩ := d2.sp
        have e4' : k_st f4 sp' S := e4
        obtain ⟨f5, s1, s2, s3⟩ := k_scopy (N := N) (by omega) d2.st e4' (by omega)
        have hci5 := d2.setnow (k_fr2.ofb s3 (Nat.le_refl _) (by omega)) s2 (d2.gat.ext (fun a y1 y2 => s3 a (by omega)))
        refine ⟨f5, _, ?_, fun a y z => (s3 a (by omega)).trans (hfr4 a y z), hci5, fun i hi => if_neg (by omega)⟩
        unfold F_L_follow F_X5_follow
        simp only [h.cv, h.rdr, h.buf, h.lng, Option.bind_some, hw.cv, a1]
        rw [if_neg (k_xb1 hyes)]
        simp only [b1, hci1.now, Option.bind_some, b2, b3, b4.cv, hall]
        rw [if_pos (show x_b (Option.isSome (none : Option KS)) = 0 from rfl)]
        simp only [d2.now, e2, Option.bind_some, d2.st.cv, s1]
        rfl
      | some S' =>
        obtain ⟨rfl, hv'⟩ := d3 S' rfl
        obtain ⟨f5, hs', n', q', St', s1, s2, s3, s4, s5, s6⟩ := k_saveSpare (N := N) (by omega) d2 hd4 hx
        obtain ⟨f6, t1, t2, t3⟩ := s2.clr
        have hwS : k_ws S4 := by
          obtain ⟨Gp, hGp⟩ := hG
          obtain ⟨g0, hg0⟩ := k_mo_mk 0 ((fun a => match a with | 1 => Gp | 9 => G | _ => fun _ => 0), fun _ => nI nn)
          obtain ⟨j, g', V', -, -, -, -, -, y6⟩ := d5 g0 0 _ c (nn + 1) (fun _ _ => none) hg0 hGp (by omega) ho (by have := (k_ords_le _ _ _ ho).1; omega) (by rw [Nat.zero_add]) (by omega)
          exact (y6 S4 rfl).2.1
        obtain ⟨f7, rr, Q, g1, g2, g3, g4, g5, g6, g7⟩ := k_gather (N := N) (by omega) t2.st hwS t2.gat (Or.inr (by omega))
        obtain ⟨u1, u2⟩ := k_rowA g2 g7
        have hci7 := t2.setnow (k_fr2.ofg g6 (Nat.le_refl _) (by omega)) (t2.st.fr g6 (by omega)) g5
        have hfr7 : ∀ a, x + 70 ≤ a → a < x + 81 → f7 a = f a := fun a y z => (g6 a (by omega)).trans ((t3 a (by omega)).trans ((s6 a y z).trans (hfr4 a y z)))
        obtain ⟨f8, p1, p2, p3, p4⟩ := (hlo.ext (hfr7 _ (by omega) (by omega))).st (nI (k_all S4).1).toInt64
        refine ⟨f8, n', q', St', ?_, fun a y z => (p2 a (by omega)).trans (hfr7 a y (by omega)), p3, p4, u2, hci7.frm p2 (by omega) (by omega), s3, s4, fun i hi => ⟨(s5 i hi).1, by rw [(s5 i hi).2]; exact if_neg (by omega)⟩, hv'⟩
        unfold F_L_follow F_X5_follow
        simp only [h.cv, h.rdr, h.buf, h.lng, Option.bind_some, hw.cv, a1]
        rw [if_neg (k_xb1 hyes)]
        simp only [b1, hci1.now, Option.bind_some, b2, b3, b4.cv, hall]
        rw [if_neg (show ¬ x_b (Option.isSome (some S4)) = 0 from (show ¬ x_b true = 0 by decide))]
        simp only [d2.cv, s1, t1, t2.gth, t2.now, t2.gcv, g1, u1.n, p1, Option.bind_some, x_se]
    · obtain ⟨j, g', V', y1, y2, y3, y4, y5, y6⟩ := d5 g m V c2 fuel K2 hm hs2 hcc ho2 (by have := (k_ords_le _ _ _ ho2).1; omega) (by rw [h14, Nat.zero_add]) hfu
      exact ⟨j, g', V', y1, y2, y3, y4, fun z => by have := y5 z; omega, fun S' z => by have := y6 S' z; exact ⟨by omega, this.2⟩⟩
/-- the reference, behind the last order that went -/
def k_K2 (N m : Nat) : Int32 → XM → Option (Int32 × XM) := fun y1_35 g35 =>
  (x_geti g35 6 m 14).bind fun v36 =>
  if v36 ≤ y1_35 then
    (x_getr g35 6 m 5).bind fun v37 =>
    Option.bind v37 fun a38 =>
    (x_cv g35 6 m (F_X6_saves N g35 m a38)).bind fun z39 =>
    (x_puti z39 6 m 10 0).bind fun f40 =>
    (x_cv f40 6 m (F_X6_finds N f40 m)).bind fun z41 =>
    some (z41.1, z41.2)
  else
    (x_getr g35 6 m 5).bind fun v42 =>
    (x_getr g35 6 m 0).bind fun v43 =>
    Option.bind v43 fun a44 =>
    Option.bind v42 fun a45 =>
    (F_X6_lays N g35 a45 0 a44 0).bind fun z46 =>
    (x_cv z46 6 m (F_X6_refuses N z46 m 2)).bind fun z47 =>
    some (z47.1, z47.2)
theorem k_mfol_no {f2 : XM} {V2 : KM} (h : k_mo f m V) (hw : F_X6_isWhole N f m = some (false, f2)) (h2 : k_mo f2 m V2) : ∃ f3, F_X6_follow N f m = some (0, f3) ∧ k_mo f3 m (k_sI V2 11 1) ∧ k_fr f2 f3 m (m + 10) := by
  obtain ⟨f3, a1, a2, a3⟩ := h2.pi (i := 11) (by omega) 1
  have h11 : (k_sI V2 11 1).2 11 = 1 := k_sI_s
  refine ⟨f3, ?_, a2, a3⟩
  unfold F_X6_follow
  rw [h.cv, hw, Option.bind_some, if_pos (show x_b false = 0 from rfl), a1, Option.bind_some, a2.i11, h11, Option.bind_some, if_neg (by decide)]
theorem k_mfol_yes {f2 : XM} {V2 : KM} (hN : 50000 ≤ N) (h : k_mo f m V) (hw : F_X6_isWhole N f m = some (true, f2)) (h2 : k_mo f2 m V2) : ∃ (f4 : XM) (V4 : KM), F_X6_follow N f m = F_X6_follow_L40 N m (k_K2 N m) N 0 f4 ∧ k_mo f4 m V4 ∧ k_fr f2 f4 m (m + 10) ∧ (∀ a, a ≠ 5 → V4.1 a = V2.1 a) ∧ (∀ j, j < 6696 → V4.1 5 j = V2.1 1 j) ∧ V4.2 11 = 0 ∧ ∀ i, i ≠ 11 → V4.2 i = V2.2 i := by
  obtain ⟨f3, a1, a2, a3⟩ := h2.pi (i := 11) (by omega) 0
  have h11 : (k_sI V2 11 0).2 11 = 0 := k_sI_s
  obtain ⟨f4, l1, l2, l3⟩ := k_lays (N := N) (a1 := 1) (a2 := 5) (o1 := 0) (o2 := 0) (by omega) a2 (by omega) (by omega) (by omega) (by omega) (by omega) (show _ ≤ 6696 by omega) (show _ ≤ 6696 by omega)
  have l1' : F_X6_lays N f3 (m + 1) 0 (m + 5) 0 = some f4 := l1
  refine ⟨f4, _, ?_, l2, a3.tr l3, fun a ha => k_stA_n ha, fun j hj => ?_, h11, fun i hi => k_sI_n hi⟩
  · unfold F_X6_follow
    rw [h.cv, hw, Option.bind_some, if_neg (show ¬ x_b true = 0 by decide), a1, Option.bind_some, a2.i11, h11, Option.bind_some, if_pos (by decide), a2.r0, Option.bind_some, a2.r5, Option.bind_some, Option.bind_some, Option.bind_some, l1', Option.bind_some]
    rfl
  · rw [k_stA_s, if_pos (by omega), Nat.zero_add]
    rfl
theorem k_K2_no {nn j : Nat} (hN : 50000 ≤ N) (h : k_mo f m V) (h14 : V.2 14 = nI nn) (hj : j < nn) (hn : nn < 2 ^ 31) : ∃ (f' : XM) (V' : KM), k_K2 N m (nI j) f = some (0, f') ∧ k_mo f' m V' ∧ k_fr f f' m (m + 10) ∧ V'.2 11 = 2 ∧ (∀ jj, jj < 6696 → V'.1 1 jj = V.1 5 jj) ∧ (∀ a, a ≠ 1 → V'.1 a = V.1 a) ∧ ∀ i, i ≠ 11 → V'.2 i = V.2 i := by
  obtain ⟨f4, l1, l2, l3⟩ := k_lays (N := N) (a1 := 5) (a2 := 1) (o1 := 0) (o2 := 0) (by omega) h (by omega) (by omega) (by omega) (by omega) (by omega) (show _ ≤ 6696 by omega) (show _ ≤ 6696 by omega)
  have l1' : F_X6_lays N f (m + 5) 0 (m + 1) 0 = some f4 := l1
  obtain ⟨f5, a1, a2, a3⟩ := l2.pi (i := 11) (by omega) 2
  refine ⟨f5, _, ?_, a2, l3.tr a3, k_sI_s, fun jj hj => ?_, fun a ha => k_stA_n ha, fun i hi => k_sI_n hi⟩
  · unfold k_K2
    rw [h.i14, h14, Option.bind_some, if_neg (nI_ge hj hn), h.r5, Option.bind_some, h.r0, Option.bind_some, Option.bind_some, Option.bind_some, l1', Option.bind_some, l2.cv]
    unfold F_X6_refuses
    rw [a1]
    rfl
  · refine (congrFun (k_stA_s (V := V) (a := 1) (g := fun j => if 0 ≤ j ∧ j < 0 + 6696 then V.1 5 (0 + (j - 0)) else V.1 1 j)) jj).trans ?_
    show (if 0 ≤ jj ∧ jj < 0 + 6696 then V.1 5 (0 + (jj - 0)) else V.1 1 jj) = _
    rw [if_pos (by omega), Nat.zero_add]
    rfl
theorem k_K2_yes {nn c' : Nat} {S' : KS} (hN : 50000 ≤ N) (h : k_mo f m V) (h14 : V.2 14 = nI nn) (hnn : nn < 2 ^ 31) (hn : n ≤ 6) (h2 : V.2 2 = nI n) (hA : k_okA S') (hs : k_ms (V.1 1) S' c') : ∃ (f' : XM) (V' : KM), k_K2 N m (nI nn) f = some (nI (k_all S').1, f') ∧ k_mo f' m V' ∧ k_fr f f' m (m + 10) ∧ V'.2 10 = 0 ∧ V'.2 11 = V.2 11 ∧ V'.2 2 = nI (if n < 6 then n + 1 else 6) ∧ (∀ i j, i < (if n < 6 then n + 1 else 6) → j < 6696 → V'.1 2 (6696 * i + j) = k_psv n (V.1 2) (V.1 5) i j) ∧ ∀ a, a ≠ 2 → a ≠ 7 → V'.1 a = V.1 a := by
  obtain ⟨f1, V1, b1, b2, b3, b4, b5, b6⟩ := k_msaves (N := N) (a1 := 5) hN h (Or.inr rfl) hn h2
  obtain ⟨f2, a1, a2, a3⟩ := b2.pi (i := 10) (by omega) 0
  have e1 : (k_sI V1 10 0).1 1 = V.1 1 := b3.1 1 (by simp)
  obtain ⟨f3, V3, d1, d2, d3, d4, -, -⟩ := k_finds (N := N) (by omega) hA a2 (by rw [e1]; exact hs)
  refine ⟨f3, V3, ?_, d2, (b4.tr a3).tr d4, (d3.2 10 (by simp)).trans k_sI_s, ?_, ?_, fun i j hi hj => ?_, fun a y1 y2 => ?_⟩
  · unfold k_K2
    rw [h.i14, h14, Option.bind_some, if_pos (nI_le (Nat.le_refl _) hnn), h.r5, Option.bind_some, Option.bind_some, h.cv, b1, Option.bind_some, a1, Option.bind_some, a2.cv, d1, Option.bind_some]
  · exact (d3.2 11 (by simp)).trans ((k_sI_n (by omega)).trans (b3.2 11 (by simp)))
  · exact (d3.2 2 (by simp)).trans ((k_sI_n (by omega)).trans b5)
  · rw [d3.1 2 (by simp)]
    exact b6 i j hi hj
  · rw [d3.1 a (by simp; exact y2)]
    exact b3.1 a (by simp; exact y1)
theorem k_law12 (hN : 50000 ≤ N) (ht : t < 512) (hI : k_In x m o t h.1) (hd : ∀ (a : Nat) (e : XE), h.1 a = some e → a < h.2) : ∃ r, F_law_12 N L xs x m o (nI (3 * t)) h = some r ∧ k_In x m o (t + 1) r := by
  obtain ⟨rfl, rfl, n, q, St, S, bf, len, V, c, hR⟩ := hI
  obtain ⟨r1, r2, r3, r4, r5⟩ := id hR
  obtain ⟨p1, p2, p3, p4, p5, p6⟩ := id r4
  have hx : x + 81 ≤ h.2 := by
    obtain ⟨g, hg⟩ := r3
    have := hd _ _ hg
    omega
  obtain ⟨w, hw⟩ := r1.rq
  have hl := r1.2.1
  have hn6 := r1.1
  have rd := k_isWhole (N := N) (bf := bf) (len := len) (by omega) r2 hl p2 p3
  obtain ⟨e, fE, q7, he, q8⟩ := k_errorIn (N := N) (b := x + 61) (p := x + 62) (len := len) (by omega) (by omega) hl hw r1.2.2.2.2.2.1
  obtain ⟨lead0, lead1⟩ := k_lead12 hN (hs := h.2) r1 r3 hd hx hw he
  have bad : (e = len ∧ k_cpl (k_rs bf len) = true) → ∀ {V0 : KM} {f0 : XM} {z : Option (Bool × XM)}, k_rno bf len (x + 70) V0 f0 z → False := fun hyes {V0 f0 z} hz => by
    obtain ⟨-, -, e', -, -, -, -, -, c6⟩ := hz
    have := c6.2 ((he.eq c6.1).symm.trans hyes.1)
    rw [hyes.2] at this
    exact absurd this (by decide)
  unfold F_law_12
  by_cases hyes : e = len ∧ k_cpl (k_rs bf len) = true
  · rcases rd with rd | ⟨fA, VA, nn, q1, q2, q3, q4, q5, ho, q6⟩
    · exact (bad hyes rd).elim
    · have hle := k_ords_le _ _ _ ho
      obtain ⟨r, z1, z2⟩ := lead1 hyes ho ⟨V.1 1, p4⟩ (by omega) r5.2.1
      cases r with
      | none =>
        obtain ⟨f1, St1, a1, a2, a3, a4⟩ := z1
        have hm1 : k_mo f1 (x + 70) V := r2.ext (fun a y1 y2 => a2 a y1 (by omega))
        rcases k_isWhole (N := N) (bf := bf) (len := len) (by omega) hm1 hl p2 p3 with rd | ⟨f2, V2, n2, c1, c2, c3, c4, c5, c6, c7⟩
        · exact (bad hyes rd).elim
        · have hn2 := k_ords_n _ _ _ _ ho c6
          subst hn2
          obtain ⟨f3, V3, d1, d2, d3, d4, d5, d6, d7⟩ := k_mfol_yes hN hm1 c1 c2
          have e1 : V3.1 1 = V.1 1 := (d4 1 (by omega)).trans (c4.1 1 (by simp))
          obtain ⟨j, f4, V4, y1, y2, y3, y4, y5, -⟩ := z2 f3 (x + 70) V3 c N (k_K2 N (x + 70)) d2 (by rw [e1]; exact p4) (by omega) (by rw [d4 9 (by omega)]; exact c6) ((d7 14 (by omega)).trans c5) (by omega)
          obtain ⟨f5, V5, i1, i2, i3, i4, i5, i6, i7⟩ := k_K2_no (j := j) hN y2 ((y3.2 14 (by simp)).trans ((d7 14 (by omega)).trans c5)) (y5 rfl) (by omega)
          have ea : ∀ a, a ≠ 1 → a ≠ 5 → a ≠ 7 → a ≠ 9 → V5.1 a = V.1 a := fun a g1 g2 g3 g4 => by
            rw [i6 a g1, y3.1 a (by simp; omega), d4 a g2, c4.1 a (by simp; omega)]
          have ei : ∀ i, i ≠ 11 → i ≠ 8 → i ≠ 12 → i ≠ 14 → V5.2 i = V.2 i := fun i g1 g2 g3 g4 => by
            rw [i7 i g1, y3.2 i (by simp; omega), d7 i g1, c4.2 i (by simp; omega)]
          have enow : ∀ jj, jj < 6696 → V5.1 1 jj = V.1 1 jj := fun jj hj => by
            rw [i5 jj hj, y3.1 5 (by simp), d5 jj hj, c4.1 1 (by simp)]
          have hfr := ((c3.tr d3).tr y4).tr i3
          refine ⟨f5, k_lawT (M := fun z => F_X6_follow N z (x + 70)) (e := 2) (r := 0) (f1 := f1) (f2 := f5) a1 hm1 (d1.trans (y1.trans i1)) i2 i4 (fun y => absurd y (by decide)), rfl, rfl, n, q, St1, S, bf, len, V5, c, a3.frm hfr (by omega) (by omega), i2, (r3.ext (a2 _ (by omega) (by omega))).ext (hfr _ (by omega)), ⟨(ei 2 (by omega) (by omega) (by omega) (by omega)).trans p1, (ei 10 (by omega) (by omega) (by omega) (by omega)).trans p2, fun i hi => by rw [ea 8 (by omega) (by omega) (by omega) (by omega)]; exact p3 i hi, p4.cong enow, fun i hi => ?_, fun i hi => ?_⟩, by omega, r5.2.1, fun i hi => ?_, fun i hi y => ?_⟩
          · rw [ea 2 (by omega) (by omega) (by omega) (by omega), a4 _ (by omega)]; exact p5 i hi
          · rw [ea 3 (by omega) (by omega) (by omega) (by omega), ea 4 (by omega) (by omega) (by omega) (by omega), a4 _ (by omega)]; exact p6 i hi
          · rw [a4 _ (by omega)]; exact r5.2.2.1 i hi
          · rw [a4 _ (by omega)]; exact r5.2.2.2 i hi y
      | some S' =>
        obtain ⟨f1, n', q', St', a1, a2, a3, a4, a5, a6, a7, a8, a9, a10⟩ := z1
        have hm1 : k_mo f1 (x + 70) V := r2.ext (fun a y1 y2 => a2 a y1 (by omega))
        rcases k_isWhole (N := N) (bf := bf) (len := len) (by omega) hm1 hl p2 p3 with rd | ⟨f2, V2, n2, c1, c2, c3, c4, c5, c6, c7⟩
        · exact (bad hyes rd).elim
        · have hn2 := k_ords_n _ _ _ _ ho c6
          subst hn2
          obtain ⟨f3, V3, d1, d2, d3, d4, d5, d6, d7⟩ := k_mfol_yes hN hm1 c1 c2
          have e1 : V3.1 1 = V.1 1 := (d4 1 (by omega)).trans (c4.1 1 (by simp))
          obtain ⟨j, f4, V4, y1, y2, y3, y4, -, y6⟩ := z2 f3 (x + 70) V3 c N (k_K2 N (x + 70)) d2 (by rw [e1]; exact p4) (by omega) (by rw [d4 9 (by omega)]; exact c6) ((d7 14 (by omega)).trans c5) (by omega)
          obtain ⟨yj, ym⟩ := y6 S' rfl
          subst yj
          have e2 : V4.2 2 = nI n := (y3.2 2 (by simp)).trans ((d7 2 (by omega)).trans ((c4.2 2 (by simp)).trans p1))
          obtain ⟨f5, V5, i1, i2, i3, i4, i5, i6, i7, i8⟩ := k_K2_yes hN y2 ((y3.2 14 (by simp)).trans ((d7 14 (by omega)).trans c5)) (by omega) hn6 e2 a5 ym
          have ea : ∀ a, a ≠ 1 → a ≠ 2 → a ≠ 5 → a ≠ 7 → a ≠ 9 → V5.1 a = V.1 a := fun a g1 g0 g2 g3 g4 => by
            rw [i8 a g0 g3, y3.1 a (by simp; omega), d4 a g2, c4.1 a (by simp; omega)]
          have h11 : V5.2 11 = 0 := i5.trans ((y3.2 11 (by simp)).trans d6)
          have hfr := ((c3.tr d3).tr y4).tr i3
          have k2' : V4.1 2 = V.1 2 := (y3.1 2 (by simp)).trans ((d4 2 (by omega)).trans (c4.1 2 (by simp)))
          have k5' : ∀ jj, jj < 6696 → V4.1 5 jj = V.1 1 jj := fun jj hj => by
            rw [y3.1 5 (by simp), d5 jj hj, c4.1 1 (by simp)]
          have hms : k_ms (V5.1 1) S' (c + j) := by rw [i8 1 (by omega) (by omega)]; exact ym
          rw [← a7] at i6 i7
          have hpv : k_pv n' q' St' S' bf 0 V5 (c + j) := by
            obtain ⟨b1, b2, b3, b4, b5, b6⟩ := r4.mono (c' := c + j) (by omega) (by omega)
            refine ⟨i6, i4, fun i hi => absurd hi (Nat.not_lt_zero _), hms, fun i hi => ?_, fun i hi => ?_⟩
            · rw [a8 i hi]
              have hp : ∀ a, a < 6696 → V5.1 2 (6696 * i + a) = k_psv n (V.1 2) (V.1 1) i a := fun a ha => by
                rw [i7 i a hi ha, k2']
                unfold k_psv
                rw [k5' a ha]
              unfold k_svl
              unfold k_psv at hp
              by_cases z : n < 6
              · rw [if_pos z] at a7
                rw [if_pos z]
                by_cases y : i < n
                · rw [if_pos y]
                  show k_ms _ (if i + 1 = 0 then S else St (i + 1)) _
                  rw [if_neg (by omega)]
                  exact (b5 i y).cong (fun a ha => by rw [hp a ha, if_pos z, if_pos y])
                · rw [if_neg y]
                  show k_ms _ S _
                  exact b4.cong (fun a ha => by rw [hp a ha, if_pos z, if_neg y])
              · rw [if_neg z] at a7
                rw [if_neg z]
                by_cases y : i < 5
                · rw [if_pos y]
                  show k_ms _ (if i + 2 = 0 then S else St (i + 2)) _
                  rw [if_neg (by omega)]
                  exact (b5 (i + 1) (by omega)).cong (fun a ha => by rw [hp a ha, if_neg z, if_pos y])
                · rw [if_neg y]
                  show k_ms _ S _
                  exact b4.cong (fun a ha => by rw [hp a ha, if_neg z, if_neg y])
            · rw [(a9 i hi).1, (a9 i hi).2, ea 3 (by omega) (by omega) (by omega) (by omega) (by omega), ea 4 (by omega) (by omega) (by omega) (by omega) (by omega)]
              exact b6 i hi
          exact ⟨f5, k_lawT (M := fun z => F_X6_follow N z (x + 70)) (e := 0) (r := nI (k_all S').1) (f1 := f1) (f2 := f5) a1 hm1 (d1.trans (y1.trans i1)) i2 h11 (fun _ => by rw [k_aldl_c (hfr _ (by omega))]; exact a4), rfl, rfl, n', q', St', S', bf, 0, V5, c + j, a6.frm hfr (by omega) (by omega), i2, a3.ext (hfr _ (by omega)), hpv, by omega, r5.2.saved hn6 a7 a8 a9 a10⟩
  · obtain ⟨f1, w', a1, a2, a3⟩ := lead0 hyes
    have hR1 := hR.rd a3 a2
    obtain ⟨s1, s2, s3, s4, s5⟩ := id hR1
    rcases k_isWhole (N := N) (bf := bf) (len := len) (by omega) s2 hl p2 p3 with ⟨f2, V2, e', c1, c2, c3, c4, c5, c6⟩ | ⟨f2, V2, n2, c1, c2, c3, c4, c5, c6, c7⟩
    · obtain ⟨f3, d1, d2, d3⟩ := k_mfol_no s2 c1 c2
      have hfr := c3.tr d3
      exact ⟨f3, k_lawT (M := fun z => F_X6_follow N z (x + 70)) (e := 1) (r := 0) (f1 := f1) (f2 := f3) a1 s2 d1 d2 k_sI_s (fun y => absurd y (by decide)), k_qry hR1 (fun a ha => hfr a (by omega)) (s1.gat.ext (fun a y1 y2 => hfr a (by omega))) d2 ((c4.wd (As' := [5, 6, 7, 9]) (Is' := [8, 11, 12, 14]) (by simp) (by simp)).tr (k_sI_mx (by simp))) (s3.ext (hfr _ (by omega)))⟩
    · exact absurd ⟨he.eq ⟨Nat.le_refl _, k_cpl8 c7, fun y => absurd y (Nat.lt_irrefl _)⟩, c7⟩ hyes
end KL12
