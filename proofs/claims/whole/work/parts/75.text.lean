/-! Letters written down, the buffer cleared, states taken back. -/
section KTX
variable {N L : Nat} {xs : Nat → Int32} {x m o t : Nat} {h : XH} {f : XM} {n len : Nat} {q : Nat → Option Nat} {St : Nat → KS} {S : KS} {bf : Nat → Int32} {V : KM} {c : Nat}
theorem k_qry {f' : XM} {V' : KM} (hR : k_Rl x t f n q St S bf len V c) (hf : ∀ a, ¬ (x + 63 ≤ a ∧ a < x + 81) → f' a = f a) (hg : k_gat f' (x + 63)) (hm : k_mo f' (x + 70) V') (hx : k_mx V V' [5, 6, 7, 9] [8, 11, 12, 14]) (hlo : k_lo f' (x + 80)) : k_In x (x + 70) (x + 80) (t + 1) f' := by
  obtain ⟨r1, r2, r3, r4, r5⟩ := hR
  obtain ⟨p1, p2, p3, p4, p5, p6⟩ := r4
  obtain ⟨h1, h2, ⟨sp, a1, a2⟩, ⟨g1, a3, a4⟩, ⟨g2, a5, a6⟩, a7, ⟨ra, rb, rc, rd, a8⟩, b1, b2, a9, a10⟩ := r1
  have hci : k_ci f' x n q St S bf len := ⟨h1, h2, ⟨sp, a1, (hf _ (by omega)).trans a2⟩, ⟨g1, (hf _ (by omega)).trans a3, a4⟩, ⟨g2, (hf _ (by omega)).trans a5, a6⟩, (hf _ (by omega)).trans a7, ⟨ra, rb, rc, rd, (hf _ (by omega)).trans a8⟩, hg, b2.ext (fun a c d => hf a (by omega)), a9.ext (fun i p a e1 e2 e3 e4 => hf a (by have := (a9.1 i p e1 e2).1; omega)), a10⟩
  exact ⟨rfl, rfl, n, q, St, S, bf, len, V', c, hci, hm, hlo, ⟨(hx.2 2 (by simp)).trans p1, (hx.2 10 (by simp)).trans p2, fun i hi => by rw [hx.1 8 (by simp)]; exact p3 i hi, by rw [hx.1 1 (by simp)]; exact p4, fun i hi => by rw [hx.1 2 (by simp)]; exact p5 i hi, fun i hi => by rw [hx.1 4 (by simp), hx.1 3 (by simp)]; exact p6 i hi⟩, by omega, r5.2⟩
/-- a law's end, where numbers are held against each other -/
theorem k_lawT {M : XM → Option (Int32 × XM)} {zL : Option (Int32 × XM)} {e r : Int32} {f1 f2 : XM} {V1 V2 : KM} (h1 : zL = some (e, f1)) (hm1 : k_mo f1 m V1) (h2 : M f1 = some (r, f2)) (hm2 : k_mo f2 m V2) (h11 : V2.2 11 = e) (h0 : e = 0 → x_aldl f2 o 0 = some r.toInt64) :
    (zL.bind fun z3 => (x_cv z3.2 6 m (M z3.2)).bind fun z6 => (x_cv z6.2 6 m (F_X6_thrown N z6.2 m)).bind fun z7 => if z7 = z3.1 then if z3.1 = 0 then (x_aldl z6.2 o 0).bind fun v8 => if (lg_cmp v8 ((z6.1 : Int32).toInt64)) = 0 then some z6.2 else none else some z6.2 else none) = some f2 := by
  rw [h1]
  simp only [Option.bind_some, hm1.cv, h2, hm2.cv, F_X6_thrown, hm2.i11, h11]
  rw [if_pos trivial]
  by_cases z : e = 0
  · rw [if_pos z, h0 z, Option.bind_some, if_pos (k_lgc r)]
  · rw [if_neg z]
/-- .. and where nothing but what was thrown is -/
theorem k_lawU {M : XM → Option XM} {zL : Option (Int32 × XM)} {e : Int32} {f1 f2 : XM} {V1 V2 : KM} (h1 : zL = some (e, f1)) (hm1 : k_mo f1 m V1) (h2 : M f1 = some f2) (hm2 : k_mo f2 m V2) (h11 : V2.2 11 = e) :
    (zL.bind fun z2 => (x_cv z2.2 6 m (M z2.2)).bind fun z4 => (x_cv z4 6 m (F_X6_thrown N z4 m)).bind fun z5 => if z5 = z2.1 then some z4 else none) = some f2 := by
  rw [h1]
  simp only [Option.bind_some, hm1.cv, h2, hm2.cv, F_X6_thrown, hm2.i11, h11]
  rw [if_pos trivial]
theorem k_ci.app (h : k_ci f x n q St S bf len) (hl : len < 60) (k : Int32) : ∃ f1 f2, x_ast f (x + 61) (nI len) k = some f1 ∧ x_geti f1 5 x 6 = some (nI len) ∧ x_puti f1 5 x 6 (nI (len + 1)) = some f2 ∧ k_ci f2 x n q St S (upd bf len k) (len + 1) ∧ x_geti f2 5 x 6 = some (nI (len + 1)) ∧ ∀ a, x + 70 ≤ a → a < x + 81 → f2 a = f a := by
  obtain ⟨h1, h2, ⟨sp, a1, a2⟩, ⟨g1, a3, a4⟩, ⟨g2, a5, a6⟩, a7, ⟨ra, rb, rc, rd, a8⟩, b1, b2, a9, a10⟩ := h
  have e1 : ∀ a, a ≠ x + 61 → x_up f (x + 61) (.inl (.int, 60, .inl (upd bf len k))) a = f a := fun a ha => x_up_n ha
  have o1 := (e1 x (by omega)).trans a2
  have p1 := k_puti (v := nI (len + 1)) o1 (k := 6) (by simp [k_ob])
  have e2 : ∀ a, a ≠ x → a ≠ x + 61 → x_up (x_up f (x + 61) (.inl (.int, 60, .inl (upd bf len k)))) x (.inr (5, (k_ob x sp n len).set 6 (.int (nI (len + 1))))) a = f a := fun a y z => (x_up_n y).trans (x_up_n z)
  have hci : k_ci (x_up (x_up f (x + 61) (.inl (.int, 60, .inl (upd bf len k)))) x (.inr (5, (k_ob x sp n len).set 6 (.int (nI (len + 1)))))) x n q St S (upd bf len k) (len + 1) :=
    ⟨h1, by omega, ⟨sp, a1, x_up_s⟩, ⟨g1, (e2 _ (by omega) (by omega)).trans a3, a4⟩, ⟨g2, (e2 _ (by omega) (by omega)).trans a5, a6⟩, (x_up_n (by omega)).trans x_up_s, ⟨ra, rb, rc, rd, (e2 _ (by omega) (by omega)).trans a8⟩, b1.ext (fun a c d => e2 a (by omega) (by omega)), b2.ext (fun a c d => e2 a (by omega) (by omega)), a9.ext (fun i p a e1 e3 e4 e5 => e2 a (by have := (a9.1 i p e1 e3).1; omega) (by have := (a9.1 i p e1 e3).1; omega)), a10⟩
  exact ⟨_, _, k_ast a7 hl (by omega), k_geti o1 rfl, p1, hci, hci.lng, fun a y1 y2 => e2 a (by omega) (by omega)⟩
theorem k_law9 (hN : 50000 ≤ N) (hL : L ≤ 1536) (ht : t < 512) (h3 : 3 * t + 3 ≤ L) (hI : k_In x m o t h.1) (hd : ∀ (a : Nat) (e : XE), h.1 a = some e → a < h.2) : ∃ r, F_law_9 N L xs x m o (nI (3 * t)) h = some r ∧ k_In x m o (t + 1) r := by
  obtain ⟨rfl, rfl, n, q, St, S, bf, len, V, c, hR⟩ := hI
  obtain ⟨r1, r2, r3, r4, r5⟩ := id hR
  obtain ⟨p1, p2, p3, p4, p5, p6⟩ := id r4
  have s1 : x_sld L xs (nI (3 * t) + 1) = some (xs (3 * t + 1)) := k_sld (j := 1) h3 hL (by omega)
  have hl60 := r1.2.1
  have e33 : (33 : Int32).toInt = 33 := rfl
  have e126 : (126 : Int32).toInt = 126 := rfl
  unfold F_law_9
  simp only [s1, Option.bind_some]
  generalize xs (3 * t + 1) = k
  by_cases g : 33 ≤ k.toInt ∧ k.toInt ≤ 126
  · have g1 : ¬ k < 33 := by rw [k_i_lt, e33]; omega
    have g2 : k ≤ 126 := by rw [k_i_le, e126]; omega
    by_cases gl : len < 60
    · obtain ⟨f1, f2, a1, a2, a3, a4, a5, a6⟩ := r1.app gl k
      obtain ⟨f3, b1, b2, b3, b4⟩ := (r3.ext (a6 _ (by omega) (by omega))).st (nI (len + 1)).toInt64
      have hm3 : k_mo f3 (x + 70) V := r2.ext (fun a y1 y2 => (b2 a (by omega)).trans (a6 a y1 (by omega)))
      obtain ⟨f4, c1, c2, c3⟩ := hm3.pi (i := 11) (by omega) 0
      have h11 : (k_sI V 11 0).2 11 = 0 := k_sI_s
      have h10 : (k_sI V 11 0).2 10 = nI len := (k_sI_n (by omega)).trans p2
      obtain ⟨f5, d1, d2, d3⟩ := c2.st (a := 8) (i := len) (by omega) (by omega) (by show _ < 60; omega) k
      obtain ⟨f6, i1, i2, i3⟩ := d2.pi (i := 10) (by omega) (nI (len + 1))
      have h10' : (k_sI (k_sA (k_sI V 11 0) 8 len k) 10 (nI (len + 1))).2 10 = nI (len + 1) := k_sI_s
      have d10 : (k_sA (k_sI V 11 0) 8 len k).2 10 = nI len := h10
      refine ⟨f6, k_lawT (M := fun z => F_X6_append N z (x + 70) k) (e := 0) (r := nI (len + 1)) (f1 := f3) (f2 := f6) ?_ hm3 ?_ i2 ?_ (fun _ => ?_), rfl, rfl, n, q, St, S, upd bf len k, len + 1, _, c, ?_, i2, ?_, ⟨?_, h10', ?_, ?_, ?_, ?_⟩, by omega, r5.2⟩
      · unfold F_L_append F_X5_append
        rw [r1.cv, if_neg g1, if_pos g2]
        simp only [r1.lng, r1.buf, Option.bind_some, k_alen r1.2.2.2.2.2.1]
        rw [if_neg (nI_pos (by omega)), if_pos (nI_lt gl (by omega))]
        simp only [a1, a2, k_add1, a3, a5, Option.bind_some, x_se, b1]
      · unfold F_X6_append
        rw [k_in, Option.bind_some, if_neg (k_xb1 (by rw [e33, e126]; exact g))]
        simp only [hm3.i10, p2, Option.bind_some]
        rw [if_neg (show ¬ nI len = 60 from fun e => by have := (nI_eq (a := len) (b := 60) (by omega) (by omega)).mp e; omega)]
        simp only [c1, c2.i11, h11, Option.bind_some]
        rw [if_pos (by decide)]
        simp only [c2.r9, c2.i10, h10, d1, d2.i10, d10, k_add1, i1, i2.i10, h10', Option.bind_some]
      · rw [k_sI_n (by omega)]; exact h11
      · rw [k_aldl_c ((i3 _ (by omega)).trans ((d3 _ (by omega)).trans (c3 _ (by omega))))]
        exact b4
      · exact (((a4.frm b2 (by omega) (by omega)).frm c3 (by omega) (by omega)).frm d3 (by omega) (by omega)).frm i3 (by omega) (by omega)
      · exact b3.ext ((i3 _ (by omega)).trans ((d3 _ (by omega)).trans (c3 _ (by omega))))
      · rw [k_sI_n (by omega)]
        show (k_sI V 11 0).2 2 = nI n
        rw [k_sI_n (by omega)]
        exact p1
      · intro i hi
        show (k_sA (k_sI V 11 0) 8 len k).1 8 i = _
        rw [k_sA_s]
        by_cases z : i = len
        · rw [z, k_upd_s, k_upd_s]
        · rw [k_upd_n z, k_upd_n z]; exact p3 i (by omega)
      · exact p4
      · exact p5
      · exact p6
    · have el : len = 60 := by omega
      obtain ⟨f4, c1, c2, c3⟩ := r2.pi (i := 11) (by omega) 2
      have h11 : (k_sI V 11 2).2 11 = 2 := k_sI_s
      refine ⟨f4, k_lawT (M := fun z => F_X6_append N z (x + 70) k) (e := 2) (r := 0) (f1 := h.1) (f2 := f4) ?_ r2 ?_ c2 h11 (fun e => absurd e (by decide)), k_qry hR (fun a ha => c3 a (by omega)) (r1.gat.ext (fun a y1 y2 => c3 a (by omega))) c2 (k_sI_mx (by simp)) (r3.ext (c3 _ (by omega)))⟩
      · unfold F_L_append F_X5_append
        rw [r1.cv, if_neg g1, if_pos g2]
        simp only [r1.lng, r1.buf, Option.bind_some, k_alen r1.2.2.2.2.2.1]
        rw [if_neg (nI_pos (by omega)), if_neg (nI_nlt (by omega) (by omega))]
        rfl
      · unfold F_X6_append
        rw [k_in, Option.bind_some, if_neg (k_xb1 (by rw [e33, e126]; exact g))]
        simp only [r2.i10, p2, Option.bind_some]
        rw [if_pos (show nI len = 60 by rw [el]; rfl)]
        simp only [c1, c2.i11, h11, Option.bind_some]
        rw [if_neg (by decide)]
  · obtain ⟨f4, c1, c2, c3⟩ := r2.pi (i := 11) (by omega) 1
    have h11 : (k_sI V 11 1).2 11 = 1 := k_sI_s
    refine ⟨f4, k_lawT (M := fun z => F_X6_append N z (x + 70) k) (e := 1) (r := 0) (f1 := h.1) (f2 := f4) ?_ r2 ?_ c2 h11 (fun e => absurd e (by decide)), k_qry hR (fun a ha => c3 a (by omega)) (r1.gat.ext (fun a y1 y2 => c3 a (by omega))) c2 (k_sI_mx (by simp)) (r3.ext (c3 _ (by omega)))⟩
    · unfold F_L_append F_X5_append
      rw [r1.cv]
      by_cases g1 : k < 33
      · rw [if_pos g1]; rfl
      · rw [if_neg g1, if_neg (show ¬ k ≤ 126 by rw [k_i_le, e126]; rw [k_i_lt, e33] at g1; omega)]; rfl
    · unfold F_X6_append
      rw [k_in, Option.bind_some, if_pos (k_xb0 (by rw [e33, e126]; exact g))]
      simp only [c1, c2.i11, h11, Option.bind_some]
      rw [if_neg (by decide)]
theorem k_law10 (hI : k_In x m o t h.1) : ∃ r, F_law_10 N L xs x m o (nI (3 * t)) h = some r ∧ k_In x m o (t + 1) r := by
  obtain ⟨rfl, rfl, n, q, St, S, bf, len, V, c, hR⟩ := hI
  obtain ⟨r1, r2, r3, r4, r5⟩ := id hR
  obtain ⟨p1, p2, p3, p4, p5, p6⟩ := id r4
  obtain ⟨h1, h2, ⟨sp, a1, a2⟩, ⟨g1, a3, a4⟩, ⟨g2, a5, a6⟩, a7, ⟨ra, rb, rc, rd, a8⟩, b1, b2, a9, a10⟩ := id r1
  have q1 := k_puti (v := 0) a2 (k := 6) (by simp [k_ob])
  have e2 : ∀ a, a ≠ x → x_up h.1 x (.inr (5, (k_ob x sp n len).set 6 (.int 0))) a = h.1 a := fun a y => x_up_n y
  have hci : k_ci (x_up h.1 x (.inr (5, (k_ob x sp n len).set 6 (.int 0)))) x n q St S bf 0 :=
    ⟨h1, by omega, ⟨sp, a1, x_up_s⟩, ⟨g1, (e2 _ (by omega)).trans a3, a4⟩, ⟨g2, (e2 _ (by omega)).trans a5, a6⟩, (e2 _ (by omega)).trans a7, ⟨ra, rb, rc, rd, (e2 _ (by omega)).trans a8⟩, b1.ext (fun a c d => e2 a (by omega)), b2.ext (fun a c d => e2 a (by omega)), a9.ext (fun i p a e1 e3 e4 e5 => e2 a (by have := (a9.1 i p e1 e3).1; omega)), a10⟩
  generalize x_up h.1 x (.inr (5, (k_ob x sp n len).set 6 (.int 0))) = f1 at *
  have hm1 : k_mo f1 (x + 70) V := r2.ext (fun a y1 y2 => e2 a (by omega))
  obtain ⟨f2, c1, c2, c3⟩ := hm1.pi (i := 11) (by omega) 0
  have h10 : (k_sI V 11 0).2 10 = nI len := (k_sI_n (by omega)).trans p2
  obtain ⟨f3, d1, d2, d3⟩ := c2.pi (i := 10) (by omega) 0
  refine ⟨f3, ?_, rfl, rfl, n, q, St, S, bf, 0, _, c, (hci.frm c3 (by omega) (by omega)).frm d3 (by omega) (by omega), d2, (r3.ext (e2 _ (by omega))).ext ((d3 _ (by omega)).trans (c3 _ (by omega))), ⟨?_, k_sI_s, fun i hi => absurd hi (Nat.not_lt_zero _), p4, p5, p6⟩, by omega, r5.2⟩
  · simp only [F_law_10, r1.cv, F_X5_clearBuffer, r1.lng, q1, Option.bind_some, hm1.cv, F_X6_clearBuffer, c1, c2.i10, h10, d1]
    rw [if_pos trivial]
  · rw [k_sI_n (by omega)]
    exact (k_sI_n (V := V) (by omega)).trans p1
theorem k_law16 (hI : k_In x m o t h.1) : ∃ r, F_law_16 N L xs x m o (nI (3 * t)) h = some r ∧ k_In x m o (t + 1) r := by
  obtain ⟨rfl, rfl, n, q, St, S, bf, len, V, c, hR⟩ := hI
  obtain ⟨r1, r2, r3, r4, r5⟩ := id hR
  obtain ⟨f2, c1, c2, c3⟩ := r2.pi (i := 11) (by omega) 0
  have h2 : (k_sI V 11 0).2 2 = nI n := (k_sI_n (by omega)).trans r4.1
  refine ⟨f2, ?_, k_qry hR (fun a ha => c3 a (by omega)) (r1.gat.ext (fun a y1 y2 => c3 a (by omega))) c2 (k_sI_mx (by simp)) (r3.ext (c3 _ (by omega)))⟩
  simp only [F_law_16, r1.cv, F_X5_savedStates, r1.cnt, Option.bind_some, r2.cv, F_X6_savedStates, c1, c2.i2, h2]
  rw [if_pos trivial]
end KTX
