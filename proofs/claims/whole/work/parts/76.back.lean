/-! States taken back, kept, gone back to. -/
section KBK
variable {N L : Nat} {xs : Nat → Int32} {x m o t : Nat} {h : XH} {f : XM} {n len : Nat} {q : Nat → Option Nat} {St : Nat → KS} {S : KS} {bf : Nat → Int32} {V : KM} {c : Nat}
theorem k_ix66 (k : Nat) : (6696 * nI k : Int32) = nI (6696 * k) := by rw [k_lit 6696, pk_mul]
theorem k_law15 (hN : 50000 ≤ N) (hI : k_In x m o t h.1) : ∃ r, F_law_15 N L xs x m o (nI (3 * t)) h = some r ∧ k_In x m o (t + 1) r := by
  obtain ⟨rfl, rfl, n, q, St, S, bf, len, V, c, hR⟩ := hI
  obtain ⟨r1, r2, r3, r4, r5⟩ := id hR
  obtain ⟨p1, p2, p3, p4, p5, p6⟩ := id r4
  obtain ⟨h1, h2, ⟨sp, a1, a2⟩, ⟨g1, a3, a4⟩, ⟨g2, a5, a6⟩, a7, ⟨ra, rb, rc, rd, a8⟩, b1, b2, a9, a10⟩ := id r1
  rcases Nat.eq_zero_or_pos n with z | z
  · subst z
    obtain ⟨f4, c1, c2, c3⟩ := r2.pi (i := 11) (by omega) 1
    have h11 : (k_sI V 11 1).2 11 = 1 := k_sI_s
    refine ⟨f4, k_lawU (M := fun z => F_X6_undo N z (x + 70)) (e := 1) (f1 := h.1) (f2 := f4) ?_ r2 ?_ c2 h11, k_qry hR (fun a ha => c3 a (by omega)) (r1.gat.ext (fun a y1 y2 => c3 a (by omega))) c2 (k_sI_mx (by simp)) (r3.ext (c3 _ (by omega)))⟩
    · unfold F_L_undo F_X5_undo F_X5_latestSaved
      simp only [r1.cv, r1.cnt, Option.bind_some]
      rw [if_pos (by decide)]
      rfl
    · unfold F_X6_undo
      simp only [r2.i2, p1, Option.bind_some]
      rw [if_pos (show nI 0 = 0 from rfl)]
      simp only [c1, c2.i11, h11, Option.bind_some]
      rw [if_neg (by decide)]
  · obtain ⟨k, rfl⟩ : ∃ k, n = k + 1 := ⟨n - 1, by omega⟩
    obtain ⟨p, hp⟩ := a10 k (by omega)
    have hb := a9.1 (k + 1) p (by omega) hp
    obtain ⟨f1, s1, s2, s3⟩ := k_scopy (N := N) (by omega) b2 hb.2 (by omega)
    have hci1 : k_ci f1 x (k + 1) q St (St (k + 1)) bf len := r1.setnow (k_fr2.ofb s3 (Nat.le_refl _) (by omega)) s2 (b1.ext (fun a y1 y2 => s3 a (by omega)))
    have o1 : f1 x = _ := (s3 x (by omega)).trans a2
    have w1 := k_putn_ob (n' := k) o1
    have hci2 : k_ci (x_up f1 x (.inr (5, k_ob x sp k len))) x k q St (St (k + 1)) bf len := by
      refine hci1.objs (n' := k) (sp' := sp) (len' := len) (g' := g1) (by omega) h2 (fun a y1 y2 _ => x_up_n y1) x_up_s a1 ((x_up_n (by omega)).trans ((s3 _ (by omega)).trans a3)) a4 (fun i hi => rfl) (hci1.blk.ext (fun i p a e1 e2 e3 e4 => x_up_n (by have := (hci1.blk.1 i p e1 e2).1; omega))) (fun i hi => a10 i (by omega))
    have e2 : ∀ a, x + 70 ≤ a → a < x + 81 → x_up f1 x (.inr (5, k_ob x sp k len)) a = h.1 a := fun a y1 y2 => (x_up_n (by omega)).trans (s3 a (by omega))
    have lead : F_L_undo N (h.1, h.2) x = some (0, x_up f1 x (.inr (5, k_ob x sp k len))) := by
      unfold F_L_undo F_X5_undo F_X5_latestSaved
      simp only [r1.cv, r1.cnt, Option.bind_some, nI_pred]
      rw [if_neg (nI_pos (by omega))]
      simp only [r1.svd, k_alenr a3, Option.bind_some]
      rw [if_pos (nI_lt (by omega) (by omega))]
      simp only [k_aldr a3 (i := k) (by omega) (by omega), a4 k (by omega), hp, Option.bind_some, Option.elim_some, r1.now, b2.cv, s1, hci1.cnt, nI_pred, w1, x_se]
    generalize x_up f1 x (.inr (5, k_ob x sp k len)) = f2 at *
    have hm2 : k_mo f2 (x + 70) V := r2.ext (fun a y1 y2 => e2 a y1 (by omega))
    obtain ⟨f3, c1, c2, c3⟩ := hm2.pi (i := 11) (by omega) 0
    have h11 : (k_sI V 11 0).2 11 = 0 := k_sI_s
    have h22 : (k_sI V 11 0).2 2 = nI (k + 1) := (k_sI_n (by omega)).trans p1
    obtain ⟨f4, d1, d2, d3⟩ := c2.pi (i := 2) (by omega) (nI k)
    have h2' : (k_sI (k_sI V 11 0) 2 (nI k)).2 2 = nI k := k_sI_s
    obtain ⟨f5, l1, l2, l3⟩ := k_lays (N := N) (a1 := 2) (a2 := 1) (o1 := 6696 * k) (o2 := 0) (by omega) d2 (by omega) (by omega) (by omega) (by omega) (by omega) (by show _ ≤ 40176; omega) (by show _ ≤ 6696; omega)
    refine ⟨f5, k_lawU (M := fun z => F_X6_undo N z (x + 70)) (e := 0) (f1 := f2) (f2 := f5) lead hm2 ?_ l2 ?_, rfl, rfl, k, q, St, St (k + 1), bf, len, _, c, ((hci2.frm c3 (by omega) (by omega)).frm d3 (by omega) (by omega)).frm l3 (by omega) (by omega), l2, (r3.ext (e2 _ (by omega) (by omega))).ext ((l3 _ (by omega)).trans ((d3 _ (by omega)).trans (c3 _ (by omega)))), ⟨h2', ?_, p3, ?_, fun i hi => p5 i (by omega), p6⟩, by omega, r5.2.2.1 k (by omega), fun i hi => r5.2.2.1 i (by omega), r5.2.2.2⟩
    · unfold F_X6_undo
      simp only [hm2.i2, p1, Option.bind_some]
      rw [if_neg (nI_ne0 (by omega) (by omega))]
      simp only [c1, c2.i11, h11, Option.bind_some]
      rw [if_pos trivial]
      simp only [c2.i2, h22, nI_pred, d1, d2.r1, d2.i2, h2', d2.r0, Option.bind_some, k_ix66]
      have l1' : F_X6_lays N f4 (x + 70 + 2) (nI (6696 * k)) (x + 70 + 1) 0 = some f5 := l1
      rw [l1', Option.bind_some]
    · show (k_sI (k_sI V 11 0) 2 (nI k)).2 11 = 0
      rw [k_sI_n (by omega)]; exact h11
    · show (k_sI (k_sI V 11 0) 2 (nI k)).2 10 = nI len
      rw [k_sI_n (by omega), k_sI_n (by omega)]; exact p2
    · refine (p5 k (by omega)).cong (fun a ha => ?_)
      show (if 0 ≤ a ∧ a < 0 + 6696 then V.1 2 (6696 * k + (a - 0)) else V.1 1 a) = V.1 2 (6696 * k + a)
      rw [if_pos (by omega)]
      rfl
theorem k_reqSlot {p : Int32} : F_X5_requireSlot N f p = some (if 0 ≤ p.toInt ∧ p.toInt ≤ 1 then .inl () else .inr 0) := by
  have e0 : (0 : Int32).toInt = 0 := rfl
  have e1 : (2 : Int32).toInt = 2 := rfl
  unfold F_X5_requireSlot
  by_cases g : p < 0
  · rw [if_pos g, if_neg (by rw [k_i_lt, e0] at g; omega)]
  · rw [if_neg g]
    by_cases g2 : p < 2
    · rw [if_pos g2, if_pos (by rw [k_i_lt, e0] at g; rw [k_i_lt, e1] at g2; omega)]
    · rw [if_neg g2, if_neg (by rw [k_i_lt, e1] at g2; omega)]
theorem k_slotAt (h : k_ci f x n q St S bf len) {j : Nat} (hj : j < 2) : F_X5_slotAt N f x (nI j) = some (q (j + 7)) := by
  obtain ⟨g2, a5, a6⟩ := h.2.2.2.2.1
  unfold F_X5_slotAt
  rw [if_neg (nI_pos (by omega))]
  simp only [h.slt, k_alenr a5, Option.bind_some]
  rw [if_pos (nI_lt hj (by omega))]
  simp only [k_aldr a5 hj (by omega), a6 j hj, Option.bind_some]
theorem k_law14 (hN : 50000 ≤ N) (hL : L ≤ 1536) (h3 : 3 * t + 3 ≤ L) (hI : k_In x m o t h.1) (hd : ∀ (a : Nat) (e : XE), h.1 a = some e → a < h.2) : ∃ r, F_law_14 N L xs x m o (nI (3 * t)) h = some r ∧ k_In x m o (t + 1) r := by
  obtain ⟨rfl, rfl, n, q, St, S, bf, len, V, c, hR⟩ := hI
  obtain ⟨r1, r2, r3, r4, r5⟩ := id hR
  obtain ⟨p1, p2, p3, p4, p5, p6⟩ := id r4
  have hx : x + 81 ≤ h.2 := by
    obtain ⟨g, hg⟩ := r3
    have := hd _ _ hg
    omega
  have s1 : x_sld L xs (nI (3 * t) + 1) = some (xs (3 * t + 1)) := k_sld (j := 1) h3 hL (by omega)
  have e0 : (0 : Int32).toInt = 0 := rfl
  have e1 : (1 : Int32).toInt = 1 := rfl
  unfold F_law_14
  simp only [s1, Option.bind_some]
  generalize xs (3 * t + 1) = k
  by_cases g : 0 ≤ k.toInt ∧ k.toInt ≤ 1
  · obtain ⟨j, j1, rfl, j3⟩ := k_nn (x := k) (by omega)
    have hj : j < 2 := by omega
    rcases p6 j hj with ⟨z1, z2⟩ | ⟨⟨p, z1⟩, z2, z3⟩
    · obtain ⟨f4, c1, c2, c3⟩ := r2.pi (i := 11) (by omega) 2
      have h11 : (k_sI V 11 2).2 11 = 2 := k_sI_s
      refine ⟨f4, k_lawU (M := fun z => F_X6_goBack N z (x + 70) (nI j)) (e := 2) (f1 := h.1) (f2 := f4) ?_ r2 ?_ c2 h11, k_qry hR (fun a ha => c3 a (by omega)) (r1.gat.ext (fun a y1 y2 => c3 a (by omega))) c2 (k_sI_mx (by simp)) (r3.ext (c3 _ (by omega)))⟩
      · unfold F_L_goBack F_X5_goBack
        rw [r1.cv, k_reqSlot, Option.bind_some, if_pos g]
        simp only [x_se, r1.cv, k_slotAt r1 hj, z1, Option.bind_some, Option.elim_none]
        rfl
      · unfold F_X6_goBack
        rw [k_in, Option.bind_some, if_neg (k_xb1 (by rw [e0, e1]; exact g))]
        simp only [r2.r4, r2.ld (a := 4) (i := j) (by omega) (by omega) (by show _ < 2; omega), z2, Option.bind_some]
        rw [if_pos trivial]
        simp only [c1, c2.i11, h11, Option.bind_some]
        rw [if_neg (by decide)]
    · have hb := r1.blk.1 (j + 7) p (by omega) z1
      obtain ⟨sp, f1, a1, a2, a3, a4, a5, a6⟩ := k_ccopy (N := N) (by omega) r1 hd
      have hb1 := a4.blk.1 (j + 7) p (by omega) z1
      have hb1' : k_st f1 p (St (j + 7)) := by
        have : k_st f1 p (if j + 7 = 0 then S else St (j + 7)) := hb1.2
        rw [if_neg (by omega)] at this
        exact this
      obtain ⟨f2, s1, s2, s3⟩ := k_scopy (N := N) (by omega) a4.st hb1' (by omega)
      have hci2 := a4.setnow (k_fr2.ofb s3 (Nat.le_refl _) (by omega)) s2 (a4.gat.ext (fun a y1 y2 => s3 a (by omega)))
      obtain ⟨f3, hs', n', q', St', v1, v2, v3, v4, v5, v6⟩ := k_saveSpare (N := N) (by omega) hci2 (hs := h.2) (fun a e he => by
        by_cases z : x + 1 ≤ a ∧ a < x + 1 + 29
        · omega
        · rw [s3 a (by omega)] at he
          exact a6 a e he) hx
      have lead : F_L_goBack N (h.1, h.2) x (nI j) = some (0, f3) := by
        unfold F_L_goBack F_X5_goBack
        rw [r1.cv, k_reqSlot, Option.bind_some, if_pos g]
        simp only [x_se, r1.cv, k_slotAt r1 hj, z1, Option.bind_some, Option.elim_some, a1, r1.now, a2, a3, a4.now, a4.st.cv, s1, hci2.cv, v1]
      have e3 : ∀ a, x + 70 ≤ a → a < x + 81 → f3 a = h.1 a := fun a y1 y2 => (v6 a y1 y2).trans ((s3 a (by omega)).trans (a5 a y1 y2))
      have hm3 : k_mo f3 (x + 70) V := r2.ext (fun a y1 y2 => e3 a y1 (by omega))
      obtain ⟨f4, c1, c2, c3⟩ := hm3.pi (i := 11) (by omega) 0
      have h11 : (k_sI V 11 0).2 11 = 0 := k_sI_s
      have h22 : (k_sI V 11 0).2 2 = nI n := (k_sI_n (by omega)).trans p1
      obtain ⟨f5, V5, d1, d2, d3, d4, d5, d6⟩ := k_msaves (N := N) (a1 := 1) hN c2 (Or.inl rfl) r1.1 h22
      obtain ⟨f6, l1, l2, l3⟩ := k_lays (N := N) (a1 := 3) (a2 := 1) (o1 := 6696 * j) (o2 := 0) (by omega) d2 (by omega) (by omega) (by omega) (by omega) (by omega) (by show _ ≤ 13392; omega) (by show _ ≤ 6696; omega)
      have hV3 : V5.1 3 = V.1 3 := d3.1 3 (by simp)
      refine ⟨f6, k_lawU (M := fun z => F_X6_goBack N z (x + 70) (nI j)) (e := 0) (f1 := f3) (f2 := f6) lead hm3 ?_ l2 ?_, rfl, rfl, n', q', St', St (j + 7), bf, len, _, c, ((v2.frm c3 (by omega) (by omega)).frm d4 (by omega) (by omega)).frm l3 (by omega) (by omega), l2, (r3.ext (e3 _ (by omega) (by omega))).ext ((l3 _ (by omega)).trans ((d4 _ (by omega)).trans (c3 _ (by omega)))), r4.saved (n' := n') (q' := q') (St' := St') (V' := k_stA V5 1 _) (S' := St (j + 7)) r1.1 (Nat.le_refl _) p4.2.1 hV3 (d3.1 4 (by simp)) (d3.1 8 (by simp)) ?_ ?_ ?_ v3 (fun i jj y1 y2 => ?_) v4 (fun i hi => ⟨(v5 i hi).1, by rw [(v5 i hi).2]; exact if_neg (by omega)⟩), by omega, r5.2.saved r1.1 v3 v4 (fun i hi => ⟨(v5 i hi).1, by rw [(v5 i hi).2]; exact if_neg (by omega)⟩) (r5.2.2.2 j hj ⟨p, z1⟩)⟩
      · unfold F_X6_goBack
        rw [k_in, Option.bind_some, if_neg (k_xb1 (by rw [e0, e1]; exact g))]
        simp only [hm3.r4, hm3.ld (a := 4) (i := j) (by omega) (by omega) (by show _ < 2; omega), z2, Option.bind_some]
        rw [if_neg (by decide)]
        simp only [c1, c2.i11, h11, Option.bind_some]
        rw [if_pos trivial]
        have l1' : F_X6_lays N f5 (x + 70 + 3) (nI (6696 * j)) (x + 70 + 1) 0 = some f6 := l1
        simp only [c2.r0, c2.cv, d1, d2.r3, d2.r0, Option.bind_some, k_ix66, l1']
      · show V5.2 11 = 0
        exact (d3.2 11 (by simp)).trans h11
      · refine (d3.2 10 (by simp)).trans ?_
        rw [k_sI_n (by omega)]
      · refine z3.cong (fun a ha => ?_)
        show (if 0 ≤ a ∧ a < 0 + 6696 then V5.1 3 (6696 * j + (a - 0)) else V5.1 1 a) = V.1 3 (6696 * j + a)
        rw [if_pos (by omega), hV3]
        rfl
      · show V5.2 2 = nI n'
        rw [d5, v3]
      · show V5.1 2 (6696 * i + jj) = _
        exact d6 i jj (by rw [← v3]; exact y1) y2
  · obtain ⟨f4, c1, c2, c3⟩ := r2.pi (i := 11) (by omega) 1
    have h11 : (k_sI V 11 1).2 11 = 1 := k_sI_s
    refine ⟨f4, k_lawU (M := fun z => F_X6_goBack N z (x + 70) k) (e := 1) (f1 := h.1) (f2 := f4) ?_ r2 ?_ c2 h11, k_qry hR (fun a ha => c3 a (by omega)) (r1.gat.ext (fun a y1 y2 => c3 a (by omega))) c2 (k_sI_mx (by simp)) (r3.ext (c3 _ (by omega)))⟩
    · unfold F_L_goBack F_X5_goBack
      rw [r1.cv, k_reqSlot, Option.bind_some, if_neg g]
      rfl
    · unfold F_X6_goBack
      rw [k_in, Option.bind_some, if_pos (k_xb0 (by rw [e0, e1]; exact g))]
      simp only [c1, c2.i11, h11, Option.bind_some]
      rw [if_neg (by decide)]
theorem k_law13 (hN : 50000 ≤ N) (hL : L ≤ 1536) (h3 : 3 * t + 3 ≤ L) (hI : k_In x m o t h.1) (hd : ∀ (a : Nat) (e : XE), h.1 a = some e → a < h.2) : ∃ r, F_law_13 N L xs x m o (nI (3 * t)) h = some r ∧ k_In x m o (t + 1) r := by
  obtain ⟨rfl, rfl, n, q, St, S, bf, len, V, c, hR⟩ := hI
  obtain ⟨r1, r2, r3, r4, r5⟩ := id hR
  obtain ⟨p1, p2, p3, p4, p5, p6⟩ := id r4
  have hx : x + 81 ≤ h.2 := by
    obtain ⟨g, hg⟩ := r3
    have := hd _ _ hg
    omega
  have s1 : x_sld L xs (nI (3 * t) + 1) = some (xs (3 * t + 1)) := k_sld (j := 1) h3 hL (by omega)
  have e0 : (0 : Int32).toInt = 0 := rfl
  have e1 : (1 : Int32).toInt = 1 := rfl
  unfold F_law_13
  simp only [s1, Option.bind_some]
  generalize xs (3 * t + 1) = k
  by_cases g : 0 ≤ k.toInt ∧ k.toInt ≤ 1
  · obtain ⟨j, j1, rfl, j3⟩ := k_nn (x := k) (by omega)
    have hj : j < 2 := by omega
    have key : ∃ (f1 : XM) (q' : Nat → Option Nat) (p : Nat), F_L_keep N (h.1, h.2) x (nI j) = some (0, f1) ∧ q' (j + 7) = some p ∧ (∀ i, i ≠ j + 7 → q' i = q i) ∧ k_ci f1 x n q' (fun i => if i = j + 7 then S else St i) S bf len ∧ ∀ a, x + 70 ≤ a → a < x + 81 → f1 a = h.1 a := by
      cases z1 : q (j + 7) with
      | some p =>
        have hb := r1.blk.1 (j + 7) p (by omega) z1
        obtain ⟨f1, a1, a2, a3⟩ := k_scopy (N := N) (by omega) hb.2 r1.st (by omega)
        refine ⟨f1, q, p, ?_, z1, fun _ _ => rfl, r1.setblk (by omega) z1 a3 a2, fun a y1 y2 => a3 a (by omega)⟩
        unfold F_L_keep F_X5_keep
        rw [r1.cv, k_reqSlot, Option.bind_some, if_pos g]
        simp only [x_se, r1.cv, k_slotAt r1 hj, z1, Option.bind_some, Option.elim_some, r1.now, hb.2.cv, a1]
      | none =>
        obtain ⟨u1, u2, ⟨sp, a1, a2⟩, ⟨g1, a3, a4⟩, ⟨g2, a5, a6⟩, a7, ⟨ra, rb, rc, rd, a8⟩, b1, b2, a9, a10⟩ := id r1
        have hdm : ∀ i p, i < 9 → q i = some p → p + 29 ≤ h.2 := fun i p hi hp => k_st_dom (a9.1 i p hi hp).2 hd
        obtain ⟨f1, t1, t2, t3⟩ := k_sinit (N := N) (f := h.1) (b := h.2)
        have o5 : f1 (x + 60) = _ := (t3 _ (by omega)).trans a5
        have w1 := k_astr o5 t2.1 (by omega) (i := j) hj (by omega)
        have hst2 : k_st (x_up f1 (x + 60) (.inl (.object (x_cls 3), 2, .inr (.inr (.inr (.inr (va_up g2 j (some h.2)))))))) h.2 k_S0 := t2.ext (fun a y1 y2 => x_up_n (by omega))
        have hfx : ∀ a, a < h.2 → a ≠ x + 60 → x_up f1 (x + 60) (.inl (.object (x_cls 3), 2, .inr (.inr (.inr (.inr (va_up g2 j (some h.2))))))) a = h.1 a := fun a y1 y2 => (x_up_n y2).trans (t3 a (by omega))
        have hnow : k_st (x_up f1 (x + 60) (.inl (.object (x_cls 3), 2, .inr (.inr (.inr (.inr (va_up g2 j (some h.2)))))))) (x + 1) S := b2.ext (fun a y1 y2 => hfx a (by omega) (by omega))
        have h60 : x_up f1 (x + 60) (.inl (.object (x_cls 3), 2, .inr (.inr (.inr (.inr (va_up g2 j (some h.2))))))) (x + 60) = _ := x_up_s
        have hx0 : x_up f1 (x + 60) (.inl (.object (x_cls 3), 2, .inr (.inr (.inr (.inr (va_up g2 j (some h.2))))))) x = _ := (hfx x (by omega) (by omega)).trans a2
        have hf1x : f1 x = _ := (t3 x (by omega)).trans a2
        generalize x_up f1 (x + 60) (.inl (.object (x_cls 3), 2, .inr (.inr (.inr (.inr (va_up g2 j (some h.2))))))) = f2 at *
        obtain ⟨f3, v1, v2, v3⟩ := k_scopy (N := N) (by omega) hst2 hnow (by omega)
        have hf3 : ∀ a, a < h.2 → a ≠ x + 60 → f3 a = h.1 a := fun a y1 y2 => (v3 a (by omega)).trans (hfx a y1 y2)
        refine ⟨f3, fun i => if i = j + 7 then some h.2 else q i, h.2, ?_, if_pos rfl, fun i hi => if_neg hi, ⟨u1, u2, ⟨sp, (if_neg (by omega)).trans a1, (hf3 _ (by omega) (by omega)).trans a2⟩, ⟨g1, (hf3 _ (by omega) (by omega)).trans a3, fun i hi => (a4 i hi).trans (if_neg (by omega)).symm⟩, ⟨_, (v3 _ (by omega)).trans h60, fun i hi => ?_⟩, (hf3 _ (by omega) (by omega)).trans a7, ⟨ra, rb, rc, rd, (hf3 _ (by omega) (by omega)).trans a8⟩, b1.ext (fun a y1 y2 => hf3 a (by omega) (by omega)), b2.ext (fun a y1 y2 => hf3 a (by omega) (by omega)), ⟨fun i p hi hp => ?_, fun i i' p p' hii hi hi' hp hp' => ?_⟩, fun i hi => ?_⟩, fun a y1 y2 => hf3 a (by omega) (by omega)⟩
        · unfold F_L_keep F_X5_keep
          rw [r1.cv, k_reqSlot, Option.bind_some, if_pos g]
          simp only [x_se, r1.cv, k_slotAt r1 hj, z1, Option.bind_some, Option.elim_none, x_new, t1]
          have fs : F_X5_fillSlot N f1 x (nI j) h.2 = some f2 := by
            unfold F_X5_fillSlot
            rw [if_neg (nI_pos (by omega))]
            simp only [k_getr hf1x (k := 4) rfl, Option.bind_some, k_alenr o5]
            rw [if_neg (nI_ge hj (by omega))]
            simp only [w1, Option.bind_some]
          simp only [k_cv hf1x, fs, Option.bind_some, k_getr hx0 (k := 0) rfl, hst2.cv, v1]
        · show va_up g2 j (some h.2) i = if i + 7 = j + 7 then some h.2 else q (i + 7)
          by_cases z : i = j
          · rw [z, k_vup_s, if_pos rfl]
          · rw [k_vup_n z, if_neg (by omega)]; exact a6 i hi
        · by_cases z : i = j + 7
          · have hp' : (if i = j + 7 then some h.2 else q i) = some p := hp
            rw [if_pos z] at hp'
            cases hp'
            exact ⟨Or.inr hx, by show k_st f3 h.2 (if i = j + 7 then S else St i); rw [if_pos z]; exact v2⟩
          · have hp' : (if i = j + 7 then some h.2 else q i) = some p := hp
            rw [if_neg z] at hp'
            have := hdm i p hi hp'
            have hq := a9.1 i p hi hp'
            refine ⟨hq.1, ?_⟩
            show k_st f3 p (if i = j + 7 then S else St i)
            rw [if_neg z]
            exact hq.2.ext (fun a y1 y2 => hf3 a (by omega) (by omega))
        · have e1 : (if i = j + 7 then some h.2 else q i) = some p := hp
          have e2 : (if i' = j + 7 then some h.2 else q i') = some p' := hp'
          by_cases z : i = j + 7
          · rw [if_pos z] at e1
            cases e1
            rw [if_neg (by omega)] at e2
            exact Or.inr (hdm i' p' hi' e2)
          · rw [if_neg z] at e1
            by_cases z' : i' = j + 7
            · rw [if_pos z'] at e2
              cases e2
              exact Or.inl (hdm i p hi e1)
            · rw [if_neg z'] at e2
              exact a9.2 i i' p p' hii hi hi' e1 e2
        · obtain ⟨p, hp⟩ := a10 i hi
          exact ⟨p, (if_neg (by have := u1; omega)).trans hp⟩
    obtain ⟨f1, q', p, lead, k2, k3, k4, k5⟩ := key
    have hm1 : k_mo f1 (x + 70) V := r2.ext (fun a y1 y2 => k5 a y1 (by omega))
    obtain ⟨f2, c1, c2, c3⟩ := hm1.pi (i := 11) (by omega) 0
    have h11 : (k_sI V 11 0).2 11 = 0 := k_sI_s
    obtain ⟨f3, l1, l2, l3⟩ := k_lays (N := N) (a1 := 1) (a2 := 3) (o1 := 0) (o2 := 6696 * j) (by omega) c2 (by omega) (by omega) (by omega) (by omega) (by omega) (by show _ ≤ 6696; omega) (by show _ ≤ 13392; omega)
    obtain ⟨f4, d1, d2, d3⟩ := l2.st (a := 4) (i := j) (by omega) (by omega) (by show _ < 2; omega) 1
    refine ⟨f4, k_lawU (M := fun z => F_X6_keep N z (x + 70) (nI j)) (e := 0) (f1 := f1) (f2 := f4) lead hm1 ?_ d2 h11, rfl, rfl, n, q', _, S, bf, len, _, c, ((k4.frm c3 (by omega) (by omega)).frm l3 (by omega) (by omega)).frm d3 (by omega) (by omega), d2, (r3.ext (k5 _ (by omega) (by omega))).ext ((d3 _ (by omega)).trans ((l3 _ (by omega)).trans (c3 _ (by omega)))), ⟨?_, ?_, p3, p4, fun i hi => ?_, fun i hi => ?_⟩, by omega, r5.2.kept r1.1 k3⟩
    · unfold F_X6_keep
      rw [k_in, Option.bind_some, if_neg (k_xb1 (by rw [e0, e1]; exact g))]
      simp only [c1, c2.i11, h11, Option.bind_some]
      rw [if_pos trivial]
      have l1' : F_X6_lays N f2 (x + 70 + 1) 0 (x + 70 + 3) (nI (6696 * j)) = some f3 := l1
      simp only [c2.r0, c2.r3, Option.bind_some, k_ix66, l1', l2.r4, d1]
    · exact (k_sI_n (V := V) (i := 11) (j := 2) (v := 0) (by omega)).trans p1
    · exact (k_sI_n (V := V) (i := 11) (j := 10) (v := 0) (by omega)).trans p2
    · have hn6 := r1.1
      show k_ms _ (if i + 1 = j + 7 then S else St (i + 1)) c
      rw [if_neg (by omega)]
      exact p5 i hi
    · have g4 : ∀ i, (k_sA (k_stA (k_sI V 11 0) 3 fun jj => if 6696 * j ≤ jj ∧ jj < 6696 * j + 6696 then (k_sI V 11 0).1 1 (0 + (jj - 6696 * j)) else (k_sI V 11 0).1 3 jj) 4 j 1).1 4 i = if i = j then 1 else V.1 4 i := fun i => by
        rw [k_sA_s]
        by_cases z : i = j
        · rw [z, k_upd_s, if_pos rfl]
        · rw [k_upd_n z, if_neg z]
          rfl
      have g3 : ∀ jj, (k_sA (k_stA (k_sI V 11 0) 3 fun jj => if 6696 * j ≤ jj ∧ jj < 6696 * j + 6696 then (k_sI V 11 0).1 1 (0 + (jj - 6696 * j)) else (k_sI V 11 0).1 3 jj) 4 j 1).1 3 jj = if 6696 * j ≤ jj ∧ jj < 6696 * j + 6696 then V.1 1 (jj - 6696 * j) else V.1 3 jj := fun jj => by
        show (if 6696 * j ≤ jj ∧ jj < 6696 * j + 6696 then V.1 1 (0 + (jj - 6696 * j)) else V.1 3 jj) = _
        rw [Nat.zero_add]
      by_cases z : i = j
      · refine Or.inr ⟨⟨p, by rw [z]; exact k2⟩, by rw [g4, if_pos z], ?_⟩
        show k_ms _ (if i + 7 = j + 7 then S else St (i + 7)) c
        rw [if_pos (by omega)]
        refine p4.cong (fun a ha => ?_)
        show (k_sA _ 4 j 1).1 3 (6696 * i + a) = _
        rw [g3, z, if_pos (by omega)]
        exact congrArg (V.1 1) (by omega)
      · rw [k3 _ (by omega), g4, if_neg z]
        show _ ∨ _ ∧ _ ∧ k_ms _ (if i + 7 = j + 7 then S else St (i + 7)) c
        rw [if_neg (by omega)]
        rcases p6 i hi with y | ⟨y1, y2, y3⟩
        · exact Or.inl y
        · refine Or.inr ⟨y1, y2, y3.cong (fun a ha => ?_)⟩
          show (k_sA _ 4 j 1).1 3 (6696 * i + a) = _
          rw [g3, if_neg (by omega)]
  · obtain ⟨f4, c1, c2, c3⟩ := r2.pi (i := 11) (by omega) 1
    have h11 : (k_sI V 11 1).2 11 = 1 := k_sI_s
    refine ⟨f4, k_lawU (M := fun z => F_X6_keep N z (x + 70) k) (e := 1) (f1 := h.1) (f2 := f4) ?_ r2 ?_ c2 h11, k_qry hR (fun a ha => c3 a (by omega)) (r1.gat.ext (fun a y1 y2 => c3 a (by omega))) c2 (k_sI_mx (by simp)) (r3.ext (c3 _ (by omega)))⟩
    · unfold F_L_keep F_X5_keep
      rw [r1.cv, k_reqSlot, Option.bind_some, if_neg g]
      rfl
    · unfold F_X6_keep
      rw [k_in, Option.bind_some, if_pos (k_xb0 (by rw [e0, e1]; exact g))]
      simp only [c1, c2.i11, h11, Option.bind_some]
      rw [if_neg (by decide)]
end KBK
