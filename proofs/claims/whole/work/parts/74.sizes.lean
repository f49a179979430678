/-! Calls that may change: sizes; and the laws of all these calls. -/
def k_sil (S : KS) (p : Int32) : KS := (S.1, S.2.1, S.2.2.1, p, S.2.2.2.2)
def k_snl (S : KS) (p : Int32) : KS := (S.1, S.2.1, S.2.2.1, S.2.2.2.1, p, S.2.2.2.2.2)
section KSZ
variable {N : Nat} {f : XM} {x n len : Nat} {q : Nat → Option Nat} {St : Nat → KS} {S : KS} {bf : Nat → Int32} {V : KM} {c m hs : Nat}
theorem k_st.putil {b : Nat} (h : k_st f b S) (p : Int32) : ∃ f', x_puti f 3 b 4 p = some f' ∧ k_st f' b (k_sil S p) ∧ k_fr f f' b (b + 1) := by
  obtain ⟨h1, h2, h3, h4, g, w, Q, h5, h6, h7, h8⟩ := h
  have e : k_fr f (x_up f b (.inr (3, ([.ref (b + 1), .ref (b + 4), .int (nI S.1), .ref (b + 5), .int S.2.2.2.1, .int S.2.2.2.2.1, .int S.2.2.2.2.2.1, .int S.2.2.2.2.2.2] : List Value).set 4 (.int p)))) b (b + 1) := k_fr.up (Nat.le_refl _) (Nat.lt_succ_self _)
  exact ⟨_, k_puti h1 (by simp), ⟨x_up_s, h2, h3.ext (fun q a c => e q (by omega)), h4.ext (fun q a c => e q (by omega)), g, w, Q, (e _ (by omega)).trans h5, fun i hi => ⟨(h6 i hi).1, (h6 i hi).2.1, (h6 i hi).2.2.ext (fun q a c => e q (by omega))⟩, h7, h8⟩, e⟩
theorem k_st.putnl {b : Nat} (h : k_st f b S) (p : Int32) : ∃ f', x_puti f 3 b 5 p = some f' ∧ k_st f' b (k_snl S p) ∧ k_fr f f' b (b + 1) := by
  obtain ⟨h1, h2, h3, h4, g, w, Q, h5, h6, h7, h8⟩ := h
  have e : k_fr f (x_up f b (.inr (3, ([.ref (b + 1), .ref (b + 4), .int (nI S.1), .ref (b + 5), .int S.2.2.2.1, .int S.2.2.2.2.1, .int S.2.2.2.2.2.1, .int S.2.2.2.2.2.2] : List Value).set 5 (.int p)))) b (b + 1) := k_fr.up (Nat.le_refl _) (Nat.lt_succ_self _)
  exact ⟨_, k_puti h1 (by simp), ⟨x_up_s, h2, h3.ext (fun q a c => e q (by omega)), h4.ext (fun q a c => e q (by omega)), g, w, Q, (e _ (by omega)).trans h5, fun i hi => ⟨(h6 i hi).1, (h6 i hi).2.1, (h6 i hi).2.2.ext (fun q a c => e q (by omega))⟩, h7, h8⟩, e⟩
theorem k_cx_sv {f1 f2 : XM} {S' : KS} {v : Int32} (hN : 5000 ≤ N) (h : k_ci f1 x n q (fun i => if i = 0 then S else St i) S bf len) (hc : ∀ a, x + 70 ≤ a → a < x + 81 → f1 a = f a) (hd : ∀ (a : Nat) (e : XE), f1 a = some e → a < hs) (hx : x + 81 ≤ hs) (hf : k_fr2 f1 f2 (x + 1) (x + 63)) (hs2 : k_st f2 (x + 1) S') (hg : k_gat f2 (x + 63)) : k_cx f x n q St S bf len none v S' ((x_cv f2 5 x (F_X5_saveSpare N (f2, hs) x)).bind fun z12 => some (.inl (v, (z12.1, z12.2)))) := by
  have h2 := h.setnow hf hs2 hg
  obtain ⟨f', hs', n', q', St', r1, r2, r3, r4, r5, r6⟩ := k_saveSpare (N := N) hN h2 (hs := hs) (fun a e he => by
    by_cases z : (x + 1 ≤ a ∧ a < x + 1 + 29) ∨ (x + 63 ≤ a ∧ a < x + 63 + 7)
    · omega
    · rw [hf a (by omega) (by omega)] at he
      exact hd a e he) hx
  refine ⟨f', hs', n', q', St', ?_, fun a h1 h3 => (r6 a h1 h3).trans ((hf a (by omega) (by omega)).trans (hc a h1 h3)), r2, r3, r4, fun i hi => ⟨(r5 i hi).1, by rw [(r5 i hi).2]; exact if_neg (by omega)⟩⟩
  rw [h2.cv, r1]
  rfl
def k_ex0 (b : Bool) : Option Nat := if b then none else some 0
theorem k_ex0_or (b : Bool) : k_ex0 b = none ∨ k_ex0 b = some 0 := by cases b <;> simp [k_ex0]
theorem k_xleaf (hN : 50000 ≤ N) (h : k_ci f x n q St S bf len) (hd : ∀ (a : Nat) (e : XE), f a = some e → a < hs) (hx : x + 81 ≤ hs) (p : Int32) : k_cx f x n q St S bf len (k_ex0 (decide (2 ≤ p.toInt ∧ p.toInt ≤ 8))) S.2.2.2.1 (k_sil S p) (F_X5_changeLeaf N (f, hs) x p) := by
  have e2 : (2 : Int32).toInt = 2 := rfl
  have e8 : (8 : Int32).toInt = 8 := rfl
  unfold F_X5_changeLeaf
  by_cases g : p < 2
  · rw [if_pos g, decide_eq_false (by rw [k_i_lt, e2] at g; omega)]
    exact k_cx_bad h
  · rw [if_neg g]
    by_cases g2 : p ≤ 8
    · rw [if_pos g2, decide_eq_true (by rw [k_i_lt, e2] at g; rw [k_i_le, e8] at g2; omega)]
      obtain ⟨sp, f1, a1, a2, a3, a4, a5, a6⟩ := k_ccopy (N := N) (by omega) h hd
      obtain ⟨f2, b1, b2, b3⟩ := a4.st.putil p
      simp only [a1, h.now, Option.bind_some, a2, a3, a4.now, a4.st.il, b1]
      exact k_cx_sv (by omega) a4 a5 a6 hx (k_fr2.ofb b3 (Nat.le_refl _) (by omega)) b2 (a4.gat.ext (fun a c d => b3 a (by omega)))
    · rw [if_neg g2, decide_eq_false (by rw [k_i_le, e8] at g2; omega)]
      exact k_cx_bad h
theorem k_xfan (hN : 50000 ≤ N) (h : k_ci f x n q St S bf len) (hd : ∀ (a : Nat) (e : XE), f a = some e → a < hs) (hx : x + 81 ≤ hs) (p : Int32) : k_cx f x n q St S bf len (k_ex0 (decide (2 ≤ p.toInt ∧ p.toInt ≤ 6))) S.2.2.2.2.1 (k_snl S p) (F_X5_changeFan N (f, hs) x p) := by
  have e2 : (2 : Int32).toInt = 2 := rfl
  have e8 : (6 : Int32).toInt = 6 := rfl
  unfold F_X5_changeFan
  by_cases g : p < 2
  · rw [if_pos g, decide_eq_false (by rw [k_i_lt, e2] at g; omega)]
    exact k_cx_bad h
  · rw [if_neg g]
    by_cases g2 : p ≤ 6
    · rw [if_pos g2, decide_eq_true (by rw [k_i_lt, e2] at g; rw [k_i_le, e8] at g2; omega)]
      obtain ⟨sp, f1, a1, a2, a3, a4, a5, a6⟩ := k_ccopy (N := N) (by omega) h hd
      obtain ⟨f2, b1, b2, b3⟩ := a4.st.putnl p
      simp only [a1, h.now, Option.bind_some, a2, a3, a4.now, a4.st.nl, b1]
      exact k_cx_sv (by omega) a4 a5 a6 hx (k_fr2.ofb b3 (Nat.le_refl _) (by omega)) b2 (a4.gat.ext (fun a c d => b3 a (by omega)))
    · rw [if_neg g2, decide_eq_false (by rw [k_i_le, e8] at g2; omega)]
      exact k_cx_bad h
/-- cell w of the numbers becomes p -/
theorem k_mbec {S' : KS} {w : Nat} {p hi : Int32} (hN : 50000 ≤ N) (h : k_mo f m V) (hn : n ≤ 6) (h2 : V.2 2 = nI n) (hw : w < 2) (hS : 2 ≤ p.toInt ∧ p.toInt ≤ hi.toInt → ∀ G, (∀ a, G a = if a = w then p else V.1 1 a) → k_ms G S' c) : k_mr m f V n c (k_e1 (k_ex0 (decide (2 ≤ p.toInt ∧ p.toInt ≤ hi.toInt)))) (V.1 1 w) S' (F_X6_becomes N f m (nI w) p hi) := by
  have e2 : (2 : Int32).toInt = 2 := rfl
  unfold F_X6_becomes
  rw [k_in, Option.bind_some, e2]
  by_cases g : 2 ≤ p.toInt ∧ p.toInt ≤ hi.toInt
  · rw [if_neg (k_xb1 g), decide_eq_true g]
    obtain ⟨f1, a1, a2, a3⟩ := h.pi (i := 11) (by omega) 0
    have h11 : (k_sI V 11 0).2 11 = 0 := k_sI_s
    have h22 : (k_sI V 11 0).2 2 = nI n := by rw [k_sI_n (by omega)]; exact h2
    obtain ⟨f2, V2, b1, b2, b3, b4, b5, b6⟩ := k_msaves (N := N) (a1 := 1) hN a2 (Or.inl rfl) hn h22
    have e1 : V2.1 1 = V.1 1 := b3.1 1 (by simp)
    obtain ⟨f3, c1, c2, c3⟩ := b2.st (a := 1) (i := w) (by omega) (by omega) (by show _ < 6696; omega) p
    have l0 : x_ald f2 (m + 1) (nI w) = some (V.1 1 w) := by rw [← e1]; exact k_ld1 b2 (i := w) (by omega)
    refine ⟨V.1 1 w, f3, _, ?_, c2, (a3.tr b4).tr c3, (b3.2 11 (by simp)).trans h11, ?_, ?_, ?_, ?_, ?_⟩
    · simp only [a1, a2.i11, h11, Option.bind_some]
      rw [if_pos (by decide)]
      simp only [a2.r0, Option.bind_some, a2.cv, b1, b2.r0, l0, c1]
    · exact b3.1 3 (by simp)
    · exact b3.1 4 (by simp)
    · exact b3.1 8 (by simp)
    · refine (b3.2 10 (by simp)).trans ?_
      rw [k_sI_n (by omega)]
    · rw [if_pos (show k_e1 (k_ex0 true) = 0 from rfl)]
      refine ⟨rfl, hS g _ (fun a => ?_), b5, fun i j hi hj => b6 i j hi hj⟩
      rw [k_sA_s, e1]
      by_cases z : a = w
      · rw [z, k_upd_s, if_pos rfl]
      · rw [k_upd_n z, if_neg z]
  · rw [if_pos (k_xb0 g), decide_eq_false g]
    obtain ⟨f1, a1, a2, a3⟩ := h.pi (i := 11) (by omega) 1
    have h11 : (k_sI V 11 1).2 11 = 1 := k_sI_s
    refine ⟨0, f1, _, ?_, a2, a3, h11, rfl, rfl, rfl, k_sI_n (by omega), ?_⟩
    · simp only [a1, a2.i11, h11, Option.bind_some]
      rw [if_neg (by decide)]
    · rw [if_neg (show ¬ k_e1 (k_ex0 false) = 0 by decide)]
      exact ⟨rfl, rfl, k_sI_n (by omega)⟩
theorem k_sm_of {p : Int32} {lo hi : Nat} (h1 : (lo : Int) ≤ p.toInt) (h2 : p.toInt ≤ (hi : Int)) : k_sm p lo hi := by
  obtain ⟨j, j1, j2, j3⟩ := k_nn (x := p) (by omega)
  exact ⟨j, j2, by omega, by omega⟩
theorem k_mleafc (hN : 50000 ≤ N) (h : k_mo f m V) (hs : k_ms (V.1 1) S c) (hn : n ≤ 6) (h2 : V.2 2 = nI n) (p : Int32) : k_mr m f V n c (k_e1 (k_ex0 (decide (2 ≤ p.toInt ∧ p.toInt ≤ 8)))) S.2.2.2.1 (k_sil S p) (F_X6_changeLeaf N f m p) := by
  have v0 : V.1 1 0 = S.2.2.2.1 := hs.2.2.1.1
  have e8 : (8 : Int32).toInt = 8 := rfl
  have := k_mbec (N := N) (f := f) (m := m) (V := V) (n := n) (c := c) (S' := k_sil S p) (w := 0) (p := p) (hi := 8) hN h hn h2 (by omega) (fun g G hG => by
    have h6 := hs.1.1
    have hsz := fun r (hr : r ≤ S.1) => hs.sz hr
    have h512 := hs.wt.2.2.2.1
    have hn160 := hs.wt.2.2.1
    rw [e8] at g
    obtain ⟨h1, h2, ⟨a0, a1, a4, a5, a6, a7, a8⟩, h4, h5, h6', h7, h8, h9⟩ := hs
    obtain ⟨w1, w2, w3, w4, w5, w6, w7⟩ := h1
    have hg : ∀ a, a ≠ 0 → G a = V.1 1 a := fun a ha => by rw [hG, if_neg ha]
    exact ⟨⟨w1, w2, w3, w4, w5, k_sm_of g.1 g.2, w7⟩, h2, ⟨by rw [hG, if_pos rfl]; rfl, (hg 1 (by omega)).trans a1, (hg 4 (by omega)).trans a4, (hg 5 (by omega)).trans a5, (hg 6 (by omega)).trans a6, (hg 7 (by omega)).trans a7, (hg 8 (by omega)).trans a8⟩, fun r hr => ⟨(hg _ (by omega)).trans (h4 r hr).1, fun i hi => ⟨(hg _ (by omega)).trans ((h4 r hr).2 i hi).1, (hg _ (by omega)).trans ((h4 r hr).2 i hi).2⟩⟩, fun l hl => (hg _ (by omega)).trans (h5 l hl), h6', fun z => by rw [hg 2 (by omega), hg 3 (by omega)]; exact h7 z, h8.cong hn160 (fun a ha _ => hg a (by omega)), h9⟩)
  rw [e8, v0] at this
  obtain ⟨r, f', V', y1, y2⟩ := this
  refine ⟨r, f', V', ?_, y2⟩
  have y1' : F_X6_becomes N f m 0 p 8 = some (r, f') := y1
  unfold F_X6_changeLeaf
  rw [h.cv, y1']
  rfl
theorem k_mfanc (hN : 50000 ≤ N) (h : k_mo f m V) (hs : k_ms (V.1 1) S c) (hn : n ≤ 6) (h2 : V.2 2 = nI n) (p : Int32) : k_mr m f V n c (k_e1 (k_ex0 (decide (2 ≤ p.toInt ∧ p.toInt ≤ 6)))) S.2.2.2.2.1 (k_snl S p) (F_X6_changeFan N f m p) := by
  have v0 : V.1 1 1 = S.2.2.2.2.1 := hs.2.2.1.2.1
  have e8 : (6 : Int32).toInt = 6 := rfl
  have := k_mbec (N := N) (f := f) (m := m) (V := V) (n := n) (c := c) (S' := k_snl S p) (w := 1) (p := p) (hi := 6) hN h hn h2 (by omega) (fun g G hG => by
    have h6 := hs.1.1
    have hsz := fun r (hr : r ≤ S.1) => hs.sz hr
    have h512 := hs.wt.2.2.2.1
    have hn160 := hs.wt.2.2.1
    rw [e8] at g
    obtain ⟨h1, h2, ⟨a0, a1, a4, a5, a6, a7, a8⟩, h4, h5, h6', h7, h8, h9⟩ := hs
    obtain ⟨w1, w2, w3, w4, w5, w6, w7⟩ := h1
    have hg : ∀ a, a ≠ 1 → G a = V.1 1 a := fun a ha => by rw [hG, if_neg ha]
    exact ⟨⟨w1, w2, w3, w4, w5, w6, k_sm_of g.1 g.2⟩, h2, ⟨(hg 0 (by omega)).trans a0, by rw [hG, if_pos rfl]; rfl, (hg 4 (by omega)).trans a4, (hg 5 (by omega)).trans a5, (hg 6 (by omega)).trans a6, (hg 7 (by omega)).trans a7, (hg 8 (by omega)).trans a8⟩, fun r hr => ⟨(hg _ (by omega)).trans (h4 r hr).1, fun i hi => ⟨(hg _ (by omega)).trans ((h4 r hr).2 i hi).1, (hg _ (by omega)).trans ((h4 r hr).2 i hi).2⟩⟩, fun l hl => (hg _ (by omega)).trans (h5 l hl), h6', fun z => by rw [hg 2 (by omega), hg 3 (by omega)]; exact h7 z, h8.cong hn160 (fun a ha _ => hg a (by omega)), h9⟩)
  rw [e8, v0] at this
  obtain ⟨r, f', V', y1, y2⟩ := this
  refine ⟨r, f', V', ?_, y2⟩
  have y1' : F_X6_becomes N f m 1 p 6 = some (r, f') := y1
  unfold F_X6_changeFan
  rw [h.cv, y1']
  rfl
end KSZ
section KLW
variable {N L : Nat} {xs : Nat → Int32} {x m o t : Nat} {h : XH}
theorem k_sld {j : Nat} (h : 3 * t + 3 ≤ L) (hL : L ≤ 1536) (hj : j < 3) : x_sld L xs (nI (3 * t) + nI j) = some (xs (3 * t + j)) := by
  unfold x_sld
  rw [nI_add, if_neg (nI_in (by omega) (by omega)), nI_clamp (by omega)]
theorem k_e2_0 {a b : Bool} (h : k_e2 (k_ex3 a b) = 0) : a = true ∧ b = true := by
  cases a <;> cases b <;> revert h <;> decide
theorem k_e1_0 {b : Bool} (h : k_e1 (k_ex2 b) = 0) : b = true := by
  cases b <;> revert h <;> decide
theorem k_law0 (hN : 50000 ≤ N) (hL : L ≤ 1536) (ht : t < 512) (h3 : 3 * t + 3 ≤ L) (hI : k_In x m o t h.1) (hd : ∀ (a : Nat) (e : XE), h.1 a = some e → a < h.2) : ∃ r, F_law_0 N L xs x m o (nI (3 * t)) h = some r ∧ k_In x m o (t + 1) r := by
  obtain ⟨rfl, rfl, n, q, St, S, bf, len, V, c, hR⟩ := hI
  obtain ⟨r1, r2, r3, r4, r5⟩ := id hR
  obtain ⟨p1, p2, p3, p4, p5, p6⟩ := id r4
  have hx : x + 81 ≤ h.2 := by
    obtain ⟨g, hg⟩ := r3
    have := hd _ _ hg
    omega
  have s1 : x_sld L xs (nI (3 * t) + 1) = some (xs (3 * t + 1)) := k_sld (j := 1) h3 hL (by omega)
  have s2 : x_sld L xs (nI (3 * t) + 2) = some (xs (3 * t + 2)) := k_sld (j := 2) h3 hL (by omega)
  unfold F_law_0
  simp only [s1, s2, Option.bind_some]
  exact k_lawA (c' := c + 1) hR (by omega) (by omega) (by omega) (by
    have := k_co2 r3 (k_xput (N := N) (hs := h.2) hN r1 hd hx p4.1 (xs (3 * t + 1)) (xs (3 * t + 2))) (k_ex3_or _ _)
    show k_co _ _ _ _ _ _ _ _ _ _ _ (k_wr2 (x + 80) (x_cv h.1 5 x (F_X5_put N (h.1, h.2) x (xs (3 * t + 1)) (xs (3 * t + 2)))))
    rw [r1.cv]
    exact this) (fun f1 h1 => k_mput hN h1 p4 r1.1 p1 (by omega) _ _) (fun e0 hv => k_vv_s0 hv (by have := k_e2_0 e0; have := of_decide_eq_true this.1; omega))
theorem k_law1 (hN : 50000 ≤ N) (hL : L ≤ 1536) (ht : t < 512) (h3 : 3 * t + 3 ≤ L) (hI : k_In x m o t h.1) (hd : ∀ (a : Nat) (e : XE), h.1 a = some e → a < h.2) : ∃ r, F_law_1 N L xs x m o (nI (3 * t)) h = some r ∧ k_In x m o (t + 1) r := by
  obtain ⟨rfl, rfl, n, q, St, S, bf, len, V, c, hR⟩ := hI
  obtain ⟨r1, r2, r3, r4, r5⟩ := id hR
  obtain ⟨p1, p2, p3, p4, p5, p6⟩ := id r4
  have hx : x + 81 ≤ h.2 := by
    obtain ⟨g, hg⟩ := r3
    have := hd _ _ hg
    omega
  have s1 : x_sld L xs (nI (3 * t) + 1) = some (xs (3 * t + 1)) := k_sld (j := 1) h3 hL (by omega)
  unfold F_law_1
  simp only [s1, Option.bind_some]
  exact k_lawA (c' := c + 1) hR (by omega) (by omega) (by omega) (by
    have := k_co2 r3 (k_xdrop (N := N) (hs := h.2) hN r1 hd hx p4.1 (xs (3 * t + 1))) (k_ex3_or _ _)
    show k_co _ _ _ _ _ _ _ _ _ _ _ (k_wr2 (x + 80) (x_cv h.1 5 x (F_X5_drop N (h.1, h.2) x (xs (3 * t + 1)))))
    rw [r1.cv]
    exact this) (fun f1 h1 => k_mdrop hN h1 p4 r1.1 p1 (by omega) _) (fun e0 hv => k_vv_s0 hv (by decide))
theorem k_law2 (hN : 50000 ≤ N) (hL : L ≤ 1536) (ht : t < 512) (h3 : 3 * t + 3 ≤ L) (hI : k_In x m o t h.1) (hd : ∀ (a : Nat) (e : XE), h.1 a = some e → a < h.2) : ∃ r, F_law_2 N L xs x m o (nI (3 * t)) h = some r ∧ k_In x m o (t + 1) r := by
  obtain ⟨rfl, rfl, n, q, St, S, bf, len, V, c, hR⟩ := hI
  obtain ⟨r1, r2, r3, r4, r5⟩ := id hR
  obtain ⟨p1, p2, p3, p4, p5, p6⟩ := id r4
  have hx : x + 81 ≤ h.2 := by
    obtain ⟨g, hg⟩ := r3
    have := hd _ _ hg
    omega
  unfold F_law_2
  exact k_lawA (c' := c) hR (by omega) (by omega) (by omega) (by
    have := k_co1 r3 (k_xclose (N := N) (hs := h.2) hN r1 hd hx p4.1) (k_ex2_or _)
    show k_co _ _ _ _ _ _ _ _ _ _ _ (k_wr1 1 (x + 80) (x_cv h.1 5 x (F_X5_closeRun N (h.1, h.2) x)))
    rw [r1.cv]
    exact this) (fun f1 h1 => k_mclose hN h1 p4 r1.1 p1) (fun e0 hv => k_vv_cl hv)
theorem k_law3 (hN : 50000 ≤ N) (hL : L ≤ 1536) (ht : t < 512) (h3 : 3 * t + 3 ≤ L) (hI : k_In x m o t h.1) (hd : ∀ (a : Nat) (e : XE), h.1 a = some e → a < h.2) : ∃ r, F_law_3 N L xs x m o (nI (3 * t)) h = some r ∧ k_In x m o (t + 1) r := by
  obtain ⟨rfl, rfl, n, q, St, S, bf, len, V, c, hR⟩ := hI
  obtain ⟨r1, r2, r3, r4, r5⟩ := id hR
  obtain ⟨p1, p2, p3, p4, p5, p6⟩ := id r4
  have hx : x + 81 ≤ h.2 := by
    obtain ⟨g, hg⟩ := r3
    have := hd _ _ hg
    omega
  unfold F_law_3
  obtain ⟨M, b, b1, b2, b3⟩ := k_xmerge (N := N) (hs := h.2) hN r1 hd hx p4.1
  exact k_lawA (c' := c) hR (by omega) (by omega) (by omega) (by
    have := k_co1 r3 b3 (k_ex2_or _)
    show k_co _ _ _ _ _ _ _ _ _ _ _ (k_wr1 1 (x + 80) (x_cv h.1 5 x (F_X5_mergeRuns N (h.1, h.2) x)))
    rw [r1.cv]
    exact this) (fun f1 h1 => k_mmerge hN h1 p4 r1.1 p1 b1 b2) (fun e0 hv => k_vv_mg hv (b1 (k_e1_0 e0)).1 (b1 (k_e1_0 e0)).2.1)
theorem k_law4 (hN : 50000 ≤ N) (hL : L ≤ 1536) (ht : t < 512) (h3 : 3 * t + 3 ≤ L) (hI : k_In x m o t h.1) (hd : ∀ (a : Nat) (e : XE), h.1 a = some e → a < h.2) : ∃ r, F_law_4 N L xs x m o (nI (3 * t)) h = some r ∧ k_In x m o (t + 1) r := by
  obtain ⟨rfl, rfl, n, q, St, S, bf, len, V, c, hR⟩ := hI
  obtain ⟨r1, r2, r3, r4, r5⟩ := id hR
  obtain ⟨p1, p2, p3, p4, p5, p6⟩ := id r4
  have hx : x + 81 ≤ h.2 := by
    obtain ⟨g, hg⟩ := r3
    have := hd _ _ hg
    omega
  have s1 : x_sld L xs (nI (3 * t) + 1) = some (xs (3 * t + 1)) := k_sld (j := 1) h3 hL (by omega)
  have hA := r1.okA (N := N) (by omega) p4.1
  unfold F_law_4
  simp only [s1, Option.bind_some]
  exact k_lawA (c' := c + 1) hR (by omega) (by omega) (by omega) (by
    have := k_co2 r3 (k_xbuild (N := N) (hs := h.2) hN r1 hd hx p4.1 (xs (3 * t + 1))) (k_ex3_or _ _)
    show k_co _ _ _ _ _ _ _ _ _ _ _ (k_wr2 (x + 80) (x_cv h.1 5 x (F_X5_build N (h.1, h.2) x (xs (3 * t + 1)))))
    rw [r1.cv]
    exact this) (fun f1 h1 => k_mbuild hN hA h1 p4 r1.1 p1 (by omega) _) (fun e0 hv => k_vv_bl hv hA.1)
theorem k_law5 (hN : 50000 ≤ N) (hL : L ≤ 1536) (ht : t < 512) (h3 : 3 * t + 3 ≤ L) (hI : k_In x m o t h.1) (hd : ∀ (a : Nat) (e : XE), h.1 a = some e → a < h.2) : ∃ r, F_law_5 N L xs x m o (nI (3 * t)) h = some r ∧ k_In x m o (t + 1) r := by
  obtain ⟨rfl, rfl, n, q, St, S, bf, len, V, c, hR⟩ := hI
  obtain ⟨r1, r2, r3, r4, r5⟩ := id hR
  obtain ⟨p1, p2, p3, p4, p5, p6⟩ := id r4
  have hx : x + 81 ≤ h.2 := by
    obtain ⟨g, hg⟩ := r3
    have := hd _ _ hg
    omega
  have s1 : x_sld L xs (nI (3 * t) + 1) = some (xs (3 * t + 1)) := k_sld (j := 1) h3 hL (by omega)
  have s2 : x_sld L xs (nI (3 * t) + 2) = some (xs (3 * t + 2)) := k_sld (j := 2) h3 hL (by omega)
  unfold F_law_5
  simp only [s1, s2, Option.bind_some]
  exact k_lawA (c' := c + 1) hR (by omega) (by omega) (by omega) (by
    have := k_co2 r3 (k_xinsert (N := N) (hs := h.2) hN r1 hd hx p4.1 (by have := p4.2.2.2.2.2.2.2.2.1; omega) (xs (3 * t + 1)) (xs (3 * t + 2))) (k_ex3_or _ _)
    show k_co _ _ _ _ _ _ _ _ _ _ _ (k_wr2 (x + 80) (x_cv h.1 5 x (F_X5_insert N (h.1, h.2) x (xs (3 * t + 1)) (xs (3 * t + 2)))))
    rw [r1.cv]
    exact this) (fun f1 h1 => k_minsert hN h1 p4 r1.1 p1 (by omega) (by have := p4.2.2.2.2.2.2.2.2.1; omega) _ _) (fun e0 hv => k_vv_tw hv (by have := k_e2_0 e0; have := of_decide_eq_true this.1; omega))
theorem k_law6 (hN : 50000 ≤ N) (hL : L ≤ 1536) (ht : t < 512) (h3 : 3 * t + 3 ≤ L) (hI : k_In x m o t h.1) (hd : ∀ (a : Nat) (e : XE), h.1 a = some e → a < h.2) : ∃ r, F_law_6 N L xs x m o (nI (3 * t)) h = some r ∧ k_In x m o (t + 1) r := by
  obtain ⟨rfl, rfl, n, q, St, S, bf, len, V, c, hR⟩ := hI
  obtain ⟨r1, r2, r3, r4, r5⟩ := id hR
  obtain ⟨p1, p2, p3, p4, p5, p6⟩ := id r4
  have hx : x + 81 ≤ h.2 := by
    obtain ⟨g, hg⟩ := r3
    have := hd _ _ hg
    omega
  have s1 : x_sld L xs (nI (3 * t) + 1) = some (xs (3 * t + 1)) := k_sld (j := 1) h3 hL (by omega)
  unfold F_law_6
  simp only [s1, Option.bind_some]
  exact k_lawA (c' := c) hR (by omega) (by omega) (by omega) (by
    have := k_co2 r3 (k_xerase (N := N) (hs := h.2) hN r1 hd hx p4.1 (xs (3 * t + 1))) (k_ex3_or _ _)
    show k_co _ _ _ _ _ _ _ _ _ _ _ (k_wr2 (x + 80) (x_cv h.1 5 x (F_X5_erase N (h.1, h.2) x (xs (3 * t + 1)))))
    rw [r1.cv]
    exact this) (fun f1 h1 => k_merase hN h1 p4 r1.1 p1 _) (fun e0 hv => k_vv_del hv)
theorem k_law7 (hN : 50000 ≤ N) (hL : L ≤ 1536) (ht : t < 512) (h3 : 3 * t + 3 ≤ L) (hI : k_In x m o t h.1) (hd : ∀ (a : Nat) (e : XE), h.1 a = some e → a < h.2) : ∃ r, F_law_7 N L xs x m o (nI (3 * t)) h = some r ∧ k_In x m o (t + 1) r := by
  obtain ⟨rfl, rfl, n, q, St, S, bf, len, V, c, hR⟩ := hI
  obtain ⟨r1, r2, r3, r4, r5⟩ := id hR
  obtain ⟨p1, p2, p3, p4, p5, p6⟩ := id r4
  have hx : x + 81 ≤ h.2 := by
    obtain ⟨g, hg⟩ := r3
    have := hd _ _ hg
    omega
  have s1 : x_sld L xs (nI (3 * t) + 1) = some (xs (3 * t + 1)) := k_sld (j := 1) h3 hL (by omega)
  unfold F_law_7
  simp only [s1, Option.bind_some]
  exact k_lawA (c' := c) hR (by omega) (by omega) (by omega) (by
    have := k_co1 r3 (k_xleaf (N := N) (hs := h.2) hN r1 hd hx (xs (3 * t + 1))) (k_ex0_or _)
    show k_co _ _ _ _ _ _ _ _ _ _ _ (k_wr1 0 (x + 80) (x_cv h.1 5 x (F_X5_changeLeaf N (h.1, h.2) x (xs (3 * t + 1)))))
    rw [r1.cv]
    exact this) (fun f1 h1 => k_mleafc hN h1 p4 r1.1 p1 _) (fun e0 hv => hv)
theorem k_law8 (hN : 50000 ≤ N) (hL : L ≤ 1536) (ht : t < 512) (h3 : 3 * t + 3 ≤ L) (hI : k_In x m o t h.1) (hd : ∀ (a : Nat) (e : XE), h.1 a = some e → a < h.2) : ∃ r, F_law_8 N L xs x m o (nI (3 * t)) h = some r ∧ k_In x m o (t + 1) r := by
  obtain ⟨rfl, rfl, n, q, St, S, bf, len, V, c, hR⟩ := hI
  obtain ⟨r1, r2, r3, r4, r5⟩ := id hR
  obtain ⟨p1, p2, p3, p4, p5, p6⟩ := id r4
  have hx : x + 81 ≤ h.2 := by
    obtain ⟨g, hg⟩ := r3
    have := hd _ _ hg
    omega
  have s1 : x_sld L xs (nI (3 * t) + 1) = some (xs (3 * t + 1)) := k_sld (j := 1) h3 hL (by omega)
  unfold F_law_8
  simp only [s1, Option.bind_some]
  exact k_lawA (c' := c) hR (by omega) (by omega) (by omega) (by
    have := k_co1 r3 (k_xfan (N := N) (hs := h.2) hN r1 hd hx (xs (3 * t + 1))) (k_ex0_or _)
    show k_co _ _ _ _ _ _ _ _ _ _ _ (k_wr1 0 (x + 80) (x_cv h.1 5 x (F_X5_changeFan N (h.1, h.2) x (xs (3 * t + 1)))))
    rw [r1.cv]
    exact this) (fun f1 h1 => k_mfanc hN h1 p4 r1.1 p1 _) (fun e0 hv => hv)
end KLW
