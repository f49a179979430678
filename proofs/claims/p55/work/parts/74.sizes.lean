/-! Calls that may change: sizes; and the laws of all these calls. -/
def k_sil (S : KS) (p : Int32) : KS := (S.1, S.2.1, S.2.2.1, p, S.2.2.2.2)
def k_snl (S : KS) (p : Int32) : KS := (S.1, S.2.1, S.2.2.1, S.2.2.2.1, p, S.2.2.2.2.2)
section KSZ
variable {wz : Nat}
variable {N : Nat} {f : XM} {x n len : Nat} {q : Nat → Option Nat} {St : Nat → KS} {S : KS} {bf : Nat → Int32} {c m hs : Nat}
theorem k_st.putil {b : Nat} (h : k_st f b S) (p : Int32) : ∃ f', x_puti f 3 b 4 p = some f' ∧ k_st f' b (k_sil S p) ∧ k_fr f f' b (b + 1) := by
  obtain ⟨h1, h2, h3, h4, g, w, Q, h5, h6, h7, h8⟩ := h
  have e : k_fr f (x_up f b (.inr (3, ([.ref (b + 1), .ref (b + 4), .int (nI S.1), .ref (b + 5), .int S.2.2.2.1, .int S.2.2.2.2.1, .int S.2.2.2.2.2.1, .int S.2.2.2.2.2.2] : List Value).set 4 (.int p)))) b (b + 1) := k_fr.up (Nat.le_refl _) (Nat.lt_succ_self _)
  exact ⟨_, k_puti h1 (by simp), ⟨x_up_s, h2, h3.ext (fun q a c => e q (by omega)), h4.ext (fun q a c => e q (by omega)), g, w, Q, (e _ (by omega)).trans h5, fun i hi => ⟨(h6 i hi).1, (h6 i hi).2.1, (h6 i hi).2.2.ext (fun q a c => e q (by omega))⟩, h7, h8⟩, e⟩
theorem k_st.putnl {b : Nat} (h : k_st f b S) (p : Int32) : ∃ f', x_puti f 3 b 5 p = some f' ∧ k_st f' b (k_snl S p) ∧ k_fr f f' b (b + 1) := by
  obtain ⟨h1, h2, h3, h4, g, w, Q, h5, h6, h7, h8⟩ := h
  have e : k_fr f (x_up f b (.inr (3, ([.ref (b + 1), .ref (b + 4), .int (nI S.1), .ref (b + 5), .int S.2.2.2.1, .int S.2.2.2.2.1, .int S.2.2.2.2.2.1, .int S.2.2.2.2.2.2] : List Value).set 5 (.int p)))) b (b + 1) := k_fr.up (Nat.le_refl _) (Nat.lt_succ_self _)
  exact ⟨_, k_puti h1 (by simp), ⟨x_up_s, h2, h3.ext (fun q a c => e q (by omega)), h4.ext (fun q a c => e q (by omega)), g, w, Q, (e _ (by omega)).trans h5, fun i hi => ⟨(h6 i hi).1, (h6 i hi).2.1, (h6 i hi).2.2.ext (fun q a c => e q (by omega))⟩, h7, h8⟩, e⟩
theorem k_cx_sv {f1 f2 : XM} {S' : KS} {v : Int32} (hN : 5000 ≤ N) (h : k_ci f1 x wz n q (fun i => if i = 0 then S else St i) S bf len) (hc : ∀ a, x + 70 ≤ a → a < wz → f1 a = f a) (hd : ∀ (a : Nat) (e : XE), f1 a = some e → a < hs) (hx : x + 70 ≤ hs ∧ wz ≤ hs) (hf : k_fr2 f1 f2 (x + 1) (x + 63)) (hs2 : k_st f2 (x + 1) S') (hg : k_gat f2 (x + 63)) : k_cx f x wz n q St S bf len none v S' ((x_cv f2 5 x (F_X5_saveSpare N (f2, hs) x)).bind fun z12 => some (.inl (v, (z12.1, z12.2)))) := by
  have h2 := h.setnow hf hs2 hg
  obtain ⟨f', hs', n', q', St', r1, r2, r3, r4, r5, r6⟩ := k_saveSpare (N := N) hN h2 (hs := hs) (fun a e he => by
    by_cases z : (x + 1 ≤ a ∧ a < x + 1 + 29) ∨ (x + 63 ≤ a ∧ a < x + 63 + 7)
    · omega
    · rw [hf a (by omega) (by omega)] at he
      exact hd a e he) hx
  refine ⟨f', hs', n', q', St', ?_, fun a h1 h3 => (r6 a h1 h3).trans ((hf a (by omega) (by omega)).trans (hc a h1 h3)), r2, r3, r4, fun i hi => ⟨(r5 i hi).1, by rw [(r5 i hi).2]; exact if_neg (by omega)⟩⟩
  rw [h2.cv, r1]
  rfl
def k_ex0 (b : Bool) : Option Nat := if b then none else some 0
theorem k_ex0_or (b : Bool) : k_ex0 b = none ∨ k_ex0 b = some 0 := by cases b <;> simp [k_ex0]
theorem k_xleaf (hN : 50000 ≤ N) (h : k_ci f x wz n q St S bf len) (hd : ∀ (a : Nat) (e : XE), f a = some e → a < hs) (hx : x + 70 ≤ hs ∧ wz ≤ hs) (p : Int32) : k_cx f x wz n q St S bf len (k_ex0 (decide (2 ≤ p.toInt ∧ p.toInt ≤ 8))) S.2.2.2.1 (k_sil S p) (F_X5_changeLeaf N (f, hs) x p) := by
  have e2 : (2 : Int32).toInt = 2 := rfl
  have e8 : (8 : Int32).toInt = 8 := rfl
  unfold F_X5_changeLeaf
  by_cases g : p < 2
  · rw [if_pos g, decide_eq_false (by rw [k_i_lt, e2] at g; omega)]
    exact k_cx_bad h
  · rw [if_neg g]
    by_cases g2 : p ≤ 8
    · rw [if_pos g2, decide_eq_true (by rw [k_i_lt, e2] at g; rw [k_i_le, e8] at g2; omega)]
      obtain ⟨sp, f1, a1, a2, a3, a4, a5, a6⟩ := k_ccopy (N := N) (by omega) h hd
      obtain ⟨f2, b1, b2, b3⟩ := a4.st.putil p
      simp only [a1, h.now, Option.bind_some, a2, a3, a4.now, a4.st.il, b1]
      exact k_cx_sv (by omega) a4 a5 a6 hx (k_fr2.ofb b3 (Nat.le_refl _) (by omega)) b2 (a4.gat.ext (fun a c d => b3 a (by omega)))
    · rw [if_neg g2, decide_eq_false (by rw [k_i_le, e8] at g2; omega)]
      exact k_cx_bad h
theorem k_xfan (hN : 50000 ≤ N) (h : k_ci f x wz n q St S bf len) (hd : ∀ (a : Nat) (e : XE), f a = some e → a < hs) (hx : x + 70 ≤ hs ∧ wz ≤ hs) (p : Int32) : k_cx f x wz n q St S bf len (k_ex0 (decide (2 ≤ p.toInt ∧ p.toInt ≤ 6))) S.2.2.2.2.1 (k_snl S p) (F_X5_changeFan N (f, hs) x p) := by
  have e2 : (2 : Int32).toInt = 2 := rfl
  have e8 : (6 : Int32).toInt = 6 := rfl
  unfold F_X5_changeFan
  by_cases g : p < 2
  · rw [if_pos g, decide_eq_false (by rw [k_i_lt, e2] at g; omega)]
    exact k_cx_bad h
  · rw [if_neg g]
    by_cases g2 : p ≤ 6
    · rw [if_pos g2, decide_eq_true (by rw [k_i_lt, e2] at g; rw [k_i_le, e8] at g2; omega)]
      obtain ⟨sp, f1, a1, a2, a3, a4, a5, a6⟩ := k_ccopy (N := N) (by omega) h hd
      obtain ⟨f2, b1, b2, b3⟩ := a4.st.putnl p
      simp only [a1, h.now, Option.bind_some, a2, a3, a4.now, a4.st.nl, b1]
      exact k_cx_sv (by omega) a4 a5 a6 hx (k_fr2.ofb b3 (Nat.le_refl _) (by omega)) b2 (a4.gat.ext (fun a c d => b3 a (by omega)))
    · rw [if_neg g2, decide_eq_false (by rw [k_i_le, e8] at g2; omega)]
      exact k_cx_bad h
theorem k_sm_of {p : Int32} {lo hi : Nat} (h1 : (lo : Int) ≤ p.toInt) (h2 : p.toInt ≤ (hi : Int)) : k_sm p lo hi := by
  obtain ⟨j, j1, j2, j3⟩ := k_nn (x := p) (by omega)
  exact ⟨j, j2, by omega, by omega⟩
end KSZ
section KLW
variable {wz : Nat}
variable {N L : Nat} {xs : Nat → Int32} {x m o t : Nat} {h : XH}
theorem k_sld {j : Nat} (h : 3 * t + 3 ≤ L) (hL : L ≤ 1536) (hj : j < 3) : x_sld L xs (nI (3 * t) + nI j) = some (xs (3 * t + j)) := by
  unfold x_sld
  rw [nI_add, if_neg (nI_in (by omega) (by omega)), nI_clamp (by omega)]
end KLW

