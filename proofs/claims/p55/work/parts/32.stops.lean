/-! States: what changes them. -/
def k_wr (R : KR) (k v : Int32) : KR := if k_pl R.1 R.2.1 k < R.1 then (R.1, R.2.1, upd R.2.2 (k_pl R.1 R.2.1 k) v) else (R.1 + 1, k_ins (k_rk R.1 R.2.1 k) k R.2.1, k_ins (k_rk R.1 R.2.1 k) v R.2.2)
def k_s0 (S : KS) (R : KR) : KS := (S.1, (fun r => if r = 0 then R else S.2.1 r), S.2.2)
def k_scl (S : KS) : KS := (S.1 + 1, (fun r => if r = 0 then (0, (S.2.1 0).2) else S.2.1 (r - 1)), S.2.2)
def k_smg (S : KS) (M : KR) : KS := (S.1 - 1, (fun r => if r = S.1 - 1 then M else S.2.1 r), S.2.2)
def k_stt (S : KS) (T : KT) : KS := (S.1, S.2.1, T, S.2.2.2)
theorem k_cA (f : XM) (b : Nat) (v : Nat) (hv : v < 6) (C : Prop) (h : C) : C := h
section KSO
variable {wz : Nat}
variable {N : Nat} {f : XM} {b : Nat} {S : KS}
theorem k_st.set0 {f' : XM} {R : KR} (h : k_st f b S) (hf : k_fr f f' (b + 1) (b + 4)) (hr : k_row f' (b + 1) 12 R) : k_st f' b (k_s0 S R) := by
  obtain ⟨h1, h2, h3, h4, g, w, Q, h5, h6, h7, h8⟩ := h
  refine ⟨(hf _ (by omega)).trans h1, h2, ?_, h4.fr hf (by omega), g, w, Q, (hf _ (by omega)).trans h5, fun i hi => ?_, h7, fun i hi => ?_⟩
  · show k_row f' (b + 1) 12 (if (0 : Nat) = 0 then R else S.2.1 0)
    rw [if_pos rfl]; exact hr
  · obtain ⟨k1, k2, k3⟩ := h6 i hi
    exact ⟨k1, k2, k3.fr hf (by omega)⟩
  · have hi' : i < S.1 := hi
    show Q i = if S.1 - i = 0 then R else S.2.1 (S.1 - i)
    rw [if_neg (by omega)]; exact h8 i hi
theorem k_st.sett {f' : XM} {T : KT} (h : k_st f b S) (hf : k_fr f f' (b + 5) (b + 11)) (ht : k_tree f' (b + 5) T) : k_st f' b (k_stt S T) := by
  obtain ⟨h1, h2, h3, h4, g, w, Q, h5, h6, h7, h8⟩ := h
  refine ⟨(hf _ (by omega)).trans h1, h2, h3.fr hf (by omega), ht, g, w, Q, (hf _ (by omega)).trans h5, fun i hi => ?_, h7, h8⟩
  obtain ⟨k1, k2, k3⟩ := h6 i hi
  exact ⟨k1, k2, k3.fr hf (by omega)⟩
/-- the object's own numbers -/
theorem k_st.setn {f' : XM} {il nl bc wc : Int32} (h : k_st f b S) (hf : k_fr f f' b (b + 1)) (e : f' b = some (.inr (3, [.ref (b + 1), .ref (b + 4), .int (nI S.1), .ref (b + 5), .int il, .int nl, .int bc, .int wc]))) : k_st f' b (S.1, S.2.1, S.2.2.1, il, nl, bc, wc) := by
  obtain ⟨h1, h2, h3, h4, g, w, Q, h5, h6, h7, h8⟩ := h
  refine ⟨e, h2, h3.fr hf (by omega), h4.fr hf (by omega), g, w, Q, (hf _ (by omega)).trans h5, fun i hi => ?_, h7, h8⟩
  obtain ⟨k1, k2, k3⟩ := h6 i hi
  exact ⟨k1, k2, k3.fr hf (by omega)⟩
/-- no closed runs -/
theorem k_st.setc {f' : XM} {R : Nat → KR} (h : k_st f b S) (hf : k_fr f f' b (b + 1)) (hR : R 0 = S.2.1 0) (e : f' b = some (.inr (3, [.ref (b + 1), .ref (b + 4), .int (nI 0), .ref (b + 5), .int S.2.2.2.1, .int S.2.2.2.2.1, .int S.2.2.2.2.2.1, .int S.2.2.2.2.2.2]))) : k_st f' b (0, R, S.2.2) := by
  obtain ⟨h1, h2, h3, h4, g, w, Q, h5, h6, h7, h8⟩ := h
  refine ⟨e, Nat.zero_le _, by show k_row f' (b + 1) 12 (R 0); rw [hR]; exact h3.fr hf (by omega), h4.fr hf (by omega), g, w, Q, (hf _ (by omega)).trans h5, fun i hi => ?_, h7, fun i hi => absurd hi (Nat.not_lt_zero _)⟩
  obtain ⟨k1, k2, k3⟩ := h6 i hi
  exact ⟨k1, k2, k3.fr hf (by omega)⟩
theorem k_st.congr {S' : KS} (h : k_st f b S) (e1 : S.1 = S'.1) (e2 : ∀ r, r ≤ S.1 → S.2.1 r = S'.2.1 r) (e3 : S.2.2 = S'.2.2) : k_st f b S' := by
  obtain ⟨h1, h2, h3, h4, g, w, Q, h5, h6, h7, h8⟩ := h
  refine ⟨by rw [← e1, ← e3]; exact h1, by omega, by rw [← e2 0 (by omega)]; exact h3, by rw [← e3]; exact h4, g, w, Q, h5, h6, h7, fun i hi => ?_⟩
  rw [h8 i (by omega), e2 _ (by omega), e1]
theorem k_tell (hN : 5000 ≤ N) (h : k_st f b S) (hs : k_srt (S.2.1 0).1 (S.2.1 0).2.1) (k v : Int32) :
    if k_pl (S.2.1 0).1 (S.2.1 0).2.1 k < (S.2.1 0).1 ∨ (S.2.1 0).1 < 12 then ∃ f', F_X3_tell N f b k v = some (nI (k_wr (S.2.1 0) k v).1, f') ∧ k_st f' b (k_s0 S (k_wr (S.2.1 0) k v)) ∧ k_fr f f' b (b + 29)
    else F_X3_tell N f b k v = some (-1, f) := by
  have hr := h.row
  have hle := hr.le
  unfold k_wr
  simp only [F_X3_tell, h.op, hr.cv, k_placeOf (show 1000 ≤ N by omega) hr hs, Option.bind_some]
  by_cases g1 : k_pl (S.2.1 0).1 (S.2.1 0).2.1 k < (S.2.1 0).1
  · obtain ⟨f', q1, q2, q3⟩ := k_setValue (N := N) hr g1 v
    rw [if_pos (Or.inl g1)]
    refine ⟨f', ?_, ?_, q3.wd (by omega) (by omega)⟩
    · rw [if_pos g1, if_neg (k_nim1 _ (by omega)), if_pos g1, q1]
      have o1 := k_getr (k := 0) ((q3 b (by omega)).trans h.1) rfl
      simp only [Option.bind_some, o1, q2.n]
    · rw [if_pos g1]; exact h.set0 q3 q2
  · simp only [if_neg g1, if_true, k_isFull hr, Option.bind_some]
    by_cases g2 : (S.2.1 0).1 < 12
    · obtain ⟨f', q1, q2, q3⟩ := k_addAt (N := N) hN hr (k_rk_le (S.2.1 0).1 (S.2.1 0).2.1 k) g2 k v
      rw [if_pos (Or.inr g2)]
      refine ⟨f', ?_, h.set0 q3 q2, q3.wd (by omega) (by omega)⟩
      rw [decide_eq_false (by omega)]
      have o1 := k_getr (k := 0) ((q3 b (by omega)).trans h.1) rfl
      simp only [k_xb_f, if_true, k_firstFrom (show 1000 ≤ N by omega) hr hs, Option.bind_some, q1, o1, q2.n]
    · rw [if_neg (by omega), decide_eq_true (by omega)]
      simp only [k_xb_t, if_false]
theorem k_closedOn (h : k_st f b S) {i : Nat} (hi : i < 2 ^ 31) : if i < 6 then ∃ p R, F_X3_closedOn N f b (nI i) = some (some p) ∧ k_row f p 60 R ∧ b + 11 ≤ p ∧ p + 3 ≤ b + 29 ∧ (i < S.1 → R = S.2.1 (S.1 - i)) else F_X3_closedOn N f b (nI i) = some none := by
  have a1 := h.cl
  have a2 := h.cln
  obtain ⟨h1, h2, h3, h4, g, w, Q, h5, h6, h7, h8⟩ := h
  simp only [F_X3_closedOn, a1, a2, Option.bind_some]
  rw [if_neg (nI_pos hi)]
  by_cases g1 : i < 6
  · obtain ⟨k1, k2, k3⟩ := h6 i g1
    rw [if_pos g1]
    refine ⟨_, Q i, ?_, k3, by omega, by omega, h8 i⟩
    rw [if_pos (nI_lt g1 (by omega)), k_aldr h5 g1 (by omega), k1]
    rfl
  · rw [if_neg g1, if_neg (nI_nlt (by omega) hi)]
theorem k_closeOpen (hN : 5000 ≤ N) (h : k_st f b S) : if (S.2.1 0).1 = 0 ∨ S.1 = 6 then F_X3_closeOpen N f b = some (-1, f) else ∃ f', F_X3_closeOpen N f b = some (nI (S.1 + 1), f') ∧ k_st f' b (k_scl S) ∧ k_fr f f' b (b + 29) := by
  have h6' := h.2.1
  have hr := h.row
  have hle := hr.le
  have hc := k_closedOn (N := N) h (i := S.1) (by omega)
  simp only [F_X3_closeOpen, h.cc, h.cv, h.op, hr.n, Option.bind_some]
  by_cases g0 : (S.2.1 0).1 = 0
  · rw [if_pos (Or.inl g0)]
    by_cases g6 : S.1 < 6
    · rw [if_pos g6] at hc
      obtain ⟨p, R, c1, -⟩ := hc
      rw [c1, g0]
      rfl
    · rw [if_neg g6] at hc
      rw [hc, g0]
      rfl
  · by_cases g6 : S.1 < 6
    · rw [if_neg (by omega)]
      obtain ⟨h1, h2, h3, h4, g, w, Q, h5, h6, h7, h8⟩ := h
      obtain ⟨k1, k2, k3⟩ := h6 S.1 g6
      have c1 : F_X3_closedOn N f b (nI S.1) = some (some (b + 11 + 3 * w S.1)) := by
        simp only [F_X3_closedOn, k_getr h1 (k := 1) rfl, k_alenr h5, Option.bind_some]
        rw [if_neg (nI_pos (by omega)), if_pos (nI_lt g6 (by omega)), k_aldr h5 g6 (by omega), k1]
        rfl
      obtain ⟨f1, m1, m2, m3⟩ := k_copyFrom (N := N) (b := b + 11 + 3 * w S.1) (a := b + 1) k3 h3 (by omega) (by omega)
      obtain ⟨f2, n1, n2, n3⟩ := k_clear (N := N) (h3.fr m3 (by omega))
      have o1 : f1 b = _ := (m3 b (by omega)).trans h1
      have o2 : f2 b = _ := (n3 b (by omega)).trans o1
      have fr : k_fr f2 (x_up f2 b (.inr (3, [.ref (b + 1), .ref (b + 4), .int (nI (S.1 + 1)), .ref (b + 5), .int S.2.2.2.1, .int S.2.2.2.2.1, .int S.2.2.2.2.2.1, .int S.2.2.2.2.2.2]))) b (b + 1) := k_fr.up (by omega) (by omega)
      have fr1 : k_fr f f2 (b + 1) (b + 29) := (m3.wd (by omega) (by omega)).tr (n3.wd (by omega) (by omega))
      refine ⟨_, ?_, ⟨x_up_s, by show S.1 + 1 ≤ 6; omega, ?_, ?_, g, w, fun i => if i = S.1 then S.2.1 0 else Q i, (fr _ (by omega)).trans ((n3 _ (by omega)).trans ((m3 _ (by omega)).trans h5)), fun i hi => ?_, h7, fun i hi => ?_⟩, (fr1.wd (by omega) (by omega)).tr (fr.wd (by omega) (by omega))⟩
      · rw [c1]
        simp only [Option.bind_some, Option.elim_some]
        rw [if_neg (nI_ne0 (by omega) (by omega))]
        simp only [k3.cv, m1, k_getr o1 (k := 0) rfl, (h3.fr m3 (by omega)).cv, n1, k_geti o2 (k := 2) rfl, k_puti o2 (k := 2) (by simp), Option.bind_some, k_add1, List.set_cons_succ, List.set_cons_zero, k_geti (f := x_up f2 b (.inr (3, [.ref (b + 1), .ref (b + 4), .int (nI (S.1 + 1)), .ref (b + 5), .int S.2.2.2.1, .int S.2.2.2.2.1, .int S.2.2.2.2.2.1, .int S.2.2.2.2.2.2]))) x_up_s (k := 2) rfl]
        rfl
      · exact n2.fr fr (by omega)
      · exact ((h4.fr m3 (by omega)).fr n3 (by omega)).fr fr (by omega)
      · obtain ⟨q1, q2, q3⟩ := h6 i hi
        refine ⟨q1, q2, ?_⟩
        show k_row _ _ 60 (if i = S.1 then S.2.1 0 else Q i)
        by_cases z : i = S.1
        · rw [if_pos z, z]
          exact (m2.fr n3 (by omega)).fr fr (by omega)
        · rw [if_neg z]
          have : w i ≠ w S.1 := by
            rcases Nat.lt_trichotomy i S.1 with y | y | y
            · exact h7 i S.1 y g6
            · exact absurd y z
            · exact (h7 S.1 i y hi).symm
          exact ((q3.fr m3 (by omega)).fr n3 (by omega)).fr fr (by omega)
      · have hi' : i < S.1 + 1 := hi
        show (if i = S.1 then S.2.1 0 else Q i) = if S.1 + 1 - i = 0 then _ else S.2.1 (S.1 + 1 - i - 1)
        rw [if_neg (show ¬ S.1 + 1 - i = 0 by omega)]
        by_cases z : i = S.1
        · rw [if_pos z]; exact congrArg S.2.1 (by omega)
        · rw [if_neg z, h8 i (by omega)]; exact congrArg S.2.1 (by omega)
    · rw [if_pos (by omega)]
      rw [if_neg g6] at hc
      rw [hc]
      simp only [Option.bind_some, Option.elim_none]
      rw [if_neg (nI_ne0 (by omega) (by omega))]
end KSO

