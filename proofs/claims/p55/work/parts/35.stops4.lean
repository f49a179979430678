/-! States: built, written, erased; what building would bring. -/
theorem k_lit (n : Nat) : (OfNat.ofNat n : Int32) = nI n := rfl
section KSN
variable {wz : Nat}
variable {N : Nat} {b g : Nat} {S : KS}
theorem k_max1 (n : Nat) (h : n < 2 ^ 31) : x_imax 1 (nI n) = nI (max 1 n) := k_imax 1 n (by omega) h
theorem k_t1 : ¬ (100 : Int32) = 0 := by rw [k_lit 100]; exact nI_ne0 (by omega) (by omega)
theorem k_t2 {a : Nat} (h : a ≤ 800) : nI a / 100 = nI (a / 100) := by
  rw [k_lit 100]
  exact pk_div (by omega) (by omega) (by omega)
theorem k_t3 {a p : Nat} (h : a * p ≤ 800) : x_div (nI a * nI p) 100 = some (nI (a * p / 100)) := by
    unfold x_div
    rw [if_neg k_t1, pk_mul, k_t2 h]
theorem k_eachIfBuilt {f : XM} (h : k_st f b S) (hw : k_ws S) {p : Nat} (hp : p ≤ 100) : F_X3_eachIfBuilt N f b (nI p) = some (nI (k_each S.2.2.2.1 p)) := by
  obtain ⟨e1, e2, e3⟩ := hw.2.2.2.2.2.1.e (by omega)
  have hm : k_u S.2.2.2.1 * p ≤ 8 * 100 := Nat.mul_le_mul e3 hp
  have hd : k_u S.2.2.2.1 * p / 100 ≤ k_u S.2.2.2.1 * p := Nat.div_le_self _ _
  have hdv := k_t3 (show k_u S.2.2.2.1 * p ≤ 800 from hm)
  rw [← e1] at hdv
  unfold F_X3_eachIfBuilt
  rw [h.il, Option.bind_some, hdv, Option.bind_some, k_max1 (k_u S.2.2.2.1 * p / 100) (by omega)]
  unfold k_each
  exact Eq.refl _
theorem k_each_r {S : KS} (hw : k_ws S) {p : Nat} (hp : p ≤ 100) : 1 ≤ k_each S.2.2.2.1 p ∧ k_each S.2.2.2.1 p ≤ 8 := by
  obtain ⟨e1, e2, e3⟩ := hw.2.2.2.2.2.1.e (by omega)
  have hm : k_u S.2.2.2.1 * p ≤ 8 * 100 := Nat.mul_le_mul e3 hp
  have : k_u S.2.2.2.1 * p / 100 ≤ 8 := by omega
  unfold k_each
  omega
theorem k_leavesOutOf {f : XM} (h : k_st f b S) (hw : k_ws S) {p n : Nat} (hp : p ≤ 100) (hn : n < 2 ^ 20) : F_X3_leavesOutOf N f b (nI n) (nI p) = some (nI (k_ru n (k_each S.2.2.2.1 p))) := by
  have := k_each_r hw hp
  simp only [F_X3_leavesOutOf, h.cv, k_eachIfBuilt h hw hp, Option.bind_some, k_roundedUp (N := N) (f := f) (show n < 2 ^ 29 by omega) this.1 (show _ < 2 ^ 29 by omega)]
theorem k_levelsOutOf {f : XM} (hN : 1000 ≤ N) (h : k_st f b S) (hw : k_ws S) {p n : Nat} (hp : p ≤ 100) (hn : n < 2 ^ 20) : F_X3_levelsOutOf N f b (nI n) (nI p) = some (nI (k_lv (k_u S.2.2.2.2.1) 32 (k_ru n (k_each S.2.2.2.1 p)))) := by
  have := k_each_r hw hp
  obtain ⟨e1, e2, e3⟩ := hw.2.2.2.2.2.2.e (by omega)
  have hle := k_ru_le (c := n) this.1
  simp only [F_X3_levelsOutOf, h.cv, k_leavesOutOf h hw hp hn, h.nl, Option.bind_some]
  rw [e1, k_levelsAbove hN e2 (by omega) (by omega), ← e1]
  rfl
theorem k_rebuild {f : XM} (hN : 5000 ≤ N) (h : k_st f b S) (hw : k_ws S) (hg : k_gat f g) (hd : g + 7 ≤ b ∨ b + 29 ≤ g) {p : Nat} (hp : p ≤ 100) :
    ∃ (f' : XM) (Q : KR), k_fnd S Q ∧ k_gat f' g ∧ k_fr2 f f' b g ∧ (if 160 < Q.1 then F_X3_rebuild N f b (nI p) g = some (-1, f') ∧ k_st f' b S else F_X3_rebuild N f b (nI p) g = some (nI (k_ru Q.1 (k_each S.2.2.2.1 p)), f') ∧ k_st f' b (k_sbl S Q p)) := by
  have he := k_each_r hw hp
  obtain ⟨f1, r, Q, m1, m2, m3, m4, m5, m6, m7⟩ := k_gather (N := N) hN h hw hg hd
  have hst1 := h.fr m6 (by omega)
  have hmc := m2.le
  have hgo : ∃ fs, f g = some (.inr (0, fs)) := by
    obtain ⟨r0, r1, R0, R1, -, g2, -⟩ := hg
    exact ⟨_, g2⟩
  obtain ⟨fs, hfs⟩ := hgo
  simp only [F_X3_rebuild, k_cv hfs, m1, m2.n, Option.bind_some]
  by_cases g6 : 160 < Q.1
  · refine ⟨f1, Q, m7, m5, k_fr2.ofg m6 (by omega) (by omega), ?_⟩
    rw [if_pos g6, if_neg (show ¬ nI Q.1 ≤ 160 from nI_ge (a := 160) g6 (by omega))]
    exact ⟨rfl, hst1⟩
  · obtain ⟨f2, q1, q2, q3⟩ := k_buildOutOf (N := N) (b := b + 5) (a := r) hN he.1 (by omega) hst1.tree (by omega) m2 (by omega)
    have hst2 := hst1.sett q3 q2
    have t2 := hst2.tree
    have a1 := k_puti (v := S.2.2.2.1) t2.1 (k := 4) (by simp)
    have a2 : ∀ e, x_up f2 (b + 5) e b = _ := fun e => (x_up_n (by omega)).trans hst2.1
    have a3 := k_puti (f := x_up f2 (b + 5) (.inr (4, ([.ref (b + 5 + 1), .ref (b + 5 + 4), .ref (b + 5 + 5), .int (nI (k_stt S (k_tbl Q (k_each S.2.2.2.1 p) S.2.2.1)).2.2.1.2.2.1), .int (k_stt S (k_tbl Q (k_each S.2.2.2.1 p) S.2.2.1)).2.2.1.2.2.2.2.1, .int (k_stt S (k_tbl Q (k_each S.2.2.2.1 p) S.2.2.1)).2.2.1.2.2.2.2.2].set 4 (.int S.2.2.2.1))))) (v := S.2.2.2.2.1) x_up_s (k := 5) (by simp)
    have c1 : ∀ e e', x_up (x_up f2 (b + 5) e) (b + 5) e' = x_up f2 (b + 5) e' := fun e e' => by
      funext z
      unfold x_up
      split <;> rfl
    rw [c1] at a3
    simp only [List.set_cons_succ, List.set_cons_zero] at a1 a3
    have t3 : k_tree (x_up f2 (b + 5) (.inr (4, [.ref (b + 5 + 1), .ref (b + 5 + 4), .ref (b + 5 + 5), .int (nI (k_ru Q.1 (k_each S.2.2.2.1 p))), .int S.2.2.2.1, .int S.2.2.2.2.1]))) (b + 5) (Q, (fun _ => 0), k_ru Q.1 (k_each S.2.2.2.1 p), (fun i => if i = 0 then 0 else Q.2.1 (k_each S.2.2.2.1 p * i)), S.2.2.2.1, S.2.2.2.2.1) := by
      obtain ⟨y1, y2, ⟨gp, y3, y4⟩, ⟨gb, y5, y6⟩, y7⟩ := t2
      exact ⟨x_up_s, y2.ext (fun q _ _ => x_up_n (by omega)), ⟨gp, (x_up_n (by omega)).trans y3, y4⟩, ⟨gb, (x_up_n (by omega)).trans y5, y6⟩, y7⟩
    have fr3 : k_fr f2 (x_up f2 (b + 5) (.inr (4, [.ref (b + 5 + 1), .ref (b + 5 + 4), .ref (b + 5 + 5), .int (nI (k_ru Q.1 (k_each S.2.2.2.1 p))), .int S.2.2.2.1, .int S.2.2.2.2.1]))) (b + 5) (b + 11) := k_fr.up (by omega) (by omega)
    have hst3 := hst2.sett fr3 t3
    obtain ⟨f4, w1, w2, w3⟩ := k_clear (N := N) hst3.row
    have hst4 := hst3.set0 w3 w2
    -- the object's numbers
    have o4 : f4 b = some (.inr (3, [.ref (b + 1), .ref (b + 4), .int (nI S.1), .ref (b + 5), .int S.2.2.2.1, .int S.2.2.2.2.1, .int S.2.2.2.2.2.1, .int S.2.2.2.2.2.2])) := hst4.1
    have c2 : ∀ e e', x_up (x_up f4 b e) b e' = x_up f4 b e' := fun e e' => by
      funext z
      unfold x_up
      split <;> rfl
    have mr : ∀ e, k_row (x_up f4 b e) r 532 Q := fun e => (((m2.fr q3 (by omega)).fr fr3 (by omega)).fr w3 (by omega)).ext (fun q _ _ => x_up_n (by omega))
    have fr5 : ∀ e, k_fr f4 (x_up f4 b e) b (b + 1) := fun e => k_fr.up (by omega) (by omega)
    have st5 := (hst4.setc (R := fun _ => (0, (S.2.1 0).2)) (fr5 _) rfl x_up_s)
    have st6 := st5.setn (il := S.2.2.2.1) (nl := S.2.2.2.2.1) (bc := S.2.2.2.2.2.1 + 1) (wc := S.2.2.2.2.2.2 + nI Q.1) (k_fr.up (lo := b) (hi := b + 1) (by omega) (by omega)) x_up_s
    rw [c2] at st6
    refine ⟨x_up f4 b (.inr (3, [.ref (b + 1), .ref (b + 4), .int (nI 0), .ref (b + 5), .int S.2.2.2.1, .int S.2.2.2.2.1, .int (S.2.2.2.2.2.1 + 1), .int (S.2.2.2.2.2.2 + nI Q.1)])), Q, m7, ?_, ?_, ?_⟩
    rotate_left 2
    · rw [if_neg g6, if_pos (show nI Q.1 ≤ 160 from nI_le (b := 160) (by omega) (by omega))]
      refine ⟨?_, st6⟩
      simp only [hst1.tr, hst1.cv, k_eachIfBuilt hst1 hw hp, Option.bind_some, hst1.tree.cv, q1, hst2.tr, hst2.il]
      rw [show x_puti f2 4 (b + 5) 4 (k_stt S (k_tbl Q (k_each S.2.2.2.1 p) S.2.2.1)).2.2.2.1 = _ from a1]
      simp only [Option.bind_some, k_getr (a2 _) (k := 3) rfl, k_geti (a2 _) (k := 5) rfl]
      rw [show x_puti _ 4 (b + 5) 5 (k_stt S (k_tbl Q (k_each S.2.2.2.1 p) S.2.2.1)).2.2.2.2.1 = _ from a3]
      have w1' : F_X2_clear N (x_up f2 (b + 5) (.inr (4, [.ref (b + 5 + 1), .ref (b + 5 + 4), .ref (b + 5 + 5), .int (nI (k_stt S (k_tbl Q (k_each S.2.2.2.1 p) S.2.2.1)).2.2.1.2.2.1), .int S.2.2.2.1, .int S.2.2.2.2.1]))) (b + 1) = some f4 := w1
      have op3 := hst3.op
      have cv3 : ∀ {β : Type} {o : Option β}, x_cv (x_up f2 (b + 5) (.inr (4, [.ref (b + 5 + 1), .ref (b + 5 + 4), .ref (b + 5 + 5), .int (nI (k_stt S (k_tbl Q (k_each S.2.2.2.1 p) S.2.2.1)).2.2.1.2.2.1), .int S.2.2.2.1, .int S.2.2.2.2.1]))) 2 (b + 1) o = o := fun {β o} => hst3.row.cv
      have op3' : x_getr (x_up f2 (b + 5) (.inr (4, [.ref (b + 5 + 1), .ref (b + 5 + 4), .ref (b + 5 + 5), .int (nI (k_stt S (k_tbl Q (k_each S.2.2.2.1 p) S.2.2.1)).2.2.1.2.2.1), .int S.2.2.2.1, .int S.2.2.2.2.1]))) 3 b 0 = some (some (b + 1)) := op3
      simp only [Option.bind_some, op3', cv3, w1', k_puti o4 (k := 2) (by simp), List.set_cons_succ, List.set_cons_zero]
      simp only [k_geti (f := x_up f4 b (.inr (3, [.ref (b + 1), .ref (b + 4), .int 0, .ref (b + 5), .int S.2.2.2.1, .int S.2.2.2.2.1, .int S.2.2.2.2.2.1, .int S.2.2.2.2.2.2]))) x_up_s (k := 6) rfl, Option.bind_some, k_puti (f := x_up f4 b (.inr (3, [.ref (b + 1), .ref (b + 4), .int 0, .ref (b + 5), .int S.2.2.2.1, .int S.2.2.2.2.1, .int S.2.2.2.2.2.1, .int S.2.2.2.2.2.2]))) x_up_s (k := 6) (by simp), c2, List.set_cons_succ, List.set_cons_zero]
      simp only [k_geti (f := x_up f4 b (.inr (3, [.ref (b + 1), .ref (b + 4), .int 0, .ref (b + 5), .int S.2.2.2.1, .int S.2.2.2.2.1, .int (S.2.2.2.2.2.1 + 1), .int S.2.2.2.2.2.2]))) x_up_s (k := 7) rfl, (mr _).n, Option.bind_some, k_puti (f := x_up f4 b (.inr (3, [.ref (b + 1), .ref (b + 4), .int 0, .ref (b + 5), .int S.2.2.2.1, .int S.2.2.2.2.1, .int (S.2.2.2.2.2.1 + 1), .int S.2.2.2.2.2.2]))) x_up_s (k := 7) (by simp), c2, List.set_cons_succ, List.set_cons_zero]
      have tr6 := st6.tr
      have tl6 := st6.tree.l
      have tr6' : x_getr (x_up f4 b (.inr (3, [.ref (b + 1), .ref (b + 4), .int 0, .ref (b + 5), .int S.2.2.2.1, .int S.2.2.2.2.1, .int (S.2.2.2.2.2.1 + 1), .int (S.2.2.2.2.2.2 + nI Q.1)]))) 3 b 3 = some (some (b + 5)) := tr6
      have tl6' : x_geti (x_up f4 b (.inr (3, [.ref (b + 1), .ref (b + 4), .int 0, .ref (b + 5), .int S.2.2.2.1, .int S.2.2.2.2.1, .int (S.2.2.2.2.2.1 + 1), .int (S.2.2.2.2.2.2 + nI Q.1)]))) 4 (b + 5) 3 = some (nI (k_ru Q.1 (k_each S.2.2.2.1 p))) := tl6
      simp only [tr6', tl6', Option.bind_some]
      rfl
    · exact (m5.ext (fun q _ _ => (q3 q (by omega)))).ext (fun q _ _ => (fr5 _ q (by omega)).trans ((w3 q (by omega)).trans (fr3 q (by omega))))
    · exact ((((k_fr2.ofg m6 (by omega) (by omega)).tr (k_fr2.ofb q3 (by omega) (by omega))).tr (k_fr2.ofb fr3 (by omega) (by omega))).tr (k_fr2.ofb w3 (by omega) (by omega))).tr (k_fr2.ofb (fr5 _) (by omega) (by omega))
end KSN

