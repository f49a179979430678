/-! Gathering: all keys that are found. -/
/-- told by the runs from r on, or by the tree -/
def k_frm (S : KS) (r : Nat) (k v : Int32) : Prop :=
  (∃ q, r ≤ q ∧ q ≤ S.1 ∧ k_mem (S.2.1 q) k v ∧ ∀ j, r ≤ j → j < q → k_tl (S.2.1 j) k = false) ∨ (k_mem S.2.2.1.1 k v ∧ ∀ j, r ≤ j → j ≤ S.1 → k_tl (S.2.1 j) k = false)
theorem k_tl_no {R : KR} {k : Int32} : k_tl R k = false ↔ ∀ j, j < R.1 → R.2.1 j ≠ k := by
  unfold k_tl
  rw [decide_eq_false_iff_not, k_pl_iff]
  constructor
  · intro h j hj e; exact h ⟨j, hj, e⟩
  · rintro h ⟨j, hj, e⟩; exact h j hj e
theorem k_mem_tl {R : KR} {k v : Int32} (h : k_mem R k v) : k_tl R k = true := by
  obtain ⟨i, hi, e, -⟩ := h
  exact decide_eq_true (k_pl_in hi e)
theorem k_mem_v {R : KR} (hs : k_srt R.1 R.2.1) {k v : Int32} : k_mem R k v ↔ k_tl R k = true ∧ R.2.2 (k_pl R.1 R.2.1 k) = v := by
  constructor
  · rintro ⟨i, hi, rfl, rfl⟩
    exact ⟨decide_eq_true (k_pl_in hi rfl), by rw [k_pl_eq hs hi]⟩
  · rintro ⟨h1, h2⟩
    have := of_decide_eq_true h1
    exact ⟨_, this, k_pl_at this, h2⟩
theorem k_frm_step {S : KS} {r : Nat} (hr : r ≤ S.1) (k v : Int32) : k_frm S r k v ↔ k_mem (S.2.1 r) k v ∨ (k_frm S (r + 1) k v ∧ ∀ j, j < (S.2.1 r).1 → (S.2.1 r).2.1 j ≠ k) := by
  rw [← k_tl_no]
  constructor
  · rintro (⟨q, h1, h2, h3, h4⟩ | ⟨h1, h2⟩)
    · by_cases z : q = r
      · exact Or.inl (z ▸ h3)
      · exact Or.inr ⟨Or.inl ⟨q, by omega, h2, h3, fun j a b => h4 j (by omega) b⟩, h4 r (Nat.le_refl _) (by omega)⟩
    · exact Or.inr ⟨Or.inr ⟨h1, fun j a b => h2 j (by omega) b⟩, h2 r (Nat.le_refl _) hr⟩
  · rintro (h | ⟨⟨q, h1, h2, h3, h4⟩ | ⟨h1, h2⟩, h5⟩)
    · exact Or.inl ⟨r, Nat.le_refl _, hr, h, fun j a b => absurd b (by omega)⟩
    · refine Or.inl ⟨q, by omega, h2, h3, fun j a b => ?_⟩
      by_cases z : j = r
      · rw [z]; exact h5
      · exact h4 j (by omega) b
    · refine Or.inr ⟨h1, fun j a b => ?_⟩
      by_cases z : j = r
      · rw [z]; exact h5
      · exact h2 j (by omega) b
theorem k_frm_val {S : KS} (hw : k_ws S) (k v : Int32) : (k_frm S 0 k v ∧ v ≠ -1) ↔ k_val S k = v ∧ v ≠ -1 := by
  have hrl := k_run_le S k
  unfold k_val
  constructor
  · rintro ⟨⟨q, h1, h2, h3, h4⟩ | ⟨h1, h2⟩, h5⟩
    · have e : k_run S k = q := k_fst_eq (by omega) (fun j hj => h4 j (Nat.zero_le _) hj) (fun _ => k_mem_tl h3)
      rw [e, if_pos h2]
      exact ⟨((k_mem_v (hw.2.1 q h2)).mp h3).2, h5⟩
    · have e : k_run S k = S.1 + 1 := k_fst_eq (Nat.le_refl _) (fun j hj => h2 j (Nat.zero_le _) (by omega)) (fun z => absurd z (by omega))
      obtain ⟨g1, g2⟩ := (k_mem_v hw.2.2.2.2.1.1).mp h1
      rw [e, if_neg (by omega), if_pos (of_decide_eq_true g1)]
      exact ⟨g2, h5⟩
  · rintro ⟨h, h5⟩
    refine ⟨?_, h5⟩
    by_cases g : k_run S k ≤ S.1
    · rw [if_pos g] at h
      exact Or.inl ⟨_, Nat.zero_le _, g, (k_mem_v (hw.2.1 _ g)).mpr ⟨k_run_yes g, h⟩, fun j _ b => k_run_no b⟩
    · rw [if_neg g] at h
      by_cases g2 : k_pl S.2.2.1.1.1 S.2.2.1.1.2.1 k < S.2.2.1.1.1
      · rw [if_pos g2] at h
        exact Or.inr ⟨(k_mem_v hw.2.2.2.2.1.1).mpr ⟨decide_eq_true g2, h⟩, fun j _ b => k_run_no (by omega)⟩
      · rw [if_neg g2] at h
        exact absurd h.symm h5
/-- all keys that are found, by rising keys, with their values -/
def k_fnd (S : KS) (Q : KR) : Prop := k_srt Q.1 Q.2.1 ∧ ∀ k v, k_mem Q k v ↔ k_val S k = v ∧ v ≠ -1
/-- two rows of a gatherer at g, in any order -/
def k_gat (f : XM) (g : Nat) : Prop := ∃ (r0 r1 : Nat) (R0 R1 : KR), (r0 = g + 1 ∧ r1 = g + 4 ∨ r0 = g + 4 ∧ r1 = g + 1) ∧ f g = some (.inr (0, [.ref r0, .ref r1])) ∧ k_row f r0 532 R0 ∧ k_row f r1 532 R1
theorem k_gat.ext {f f' : XM} {g : Nat} (h : k_gat f g) (e : ∀ q, g ≤ q → q < g + 7 → f' q = f q) : k_gat f' g := by
  obtain ⟨r0, r1, R0, R1, h1, h2, h3, h4⟩ := h
  exact ⟨r0, r1, R0, R1, h1, (e _ (by omega) (by omega)).trans h2, h3.ext (fun q a b => e q (by omega) (by omega)), h4.ext (fun q a b => e q (by omega) (by omega))⟩
section KGA
variable {wz : Nat}
variable {N : Nat} {b g : Nat} {S : KS}
/-- the row that stands first, holding what is told from r on -/
def k_gst (f : XM) (g : Nat) (S : KS) (r : Nat) : Prop := ∃ (r0 r1 : Nat) (Q R1 : KR), (r0 = g + 1 ∧ r1 = g + 4 ∨ r0 = g + 4 ∧ r1 = g + 1) ∧ f g = some (.inr (0, [.ref r0, .ref r1])) ∧ k_row f r0 532 Q ∧ k_row f r1 532 R1 ∧ k_srt Q.1 Q.2.1 ∧ (∀ k v, k_mem Q k v ↔ k_frm S r k v) ∧ Q.1 + 60 * r ≤ 160 + 60 * (S.1 + 1)
theorem k_gather_loop (hN : 5000 ≤ N) (hw : k_ws S) (hd : g + 7 ≤ b ∨ b + 29 ≤ g) {K : Int32 → XM → Option (Option Nat × XM)} : ∀ (i fuel : Nat) (f : XM), i ≤ S.1 + 1 → i < fuel → k_st f b S → k_gst f g S i →
    ∃ f', F_X0_gather_L19 N g b K fuel (nI i - 1) f = K (nI 0 - 1) f' ∧ k_st f' b S ∧ k_gst f' g S 0 ∧ k_fr f f' g (g + 7) := by
  intro i
  induction i with
  | zero =>
    intro fuel f h1 h2 hst hg
    obtain ⟨u, rfl⟩ : ∃ u, fuel = u + 1 := ⟨fuel - 1, by omega⟩
    refine ⟨f, ?_, hst, hg, k_fr.rf⟩
    rw [F_X0_gather_L19, if_pos ((k_xlt0 0 (by omega)).mpr rfl)]
  | succ i ih =>
    intro fuel f h1 h2 hst hg
    obtain ⟨u, rfl⟩ : ∃ u, fuel = u + 1 := ⟨fuel - 1, by omega⟩
    have h6 := hst.2.1
    obtain ⟨r0, r1, Q, R1, g1, g2, g3, g4, g5, g6, g7⟩ := hg
    obtain ⟨p, c, p1, p2, p3, p4, p5⟩ := k_runOn (N := N) hst (r := i) (by omega)
    have hsz : (S.2.1 i).1 ≤ 60 ∧ (i = 0 → (S.2.1 i).1 ≤ 12) := by
      rcases Nat.eq_zero_or_pos i with z | z
      · rw [z]; have := hw.2.2.1; exact ⟨by omega, fun _ => this⟩
      · exact ⟨hw.2.2.2.1 i z (by omega), fun e => absurd z (by omega)⟩
    obtain ⟨f1, Q1, m1, m2, m3, m4, m5⟩ := k_mergeOf (N := N) (a0 := r0) (a1 := p) (b := r1) hN g5 (hw.2.1 i (by omega)) (by omega) (by omega) (by omega) g4 g3 p2
    have e1 : f1 g = some (.inr (0, [.ref r0, .ref r1])) := (m3 g (by omega)).trans g2
    have e2 : x_up f1 g (.inr (0, [.ref r0, .ref r0])) g = _ := x_up_s
    have w1 : k_fr f1 (x_up f1 g (.inr (0, [.ref r0, .ref r0]))) g (g + 1) := k_fr.up (by omega) (by omega)
    have w2 : k_fr f1 (x_up (x_up f1 g (.inr (0, [.ref r0, .ref r0]))) g (.inr (0, [.ref r1, .ref r0]))) g (g + 1) := w1.upd (by omega) (by omega)
    have w3 : k_fr f (x_up (x_up f1 g (.inr (0, [.ref r0, .ref r0]))) g (.inr (0, [.ref r1, .ref r0]))) g (g + 7) := (m3.wd (by omega) (by omega)).tr (w2.wd (by omega) (by omega))
    obtain ⟨f', q1, q2, q3, q4⟩ := ih u (x_up (x_up f1 g (.inr (0, [.ref r0, .ref r0]))) g (.inr (0, [.ref r1, .ref r0]))) (by omega) (by omega) (hst.fr w3 (by omega))
      ⟨r1, r0, Q1, Q, by omega, x_up_s, m2.fr w2 (by omega), (g3.fr m3 (by omega)).fr w2 (by omega), m4.1, fun k v => by rw [m4.2, k_frm_step (by omega), g6], by omega⟩
    refine ⟨f', ?_, q2, q3, w3.tr q4⟩
    rw [F_X0_gather_L19, if_neg (fun z => by have := (k_xlt0 (i + 1) (by omega)).mp z; omega)]
    simp only [nI_pred, hst.cv, p1, Option.elim_some, Option.bind_some, k_getr g2 (k := 0) rfl, k_getr g2 (k := 1) rfl, g4.cv, m1, k_getr e1 (k := 0) rfl, k_putr e1 (k := 1) (r := r0) (by simp), List.set_cons_succ, List.set_cons_zero, k_putr e2 (k := 0) (r := r1) (by simp), k_m1]
    exact q1
theorem k_gather {f : XM} (hN : 5000 ≤ N) (hst : k_st f b S) (hw : k_ws S) (hg : k_gat f g) (hd : g + 7 ≤ b ∨ b + 29 ≤ g) :
    ∃ (f' : XM) (r : Nat) (Q : KR), F_X0_gather N f g b = some (some r, f') ∧ k_row f' r 532 Q ∧ g + 1 ≤ r ∧ r + 3 ≤ g + 7 ∧ k_gat f' g ∧ k_fr f f' g (g + 7) ∧ k_fnd S Q := by
  have h6 := hst.2.1
  have hwt := hw.2.2.2.2.1
  obtain ⟨r0, r1, R0, R1, g1, g2, g3, g4⟩ := hg
  obtain ⟨f1, c1, c2, c3⟩ := k_copyFrom (N := N) (b := r0) (a := b + 5 + 1) g3 hst.tree.row (by have := hwt.2.2.1; omega) (by omega)
  have hst1 := hst.fr (c3.wd (lo := g) (hi := g + 7) (by omega) (by omega)) (by omega)
  obtain ⟨f2, l1, l2, ⟨s0, s1, Q, R2, t1, t2, t3, t4, t5, t6, t7⟩, l4⟩ := k_gather_loop (N := N) hN hw hd (K := fun y2_20 g20 =>
  (x_getr g20 0 g 0).bind fun v21 =>
  Option.bind v21 fun a22 =>
  (x_cv g20 2 a22 (F_X2_takeOutGone N g20 a22)).bind fun z23 =>
  (x_getr z23 0 g 0).bind fun v24 =>
  some (v24, z23)) (S.1 + 1) N f1 (Nat.le_refl _) (by omega) hst1 ⟨r0, r1, S.2.2.1.1, R1, g1, (c3 g (by omega)).trans g2, c2, g4.fr c3 (by omega), hwt.1, fun k v => by
      constructor
      · intro h
        exact Or.inr ⟨h, fun j a b => absurd a (by omega)⟩
      · rintro (⟨q, a, b, -⟩ | ⟨h, -⟩)
        · omega
        · exact h, by have := hwt.2.2.1; omega⟩
  obtain ⟨f3, Q3, n1, n2, n3, n4, n5, n6⟩ := k_takeOutGone (N := N) hN t3 t5
  refine ⟨f3, s0, Q3, ?_, n2, by omega, by omega, ⟨s0, s1, Q3, R2, t1, (n3 g (by omega)).trans t2, n2, t4.fr n3 (by omega)⟩, ((c3.wd (by omega) (by omega)).tr l4).tr (n3.wd (by omega) (by omega)), n4, fun k v => ?_⟩
  · have cc1 := hst1.cc
    rw [nI_pred] at l1
    simp only [F_X0_gather, k_getr g2 (k := 0) rfl, hst.tr, hst.tree.r, g3.cv, c1, cc1, Option.bind_some, l1, k_getr t2 (k := 0) rfl, t3.cv, n1, k_getr ((n3 g (by omega)).trans t2) (k := 0) rfl]
  · rw [n5, t6]
    exact k_frm_val hw k v
end KGA

