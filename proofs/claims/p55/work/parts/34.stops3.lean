/-! States: merged, built, written, erased. -/
def k_fr2 (f f' : XM) (b g : Nat) : Prop := ∀ q, ¬ (b ≤ q ∧ q < b + 29) → ¬ (g ≤ q ∧ q < g + 7) → f' q = f q
theorem k_fr2.rf {f : XM} {b g : Nat} : k_fr2 f f b g := fun _ _ _ => rfl
theorem k_fr2.ofb {f f' : XM} {b g lo hi : Nat} (h : k_fr f f' lo hi) (h1 : b ≤ lo) (h2 : hi ≤ b + 29) : k_fr2 f f' b g := fun q a _ => h q (by omega)
theorem k_fr2.ofg {f f' : XM} {b g lo hi : Nat} (h : k_fr f f' lo hi) (h1 : g ≤ lo) (h2 : hi ≤ g + 7) : k_fr2 f f' b g := fun q _ a => h q (by omega)
theorem k_fr2.tr {f f' f'' : XM} {b g : Nat} (h : k_fr2 f f' b g) (h2 : k_fr2 f' f'' b g) : k_fr2 f f'' b g := fun q a c => (h2 q a c).trans (h q a c)
/-- how many entries a leaf gets -/
def k_each (il : Int32) (fill : Nat) : Nat := max 1 (k_u il * fill / 100)
def k_sbl (S : KS) (Q : KR) (fill : Nat) : KS := (0, (fun _ => (0, (S.2.1 0).2)), (Q, (fun _ => 0), k_ru Q.1 (k_each S.2.2.2.1 fill), (fun i => if i = 0 then 0 else Q.2.1 (k_each S.2.2.2.1 fill * i)), S.2.2.2.1, S.2.2.2.2.1), S.2.2.2.1, S.2.2.2.2.1, S.2.2.2.2.2.1 + 1, S.2.2.2.2.2.2 + nI Q.1)
def k_tfx (S : KS) : KT := if S.2.2.1.2.2.2.2.1 = 0 then (S.2.2.1.1, S.2.2.1.2.1, S.2.2.1.2.2.1, S.2.2.1.2.2.2.1, S.2.2.2.1, S.2.2.2.2.1) else S.2.2.1
section KSM
variable {wz : Nat}
variable {N : Nat} {b g : Nat} {S : KS}
theorem k_mo_loop {c3 c4 : Nat} {x : List Value} {K : Int32 → XM → Option (Int32 × XM)} (hb : ∀ (f : XM), f b = some (.inr (3, .ref (b + 1) :: .ref (b + 4) :: x)) → True) : ∀ (d fuel i : Nat) (f : XM) (g : Nat → Option Nat), i + d = 6 → d < fuel → 1 ≤ i → f b = some (.inr (3, .ref (b + 1) :: .ref (b + 4) :: x)) → f (b + 4) = some (.inl (.object (x_cls 2), 6, .inr (.inr (.inr (.inr g))))) → (∀ j, j < 6 → ∃ p fs, g j = some p ∧ f p = some (.inr (2, fs)) ∧ p ≠ b + 4) →
    ∃ (f' : XM) (g' : Nat → Option Nat), F_X3_mergeOldest_L59 N b c3 c4 K fuel (nI i) f = K (nI 6) f' ∧ f' (b + 4) = some (.inl (.object (x_cls 2), 6, .inr (.inr (.inr (.inr g'))))) ∧ (∀ j, g' j = if i ≤ j + 1 ∧ j + 1 < 6 then g (j + 1) else g j) ∧ k_fr f f' (b + 4) (b + 5) := by
  intro d
  induction d with
  | zero =>
    intro fuel i f g h1 h2 h3 h4 h5 h6
    obtain ⟨u, rfl⟩ : ∃ u, fuel = u + 1 := ⟨fuel - 1, by omega⟩
    have e : i = 6 := by omega
    subst e
    refine ⟨f, g, ?_, h5, fun j => by rw [if_neg (by omega)], k_fr.rf⟩
    simp only [F_X3_mergeOldest_L59, k_getr h4 (k := 1) rfl, k_alenr h5, Option.bind_some]
    rw [if_pos (nI_le (Nat.le_refl _) (by omega))]
  | succ d ih =>
    intro fuel i f g h1 h2 h3 h4 h5 h6
    obtain ⟨u, rfl⟩ : ∃ u, fuel = u + 1 := ⟨fuel - 1, by omega⟩
    obtain ⟨q, rfl⟩ : ∃ q, i = q + 1 := ⟨i - 1, by omega⟩
    obtain ⟨p, fs, p1, p2, p3⟩ := h6 (q + 1) (by omega)
    obtain ⟨f', g', r1, r2, r3, r4⟩ := ih u (q + 1 + 1) (x_up f (b + 4) (.inl (.object (x_cls 2), 6, .inr (.inr (.inr (.inr (va_up g q (some p)))))))) _ (by omega) (by omega) (by omega) ((x_up_n (by omega)).trans h4) x_up_s (fun j hj => by
      by_cases z : j = q
      · exact ⟨p, fs, by rw [z, k_vup_s], (x_up_n p3).trans p2, p3⟩
      · obtain ⟨p', fs', y1, y2, y3⟩ := h6 j hj
        exact ⟨p', fs', by rw [k_vup_n z]; exact y1, (x_up_n y3).trans y2, y3⟩)
    refine ⟨f', g', ?_, r2, fun j => ?_, (k_fr.up (by omega) (by omega)).tr r4⟩
    · simp only [F_X3_mergeOldest_L59, k_getr h4 (k := 1) rfl, k_alenr h5, Option.bind_some]
      rw [if_neg (nI_ge (by omega) (by omega))]
      simp only [k_aldr h5 (i := q + 1) (by omega) (by omega), p1, nI_pred, k_astr h5 p2 (by omega) (i := q) (by omega) (by omega), Option.bind_some, k_add1]
      exact r1
    · rw [r3 j]
      by_cases z : j = q
      · rw [if_neg (by omega), if_pos (by omega), z, k_vup_s, p1]
      · by_cases z2 : q + 1 + 1 ≤ j + 1 ∧ j + 1 < 6
        · rw [if_pos z2, if_pos (by omega), k_vup_n (by omega)]
        · rw [if_neg z2, if_neg (by omega), k_vup_n z]
theorem k_mergeOldest {f : XM} (hN : 5000 ≤ N) (h : k_st f b S) (hw : k_ws S) (hg : k_gat f g) (hd : g + 7 ≤ b ∨ b + 29 ≤ g) :
    if S.1 < 2 then F_X3_mergeOldest N f b g = some (-1, f) else
    ∃ (f' : XM) (M : KR), k_mgd (S.2.1 S.1) (S.2.1 (S.1 - 1)) M ∧ M.1 ≤ 120 ∧ k_gat f' g ∧ k_fr2 f f' b g ∧ (if 60 < M.1 then F_X3_mergeOldest N f b g = some (-1, f') ∧ k_st f' b S else F_X3_mergeOldest N f b g = some (nI M.1, f') ∧ k_st f' b (k_smg S M)) := by
  have hcc := h.2.1
  have hst := h
  obtain ⟨h1, h2, h3, h4, gg, w, Q, h5, h6, h7, h8⟩ := h
  obtain ⟨k1, k2, k3⟩ := h6 0 (by omega)
  obtain ⟨l1, l2, l3⟩ := h6 1 (by omega)
  have hcl : k_clo f b w Q := ⟨⟨gg, h5, fun i hi => (h6 i hi).1⟩, fun i hi => ⟨(h6 i hi).2.1, (h6 i hi).2.2⟩, h7⟩
  have c0 : F_X3_closedOn N f b 0 = some (some (b + 11 + 3 * w 0)) := k_clo.on (N := N) (cc := 0) hcl h1 (i := 0) (by omega)
  have c1 : F_X3_closedOn N f b 1 = some (some (b + 11 + 3 * w 1)) := k_clo.on (N := N) (cc := 0) hcl h1 (i := 1) (by omega)
  simp only [F_X3_mergeOldest, hst.cv, c0, c1, hst.cc, Option.bind_some, Option.elim_some]
  by_cases g2 : S.1 < 2
  · rw [if_pos g2, if_pos (show nI S.1 < 2 from nI_lt (b := 2) g2 (by omega))]
  · rw [if_neg g2, if_neg (show ¬ nI S.1 < 2 from nI_nlt (b := 2) (by omega) (by omega))]
    obtain ⟨r0, r1, R0, R1, g1, g2', g3, g4⟩ := hg
    have e0 : Q 0 = S.2.1 S.1 := h8 0 (by omega)
    have e1 : Q 1 = S.2.1 (S.1 - 1) := h8 1 (by omega)
    rw [e0] at k3
    rw [e1] at l3
    have n0 := hw.2.2.2.1 S.1 (by omega) (by omega)
    have n1 := hw.2.2.2.1 (S.1 - 1) (by omega) (by omega)
    obtain ⟨f1, M, m1, m2, m3, m4, m5⟩ := k_mergeOf (N := N) (b := r0) (a0 := b + 11 + 3 * w 0) (a1 := b + 11 + 3 * w 1) hN (hw.2.1 S.1 (by omega)) (hw.2.1 (S.1 - 1) (by omega)) (by omega) (by omega) (by omega) g3 k3 l3
    have eg1 : f1 g = some (.inr (0, [.ref r0, .ref r1])) := (m3 g (by omega)).trans g2'
    have hst1 : k_st f1 b S := hst.fr m3 (by omega)
    have hmc := m2.c4
    have e6 : F_X0_merge N f g (b + 11 + 3 * w 0) (b + 11 + 3 * w 1) = some (some r0, f1) := by
      simp only [F_X0_merge, k_getr g2' (k := 0) rfl, g3.cv, m1, k_getr eg1 (k := 0) rfl, Option.bind_some]
    simp only [k_cv g2', e6, m2.n, Option.bind_some]
    by_cases g6 : 60 < M.1
    · refine ⟨f1, M, m4, by omega, ⟨r0, r1, M, R1, g1, eg1, m2, g4.fr m3 (by omega)⟩, k_fr2.ofg m3 (by omega) (by omega), ?_⟩
      rw [if_pos g6, if_neg (show ¬ nI M.1 ≤ 60 from nI_ge (a := 60) g6 (by omega))]
      exact ⟨rfl, hst1⟩
    · obtain ⟨f2, q1, q2, q3⟩ := k_copyFrom (N := N) (b := b + 11 + 3 * w 0) (a := r0) (k3.fr m3 (by omega)) m2 (by omega) (by omega)
      have o2 : f2 b = _ := (q3 b (by omega)).trans hst1.1
      have a2 : f2 (b + 4) = _ := (q3 _ (by omega)).trans ((m3 _ (by omega)).trans h5)
      have mg2 : k_row f2 r0 532 M := m2.fr q3 (by omega)
      have rows2 : ∀ j, j < 6 → k_row f2 (b + 11 + 3 * w j) 60 (if j = 0 then M else Q j) := fun j hj => by
        by_cases z : j = 0
        · rw [if_pos z, z]; exact q2
        · rw [if_neg z]
          have := h7 0 j (by omega) hj
          exact ((h6 j hj).2.2.fr m3 (by have := (h6 j hj).2.1; omega)).fr q3 (by omega)
      obtain ⟨f3, g', s1, s2, s3, s4⟩ := k_mo_loop (N := N) (b := b) (c3 := b + 11 + 3 * w 1) (c4 := r0) (x := [.int (nI S.1), .ref (b + 5), .int S.2.2.2.1, .int S.2.2.2.2.1, .int S.2.2.2.2.2.1, .int S.2.2.2.2.2.2]) (K := fun y5_20 g20 =>
          (x_getr g20 3 b 1).bind fun v21 =>
          (x_getr g20 3 b 1).bind fun v22 =>
          Option.bind v22 fun a23 =>
          (x_alen g20 a23).bind fun v24 =>
          Option.bind v21 fun a25 =>
          (x_astr g20 2 a25 (v24 - 1) (some (b + 11 + 3 * w 1))).bind fun f26 =>
          (x_geti f26 3 b 2).bind fun v27 =>
          (x_puti f26 3 b 2 (v27 - 1)).bind fun f28 =>
          (x_geti f28 2 r0 2).bind fun v29 =>
          some (v29, f28)) (fun _ _ => trivial) 4 N 2 f2 gg (by omega) (by omega) (by omega) o2 a2 (fun j hj => by
            obtain ⟨fs, hfs⟩ := (rows2 j hj).o
            exact ⟨_, fs, (h6 j hj).1, hfs, by omega⟩)
      have o3 : f3 b = _ := (s4 b (by omega)).trans o2
      have rows3 : ∀ j, j < 6 → k_row f3 (b + 11 + 3 * w j) 60 (if j = 0 then M else Q j) := fun j hj => (rows2 j hj).fr s4 (by omega)
      obtain ⟨fs1, hfs1⟩ := (rows3 1 (by omega)).o
      have z5 : nI 6 - 1 = nI 5 := nI_pred 5
      have st5 := k_astr s2 hfs1 (by omega) (i := 5) (by omega) (by omega)
      have o4 : x_up f3 (b + 4) (.inl (.object (x_cls 2), 6, .inr (.inr (.inr (.inr (va_up g' 5 (some (b + 11 + 3 * w 1)))))))) b = _ := (x_up_n (by omega)).trans o3
      have fr4 : k_fr f3 (x_up f3 (b + 4) (.inl (.object (x_cls 2), 6, .inr (.inr (.inr (.inr (va_up g' 5 (some (b + 11 + 3 * w 1))))))))) (b + 4) (b + 5) := k_fr.up (by omega) (by omega)
      generalize hF4 : x_up f3 (b + 4) (.inl (.object (x_cls 2), 6, .inr (.inr (.inr (.inr (va_up g' 5 (some (b + 11 + 3 * w 1)))))))) = f4 at *
      have hF4a : f4 (b + 4) = some (.inl (.object (x_cls 2), 6, .inr (.inr (.inr (.inr (va_up g' 5 (some (b + 11 + 3 * w 1)))))))) := by rw [← hF4]; exact x_up_s
      obtain ⟨c', hc'⟩ : ∃ c', S.1 = c' + 1 := ⟨S.1 - 1, by omega⟩
      have fr5 : k_fr f4 (x_up f4 b (.inr (3, [.ref (b + 1), .ref (b + 4), .int (nI c'), .ref (b + 5), .int S.2.2.2.1, .int S.2.2.2.2.1, .int S.2.2.2.2.2.1, .int S.2.2.2.2.2.2]))) b (b + 1) := k_fr.up (by omega) (by omega)
      have frA : k_fr2 f (x_up f4 b (.inr (3, [.ref (b + 1), .ref (b + 4), .int (nI c'), .ref (b + 5), .int S.2.2.2.1, .int S.2.2.2.2.1, .int S.2.2.2.2.2.1, .int S.2.2.2.2.2.2]))) b g := ((((k_fr2.ofg m3 (by omega) (by omega)).tr (k_fr2.ofb q3 (by omega) (by omega))).tr (k_fr2.ofb s4 (by omega) (by omega))).tr (k_fr2.ofb fr4 (by omega) (by omega))).tr (k_fr2.ofb fr5 (by omega) (by omega))
      have mg5 : k_row (x_up f4 b (.inr (3, [.ref (b + 1), .ref (b + 4), .int (nI c'), .ref (b + 5), .int S.2.2.2.1, .int S.2.2.2.2.1, .int S.2.2.2.2.2.1, .int S.2.2.2.2.2.2]))) r0 532 M := ((mg2.fr s4 (by omega)).fr fr4 (by omega)).fr fr5 (by omega)
      refine ⟨_, M, m4, by omega, ⟨r0, r1, M, R1, g1, ?_, mg5, ?_⟩, frA, ?_⟩
      · exact (fr5 g (by omega)).trans ((fr4 g (by omega)).trans ((s4 g (by omega)).trans ((q3 g (by omega)).trans eg1)))
      · exact ((((g4.fr m3 (by omega)).fr q3 (by omega)).fr s4 (by omega)).fr fr4 (by omega)).fr fr5 (by omega)
      · rw [if_neg g6, if_pos (show nI M.1 ≤ 60 from nI_le (b := 60) (by omega) (by omega))]
        refine ⟨?_, ?_⟩
        · simp only [(k3.fr m3 (show _ ∨ _ by omega)).cv, q1, Option.bind_some]
          rw [show (2 : Int32) = nI 2 from rfl, s1]
          simp only [k_getr o3 (k := 1) rfl, k_alenr s2, z5, st5, k_geti o4 (k := 2) rfl, k_puti o4 (k := 2) (by simp), Option.bind_some, List.set_cons_succ, List.set_cons_zero, hc', nI_pred, mg5.n]
        · have hc2 : S.1 - 1 = c' := by omega
          refine ⟨?_, by show S.1 - 1 ≤ 6; omega, ?_, ?_, va_up g' 5 (some (b + 11 + 3 * w 1)), fun i => if i = 0 then w 0 else if i < 5 then w (i + 1) else w 1, fun i => if i = 0 then M else if i < 5 then Q (i + 1) else Q 1, ?_, ?_, ?_, ?_⟩
          · show _ = (some (Sum.inr (3, [Value.ref (b + 1), .ref (b + 4), .int (nI (S.1 - 1)), .ref (b + 5), .int S.2.2.2.1, .int S.2.2.2.2.1, .int S.2.2.2.2.2.1, .int S.2.2.2.2.2.2])) : Option XE)
            rw [hc2]; exact x_up_s
          · show k_row _ (b + 1) 12 (if 0 = S.1 - 1 then M else S.2.1 0)
            rw [if_neg (by omega)]
            exact ((((h3.fr m3 (by omega)).fr q3 (by omega)).fr s4 (by omega)).fr fr4 (by omega)).fr fr5 (by omega)
          · exact ((((h4.fr m3 (by omega)).fr q3 (by omega)).fr s4 (by omega)).fr fr4 (by omega)).fr fr5 (by omega)
          · exact (fr5 _ (by omega)).trans hF4a
          · intro i hi
            have rr : ∀ j, j < 6 → k_row (x_up f4 b (.inr (3, [.ref (b + 1), .ref (b + 4), .int (nI c'), .ref (b + 5), .int S.2.2.2.1, .int S.2.2.2.2.1, .int S.2.2.2.2.2.1, .int S.2.2.2.2.2.2]))) (b + 11 + 3 * w j) 60 (if j = 0 then M else Q j) := fun j hj => ((rows3 j hj).fr fr4 (by omega)).fr fr5 (by omega)
            by_cases y0 : i = 0
            · subst y0
              refine ⟨?_, k2, rr 0 (by omega)⟩
              rw [k_vup_n (by omega), s3 0, if_neg (by omega)]
              exact k1
            · by_cases y5 : i < 5
              · simp only [if_neg y0, if_pos y5]
                have := rr (i + 1) (by omega)
                rw [if_neg (show ¬ i + 1 = 0 by omega)] at this
                refine ⟨?_, (h6 (i + 1) (by omega)).2.1, this⟩
                rw [k_vup_n (by omega), s3 i, if_pos (by omega)]
                exact (h6 (i + 1) (by omega)).1
              · simp only [if_neg y0, if_neg y5]
                have e5 : i = 5 := by omega
                subst e5
                exact ⟨k_vup_s, l2, rr 1 (by omega)⟩
          · intro i j hij hj
            have q0 := fun j (h : j < 6) (h' : 0 < j) => h7 0 j h' h
            by_cases y0 : i = 0
            · subst y0
              by_cases y5 : j < 5
              · simp only [if_pos rfl, if_neg (show ¬ j = 0 by omega), if_pos y5]; exact h7 0 (j + 1) (by omega) (by omega)
              · simp only [if_pos rfl, if_neg (show ¬ j = 0 by omega), if_neg y5]; exact h7 0 1 (by omega) (by omega)
            · by_cases y5 : j < 5
              · simp only [if_neg y0, if_neg (show ¬ j = 0 by omega), if_pos y5, if_pos (show i < 5 by omega)]; exact h7 (i + 1) (j + 1) (by omega) (by omega)
              · simp only [if_neg y0, if_neg (show ¬ j = 0 by omega), if_neg y5, if_pos (show i < 5 by omega)]; exact (h7 1 (i + 1) (by omega) (by omega)).symm
          · intro i hi
            have hi' : i < S.1 - 1 := hi
            show (if i = 0 then M else if i < 5 then Q (i + 1) else Q 1) = if S.1 - 1 - i = S.1 - 1 then M else S.2.1 (S.1 - 1 - i)
            by_cases y0 : i = 0
            · rw [if_pos y0, if_pos (by omega)]
            · rw [if_neg y0, if_pos (by omega), if_neg (by omega), h8 (i + 1) (by omega)]
              exact congrArg S.2.1 (by omega)
end KSM

