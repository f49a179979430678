/-! What is seen of the object: of its state alone. -/
def sn_r (S : KS) (r : Nat) (h : Int64) : Int64 := k_hf (fun i h => (31 : Int64) * ((31 : Int64) * h + ((S.2.1 r).2.1 i).toInt64) + (x_b (decide ((S.2.1 r).2.2 i = -1))).toInt64) (S.2.1 r).1 ((31 : Int64) * h + (nI (S.2.1 r).1).toInt64)
def sn_l (T : KT) (l : Nat) (h : Int64) : Int64 := k_hf (fun i h => (31 : Int64) * h + (T.1.2.1 (k_oe T l i)).toInt64) (k_own T l) ((31 : Int64) * ((31 : Int64) * ((31 : Int64) * h + (nI (k_own T l)).toInt64) + (nI (k_ovf T l)).toInt64) + (nI (k_ru (k_ovf T l) (k_u T.2.2.2.2.1))).toInt64)
noncomputable def sn_k (S : KS) (i : Nat) (h : Int64) : Int64 := (31 : Int64) * ((31 : Int64) * ((31 : Int64) * h + ((k_all S).2.1 i).toInt64) + (k_val S ((k_all S).2.1 i)).toInt64) + (nI (k_pg S ((k_all S).2.1 i))).toInt64
noncomputable def k_seen (S : KS) : Int64 := k_hf (sn_k S) (k_all S).1 (k_hf (sn_l S.2.2.1) S.2.2.1.2.2.1 (k_hf (sn_r S) (S.1 + 1) ((31 : Int64) * ((31 : Int64) * ((31 : Int64) * ((31 : Int64) * ((31 : Int64) * ((31 : Int64) * (357 : Int64) + (nI S.2.2.1.1.1).toInt64) + (nI S.2.2.1.2.2.1).toInt64) + S.2.2.2.2.2.1.toInt64) + S.2.2.2.2.2.2.toInt64) + (nI (k_lvb S 100)).toInt64) + (nI (k_llb S 50)).toInt64)))
theorem k_cnt_hit {q : Nat → Bool} : ∀ (n p : Nat), p < k_cnt q n → ∃ i, i < n ∧ q i = true ∧ k_cnt q i = p
  | 0, p, h => absurd h (Nat.not_lt_zero _)
  | n + 1, p, h => by
    cases y : q n with
    | true =>
      rw [k_cnt_y y] at h
      by_cases z : p < k_cnt q n
      · obtain ⟨i, h1, h2, h3⟩ := k_cnt_hit n p z
        exact ⟨i, by omega, h2, h3⟩
      · exact ⟨n, by omega, y, by omega⟩
    | false =>
      rw [k_cnt_n y] at h
      obtain ⟨i, h1, h2, h3⟩ := k_cnt_hit n p h
      exact ⟨i, by omega, h2, h3⟩
theorem k_oe_lt {T : KT} {l p : Nat} (h : p < k_own T l) : k_oe T l p < T.1.1 := by
  obtain ⟨i, h1, h2, h3⟩ := k_cnt_hit (q := k_oq T l) T.1.1 p h
  rw [← h3, k_oe_at h1 h2]
  exact h1
section KSN2
variable {N : Nat} {f : XM} {x wz c hs n len : Nat} {S : KS} {P : List KS} {KK : Nat → Option KS} {T : List Int32} {q : Nat → Option Nat} {St : Nat → KS} {bf : Nat → Int32}
theorem sn_98 (h : k_ci f x wz n q St S bf len) (hw : k_ws S) {r : Nat} (hr : r ≤ S.1) {K : Int64 → Int32 → Option (Int64 × XM)} (h0 : Int64) : ∀ (d fuel i : Nat), i + d = (S.2.1 r).1 → d < fuel →
    F_L_seen_L98 N f x (nI r) K fuel (k_hf (fun i h => (31 : Int64) * ((31 : Int64) * h + ((S.2.1 r).2.1 i).toInt64) + (x_b (decide ((S.2.1 r).2.2 i = -1))).toInt64) i h0) (nI i) = K (k_hf (fun i h => (31 : Int64) * ((31 : Int64) * h + ((S.2.1 r).2.1 i).toInt64) + (x_b (decide ((S.2.1 r).2.2 i = -1))).toInt64) (S.2.1 r).1 h0) (nI (S.2.1 r).1) := by
  have h6 := hw.1
  have hn60 : (S.2.1 r).1 ≤ 60 := by
    rcases Nat.eq_zero_or_pos r with z | z
    · rw [z]; have := hw.2.2.1; omega
    · exact hw.2.2.2.1 r z hr
  have gr : 0 ≤ (nI r).toInt ∧ (nI r).toInt ≤ S.1 := by rw [nI_toInt (by omega)]; omega
  intro d
  induction d with
  | zero =>
    intro fuel i h1 h2
    obtain ⟨k, rfl⟩ : ∃ k, fuel = k + 1 := ⟨fuel - 1, by omega⟩
    obtain rfl : i = (S.2.1 r).1 := by omega
    rw [F_L_seen_L98]
    simp only [h.cv, q_sz (N := N) h, qa_sz, if_pos gr, k_u_n (show r < 2 ^ 31 by omega), Option.bind_some, x_se]
    rw [if_pos (nI_le (Nat.le_refl _) (by omega))]
  | succ d ih =>
    intro fuel i h1 h2
    obtain ⟨k, rfl⟩ : ∃ k, fuel = k + 1 := ⟨fuel - 1, by omega⟩
    have gp : (0 ≤ (nI r).toInt ∧ (nI r).toInt ≤ S.1) ∧ 0 ≤ (nI i).toInt ∧ (nI i).toInt < (S.2.1 r).1 := ⟨gr, by rw [nI_toInt (by omega)]; omega⟩
    have hi := ih k (i + 1) (by omega) (by omega)
    rw [F_L_seen_L98]
    simp only [h.cv, q_sz (N := N) h, qa_sz, if_pos gr, k_u_n (show r < 2 ^ 31 by omega), Option.bind_some, x_se, q_ki (N := N) h, qa_ki, if_pos gp, q_go (N := N) h, qa_go, k_u_n (show i < 2 ^ 31 by omega)]
    rw [if_neg (nI_ge (by omega) (by omega))]
    by_cases gv : (S.2.1 r).2.2 i = -1
    · rw [decide_eq_true gv, if_neg (by decide), k_add1]
      rw [k_hf, decide_eq_true gv] at hi
      exact hi
    · rw [decide_eq_false gv, if_pos (show x_b false = 0 from rfl), k_add1]
      rw [k_hf, decide_eq_false gv] at hi
      exact hi
theorem sn_74 (hN : 50000 ≤ N) (h : k_ci f x wz n q St S bf len) (hw : k_ws S) {K : Int64 → Int32 → Option (Int64 × XM)} (h0 : Int64) : ∀ (d fuel i : Nat), i + d = S.1 + 1 → d < fuel →
    F_L_seen_L74 N f x K fuel (k_hf (sn_r S) i h0) (nI i) = K (k_hf (sn_r S) (S.1 + 1) h0) (nI (S.1 + 1)) := by
  have h6 := hw.1
  intro d
  induction d with
  | zero =>
    intro fuel i h1 h2
    obtain ⟨k, rfl⟩ : ∃ k, fuel = k + 1 := ⟨fuel - 1, by omega⟩
    obtain rfl : i = S.1 + 1 := by omega
    rw [F_L_seen_L74]
    simp only [h.cv, q_runs (N := N) h, Option.bind_some]
    rw [if_pos (nI_lt (by omega) (by omega))]
  | succ d ih =>
    intro fuel i h1 h2
    obtain ⟨k, rfl⟩ : ∃ k, fuel = k + 1 := ⟨fuel - 1, by omega⟩
    have hn60 : (S.2.1 i).1 ≤ 60 := by
      rcases Nat.eq_zero_or_pos i with z | z
      · rw [z]; have := hw.2.2.1; omega
      · exact hw.2.2.2.1 i z (by omega)
    have gr : 0 ≤ (nI i).toInt ∧ (nI i).toInt ≤ S.1 := by rw [nI_toInt (by omega)]; omega
    have hl := sn_98 (N := N) h hw (r := i) (by omega) (K := fun y1_26 y4_26 => F_L_seen_L74 N f x K k y1_26 (nI i + 1)) ((31 : Int64) * (k_hf (sn_r S) i h0) + (nI (S.2.1 i).1).toInt64) (S.2.1 i).1 N 0 (by omega) (by omega)
    have hi := ih k (i + 1) (by omega) (by omega)
    rw [F_L_seen_L74]
    simp only [h.cv, q_runs (N := N) h, Option.bind_some, q_sz (N := N) h, qa_sz, if_pos gr, k_u_n (show i < 2 ^ 31 by omega), x_se]
    rw [if_neg (nI_nlt (by omega) (by omega))]
    refine Eq.trans hl ?_
    rw [k_add1]
    exact hi
theorem sn_204 (hN : 50000 ≤ N) (h : k_ci f x wz n q St S bf len) (hw : k_ws S) {l : Nat} (hl : l < S.2.2.1.2.2.1) {K : Int64 → Int32 → Option (Int64 × XM)} (h0 : Int64) : ∀ (d fuel i : Nat), i + d = k_own S.2.2.1 l → d < fuel →
    F_L_seen_L204 N f x (nI l) K fuel (k_hf (fun i h => (31 : Int64) * h + (S.2.2.1.1.2.1 (k_oe S.2.2.1 l i)).toInt64) i h0) (nI i) = K (k_hf (fun i h => (31 : Int64) * h + (S.2.2.1.1.2.1 (k_oe S.2.2.1 l i)).toInt64) (k_own S.2.2.1 l) h0) (nI (k_own S.2.2.1 l)) := by
  have h512 := hw.2.2.2.2.1.2.2.2.1
  have h160 := hw.2.2.2.2.1.2.2.1
  have hown : k_own S.2.2.1 l ≤ S.2.2.1.1.1 := k_cnt_le _ _
  have gl : 0 ≤ (nI l).toInt ∧ (nI l).toInt < S.2.2.1.2.2.1 := by rw [nI_toInt (by omega)]; omega
  intro d
  induction d with
  | zero =>
    intro fuel i h1 h2
    obtain ⟨k, rfl⟩ : ∃ k, fuel = k + 1 := ⟨fuel - 1, by omega⟩
    obtain rfl : i = k_own S.2.2.1 l := by omega
    rw [F_L_seen_L204]
    simp only [h.cv, q_own hN h hw, qa_own, if_pos gl, k_u_n (show l < 2 ^ 31 by omega), Option.bind_some, x_se]
    rw [if_pos (nI_le (Nat.le_refl _) (by omega))]
  | succ d ih =>
    intro fuel i h1 h2
    obtain ⟨k, rfl⟩ : ∃ k, fuel = k + 1 := ⟨fuel - 1, by omega⟩
    have ho := k_oe_lt (T := S.2.2.1) (l := l) (p := i) (by omega)
    have gp : (0 ≤ (nI l).toInt ∧ (nI l).toInt < S.2.2.1.2.2.1) ∧ 0 ≤ (nI i).toInt ∧ k_oe S.2.2.1 l i < S.2.2.1.1.1 := ⟨gl, by rw [nI_toInt (by omega)]; omega, ho⟩
    have hi := ih k (i + 1) (by omega) (by omega)
    rw [F_L_seen_L204]
    simp only [h.cv, q_own hN h hw, qa_own, if_pos gl, k_u_n (show l < 2 ^ 31 by omega), Option.bind_some, x_se, q_lk hN h hw, qa_lk, k_u_n (show i < 2 ^ 31 by omega), if_pos gp]
    rw [if_neg (nI_ge (by omega) (by omega)), k_add1]
    exact hi
theorem sn_158 (hN : 50000 ≤ N) (h : k_ci f x wz n q St S bf len) (hw : k_ws S) {K : Int64 → Int32 → Option (Int64 × XM)} (h0 : Int64) : ∀ (d fuel i : Nat), i + d = S.2.2.1.2.2.1 → d < fuel →
    F_L_seen_L158 N f x K fuel (k_hf (sn_l S.2.2.1) i h0) (nI i) = K (k_hf (sn_l S.2.2.1) S.2.2.1.2.2.1 h0) (nI S.2.2.1.2.2.1) := by
  have h512 := hw.2.2.2.2.1.2.2.2.1
  have h160 := hw.2.2.2.2.1.2.2.1
  intro d
  induction d with
  | zero =>
    intro fuel i h1 h2
    obtain ⟨k, rfl⟩ : ∃ k, fuel = k + 1 := ⟨fuel - 1, by omega⟩
    obtain rfl : i = S.2.2.1.2.2.1 := by omega
    rw [F_L_seen_L158]
    simp only [h.cv, q_leaves (N := N) h, Option.bind_some]
    rw [if_pos (nI_le (Nat.le_refl _) (by omega))]
  | succ d ih =>
    intro fuel i h1 h2
    obtain ⟨k, rfl⟩ : ∃ k, fuel = k + 1 := ⟨fuel - 1, by omega⟩
    have hown : k_own S.2.2.1 i ≤ S.2.2.1.1.1 := k_cnt_le _ _
    have gl : 0 ≤ (nI i).toInt ∧ (nI i).toInt < S.2.2.1.2.2.1 := by rw [nI_toInt (by omega)]; omega
    have hl := sn_204 (N := N) hN h hw (l := i) (by omega) (K := fun y1_46 y4_46 => F_L_seen_L158 N f x K k y1_46 (nI i + 1)) ((31 : Int64) * ((31 : Int64) * ((31 : Int64) * (k_hf (sn_l S.2.2.1) i h0) + (nI (k_own S.2.2.1 i)).toInt64) + (nI (k_ovf S.2.2.1 i)).toInt64) + (nI (k_ru (k_ovf S.2.2.1 i) (k_u S.2.2.1.2.2.2.2.1))).toInt64) (k_own S.2.2.1 i) N 0 (by omega) (by omega)
    have hi := ih k (i + 1) (by omega) (by omega)
    rw [F_L_seen_L158]
    simp only [h.cv, q_leaves (N := N) h, Option.bind_some, q_own hN h hw, qa_own, q_ov hN h hw, qa_ov, q_ol hN h hw, qa_ol, if_pos gl, k_u_n (show i < 2 ^ 31 by omega), x_se]
    rw [if_neg (nI_ge (by omega) (by omega))]
    refine Eq.trans hl ?_
    rw [k_add1]
    exact hi
theorem sn_243 (hN : 50000 ≤ N) {K : Int64 → Int32 → XM → Option (Int64 × XM)} (h0 : Int64) (hA : k_okA S) : ∀ (d fuel i : Nat) (f : XM), i + d = (k_all S).1 → d < fuel → k_wd x wz c S P KK T f →
    ∃ f', F_L_seen_L243 N x K fuel (k_hf (sn_k S) i h0) (nI i) f = K (k_hf (sn_k S) (k_all S).1 h0) (nI (k_all S).1) f' ∧ (∀ a, x + 70 ≤ a → a < wz → f' a = f a) ∧ k_wd x wz c S P KK T f' := by
  have hlt := hA.2
  intro d
  induction d with
  | zero =>
    intro fuel i f h1 h2 hw
    obtain ⟨k, rfl⟩ : ∃ k, fuel = k + 1 := ⟨fuel - 1, by omega⟩
    obtain rfl : i = (k_all S).1 := by omega
    obtain ⟨f1, a1, a2, a3⟩ := hw.q1 (G := fun f1 => (nI (k_all S).1, f1)) (fun q St bf h => q_found hN h hw.gd.1)
    refine ⟨f1, ?_, a2, a3⟩
    rw [F_L_seen_L243]
    simp only [hw.cv, a1, Option.bind_some]
    rw [if_pos (nI_le (Nat.le_refl _) (by omega))]
  | succ d ih =>
    intro fuel i f h1 h2 hw
    obtain ⟨k, rfl⟩ : ∃ k, fuel = k + 1 := ⟨fuel - 1, by omega⟩
    have gp : 0 ≤ (nI i).toInt ∧ (nI i).toInt < (k_all S).1 := by rw [nI_toInt (by omega)]; omega
    have eka : qa_ka S (nI i) = .inl ((k_all S).2.1 i) := by unfold qa_ka; rw [if_pos gp, k_u_n (by omega)]
    have hkey := hA.1.1.2 i (by omega)
    have gk : 0 ≤ ((k_all S).2.1 i).toInt ∧ ((k_all S).2.1 i).toInt ≤ 9999 := by omega
    have hv := (k_all_v hA.1 (i := i) (by omega))
    have eva : qa_val S ((k_all S).2.1 i) = .inl (k_val S ((k_all S).2.1 i)) := by unfold qa_val; rw [if_pos gk, if_neg (by rw [hv.1]; exact hv.2)]
    have epg : qa_pg S ((k_all S).2.1 i) = .inl (nI (k_pg S ((k_all S).2.1 i))) := by unfold qa_pg; rw [if_pos gk]
    obtain ⟨f1, a1, a2, a3⟩ := hw.q1 (G := fun f1 => (nI (k_all S).1, f1)) (fun q St bf h => q_found hN h hw.gd.1)
    obtain ⟨f2, b1, b2, b3⟩ := a3.q1 (G := fun f1 => qm (qa_ka S (nI i)) f1) (fun q St bf h => q_ka hN h hw.gd.1 (nI i))
    obtain ⟨f3, c1, c2, c3⟩ := b3.q1 (G := fun f1 => qm (qa_ka S (nI i)) f1) (fun q St bf h => q_ka hN h hw.gd.1 (nI i))
    obtain ⟨f4, d1, d2, d3⟩ := c3.q1 (G := fun f1 => qm (qa_ka S (nI i)) f1) (fun q St bf h => q_ka hN h hw.gd.1 (nI i))
    rw [eka] at b1 c1 d1
    obtain ⟨q3, St3, bf3, h3, w3⟩ := c3.ci
    obtain ⟨q4, St4, bf4, h4, w4⟩ := d3.ci
    obtain ⟨f5, e1, e2, e3⟩ := ih k (i + 1) f4 (by omega) (by omega) d3
    refine ⟨f5, ?_, fun a y1 y2 => (e2 a y1 y2).trans ((d2 a y1 y2).trans ((c2 a y1 y2).trans ((b2 a y1 y2).trans (a2 a y1 y2)))), e3⟩
    rw [F_L_seen_L243]
    simp only [hw.cv, a1, Option.bind_some]
    rw [if_neg (nI_ge (by omega) (by omega))]
    simp only [a3.cv, b1, Option.bind_some, qm, x_se, b3.cv, c1, c3.cv, q_val hN h3 w3, eva, d1, d3.cv, q_pg hN h4 w4, epg, k_add1]
    exact e1
theorem k_sees (hN : 50000 ≤ N) (h : k_wd x wz c S P KK T f) : ∃ f', F_L_seen N f x = some (k_seen S, f') ∧ (∀ a, x + 70 ≤ a → a < wz → f' a = f a) ∧ k_wd x wz c S P KK T f' := by
  obtain ⟨q0, St0, bf0, h0, w0⟩ := h.ci
  have hA := h0.okA (N := N) (by omega) w0
  obtain ⟨f1, a1, a2, a3⟩ := h.q1 (G := fun f1 => qm (qa_lb S 100) f1) (fun q St bf h1 => q_lb hN h1 w0 100)
  obtain ⟨f2, b1, b2, b3⟩ := a3.q1 (G := fun f1 => qm (qa_ll S 50) f1) (fun q St bf h1 => q_ll hN h1 w0 50)
  have e1 : qa_lb S 100 = .inl (nI (k_lvb S 100)) := by
    unfold qa_lb
    rw [if_pos (by decide), show k_u (100 : Int32) = 100 by decide]
  have e2 : qa_ll S 50 = .inl (nI (k_llb S 50)) := by
    unfold qa_ll
    rw [if_pos (by decide), show k_u (50 : Int32) = 50 by decide]
  rw [e1] at a1
  rw [e2] at b1
  obtain ⟨q2, St2, bf2, h2, w2⟩ := b3.ci
  have h6 := w0.1
  have h512 := w0.2.2.2.2.1.2.2.2.1
  obtain ⟨H, hH⟩ : ∃ H : Int64, H = ((31 : Int64) * ((31 : Int64) * ((31 : Int64) * ((31 : Int64) * ((31 : Int64) * ((31 : Int64) * (357 : Int64) + (nI S.2.2.1.1.1).toInt64) + (nI S.2.2.1.2.2.1).toInt64) + S.2.2.2.2.2.1.toInt64) + S.2.2.2.2.2.2.toInt64) + (nI (k_lvb S 100)).toInt64) + (nI (k_llb S 50)).toInt64) := ⟨_, rfl⟩
  have hks : k_seen S = k_hf (sn_k S) (k_all S).1 (k_hf (sn_l S.2.2.1) S.2.2.1.2.2.1 (k_hf (sn_r S) (S.1 + 1) H)) := by rw [hH]; rfl
  obtain ⟨f3, c1, c2, c3⟩ := sn_243 (N := N) hN (K := fun y1_65 y3_65 g65 => some (y1_65, g65)) (k_hf (sn_l S.2.2.1) S.2.2.1.2.2.1 (k_hf (sn_r S) (S.1 + 1) H)) hA (k_all S).1 N 0 f2 (by omega) (by have := hA.2; omega) b3
  refine ⟨f3, ?_, fun a y1 y2 => (c2 a y1 y2).trans ((b2 a y1 y2).trans (a2 a y1 y2)), c3⟩
  unfold F_L_seen
  simp only [h.cv, q_entries (N := N) h0, q_leaves (N := N) h0, q_builds (N := N) h0, q_written (N := N) h0, a1, Option.bind_some, qm, x_se, a3.cv, b1]
  rw [← hH, hks]
  refine (sn_74 (N := N) hN h2 w2 H (S.1 + 1) N 0 (by omega) (by omega)).trans ?_
  refine (sn_158 (N := N) hN h2 w2 _ S.2.2.1.2.2.1 N 0 (by omega) (by omega)).trans ?_
  exact c1
end KSN2
