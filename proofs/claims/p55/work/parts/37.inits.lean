/-! Rows, trees, states as they are made. -/
def k_R0 : KR := (0, fun _ => 0, fun _ => 0)
def k_T0 : KT := (k_R0, (fun _ => 0), 0, (fun _ => 0), 0, 0)
def k_S0 : KS := (0, (fun _ => k_R0), k_T0, 4, 3, 0, 0)
section KIN
variable {wz : Nat}
variable {N : Nat} {f : XM} {b : Nat}
theorem k_newi {n : Nat} (hn : n ≤ 1000000) : x_newi (f, b) (nI n) = some (b, (x_up f b (.inl (.int, n, .inl (fun _ => 0))), b + 1)) := by
  have h1 : (nI n).toNatClampNeg = n := nI_clamp (by omega)
  unfold x_newi
  rw [h1, if_neg (by rintro (z | z); exact nI_pos (by omega) z; omega)]
theorem k_newr {ci n : Nat} (hn : n ≤ 1000000) : x_newr (f, b) ci (nI n) = some (b, (x_up f b (.inl (.object (x_cls ci), n, .inr (.inr (.inr (.inr (fun _ => none)))))), b + 1)) := by
  have h1 : (nI n).toNatClampNeg = n := nI_clamp (by omega)
  unfold x_newr
  rw [h1, if_neg (by rintro (z | z); exact nI_pos (by omega) z; omega)]
theorem k_rinit {c : Nat} (hc : c ≤ 4000) : ∃ f', F_X2_init N (x_up f b (.inr (2, [.null, .null, .int 0])), b + 1) b (nI c) = some (f', b + 3) ∧ k_row f' b c k_R0 ∧ k_fr f f' b (b + 3) := by
  have e1 : x_imax (nI c) 0 = nI c := by
    have := k_imax c 0 (by omega) (by omega)
    rw [Nat.max_eq_left (by omega)] at this
    exact this
  have o1 : x_up (x_up f b (.inr (2, [.null, .null, .int 0]))) (b + 1) (.inl (.int, c, .inl (fun _ => 0))) b = some (.inr (2, [.null, .null, .int 0])) := (x_up_n (by omega)).trans x_up_s
  have o2 : x_up (x_up (x_up (x_up f b (.inr (2, [.null, .null, .int 0]))) (b + 1) (.inl (.int, c, .inl (fun _ => 0)))) b (.inr (2, [.ref (b + 1), .null, .int 0]))) (b + 2) (.inl (.int, c, .inl (fun _ => 0))) b = some (.inr (2, [.ref (b + 1), .null, .int 0])) := (x_up_n (by omega)).trans x_up_s
  refine ⟨x_up (x_up (x_up (x_up (x_up f b (.inr (2, [.null, .null, .int 0]))) (b + 1) (.inl (.int, c, .inl (fun _ => 0)))) b (.inr (2, [.ref (b + 1), .null, .int 0]))) (b + 2) (.inl (.int, c, .inl (fun _ => 0)))) b (.inr (2, [.ref (b + 1), .ref (b + 2), .int 0])), ?_, ⟨Nat.zero_le _, hc, (fun _ => 0), (fun _ => 0), x_up_s, (x_up_n (by omega)).trans ((x_up_n (by omega)).trans ((x_up_n (by omega)).trans x_up_s)), (x_up_n (by omega)).trans x_up_s, fun i hi => rfl, fun i hi => rfl⟩, ((((k_fr.up (by omega) (by omega)).upd (by omega) (by omega)).upd (by omega) (by omega)).upd (by omega) (by omega)).upd (by omega) (by omega)⟩
  simp only [F_X2_init, e1, k_newi (f := x_up f b (.inr (2, [.null, .null, .int 0]))) (b := b + 1) (n := c) (by omega), Option.bind_some, k_putr o1 (k := 0) (by simp), List.set_cons_succ, List.set_cons_zero, k_newi (f := x_up (x_up (x_up f b (.inr (2, [.null, .null, .int 0]))) (b + 1) (.inl (.int, c, .inl (fun _ => 0)))) b (.inr (2, [.ref (b + 1), .null, .int 0]))) (b := b + 1 + 1) (n := c) (by omega), k_putr o2 (k := 1) (by simp)]
theorem k_tinit : ∃ f', F_X4_init N (x_up f b (.inr (4, [.null, .null, .null, .int 0, .int 0, .int 0])), b + 1) b = some (f', b + 6) ∧ k_tree f' b k_T0 ∧ k_fr f f' b (b + 6) := by
  obtain ⟨f1, q1, q2, q3⟩ := k_rinit (N := N) (f := x_up f b (.inr (4, [.null, .null, .null, .int 0, .int 0, .int 0]))) (b := b + 1) (c := 160) (by omega)
  have o1 : f1 b = some (.inr (4, [.null, .null, .null, .int 0, .int 0, .int 0])) := (q3 b (by omega)).trans x_up_s
  have o2 : x_up (x_up f1 b (.inr (4, [.ref (b + 1), .null, .null, .int 0, .int 0, .int 0]))) (b + 4) (.inl (.int, 160, .inl (fun _ => 0))) b = _ := (x_up_n (by omega)).trans x_up_s
  have o3 : x_up (x_up (x_up (x_up f1 b (.inr (4, [.ref (b + 1), .null, .null, .int 0, .int 0, .int 0]))) (b + 4) (.inl (.int, 160, .inl (fun _ => 0)))) b (.inr (4, [.ref (b + 1), .ref (b + 4), .null, .int 0, .int 0, .int 0]))) (b + 5) (.inl (.int, 512, .inl (fun _ => 0))) b = _ := (x_up_n (by omega)).trans x_up_s
  have fr1 : k_fr f f1 b (b + 6) := (k_fr.up (a := b) (by omega) (by omega)).tr (q3.wd (by omega) (by omega))
  refine ⟨x_up (x_up (x_up (x_up (x_up f1 b (.inr (4, [.ref (b + 1), .null, .null, .int 0, .int 0, .int 0]))) (b + 4) (.inl (.int, 160, .inl (fun _ => 0)))) b (.inr (4, [.ref (b + 1), .ref (b + 4), .null, .int 0, .int 0, .int 0]))) (b + 5) (.inl (.int, 512, .inl (fun _ => 0)))) b (.inr (4, [.ref (b + 1), .ref (b + 4), .ref (b + 5), .int 0, .int 0, .int 0])), ?_, ⟨x_up_s, q2.ext (fun q _ _ => (x_up_n (by omega)).trans ((x_up_n (by omega)).trans ((x_up_n (by omega)).trans ((x_up_n (by omega)).trans (x_up_n (by omega)))))), ⟨(fun _ => 0), (x_up_n (by omega)).trans ((x_up_n (by omega)).trans ((x_up_n (by omega)).trans x_up_s)), fun i hi => rfl⟩, ⟨(fun _ => 0), (x_up_n (by omega)).trans x_up_s, fun i hi => rfl⟩, by show 0 ≤ 512; omega⟩, ((((fr1.upd (by omega) (by omega)).upd (by omega) (by omega)).upd (by omega) (by omega)).upd (by omega) (by omega)).upd (by omega) (by omega)⟩
  have q1' : F_X2_init N (x_up (x_up f b (.inr (4, [.null, .null, .null, .int 0, .int 0, .int 0]))) (b + 1) (.inr (2, [.null, .null, .int 0])), b + 1 + 1) (b + 1) 160 = some (f1, b + 1 + 3) := q1
  simp only [F_X4_init, x_new, Option.bind_some, k_lit 160, q1, k_putr o1 (k := 0) (by simp), List.set_cons_succ, List.set_cons_zero, k_newi (f := x_up f1 b (.inr (4, [.ref (b + 1), .null, .null, .int 0, .int 0, .int 0]))) (b := b + 1 + 3) (n := 160) (by omega), k_putr o2 (k := 1) (by simp), k_lit 512, k_newi (f := x_up (x_up (x_up f1 b (.inr (4, [.ref (b + 1), .null, .null, .int 0, .int 0, .int 0]))) (b + 4) (.inl (.int, 160, .inl (fun _ => 0)))) b (.inr (4, [.ref (b + 1), .ref (b + 4), .null, .int 0, .int 0, .int 0]))) (b := b + 4 + 1) (n := 512) (by omega), k_putr o3 (k := 2) (by simp)]
/-- the closed rows, i of them made -/
theorem k_sinit_loop {x : List Value} : ∀ (d fuel i : Nat) (f : XM) (g : Nat → Option Nat), i + d = 6 → d < fuel → f b = some (.inr (3, .ref (b + 1) :: .ref (b + 4) :: x)) → f (b + 4) = some (.inl (.object (x_cls 2), 6, .inr (.inr (.inr (.inr g))))) →
    ∃ (f' : XM) (g' : Nat → Option Nat), F_X3_init_L49 N b (fun _ g20 => some (g20.1, g20.2)) fuel (nI i) (f, b + 11 + 3 * i) = some (f', b + 29) ∧ f' (b + 4) = some (.inl (.object (x_cls 2), 6, .inr (.inr (.inr (.inr g'))))) ∧ (∀ j, j < i → g' j = g j) ∧ (∀ j, i ≤ j → j < 6 → g' j = some (b + 11 + 3 * j) ∧ k_row f' (b + 11 + 3 * j) 60 k_R0) ∧ (∀ q, q ≠ b + 4 → ¬ (b + 11 + 3 * i ≤ q ∧ q < b + 29) → f' q = f q) := by
  intro d
  induction d with
  | zero =>
    intro fuel i f g h1 h2 h3 h4
    obtain ⟨u, rfl⟩ : ∃ u, fuel = u + 1 := ⟨fuel - 1, by omega⟩
    have e : i = 6 := by omega
    subst e
    refine ⟨f, g, ?_, h4, fun j _ => rfl, fun j a b => absurd b (by omega), fun q _ _ => rfl⟩
    simp only [F_X3_init_L49, k_getr h3 (k := 1) rfl, k_alenr h4, Option.bind_some]
    rw [if_pos (nI_le (Nat.le_refl _) (by omega))]
  | succ d ih =>
    intro fuel i f g h1 h2 h3 h4
    obtain ⟨u, rfl⟩ : ∃ u, fuel = u + 1 := ⟨fuel - 1, by omega⟩
    obtain ⟨f1, q1, q2, q3⟩ := k_rinit (N := N) (f := f) (b := b + 11 + 3 * i) (c := 60) (by omega)
    have o3 : f1 b = _ := (q3 b (by omega)).trans h3
    have o4 : f1 (b + 4) = _ := (q3 _ (by omega)).trans h4
    obtain ⟨fs, hfs⟩ := q2.o
    obtain ⟨f', g', r1, r2, r3, r4, r5⟩ := ih u (i + 1) (x_up f1 (b + 4) (.inl (.object (x_cls 2), 6, .inr (.inr (.inr (.inr (va_up g i (some (b + 11 + 3 * i))))))))) _ (by omega) (by omega) ((x_up_n (by omega)).trans o3) x_up_s
    refine ⟨f', g', ?_, r2, fun j hj => ?_, fun j h5 h6 => ?_, fun q h5 h6 => ?_⟩
    · simp only [F_X3_init_L49, k_getr h3 (k := 1) rfl, k_alenr h4, Option.bind_some]
      rw [if_neg (nI_ge (by omega) (by omega))]
      have q1' : F_X2_init N (x_up f (b + 11 + 3 * i) (.inr (2, [.null, .null, .int 0])), b + 11 + 3 * i + 1) (b + 11 + 3 * i) 60 = some (f1, b + 11 + 3 * i + 3) := q1
      simp only [x_new, Option.bind_some, q1', k_astr o4 hfs (by omega) (i := i) (by omega) (by omega), k_add1]
      exact r1
    · rw [r3 j (by omega), k_vup_n (by omega)]
    · by_cases z : j = i
      · subst z
        exact ⟨by rw [r3 j (by omega), k_vup_s], q2.ext (fun q a c => (r5 q (by omega) (by omega)).trans (x_up_n (by omega)))⟩
      · exact r4 j (by omega) h6
    · rw [r5 q h5 (by omega), x_up_n h5, q3 q (by omega)]
theorem k_sinit : ∃ f', F_X3_init N (x_up f b (.inr (3, [.null, .null, .int 0, .null, .int 0, .int 0, .int 0, .int 0])), b + 1) b = some (f', b + 29) ∧ k_st f' b k_S0 ∧ k_fr f f' b (b + 29) := by
  obtain ⟨f1, q1, q2, q3⟩ := k_rinit (N := N) (f := x_up f b (.inr (3, [.null, .null, .int 0, .null, .int 0, .int 0, .int 0, .int 0]))) (b := b + 1) (c := 12) (by omega)
  have o1 : f1 b = some (.inr (3, [.null, .null, .int 0, .null, .int 0, .int 0, .int 0, .int 0])) := (q3 b (by omega)).trans x_up_s
  have fr1 : k_fr f f1 b (b + 29) := (k_fr.up (a := b) (by omega) (by omega)).tr (q3.wd (by omega) (by omega))
  have o2 : x_up (x_up f1 b (.inr (3, [.ref (b + 1), .null, .int 0, .null, .int 0, .int 0, .int 0, .int 0]))) (b + 4) (.inl (.object (x_cls 2), 6, .inr (.inr (.inr (.inr (fun _ => none)))))) b = _ := (x_up_n (by omega)).trans x_up_s
  have a3 : x_up (x_up (x_up f1 b (.inr (3, [.ref (b + 1), .null, .int 0, .null, .int 0, .int 0, .int 0, .int 0]))) (b + 4) (.inl (.object (x_cls 2), 6, .inr (.inr (.inr (.inr (fun _ => none))))))) b (.inr (3, [.ref (b + 1), .ref (b + 4), .int 0, .null, .int 0, .int 0, .int 0, .int 0])) (b + 4) = _ := (x_up_n (by omega)).trans x_up_s
  have fr3 : k_fr f (x_up (x_up (x_up f1 b (.inr (3, [.ref (b + 1), .null, .int 0, .null, .int 0, .int 0, .int 0, .int 0]))) (b + 4) (.inl (.object (x_cls 2), 6, .inr (.inr (.inr (.inr (fun _ => none))))))) b (.inr (3, [.ref (b + 1), .ref (b + 4), .int 0, .null, .int 0, .int 0, .int 0, .int 0]))) b (b + 29) := ((fr1.upd (by omega) (by omega)).upd (by omega) (by omega)).upd (by omega) (by omega)
  have q2' : k_row (x_up (x_up (x_up f1 b (.inr (3, [.ref (b + 1), .null, .int 0, .null, .int 0, .int 0, .int 0, .int 0]))) (b + 4) (.inl (.object (x_cls 2), 6, .inr (.inr (.inr (.inr (fun _ => none))))))) b (.inr (3, [.ref (b + 1), .ref (b + 4), .int 0, .null, .int 0, .int 0, .int 0, .int 0]))) (b + 1) 12 k_R0 := q2.ext (fun q _ _ => (x_up_n (by omega)).trans ((x_up_n (by omega)).trans (x_up_n (by omega))))
  have b3 : x_up (x_up (x_up f1 b (.inr (3, [.ref (b + 1), .null, .int 0, .null, .int 0, .int 0, .int 0, .int 0]))) (b + 4) (.inl (.object (x_cls 2), 6, .inr (.inr (.inr (.inr (fun _ => none))))))) b (.inr (3, [.ref (b + 1), .ref (b + 4), .int 0, .null, .int 0, .int 0, .int 0, .int 0])) b = some (.inr (3, [.ref (b + 1), .ref (b + 4), .int 0, .null, .int 0, .int 0, .int 0, .int 0])) := x_up_s
  have p2 := k_putr (r := b + 4) o2 (k := 1) (by simp)
  generalize hF : x_up (x_up (x_up f1 b (.inr (3, [.ref (b + 1), .null, .int 0, .null, .int 0, .int 0, .int 0, .int 0]))) (b + 4) (.inl (.object (x_cls 2), 6, .inr (.inr (.inr (.inr (fun _ => none))))))) b (.inr (3, [.ref (b + 1), .ref (b + 4), .int 0, .null, .int 0, .int 0, .int 0, .int 0])) = F3 at *
  have p2' : x_putr (x_up (x_up f1 b (.inr (3, [.ref (b + 1), .null, .int 0, .null, .int 0, .int 0, .int 0, .int 0]))) (b + 4) (.inl (.object (x_cls 2), 6, .inr (.inr (.inr (.inr (fun _ => none))))))) 3 b 1 (some (b + 4)) = some F3 := by rw [p2, ← hF]; rfl
  obtain ⟨f4, t1, t2, t3⟩ := k_tinit (N := N) (f := F3) (b := b + 5)
  have b4 : f4 b = _ := (t3 b (by omega)).trans b3
  have fr4 : ∀ e, k_fr f4 (x_up f4 b e) b (b + 1) := fun e => k_fr.up (by omega) (by omega)
  have c1 : ∀ e e', x_up (x_up f4 b e) b e' = x_up f4 b e' := fun e e' => by
    funext q
    unfold x_up
    split <;> rfl
  obtain ⟨f', g', r1, r2, r3, r4, r5⟩ := k_sinit_loop (N := N) (b := b) (x := [.int 0, .ref (b + 5), .int 4, .int 3, .int 0, .int 0]) 6 7 0 (x_up f4 b (.inr (3, [.ref (b + 1), .ref (b + 4), .int 0, .ref (b + 5), .int 4, .int 3, .int 0, .int 0]))) (fun _ => none) (by omega) (by omega) x_up_s ((fr4 _ _ (by omega)).trans ((t3 _ (by omega)).trans a3))
  refine ⟨f', ?_, ⟨(r5 b (by omega) (by omega)).trans x_up_s, by show 0 ≤ 6; omega, ?_, ?_, g', id, fun _ => k_R0, r2, fun i hi => ⟨(r4 i (by omega) hi).1, hi, (r4 i (by omega) hi).2⟩, fun i j h1 h2 => by show i ≠ j; omega, fun i hi => absurd hi (Nat.not_lt_zero _)⟩, fun q hq => ?_⟩
  · have q1' : F_X2_init N (x_up (x_up f b (.inr (3, [.null, .null, .int 0, .null, .int 0, .int 0, .int 0, .int 0]))) (b + 1) (.inr (2, [.null, .null, .int 0])), b + 1 + 1) (b + 1) 12 = some (f1, b + 1 + 3) := q1
    have nr : x_newr (x_up f1 b (.inr (3, [.ref (b + 1), .null, .int 0, .null, .int 0, .int 0, .int 0, .int 0])), b + 1 + 3) 2 6 = _ := k_newr (ci := 2) (n := 6) (by omega)
    have t1' : F_X4_init N (x_up F3 (b + 5) (.inr (4, [.null, .null, .null, .int 0, .int 0, .int 0])), b + 5 + 1) (b + 5) = some (f4, b + 5 + 6) := t1
    simp only [F_X3_init, x_new, Option.bind_some, q1', k_putr o1 (k := 0) (by simp), List.set_cons_succ, List.set_cons_zero, nr]
    rw [show x_putr (x_up (x_up f1 b (.inr (3, [.ref (b + 1), .null, .int 0, .null, .int 0, .int 0, .int 0, .int 0]))) (b + 1 + 3) (.inl (.object (x_cls 2), 6, .inr (.inr (.inr (.inr (fun _ => none))))))) 3 b 1 (some (b + 1 + 3)) = some F3 from p2']
    simp only [Option.bind_some]
    rw [show F_X4_init N (x_up F3 (b + 1 + 3 + 1) (.inr (4, [.null, .null, .null, .int 0, .int 0, .int 0])), b + 1 + 3 + 1 + 1) (b + 1 + 3 + 1) = some (f4, b + 5 + 6) from t1']
    simp only [Option.bind_some, k_putr b4 (k := 3) (r := b + 5) (by simp), k_putr b4 (k := 3) (r := b + 1 + 3 + 1) (by simp), List.set_cons_succ, List.set_cons_zero]
    rw [show (b + 1 + 3 + 1) = b + 5 from rfl]
    simp only [Option.bind_some, k_puti (f := x_up f4 b (.inr (3, [.ref (b + 1), .ref (b + 4), .int 0, .ref (b + 5), .int 0, .int 0, .int 0, .int 0]))) x_up_s (k := 4) (by simp), List.set_cons_succ, List.set_cons_zero, c1, k_puti (f := x_up f4 b (.inr (3, [.ref (b + 1), .ref (b + 4), .int 0, .ref (b + 5), .int 4, .int 0, .int 0, .int 0]))) x_up_s (k := 5) (by simp)]
    exact r1
  · exact (((q2'.fr t3 (by omega)).fr (fr4 _) (by omega))).ext (fun q _ _ => r5 q (by omega) (by omega))
  · exact (t2.fr (fr4 _) (by omega)).ext (fun q _ _ => r5 q (by omega) (by omega))
  · rw [r5 q (by omega) (by omega), fr4 _ q (by omega), t3 q (by omega), fr3 q hq]
end KIN

