/-! The start. -/
section KST
variable {wz : Nat}
variable {N : Nat}
theorem k_ginit {f : XM} {b : Nat} : ∃ f', F_X0_init N (x_up f b (.inr (0, [.null, .null])), b + 1) b = some (f', b + 7) ∧ k_gat f' b ∧ k_fr f f' b (b + 7) := by
  obtain ⟨f1, q1, q2, q3⟩ := k_rinit (N := N) (f := x_up f b (.inr (0, [.null, .null]))) (b := b + 1) (c := 532) (by omega)
  have o1 : f1 b = some (.inr (0, [.null, .null])) := (q3 b (by omega)).trans x_up_s
  have p1 := k_putr (r := b + 1) o1 (k := 0) (by simp)
  obtain ⟨f2, w1, w2, w3⟩ := k_rinit (N := N) (f := x_up f1 b (.inr (0, [.ref (b + 1), .null]))) (b := b + 4) (c := 532) (by omega)
  have o2 : f2 b = some (.inr (0, [.ref (b + 1), .null])) := (w3 b (by omega)).trans x_up_s
  have p2 := k_putr (r := b + 4) o2 (k := 1) (by simp)
  have fr : k_fr f (x_up f2 b (.inr (0, [.ref (b + 1), .ref (b + 4)]))) b (b + 7) := fun a ha => by
    rw [x_up_n (by omega), w3 a (by omega), x_up_n (by omega), q3 a (by omega), x_up_n (by omega)]
  refine ⟨_, ?_, ⟨b + 1, b + 4, k_R0, k_R0, Or.inl ⟨rfl, rfl⟩, x_up_s, (q2.ext (fun a y1 y2 => ?_)), (w2.ext (fun a y1 y2 => x_up_n (by omega)))⟩, fr⟩
  · have q1' : F_X2_init N (x_up (x_up f b (.inr (0, [.null, .null]))) (b + 1) (.inr (2, [.null, .null, .int 0])), b + 1 + 1) (b + 1) 532 = some (f1, b + 4) := q1
    have w1' : F_X2_init N (x_up (x_up f1 b (.inr (0, [.ref (b + 1), .null]))) (b + 4) (.inr (2, [.null, .null, .int 0])), b + 4 + 1) (b + 4) 532 = some (f2, b + 7) := w1
    have p1' : x_putr f1 0 b 0 (some (b + 1)) = some (x_up f1 b (.inr (0, [.ref (b + 1), .null]))) := p1
    have p2' : x_putr f2 0 b 1 (some (b + 4)) = some (x_up f2 b (.inr (0, [.ref (b + 1), .ref (b + 4)]))) := p2
    simp only [F_X0_init, x_new, Option.bind_some, q1', p1', w1', p2']
  · exact (x_up_n (by omega)).trans ((w3 a (by omega)).trans (x_up_n (by omega)))
/-- the class's object, new -/
theorem k_xinit {f : XM} {x : Nat} : ∃ f', F_X5_init N (x_up f x (.inr (5, [.null, .null, .null, .int 0, .null, .null, .int 0, .null, .null])), x + 1) x = some (f', x + 70) ∧ k_ci f' x wz 0 (fun i => if i = 0 then some (x + 30) else none) (fun _ => k_S0) k_S0 (fun _ => 0) 0 ∧ k_fr f f' x (x + 70) := by
  obtain ⟨f1, a1, a2, a3⟩ := k_sinit (N := N) (f := x_up f x (.inr (5, [.null, .null, .null, .int 0, .null, .null, .int 0, .null, .null]))) (b := x + 1)
  have o1 : f1 x = _ := (a3 x (by omega)).trans x_up_s
  have p1 : x_putr f1 5 x 0 (some (x + 1)) = some (x_up f1 x (.inr (5, [.ref (x + 1), .null, .null, .int 0, .null, .null, .int 0, .null, .null]))) := k_putr (r := x + 1) o1 (k := 0) (by simp)
  obtain ⟨f2, b1, b2, b3⟩ := k_sinit (N := N) (f := x_up f1 x (.inr (5, [.ref (x + 1), .null, .null, .int 0, .null, .null, .int 0, .null, .null]))) (b := x + 30)
  have o2 : f2 x = _ := (b3 x (by omega)).trans x_up_s
  have p2 : x_putr f2 5 x 1 (some (x + 30)) = some (x_up f2 x (.inr (5, [.ref (x + 1), .ref (x + 30), .null, .int 0, .null, .null, .int 0, .null, .null]))) := k_putr (r := x + 30) o2 (k := 1) (by simp)
  generalize hf3 : x_up (x_up f2 x (.inr (5, [.ref (x + 1), .ref (x + 30), .null, .int 0, .null, .null, .int 0, .null, .null]))) (x + 59) (.inl (.object (x_cls 3), 6, .inr (.inr (.inr (.inr (fun _ => none)))))) = f3
  have o3 : f3 x = some (.inr (5, [.ref (x + 1), .ref (x + 30), .null, .int 0, .null, .null, .int 0, .null, .null])) := by rw [← hf3]; exact (x_up_n (by omega)).trans x_up_s
  have p3 : x_putr f3 5 x 2 (some (x + 59)) = some (x_up f3 x (.inr (5, [.ref (x + 1), .ref (x + 30), .ref (x + 59), .int 0, .null, .null, .int 0, .null, .null]))) := k_putr (r := x + 59) o3 (k := 2) (by simp)
  generalize hf4 : x_up (x_up f3 x (.inr (5, [.ref (x + 1), .ref (x + 30), .ref (x + 59), .int 0, .null, .null, .int 0, .null, .null]))) (x + 60) (.inl (.object (x_cls 3), 2, .inr (.inr (.inr (.inr (fun _ => none)))))) = f4
  have o4 : f4 x = some (.inr (5, [.ref (x + 1), .ref (x + 30), .ref (x + 59), .int 0, .null, .null, .int 0, .null, .null])) := by rw [← hf4]; exact (x_up_n (by omega)).trans x_up_s
  have p4 : x_putr f4 5 x 4 (some (x + 60)) = some (x_up f4 x (.inr (5, [.ref (x + 1), .ref (x + 30), .ref (x + 59), .int 0, .ref (x + 60), .null, .int 0, .null, .null]))) := k_putr (r := x + 60) o4 (k := 4) (by simp)
  generalize hf5 : x_up (x_up f4 x (.inr (5, [.ref (x + 1), .ref (x + 30), .ref (x + 59), .int 0, .ref (x + 60), .null, .int 0, .null, .null]))) (x + 61) (.inl (.int, 60, .inl (fun _ => 0))) = f5
  have o5 : f5 x = some (.inr (5, [.ref (x + 1), .ref (x + 30), .ref (x + 59), .int 0, .ref (x + 60), .null, .int 0, .null, .null])) := by rw [← hf5]; exact (x_up_n (by omega)).trans x_up_s
  have p5 : x_putr f5 5 x 5 (some (x + 61)) = some (x_up f5 x (.inr (5, [.ref (x + 1), .ref (x + 30), .ref (x + 59), .int 0, .ref (x + 60), .ref (x + 61), .int 0, .null, .null]))) := k_putr (r := x + 61) o5 (k := 5) (by simp)
  generalize hf6 : x_up (x_up f5 x (.inr (5, [.ref (x + 1), .ref (x + 30), .ref (x + 59), .int 0, .ref (x + 60), .ref (x + 61), .int 0, .null, .null]))) (x + 62) (.inr (1, [.int 0, .int 0, .int 0, .int 0])) = f6
  have o6 : f6 x = some (.inr (5, [.ref (x + 1), .ref (x + 30), .ref (x + 59), .int 0, .ref (x + 60), .ref (x + 61), .int 0, .null, .null])) := by rw [← hf6]; exact (x_up_n (by omega)).trans x_up_s
  have p6 : x_putr f6 5 x 7 (some (x + 62)) = some (x_up f6 x (.inr (5, [.ref (x + 1), .ref (x + 30), .ref (x + 59), .int 0, .ref (x + 60), .ref (x + 61), .int 0, .ref (x + 62), .null]))) := k_putr (r := x + 62) o6 (k := 7) (by simp)
  obtain ⟨f7, c1, c2, c3⟩ := k_ginit (N := N) (f := x_up f6 x (.inr (5, [.ref (x + 1), .ref (x + 30), .ref (x + 59), .int 0, .ref (x + 60), .ref (x + 61), .int 0, .ref (x + 62), .null]))) (b := x + 63)
  have o7 : f7 x = _ := (c3 x (by omega)).trans x_up_s
  have p7 : x_putr f7 5 x 8 (some (x + 63)) = some (x_up f7 x (.inr (5, k_ob x (x + 30) 0 0))) := k_putr (r := x + 63) o7 (k := 8) (by simp)
  have e7 : ∀ a, a ≠ x → a < x + 63 → f7 a = f6 a := fun a y1 y2 => (c3 a (by omega)).trans (x_up_n y1)
  have e6 : ∀ a, a ≠ x → a ≠ x + 62 → f6 a = f5 a := fun a y1 y2 => by rw [← hf6, x_up_n y2, x_up_n y1]
  have e5 : ∀ a, a ≠ x → a ≠ x + 61 → f5 a = f4 a := fun a y1 y2 => by rw [← hf5, x_up_n y2, x_up_n y1]
  have e4 : ∀ a, a ≠ x → a ≠ x + 60 → f4 a = f3 a := fun a y1 y2 => by rw [← hf4, x_up_n y2, x_up_n y1]
  have e3 : ∀ a, a ≠ x → a ≠ x + 59 → f3 a = f2 a := fun a y1 y2 => by rw [← hf3, x_up_n y2, x_up_n y1]
  have e2 : ∀ a, a ≠ x → ¬ (x + 30 ≤ a ∧ a < x + 59) → f2 a = f1 a := fun a y1 y2 => by rw [b3 a (by omega), x_up_n y1]
  have et : ∀ a, a ≠ x → a < x + 59 → f7 a = f2 a := fun a y1 y2 => by rw [e7 a y1 (by omega), e6 a y1 (by omega), e5 a y1 (by omega), e4 a y1 (by omega), e3 a y1 (by omega)]
  have hst1 : k_st f7 (x + 1) k_S0 := a2.ext (fun a y1 y2 => by rw [et a (by omega) (by omega), e2 a (by omega) (by omega)])
  have hst2 : k_st f7 (x + 30) k_S0 := b2.ext (fun a y1 y2 => et a (by omega) (by omega))
  have hfin : ∀ a, a ≠ x → x_up f7 x (.inr (5, k_ob x (x + 30) 0 0)) a = f7 a := fun a y => x_up_n y
  refine ⟨_, ?_, ⟨Nat.zero_le _, Nat.zero_le _, ⟨x + 30, rfl, x_up_s⟩, ⟨fun _ => none, ?_, fun i hi => rfl⟩, ⟨fun _ => none, ?_, fun i hi => rfl⟩, ?_, ⟨0, 0, 0, 0, ?_⟩, c2.ext (fun a y1 y2 => hfin a (by omega)), hst1.ext (fun a y1 y2 => hfin a (by omega)), ⟨fun i p hi hp => ?_, fun i j p p' hij hi hj hp hp' => ?_⟩, fun i hi => absurd hi (Nat.not_lt_zero _)⟩, fun a ha => ?_⟩
  · have hfs : ∀ (g : XM) (nx : Nat), x_newr (g, nx) 3 6 = some (nx, (x_up g nx (.inl (.object (x_cls 3), 6, .inr (.inr (.inr (.inr (fun _ => none)))))), nx + 1)) := fun g nx => rfl
    have hfs2 : ∀ (g : XM) (nx : Nat), x_newr (g, nx) 3 2 = some (nx, (x_up g nx (.inl (.object (x_cls 3), 2, .inr (.inr (.inr (.inr (fun _ => none)))))), nx + 1)) := fun g nx => rfl
    have hfs3 : ∀ (g : XM) (nx : Nat), x_newi (g, nx) 60 = some (nx, (x_up g nx (.inl (.int, 60, .inl (fun _ => 0))), nx + 1)) := fun g nx => rfl
    have a1' : F_X3_init N (x_up (x_up f x (.inr (5, [.null, .null, .null, .int 0, .null, .null, .int 0, .null, .null]))) (x + 1) (.inr (3, [.null, .null, .int 0, .null, .int 0, .int 0, .int 0, .int 0])), x + 1 + 1) (x + 1) = some (f1, x + 30) := a1
    have b1' : F_X3_init N (x_up (x_up f1 x (.inr (5, [.ref (x + 1), .null, .null, .int 0, .null, .null, .int 0, .null, .null]))) (x + 30) (.inr (3, [.null, .null, .int 0, .null, .int 0, .int 0, .int 0, .int 0])), x + 30 + 1) (x + 30) = some (f2, x + 59) := b1
    simp only [F_X5_init, x_new, Option.bind_some, a1', p1, b1', p2, hfs, hf3, p3, hfs2, hf4, p4, hfs3, hf5, p5, hf6, F_X1_init, p6]
    have c1' : F_X0_init N (x_up (x_up f6 x (.inr (5, [.ref (x + 1), .ref (x + 30), .ref (x + 59), .int 0, .ref (x + 60), .ref (x + 61), .int 0, .ref (x + 62), .null]))) (x + 59 + 1 + 1 + 1 + 1) (.inr (0, [.null, .null])), x + 59 + 1 + 1 + 1 + 1 + 1) (x + 59 + 1 + 1 + 1 + 1) = some (f7, x + 70) := c1
    rw [c1', Option.bind_some]
    have p7' : x_putr f7 5 x 8 (some (x + 59 + 1 + 1 + 1 + 1)) = _ := p7
    simp only [p7', Option.bind_some]
  · rw [hfin _ (by omega), e7 _ (by omega) (by omega), e6 _ (by omega) (by omega), e5 _ (by omega) (by omega), e4 _ (by omega) (by omega), ← hf3]; exact x_up_s
  · rw [hfin _ (by omega), e7 _ (by omega) (by omega), e6 _ (by omega) (by omega), e5 _ (by omega) (by omega), ← hf4]; exact x_up_s
  · rw [hfin _ (by omega), e7 _ (by omega) (by omega), e6 _ (by omega) (by omega), ← hf5]; exact x_up_s
  · rw [hfin _ (by omega), e7 _ (by omega) (by omega), ← hf6]; exact x_up_s
  · have hp' : (if i = 0 then some (x + 30) else none) = some p := hp
    by_cases z : i = 0
    · rw [if_pos z] at hp'
      cases hp'
      exact ⟨Or.inl rfl, hst2.ext (fun a y1 y2 => hfin a (by omega))⟩
    · rw [if_neg z] at hp'
      cases hp'
  · have h1 : (if i = 0 then some (x + 30) else none) = some p := hp
    have h2 : (if j = 0 then some (x + 30) else none) = some p' := hp'
    by_cases z : i = 0
    · rw [if_neg (by omega)] at h2
      cases h2
    · rw [if_neg z] at h1
      cases h1
  · rw [hfin a (by omega), c3 a (by omega), x_up_n (by omega), e6 a (by omega) (by omega), e5 a (by omega) (by omega), e4 a (by omega) (by omega), e3 a (by omega) (by omega), e2 a (by omega) (by omega), a3 a (by omega), x_up_n (by omega)]
end KST

