/-! The start: the reference, and both. -/
section KSU
variable {N : Nat}
def k_V0 : KM := ((fun _ _ => 0), fun _ => 0)
theorem k_minit {f : XM} {m : Nat} : ∃ f', F_X6_init N (x_up f m (.inr (6, [.null, .null, .int 0, .null, .null, .null, .null, .null, .int 0, .null, .int 0, .int 0, .int 0, .null, .int 0])), m + 1) m = some (f', m + 10) ∧ k_mo f' m (k_sA (k_sA k_V0 1 0 4) 1 1 3) ∧ k_fr f f' m (m + 10) := by
  have o0 : x_up f m (.inr (6, [.null, .null, .int 0, .null, .null, .null, .null, .null, .int 0, .null, .int 0, .int 0, .int 0, .null, .int 0])) m = some (.inr (6, [.null, .null, .int 0, .null, .null, .null, .null, .null, .int 0, .null, .int 0, .int 0, .int 0, .null, .int 0])) := x_up_s
  have e0 : ∀ a, a ≠ m → x_up f m (.inr (6, [.null, .null, .int 0, .null, .null, .null, .null, .null, .int 0, .null, .int 0, .int 0, .int 0, .null, .int 0])) a = f a := fun a y => x_up_n y
  generalize x_up f m (.inr (6, [.null, .null, .int 0, .null, .null, .null, .null, .null, .int 0, .null, .int 0, .int 0, .int 0, .null, .int 0])) = g0 at *
  have e1a : ∀ a, a ≠ m + 1 → x_up g0 (m + 1) (.inl (.int, 6696, .inl (fun _ => 0))) a = g0 a := fun a y => x_up_n y
  have s1a : x_up g0 (m + 1) (.inl (.int, 6696, .inl (fun _ => 0))) (m + 1) = some (.inl (.int, 6696, .inl (fun _ => 0))) := x_up_s
  generalize hh1 : x_up g0 (m + 1) (.inl (.int, 6696, .inl (fun _ => 0))) = h1 at *
  have p1 : x_putr h1 6 m 0 (some (m + 1)) = some (x_up h1 m (.inr (6, [.ref (m + 1), .null, .int 0, .null, .null, .null, .null, .null, .int 0, .null, .int 0, .int 0, .int 0, .null, .int 0]))) := k_putr (r := m + 1) (show h1 m = some (.inr (6, [.null, .null, .int 0, .null, .null, .null, .null, .null, .int 0, .null, .int 0, .int 0, .int 0, .null, .int 0])) from (e1a m (by omega)).trans o0) (k := 0) (by simp)
  have o1 : x_up h1 m (.inr (6, [.ref (m + 1), .null, .int 0, .null, .null, .null, .null, .null, .int 0, .null, .int 0, .int 0, .int 0, .null, .int 0])) m = some (.inr (6, [.ref (m + 1), .null, .int 0, .null, .null, .null, .null, .null, .int 0, .null, .int 0, .int 0, .int 0, .null, .int 0])) := x_up_s
  have e1b : ∀ a, a ≠ m → x_up h1 m (.inr (6, [.ref (m + 1), .null, .int 0, .null, .null, .null, .null, .null, .int 0, .null, .int 0, .int 0, .int 0, .null, .int 0])) a = h1 a := fun a y => x_up_n y
  generalize x_up h1 m (.inr (6, [.ref (m + 1), .null, .int 0, .null, .null, .null, .null, .null, .int 0, .null, .int 0, .int 0, .int 0, .null, .int 0])) = g1 at *
  have e2a : ∀ a, a ≠ m + 2 → x_up g1 (m + 2) (.inl (.int, 40176, .inl (fun _ => 0))) a = g1 a := fun a y => x_up_n y
  have s2a : x_up g1 (m + 2) (.inl (.int, 40176, .inl (fun _ => 0))) (m + 2) = some (.inl (.int, 40176, .inl (fun _ => 0))) := x_up_s
  generalize hh2 : x_up g1 (m + 2) (.inl (.int, 40176, .inl (fun _ => 0))) = h2 at *
  have p2 : x_putr h2 6 m 1 (some (m + 2)) = some (x_up h2 m (.inr (6, [.ref (m + 1), .ref (m + 2), .int 0, .null, .null, .null, .null, .null, .int 0, .null, .int 0, .int 0, .int 0, .null, .int 0]))) := k_putr (r := m + 2) (show h2 m = some (.inr (6, [.ref (m + 1), .null, .int 0, .null, .null, .null, .null, .null, .int 0, .null, .int 0, .int 0, .int 0, .null, .int 0])) from (e2a m (by omega)).trans o1) (k := 1) (by simp)
  have o2 : x_up h2 m (.inr (6, [.ref (m + 1), .ref (m + 2), .int 0, .null, .null, .null, .null, .null, .int 0, .null, .int 0, .int 0, .int 0, .null, .int 0])) m = some (.inr (6, [.ref (m + 1), .ref (m + 2), .int 0, .null, .null, .null, .null, .null, .int 0, .null, .int 0, .int 0, .int 0, .null, .int 0])) := x_up_s
  have e2b : ∀ a, a ≠ m → x_up h2 m (.inr (6, [.ref (m + 1), .ref (m + 2), .int 0, .null, .null, .null, .null, .null, .int 0, .null, .int 0, .int 0, .int 0, .null, .int 0])) a = h2 a := fun a y => x_up_n y
  generalize x_up h2 m (.inr (6, [.ref (m + 1), .ref (m + 2), .int 0, .null, .null, .null, .null, .null, .int 0, .null, .int 0, .int 0, .int 0, .null, .int 0])) = g2 at *
  have e3a : ∀ a, a ≠ m + 3 → x_up g2 (m + 3) (.inl (.int, 13392, .inl (fun _ => 0))) a = g2 a := fun a y => x_up_n y
  have s3a : x_up g2 (m + 3) (.inl (.int, 13392, .inl (fun _ => 0))) (m + 3) = some (.inl (.int, 13392, .inl (fun _ => 0))) := x_up_s
  generalize hh3 : x_up g2 (m + 3) (.inl (.int, 13392, .inl (fun _ => 0))) = h3 at *
  have p3 : x_putr h3 6 m 3 (some (m + 3)) = some (x_up h3 m (.inr (6, [.ref (m + 1), .ref (m + 2), .int 0, .ref (m + 3), .null, .null, .null, .null, .int 0, .null, .int 0, .int 0, .int 0, .null, .int 0]))) := k_putr (r := m + 3) (show h3 m = some (.inr (6, [.ref (m + 1), .ref (m + 2), .int 0, .null, .null, .null, .null, .null, .int 0, .null, .int 0, .int 0, .int 0, .null, .int 0])) from (e3a m (by omega)).trans o2) (k := 3) (by simp)
  have o3 : x_up h3 m (.inr (6, [.ref (m + 1), .ref (m + 2), .int 0, .ref (m + 3), .null, .null, .null, .null, .int 0, .null, .int 0, .int 0, .int 0, .null, .int 0])) m = some (.inr (6, [.ref (m + 1), .ref (m + 2), .int 0, .ref (m + 3), .null, .null, .null, .null, .int 0, .null, .int 0, .int 0, .int 0, .null, .int 0])) := x_up_s
  have e3b : ∀ a, a ≠ m → x_up h3 m (.inr (6, [.ref (m + 1), .ref (m + 2), .int 0, .ref (m + 3), .null, .null, .null, .null, .int 0, .null, .int 0, .int 0, .int 0, .null, .int 0])) a = h3 a := fun a y => x_up_n y
  generalize x_up h3 m (.inr (6, [.ref (m + 1), .ref (m + 2), .int 0, .ref (m + 3), .null, .null, .null, .null, .int 0, .null, .int 0, .int 0, .int 0, .null, .int 0])) = g3 at *
  have e4a : ∀ a, a ≠ m + 4 → x_up g3 (m + 4) (.inl (.int, 2, .inl (fun _ => 0))) a = g3 a := fun a y => x_up_n y
  have s4a : x_up g3 (m + 4) (.inl (.int, 2, .inl (fun _ => 0))) (m + 4) = some (.inl (.int, 2, .inl (fun _ => 0))) := x_up_s
  generalize hh4 : x_up g3 (m + 4) (.inl (.int, 2, .inl (fun _ => 0))) = h4 at *
  have p4 : x_putr h4 6 m 4 (some (m + 4)) = some (x_up h4 m (.inr (6, [.ref (m + 1), .ref (m + 2), .int 0, .ref (m + 3), .ref (m + 4), .null, .null, .null, .int 0, .null, .int 0, .int 0, .int 0, .null, .int 0]))) := k_putr (r := m + 4) (show h4 m = some (.inr (6, [.ref (m + 1), .ref (m + 2), .int 0, .ref (m + 3), .null, .null, .null, .null, .int 0, .null, .int 0, .int 0, .int 0, .null, .int 0])) from (e4a m (by omega)).trans o3) (k := 4) (by simp)
  have o4 : x_up h4 m (.inr (6, [.ref (m + 1), .ref (m + 2), .int 0, .ref (m + 3), .ref (m + 4), .null, .null, .null, .int 0, .null, .int 0, .int 0, .int 0, .null, .int 0])) m = some (.inr (6, [.ref (m + 1), .ref (m + 2), .int 0, .ref (m + 3), .ref (m + 4), .null, .null, .null, .int 0, .null, .int 0, .int 0, .int 0, .null, .int 0])) := x_up_s
  have e4b : ∀ a, a ≠ m → x_up h4 m (.inr (6, [.ref (m + 1), .ref (m + 2), .int 0, .ref (m + 3), .ref (m + 4), .null, .null, .null, .int 0, .null, .int 0, .int 0, .int 0, .null, .int 0])) a = h4 a := fun a y => x_up_n y
  generalize x_up h4 m (.inr (6, [.ref (m + 1), .ref (m + 2), .int 0, .ref (m + 3), .ref (m + 4), .null, .null, .null, .int 0, .null, .int 0, .int 0, .int 0, .null, .int 0])) = g4 at *
  have e5a : ∀ a, a ≠ m + 5 → x_up g4 (m + 5) (.inl (.int, 6696, .inl (fun _ => 0))) a = g4 a := fun a y => x_up_n y
  have s5a : x_up g4 (m + 5) (.inl (.int, 6696, .inl (fun _ => 0))) (m + 5) = some (.inl (.int, 6696, .inl (fun _ => 0))) := x_up_s
  generalize hh5 : x_up g4 (m + 5) (.inl (.int, 6696, .inl (fun _ => 0))) = h5 at *
  have p5 : x_putr h5 6 m 5 (some (m + 5)) = some (x_up h5 m (.inr (6, [.ref (m + 1), .ref (m + 2), .int 0, .ref (m + 3), .ref (m + 4), .ref (m + 5), .null, .null, .int 0, .null, .int 0, .int 0, .int 0, .null, .int 0]))) := k_putr (r := m + 5) (show h5 m = some (.inr (6, [.ref (m + 1), .ref (m + 2), .int 0, .ref (m + 3), .ref (m + 4), .null, .null, .null, .int 0, .null, .int 0, .int 0, .int 0, .null, .int 0])) from (e5a m (by omega)).trans o4) (k := 5) (by simp)
  have o5 : x_up h5 m (.inr (6, [.ref (m + 1), .ref (m + 2), .int 0, .ref (m + 3), .ref (m + 4), .ref (m + 5), .null, .null, .int 0, .null, .int 0, .int 0, .int 0, .null, .int 0])) m = some (.inr (6, [.ref (m + 1), .ref (m + 2), .int 0, .ref (m + 3), .ref (m + 4), .ref (m + 5), .null, .null, .int 0, .null, .int 0, .int 0, .int 0, .null, .int 0])) := x_up_s
  have e5b : ∀ a, a ≠ m → x_up h5 m (.inr (6, [.ref (m + 1), .ref (m + 2), .int 0, .ref (m + 3), .ref (m + 4), .ref (m + 5), .null, .null, .int 0, .null, .int 0, .int 0, .int 0, .null, .int 0])) a = h5 a := fun a y => x_up_n y
  generalize x_up h5 m (.inr (6, [.ref (m + 1), .ref (m + 2), .int 0, .ref (m + 3), .ref (m + 4), .ref (m + 5), .null, .null, .int 0, .null, .int 0, .int 0, .int 0, .null, .int 0])) = g5 at *
  have e6a : ∀ a, a ≠ m + 6 → x_up g5 (m + 6) (.inl (.int, 240, .inl (fun _ => 0))) a = g5 a := fun a y => x_up_n y
  have s6a : x_up g5 (m + 6) (.inl (.int, 240, .inl (fun _ => 0))) (m + 6) = some (.inl (.int, 240, .inl (fun _ => 0))) := x_up_s
  generalize hh6 : x_up g5 (m + 6) (.inl (.int, 240, .inl (fun _ => 0))) = h6 at *
  have p6 : x_putr h6 6 m 6 (some (m + 6)) = some (x_up h6 m (.inr (6, [.ref (m + 1), .ref (m + 2), .int 0, .ref (m + 3), .ref (m + 4), .ref (m + 5), .ref (m + 6), .null, .int 0, .null, .int 0, .int 0, .int 0, .null, .int 0]))) := k_putr (r := m + 6) (show h6 m = some (.inr (6, [.ref (m + 1), .ref (m + 2), .int 0, .ref (m + 3), .ref (m + 4), .ref (m + 5), .null, .null, .int 0, .null, .int 0, .int 0, .int 0, .null, .int 0])) from (e6a m (by omega)).trans o5) (k := 6) (by simp)
  have o6 : x_up h6 m (.inr (6, [.ref (m + 1), .ref (m + 2), .int 0, .ref (m + 3), .ref (m + 4), .ref (m + 5), .ref (m + 6), .null, .int 0, .null, .int 0, .int 0, .int 0, .null, .int 0])) m = some (.inr (6, [.ref (m + 1), .ref (m + 2), .int 0, .ref (m + 3), .ref (m + 4), .ref (m + 5), .ref (m + 6), .null, .int 0, .null, .int 0, .int 0, .int 0, .null, .int 0])) := x_up_s
  have e6b : ∀ a, a ≠ m → x_up h6 m (.inr (6, [.ref (m + 1), .ref (m + 2), .int 0, .ref (m + 3), .ref (m + 4), .ref (m + 5), .ref (m + 6), .null, .int 0, .null, .int 0, .int 0, .int 0, .null, .int 0])) a = h6 a := fun a y => x_up_n y
  generalize x_up h6 m (.inr (6, [.ref (m + 1), .ref (m + 2), .int 0, .ref (m + 3), .ref (m + 4), .ref (m + 5), .ref (m + 6), .null, .int 0, .null, .int 0, .int 0, .int 0, .null, .int 0])) = g6 at *
  have e7a : ∀ a, a ≠ m + 7 → x_up g6 (m + 7) (.inl (.int, 1200, .inl (fun _ => 0))) a = g6 a := fun a y => x_up_n y
  have s7a : x_up g6 (m + 7) (.inl (.int, 1200, .inl (fun _ => 0))) (m + 7) = some (.inl (.int, 1200, .inl (fun _ => 0))) := x_up_s
  generalize hh7 : x_up g6 (m + 7) (.inl (.int, 1200, .inl (fun _ => 0))) = h7 at *
  have p7 : x_putr h7 6 m 7 (some (m + 7)) = some (x_up h7 m (.inr (6, [.ref (m + 1), .ref (m + 2), .int 0, .ref (m + 3), .ref (m + 4), .ref (m + 5), .ref (m + 6), .ref (m + 7), .int 0, .null, .int 0, .int 0, .int 0, .null, .int 0]))) := k_putr (r := m + 7) (show h7 m = some (.inr (6, [.ref (m + 1), .ref (m + 2), .int 0, .ref (m + 3), .ref (m + 4), .ref (m + 5), .ref (m + 6), .null, .int 0, .null, .int 0, .int 0, .int 0, .null, .int 0])) from (e7a m (by omega)).trans o6) (k := 7) (by simp)
  have o7 : x_up h7 m (.inr (6, [.ref (m + 1), .ref (m + 2), .int 0, .ref (m + 3), .ref (m + 4), .ref (m + 5), .ref (m + 6), .ref (m + 7), .int 0, .null, .int 0, .int 0, .int 0, .null, .int 0])) m = some (.inr (6, [.ref (m + 1), .ref (m + 2), .int 0, .ref (m + 3), .ref (m + 4), .ref (m + 5), .ref (m + 6), .ref (m + 7), .int 0, .null, .int 0, .int 0, .int 0, .null, .int 0])) := x_up_s
  have e7b : ∀ a, a ≠ m → x_up h7 m (.inr (6, [.ref (m + 1), .ref (m + 2), .int 0, .ref (m + 3), .ref (m + 4), .ref (m + 5), .ref (m + 6), .ref (m + 7), .int 0, .null, .int 0, .int 0, .int 0, .null, .int 0])) a = h7 a := fun a y => x_up_n y
  generalize x_up h7 m (.inr (6, [.ref (m + 1), .ref (m + 2), .int 0, .ref (m + 3), .ref (m + 4), .ref (m + 5), .ref (m + 6), .ref (m + 7), .int 0, .null, .int 0, .int 0, .int 0, .null, .int 0])) = g7 at *
  have e8a : ∀ a, a ≠ m + 8 → x_up g7 (m + 8) (.inl (.int, 60, .inl (fun _ => 0))) a = g7 a := fun a y => x_up_n y
  have s8a : x_up g7 (m + 8) (.inl (.int, 60, .inl (fun _ => 0))) (m + 8) = some (.inl (.int, 60, .inl (fun _ => 0))) := x_up_s
  generalize hh8 : x_up g7 (m + 8) (.inl (.int, 60, .inl (fun _ => 0))) = h8 at *
  have p8 : x_putr h8 6 m 9 (some (m + 8)) = some (x_up h8 m (.inr (6, [.ref (m + 1), .ref (m + 2), .int 0, .ref (m + 3), .ref (m + 4), .ref (m + 5), .ref (m + 6), .ref (m + 7), .int 0, .ref (m + 8), .int 0, .int 0, .int 0, .null, .int 0]))) := k_putr (r := m + 8) (show h8 m = some (.inr (6, [.ref (m + 1), .ref (m + 2), .int 0, .ref (m + 3), .ref (m + 4), .ref (m + 5), .ref (m + 6), .ref (m + 7), .int 0, .null, .int 0, .int 0, .int 0, .null, .int 0])) from (e8a m (by omega)).trans o7) (k := 9) (by simp)
  have o8 : x_up h8 m (.inr (6, [.ref (m + 1), .ref (m + 2), .int 0, .ref (m + 3), .ref (m + 4), .ref (m + 5), .ref (m + 6), .ref (m + 7), .int 0, .ref (m + 8), .int 0, .int 0, .int 0, .null, .int 0])) m = some (.inr (6, [.ref (m + 1), .ref (m + 2), .int 0, .ref (m + 3), .ref (m + 4), .ref (m + 5), .ref (m + 6), .ref (m + 7), .int 0, .ref (m + 8), .int 0, .int 0, .int 0, .null, .int 0])) := x_up_s
  have e8b : ∀ a, a ≠ m → x_up h8 m (.inr (6, [.ref (m + 1), .ref (m + 2), .int 0, .ref (m + 3), .ref (m + 4), .ref (m + 5), .ref (m + 6), .ref (m + 7), .int 0, .ref (m + 8), .int 0, .int 0, .int 0, .null, .int 0])) a = h8 a := fun a y => x_up_n y
  generalize x_up h8 m (.inr (6, [.ref (m + 1), .ref (m + 2), .int 0, .ref (m + 3), .ref (m + 4), .ref (m + 5), .ref (m + 6), .ref (m + 7), .int 0, .ref (m + 8), .int 0, .int 0, .int 0, .null, .int 0])) = g8 at *
  have e9a : ∀ a, a ≠ m + 9 → x_up g8 (m + 9) (.inl (.int, 93, .inl (fun _ => 0))) a = g8 a := fun a y => x_up_n y
  have s9a : x_up g8 (m + 9) (.inl (.int, 93, .inl (fun _ => 0))) (m + 9) = some (.inl (.int, 93, .inl (fun _ => 0))) := x_up_s
  generalize hh9 : x_up g8 (m + 9) (.inl (.int, 93, .inl (fun _ => 0))) = h9 at *
  have p9 : x_putr h9 6 m 13 (some (m + 9)) = some (x_up h9 m (.inr (6, [.ref (m + 1), .ref (m + 2), .int 0, .ref (m + 3), .ref (m + 4), .ref (m + 5), .ref (m + 6), .ref (m + 7), .int 0, .ref (m + 8), .int 0, .int 0, .int 0, .ref (m + 9), .int 0]))) := k_putr (r := m + 9) (show h9 m = some (.inr (6, [.ref (m + 1), .ref (m + 2), .int 0, .ref (m + 3), .ref (m + 4), .ref (m + 5), .ref (m + 6), .ref (m + 7), .int 0, .ref (m + 8), .int 0, .int 0, .int 0, .null, .int 0])) from (e9a m (by omega)).trans o8) (k := 13) (by simp)
  have o9 : x_up h9 m (.inr (6, [.ref (m + 1), .ref (m + 2), .int 0, .ref (m + 3), .ref (m + 4), .ref (m + 5), .ref (m + 6), .ref (m + 7), .int 0, .ref (m + 8), .int 0, .int 0, .int 0, .ref (m + 9), .int 0])) m = some (.inr (6, [.ref (m + 1), .ref (m + 2), .int 0, .ref (m + 3), .ref (m + 4), .ref (m + 5), .ref (m + 6), .ref (m + 7), .int 0, .ref (m + 8), .int 0, .int 0, .int 0, .ref (m + 9), .int 0])) := x_up_s
  have e9b : ∀ a, a ≠ m → x_up h9 m (.inr (6, [.ref (m + 1), .ref (m + 2), .int 0, .ref (m + 3), .ref (m + 4), .ref (m + 5), .ref (m + 6), .ref (m + 7), .int 0, .ref (m + 8), .int 0, .int 0, .int 0, .ref (m + 9), .int 0])) a = h9 a := fun a y => x_up_n y
  generalize x_up h9 m (.inr (6, [.ref (m + 1), .ref (m + 2), .int 0, .ref (m + 3), .ref (m + 4), .ref (m + 5), .ref (m + 6), .ref (m + 7), .int 0, .ref (m + 8), .int 0, .int 0, .int 0, .ref (m + 9), .int 0])) = g9 at *
  have hm : k_mo g9 m k_V0 := by
    refine ⟨o9, fun a h1 h2 => ?_⟩
    rcases (show a = 1 ∨ a = 2 ∨ a = 3 ∨ a = 4 ∨ a = 5 ∨ a = 6 ∨ a = 7 ∨ a = 8 ∨ a = 9 by omega) with rfl | rfl | rfl | rfl | rfl | rfl | rfl | rfl | rfl
    · rw [e9b _ (by omega), e9a _ (by omega), e8b _ (by omega), e8a _ (by omega), e7b _ (by omega), e7a _ (by omega), e6b _ (by omega), e6a _ (by omega), e5b _ (by omega), e5a _ (by omega), e4b _ (by omega), e4a _ (by omega), e3b _ (by omega), e3a _ (by omega), e2b _ (by omega), e2a _ (by omega), e1b _ (by omega)]; exact s1a
    · rw [e9b _ (by omega), e9a _ (by omega), e8b _ (by omega), e8a _ (by omega), e7b _ (by omega), e7a _ (by omega), e6b _ (by omega), e6a _ (by omega), e5b _ (by omega), e5a _ (by omega), e4b _ (by omega), e4a _ (by omega), e3b _ (by omega), e3a _ (by omega), e2b _ (by omega)]; exact s2a
    · rw [e9b _ (by omega), e9a _ (by omega), e8b _ (by omega), e8a _ (by omega), e7b _ (by omega), e7a _ (by omega), e6b _ (by omega), e6a _ (by omega), e5b _ (by omega), e5a _ (by omega), e4b _ (by omega), e4a _ (by omega), e3b _ (by omega)]; exact s3a
    · rw [e9b _ (by omega), e9a _ (by omega), e8b _ (by omega), e8a _ (by omega), e7b _ (by omega), e7a _ (by omega), e6b _ (by omega), e6a _ (by omega), e5b _ (by omega), e5a _ (by omega), e4b _ (by omega)]; exact s4a
    · rw [e9b _ (by omega), e9a _ (by omega), e8b _ (by omega), e8a _ (by omega), e7b _ (by omega), e7a _ (by omega), e6b _ (by omega), e6a _ (by omega), e5b _ (by omega)]; exact s5a
    · rw [e9b _ (by omega), e9a _ (by omega), e8b _ (by omega), e8a _ (by omega), e7b _ (by omega), e7a _ (by omega), e6b _ (by omega)]; exact s6a
    · rw [e9b _ (by omega), e9a _ (by omega), e8b _ (by omega), e8a _ (by omega), e7b _ (by omega)]; exact s7a
    · rw [e9b _ (by omega), e9a _ (by omega), e8b _ (by omega)]; exact s8a
    · rw [e9b _ (by omega)]; exact s9a
  obtain ⟨f1, a1, a2, a3⟩ := hm.st (a := 1) (i := 0) (by omega) (by omega) (by show _ < 6696; omega) 4
  obtain ⟨f2, b1, b2, b3⟩ := a2.st (a := 1) (i := 1) (by omega) (by omega) (by show _ < 6696; omega) 3
  refine ⟨f2, ?_, b2, fun a ha => ?_⟩
  · have n2 : ∀ (g : XM) (nx : Nat), x_newi (g, nx) 2 = some (nx, (x_up g nx (.inl (.int, 2, .inl (fun _ => 0))), nx + 1)) := fun g nx => rfl
    have n60 : ∀ (g : XM) (nx : Nat), x_newi (g, nx) 60 = some (nx, (x_up g nx (.inl (.int, 60, .inl (fun _ => 0))), nx + 1)) := fun g nx => rfl
    have n93 : ∀ (g : XM) (nx : Nat), x_newi (g, nx) 93 = some (nx, (x_up g nx (.inl (.int, 93, .inl (fun _ => 0))), nx + 1)) := fun g nx => rfl
    have n240 : ∀ (g : XM) (nx : Nat), x_newi (g, nx) 240 = some (nx, (x_up g nx (.inl (.int, 240, .inl (fun _ => 0))), nx + 1)) := fun g nx => rfl
    have n1200 : ∀ (g : XM) (nx : Nat), x_newi (g, nx) 1200 = some (nx, (x_up g nx (.inl (.int, 1200, .inl (fun _ => 0))), nx + 1)) := fun g nx => rfl
    have n6696 : ∀ (g : XM) (nx : Nat), x_newi (g, nx) 6696 = some (nx, (x_up g nx (.inl (.int, 6696, .inl (fun _ => 0))), nx + 1)) := fun g nx => rfl
    have n13392 : ∀ (g : XM) (nx : Nat), x_newi (g, nx) 13392 = some (nx, (x_up g nx (.inl (.int, 13392, .inl (fun _ => 0))), nx + 1)) := fun g nx => rfl
    have n40176 : ∀ (g : XM) (nx : Nat), x_newi (g, nx) 40176 = some (nx, (x_up g nx (.inl (.int, 40176, .inl (fun _ => 0))), nx + 1)) := fun g nx => rfl
    have a1' : x_ast g9 (m + 1) 0 4 = some f1 := a1
    have b1' : x_ast f1 (m + 1) 1 3 = some f2 := b1
    have hp2 : x_up g1 (m + 1 + 1) (.inl (.int, 40176, .inl (fun _ => 0))) = h2 := hh2
    have pp2 : x_putr h2 6 m 1 (some (m + 1 + 1)) = some g2 := p2
    have hp3 : x_up g2 (m + 1 + 1 + 1) (.inl (.int, 13392, .inl (fun _ => 0))) = h3 := hh3
    have pp3 : x_putr h3 6 m 3 (some (m + 1 + 1 + 1)) = some g3 := p3
    have hp4 : x_up g3 (m + 1 + 1 + 1 + 1) (.inl (.int, 2, .inl (fun _ => 0))) = h4 := hh4
    have pp4 : x_putr h4 6 m 4 (some (m + 1 + 1 + 1 + 1)) = some g4 := p4
    have hp5 : x_up g4 (m + 1 + 1 + 1 + 1 + 1) (.inl (.int, 6696, .inl (fun _ => 0))) = h5 := hh5
    have pp5 : x_putr h5 6 m 5 (some (m + 1 + 1 + 1 + 1 + 1)) = some g5 := p5
    have hp6 : x_up g5 (m + 1 + 1 + 1 + 1 + 1 + 1) (.inl (.int, 240, .inl (fun _ => 0))) = h6 := hh6
    have pp6 : x_putr h6 6 m 6 (some (m + 1 + 1 + 1 + 1 + 1 + 1)) = some g6 := p6
    have hp7 : x_up g6 (m + 1 + 1 + 1 + 1 + 1 + 1 + 1) (.inl (.int, 1200, .inl (fun _ => 0))) = h7 := hh7
    have pp7 : x_putr h7 6 m 7 (some (m + 1 + 1 + 1 + 1 + 1 + 1 + 1)) = some g7 := p7
    have hp8 : x_up g7 (m + 1 + 1 + 1 + 1 + 1 + 1 + 1 + 1) (.inl (.int, 60, .inl (fun _ => 0))) = h8 := hh8
    have pp8 : x_putr h8 6 m 9 (some (m + 1 + 1 + 1 + 1 + 1 + 1 + 1 + 1)) = some g8 := p8
    have hp9 : x_up g8 (m + 1 + 1 + 1 + 1 + 1 + 1 + 1 + 1 + 1) (.inl (.int, 93, .inl (fun _ => 0))) = h9 := hh9
    have pp9 : x_putr h9 6 m 13 (some (m + 1 + 1 + 1 + 1 + 1 + 1 + 1 + 1 + 1)) = some g9 := p9
    simp only [F_X6_init, Option.bind_some, n2, n60, n93, n240, n1200, n6696, n13392, n40176, hh1, p1, hp2, pp2, hp3, pp3, hp4, pp4, hp5, pp5, hp6, pp6, hp7, pp7, hp8, pp8, hp9, pp9, hm.r0, a1', a2.r0, b1']
  · rw [b3 a ha, a3 a ha, e9b a (by omega), e9a a (by omega), e8b a (by omega), e8a a (by omega), e7b a (by omega), e7a a (by omega), e6b a (by omega), e6a a (by omega), e5b a (by omega), e5a a (by omega), e4b a (by omega), e4a a (by omega), e3b a (by omega), e3a a (by omega), e2b a (by omega), e2a a (by omega), e1b a (by omega), e1a a (by omega), e0 a (by omega)]
theorem k_start (B : Nat) : ∃ r, F_law_start N ((fun _ => none), B) = some r ∧ k_In r.1 r.2.1 r.2.2.1 0 r.2.2.2.1 := by
  obtain ⟨f1, a1, a2, a3⟩ := k_xinit (N := N) (f := fun _ => none) (x := B)
  obtain ⟨f2, b1, b2, b3⟩ := k_minit (N := N) (f := f1) (m := B + 70)
  have hnl : ∀ (g : XM) (nx : Nat), x_newl (g, nx) 1 = some (nx, (x_up g nx (.inl (.long, 1, .inr (.inl (fun _ => 0)))), nx + 1)) := fun g nx => rfl
  have fr : k_fr f2 (x_up f2 (B + 80) (.inl (.long, 1, .inr (.inl (fun _ => 0))))) (B + 80) (B + 81) := k_fr.up (Nat.le_refl _) (Nat.lt_succ_self _)
  refine ⟨(B, B + 70, B + 80, (x_up f2 (B + 80) (.inl (.long, 1, .inr (.inl (fun _ => 0)))), B + 81)), ?_, rfl, rfl, 0, _, _, _, _, 0, _, 0, (a2.frm b3 (by omega) (by omega)).frm fr (by omega) (by omega), b2.ext (fun a y1 y2 => fr a (by omega)), ⟨_, x_up_s⟩, ⟨rfl, rfl, fun i hi => absurd hi (Nat.not_lt_zero _), ?_, fun i hi => absurd hi (Nat.not_lt_zero _), fun i hi => Or.inl ⟨if_neg (by omega), rfl⟩⟩, Nat.le_refl _, ⟨fun r hr i hi => absurd hi (Nat.not_lt_zero _), fun i hi => absurd hi (Nat.not_lt_zero _)⟩, fun i hi => absurd hi (Nat.not_lt_zero _), fun i hi y => by
    obtain ⟨p, hp⟩ := y
    have hp' : (if i + 7 = 0 then some (B + 30) else none) = some p := hp
    rw [if_neg (by omega)] at hp'
    cases hp'⟩
  · have a1' : F_X5_init N (x_up (fun _ => none) B (.inr (5, [.null, .null, .null, .int 0, .null, .null, .int 0, .null, .null])), B + 1) B = some (f1, B + 70) := a1
    simp only [F_law_start, x_new, Option.bind_some, a1', b1, hnl]
  · have hr : ∀ (c : Nat), k_row (fun _ => none) 0 c k_R0 → True := fun _ _ => trivial
    refine ⟨?_, by omega, ⟨rfl, rfl, rfl, rfl, rfl, rfl, rfl⟩, fun r hr => ?_, fun l hl => absurd hl (Nat.not_lt_zero _), ⟨fun _ => ⟨rfl, rfl⟩, fun _ => rfl⟩, fun z => absurd rfl z, ⟨fun i j _ hj => absurd hj (Nat.not_lt_zero _), fun j hj => absurd hj (Nat.not_lt_zero _), fun i hi => absurd hi (Nat.not_lt_zero _), fun i j _ hj => absurd hj (Nat.not_lt_zero _)⟩, Nat.le_refl _, ⟨0, rfl, Nat.le_refl _, Nat.le_refl _⟩, by decide⟩
    · have hs0 : ∀ g, k_srt 0 g := fun g => ⟨fun i j _ hj => absurd hj (Nat.not_lt_zero _), fun i hi => absurd hi (Nat.not_lt_zero _)⟩
      exact ⟨Nat.zero_le _, fun r _ => hs0 _, Nat.zero_le _, fun r _ _ => Nat.zero_le _, ⟨hs0 _, hs0 _, Nat.zero_le _, Nat.zero_le _, fun _ => rfl, fun y => absurd y (Nat.lt_irrefl _), fun i hi => absurd hi (Nat.not_lt_zero _), fun i hi => absurd hi (Nat.not_lt_zero _), Or.inl ⟨rfl, rfl, rfl⟩⟩, ⟨4, rfl, by omega, by omega⟩, ⟨3, rfl, by omega, by omega⟩⟩
    · have hr' : r = 0 := Nat.le_zero.mp hr
      subst hr'
      exact ⟨rfl, fun i hi => absurd hi (Nat.not_lt_zero _)⟩
end KSU
