/-! The reference: its picture, and what is read of its numbers. -/
abbrev KM : Type := (Nat → Nat → Int32) × (Nat → Int32)
def k_sz (a : Nat) : Nat := match a with
  | 1 => 6696
  | 2 => 40176
  | 3 => 13392
  | 4 => 2
  | 5 => 6696
  | 6 => 240
  | 7 => 1200
  | 8 => 60
  | _ => 93
def k_mf (m : Nat) (V : Nat → Int32) : List Value := [.ref (m + 1), .ref (m + 2), .int (V 2), .ref (m + 3), .ref (m + 4), .ref (m + 5), .ref (m + 6), .ref (m + 7), .int (V 8), .ref (m + 8), .int (V 10), .int (V 11), .int (V 12), .ref (m + 9), .int (V 14)]
def k_mo (f : XM) (m : Nat) (V : KM) : Prop := f m = some (.inr (6, k_mf m V.2)) ∧ ∀ a, 1 ≤ a → a ≤ 9 → f (m + a) = some (.inl (.int, k_sz a, .inl (V.1 a)))
theorem k_mo.ext {f f' : XM} {m : Nat} {V : KM} (h : k_mo f m V) (e : ∀ q, m ≤ q → q < m + 10 → f' q = f q) : k_mo f' m V := ⟨(e _ (by omega) (by omega)).trans h.1, fun a h1 h2 => (e _ (by omega) (by omega)).trans (h.2 a h1 h2)⟩
/-- but for these arrays and numbers the same -/
def k_mx (V V' : KM) (As Is : List Nat) : Prop := (∀ a, a ∉ As → V'.1 a = V.1 a) ∧ ∀ i, i ∉ Is → V'.2 i = V.2 i
theorem k_mx.rf {V : KM} {As Is : List Nat} : k_mx V V As Is := ⟨fun _ _ => rfl, fun _ _ => rfl⟩
theorem k_mx.tr {V V' V'' : KM} {As Is : List Nat} (h : k_mx V V' As Is) (h2 : k_mx V' V'' As Is) : k_mx V V'' As Is := ⟨fun a ha => (h2.1 a ha).trans (h.1 a ha), fun i hi => (h2.2 i hi).trans (h.2 i hi)⟩
theorem k_mx.wd {V V' : KM} {As Is As' Is' : List Nat} (h : k_mx V V' As Is) (h1 : ∀ a, a ∈ As → a ∈ As') (h2 : ∀ a, a ∈ Is → a ∈ Is') : k_mx V V' As' Is' := ⟨fun a ha => h.1 a (fun z => ha (h1 a z)), fun i hi => h.2 i (fun z => hi (h2 i z))⟩
def k_sA (V : KM) (a i : Nat) (v : Int32) : KM := ((fun b => if b = a then upd (V.1 a) i v else V.1 b), V.2)
def k_sI (V : KM) (i : Nat) (v : Int32) : KM := (V.1, fun j => if j = i then v else V.2 j)
theorem k_sA_mx {V : KM} {a i : Nat} {v : Int32} {As Is : List Nat} (h : a ∈ As) : k_mx V (k_sA V a i v) As Is := ⟨fun b hb => if_neg (fun e : b = a => hb (e ▸ h)), fun _ _ => rfl⟩
theorem k_sI_mx {V : KM} {i : Nat} {v : Int32} {As Is : List Nat} (h : i ∈ Is) : k_mx V (k_sI V i v) As Is := ⟨fun _ _ => rfl, fun j hj => if_neg (fun e : j = i => hj (e ▸ h))⟩
theorem k_sA_s {V : KM} {a i : Nat} {v : Int32} : (k_sA V a i v).1 a = upd (V.1 a) i v := if_pos rfl
theorem k_sA_n {V : KM} {a b i : Nat} {v : Int32} (h : b ≠ a) : (k_sA V a i v).1 b = V.1 b := if_neg h
theorem k_sI_s {V : KM} {i : Nat} {v : Int32} : (k_sI V i v).2 i = v := if_pos rfl
theorem k_sI_n {V : KM} {i j : Nat} {v : Int32} (h : j ≠ i) : (k_sI V i v).2 j = V.2 j := if_neg h
theorem k_sz_r (a : Nat) : k_sz a < 2 ^ 31 := by
  unfold k_sz
  split <;> omega
section KMO
variable {N : Nat} {f : XM} {m : Nat} {V : KM}
theorem k_mo.cv {β : Type} {o : Option β} (h : k_mo f m V) : x_cv f 6 m o = o := k_cv h.1
theorem k_mo.r0 (h : k_mo f m V) : x_getr f 6 m 0 = some (some (m + 1)) := k_getr h.1 rfl
theorem k_mo.r1 (h : k_mo f m V) : x_getr f 6 m 1 = some (some (m + 2)) := k_getr h.1 rfl
theorem k_mo.r3 (h : k_mo f m V) : x_getr f 6 m 3 = some (some (m + 3)) := k_getr h.1 rfl
theorem k_mo.r4 (h : k_mo f m V) : x_getr f 6 m 4 = some (some (m + 4)) := k_getr h.1 rfl
theorem k_mo.r5 (h : k_mo f m V) : x_getr f 6 m 5 = some (some (m + 5)) := k_getr h.1 rfl
theorem k_mo.r6 (h : k_mo f m V) : x_getr f 6 m 6 = some (some (m + 6)) := k_getr h.1 rfl
theorem k_mo.r7 (h : k_mo f m V) : x_getr f 6 m 7 = some (some (m + 7)) := k_getr h.1 rfl
theorem k_mo.r9 (h : k_mo f m V) : x_getr f 6 m 9 = some (some (m + 8)) := k_getr h.1 rfl
theorem k_mo.r13 (h : k_mo f m V) : x_getr f 6 m 13 = some (some (m + 9)) := k_getr h.1 rfl
theorem k_mo.i2 (h : k_mo f m V) : x_geti f 6 m 2 = some (V.2 2) := k_geti h.1 rfl
theorem k_mo.i8 (h : k_mo f m V) : x_geti f 6 m 8 = some (V.2 8) := k_geti h.1 rfl
theorem k_mo.i10 (h : k_mo f m V) : x_geti f 6 m 10 = some (V.2 10) := k_geti h.1 rfl
theorem k_mo.i11 (h : k_mo f m V) : x_geti f 6 m 11 = some (V.2 11) := k_geti h.1 rfl
theorem k_mo.i12 (h : k_mo f m V) : x_geti f 6 m 12 = some (V.2 12) := k_geti h.1 rfl
theorem k_mo.i14 (h : k_mo f m V) : x_geti f 6 m 14 = some (V.2 14) := k_geti h.1 rfl
theorem k_mo.ld (h : k_mo f m V) {a i : Nat} (h1 : 1 ≤ a) (h2 : a ≤ 9) (hi : i < k_sz a) : x_ald f (m + a) (nI i) = some (V.1 a i) := k_ald (h.2 a h1 h2) hi (k_sz_r a)
theorem k_mo.st (h : k_mo f m V) {a i : Nat} (h1 : 1 ≤ a) (h2 : a ≤ 9) (hi : i < k_sz a) (v : Int32) : ∃ f', x_ast f (m + a) (nI i) v = some f' ∧ k_mo f' m (k_sA V a i v) ∧ k_fr f f' m (m + 10) := by
  refine ⟨_, k_ast (h.2 a h1 h2) hi (k_sz_r a), ⟨(x_up_n (by omega)).trans h.1, fun b g1 g2 => ?_⟩, k_fr.up (by omega) (by omega)⟩
  by_cases z : b = a
  · subst z
    rw [k_sA_s]
    exact x_up_s
  · rw [k_sA_n z]
    exact (x_up_n (by omega)).trans (h.2 b g1 g2)
theorem k_mo.pi (h : k_mo f m V) {i : Nat} (hi : i = 2 ∨ i = 8 ∨ i = 10 ∨ i = 11 ∨ i = 12 ∨ i = 14) (v : Int32) : ∃ f', x_puti f 6 m i v = some f' ∧ k_mo f' m (k_sI V i v) ∧ k_fr f f' m (m + 10) := by
  refine ⟨_, k_puti h.1 (by simp [k_mf]; omega), ⟨?_, fun b g1 g2 => (x_up_n (by omega)).trans (h.2 b g1 g2)⟩, k_fr.up (by omega) (by omega)⟩
  rw [x_up_s]
  rcases hi with rfl | rfl | rfl | rfl | rfl | rfl <;> rfl
end KMO
/-! indices -/
theorem k_ixs (r : Nat) : (9 + (121 * nI r) : Int32) = nI (9 + 121 * r) := by rw [k_lit 9, k_lit 121, pk_mul, nI_add]
theorem k_ixk (r p : Nat) : ((9 + (121 * nI r)) + 1 + (2 * nI p) : Int32) = nI (10 + 121 * r + 2 * p) := by
  rw [k_ixs, k_add1, k_lit 2, pk_mul, nI_add]
  congr 1
  omega
theorem k_ixv (r p : Nat) : ((9 + (121 * nI r)) + 2 + (2 * nI p) : Int32) = nI (11 + 121 * r + 2 * p) := by
  rw [k_ixs, k_lit 2, pk_mul, nI_add, nI_add]
  congr 1
  omega
theorem k_ixe (e w : Nat) : ((856 + (4 * nI e)) + nI w : Int32) = nI (856 + 4 * e + w) := by rw [k_lit 856, k_lit 4, pk_mul, nI_add, nI_add]
theorem k_ixb (l : Nat) : (1496 + nI l : Int32) = nI (1496 + l) := by rw [k_lit 1496, nI_add]
theorem k_ix2 (l : Nat) : (2 * nI l : Int32) = nI (2 * l) := by rw [k_lit 2, pk_mul]
/-- the entries, as the reference has them -/
def k_eK (G : Nat → Int32) (j : Nat) : Int32 := G (856 + 4 * j)
def k_eV (G : Nat → Int32) (j : Nat) : Int32 := G (857 + 4 * j)
def k_eL (G : Nat → Int32) (j : Nat) : Int32 := G (858 + 4 * j)
def k_eO (G : Nat → Int32) (j : Nat) : Int32 := G (859 + 4 * j)
/-- how many entries of the leaf of j come ahead of it in the overflow leaves -/
def k_ahd (G : Nat → Int32) (n j : Nat) : Nat := k_cnt (fun i => decide (k_eL G i = k_eL G j) && (decide (0 < k_eO G i) && decide (k_eO G i < k_eO G j))) n
/-- the entries are those of the tree -/
def k_me (G : Nat → Int32) (T : KT) (c : Nat) : Prop :=
  (∀ i j, i < j → j < T.1.1 → k_eK G i ≠ k_eK G j) ∧
  (∀ j, j < T.1.1 → k_pl T.1.1 T.1.2.1 (k_eK G j) < T.1.1 ∧ k_eV G j = T.1.2.2 (k_pl T.1.1 T.1.2.1 (k_eK G j)) ∧ k_eL G j = nI (k_lf T (k_eK G j) - 1) ∧ k_sm (k_eO G j) 0 c ∧ T.2.1 (k_pl T.1.1 T.1.2.1 (k_eK G j)) = (if k_eO G j = 0 then 0 else nI (1 + k_ahd G T.1.1 j))) ∧
  (∀ i, i < T.1.1 → ∃ j, j < T.1.1 ∧ k_eK G j = T.1.2.1 i) ∧
  (∀ i j, i < j → j < T.1.1 → k_eL G i = k_eL G j → k_eO G i = k_eO G j → k_eO G i = 0)
/-- the reference's numbers tell this state; c bounds what grows -/
def k_ms (G : Nat → Int32) (S : KS) (c : Nat) : Prop :=
  k_ws S ∧ c ≤ 1200 ∧ (G 0 = S.2.2.2.1 ∧ G 1 = S.2.2.2.2.1 ∧ G 4 = S.2.2.2.2.2.1 ∧ G 5 = S.2.2.2.2.2.2 ∧ G 6 = nI S.1 ∧ G 7 = nI S.2.2.1.1.1 ∧ G 8 = nI S.2.2.1.2.2.1) ∧
  (∀ r, r ≤ S.1 → G (9 + 121 * r) = nI (S.2.1 r).1 ∧ ∀ i, i < (S.2.1 r).1 → G (10 + 121 * r + 2 * i) = (S.2.1 r).2.1 i ∧ G (11 + 121 * r + 2 * i) = (S.2.1 r).2.2 i) ∧
  (∀ l, l < S.2.2.1.2.2.1 → G (1496 + l) = S.2.2.1.2.2.2.1 l) ∧
  (S.2.2.1.2.2.2.2.1 = 0 ↔ S.2.2.1.2.2.1 = 0 ∧ S.2.2.2.2.2.1 = 0) ∧ (S.2.2.1.2.2.2.2.1 ≠ 0 → G 2 = S.2.2.1.2.2.2.2.1 ∧ G 3 = S.2.2.1.2.2.2.2.2) ∧
  k_me G S.2.2.1 c ∧ S.2.2.1.2.2.1 ≤ c ∧ k_sm S.2.2.2.2.2.1 0 c ∧ k_told S + S.2.2.1.1.1 ≤ c
section KMR
variable {N : Nat} {f : XM} {m c : Nat} {V : KM} {S : KS}
theorem k_ms.wt {G : Nat → Int32} (h : k_ms G S c) : k_wt S.2.2.1 := h.1.2.2.2.2.1
theorem k_ms.sz {G : Nat → Int32} (h : k_ms G S c) {r : Nat} (hr : r ≤ S.1) : (S.2.1 r).1 ≤ 60 := by
  rcases Nat.eq_zero_or_pos r with z | z
  · rw [z]; have := h.1.2.2.1; omega
  · exact h.1.2.2.2.1 r z hr
theorem k_ld1 (h : k_mo f m V) {i : Nat} (hi : i < 6696) : x_ald f (m + 1) (nI i) = some (V.1 1 i) := h.ld (by omega) (by omega) hi
theorem k_size (h : k_mo f m V) (hs : k_ms (V.1 1) S c) {r : Nat} (hr : r ≤ S.1) : F_X6_size N f m (nI r) = some (nI (S.2.1 r).1) := by
  have h6 := hs.1.1
  simp only [F_X6_size, h.r0, k_ixs, k_ld1 h (i := 9 + 121 * r) (by omega), Option.bind_some, (hs.2.2.2.1 r hr).1]
theorem k_key (h : k_mo f m V) (hs : k_ms (V.1 1) S c) {r p : Nat} (hr : r ≤ S.1) (hp : p < (S.2.1 r).1) : F_X6_key N f m (nI r) (nI p) = some ((S.2.1 r).2.1 p) := by
  have h6 := hs.1.1
  have := hs.sz hr
  simp only [F_X6_key, h.r0, k_ixk, k_ld1 h (i := 10 + 121 * r + 2 * p) (by omega), Option.bind_some, ((hs.2.2.2.1 r hr).2 p hp).1]
theorem k_value (h : k_mo f m V) (hs : k_ms (V.1 1) S c) {r p : Nat} (hr : r ≤ S.1) (hp : p < (S.2.1 r).1) : F_X6_value N f m (nI r) (nI p) = some ((S.2.1 r).2.2 p) := by
  have h6 := hs.1.1
  have := hs.sz hr
  simp only [F_X6_value, h.r0, k_ixv, k_ld1 h (i := 11 + 121 * r + 2 * p) (by omega), Option.bind_some, ((hs.2.2.2.1 r hr).2 p hp).2]
theorem k_entry (h : k_mo f m V) {j w : Nat} (hj : j < 160) (hw : w < 4) : F_X6_entry N f m (nI j) (nI w) = some (V.1 1 (856 + 4 * j + w)) := by
  simp only [F_X6_entry, h.r0, k_ixe, k_ld1 h (i := 856 + 4 * j + w) (by omega), Option.bind_some]
theorem k_pi_loop (h : k_mo f m V) (hs : k_ms (V.1 1) S c) {r : Nat} (hr : r ≤ S.1) (k : Int32) : ∀ (d fuel i : Nat), i + d = (S.2.1 r).1 → d < fuel → (∀ j, j < i → (S.2.1 r).2.1 j ≠ k) →
    F_X6_placeIn_L2 N f m (nI r) k (fun _ => some (-1)) fuel (nI i) = some (if k_tl (S.2.1 r) k = true then nI (k_pl (S.2.1 r).1 (S.2.1 r).2.1 k) else -1) := by
  have hz := hs.sz hr
  intro d
  induction d with
  | zero =>
    intro fuel i h1 h2 h3
    obtain ⟨u, rfl⟩ : ∃ u, fuel = u + 1 := ⟨fuel - 1, by omega⟩
    simp only [F_X6_placeIn_L2, h.cv, k_size h hs hr, Option.bind_some]
    rw [if_pos (nI_le (by omega) (by omega)), if_neg]
    rw [Bool.not_eq_true, k_tl_no]
    exact fun j hj => h3 j (by omega)
  | succ d ih =>
    intro fuel i h1 h2 h3
    obtain ⟨u, rfl⟩ : ∃ u, fuel = u + 1 := ⟨fuel - 1, by omega⟩
    simp only [F_X6_placeIn_L2, h.cv, k_size h hs hr, k_key h hs hr (p := i) (by omega), Option.bind_some, k_add1]
    rw [if_neg (nI_ge (by omega) (by omega))]
    by_cases g : (S.2.1 r).2.1 i = k
    · have e : k_pl (S.2.1 r).1 (S.2.1 r).2.1 k = i := k_fst_eq (by omega) (fun j hj => decide_eq_false (h3 j hj)) (fun _ => decide_eq_true g)
      rw [if_pos g, if_pos (show k_tl (S.2.1 r) k = true from decide_eq_true (by omega)), e]
    · rw [if_neg g]
      exact ih u (i + 1) (by omega) (by omega) (fun j hj => by
        by_cases z : j = i
        · rw [z]; exact g
        · exact h3 j (by omega))
theorem k_placeIn (hN : 1000 ≤ N) (h : k_mo f m V) (hs : k_ms (V.1 1) S c) {r : Nat} (hr : r ≤ S.1) (k : Int32) : F_X6_placeIn N f m (nI r) k = some (if k_tl (S.2.1 r) k = true then nI (k_pl (S.2.1 r).1 (S.2.1 r).2.1 k) else -1) :=
  k_pi_loop h hs hr k (S.2.1 r).1 N 0 (by omega) (by have := hs.sz hr; omega) (fun j hj => absurd hj (Nat.not_lt_zero _))
theorem k_rw_loop (hN : 1000 ≤ N) (h : k_mo f m V) (hs : k_ms (V.1 1) S c) (k : Int32) : ∀ (d fuel i : Nat), i + d = S.1 + 1 → d < fuel → i ≤ k_run S k →
    F_X6_runWith_L2 N f m k (fun _ => some (-1)) fuel (nI i) = some (if k_run S k ≤ S.1 then nI (k_run S k) else -1) := by
  have h6 := hs.1.1
  have hrl := k_run_le S k
  have e6 : V.1 1 6 = nI S.1 := hs.2.2.1.2.2.2.2.1
  have l6 : x_ald f (m + 1) 6 = some (nI S.1) := by rw [← e6]; exact k_ld1 h (i := 6) (by omega)
  intro d
  induction d with
  | zero =>
    intro fuel i h1 h2 h3
    obtain ⟨u, rfl⟩ : ∃ u, fuel = u + 1 := ⟨fuel - 1, by omega⟩
    simp only [F_X6_runWith_L2, h.r0, l6, Option.bind_some]
    rw [if_pos (nI_lt (by omega) (by omega)), if_neg (by omega)]
  | succ d ih =>
    intro fuel i h1 h2 h3
    obtain ⟨u, rfl⟩ : ∃ u, fuel = u + 1 := ⟨fuel - 1, by omega⟩
    have hz := hs.sz (r := i) (by omega)
    simp only [F_X6_runWith_L2, h.r0, l6, h.cv, k_placeIn hN h hs (r := i) (by omega), Option.bind_some, k_add1]
    rw [if_neg (nI_nlt (by omega) (by omega))]
    by_cases g : k_tl (S.2.1 i) k = true
    · have e : k_run S k = i := k_fst_eq (by omega) (fun j hj => k_run_no (Nat.lt_of_lt_of_le hj h3)) (fun _ => g)
      rw [if_pos g, if_neg (k_nim1 _ (by have := of_decide_eq_true g; omega)), e, if_pos (by omega)]
    · rw [if_neg g, if_pos rfl]
      refine ih u (i + 1) (by omega) (by omega) ?_
      rcases Nat.eq_or_lt_of_le h3 with e | e
      · have := k_run_yes (S := S) (k := k) (by omega)
        rw [← e] at this
        exact absurd this g
      · exact e
theorem k_runWith (hN : 1000 ≤ N) (h : k_mo f m V) (hs : k_ms (V.1 1) S c) (k : Int32) : F_X6_runWith N f m k = some (if k_run S k ≤ S.1 then nI (k_run S k) else -1) :=
  k_rw_loop hN h hs k (S.1 + 1) N 0 (by omega) (by have := hs.1.1; omega) (Nat.zero_le _)
theorem k_l7 (h : k_mo f m V) (hs : k_ms (V.1 1) S c) : x_ald f (m + 1) 7 = some (nI S.2.2.1.1.1) := by
  have e6 : V.1 1 7 = nI S.2.2.1.1.1 := hs.2.2.1.2.2.2.2.2.1
  rw [← e6]; exact k_ld1 h (i := 7) (by omega)
theorem k_l6 (h : k_mo f m V) (hs : k_ms (V.1 1) S c) : x_ald f (m + 1) 6 = some (nI S.1) := by
  have e6 : V.1 1 6 = nI S.1 := hs.2.2.1.2.2.2.2.1
  rw [← e6]; exact k_ld1 h (i := 6) (by omega)
theorem k_l8 (h : k_mo f m V) (hs : k_ms (V.1 1) S c) : x_ald f (m + 1) 8 = some (nI S.2.2.1.2.2.1) := by
  have e6 : V.1 1 8 = nI S.2.2.1.2.2.1 := hs.2.2.1.2.2.2.2.2.2
  rw [← e6]; exact k_ld1 h (i := 8) (by omega)
theorem k_ent0 (h : k_mo f m V) {j : Nat} (hj : j < 160) : F_X6_entry N f m (nI j) 0 = some (k_eK (V.1 1) j) := k_entry h hj (w := 0) (by omega)
theorem k_ent1 (h : k_mo f m V) {j : Nat} (hj : j < 160) : F_X6_entry N f m (nI j) 1 = some (k_eV (V.1 1) j) := by
  have := k_entry (N := N) h hj (w := 1) (by omega)
  rw [show 856 + 4 * j + 1 = 857 + 4 * j by omega] at this
  exact this
theorem k_ent2 (h : k_mo f m V) {j : Nat} (hj : j < 160) : F_X6_entry N f m (nI j) 2 = some (k_eL (V.1 1) j) := by
  have := k_entry (N := N) h hj (w := 2) (by omega)
  rw [show 856 + 4 * j + 2 = 858 + 4 * j by omega] at this
  exact this
theorem k_ent3 (h : k_mo f m V) {j : Nat} (hj : j < 160) : F_X6_entry N f m (nI j) 3 = some (k_eO (V.1 1) j) := by
  have := k_entry (N := N) h hj (w := 3) (by omega)
  rw [show 856 + 4 * j + 3 = 859 + 4 * j by omega] at this
  exact this
theorem k_eo_loop (h : k_mo f m V) (hs : k_ms (V.1 1) S c) (k : Int32) : ∀ (d fuel i : Nat), i + d = S.2.2.1.1.1 → d < fuel → (∀ j, j < i → k_eK (V.1 1) j ≠ k) →
    F_X6_entryOf_L2 N f m k (fun _ => some (-1)) fuel (nI i) = some (if k_pl S.2.2.1.1.1 (k_eK (V.1 1)) k < S.2.2.1.1.1 then nI (k_pl S.2.2.1.1.1 (k_eK (V.1 1)) k) else -1) := by
  have hn := hs.wt.2.2.1
  intro d
  induction d with
  | zero =>
    intro fuel i h1 h2 h3
    obtain ⟨u, rfl⟩ : ∃ u, fuel = u + 1 := ⟨fuel - 1, by omega⟩
    simp only [F_X6_entryOf_L2, h.r0, k_l7 h hs, Option.bind_some]
    rw [if_pos (nI_le (by omega) (by omega)), if_neg (fun z => h3 _ (by omega) (k_pl_at z))]
  | succ d ih =>
    intro fuel i h1 h2 h3
    obtain ⟨u, rfl⟩ : ∃ u, fuel = u + 1 := ⟨fuel - 1, by omega⟩
    simp only [F_X6_entryOf_L2, h.r0, k_l7 h hs, h.cv, k_ent0 h (j := i) (by omega), Option.bind_some, k_add1]
    rw [if_neg (nI_ge (by omega) (by omega))]
    by_cases g : k_eK (V.1 1) i = k
    · have e : k_pl S.2.2.1.1.1 (k_eK (V.1 1)) k = i := k_fst_eq (by omega) (fun j hj => decide_eq_false (h3 j hj)) (fun _ => decide_eq_true g)
      rw [if_pos g, e, if_pos (by omega)]
    · rw [if_neg g]
      exact ih u (i + 1) (by omega) (by omega) (fun j hj => by
        by_cases z : j = i
        · rw [z]; exact g
        · exact h3 j (by omega))
theorem k_entryOf (hN : 1000 ≤ N) (h : k_mo f m V) (hs : k_ms (V.1 1) S c) (k : Int32) : F_X6_entryOf N f m k = some (if k_pl S.2.2.1.1.1 (k_eK (V.1 1)) k < S.2.2.1.1.1 then nI (k_pl S.2.2.1.1.1 (k_eK (V.1 1)) k) else -1) :=
  k_eo_loop h hs k S.2.2.1.1.1 N 0 (by omega) (by have := hs.wt.2.2.1; omega) (fun j hj => absurd hj (Nat.not_lt_zero _))
/-- the reference has an entry of a key where the tree has one -/
theorem k_me_pl {G : Nat → Int32} {T : KT} (h : k_me G T c) (k : Int32) : k_pl T.1.1 (k_eK G) k < T.1.1 ↔ k_pl T.1.1 T.1.2.1 k < T.1.1 := by
  rw [k_pl_iff, k_pl_iff]
  constructor
  · rintro ⟨j, hj, e⟩
    have := (h.2.1 j hj).1
    exact ⟨_, this, (k_pl_at this).trans e⟩
  · rintro ⟨i, hi, e⟩
    obtain ⟨j, hj, e2⟩ := h.2.2.1 i hi
    exact ⟨j, hj, e2.trans e⟩
theorem k_valueBy (hN : 1000 ≤ N) (h : k_mo f m V) (hs : k_ms (V.1 1) S c) (k : Int32) : F_X6_valueBy N f m k = some (k_val S k) := by
  have h6 := hs.1.1
  have hn := hs.wt.2.2.1
  have hme := hs.2.2.2.2.2.2.2.1
  unfold k_val
  simp only [F_X6_valueBy, h.cv, k_runWith hN h hs, Option.bind_some]
  by_cases g : k_run S k ≤ S.1
  · have ht := k_run_yes g
    have hp := of_decide_eq_true ht
    rw [if_pos g, if_neg (k_nim1 _ (by omega)), if_pos g]
    simp only [k_placeIn hN h hs g, Option.bind_some, if_pos ht, k_value h hs g hp]
  · rw [if_neg g, if_pos rfl, if_neg g]
    simp only [k_entryOf hN h hs, Option.bind_some]
    by_cases g2 : k_pl S.2.2.1.1.1 (k_eK (V.1 1)) k < S.2.2.1.1.1
    · have g3 := (k_me_pl hme k).mp g2
      have e := hme.2.1 _ g2
      rw [if_pos g2, if_neg (k_nim1 _ (by omega)), if_pos g3]
      simp only [k_ent1 h (show k_pl S.2.2.1.1.1 (k_eK (V.1 1)) k < 160 by omega), Option.bind_some]
      rw [e.2.1, k_pl_at g2]
    · have g3 := fun z => g2 ((k_me_pl hme k).mpr z)
      rw [if_neg g2, if_pos rfl, if_neg g3]
end KMR
