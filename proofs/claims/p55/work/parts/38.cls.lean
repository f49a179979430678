/-! The object: its picture; states saved. -/
/-- the blocks of states beside the one that stands: 0 the spare one, 1 to 6 saved ones, 7 and 8 the slots' -/
def k_blk (f : XM) (x wz : Nat) (q : Nat → Option Nat) (St : Nat → KS) : Prop :=
  (∀ i p, i < 9 → q i = some p → (p = x + 30 ∨ (x + 70 ≤ p ∧ wz ≤ p)) ∧ k_st f p (St i)) ∧ (∀ i j p p', i ≠ j → i < 9 → j < 9 → q i = some p → q j = some p' → p + 29 ≤ p' ∨ p' + 29 ≤ p)
theorem k_blk.perm {wz : Nat} {f : XM} {x : Nat} {q : Nat → Option Nat} {St : Nat → KS} (w : Nat → Nat) (h : k_blk f x wz q St) (h1 : ∀ i, i < 9 → w i < 9) (h2 : ∀ i j, i < 9 → j < 9 → w i = w j → i = j) : k_blk f x wz (fun i => q (w i)) (fun i => St (w i)) :=
  ⟨fun i p hi hp => h.1 (w i) p (h1 i hi) hp, fun i j p p' hij hi hj hp hp' => h.2 (w i) (w j) p p' (fun e => hij (h2 i j hi hj e)) (h1 i hi) (h1 j hj) hp hp'⟩
theorem k_blk.ext {wz : Nat} {f f' : XM} {x : Nat} {q : Nat → Option Nat} {St : Nat → KS} (h : k_blk f x wz q St) (e : ∀ i p a, i < 9 → q i = some p → p ≤ a → a < p + 29 → f' a = f a) : k_blk f' x wz q St :=
  ⟨fun i p hi hp => ⟨(h.1 i p hi hp).1, (h.1 i p hi hp).2.ext (fun a g1 g2 => e i p a hi hp g1 g2)⟩, h.2⟩
theorem k_blk.fr {wz : Nat} {f f' : XM} {x lo hi : Nat} {q : Nat → Option Nat} {St : Nat → KS} (h : k_blk f x wz q St) (e : k_fr f f' lo hi) (d : (x ≤ lo ∧ hi ≤ x + 30) ∨ (x + 59 ≤ lo ∧ (hi ≤ x + 70 ∨ hi ≤ wz))) : k_blk f' x wz q St := h.ext (fun i p a h1 h2 h3 h4 => e a (by have := (h.1 i p h1 h2).1; omega))
def k_ob (x sp n len : Nat) : List Value := [.ref (x + 1), .ref sp, .ref (x + 59), .int (nI n), .ref (x + 60), .ref (x + 61), .int (nI len), .ref (x + 62), .ref (x + 63)]
def k_ci (f : XM) (x wz n : Nat) (q : Nat → Option Nat) (St : Nat → KS) (S : KS) (bf : Nat → Int32) (len : Nat) : Prop :=
  n ≤ 6 ∧ len ≤ 60 ∧ (∃ sp, q 0 = some sp ∧ f x = some (.inr (5, k_ob x sp n len))) ∧ (∃ g : Nat → Option Nat, f (x + 59) = some (.inl (.object (x_cls 3), 6, .inr (.inr (.inr (.inr g))))) ∧ ∀ i, i < 6 → g i = q (i + 1)) ∧
  (∃ g : Nat → Option Nat, f (x + 60) = some (.inl (.object (x_cls 3), 2, .inr (.inr (.inr (.inr g))))) ∧ ∀ i, i < 2 → g i = q (i + 7)) ∧ f (x + 61) = some (.inl (.int, 60, .inl bf)) ∧ (∃ a b c d : Int32, f (x + 62) = some (.inr (1, [.int a, .int b, .int c, .int d]))) ∧
  k_gat f (x + 63) ∧ k_st f (x + 1) S ∧ k_blk f x wz q St ∧ (∀ i, i < n → ∃ p, q (i + 1) = some p)
theorem k_st_dom {f : XM} {p hs : Nat} {S : KS} (h : k_st f p S) (hd : ∀ (a : Nat) (e : XE), f a = some e → a < hs) : p + 29 ≤ hs := by
  obtain ⟨h1, h2, h3, h4, g, w, Q, h5, h6, h7, h8⟩ := h
  have : ∃ i, i < 6 ∧ w i = 5 := by
    rcases Classical.em (∃ i, i < 6 ∧ w i = 5) with y | y
    · exact y
    · exfalso
      have hc := k_cnt_rel (q := fun _ => true) (p := fun _ => true) (a := fun i => nI (w i)) (b := fun i => nI i) (m := 5) (n := 6) (fun i j a c e => by
        have e1 := (nI_eq (by have := (h6 i (by omega)).2.1; omega) (by have := (h6 j c).2.1; omega)).mp e
        exact h7 i j a c e1) (fun j hj _ => ⟨w j, by
        have e1 := (h6 j hj).2.1
        have e2 : w j ≠ 5 := fun e => y ⟨j, hj, e⟩
        omega, rfl, rfl⟩)
      rw [k_cnt_all (fun _ _ => rfl), k_cnt_all (fun _ _ => rfl)] at hc
      omega
  obtain ⟨i, hi, e⟩ := this
  obtain ⟨-, -, -, -, gk, gv, -, -, y5, -⟩ := h6 i hi
  have := hd _ _ y5
  rw [e] at this
  omega
section KCI
variable {wz : Nat}
variable {N : Nat} {f : XM} {x n len : Nat} {q : Nat → Option Nat} {St : Nat → KS} {S : KS} {bf : Nat → Int32}
theorem k_ci.cv {β : Type} {o : Option β} (h : k_ci f x wz n q St S bf len) : x_cv f 5 x o = o := by
  obtain ⟨sp, -, e⟩ := h.2.2.1
  exact k_cv e
theorem k_ci.now (h : k_ci f x wz n q St S bf len) : x_getr f 5 x 0 = some (some (x + 1)) := by
  obtain ⟨sp, -, e⟩ := h.2.2.1
  exact k_getr e rfl
theorem k_ci.svd (h : k_ci f x wz n q St S bf len) : x_getr f 5 x 2 = some (some (x + 59)) := by
  obtain ⟨sp, -, e⟩ := h.2.2.1
  exact k_getr e rfl
theorem k_ci.cnt (h : k_ci f x wz n q St S bf len) : x_geti f 5 x 3 = some (nI n) := by
  obtain ⟨sp, -, e⟩ := h.2.2.1
  exact k_geti e rfl
theorem k_ci.slt (h : k_ci f x wz n q St S bf len) : x_getr f 5 x 4 = some (some (x + 60)) := by
  obtain ⟨sp, -, e⟩ := h.2.2.1
  exact k_getr e rfl
theorem k_ci.buf (h : k_ci f x wz n q St S bf len) : x_getr f 5 x 5 = some (some (x + 61)) := by
  obtain ⟨sp, -, e⟩ := h.2.2.1
  exact k_getr e rfl
theorem k_ci.lng (h : k_ci f x wz n q St S bf len) : x_geti f 5 x 6 = some (nI len) := by
  obtain ⟨sp, -, e⟩ := h.2.2.1
  exact k_geti e rfl
theorem k_ci.rdr (h : k_ci f x wz n q St S bf len) : x_getr f 5 x 7 = some (some (x + 62)) := by
  obtain ⟨sp, -, e⟩ := h.2.2.1
  exact k_getr e rfl
theorem k_ci.gth (h : k_ci f x wz n q St S bf len) : x_getr f 5 x 8 = some (some (x + 63)) := by
  obtain ⟨sp, -, e⟩ := h.2.2.1
  exact k_getr e rfl
theorem k_ci.gat (h : k_ci f x wz n q St S bf len) : k_gat f (x + 63) := h.2.2.2.2.2.2.2.1
theorem k_ci.st (h : k_ci f x wz n q St S bf len) : k_st f (x + 1) S := h.2.2.2.2.2.2.2.2.1
theorem k_ci.blk (h : k_ci f x wz n q St S bf len) : k_blk f x wz q St := h.2.2.2.2.2.2.2.2.2.1
theorem k_ci.gcv {β : Type} {o : Option β} (h : k_ci f x wz n q St S bf len) : x_cv f 0 (x + 63) o = o := by
  obtain ⟨r0, r1, R0, R1, -, e, -⟩ := h.gat
  exact k_cv e
/-- the state that stands has changed, and the gatherer's rows -/
theorem k_ci.setnow {f' : XM} {S' : KS} (h : k_ci f x wz n q St S bf len) (hf : k_fr2 f f' (x + 1) (x + 63)) (hs : k_st f' (x + 1) S') (hg : k_gat f' (x + 63)) : k_ci f' x wz n q St S' bf len := by
  obtain ⟨h1, h2, ⟨sp, a1, a2⟩, ⟨g1, a3, a4⟩, ⟨g2, a5, a6⟩, a7, ⟨ra, rb, rc, rd, a8⟩, -, -, a9, a10⟩ := h
  exact ⟨h1, h2, ⟨sp, a1, (hf _ (by omega) (by omega)).trans a2⟩, ⟨g1, (hf _ (by omega) (by omega)).trans a3, a4⟩, ⟨g2, (hf _ (by omega) (by omega)).trans a5, a6⟩, (hf _ (by omega) (by omega)).trans a7, ⟨ra, rb, rc, rd, (hf _ (by omega) (by omega)).trans a8⟩, hg, hs, a9.ext (fun i p a h1 h2 h3 h4 => hf a (by have := (a9.1 i p h1 h2).1; omega) (by have := (a9.1 i p h1 h2).1; omega)), a10⟩
/-- a block has changed -/
theorem k_ci.setblk {f' : XM} {S' : KS} {j p : Nat} (h : k_ci f x wz n q St S bf len) (hj : j < 9) (hp : q j = some p) (hf : k_fr f f' p (p + 29)) (hs : k_st f' p S') : k_ci f' x wz n q (fun i => if i = j then S' else St i) S bf len := by
  obtain ⟨h1, h2, ⟨sp, a1, a2⟩, ⟨g1, a3, a4⟩, ⟨g2, a5, a6⟩, a7, ⟨ra, rb, rc, rd, a8⟩, b1, b2, a9, a10⟩ := h
  have hb := (a9.1 j p hj hp).1
  refine ⟨h1, h2, ⟨sp, a1, (hf _ (by omega)).trans a2⟩, ⟨g1, (hf _ (by omega)).trans a3, a4⟩, ⟨g2, (hf _ (by omega)).trans a5, a6⟩, (hf _ (by omega)).trans a7, ⟨ra, rb, rc, rd, (hf _ (by omega)).trans a8⟩, b1.ext (fun a c d => hf a (by omega)), b2.fr hf (by omega), ⟨fun i p' hi hp' => ⟨(a9.1 i p' hi hp').1, ?_⟩, a9.2⟩, a10⟩
  show k_st f' p' (if i = j then S' else St i)
  by_cases z : i = j
  · rw [if_pos z]
    rw [z, hp] at hp'
    cases hp'
    exact hs
  · rw [if_neg z]
    exact (a9.1 i p' hi hp').2.fr hf (by have := a9.2 i j p' p z hi hj hp' hp; omega)
theorem k_ci.sp (h : k_ci f x wz n q St S bf len) : ∃ sp, q 0 = some sp ∧ x_getr f 5 x 1 = some (some sp) ∧ (sp = x + 30 ∨ (x + 70 ≤ sp ∧ wz ≤ sp)) ∧ k_st f sp (St 0) := by
  obtain ⟨sp, e1, e2⟩ := h.2.2.1
  exact ⟨sp, e1, k_getr e2 rfl, (h.blk.1 0 sp (by omega) e1).1, (h.blk.1 0 sp (by omega) e1).2⟩
/-- the state that stands is copied into the spare one -/
theorem k_ci.copy (hN : 5000 ≤ N) (h : k_ci f x wz n q St S bf len) {sp : Nat} (hq : q 0 = some sp) : ∃ f', F_X3_copyFrom N f sp (x + 1) = some f' ∧ k_ci f' x wz n q (fun i => if i = 0 then S else St i) S bf len ∧ k_fr f f' sp (sp + 29) := by
  have hb := h.blk.1 0 sp (by omega) hq
  obtain ⟨f', q1, q2, q3⟩ := k_scopy (N := N) hN hb.2 h.st (by omega)
  exact ⟨f', q1, h.setblk (by omega) hq q3 q2, q3⟩
/-- a state that was saved -/
def k_svl (n : Nat) (St : Nat → KS) (i : Nat) : KS := if n < 6 then (if i < n then St (i + 1) else St 0) else (if i < 5 then St (i + 2) else St 0)
theorem k_mob_loop {c1 : Option Nat} {sp : Nat} {K : Int32 → XM → Option XM} : ∀ (d fuel i : Nat) (f : XM) (g : Nat → Option Nat), i + d = 6 → d < fuel → 1 ≤ i → f x = some (.inr (5, k_ob x sp n len)) → f (x + 59) = some (.inl (.object (x_cls 3), 6, .inr (.inr (.inr (.inr g))))) → (∀ j, j < 6 → ∃ p fs, g j = some p ∧ f p = some (.inr (3, fs)) ∧ p ≠ x + 59) →
    ∃ (f' : XM) (g' : Nat → Option Nat), F_X5_moveOldestBehind_L18 N x c1 K fuel (nI i) f = K (nI 6) f' ∧ f' (x + 59) = some (.inl (.object (x_cls 3), 6, .inr (.inr (.inr (.inr g'))))) ∧ (∀ j, g' j = if i ≤ j + 1 ∧ j + 1 < 6 then g (j + 1) else g j) ∧ k_fr f f' (x + 59) (x + 60) := by
  intro d
  induction d with
  | zero =>
    intro fuel i f g h1 h2 h3 h4 h5 h6
    obtain ⟨u, rfl⟩ : ∃ u, fuel = u + 1 := ⟨fuel - 1, by omega⟩
    have e : i = 6 := by omega
    subst e
    refine ⟨f, g, ?_, h5, fun j => by rw [if_neg (by omega)], k_fr.rf⟩
    simp only [F_X5_moveOldestBehind_L18, k_getr h4 (k := 2) rfl, k_alenr h5, Option.bind_some]
    rw [if_pos (nI_le (Nat.le_refl _) (by omega))]
  | succ d ih =>
    intro fuel i f g h1 h2 h3 h4 h5 h6
    obtain ⟨u, rfl⟩ : ∃ u, fuel = u + 1 := ⟨fuel - 1, by omega⟩
    obtain ⟨m, rfl⟩ : ∃ m, i = m + 1 := ⟨i - 1, by omega⟩
    obtain ⟨p, fs, p1, p2, p3⟩ := h6 (m + 1) (by omega)
    obtain ⟨f', g', r1, r2, r3, r4⟩ := ih u (m + 1 + 1) (x_up f (x + 59) (.inl (.object (x_cls 3), 6, .inr (.inr (.inr (.inr (va_up g m (some p)))))))) _ (by omega) (by omega) (by omega) ((x_up_n (by omega)).trans h4) x_up_s (fun j hj => by
      by_cases z : j = m
      · exact ⟨p, fs, by rw [z, k_vup_s], (x_up_n p3).trans p2, p3⟩
      · obtain ⟨p', fs', y1, y2, y3⟩ := h6 j hj
        exact ⟨p', fs', by rw [k_vup_n z]; exact y1, (x_up_n y3).trans y2, y3⟩)
    refine ⟨f', g', ?_, r2, fun j => ?_, (k_fr.up (by omega) (by omega)).tr r4⟩
    · simp only [F_X5_moveOldestBehind_L18, k_getr h4 (k := 2) rfl, k_alenr h5, Option.bind_some]
      rw [if_neg (nI_ge (by omega) (by omega))]
      simp only [k_aldr h5 (i := m + 1) (by omega) (by omega), p1, nI_pred, k_astr h5 p2 (by omega) (i := m) (by omega) (by omega), Option.bind_some, k_add1]
      exact r1
    · rw [r3 j]
      by_cases z : j = m
      · rw [if_neg (by omega), if_pos (by omega), z, k_vup_s, p1]
      · by_cases z2 : m + 1 + 1 ≤ j + 1 ∧ j + 1 < 6
        · rw [if_pos z2, if_pos (by omega), k_vup_n (by omega)]
        · rw [if_neg z2, if_neg (by omega), k_vup_n z]
theorem k_putf_ob {f : XM} {sp sp' : Nat} (h : f x = some (.inr (5, k_ob x sp n len))) : x_putr f 5 x 1 (some sp') = some (x_up f x (.inr (5, k_ob x sp' n len))) := k_putr (k := 1) h (by simp [k_ob])
theorem k_putn_ob {f : XM} {sp n' : Nat} (h : f x = some (.inr (5, k_ob x sp n len))) : x_puti f 5 x 3 (nI n') = some (x_up f x (.inr (5, k_ob x sp n' len))) := k_puti (k := 3) h (by simp [k_ob])
theorem k_putl_ob {f : XM} {sp l' : Nat} (h : f x = some (.inr (5, k_ob x sp n len))) : x_puti f 5 x 6 (nI l') = some (x_up f x (.inr (5, k_ob x sp n l'))) := k_puti (k := 6) h (by simp [k_ob])
/-- the object and the arrays, the rest as it was -/
theorem k_ci.objs {f' : XM} {n' sp' len' : Nat} {q' : Nat → Option Nat} {St' : Nat → KS} {g' : Nat → Option Nat} (h : k_ci f x wz n q St S bf len) (hn : n' ≤ 6) (hl : len' ≤ 60) (hf : ∀ a, a ≠ x → a ≠ x + 59 → (x ≤ a ∧ a < x + 70) → f' a = f a) (ho : f' x = some (.inr (5, k_ob x sp' n' len'))) (hq0 : q' 0 = some sp') (hg : f' (x + 59) = some (.inl (.object (x_cls 3), 6, .inr (.inr (.inr (.inr g')))))) (hg' : ∀ i, i < 6 → g' i = q' (i + 1)) (hs : ∀ i, i < 2 → q' (i + 7) = q (i + 7)) (hb : k_blk f' x wz q' St') (hi : ∀ i, i < n' → ∃ p, q' (i + 1) = some p) : k_ci f' x wz n' q' St' S bf len' := by
  obtain ⟨h1, h2, ⟨sp, a1, a2⟩, ⟨g1, a3, a4⟩, ⟨g2, a5, a6⟩, a7, ⟨ra, rb, rc, rd, a8⟩, b1, b2, a9, a10⟩ := h
  exact ⟨hn, hl, ⟨sp', hq0, ho⟩, ⟨g', hg, hg'⟩, ⟨g2, (hf _ (by omega) (by omega) (by omega)).trans a5, fun i hi => by rw [hs i hi]; exact a6 i hi⟩, (hf _ (by omega) (by omega) (by omega)).trans a7, ⟨ra, rb, rc, rd, (hf _ (by omega) (by omega) (by omega)).trans a8⟩, b1.ext (fun a c d => hf a (by omega) (by omega) (by omega)), b2.ext (fun a c d => hf a (by omega) (by omega) (by omega)), hb, hi⟩
end KCI

