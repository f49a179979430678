/-! The world: class and reference side by side. -/
def k_lo (f : XM) (o : Nat) : Prop := ∃ g : Nat → Int64, f o = some (.inl (.long, 1, .inr (.inl g)))
theorem k_lo.st {f : XM} {o : Nat} (h : k_lo f o) (v : Int64) : ∃ f', x_astl f o 0 v = some f' ∧ k_fr f f' o (o + 1) ∧ k_lo f' o ∧ x_aldl f' o 0 = some v := by
  obtain ⟨g, hg⟩ := h
  have h0 : ¬ ((0 : Int32) < 0 ∨ 1 ≤ (0 : Int32).toNatClampNeg) := by decide
  refine ⟨_, by simp only [x_astl, hg]; rw [if_neg h0], k_fr.up (Nat.le_refl _) (Nat.lt_succ_self _), ⟨_, x_up_s⟩, ?_⟩
  simp only [x_aldl, x_up_s]
  rw [if_neg h0]
  exact congrArg some (if_pos rfl)
theorem k_lo.ext {f f' : XM} {o : Nat} (h : k_lo f o) (e : f' o = f o) : k_lo f' o := by
  obtain ⟨g, hg⟩ := h
  exact ⟨g, e.trans hg⟩
theorem k_aldl_c {f f' : XM} {o : Nat} {i : Int32} (e : f' o = f o) : x_aldl f' o i = x_aldl f o i := by unfold x_aldl; rw [e]
def k_pv (n : Nat) (q : Nat → Option Nat) (St : Nat → KS) (S : KS) (bf : Nat → Int32) (len : Nat) (V : KM) (c : Nat) : Prop :=
  V.2 2 = nI n ∧ V.2 10 = nI len ∧ (∀ i, i < len → V.1 8 i = bf i) ∧ k_ms (V.1 1) S c ∧ (∀ i, i < n → k_ms (fun j => V.1 2 (6696 * i + j)) (St (i + 1)) c) ∧
  ∀ i, i < 2 → (q (i + 7) = none ∧ V.1 4 i = 0) ∨ ((∃ p, q (i + 7) = some p) ∧ V.1 4 i = 1 ∧ k_ms (fun j => V.1 3 (6696 * i + j)) (St (i + 7)) c)
def k_Rl (x t : Nat) (f : XM) (n : Nat) (q : Nat → Option Nat) (St : Nat → KS) (S : KS) (bf : Nat → Int32) (len : Nat) (V : KM) (c : Nat) : Prop :=
  k_ci f x n q St S bf len ∧ k_mo f (x + 70) V ∧ k_lo f (x + 80) ∧ k_pv n q St S bf len V c ∧ c + len ≤ t ∧ k_vs n q St S
def k_In (x m o t : Nat) (f : XM) : Prop := m = x + 70 ∧ o = x + 80 ∧ ∃ (n : Nat) (q : Nat → Option Nat) (St : Nat → KS) (S : KS) (bf : Nat → Int32) (len : Nat) (V : KM) (c : Nat), k_Rl x t f n q St S bf len V c
section KW
variable {N : Nat} {x n len : Nat} {q : Nat → Option Nat} {St : Nat → KS} {S S' : KS} {bf : Nat → Int32} {V : KM} {c t : Nat}
theorem k_ci.frm {f f' : XM} {lo hi : Nat} (h : k_ci f x n q St S bf len) (e : k_fr f f' lo hi) (h1 : x + 70 ≤ lo) (h2 : hi ≤ x + 81) : k_ci f' x n q St S bf len := by
  obtain ⟨g1, g2, ⟨sp, a1, a2⟩, ⟨u1, a3, a4⟩, ⟨u2, a5, a6⟩, a7, ⟨ra, rb, rc, rd, a8⟩, b1, b2, a9, a10⟩ := h
  exact ⟨g1, g2, ⟨sp, a1, (e _ (by omega)).trans a2⟩, ⟨u1, (e _ (by omega)).trans a3, a4⟩, ⟨u2, (e _ (by omega)).trans a5, a6⟩, (e _ (by omega)).trans a7, ⟨ra, rb, rc, rd, (e _ (by omega)).trans a8⟩, b1.ext (fun a c d => e a (by omega)), b2.fr e (by omega), a9.fr e (by omega), a10⟩
theorem k_pv.mono {c' : Nat} (h : k_pv n q St S bf len V c) (hc : c ≤ c') (h2 : c' ≤ 1200) : k_pv n q St S bf len V c' := by
  obtain ⟨a1, a2, a3, a4, a5, a6⟩ := h
  refine ⟨a1, a2, a3, a4.mono hc h2, fun i hi => (a5 i hi).mono hc h2, fun i hi => ?_⟩
  rcases a6 i hi with y | ⟨y1, y2, y3⟩
  · exact Or.inl y
  · exact Or.inr ⟨y1, y2, y3.mono hc h2⟩
/-- what a call that may change brings, the class's -/
def k_co (f : XM) (x n : Nat) (q : Nat → Option Nat) (St : Nat → KS) (S : KS) (bf : Nat → Int32) (len : Nat) (e v : Int32) (S' : KS) (z : Option (Int32 × XM)) : Prop :=
  ∃ (f' : XM) (n' : Nat) (q' : Nat → Option Nat) (St' : Nat → KS), z = some (e, f') ∧ (∀ a, x + 70 ≤ a → a < x + 80 → f' a = f a) ∧ k_lo f' (x + 80) ∧ k_ci f' x n' q' St' (if e = 0 then S' else S) bf len ∧
    if e = 0 then x_aldl f' (x + 80) 0 = some v.toInt64 ∧ n' = (if n < 6 then n + 1 else 6) ∧ (∀ i, i < n' → St' (i + 1) = k_svl n (fun i => if i = 0 then S else St i) i) ∧ (∀ i, i < 2 → q' (i + 7) = q (i + 7) ∧ St' (i + 7) = St (i + 7)) else n' = n ∧ q' = q ∧ ∀ i, 1 ≤ i → St' i = St i
/-- .. and the reference's -/
def k_mr (m : Nat) (f : XM) (V : KM) (n c' : Nat) (e v : Int32) (S' : KS) (z : Option (Int32 × XM)) : Prop :=
  ∃ (r : Int32) (f' : XM) (V' : KM), z = some (r, f') ∧ k_mo f' m V' ∧ k_fr f f' m (m + 10) ∧ V'.2 11 = e ∧ V'.1 3 = V.1 3 ∧ V'.1 4 = V.1 4 ∧ V'.1 8 = V.1 8 ∧ V'.2 10 = V.2 10 ∧
    if e = 0 then r = v ∧ k_ms (V'.1 1) S' c' ∧ V'.2 2 = nI (if n < 6 then n + 1 else 6) ∧ (∀ i j, i < (if n < 6 then n + 1 else 6) → j < 6696 → V'.1 2 (6696 * i + j) = k_psv n (V.1 2) (V.1 1) i j) else V'.1 1 = V.1 1 ∧ V'.1 2 = V.1 2 ∧ V'.2 2 = V.2 2
theorem k_lgc (v : Int32) : lg_cmp v.toInt64 v.toInt64 = 0 := by
  unfold lg_cmp
  simp
theorem k_pv.saved {c' n' : Nat} {q' : Nat → Option Nat} {St' : Nat → KS} {V' : KM} (h : k_pv n q St S bf len V c) (hn6 : n ≤ 6) (hc : c ≤ c') (h2 : c' ≤ 1200) (h3 : V'.1 3 = V.1 3) (h4 : V'.1 4 = V.1 4) (h8 : V'.1 8 = V.1 8) (h10 : V'.2 10 = V.2 10) (hs : k_ms (V'.1 1) S' c') (hn : V'.2 2 = nI n') (hn' : n' = (if n < 6 then n + 1 else 6))
    (hp : ∀ i j, i < n' → j < 6696 → V'.1 2 (6696 * i + j) = k_psv n (V.1 2) (V.1 1) i j) (hS : ∀ i, i < n' → St' (i + 1) = k_svl n (fun i => if i = 0 then S else St i) i) (hq : ∀ i, i < 2 → q' (i + 7) = q (i + 7) ∧ St' (i + 7) = St (i + 7)) : k_pv n' q' St' S' bf len V' c' := by
  obtain ⟨a1, a2, a3, a4, a5, a6⟩ := h.mono hc h2
  refine ⟨hn, h10.trans a2, fun i hi => by rw [h8]; exact a3 i hi, hs, fun i hi => ?_, fun i hi => ?_⟩
  · rw [hS i hi]
    unfold k_svl
    unfold k_psv at hp
    by_cases z : n < 6
    · rw [if_pos z] at hn'
      rw [if_pos z]
      by_cases y : i < n
      · rw [if_pos y]
        show k_ms _ (if i + 1 = 0 then S else St (i + 1)) c'
        rw [if_neg (by omega)]
        exact (a5 i y).cong (fun a ha => by rw [hp i a hi ha, if_pos z, if_pos y])
      · rw [if_neg y]
        show k_ms _ S c'
        exact a4.cong (fun a ha => by rw [hp i a hi ha, if_pos z, if_neg y])
    · rw [if_neg z] at hn'
      rw [if_neg z]
      by_cases y : i < 5
      · rw [if_pos y]
        show k_ms _ (if i + 2 = 0 then S else St (i + 2)) c'
        rw [if_neg (by omega)]
        exact (a5 (i + 1) (by omega)).cong (fun a ha => by rw [hp i a hi ha, if_neg z, if_pos y])
      · rw [if_neg y]
        show k_ms _ S c'
        exact a4.cong (fun a ha => by rw [hp i a hi ha, if_neg z, if_neg y])
  · rw [(hq i hi).1, (hq i hi).2, h3, h4]
    exact a6 i hi
theorem k_lawA {f : XM} {c' : Nat} {e v : Int32} {zL : Option (Int32 × XM)} {M : XM → Option (Int32 × XM)} (hR : k_Rl x t f n q St S bf len V c) (hcc : c ≤ c') (hc2 : c' ≤ 1200) (hc' : c' + len ≤ t + 1) (hL : k_co f x n q St S bf len e v S' zL) (hM : ∀ f1, k_mo f1 (x + 70) V → k_mr (x + 70) f1 V n c' e v S' (M f1)) (hvv : e = 0 → k_vv S → k_vv S') :
    ∃ r, (zL.bind fun z3 => (x_cv z3.2 6 (x + 70) (M z3.2)).bind fun z6 => (x_cv z6.2 6 (x + 70) (F_X6_thrown N z6.2 (x + 70))).bind fun z7 => if z7 = z3.1 then if z3.1 = 0 then (x_aldl z6.2 (x + 80) 0).bind fun v8 => if (lg_cmp v8 ((z6.1 : Int32).toInt64)) = 0 then some z6.2 else none else some z6.2 else none) = some r ∧ k_In x (x + 70) (x + 80) (t + 1) r := by
  obtain ⟨r1, r2, r3, r4, r5⟩ := hR
  have hn6 := r1.1
  obtain ⟨f1, n', q', St', rfl, l2, l3, l4, l5⟩ := hL
  have hm1 : k_mo f1 (x + 70) V := r2.ext (fun a h1 h2 => l2 a h1 (by omega))
  obtain ⟨rv, f2, V', m1, m2, m3, m4, m5, m6, m7, m8, m9⟩ := hM f1 hm1
  have hlo : k_lo f2 (x + 80) := l3.ext (m3 _ (by omega))
  have hci := l4.frm m3 (by omega) (by omega)
  refine ⟨f2, ?_, rfl, rfl, n', q', St', (if e = 0 then S' else S), bf, len, V', c', hci, m2, hlo, ?_, hc', ?_⟩
  · simp only [Option.bind_some, hm1.cv, m1, m2.cv, F_X6_thrown, m2.i11, m4]
    rw [if_pos trivial]
    by_cases z : e = 0
    · rw [if_pos z] at l5 m9
      rw [if_pos z, k_aldl_c (m3 _ (by omega)), l5.1, Option.bind_some, m9.1, if_pos (k_lgc v)]
    · rw [if_neg z]
  · by_cases z : e = 0
    · rw [if_pos z] at l5 m9 ⊢
      obtain ⟨-, x2, x3, x4⟩ := l5
      obtain ⟨-, y2, y3, y4⟩ := m9
      rw [← x2] at y3 y4
      exact r4.saved hn6 hcc hc2 m5 m6 m7 m8 y2 y3 x2 y4 x3 x4
    · rw [if_neg z] at l5 m9 ⊢
      obtain ⟨rfl, rfl, x3⟩ := l5
      obtain ⟨y1, y2, y3⟩ := m9
      obtain ⟨a1, a2, a3, a4, a5, a6⟩ := r4.mono hcc hc2
      refine ⟨y3.trans a1, m8.trans a2, fun i hi => by rw [m7]; exact a3 i hi, by rw [y1]; exact a4, fun i hi => by rw [y2, x3 _ (by omega)]; exact a5 i hi, fun i hi => by rw [m5, m6, x3 _ (by omega)]; exact a6 i hi⟩
  · by_cases z : e = 0
    · rw [if_pos z] at l5 ⊢
      exact r5.2.saved hn6 l5.2.1 l5.2.2.1 l5.2.2.2 (hvv z r5.2.1)
    · rw [if_neg z] at l5 ⊢
      obtain ⟨rfl, rfl, x3⟩ := l5
      exact ⟨r5.2.1, fun i hi => by rw [x3 _ (by omega)]; exact r5.2.2.1 i hi, fun i hi y => by rw [x3 _ (by omega)]; exact r5.2.2.2 i hi y⟩
end KW
