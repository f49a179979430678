/-! The reference: an entry taken out. -/
theorem k_cnt_imp {p q : Nat → Bool} : ∀ {n : Nat}, (∀ i, i < n → p i = true → q i = true) → k_cnt p n ≤ k_cnt q n
  | 0, _ => Nat.le_refl _
  | n + 1, h => by
    have ih := k_cnt_imp (p := p) (q := q) (n := n) (fun i hi => h i (by omega))
    have := h n (Nat.lt_succ_self n)
    rw [k_cnt, k_cnt]
    cases hp : p n with
    | true => rw [this hp]; omega
    | false =>
      simp only [Bool.false_eq_true, if_false]
      omega
def k_sw (n j0 j : Nat) : Nat := if j = j0 then n - 1 else j
theorem k_cnt_sw {p : Nat → Bool} {n j0 : Nat} (h : j0 < n) : k_cnt p n = k_cnt (fun j => p (k_sw n j0 j)) (n - 1) + if p j0 then 1 else 0 := by
  obtain ⟨n, rfl⟩ : ∃ m, n = m + 1 := ⟨n - 1, by omega⟩
  show _ = k_cnt _ n + _
  by_cases z : j0 = n
  · subst z
    rw [k_cnt, k_cnt_cong (p := fun j => p (k_sw (j0 + 1) j0 j)) (q := p) (fun j hj => by unfold k_sw; rw [if_neg (by omega)])]
  · have h1 : k_cnt (fun j => p (k_sw (n + 1) j0 j) && !decide (j = j0)) n = k_cnt (fun j => p j && !decide (j = j0)) n := k_cnt_cong (fun j hj => by
      by_cases y : j = j0
      · simp [y]
      · unfold k_sw; rw [if_neg y])
    have h2 := k_cnt_del (p := fun j => p (k_sw (n + 1) j0 j)) (show j0 < n by omega)
    have h3 := k_cnt_del (p := p) (show j0 < n by omega)
    have h4 : k_sw (n + 1) j0 j0 = n := by unfold k_sw; rw [if_pos rfl]; rfl
    rw [h1] at h2
    rw [k_cnt, h3, h2]
    simp only [h4]
    omega
theorem k_ahd_lt {G : Nat → Int32} {n a b : Nat} (ha : a < n) (hl : k_eL G a = k_eL G b) (h0 : 0 < k_eO G a) (ho : k_eO G a < k_eO G b) : k_ahd G n a < k_ahd G n b := by
  unfold k_ahd
  have h1 := k_cnt_del (p := fun i => decide (k_eL G i = k_eL G b) && (decide (0 < k_eO G i) && decide (k_eO G i < k_eO G b))) ha
  rw [if_pos (by simp [hl, h0, ho])] at h1
  have h2 : k_cnt (fun i => decide (k_eL G i = k_eL G a) && (decide (0 < k_eO G i) && decide (k_eO G i < k_eO G a))) n ≤ k_cnt (fun k => (decide (k_eL G k = k_eL G b) && (decide (0 < k_eO G k) && decide (k_eO G k < k_eO G b))) && !decide (k = a)) n := k_cnt_imp (fun i hi hp => by
    simp only [Bool.and_eq_true, decide_eq_true_eq, Bool.not_eq_true', decide_eq_false_iff_not] at hp ⊢
    obtain ⟨x1, x2, x3⟩ := hp
    refine ⟨⟨x1.trans hl, x2, Int32.lt_trans x3 ho⟩, fun e => ?_⟩
    rw [e] at x3
    exact Int32.lt_irrefl x3)
  omega
theorem k_rem_v {r i : Nat} {g : Nat → Int32} (h : i ≠ r) : k_rem r g (if i < r then i else i - 1) = g i := by
  by_cases z : i < r
  · rw [if_pos z, k_rem_lo z]
  · rw [if_neg z, k_rem_hi (by omega)]
    exact congrArg g (by omega)
section KMX
variable {N : Nat} {f : XM} {m c : Nat} {V : KM} {S : KS}
theorem k_me_del {G G' : Nat → Int32} {j0 : Nat} (hs : k_ms G S c) (hj0 : j0 < S.2.2.1.1.1)
    (e : ∀ j, j < S.2.2.1.1.1 - 1 → k_eK G' j = k_eK G (k_sw S.2.2.1.1.1 j0 j) ∧ k_eV G' j = k_eV G (k_sw S.2.2.1.1.1 j0 j) ∧ k_eL G' j = k_eL G (k_sw S.2.2.1.1.1 j0 j) ∧ k_eO G' j = k_eO G (k_sw S.2.2.1.1.1 j0 j)) : k_me G' (k_tdel S.2.2.1 (k_eK G j0)) c := by
  have hwt := hs.wt
  have hc := hs.2.1
  have hn160 := hwt.2.2.1
  have hsr := hwt.1
  obtain ⟨h1, h2, h3, h4⟩ := hs.me
  have hsw : ∀ j, j < S.2.2.1.1.1 - 1 → k_sw S.2.2.1.1.1 j0 j < S.2.2.1.1.1 ∧ k_sw S.2.2.1.1.1 j0 j ≠ j0 := fun j hj => by
    unfold k_sw
    split <;> omega
  have hinj : ∀ i j, i < j → j < S.2.2.1.1.1 - 1 → k_sw S.2.2.1.1.1 j0 i ≠ k_sw S.2.2.1.1.1 j0 j := fun i j hij hj => by
    unfold k_sw
    split <;> split <;> omega
  have hne : ∀ a b, a < S.2.2.1.1.1 → b < S.2.2.1.1.1 → a ≠ b → k_eK G a ≠ k_eK G b := fun a b ha hb z => by
    rcases Nat.lt_trichotomy a b with y | y | y
    · exact h1 a b y hb
    · exact absurd y z
    · exact fun q => h1 b a y ha q.symm
  obtain ⟨p1, p2, p3, p4, p5⟩ := h2 j0 hj0
  have hpos : ∀ a, a < S.2.2.1.1.1 → a ≠ j0 → k_pl S.2.2.1.1.1 S.2.2.1.1.2.1 (k_eK G a) ≠ k_pl S.2.2.1.1.1 S.2.2.1.1.2.1 (k_eK G j0) := fun a ha z q => by
    have := k_pl_at (h2 a ha).1
    rw [q, k_pl_at p1] at this
    exact hne a j0 ha hj0 z this.symm
  have hpl : ∀ i, i < S.2.2.1.1.1 → i ≠ k_pl S.2.2.1.1.1 S.2.2.1.1.2.1 (k_eK G j0) → k_pl (S.2.2.1.1.1 - 1) (k_rem (k_pl S.2.2.1.1.1 S.2.2.1.1.2.1 (k_eK G j0)) S.2.2.1.1.2.1) (S.2.2.1.1.2.1 i) = if i < k_pl S.2.2.1.1.1 S.2.2.1.1.2.1 (k_eK G j0) then i else i - 1 := fun i hi z => by
    have := k_pl_eq (k_rem_srt (p := k_pl S.2.2.1.1.1 S.2.2.1.1.2.1 (k_eK G j0)) hsr) (i := if i < k_pl S.2.2.1.1.1 S.2.2.1.1.2.1 (k_eK G j0) then i else i - 1) (by split <;> omega)
    rw [k_rem_v z] at this
    exact this
  refine ⟨fun i j hij hj => ?_, fun j hj => ?_, fun i hi => ?_, fun i j hij hj y1 y2 => ?_⟩
  · have hj' : j < S.2.2.1.1.1 - 1 := hj
    rw [(e i (by omega)).1, (e j hj').1]
    exact hne _ _ (hsw i (by omega)).1 (hsw j hj').1 (hinj i j hij hj')
  · have hj' : j < S.2.2.1.1.1 - 1 := hj
    have ea : k_ahd G' (S.2.2.1.1.1 - 1) j + (if k_eL G j0 = k_eL G (k_sw S.2.2.1.1.1 j0 j) ∧ 0 < k_eO G j0 ∧ k_eO G j0 < k_eO G (k_sw S.2.2.1.1.1 j0 j) then 1 else 0) = k_ahd G S.2.2.1.1.1 (k_sw S.2.2.1.1.1 j0 j) := by
      unfold k_ahd
      rw [k_cnt_sw (p := fun i => decide (k_eL G i = k_eL G (k_sw S.2.2.1.1.1 j0 j)) && (decide (0 < k_eO G i) && decide (k_eO G i < k_eO G (k_sw S.2.2.1.1.1 j0 j)))) hj0]
      congr 1
      · exact k_cnt_cong (fun i hi => by rw [(e i hi).2.2.1, (e i hi).2.2.2, (e j hj').2.2.1, (e j hj').2.2.2])
      · simp only [Bool.and_eq_true, decide_eq_true_eq]
    obtain ⟨b1, b2, b3, b4⟩ := e j hj'
    obtain ⟨s1, s2⟩ := hsw j hj'
    show k_pl (S.2.2.1.1.1 - 1) (k_rem (k_pl S.2.2.1.1.1 S.2.2.1.1.2.1 (k_eK G j0)) S.2.2.1.1.2.1) (k_eK G' j) < S.2.2.1.1.1 - 1 ∧ k_eV G' j = k_rem (k_pl S.2.2.1.1.1 S.2.2.1.1.2.1 (k_eK G j0)) S.2.2.1.1.2.2 (k_pl (S.2.2.1.1.1 - 1) (k_rem (k_pl S.2.2.1.1.1 S.2.2.1.1.2.1 (k_eK G j0)) S.2.2.1.1.2.1) (k_eK G' j)) ∧ k_eL G' j = nI (k_lf S.2.2.1 (k_eK G' j) - 1) ∧ k_sm (k_eO G' j) 0 c ∧ k_rem (k_pl S.2.2.1.1.1 S.2.2.1.1.2.1 (k_eK G j0)) (k_tup S.2.2.1 (k_eK G j0)) (k_pl (S.2.2.1.1.1 - 1) (k_rem (k_pl S.2.2.1.1.1 S.2.2.1.1.2.1 (k_eK G j0)) S.2.2.1.1.2.1) (k_eK G' j)) = if k_eO G' j = 0 then 0 else nI (1 + k_ahd G' (S.2.2.1.1.1 - 1) j)
    rw [b1, b2, b3, b4]
    generalize k_sw S.2.2.1.1.1 j0 j = x at *
    obtain ⟨a1, a2, a3, ⟨o, o1, o2, o3⟩, a5⟩ := h2 x s1
    have hpx := hpos x s1 s2
    have hq := hpl _ a1 hpx
    rw [k_pl_at a1] at hq
    rw [hq, k_rem_v hpx, k_rem_v hpx]
    refine ⟨by split <;> omega, a2, a3, ⟨o, o1, o2, o3⟩, ?_⟩
    have hlx : k_inl S.2.2.1 (k_lf S.2.2.1 (k_eK G j0) - 1) (S.2.2.1.1.2.1 (k_pl S.2.2.1.1.1 S.2.2.1.1.2.1 (k_eK G x))) = true ↔ k_eL G x = k_eL G j0 := by
      have hr := hsr.2 _ p1
      rw [k_pl_at p1] at hr
      have hl0 : 0 < S.2.2.1.2.2.1 := by
        rcases Nat.eq_zero_or_pos S.2.2.1.2.2.1 with z | z
        · have := hwt.2.2.2.2.1 z; omega
        · exact z
      have q1 := k_lf_pos hwt hr.1 hl0
      have q2 := k_lf_le S.2.2.1 (k_eK G j0)
      rw [p3]
      exact (hs.lf s1 (by omega)).symm
    unfold k_tup
    have o0 := hs.or0 hj0
    by_cases zx : k_eO G x = 0
    · rw [if_pos zx] at a5
      rw [if_pos zx, a5, if_neg (fun y => by have a := y.1; have b := y.2.2; exact Int32.lt_irrefl (Int32.lt_trans a b))]
    · rw [if_neg zx] at a5
      rw [if_neg zx, a5]
      have hxo : 0 < k_eO G x := by
        rw [o1, k_i_lt, nI_toInt (by omega)]
        have : o ≠ 0 := fun z => zx (by rw [o1, z]; rfl)
        have e0 : (0 : Int32).toInt = 0 := rfl
        omega
      have hax : k_ahd G S.2.2.1.1.1 x ≤ S.2.2.1.1.1 := k_cnt_le _ _
      have ha0 : k_ahd G S.2.2.1.1.1 j0 ≤ S.2.2.1.1.1 := k_cnt_le _ _
      by_cases cnd : k_eL G j0 = k_eL G x ∧ 0 < k_eO G j0 ∧ k_eO G j0 < k_eO G x
      · rw [if_pos cnd] at ea
        have hlt := k_ahd_lt hj0 cnd.1 cnd.2.1 cnd.2.2
        have z0 : k_eO G j0 ≠ 0 := fun z => by
          have := cnd.2.1
          rw [z] at this
          exact Int32.lt_irrefl this
        rw [if_neg z0] at p5
        rw [if_pos ⟨o0.2.mp cnd.2.1, hlx.mpr cnd.1.symm, by rw [p5]; exact nI_lt (by omega) (by omega)⟩, show 1 + k_ahd G S.2.2.1.1.1 x = k_ahd G S.2.2.1.1.1 x + 1 by omega, nI_pred]
        congr 1
        omega
      · rw [if_neg cnd] at ea
        rw [if_neg (fun y => ?_)]
        · congr 2
          omega
        · obtain ⟨y1, y2', y3⟩ := y
          have y2 := hlx.mp y2'
          have w1 := o0.2.mpr y1
          have z0 : k_eO G j0 ≠ 0 := fun z => by
            rw [z] at w1
            exact Int32.lt_irrefl w1
          rw [if_neg z0] at p5
          rw [p5] at y3
          have y4 : k_ahd G S.2.2.1.1.1 j0 < k_ahd G S.2.2.1.1.1 x := by
            rw [k_i_lt, nI_toInt (by omega), nI_toInt (by omega)] at y3
            omega
          obtain ⟨o', q1, q2, q3⟩ := p4
          rcases Nat.lt_trichotomy o o' with t | t | t
          · have := k_ahd_lt (G := G) s1 y2 hxo (by rw [o1, q1]; exact nI_lt t (by omega))
            omega
          · have eo : k_eO G x = k_eO G j0 := by rw [o1, q1, t]
            rcases Nat.lt_trichotomy x j0 with r | r | r
            · exact zx (h4 x j0 r hj0 y2 eo)
            · exact s2 r
            · exact z0 (h4 j0 x r s1 y2.symm eo.symm)
          · exact cnd ⟨y2.symm, w1, by rw [o1, q1]; exact nI_lt t (by omega)⟩
  · have hi' : i < S.2.2.1.1.1 - 1 := hi
    show ∃ j, j < S.2.2.1.1.1 - 1 ∧ k_eK G' j = k_rem (k_pl S.2.2.1.1.1 S.2.2.1.1.2.1 (k_eK G j0)) S.2.2.1.1.2.1 i
    have key : ∀ i', i' < S.2.2.1.1.1 → i' ≠ k_pl S.2.2.1.1.1 S.2.2.1.1.2.1 (k_eK G j0) → ∃ j, j < S.2.2.1.1.1 - 1 ∧ k_eK G' j = S.2.2.1.1.2.1 i' := fun i' hi1 hi2 => by
      obtain ⟨j, hj, ej⟩ := h3 i' hi1
      have hjn : j ≠ j0 := fun z => hi2 (by
        have := k_pl_eq hsr hi1
        rw [← ej, z] at this
        exact this.symm)
      by_cases z : j = S.2.2.1.1.1 - 1
      · refine ⟨j0, by omega, ?_⟩
        rw [(e j0 (by omega)).1]
        unfold k_sw
        rw [if_pos rfl, ← z, ej]
      · refine ⟨j, by omega, ?_⟩
        rw [(e j (by omega)).1]
        unfold k_sw
        rw [if_neg hjn, ej]
    rcases Nat.lt_or_ge i (k_pl S.2.2.1.1.1 S.2.2.1.1.2.1 (k_eK G j0)) with y | y
    · rw [k_rem_lo y]; exact key i (by omega) (by omega)
    · rw [k_rem_hi y]; exact key (i + 1) (by omega) (by omega)
  · have hj' : j < S.2.2.1.1.1 - 1 := hj
    rw [(e i (by omega)).2.2.1, (e j hj').2.2.1] at y1
    rw [(e i (by omega)).2.2.2] at y2 ⊢
    rw [(e j hj').2.2.2] at y2
    have a := hsw i (by omega)
    have b := hsw j hj'
    rcases Nat.lt_trichotomy (k_sw S.2.2.1.1.1 j0 i) (k_sw S.2.2.1.1.1 j0 j) with z | z | z
    · exact h4 _ _ z b.1 y1 y2
    · exact absurd z (hinj i j hij hj')
    · rw [y2]; exact h4 _ _ z a.1 y1.symm y2.symm
theorem k_er_loop {n j0 : Nat} (hn : n < 160) (hj : j0 ≤ n) (v0 : Int32) {K : Int32 → XM → Option (Int32 × XM)} : ∀ (d fuel w : Nat) (f : XM) (V : KM), w + d = 4 → d < fuel → k_mo f m V → V.1 1 7 = nI n →
    ∃ (f' : XM) (V' : KM), F_X6_erases_L27 N m (nI j0) v0 K fuel (nI w) f = K (nI 4) f' ∧ k_mo f' m V' ∧ k_mx V V' [1] [] ∧ k_fr f f' m (m + 10) ∧ ∀ a, V'.1 1 a = if 856 + 4 * j0 + w ≤ a ∧ a < 860 + 4 * j0 then V.1 1 (a - 4 * j0 + 4 * n) else V.1 1 a := by
  intro d
  induction d with
  | zero =>
    intro fuel w f V e1 e2 h e7
    obtain ⟨u, rfl⟩ : ∃ u, fuel = u + 1 := ⟨fuel - 1, by omega⟩
    have e : w = 4 := by omega
    subst e
    refine ⟨f, V, ?_, h, k_mx.rf, k_fr.rf, fun a => by rw [if_neg (by omega)]⟩
    rw [F_X6_erases_L27, if_pos (show (4 : Int32) ≤ nI 4 from nI_le (a := 4) (by omega) (by omega))]
  | succ d ih =>
    intro fuel w f V e1 e2 h e7
    obtain ⟨u, rfl⟩ : ∃ u, fuel = u + 1 := ⟨fuel - 1, by omega⟩
    obtain ⟨f1, a1, a2, a3⟩ := h.st (a := 1) (i := 856 + 4 * j0 + w) (by omega) (by omega) (by show _ < 6696; omega) (V.1 1 (856 + 4 * n + w))
    obtain ⟨f', V', r1, r2, r3, r4, r5⟩ := ih u (w + 1) f1 _ (by omega) (by omega) a2 (by rw [k_sA_s, k_upd_n (by omega)]; exact e7)
    refine ⟨f', V', ?_, r2, (k_sA_mx (by simp)).tr r3, a3.tr r4, fun a => ?_⟩
    · rw [F_X6_erases_L27, if_neg (show ¬ (4 : Int32) ≤ nI w from nI_ge (b := 4) (by omega) (by omega))]
      have l7 : x_ald f (m + 1) 7 = some (nI n) := by rw [← e7]; exact k_ld1 h (i := 7) (by omega)
      simp only [h.r0, l7, k_ixe, k_ld1 h (i := 856 + 4 * n + w) (by omega), a1, Option.bind_some, k_add1]
      exact r1
    · rw [r5 a, k_sA_s]
      by_cases z : a = 856 + 4 * j0 + w
      · rw [if_neg (by omega), if_pos (by omega), z, k_upd_s]
        exact congrArg (V.1 1) (by omega)
      · rw [k_upd_n z]
        by_cases z2 : 856 + 4 * j0 + (w + 1) ≤ a ∧ a < 860 + 4 * j0
        · rw [if_pos z2, if_pos (by omega)]
          by_cases z3 : a - 4 * j0 + 4 * n = 856 + 4 * j0 + w
          · exfalso; omega
          · rw [k_upd_n z3]
        · rw [if_neg z2, if_neg (by omega)]
theorem k_merases (hN : 1000 ≤ N) (h : k_mo f m V) (hs : k_ms (V.1 1) S c) {k : Int32} (hp : k_pl S.2.2.1.1.1 S.2.2.1.1.2.1 k < S.2.2.1.1.1) :
    ∃ (f' : XM) (V' : KM), F_X6_erases N f m k = some (S.2.2.1.1.2.2 (k_pl S.2.2.1.1.1 S.2.2.1.1.2.1 k), f') ∧ k_mo f' m V' ∧ k_mx V V' [1] [] ∧ k_fr f f' m (m + 10) ∧ k_ms (V'.1 1) (k_stt S (k_tdel S.2.2.1 k)) c := by
  have hwt := hs.wt
  have hn160 := hwt.2.2.1
  have g' := (k_me_pl hs.me k).mpr hp
  have hek : k_eK (V.1 1) (k_pl S.2.2.1.1.1 (k_eK (V.1 1)) k) = k := k_pl_at g'
  have hent := k_entryOf hN h hs k
  rw [if_pos g'] at hent
  generalize k_pl S.2.2.1.1.1 (k_eK (V.1 1)) k = j0 at *
  have hcl := hs.2.2.2.2.2.2.2.2.1
  have hct := hs.2.2.2.2.2.2.2.2.2.2
  have g7 : V.1 1 7 = nI S.2.2.1.1.1 := hs.2.2.1.2.2.2.2.2.1
  have g8 : V.1 1 8 = nI S.2.2.1.2.2.1 := hs.2.2.1.2.2.2.2.2.2
  have h23' := hs.2.2.2.2.2.2.1
  have hev : k_eV (V.1 1) j0 = S.2.2.1.1.2.2 (k_pl S.2.2.1.1.1 S.2.2.1.1.2.1 k) := by
    rw [(hs.me.2.1 j0 g').2.1, hek]
  obtain ⟨q, hq⟩ : ∃ q, S.2.2.1.1.1 = q + 1 := ⟨S.2.2.1.1.1 - 1, by omega⟩
  obtain ⟨f1, a1, a2, a3⟩ := h.st (a := 1) (i := 7) (by omega) (by omega) (by show _ < 6696; omega) (nI q)
  obtain ⟨f', V', r1, r2, r3, r4, r5⟩ := k_er_loop (N := N) (n := q) (j0 := j0) (by omega) (by omega) (k_eV (V.1 1) j0) (K := fun _ g17 => some (k_eV (V.1 1) j0, g17)) 4 N 0 f1 _ (by omega) (by omega) a2 (by rw [k_sA_s, k_upd_s])
  have hG : ∀ a, V'.1 1 a = if 856 + 4 * j0 ≤ a ∧ a < 860 + 4 * j0 then V.1 1 (a - 4 * j0 + 4 * q) else if a = 7 then nI q else V.1 1 a := fun a => by
    rw [r5 a, k_sA_s]
    by_cases z : 856 + 4 * j0 ≤ a ∧ a < 860 + 4 * j0
    · rw [if_pos (show 856 + 4 * j0 + 0 ≤ a ∧ a < 860 + 4 * j0 by omega), if_pos z, k_upd_n (by omega)]
    · rw [if_neg (show ¬ (856 + 4 * j0 + 0 ≤ a ∧ a < 860 + 4 * j0) by omega), if_neg z]
      by_cases y : a = 7
      · rw [y, k_upd_s, if_pos rfl]
      · rw [k_upd_n y, if_neg y]
  refine ⟨f', V', ?_, r2, (k_sA_mx (by simp)).tr r3, a3.tr r4, ?_⟩
  · have a1' : x_ast f (m + 1) 7 (nI q) = some f1 := a1
    unfold F_X6_erases
    rw [h.cv, hent, Option.bind_some, h.cv, k_ent1 h (by omega), Option.bind_some, h.r0, Option.bind_some, Option.bind_some, k_l7 h hs, Option.bind_some, hq, nI_pred, a1', Option.bind_some]
    rw [hq] at hev
    rw [hev] at r1 ⊢
    exact r1
  · have hm := k_me_del (G' := V'.1 1) hs g' (fun j hj => by
      unfold k_eK k_eV k_eL k_eO k_sw
      rw [hG, hG, hG, hG]
      by_cases z : j = j0
      · rw [if_pos z, if_pos (by omega), if_pos (by omega), if_pos (by omega), if_pos (by omega)]
        exact ⟨congrArg (V.1 1) (by omega), congrArg (V.1 1) (by omega), congrArg (V.1 1) (by omega), congrArg (V.1 1) (by omega)⟩
      · rw [if_neg z, if_neg (by omega), if_neg (by omega), if_neg (by omega), if_neg (by omega), if_neg (by omega), if_neg (by omega), if_neg (by omega), if_neg (by omega)]
        exact ⟨rfl, rfl, rfl, rfl⟩)
    rw [hek] at hm
    refine hs.tree (k_wt_del hwt) (Nat.le_refl _) hs.2.1 (fun a x1 x2 x3 x4 x5 => by rw [hG, if_neg (by omega), if_neg x4]) ?_ (by rw [hG, if_neg (by omega), if_neg (by omega)]; exact g8) (fun l hl' => by rw [hG, if_neg (by omega), if_neg (by omega)]; exact hs.2.2.2.2.1 l hl') hs.2.2.2.2.2.1 (fun z => by
        obtain ⟨y1, y2⟩ := h23' z
        rw [hG, hG, if_neg (by omega), if_neg (by omega), if_neg (by omega), if_neg (by omega)]
        exact ⟨y1, y2⟩) hm hcl (show k_told S + (S.2.2.1.1.1 - 1) ≤ c by omega)
    rw [hG, if_neg (by omega), if_pos rfl]
    show nI q = nI (S.2.2.1.1.1 - 1)
    rw [hq]
    rfl
end KMX
