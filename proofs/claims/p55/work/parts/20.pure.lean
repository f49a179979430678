/-! Pure laws: counts, first places, sorted rows. -/
def k_cnt (p : Nat → Bool) : Nat → Nat
  | 0 => 0
  | n + 1 => k_cnt p n + if p n then 1 else 0
theorem k_cnt_y {p : Nat → Bool} {n : Nat} (h : p n = true) : k_cnt p (n + 1) = k_cnt p n + 1 := by rw [k_cnt, if_pos h]
theorem k_cnt_n {p : Nat → Bool} {n : Nat} (h : p n = false) : k_cnt p (n + 1) = k_cnt p n := by rw [k_cnt, if_neg (by rw [h]; decide)]; rfl
theorem k_cnt_le (p : Nat → Bool) : ∀ n, k_cnt p n ≤ n
  | 0 => Nat.le_refl 0
  | n + 1 => by
    have ih := k_cnt_le p n
    unfold k_cnt
    split <;> omega
theorem k_cnt_mono (p : Nat → Bool) {a b : Nat} (h : a ≤ b) : k_cnt p a ≤ k_cnt p b := by
  induction b with
  | zero => rw [Nat.le_zero.mp h]; exact Nat.le_refl _
  | succ b ih =>
    by_cases e : a = b + 1
    · rw [e]; exact Nat.le_refl _
    · have := ih (by omega)
      rw [k_cnt]
      omega
theorem k_cnt_cong {p q : Nat → Bool} : ∀ {n : Nat}, (∀ k, k < n → p k = q k) → k_cnt p n = k_cnt q n
  | 0, _ => rfl
  | n + 1, h => by rw [k_cnt, k_cnt, k_cnt_cong (fun k hk => h k (Nat.lt_succ_of_lt hk)), h n (Nat.lt_succ_self n)]
theorem k_cnt_0 {p : Nat → Bool} : ∀ {n : Nat}, (∀ k, k < n → p k = false) → k_cnt p n = 0
  | 0, _ => rfl
  | n + 1, h => by rw [k_cnt_n (h n (Nat.lt_succ_self n)), k_cnt_0 (fun k hk => h k (Nat.lt_succ_of_lt hk))]
theorem k_cnt_all {p : Nat → Bool} : ∀ {n : Nat}, (∀ k, k < n → p k = true) → k_cnt p n = n
  | 0, _ => rfl
  | n + 1, h => by rw [k_cnt_y (h n (Nat.lt_succ_self n)), k_cnt_all (fun k hk => h k (Nat.lt_succ_of_lt hk))]
theorem k_cnt_tail {p : Nat → Bool} {a b : Nat} (h : a ≤ b) (hp : ∀ k, a ≤ k → k < b → p k = false) : k_cnt p b = k_cnt p a := by
  induction b with
  | zero => rw [Nat.le_zero.mp h]
  | succ b ih =>
    by_cases e : a = b + 1
    · rw [e]
    · rw [k_cnt_n (hp b (by omega) (by omega))]
      exact ih (by omega) (fun k h1 h2 => hp k h1 (by omega))
theorem k_cnt_or {p q : Nat → Bool} : ∀ {n : Nat}, (∀ k, k < n → ¬ (p k = true ∧ q k = true)) → k_cnt (fun k => p k || q k) n = k_cnt p n + k_cnt q n
  | 0, _ => rfl
  | n + 1, h => by
    have ih := k_cnt_or (p := p) (q := q) (n := n) (fun k hk => h k (Nat.lt_succ_of_lt hk))
    have h1 := h n (Nat.lt_succ_self n)
    rw [k_cnt, k_cnt, k_cnt, ih]
    cases hp : p n <;> cases hq : q n <;> simp_all <;> omega
theorem k_cnt_del {p : Nat → Bool} {n i : Nat} (hi : i < n) : k_cnt p n = k_cnt (fun k => p k && !decide (k = i)) n + if p i then 1 else 0 := by
  have h1 : ∀ m, m ≤ i → k_cnt (fun k => p k && !decide (k = i)) m = k_cnt p m := fun m hm => k_cnt_cong (fun k hk => by simp [show k ≠ i by omega])
  have h2 : ∀ d, k_cnt p (i + 1 + d) = k_cnt (fun k => p k && !decide (k = i)) (i + 1 + d) + if p i then 1 else 0 := by
    intro d
    induction d with
    | zero =>
      show k_cnt p (i + 1) = k_cnt (fun k => p k && !decide (k = i)) (i + 1) + _
      rw [k_cnt_n (p := fun k => p k && !decide (k = i)) (by simp), h1 i (Nat.le_refl _), k_cnt]
    | succ d ih =>
      show k_cnt p (i + 1 + d + 1) = k_cnt (fun k => p k && !decide (k = i)) (i + 1 + d + 1) + _
      rw [k_cnt, k_cnt, ih]
      have : (p (i + 1 + d) && !decide (i + 1 + d = i)) = p (i + 1 + d) := by simp [show i + 1 + d ≠ i by omega]
      rw [this]
      omega
  have := h2 (n - (i + 1))
  rwa [show i + 1 + (n - (i + 1)) = n by omega] at this
/-- as many as have a fellow of the same name, if the names differ -/
theorem k_cnt_rel {q : Nat → Bool} {a b : Nat → Int32} {m : Nat} : ∀ {n : Nat} {p : Nat → Bool}, (∀ i j, i < j → j < n → a i ≠ a j) → (∀ j, j < n → q j = true → ∃ i, i < m ∧ p i = true ∧ b i = a j) → k_cnt q n ≤ k_cnt p m
  | 0, _, _, _ => Nat.zero_le _
  | n + 1, p, h, k => by
    cases hq : q n with
    | false =>
      rw [k_cnt_n hq]
      exact k_cnt_rel (b := b) (fun i j h1 h2 => h i j h1 (by omega)) (fun j h1 h2 => k j (by omega) h2)
    | true =>
      obtain ⟨i, h1, h2, h3⟩ := k n (by omega) hq
      rw [k_cnt_y hq, k_cnt_del (p := p) h1, if_pos h2]
      refine Nat.add_le_add_right ?_ 1
      refine k_cnt_rel (b := b) (fun i j h1 h2 => h i j h1 (by omega)) (fun j h4 h5 => ?_)
      obtain ⟨i', g1, g2, g3⟩ := k j (by omega) h5
      refine ⟨i', g1, ?_, g3⟩
      have : i' ≠ i := by
        intro e
        subst e
        exact h j n h4 (by omega) (g3.symm.trans h3)
      simp [g2, this]
theorem k_cnt_eqv {q p : Nat → Bool} {a b : Nat → Int32} {m n : Nat} (ha : ∀ i j, i < j → j < n → a i ≠ a j) (hb : ∀ i j, i < j → j < m → b i ≠ b j)
    (h1 : ∀ j, j < n → q j = true → ∃ i, i < m ∧ p i = true ∧ b i = a j) (h2 : ∀ i, i < m → p i = true → ∃ j, j < n ∧ q j = true ∧ a j = b i) : k_cnt q n = k_cnt p m :=
  Nat.le_antisymm (k_cnt_rel ha h1) (k_cnt_rel hb h2)
/-- the first k < n with p k, n if there is none -/
def k_fst (p : Nat → Bool) : Nat → Nat
  | 0 => 0
  | n + 1 => if k_fst p n < n then k_fst p n else if p n then n else n + 1
theorem k_fst_le (p : Nat → Bool) : ∀ n, k_fst p n ≤ n
  | 0 => Nat.le_refl 0
  | n + 1 => by
    have ih := k_fst_le p n
    unfold k_fst
    split
    · omega
    · split <;> omega
theorem k_fst_no (p : Nat → Bool) : ∀ n k, k < k_fst p n → p k = false
  | 0, k, h => absurd h (Nat.not_lt_zero k)
  | n + 1, k, h => by
    have ih := k_fst_no p n
    have hl := k_fst_le p n
    unfold k_fst at h
    split at h
    · exact ih k h
    · rename_i h1
      split at h
      · exact ih k (by omega)
      · rename_i h2
        by_cases e : k = n
        · subst e
          exact Bool.eq_false_iff.mpr h2
        · exact ih k (by omega)
theorem k_fst_yes (p : Nat → Bool) : ∀ n, k_fst p n < n → p (k_fst p n) = true
  | 0, h => absurd h (Nat.not_lt_zero _)
  | n + 1, h => by
    have ih := k_fst_yes p n
    have hl := k_fst_le p n
    unfold k_fst at h ⊢
    split at h
    · rename_i h1
      rw [if_pos h1]
      exact ih h1
    · rename_i h1
      rw [if_neg h1]
      split at h
      · rename_i h2
        rw [if_pos h2]
        exact h2
      · omega
theorem k_fst_eq {p : Nat → Bool} {n i : Nat} (h : i ≤ n) (h1 : ∀ j, j < i → p j = false) (h2 : i < n → p i = true) : k_fst p n = i := by
  have a := k_fst_le p n
  rcases Nat.lt_trichotomy (k_fst p n) i with g | g | g
  · have := k_fst_yes p n (by omega)
    rw [h1 _ g] at this
    cases this
  · exact g
  · have := k_fst_no p n i g
    rw [h2 (by omega)] at this
    cases this
theorem k_fst_cong {p q : Nat → Bool} {n : Nat} (h : ∀ k, k < n → p k = q k) : k_fst p n = k_fst q n := by
  refine k_fst_eq (k_fst_le q n) (fun j hj => ?_) (fun hj => ?_)
  · rw [h j (Nat.lt_of_lt_of_le hj (k_fst_le q n))]; exact k_fst_no q n j hj
  · rw [h _ hj]; exact k_fst_yes q n hj
/-- rising keys, 0 to 9999 -/
def k_srt (n : Nat) (g : Nat → Int32) : Prop := (∀ i j, i < j → j < n → (g i).toInt < (g j).toInt) ∧ ∀ i, i < n → 0 ≤ (g i).toInt ∧ (g i).toInt < 10000
/-- the place of the first key that is not below -/
def k_rk (n : Nat) (g : Nat → Int32) (k : Int32) : Nat := k_fst (fun i => decide (k.toInt ≤ (g i).toInt)) n
/-- the place of a key, n if it is not there -/
def k_pl (n : Nat) (g : Nat → Int32) (k : Int32) : Nat := k_fst (fun i => decide (g i = k)) n
theorem k_srt_ne {n : Nat} {g : Nat → Int32} (h : k_srt n g) {i j : Nat} (hi : i < n) (hj : j < n) (e : g i = g j) : i = j := by
  rcases Nat.lt_trichotomy i j with a | a | a
  · have := h.1 i j a hj; rw [e] at this; omega
  · exact a
  · have := h.1 j i a hi; rw [e] at this; omega
theorem k_srt_dn {n : Nat} {g : Nat → Int32} (h : k_srt n g) (i j : Nat) (hi : i < j) (hj : j < n) : g i ≠ g j := fun e => by
  have := k_srt_ne h (by omega) hj e
  omega
theorem k_srt_cong {n : Nat} {g g' : Nat → Int32} (h : k_srt n g) (e : ∀ i, i < n → g' i = g i) : k_srt n g' :=
  ⟨fun i j h1 h2 => by rw [e i (by omega), e j h2]; exact h.1 i j h1 h2, fun i h1 => by rw [e i h1]; exact h.2 i h1⟩
theorem k_pl_le (n : Nat) (g : Nat → Int32) (k : Int32) : k_pl n g k ≤ n := k_fst_le _ n
theorem k_rk_le (n : Nat) (g : Nat → Int32) (k : Int32) : k_rk n g k ≤ n := k_fst_le _ n
theorem k_pl_at {n : Nat} {g : Nat → Int32} {k : Int32} (h : k_pl n g k < n) : g (k_pl n g k) = k := of_decide_eq_true (k_fst_yes (fun i => decide (g i = k)) n h)
theorem k_pl_no {n : Nat} {g : Nat → Int32} {k : Int32} (h : ¬ k_pl n g k < n) {i : Nat} (hi : i < n) : g i ≠ k := of_decide_eq_false (k_fst_no (fun i => decide (g i = k)) n i (by unfold k_pl at h; omega))
theorem k_pl_in {n : Nat} {g : Nat → Int32} {k : Int32} {i : Nat} (hi : i < n) (e : g i = k) : k_pl n g k < n := by
  rcases Nat.lt_or_ge (k_pl n g k) n with h | h
  · exact h
  · exact absurd e (k_pl_no (by omega) hi)
theorem k_pl_iff {n : Nat} {g : Nat → Int32} {k : Int32} : k_pl n g k < n ↔ ∃ i, i < n ∧ g i = k := ⟨fun h => ⟨_, h, k_pl_at h⟩, fun ⟨_, h, e⟩ => k_pl_in h e⟩
theorem k_pl_eq {n : Nat} {g : Nat → Int32} (h : k_srt n g) {i : Nat} (hi : i < n) : k_pl n g (g i) = i := k_srt_ne h (k_pl_in hi rfl) hi (k_pl_at (k_pl_in hi rfl))
theorem k_rk_lo {n : Nat} {g : Nat → Int32} {k : Int32} {i : Nat} (hi : i < k_rk n g k) : (g i).toInt < k.toInt := by
  have := of_decide_eq_false (k_fst_no (fun i => decide (k.toInt ≤ (g i).toInt)) n i hi)
  omega
theorem k_rk_hi {n : Nat} {g : Nat → Int32} (h : k_srt n g) {k : Int32} {i : Nat} (hi : k_rk n g k ≤ i) (hn : i < n) : k.toInt ≤ (g i).toInt := by
  have h1 := of_decide_eq_true (k_fst_yes (fun i => decide (k.toInt ≤ (g i).toInt)) n (show k_rk n g k < n by omega))
  rcases Nat.eq_or_lt_of_le hi with e | e
  · rw [← e]; exact h1
  · have := h.1 _ i e hn
    exact Int.le_of_lt (Int.lt_of_le_of_lt h1 this)
theorem k_rk_eq {n : Nat} {g : Nat → Int32} {k : Int32} {i : Nat} (h : i ≤ n) (h1 : ∀ j, j < i → (g j).toInt < k.toInt) (h2 : i < n → k.toInt ≤ (g i).toInt) : k_rk n g k = i :=
  k_fst_eq h (fun j hj => decide_eq_false (by have := h1 j hj; omega)) (fun hi => decide_eq_true (h2 hi))
theorem k_rk_pl {n : Nat} {g : Nat → Int32} (h : k_srt n g) {k : Int32} (hp : k_pl n g k < n) : k_rk n g k = k_pl n g k := by
  have e := k_pl_at hp
  refine k_rk_eq (Nat.le_of_lt hp) (fun j hj => ?_) (fun _ => ?_)
  · have := h.1 j _ hj hp; rw [e] at this; exact this
  · rw [e]; exact Int.le_refl _
theorem k_rk_pl' {n : Nat} {g : Nat → Int32} {k : Int32} (hp : ¬ k_pl n g k < n) (hr : k_rk n g k < n) : g (k_rk n g k) ≠ k := k_pl_no hp hr
theorem k_rk_cong {n : Nat} {g g' : Nat → Int32} {k : Int32} (e : ∀ i, i < n → g' i = g i) : k_rk n g' k = k_rk n g k := k_fst_cong (fun i hi => by rw [e i hi])
theorem k_pl_cong {n : Nat} {g g' : Nat → Int32} {k : Int32} (e : ∀ i, i < n → g' i = g i) : k_pl n g' k = k_pl n g k := k_fst_cong (fun i hi => by rw [e i hi])
/-- two rising rows of the same keys are one -/
theorem k_srt_uniq {n m : Nat} {a b : Nat → Int32} (ha : k_srt n a) (hb : k_srt m b) (h : ∀ x, (∃ i, i < n ∧ a i = x) ↔ (∃ i, i < m ∧ b i = x)) : n = m ∧ ∀ i, i < n → a i = b i := by
  have key : ∀ i, (i < n → i < m ∧ a i = b i) ∧ (i < m → i < n) := by
    intro i
    induction i using Nat.strongRecOn with
    | ind i ih =>
      have s1 : i < n → i < m ∧ (b i).toInt ≤ (a i).toInt := fun hi => by
        obtain ⟨j, hj, e⟩ := (h (a i)).mp ⟨i, hi, rfl⟩
        have hji : ¬ j < i := fun hlt => by
          have := ((ih j hlt).1 (by omega)).2
          have := ha.1 j i hlt hi
          rw [‹a j = b j›, e] at this
          omega
        refine ⟨by omega, ?_⟩
        rw [← e]
        rcases Nat.eq_or_lt_of_le (Nat.le_of_not_lt hji) with g | g
        · rw [g]; exact Int.le_refl _
        · exact Int.le_of_lt (hb.1 i j g hj)
      have s2 : i < m → i < n ∧ (a i).toInt ≤ (b i).toInt := fun hi => by
        obtain ⟨j, hj, e⟩ := (h (b i)).mpr ⟨i, hi, rfl⟩
        have hji : ¬ j < i := fun hlt => by
          have h2 := ((ih j hlt).1 hj).2
          have := hb.1 j i hlt hi
          rw [← h2, e] at this
          omega
        refine ⟨by omega, ?_⟩
        rw [← e]
        rcases Nat.eq_or_lt_of_le (Nat.le_of_not_lt hji) with g | g
        · rw [g]; exact Int.le_refl _
        · exact Int.le_of_lt (ha.1 i j g hj)
      refine ⟨fun hi => ⟨(s1 hi).1, Int32.toInt_inj.mp ?_⟩, fun hi => (s2 hi).1⟩
      have := (s1 hi).2
      have := (s2 (s1 hi).1).2
      omega
  refine ⟨?_, fun i hi => ((key i).1 hi).2⟩
  rcases Nat.lt_trichotomy n m with g | g | g
  · have := (key n).2 g; omega
  · exact g
  · have := ((key m).1 g).1; omega
/-- numbers -/
theorem k_i_lt {a b : Int32} : a < b ↔ a.toInt < b.toInt := Int32.lt_iff_toInt_lt
theorem k_i_le {a b : Int32} : a ≤ b ↔ a.toInt ≤ b.toInt := Int32.le_iff_toInt_le
theorem k_i_eq {a b : Int32} : a = b ↔ a.toInt = b.toInt := Int32.toInt_inj.symm
theorem k_nn {x : Int32} (h : 0 ≤ x.toInt) : ∃ j : Nat, j < 2 ^ 31 ∧ x = nI j ∧ x.toInt = (j : Int) := by
  obtain ⟨j, h1, h2⟩ := nI_of (x := x) (by rw [k_i_lt]; show ¬ x.toInt < 0; omega)
  exact ⟨j, h1, h2, by rw [h2, nI_toInt h1]⟩

