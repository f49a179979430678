/-! Heap access over a picture, and the rows. -/
abbrev KR : Type := Nat × (Nat → Int32) × (Nat → Int32)
section KH
variable {wz : Nat}
variable {f f' : XM} {ci a b k c n : Nat} {fs : List Value} {v w : Int32} {g : Nat → Int32}
theorem k_geti (h : f a = some (.inr (ci, fs))) (hk : fs[k]? = some (.int v)) : x_geti f ci a k = some v := by simp [x_geti, h, hk]
theorem k_getr {r : Nat} (h : f a = some (.inr (ci, fs))) (hk : fs[k]? = some (.ref r)) : x_getr f ci a k = some (some r) := by simp [x_getr, h, hk]
theorem k_getn (h : f a = some (.inr (ci, fs))) (hk : fs[k]? = some .null) : x_getr f ci a k = some none := by simp [x_getr, h, hk]
theorem k_puti (h : f a = some (.inr (ci, fs))) (hk : k < fs.length) : x_puti f ci a k v = some (x_up f a (.inr (ci, fs.set k (.int v)))) := by simp [x_puti, x_putf, h, hk]
theorem k_putr {r : Nat} (h : f a = some (.inr (ci, fs))) (hk : k < fs.length) : x_putr f ci a k (some r) = some (x_up f a (.inr (ci, fs.set k (.ref r)))) := by simp [x_putr, x_putf, h, hk, va_rf]
theorem k_alen (h : f a = some (.inl (.int, n, .inl g))) : x_alen f a = some (nI n) := by simp [x_alen, h, nI]
theorem k_ald (h : f a = some (.inl (.int, n, .inl g))) {i : Nat} (hi : i < n) (hn : n < 2 ^ 31) : x_ald f a (nI i) = some (g i) := by
  have h1 : ¬ (nI i < 0 ∨ n ≤ (nI i).toNatClampNeg) := nI_in hi hn
  have h2 : (nI i).toNatClampNeg = i := nI_clamp (by omega)
  simp only [x_ald, h]
  rw [if_neg h1, h2]
theorem k_ast (h : f a = some (.inl (.int, n, .inl g))) {i : Nat} (hi : i < n) (hn : n < 2 ^ 31) : x_ast f a (nI i) v = some (x_up f a (.inl (.int, n, .inl (upd g i v)))) := by
  have h1 : ¬ (nI i < 0 ∨ n ≤ (nI i).toNatClampNeg) := nI_in hi hn
  have h2 : (nI i).toNatClampNeg = i := nI_clamp (by omega)
  simp only [x_ast, h]
  rw [if_neg h1, h2]
theorem k_cv {β : Type} {o : Option β} (h : f a = some (.inr (ci, fs))) : x_cv f ci a o = o := by simp [x_cv, h]
end KH
theorem k_one : (1 : Int32) = nI 1 := rfl
theorem k_zero : (0 : Int32) = nI 0 := rfl
theorem k_add1 (n : Nat) : nI n + 1 = nI (n + 1) := nI_add n 1
theorem k_nim1 (n : Nat) (h : n < 2 ^ 31) : ¬ nI n = (-1 : Int32) := fun e => by
  rw [k_i_eq, nI_toInt h] at e
  have : ((-1 : Int32)).toInt = -1 := rfl
  omega
theorem k_xb_t : (x_b true = 0) = False := by simp [x_b]
theorem k_xb_f : (x_b false = 0) = True := by simp [x_b]
theorem k_i10 : ((1 : Int32) = 0) = False := eq_false (by decide)
theorem k_i00 : ((0 : Int32) = 0) = True := eq_true rfl
/-- f' is f but in lo .. hi - 1 -/
def k_fr (f f' : XM) (lo hi : Nat) : Prop := ∀ q, ¬ (lo ≤ q ∧ q < hi) → f' q = f q
theorem k_fr.rf {f : XM} {lo hi : Nat} : k_fr f f lo hi := fun _ _ => rfl
theorem k_fr.tr {f f' f'' : XM} {lo hi : Nat} (h : k_fr f f' lo hi) (h2 : k_fr f' f'' lo hi) : k_fr f f'' lo hi := fun q hq => (h2 q hq).trans (h q hq)
theorem k_fr.wd {f f' : XM} {lo hi lo' hi' : Nat} (h : k_fr f f' lo' hi') (h1 : lo ≤ lo') (h2 : hi' ≤ hi) : k_fr f f' lo hi := fun q hq => h q (by omega)
theorem k_fr.up {f : XM} {lo hi a : Nat} {e : XE} (h1 : lo ≤ a) (h2 : a < hi) : k_fr f (x_up f a e) lo hi := fun q hq => x_up_n (by omega)
theorem k_fr.upd {f f' : XM} {lo hi a : Nat} {e : XE} (h : k_fr f f' lo hi) (h1 : lo ≤ a) (h2 : a < hi) : k_fr f (x_up f' a e) lo hi := h.tr (k_fr.up h1 h2)
/-- a row's object lies at b, its keys behind it, then its values; room c -/
def k_row (f : XM) (b c : Nat) (R : KR) : Prop := R.1 ≤ c ∧ c ≤ 4000 ∧ ∃ gk gv : Nat → Int32, f b = some (.inr (2, [.ref (b + 1), .ref (b + 2), .int (nI R.1)])) ∧ f (b + 1) = some (.inl (.int, c, .inl gk)) ∧ f (b + 2) = some (.inl (.int, c, .inl gv)) ∧ (∀ i, i < R.1 → gk i = R.2.1 i) ∧ (∀ i, i < R.1 → gv i = R.2.2 i)
theorem k_row.ext {f f' : XM} {b c : Nat} {R : KR} (h : k_row f b c R) (e : ∀ q, b ≤ q → q < b + 3 → f' q = f q) : k_row f' b c R := by
  obtain ⟨h1, h2, gk, gv, h3, h4, h5, h6, h7⟩ := h
  exact ⟨h1, h2, gk, gv, (e _ (by omega) (by omega)).trans h3, (e _ (by omega) (by omega)).trans h4, (e _ (by omega) (by omega)).trans h5, h6, h7⟩
theorem k_row.fr {f f' : XM} {b c lo hi : Nat} {R : KR} (h : k_row f b c R) (e : k_fr f f' lo hi) (d : b + 3 ≤ lo ∨ hi ≤ b) : k_row f' b c R := h.ext (fun q h1 h2 => e q (by omega))
theorem k_row.cong {f : XM} {b c : Nat} {R R' : KR} (h : k_row f b c R) (e : R.1 = R'.1) (e1 : ∀ i, i < R.1 → R.2.1 i = R'.2.1 i) (e2 : ∀ i, i < R.1 → R.2.2 i = R'.2.2 i) : k_row f b c R' := by
  obtain ⟨h1, h2, gk, gv, h3, h4, h5, h6, h7⟩ := h
  exact ⟨e ▸ h1, h2, gk, gv, by rw [← e]; exact h3, h4, h5, fun i hi => (h6 i (by omega)).trans (e1 i (by omega)), fun i hi => (h7 i (by omega)).trans (e2 i (by omega))⟩
theorem k_row.le {f : XM} {b c : Nat} {R : KR} (h : k_row f b c R) : R.1 ≤ c := h.1
theorem k_row.c4 {f : XM} {b c : Nat} {R : KR} (h : k_row f b c R) : c ≤ 4000 := h.2.1
section KRW
variable {wz : Nat}
variable {N : Nat} {f : XM} {b c : Nat} {R : KR}
theorem k_row.o (h : k_row f b c R) : ∃ fs, f b = some (.inr (2, fs)) := ⟨_, h.2.2.choose_spec.choose_spec.1⟩
theorem k_row.cv {β : Type} {o : Option β} (h : k_row f b c R) : x_cv f 2 b o = o := by
  obtain ⟨fs, h⟩ := h.o
  exact k_cv h
theorem k_row.n (h : k_row f b c R) : x_geti f 2 b 2 = some (nI R.1) := by
  obtain ⟨h1, h2, gk, gv, h3, -⟩ := h
  exact k_geti h3 rfl
theorem k_row.k (h : k_row f b c R) : x_getr f 2 b 0 = some (some (b + 1)) := by
  obtain ⟨h1, h2, gk, gv, h3, -⟩ := h
  exact k_getr h3 rfl
theorem k_row.v (h : k_row f b c R) : x_getr f 2 b 1 = some (some (b + 2)) := by
  obtain ⟨h1, h2, gk, gv, h3, -⟩ := h
  exact k_getr h3 rfl
theorem k_row.kl (h : k_row f b c R) : x_alen f (b + 1) = some (nI c) := by
  obtain ⟨h1, h2, gk, gv, h3, h4, -⟩ := h
  exact k_alen h4
theorem k_row.vl (h : k_row f b c R) : x_alen f (b + 2) = some (nI c) := by
  obtain ⟨h1, h2, gk, gv, h3, h4, h5, -⟩ := h
  exact k_alen h5
theorem k_row.ka (h : k_row f b c R) {i : Nat} (hi : i < R.1) : x_ald f (b + 1) (nI i) = some (R.2.1 i) := by
  obtain ⟨h1, h2, gk, gv, h3, h4, h5, h6, h7⟩ := h
  rw [k_ald h4 (by omega) (by omega), h6 i hi]
theorem k_row.va (h : k_row f b c R) {i : Nat} (hi : i < R.1) : x_ald f (b + 2) (nI i) = some (R.2.2 i) := by
  obtain ⟨h1, h2, gk, gv, h3, h4, h5, h6, h7⟩ := h
  rw [k_ald h5 (by omega) (by omega), h7 i hi]
theorem k_has (h : k_row f b c R) (i : Int32) : F_X2_has N f b i = some (decide (0 ≤ i.toInt ∧ i.toInt < R.1)) := by
  have hl := h.le
  have hc := h.c4
  have en := nI_toInt (n := R.1) (by omega)
  have ec := nI_toInt (n := c) (by omega)
  have e0 : (0 : Int32).toInt = 0 := rfl
  simp only [F_X2_has, h.n, h.k, h.v, h.kl, h.vl, Option.bind_some, k_i_lt, k_i_le, en, ec, e0]
  by_cases h1 : i.toInt < 0
  · rw [if_pos h1, decide_eq_false (by omega)]
  · rw [if_neg h1]
    by_cases h2 : (R.1 : Int) ≤ i.toInt
    · rw [if_pos h2, decide_eq_false (by omega)]
    · rw [if_neg h2, if_neg (by omega), if_neg (by omega), decide_eq_true (by omega)]
theorem k_has_n (h : k_row f b c R) {i : Nat} (hi : i < 2 ^ 31) : F_X2_has N f b (nI i) = some (decide (i < R.1)) := by
  rw [k_has h, nI_toInt hi]
  congr 1
  rw [decide_eq_decide]
  omega
theorem k_keyOn (h : k_row f b c R) {i : Nat} (hi : i < R.1) : F_X2_keyOn N f b (nI i) = some (R.2.1 i) := by
  have hl := h.le
  have hc := h.c4
  simp only [F_X2_keyOn, h.n, h.k, h.kl, h.ka hi, Option.bind_some]
  rw [if_neg (nI_pos (by omega)), if_neg (nI_ge hi (by omega)), if_neg (nI_ge (by omega) (by omega))]
theorem k_valueOn (h : k_row f b c R) {i : Nat} (hi : i < R.1) : F_X2_valueOn N f b (nI i) = some (R.2.2 i) := by
  have hl := h.le
  have hc := h.c4
  simp only [F_X2_valueOn, h.n, h.v, h.vl, h.va hi, Option.bind_some]
  rw [if_neg (nI_pos (by omega)), if_neg (nI_ge hi (by omega)), if_neg (nI_ge (by omega) (by omega))]
theorem k_keyOn_o (h : k_row f b c R) {i : Int32} (hi : i.toInt < 0 ∨ (R.1 : Int) ≤ i.toInt) : F_X2_keyOn N f b i = some (-1) := by
  have hl := h.le
  have hc := h.c4
  have en := nI_toInt (n := R.1) (by omega)
  have e0 : (0 : Int32).toInt = 0 := rfl
  simp only [F_X2_keyOn, h.n, h.k, h.kl, Option.bind_some, k_i_lt, k_i_le, en, e0]
  by_cases h1 : i.toInt < 0
  · rw [if_pos h1]
  · rw [if_neg h1, if_pos (by omega)]
theorem k_valueOn_o (h : k_row f b c R) {i : Int32} (hi : i.toInt < 0 ∨ (R.1 : Int) ≤ i.toInt) : F_X2_valueOn N f b i = some (-1) := by
  have hl := h.le
  have hc := h.c4
  have en := nI_toInt (n := R.1) (by omega)
  have e0 : (0 : Int32).toInt = 0 := rfl
  simp only [F_X2_valueOn, h.n, h.v, h.vl, Option.bind_some, k_i_lt, k_i_le, en, e0]
  by_cases h1 : i.toInt < 0
  · rw [if_pos h1]
  · rw [if_neg h1, if_pos (by omega)]
theorem k_mid (a b : Nat) (h : a + b < 2 ^ 32) : (((nI a + nI b)).toUInt32 >>> ((1 : Int32).toUInt32 &&& Int32.toUInt32 31)).toInt32 = nI ((a + b) / 2) := by
  rw [nI_add]
  exact pk_ushrN h 1 1 (by decide)
theorem k_ff_loop (h : k_row f b c R) (hs : k_srt R.1 R.2.1) (k : Int32) : ∀ (d s fuel lo hi : Nat), s + d = 32 → d < fuel → lo ≤ k_rk R.1 R.2.1 k → k_rk R.1 R.2.1 k ≤ hi → hi ≤ R.1 → hi - lo < 2 ^ d →
    F_X2_firstFrom_L10 N f b k (fun y2 _ _ => some y2) fuel (nI lo) (nI hi) (nI s) = some (nI (k_rk R.1 R.2.1 k)) := by
  have hl := h.le
  have hc := h.c4
  intro d
  induction d with
  | zero =>
    intro s fuel lo hi h1 h2 h3 h4 h5 h6
    obtain ⟨m, rfl⟩ : ∃ m, fuel = m + 1 := ⟨fuel - 1, by omega⟩
    have e : s = 32 := by omega
    subst e
    rw [F_X2_firstFrom_L10, if_pos (show (32 : Int32) ≤ nI 32 from nI_le (a := 32) (by omega) (by omega))]
    have : lo = k_rk R.1 R.2.1 k := by omega
    rw [this]
  | succ d ih =>
    intro s fuel lo hi h1 h2 h3 h4 h5 h6
    obtain ⟨m, rfl⟩ : ∃ m, fuel = m + 1 := ⟨fuel - 1, by omega⟩
    rw [F_X2_firstFrom_L10, if_neg (show ¬ (32 : Int32) ≤ nI s from nI_ge (b := 32) (by omega) (by omega))]
    by_cases g : hi ≤ lo
    · rw [if_pos (nI_le g (by omega))]
      have : lo = k_rk R.1 R.2.1 k := by omega
      rw [this]
    · rw [if_neg (nI_ge (by omega) (by omega))]
      have hm : (lo + hi) / 2 < R.1 := by omega
      simp only [k_mid lo hi (by omega), h.k, h.kl, h.ka hm, Option.bind_some, k_add1]
      rw [if_neg (nI_ge (by omega) (by omega))]
      by_cases g2 : k ≤ R.2.1 ((lo + hi) / 2)
      · rw [if_pos g2]
        refine ih (s + 1) m lo ((lo + hi) / 2) (by omega) (by omega) h3 ?_ (by omega) (by rw [Nat.pow_succ] at h6; omega)
        rcases Nat.lt_or_ge ((lo + hi) / 2) (k_rk R.1 R.2.1 k) with z | z
        · have := k_rk_lo z
          rw [k_i_le] at g2
          omega
        · exact z
      · rw [if_neg g2]
        refine ih (s + 1) m ((lo + hi) / 2 + 1) hi (by omega) (by omega) ?_ h4 h5 (by rw [Nat.pow_succ] at h6; omega)
        rcases Nat.lt_or_ge ((lo + hi) / 2) (k_rk R.1 R.2.1 k) with z | z
        · exact z
        · have := k_rk_hi hs z hm
          rw [k_i_le] at g2
          omega
theorem k_firstFrom (hN : 1000 ≤ N) (h : k_row f b c R) (hs : k_srt R.1 R.2.1) (k : Int32) : F_X2_firstFrom N f b k = some (nI (k_rk R.1 R.2.1 k)) := by
  have hl := h.le
  have hc := h.c4
  simp only [F_X2_firstFrom, h.n, Option.bind_some]
  exact k_ff_loop h hs k 32 0 N 0 R.1 (by omega) (by omega) (by omega) (k_rk_le _ _ _) (Nat.le_refl _) (by omega)
theorem k_placeOf (hN : 1000 ≤ N) (h : k_row f b c R) (hs : k_srt R.1 R.2.1) (k : Int32) : F_X2_placeOf N f b k = some (if k_pl R.1 R.2.1 k < R.1 then nI (k_pl R.1 R.2.1 k) else -1) := by
  have hl := h.le
  have hc := h.c4
  have hr := k_rk_le R.1 R.2.1 k
  simp only [F_X2_placeOf, h.cv, k_firstFrom hN h hs, h.n, Option.bind_some]
  by_cases h1 : R.1 ≤ k_rk R.1 R.2.1 k
  · rw [if_pos (nI_le h1 (by omega)), if_neg]
    intro h2
    have := k_rk_pl hs h2
    omega
  · rw [if_neg (nI_ge (by omega) (by omega))]
    simp only [k_keyOn h (i := k_rk R.1 R.2.1 k) (by omega), Option.bind_some]
    by_cases h2 : k_pl R.1 R.2.1 k < R.1
    · rw [if_pos h2, if_pos (by rw [k_rk_pl hs h2]; exact k_pl_at h2), k_rk_pl hs h2]
    · rw [if_neg h2, if_neg (k_pl_no h2 (by omega))]
theorem k_isFull (h : k_row f b c R) : F_X2_isFull N f b = some (decide (c ≤ R.1)) := by
  have hl := h.le
  have hc := h.c4
  simp only [F_X2_isFull, h.n, h.k, h.v, h.kl, h.vl, Option.bind_some]
  by_cases h1 : c ≤ R.1
  · rw [if_pos (nI_le h1 (by omega)), decide_eq_true h1]
  · rw [if_neg (nI_ge (by omega) (by omega)), if_pos (nI_lt (by omega) (by omega)), decide_eq_false h1]
theorem k_clear (h : k_row f b c R) : ∃ f', F_X2_clear N f b = some f' ∧ k_row f' b c (0, R.2) ∧ k_fr f f' b (b + 3) := by
  obtain ⟨h1, h2, gk, gv, h3, h4, h5, h6, h7⟩ := h
  refine ⟨_, ?_, ⟨Nat.zero_le _, h2, gk, gv, x_up_s, ?_, ?_, fun i hi => absurd hi (Nat.not_lt_zero _), fun i hi => absurd hi (Nat.not_lt_zero _)⟩, k_fr.up (by omega) (by omega)⟩
  · simp only [F_X2_clear, k_puti h3 (k := 2) (by simp), Option.bind_some]
    rfl
  · exact (x_up_n (by omega)).trans h4
  · exact (x_up_n (by omega)).trans h5
theorem k_setValue (h : k_row f b c R) {i : Nat} (hi : i < R.1) (v : Int32) : ∃ f', F_X2_setValue N f b (nI i) v = some f' ∧ k_row f' b c (R.1, R.2.1, upd R.2.2 i v) ∧ k_fr f f' b (b + 3) := by
  have hl := h.le
  have hc := h.c4
  have a1 := k_has_n (N := N) h (i := i) (by omega)
  have a2 := h.v
  have a3 : ∀ {o : Option Bool}, x_cv f 2 b o = o := fun {o} => h.cv
  obtain ⟨h1, h2, gk, gv, h3, h4, h5, h6, h7⟩ := h
  refine ⟨_, ?_, ⟨h1, h2, gk, upd gv i v, ?_, ?_, x_up_s, h6, fun j hj => ?_⟩, k_fr.up (a := b + 2) (by omega) (by omega)⟩
  · simp only [F_X2_setValue, a3, a1, a2, decide_eq_true hi, Option.bind_some, k_xb_t, if_false, k_ast h5 (i := i) (by omega) (by omega)]
  · exact (x_up_n (by omega)).trans h3
  · exact (x_up_n (by omega)).trans h4
  · show upd gv i v j = upd R.2.2 i v j
    unfold upd
    split
    · rfl
    · exact h7 j hj
end KRW

