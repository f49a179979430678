/-! The law's own method: answers that are no errors, states as rows, the draw. -/
theorem k_an_in {ex : Option Nat} {v w : Int32} (h : k_an ex v = .inl w) : ex = none ∧ v = w := by
  cases ex with
  | none => exact ⟨rfl, Sum.inl.inj h⟩
  | some c => cases h
theorem k_ge_nI {n : Nat} (h : n < 2 ^ 31) : -1999 ≤ (nI n).toInt := by rw [nI_toInt h]; omega
theorem k_wr_le (R : KR) (k v : Int32) : (k_wr R k v).1 ≤ R.1 + 1 := by
  unfold k_wr
  split
  · exact Nat.le_succ _
  · exact Nat.le_refl _
theorem k_ru_ub (n e : Nat) : k_ru n e ≤ n + e := by
  unfold k_ru
  exact Nat.le_trans (Nat.div_le_self _ _) (Nat.sub_le _ _)
theorem k_twr_ge (T : KT) (k v : Int32) : -1999 ≤ ((k_twr T k v).1).toInt := by
  unfold k_twr
  repeat' split
  all_goals first | exact (by decide : -1999 ≤ (0 : Int32).toInt) | exact (by decide : -1999 ≤ (-1 : Int32).toInt) | exact (by decide : -1999 ≤ (3 : Int32).toInt) | exact (by decide : -1999 ≤ (1 : Int32).toInt) | exact (by decide : -1999 ≤ (2 : Int32).toInt)
theorem k_ac_nn {c : Nat} {S : KS} {w : Nat} {a b v : Int32} (hg : k_gd c S) (hw : w < 9) (h : (k_ac w S a b).1 = .inl v) : -1999 ≤ v.toInt := by
  obtain ⟨⟨g1, g2, g3, g4, g5, g6, g7⟩, ⟨v1, v2⟩, g8⟩ := hg
  match w, hw with
  | 0, _ =>
    obtain ⟨-, rfl⟩ := k_an_in h
    exact k_ge_nI (by have := k_wr_le (S.2.1 0) a b; omega)
  | 1, _ =>
    obtain ⟨-, rfl⟩ := k_an_in h
    exact k_ge_nI (by have := k_wr_le (S.2.1 0) a (-1); omega)
  | 2, _ =>
    obtain ⟨-, rfl⟩ := k_an_in h
    exact k_ge_nI (by omega)
  | 3, _ =>
    obtain ⟨e, rfl⟩ := k_an_in h
    by_cases z : 2 ≤ S.1 ∧ (k_mrg (S.2.1 S.1) (S.2.1 (S.1 - 1))).1 ≤ 60
    · exact k_ge_nI (by omega)
    · rw [decide_eq_false z] at e; cases e
  | 4, _ =>
    obtain ⟨e, rfl⟩ := k_an_in h
    by_cases z1 : 50 ≤ a.toInt ∧ a.toInt ≤ 100
    · by_cases z : (k_all S).1 ≤ 160
      · have h1 := k_ru_ub (k_all S).1 (k_each S.2.2.2.1 (k_u a))
        have h2 : k_each S.2.2.2.1 (k_u a) ≤ 1 + 8 * 100 := by
          obtain ⟨j, e1, e2, e3⟩ := g6
          obtain ⟨m, m1, m2, m3⟩ := k_nn (x := a) (by omega)
          unfold k_each
          rw [e1, m2, k_u_n (by omega), k_u_n m1]
          have h5 : (m : Int) ≤ 100 := by omega
          have h3 : j * m ≤ 8 * 100 := Nat.mul_le_mul e3 (by omega)
          have h4 : j * m / 100 ≤ j * m := Nat.div_le_self _ _
          omega
        exact k_ge_nI (by omega)
      · rw [decide_eq_true z1, decide_eq_false z] at e; cases e
    · rw [decide_eq_false z1] at e; cases e
  | 5, _ =>
    obtain ⟨-, rfl⟩ := k_an_in h
    exact k_twr_ge _ _ _
  | 6, _ =>
    obtain ⟨e, rfl⟩ := k_an_in h
    by_cases z1 : 0 ≤ a.toInt ∧ a.toInt ≤ 9999
    · by_cases z : ¬ (k_run S a ≤ S.1 ∨ ¬ k_pl S.2.2.1.1.1 S.2.2.1.1.2.1 a < S.2.2.1.1.1)
      · have := v2 _ (Classical.not_not.mp (fun y => z (Or.inr y)))
        omega
      · rw [decide_eq_true z1, decide_eq_false z] at e; cases e
    · rw [decide_eq_false z1] at e; cases e
  | 7, _ =>
    obtain ⟨-, rfl⟩ := k_an_in h
    obtain ⟨j, e1, e2, e3⟩ := g6
    rw [e1]; exact k_ge_nI (by omega)
  | 8, _ =>
    obtain ⟨-, rfl⟩ := k_an_in h
    obtain ⟨j, e1, e2, e3⟩ := g7
    rw [e1]; exact k_ge_nI (by omega)
  | w + 9, hw => omega
theorem k_sv_drop (F : List KS) (S : KS) : k_sv (F.drop (F.length - 6)) S = (F ++ [S]).drop (F.length + 1 - 6) := by
  unfold k_sv
  have h0 : F.length - 6 ≤ F.length := Nat.sub_le _ _
  rw [← List.drop_append_of_le_length h0, List.drop_drop, List.length_drop]
  congr 1
  omega
/-- the saved states at a turn, of all that were -/
theorem k_tk {F : List KS} {m t : Nat} {s : KS} (hs : F[t]? = some s) (hm : m ≤ t) : (F.take (t + 1)).drop m = (F.take t).drop m ++ [s] := by
  rw [List.take_succ, hs]
  exact List.drop_append_of_le_length (by rw [List.length_take]; have := (List.getElem?_eq_some_iff.mp hs).1; omega)
/-- a cell beside the object may be written -/
theorem k_wd.frm {x c : Nat} {S : KS} {P : List KS} {K : Nat → Option KS} {T : List Int32} {f f' : XM} (h : k_wd x (x + 71) c S P K T f) (e : ∀ a, a ≠ x + 70 → f' a = f a) : k_wd x (x + 71) c S P K T f' := by
  obtain ⟨q, St, bf, h1, h2⟩ := h
  exact ⟨q, St, bf, h1.frm (lo := x + 70) (hi := x + 71) (fun a ha => e a (by omega)) (Nat.le_refl _) (Or.inr (Nat.le_refl _)), h2⟩
theorem k_wd.mono {x wz c c' : Nat} {S : KS} {P : List KS} {K : Nat → Option KS} {T : List Int32} {f : XM} (h : k_wd x wz c S P K T f) (hc : c ≤ c') : k_wd x wz c' S P K T f := by
  obtain ⟨q, St, bf, h1, h2, h3, h4, h5, h6, h7⟩ := h
  exact ⟨q, St, bf, h1, h2, h3, h4, h5.mono hc, fun s hs => (h6 s hs).mono hc, fun i s hi hs => (h7 i s hi hs).mono hc⟩
/-- a draw has an answer -/
theorem k_drawn {L k : Nat} {xs : Nat → Int32} (hL : L ≤ 1536) (hk : k < 30) : ∃ r, F_L_drawn L xs (nI k) = some r := by
  unfold F_L_drawn
  have e : Int32.ofNat L = nI L := rfl
  rw [e]
  by_cases z : L = 0
  · rw [if_pos (by rw [z]; rfl)]; exact ⟨_, rfl⟩
  · rw [if_neg (nI_ne0 (by omega) (by omega)), k_rem_i (by omega) (by omega) (by omega)]
    have h1 := Nat.mod_lt k (show 0 < L by omega)
    simp only [Option.bind_some]
    unfold x_sld
    rw [if_neg (nI_in h1 (by omega))]
    have e7 : x_rem (nI k) 7 = some (nI (k % 7)) := k_rem_i (e := 7) (by omega) (by omega) (by omega)
    simp only [Option.bind_some, e7]
    unfold x_div
    rw [if_neg (nI_ne0 (by omega) (by omega))]
    exact ⟨_, rfl⟩
theorem k_part (N : Nat) (f : XM) (a b : Int32) (hb : ¬ b = 0) : ∃ r, F_L_part N f a b = some r := by
  unfold F_L_part x_rem
  rw [if_neg hb]
  exact ⟨_, rfl⟩
