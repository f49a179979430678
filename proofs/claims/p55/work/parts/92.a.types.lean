/-! Texts typed, and their errors. -/
def k_let (w : Int64) (i : Int32) : Int32 := ((w >>> ((i : Int32).toInt64 &&& 63)) &&& (255 : Int64)).toInt32
/-- the letters of a number, j of them at most -/
def k_lts (w : Int64) : Nat → List Int32
  | 0 => []
  | j + 1 => (if k_let w (nI (8 * j)) = 0 then [] else [k_let w (nI (8 * j))]) ++ k_lts w j
def k_prb (l : List Int32) : Bool := l.all (fun c => decide (33 ≤ c.toInt ∧ c.toInt ≤ 126))
section KTY
variable {N : Nat} {f : XM} {x wz c : Nat} {S : KS} {P : List KS} {K : Nat → Option KS} {T : List Int32}
theorem k_ty_loop (w : Int64) {KK : Bool → Int32 → XM → Option (Bool × XM)} : ∀ (j fuel : Nat) (f : XM) (T : List Int32), j ≤ 8 → j < fuel → k_prb (k_lts w j) = true → T.length + (k_lts w j).length ≤ 60 → k_wd x wz c S P K T f →
    ∃ f', F_L_types_L6 N x w KK fuel true (nI (8 * j) - 8) f = KK true (-8) f' ∧ (∀ a, x + 70 ≤ a → a < wz → f' a = f a) ∧ k_wd x wz c S P K (T ++ k_lts w j) f' := by
  intro j
  induction j with
  | zero =>
    intro fuel f T h1 h2 h3 h4 hw
    obtain ⟨k, rfl⟩ : ∃ k, fuel = k + 1 := ⟨fuel - 1, by omega⟩
    refine ⟨f, ?_, fun _ _ _ => rfl, by rw [k_lts, List.append_nil]; exact hw⟩
    rw [F_L_types_L6, if_pos (by decide)]
    rfl
  | succ j ih =>
    intro fuel f T h1 h2 h3 h4 hw
    obtain ⟨k, rfl⟩ : ∃ k, fuel = k + 1 := ⟨fuel - 1, by omega⟩
    have e8 : nI (8 * (j + 1)) - 8 = nI (8 * j) := by
      rw [show 8 * (j + 1) = 8 * j + 8 by omega, ← nI_add]
      exact Int32.add_sub_cancel _ _
    have e9 : nI (8 * j) + (-8) = nI (8 * j) - 8 := (Int32.sub_eq_add_neg _ 8).symm
    rw [F_L_types_L6, e8, if_neg (nI_pos (by omega)), if_neg (show ¬ x_b true = 0 by decide), e9]
    rw [k_lts] at h3 h4 ⊢
    by_cases z : k_let w (nI (8 * j)) = 0
    · rw [if_pos z] at h3 h4 ⊢
      rw [List.nil_append] at h3 h4 ⊢
      have z' : ((w >>> ((nI (8 * j) : Int32).toInt64 &&& 63)) &&& (255 : Int64)).toInt32 = 0 := z
      rw [if_pos z']
      exact ih k f T (by omega) (by omega) h3 h4 hw
    · rw [if_neg z] at h3 h4 ⊢
      have z' : ¬ ((w >>> ((nI (8 * j) : Int32).toInt64 &&& 63)) &&& (255 : Int64)).toInt32 = 0 := z
      rw [if_neg z']
      have h3' : decide (33 ≤ (k_let w (nI (8 * j))).toInt ∧ (k_let w (nI (8 * j))).toInt ≤ 126) = true ∧ k_prb (k_lts w j) = true := by
        have : (decide (33 ≤ (k_let w (nI (8 * j))).toInt ∧ (k_let w (nI (8 * j))).toInt ≤ 126) && k_prb (k_lts w j)) = true := h3
        rw [Bool.and_eq_true] at this
        exact this
      have hl4 : T.length + (1 + (k_lts w j).length) ≤ 60 := by
        have : T.length + ([k_let w (nI (8 * j))] ++ k_lts w j).length ≤ 60 := h4
        rw [List.length_append] at this
        exact this
      obtain ⟨f1, a1, a2, a3⟩ := k_app (N := N) hw (k_let w (nI (8 * j)))
      have ea : k_ap T (k_let w (nI (8 * j))) = .inl (nI (T.length + 1)) := by
        unfold k_ap
        rw [if_pos (of_decide_eq_true h3'.1), if_pos (by omega)]
      rw [ea] at a1 a3
      obtain ⟨f2, b1, b2, b3⟩ := ih k f1 (T ++ [k_let w (nI (8 * j))]) (by omega) (by omega) h3'.2 (by rw [List.length_append]; show T.length + 1 + _ ≤ 60; omega) a3
      refine ⟨f2, ?_, fun a y1 y2 => (b2 a y1 y2).trans (a2 a y1 y2), by rw [← List.append_assoc]; exact b3⟩
      have a1' : F_X5_append N f x ((w >>> ((nI (8 * j) : Int32).toInt64 &&& 63)) &&& (255 : Int64)).toInt32 = some (.inl (nI (T.length + 1), f1)) := a1
      simp only [hw.cv, a1', Option.bind_some, x_se]
      rw [if_neg (nI_nle (by omega) (by omega))]
      exact b1
theorem k_types (hN : 50000 ≤ N) (h : k_wd x wz c S P K T f) (w : Int64) (h1 : k_prb (k_lts w 8) = true) (h2 : T.length + (k_lts w 8).length ≤ 60) : ∃ f', F_L_types N f x w = some (true, f') ∧ (∀ a, x + 70 ≤ a → a < wz → f' a = f a) ∧ k_wd x wz c S P K (T ++ k_lts w 8) f' := by
  obtain ⟨f', e, a2, a3⟩ := k_ty_loop (N := N) w (KK := fun y3_5 y4_5 g5 => some (y3_5, g5)) 8 N f T (Nat.le_refl _) (by omega) h1 h2 h
  exact ⟨f', e, a2, a3⟩
/-- the first error, told by counting -/
def k_erb (T : List Int32) (e : Nat) : Bool := decide (e ≤ T.length) && (decide ((k_rs (k_tx T) e).1 ≠ 8) && (decide (¬ e < T.length) || decide ((k_rs (k_tx T) (e + 1)).1 = 8)))
theorem k_erb_sp {T : List Int32} {e : Nat} (h : k_erb T e = true) : k_er (k_tx T) T.length e := by
  rw [k_erb, Bool.and_eq_true, Bool.and_eq_true, Bool.or_eq_true] at h
  exact ⟨of_decide_eq_true h.1, of_decide_eq_true h.2.1, fun z => h.2.2.elim (fun y => absurd z (of_decide_eq_true y)) of_decide_eq_true⟩
theorem k_ferr_of (hN : 50000 ≤ N) (h : k_wd x wz c S P K T f) {e : Nat} (he : k_erb T e = true) : ∃ f', F_X5_firstError N f x = some (nI e, f') ∧ (∀ a, x + 70 ≤ a → a < wz → f' a = f a) ∧ k_wd x wz c S P K T f' := by
  obtain ⟨e', f', a1, a2, a3, a4⟩ := k_ferr hN h
  have := k_er.eq a2 (k_erb_sp he)
  subst this
  exact ⟨f', a1, a3, a4⟩
theorem k_iserr (hN : 50000 ≤ N) (h : k_wd x wz c S P K T f) (w v : Int64) {e : Nat} (h1 : k_prb (k_lts w 8) = true) (h2 : k_prb (k_lts v 8) = true) (h3 : (k_lts w 8).length + (k_lts v 8).length ≤ 60) (he : k_erb (k_lts w 8 ++ k_lts v 8) e = true) :
    ∃ f', F_L_isError N f x w v (nI e) = some (true, f') ∧ (∀ a, x + 70 ≤ a → a < wz → f' a = f a) ∧ k_wd x wz c S P K (k_lts w 8 ++ k_lts v 8) f' := by
  have hl : T.length ≤ 60 := by
    obtain ⟨q, St, bf, r1, -⟩ := id h
    exact r1.2.1
  obtain ⟨f1, a1, a2, a3⟩ := k_clrb (N := N) h
  obtain ⟨f2, b1, b2, b3⟩ := k_types hN a3 w h1 (by show 0 + _ ≤ 60; omega)
  rw [List.nil_append] at b3
  obtain ⟨f3, c1, c2, c3⟩ := k_types hN b3 v h2 h3
  obtain ⟨f4, d1, d2, d3⟩ := k_ferr_of hN c3 he
  refine ⟨f4, ?_, fun a y1 y2 => (d2 a y1 y2).trans ((c2 a y1 y2).trans ((b2 a y1 y2).trans (a2 a y1 y2))), d3⟩
  unfold F_L_isError
  simp only [h.cv, a1, Option.bind_some]
  rw [if_neg (nI_pos (by omega))]
  simp only [b1, Option.bind_some]
  rw [if_neg (show ¬ x_b true = 0 by decide)]
  simp only [c1, Option.bind_some]
  rw [if_neg (show ¬ x_b true = 0 by decide)]
  simp only [c3.cv, d1, Option.bind_some]
  rw [if_pos trivial]
end KTY
