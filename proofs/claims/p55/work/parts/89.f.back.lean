/-! Undo, going back, keeping: as the law calls them. -/
section KUB
variable {N : Nat} {f : XM} {x wz c hs : Nat} {S : KS} {P : List KS} {K : Nat → Option KS} {T : List Int32}
theorem k_undone_no (h : k_wd x wz c S [] K T f) : F_L_undone N (f, hs) x = some (-2013, f) := by
  unfold F_L_undone
  simp only [h.cv, k_un_no (N := N) h, Option.bind_some]
  rfl
theorem k_undone_yes (hN : 50000 ≤ N) {s : KS} (h : k_wd x wz c S (P ++ [s]) K T f) : ∃ f', F_L_undone N (f, hs) x = some (nI P.length, f') ∧ (∀ a, x + 70 ≤ a → a < wz → f' a = f a) ∧ k_wd x wz c s P K T f' := by
  obtain ⟨f', e, a2, a3⟩ := k_un_yes hN h
  refine ⟨f', ?_, a2, a3⟩
  obtain ⟨q, St, bf, h1, h2⟩ := a3.ci
  unfold F_L_undone
  simp only [h.cv, e, Option.bind_some, x_se, a3.cv, q_saved (N := N) h1]
theorem k_back (hN : 50000 ≤ N) (h : k_wd x wz c S P K T f) (hd : ∀ (a : Nat) (e : XE), f a = some e → a < hs) (hx : wz ≤ hs) (a : Int32) :
    ∃ f', F_L_back N (f, hs) x a = some (k_iv (k_bk K a), f') ∧ (∀ a, x + 70 ≤ a → a < wz → f' a = f a) ∧ k_wd x wz (c + 1) (k_pick (k_bk K a) ((K (k_u a)).getD S) S) (k_pick (k_bk K a) (k_sv P S) P) K T f' := by
  obtain ⟨f', hs', e, a2, a3⟩ := k_gb hN h hd hx a
  refine ⟨f', ?_, a2, a3⟩
  have ok : (∃ c, k_bk K a = .inr c ∧ c < 2) ∨ k_bk K a = .inl 0 := by
    unfold k_bk
    repeat' split
    all_goals first | exact Or.inr rfl | exact Or.inl ⟨_, rfl, by omega⟩
  unfold F_L_back
  simp only [h.cv, e, Option.bind_some]
  rcases ok with ⟨c, hc, h2⟩ | hc
  · rw [hc]
    match c, h2 with
    | 0, _ => rfl
    | 1, _ => rfl
    | n + 2, h2 => exact absurd h2 (by omega)
  · rw [hc]
    rfl
theorem k_keeps (hN : 50000 ≤ N) (h : k_wd x wz c S P K T f) (hd : ∀ (a : Nat) (e : XE), f a = some e → a < hs) (hx : wz ≤ hs) (a : Int32) :
    ∃ f', F_L_keeps N (f, hs) x a = some (k_iv (k_kp a), f') ∧ (∀ a, x + 70 ≤ a → a < wz → f' a = f a) ∧ k_wd x wz c S P (k_pick (k_kp a) (fun i => if i = k_u a then some S else K i) K) T f' := by
  obtain ⟨f', hs', e, a2, a3⟩ := k_keep hN h hd hx a
  refine ⟨f', ?_, a2, a3⟩
  have ok : k_kp a = .inr 0 ∨ k_kp a = .inl 0 := by
    unfold k_kp
    split
    · exact Or.inr rfl
    · exact Or.inl rfl
  unfold F_L_keeps
  simp only [h.cv, e, Option.bind_some]
  rcases ok with hc | hc
  · rw [hc]; rfl
  · rw [hc]; rfl
end KUB
