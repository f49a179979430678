/-! The law's own call, number by number. -/
def k_ok (A : KA) : Prop := match A with | .inl _ => True | .inr c => c < 3
def k_iv (A : KA) : Int32 := match A with | .inl v => v | .inr 0 => -2012 | .inr 1 => -2013 | .inr _ => -2011
def k_bz (A : Bool ⊕ Nat) : KA := match A with | .inl v => .inl (x_b v) | .inr c => .inr c
/-- a call that asks, by its number -/
noncomputable def k_as (w : Nat) (S : KS) (a b : Int32) : KA := match w with
  | 12 => k_bz (qa_ft S a)
  | 13 => k_bz (qa_ft S a)
  | 14 => qa_val S a
  | 15 => qa_pg S a
  | 16 => qa_cl S a b
  | 17 => qa_cn S a b
  | 18 => qa_nx S a
  | 19 => qa_kb S a
  | 20 => qa_ka S a
  | 21 => qa_run S a
  | 22 => qa_sz S a
  | 23 => qa_ki S a b
  | 24 => k_bz (qa_go S a b)
  | 25 => qa_own S a
  | 26 => qa_lk S a b
  | 27 => qa_ov S a
  | 28 => qa_ol S a
  | 29 => qa_nd S a
  | 30 => qa_ch S a b
  | 31 => qa_bd S a b
  | 32 => qa_lf S a
  | 33 => qa_lb S a
  | _ => qa_ll S a
theorem k_ok_an {ex : Option Nat} {v : Int32} (h : ∀ c, ex = some c → c < 3) : k_ok (k_an ex v) := by
  cases ex with
  | none => trivial
  | some c => exact h c rfl
theorem k_ok_ex3 (a b : Bool) {v : Int32} : k_ok (k_an (k_ex3 a b) v) := k_ok_an (fun c e => by cases a <;> cases b <;> simp [k_ex3] at e <;> omega)
theorem k_ok_ex2 (b : Bool) {v : Int32} : k_ok (k_an (k_ex2 b) v) := k_ok_an (fun c e => by cases b <;> simp [k_ex2] at e <;> omega)
theorem k_ok_ex0 (b : Bool) {v : Int32} : k_ok (k_an (k_ex0 b) v) := k_ok_an (fun c e => by cases b <;> simp [k_ex0] at e <;> omega)
section KCL
variable {N : Nat} {f : XM} {x wz c hs : Nat} {S : KS} {P : List KS} {K : Nat → Option KS} {T : List Int32}
theorem k_wd.q1 {α : Type} {F : Option α} {G : XM → α} (h : k_wd x wz c S P K T f) (e : ∀ q St bf, k_ci f x wz P.length q St S bf T.length → ∃ f1, F = some (G f1) ∧ k_ci f1 x wz P.length q St S bf T.length ∧ ∀ a, x + 70 ≤ a → f1 a = f a) : ∃ f1, F = some (G f1) ∧ (∀ a, x + 70 ≤ a → a < wz → f1 a = f a) ∧ k_wd x wz c S P K T f1 := by
  obtain ⟨q, St, bf, h1, h2, h3, h4, h5, h6, h7⟩ := h
  obtain ⟨f1, a1, a2, a3⟩ := e q St bf h1
  exact ⟨f1, a1, fun a y1 y2 => a3 a y1, q, St, bf, a2, h2, h3, h4, h5, h6, h7⟩
theorem k_wd.ci (h : k_wd x wz c S P K T f) : ∃ q St bf, k_ci f x wz P.length q St S bf T.length ∧ k_ws S := by
  obtain ⟨q, St, bf, h1, h2, h3, h4, h5, h6, h7⟩ := h
  exact ⟨q, St, bf, h1, h5.1⟩
theorem k_wd.cv {β : Type} {o : Option β} (h : k_wd x wz c S P K T f) : x_cv f 5 x o = o := by
  obtain ⟨q, St, bf, h1, h2⟩ := h.ci
  exact h1.cv
theorem k_wd.ob (h : k_wd x wz c S P K T f) : ∃ fs, f x = some (.inr (5, fs)) := by
  obtain ⟨q, St, bf, h1, h2⟩ := h.ci
  obtain ⟨sp, -, e⟩ := h1.2.2.1
  exact ⟨_, e⟩
theorem k_ac_ok (w : Nat) (S : KS) (a b : Int32) (hw : w < 9) : k_ok (k_ac w S a b).1 := by
  match w, hw with
  | 0, _ => exact k_ok_ex3 _ _
  | 1, _ => exact k_ok_ex3 _ _
  | 2, _ => exact k_ok_ex2 _
  | 3, _ => exact k_ok_ex2 _
  | 4, _ => exact k_ok_ex3 _ _
  | 5, _ => exact k_ok_ex3 _ _
  | 6, _ => exact k_ok_ex3 _ _
  | 7, _ => exact k_ok_ex0 _
  | 8, _ => exact k_ok_ex0 _
  | w + 9, hw => omega
theorem k_cl0 (hN : 50000 ≤ N) (h : k_wd x wz c S P K T f) (hc : c < 351) (hd : ∀ (a : Nat) (e : XE), f a = some e → a < hs) (hx : wz ≤ hs) (a b : Int32) : ∃ f', F_L_call N (f, hs) x 0 a b = some (k_iv (k_ac 0 S a b).1, f') ∧ (∀ a, x + 70 ≤ a → a < wz → f' a = f a) ∧ k_wd x wz (c + 1) (k_pick (k_ac 0 S a b).1 (k_ac 0 S a b).2 S) (k_pick (k_ac 0 S a b).1 (k_sv P S) P) K T f' := by
  obtain ⟨f', hs', e, a2, a3⟩ := k_ac_put hN h hd hx a b
  refine ⟨f', ?_, a2, a3⟩
  have ok := k_ac_ok 0 S a b (by omega)
  generalize (k_ac 0 S a b).1 = A at e ok
  unfold F_L_call F_L_act
  rw [if_neg (show ¬ (12 : Int32) ≤ 0 by decide), if_pos rfl]
  simp only [h.cv, e, Option.bind_some]
  match A, ok with
  | .inl v, _ => rfl
  | .inr 0, _ => rfl
  | .inr 1, _ => rfl
  | .inr 2, _ => rfl
  | .inr (n + 3), ok => exact absurd (show n + 3 < 3 from ok) (by omega)
theorem k_cl1 (hN : 50000 ≤ N) (h : k_wd x wz c S P K T f) (hc : c < 351) (hd : ∀ (a : Nat) (e : XE), f a = some e → a < hs) (hx : wz ≤ hs) (a b : Int32) : ∃ f', F_L_call N (f, hs) x 1 a b = some (k_iv (k_ac 1 S a b).1, f') ∧ (∀ a, x + 70 ≤ a → a < wz → f' a = f a) ∧ k_wd x wz (c + 1) (k_pick (k_ac 1 S a b).1 (k_ac 1 S a b).2 S) (k_pick (k_ac 1 S a b).1 (k_sv P S) P) K T f' := by
  obtain ⟨f', hs', e, a2, a3⟩ := k_ac_drop hN h hd hx a b
  refine ⟨f', ?_, a2, a3⟩
  have ok := k_ac_ok 1 S a b (by omega)
  generalize (k_ac 1 S a b).1 = A at e ok
  unfold F_L_call F_L_act
  rw [if_neg (show ¬ (12 : Int32) ≤ 1 by decide), if_neg (show ¬ (1 : Int32) = 0 by decide), if_pos rfl]
  simp only [h.cv, e, Option.bind_some]
  match A, ok with
  | .inl v, _ => rfl
  | .inr 0, _ => rfl
  | .inr 1, _ => rfl
  | .inr 2, _ => rfl
  | .inr (n + 3), ok => exact absurd (show n + 3 < 3 from ok) (by omega)
theorem k_cl2 (hN : 50000 ≤ N) (h : k_wd x wz c S P K T f) (hc : c < 351) (hd : ∀ (a : Nat) (e : XE), f a = some e → a < hs) (hx : wz ≤ hs) (a b : Int32) : ∃ f', F_L_call N (f, hs) x 2 a b = some (k_iv (k_ac 2 S a b).1, f') ∧ (∀ a, x + 70 ≤ a → a < wz → f' a = f a) ∧ k_wd x wz (c + 1) (k_pick (k_ac 2 S a b).1 (k_ac 2 S a b).2 S) (k_pick (k_ac 2 S a b).1 (k_sv P S) P) K T f' := by
  obtain ⟨f', hs', e, a2, a3⟩ := k_ac_close hN h hd hx a b
  refine ⟨f', ?_, a2, a3⟩
  have ok := k_ac_ok 2 S a b (by omega)
  generalize (k_ac 2 S a b).1 = A at e ok
  unfold F_L_call F_L_act
  rw [if_neg (show ¬ (12 : Int32) ≤ 2 by decide), if_neg (show ¬ (2 : Int32) = 0 by decide), if_neg (show ¬ (2 : Int32) = 1 by decide), if_pos rfl]
  simp only [h.cv, e, Option.bind_some]
  match A, ok with
  | .inl v, _ => rfl
  | .inr 0, _ => rfl
  | .inr 1, _ => rfl
  | .inr 2, _ => rfl
  | .inr (n + 3), ok => exact absurd (show n + 3 < 3 from ok) (by omega)
theorem k_cl3 (hN : 50000 ≤ N) (h : k_wd x wz c S P K T f) (hc : c < 351) (hd : ∀ (a : Nat) (e : XE), f a = some e → a < hs) (hx : wz ≤ hs) (a b : Int32) : ∃ f', F_L_call N (f, hs) x 3 a b = some (k_iv (k_ac 3 S a b).1, f') ∧ (∀ a, x + 70 ≤ a → a < wz → f' a = f a) ∧ k_wd x wz (c + 1) (k_pick (k_ac 3 S a b).1 (k_ac 3 S a b).2 S) (k_pick (k_ac 3 S a b).1 (k_sv P S) P) K T f' := by
  obtain ⟨f', hs', e, a2, a3⟩ := k_ac_merge hN h hd hx a b
  refine ⟨f', ?_, a2, a3⟩
  have ok := k_ac_ok 3 S a b (by omega)
  generalize (k_ac 3 S a b).1 = A at e ok
  unfold F_L_call F_L_act
  rw [if_neg (show ¬ (12 : Int32) ≤ 3 by decide), if_neg (show ¬ (3 : Int32) = 0 by decide), if_neg (show ¬ (3 : Int32) = 1 by decide), if_neg (show ¬ (3 : Int32) = 2 by decide), if_pos rfl]
  simp only [h.cv, e, Option.bind_some]
  match A, ok with
  | .inl v, _ => rfl
  | .inr 0, _ => rfl
  | .inr 1, _ => rfl
  | .inr 2, _ => rfl
  | .inr (n + 3), ok => exact absurd (show n + 3 < 3 from ok) (by omega)
theorem k_cl4 (hN : 50000 ≤ N) (h : k_wd x wz c S P K T f) (hc : c < 351) (hd : ∀ (a : Nat) (e : XE), f a = some e → a < hs) (hx : wz ≤ hs) (a b : Int32) : ∃ f', F_L_call N (f, hs) x 4 a b = some (k_iv (k_ac 4 S a b).1, f') ∧ (∀ a, x + 70 ≤ a → a < wz → f' a = f a) ∧ k_wd x wz (c + 1) (k_pick (k_ac 4 S a b).1 (k_ac 4 S a b).2 S) (k_pick (k_ac 4 S a b).1 (k_sv P S) P) K T f' := by
  obtain ⟨f', hs', e, a2, a3⟩ := k_ac_build hN h hd hx a b
  refine ⟨f', ?_, a2, a3⟩
  have ok := k_ac_ok 4 S a b (by omega)
  generalize (k_ac 4 S a b).1 = A at e ok
  unfold F_L_call F_L_act
  rw [if_neg (show ¬ (12 : Int32) ≤ 4 by decide), if_neg (show ¬ (4 : Int32) = 0 by decide), if_neg (show ¬ (4 : Int32) = 1 by decide), if_neg (show ¬ (4 : Int32) = 2 by decide), if_neg (show ¬ (4 : Int32) = 3 by decide), if_pos rfl]
  simp only [h.cv, e, Option.bind_some]
  match A, ok with
  | .inl v, _ => rfl
  | .inr 0, _ => rfl
  | .inr 1, _ => rfl
  | .inr 2, _ => rfl
  | .inr (n + 3), ok => exact absurd (show n + 3 < 3 from ok) (by omega)
theorem k_cl5 (hN : 50000 ≤ N) (h : k_wd x wz c S P K T f) (hc : c < 351) (hd : ∀ (a : Nat) (e : XE), f a = some e → a < hs) (hx : wz ≤ hs) (a b : Int32) : ∃ f', F_L_call N (f, hs) x 5 a b = some (k_iv (k_ac 5 S a b).1, f') ∧ (∀ a, x + 70 ≤ a → a < wz → f' a = f a) ∧ k_wd x wz (c + 1) (k_pick (k_ac 5 S a b).1 (k_ac 5 S a b).2 S) (k_pick (k_ac 5 S a b).1 (k_sv P S) P) K T f' := by
  obtain ⟨f', hs', e, a2, a3⟩ := k_ac_insert hN hc h hd hx a b
  refine ⟨f', ?_, a2, a3⟩
  have ok := k_ac_ok 5 S a b (by omega)
  generalize (k_ac 5 S a b).1 = A at e ok
  unfold F_L_call F_L_act
  rw [if_neg (show ¬ (12 : Int32) ≤ 5 by decide), if_neg (show ¬ (5 : Int32) = 0 by decide), if_neg (show ¬ (5 : Int32) = 1 by decide), if_neg (show ¬ (5 : Int32) = 2 by decide), if_neg (show ¬ (5 : Int32) = 3 by decide), if_neg (show ¬ (5 : Int32) = 4 by decide), if_pos rfl]
  simp only [h.cv, e, Option.bind_some]
  match A, ok with
  | .inl v, _ => rfl
  | .inr 0, _ => rfl
  | .inr 1, _ => rfl
  | .inr 2, _ => rfl
  | .inr (n + 3), ok => exact absurd (show n + 3 < 3 from ok) (by omega)
theorem k_cl6 (hN : 50000 ≤ N) (h : k_wd x wz c S P K T f) (hc : c < 351) (hd : ∀ (a : Nat) (e : XE), f a = some e → a < hs) (hx : wz ≤ hs) (a b : Int32) : ∃ f', F_L_call N (f, hs) x 6 a b = some (k_iv (k_ac 6 S a b).1, f') ∧ (∀ a, x + 70 ≤ a → a < wz → f' a = f a) ∧ k_wd x wz (c + 1) (k_pick (k_ac 6 S a b).1 (k_ac 6 S a b).2 S) (k_pick (k_ac 6 S a b).1 (k_sv P S) P) K T f' := by
  obtain ⟨f', hs', e, a2, a3⟩ := k_ac_erase hN h hd hx a b
  refine ⟨f', ?_, a2, a3⟩
  have ok := k_ac_ok 6 S a b (by omega)
  generalize (k_ac 6 S a b).1 = A at e ok
  unfold F_L_call F_L_act
  rw [if_neg (show ¬ (12 : Int32) ≤ 6 by decide), if_neg (show ¬ (6 : Int32) = 0 by decide), if_neg (show ¬ (6 : Int32) = 1 by decide), if_neg (show ¬ (6 : Int32) = 2 by decide), if_neg (show ¬ (6 : Int32) = 3 by decide), if_neg (show ¬ (6 : Int32) = 4 by decide), if_neg (show ¬ (6 : Int32) = 5 by decide), if_pos rfl]
  simp only [h.cv, e, Option.bind_some]
  match A, ok with
  | .inl v, _ => rfl
  | .inr 0, _ => rfl
  | .inr 1, _ => rfl
  | .inr 2, _ => rfl
  | .inr (n + 3), ok => exact absurd (show n + 3 < 3 from ok) (by omega)
theorem k_cl7 (hN : 50000 ≤ N) (h : k_wd x wz c S P K T f) (hc : c < 351) (hd : ∀ (a : Nat) (e : XE), f a = some e → a < hs) (hx : wz ≤ hs) (a b : Int32) : ∃ f', F_L_call N (f, hs) x 7 a b = some (k_iv (k_ac 7 S a b).1, f') ∧ (∀ a, x + 70 ≤ a → a < wz → f' a = f a) ∧ k_wd x wz (c + 1) (k_pick (k_ac 7 S a b).1 (k_ac 7 S a b).2 S) (k_pick (k_ac 7 S a b).1 (k_sv P S) P) K T f' := by
  obtain ⟨f', hs', e, a2, a3⟩ := k_ac_leaf hN h hd hx a b
  refine ⟨f', ?_, a2, a3⟩
  have ok := k_ac_ok 7 S a b (by omega)
  generalize (k_ac 7 S a b).1 = A at e ok
  unfold F_L_call F_L_act
  rw [if_neg (show ¬ (12 : Int32) ≤ 7 by decide), if_neg (show ¬ (7 : Int32) = 0 by decide), if_neg (show ¬ (7 : Int32) = 1 by decide), if_neg (show ¬ (7 : Int32) = 2 by decide), if_neg (show ¬ (7 : Int32) = 3 by decide), if_neg (show ¬ (7 : Int32) = 4 by decide), if_neg (show ¬ (7 : Int32) = 5 by decide), if_neg (show ¬ (7 : Int32) = 6 by decide), if_pos rfl]
  simp only [h.cv, e, Option.bind_some]
  match A, ok with
  | .inl v, _ => rfl
  | .inr 0, _ => rfl
  | .inr 1, _ => rfl
  | .inr 2, _ => rfl
  | .inr (n + 3), ok => exact absurd (show n + 3 < 3 from ok) (by omega)
theorem k_cl8 (hN : 50000 ≤ N) (h : k_wd x wz c S P K T f) (hc : c < 351) (hd : ∀ (a : Nat) (e : XE), f a = some e → a < hs) (hx : wz ≤ hs) (a b : Int32) : ∃ f', F_L_call N (f, hs) x 8 a b = some (k_iv (k_ac 8 S a b).1, f') ∧ (∀ a, x + 70 ≤ a → a < wz → f' a = f a) ∧ k_wd x wz (c + 1) (k_pick (k_ac 8 S a b).1 (k_ac 8 S a b).2 S) (k_pick (k_ac 8 S a b).1 (k_sv P S) P) K T f' := by
  obtain ⟨f', hs', e, a2, a3⟩ := k_ac_fan hN h hd hx a b
  refine ⟨f', ?_, a2, a3⟩
  have ok := k_ac_ok 8 S a b (by omega)
  generalize (k_ac 8 S a b).1 = A at e ok
  unfold F_L_call F_L_act
  rw [if_neg (show ¬ (12 : Int32) ≤ 8 by decide), if_neg (show ¬ (8 : Int32) = 0 by decide), if_neg (show ¬ (8 : Int32) = 1 by decide), if_neg (show ¬ (8 : Int32) = 2 by decide), if_neg (show ¬ (8 : Int32) = 3 by decide), if_neg (show ¬ (8 : Int32) = 4 by decide), if_neg (show ¬ (8 : Int32) = 5 by decide), if_neg (show ¬ (8 : Int32) = 6 by decide), if_neg (show ¬ (8 : Int32) = 7 by decide), if_pos rfl]
  simp only [h.cv, e, Option.bind_some]
  match A, ok with
  | .inl v, _ => rfl
  | .inr 0, _ => rfl
  | .inr 1, _ => rfl
  | .inr 2, _ => rfl
  | .inr (n + 3), ok => exact absurd (show n + 3 < 3 from ok) (by omega)
theorem k_cl9 (h : k_wd x wz c S P K T f) (a b : Int32) : ∃ f', F_L_call N (f, hs) x 9 a b = some (k_iv (k_ap T a), f') ∧ (∀ a, x + 70 ≤ a → a < wz → f' a = f a) ∧ k_wd x wz c S P K (k_pick (k_ap T a) (T ++ [a]) T) f' := by
  obtain ⟨f', e, a2, a3⟩ := k_app (N := N) h a
  refine ⟨f', ?_, a2, a3⟩
  have ok : k_ok (k_ap T a) := by
    unfold k_ap
    repeat' split
    all_goals first | trivial | (show _ < 3; omega)
  generalize k_ap T a = A at e ok
  unfold F_L_call F_L_act
  rw [if_neg (show ¬ (12 : Int32) ≤ 9 by decide), if_neg (show ¬ (9 : Int32) = 0 by decide), if_neg (show ¬ (9 : Int32) = 1 by decide), if_neg (show ¬ (9 : Int32) = 2 by decide), if_neg (show ¬ (9 : Int32) = 3 by decide), if_neg (show ¬ (9 : Int32) = 4 by decide), if_neg (show ¬ (9 : Int32) = 5 by decide), if_neg (show ¬ (9 : Int32) = 6 by decide), if_neg (show ¬ (9 : Int32) = 7 by decide), if_neg (show ¬ (9 : Int32) = 8 by decide), if_pos rfl]
  simp only [h.cv, e, Option.bind_some]
  match A, ok with
  | .inl v, _ => rfl
  | .inr 0, _ => rfl
  | .inr 1, _ => rfl
  | .inr 2, _ => rfl
  | .inr (n + 3), ok => exact absurd (show n + 3 < 3 from ok) (by omega)
theorem k_cl12 (hN : 50000 ≤ N) (h : k_wd x wz c S P K T f) (a b : Int32) : ∃ f', F_L_call N (f, hs) x 12 a b = some (k_iv (k_as 12 S a b), f') ∧ (∀ a, x + 70 ≤ a → a < wz → f' a = f a) ∧ k_wd x wz c S P K T f' := by
  have ok : k_ok (k_bz (qa_ft S a)) := by
    unfold qa_ft
    repeat' split
    all_goals first | trivial | (show _ < 3; omega)
  refine ⟨f, ?_, fun _ _ _ => rfl, h⟩
  obtain ⟨q, St, bf, h1, hw⟩ := h.ci
  have e := q_ft (N := N) hN h1 hw a
  show _ = some (k_iv (k_bz (qa_ft S a)), _)
  generalize qa_ft S a = A at e ok
  unfold F_L_call F_L_find
  rw [if_pos (show (12 : Int32) ≤ 12 by decide), if_neg (show ¬ (22 : Int32) ≤ 12 by decide), if_pos rfl]
  simp only [h.cv, e, Option.bind_some]
  match A, ok with
  | .inl true, _ => rfl
  | .inl false, _ => rfl
  | .inr 0, _ => rfl
  | .inr 1, _ => rfl
  | .inr 2, _ => rfl
  | .inr (n + 3), ok => exact absurd (show n + 3 < 3 from ok) (by omega)
theorem k_cl13 (hN : 50000 ≤ N) (h : k_wd x wz c S P K T f) (a b : Int32) : ∃ f', F_L_call N (f, hs) x 13 a b = some (k_iv (k_as 13 S a b), f') ∧ (∀ a, x + 70 ≤ a → a < wz → f' a = f a) ∧ k_wd x wz c S P K T f' := by
  have ok : k_ok (k_bz (qa_ft S a)) := by
    unfold qa_ft
    repeat' split
    all_goals first | trivial | (show _ < 3; omega)
  refine ⟨f, ?_, fun _ _ _ => rfl, h⟩
  obtain ⟨q, St, bf, h1, hw⟩ := h.ci
  have e := q_fg (N := N) hN h1 hw a
  show _ = some (k_iv (k_bz (qa_ft S a)), _)
  generalize qa_ft S a = A at e ok
  unfold F_L_call F_L_find
  rw [if_pos (show (12 : Int32) ≤ 13 by decide), if_neg (show ¬ (22 : Int32) ≤ 13 by decide), if_neg (show ¬ (13 : Int32) = 12 by decide), if_pos rfl]
  simp only [h.cv, e, Option.bind_some]
  match A, ok with
  | .inl true, _ => rfl
  | .inl false, _ => rfl
  | .inr 0, _ => rfl
  | .inr 1, _ => rfl
  | .inr 2, _ => rfl
  | .inr (n + 3), ok => exact absurd (show n + 3 < 3 from ok) (by omega)
theorem k_cl14 (hN : 50000 ≤ N) (h : k_wd x wz c S P K T f) (a b : Int32) : ∃ f', F_L_call N (f, hs) x 14 a b = some (k_iv (k_as 14 S a b), f') ∧ (∀ a, x + 70 ≤ a → a < wz → f' a = f a) ∧ k_wd x wz c S P K T f' := by
  have ok : k_ok (qa_val S a) := by
    unfold qa_val
    repeat' split
    all_goals first | trivial | (show _ < 3; omega)
  refine ⟨f, ?_, fun _ _ _ => rfl, h⟩
  obtain ⟨q, St, bf, h1, hw⟩ := h.ci
  have e := q_val (N := N) hN h1 hw a
  show _ = some (k_iv ((qa_val S a)), _)
  generalize qa_val S a = A at e ok
  unfold F_L_call F_L_find
  rw [if_pos (show (12 : Int32) ≤ 14 by decide), if_neg (show ¬ (22 : Int32) ≤ 14 by decide), if_neg (show ¬ (14 : Int32) = 12 by decide), if_neg (show ¬ (14 : Int32) = 13 by decide), if_pos rfl]
  simp only [h.cv, e, Option.bind_some]
  match A, ok with
  | .inl v, _ => rfl
  | .inr 0, _ => rfl
  | .inr 1, _ => rfl
  | .inr 2, _ => rfl
  | .inr (n + 3), ok => exact absurd (show n + 3 < 3 from ok) (by omega)
theorem k_cl15 (hN : 50000 ≤ N) (h : k_wd x wz c S P K T f) (a b : Int32) : ∃ f', F_L_call N (f, hs) x 15 a b = some (k_iv (k_as 15 S a b), f') ∧ (∀ a, x + 70 ≤ a → a < wz → f' a = f a) ∧ k_wd x wz c S P K T f' := by
  have ok : k_ok (qa_pg S a) := by
    unfold qa_pg
    repeat' split
    all_goals first | trivial | (show _ < 3; omega)
  refine ⟨f, ?_, fun _ _ _ => rfl, h⟩
  obtain ⟨q, St, bf, h1, hw⟩ := h.ci
  have e := q_pg (N := N) hN h1 hw a
  show _ = some (k_iv ((qa_pg S a)), _)
  generalize qa_pg S a = A at e ok
  unfold F_L_call F_L_find
  rw [if_pos (show (12 : Int32) ≤ 15 by decide), if_neg (show ¬ (22 : Int32) ≤ 15 by decide), if_neg (show ¬ (15 : Int32) = 12 by decide), if_neg (show ¬ (15 : Int32) = 13 by decide), if_neg (show ¬ (15 : Int32) = 14 by decide), if_pos rfl]
  simp only [h.cv, e, Option.bind_some]
  match A, ok with
  | .inl v, _ => rfl
  | .inr 0, _ => rfl
  | .inr 1, _ => rfl
  | .inr 2, _ => rfl
  | .inr (n + 3), ok => exact absurd (show n + 3 < 3 from ok) (by omega)
theorem k_cl16 (hN : 50000 ≤ N) (h : k_wd x wz c S P K T f) (a b : Int32) : ∃ f', F_L_call N (f, hs) x 16 a b = some (k_iv (k_as 16 S a b), f') ∧ (∀ a, x + 70 ≤ a → a < wz → f' a = f a) ∧ k_wd x wz c S P K T f' := by
  have ok : k_ok (qa_cl S a b) := by
    unfold qa_cl
    repeat' split
    all_goals first | trivial | (show _ < 3; omega)
  refine ⟨f, ?_, fun _ _ _ => rfl, h⟩
  obtain ⟨q, St, bf, h1, hw⟩ := h.ci
  have e := q_cl (N := N) hN h1 hw a b
  show _ = some (k_iv ((qa_cl S a b)), _)
  generalize qa_cl S a b = A at e ok
  unfold F_L_call F_L_find
  rw [if_pos (show (12 : Int32) ≤ 16 by decide), if_neg (show ¬ (22 : Int32) ≤ 16 by decide), if_neg (show ¬ (16 : Int32) = 12 by decide), if_neg (show ¬ (16 : Int32) = 13 by decide), if_neg (show ¬ (16 : Int32) = 14 by decide), if_neg (show ¬ (16 : Int32) = 15 by decide), if_pos rfl]
  simp only [h.cv, e, Option.bind_some]
  match A, ok with
  | .inl v, _ => rfl
  | .inr 0, _ => rfl
  | .inr 1, _ => rfl
  | .inr 2, _ => rfl
  | .inr (n + 3), ok => exact absurd (show n + 3 < 3 from ok) (by omega)
theorem k_cl17 (hN : 50000 ≤ N) (h : k_wd x wz c S P K T f) (a b : Int32) : ∃ f', F_L_call N (f, hs) x 17 a b = some (k_iv (k_as 17 S a b), f') ∧ (∀ a, x + 70 ≤ a → a < wz → f' a = f a) ∧ k_wd x wz c S P K T f' := by
  have ok : k_ok (qa_cn S a b) := by
    unfold qa_cn
    repeat' split
    all_goals first | trivial | (show _ < 3; omega)
  obtain ⟨f', e, a2, a3⟩ := h.q1 (G := fun f1 => qm (qa_cn S a b) f1) (fun q St bf h1 => q_cn hN h1 h.gd.1 a b)
  refine ⟨f', ?_, a2, a3⟩
  show _ = some (k_iv ((qa_cn S a b)), _)
  generalize qa_cn S a b = A at e ok
  unfold F_L_call F_L_find
  rw [if_pos (show (12 : Int32) ≤ 17 by decide), if_neg (show ¬ (22 : Int32) ≤ 17 by decide), if_neg (show ¬ (17 : Int32) = 12 by decide), if_neg (show ¬ (17 : Int32) = 13 by decide), if_neg (show ¬ (17 : Int32) = 14 by decide), if_neg (show ¬ (17 : Int32) = 15 by decide), if_neg (show ¬ (17 : Int32) = 16 by decide), if_pos rfl]
  simp only [h.cv, e, Option.bind_some]
  match A, ok with
  | .inl v, _ => rfl
  | .inr 0, _ => rfl
  | .inr 1, _ => rfl
  | .inr 2, _ => rfl
  | .inr (n + 3), ok => exact absurd (show n + 3 < 3 from ok) (by omega)
theorem k_cl18 (hN : 50000 ≤ N) (h : k_wd x wz c S P K T f) (a b : Int32) : ∃ f', F_L_call N (f, hs) x 18 a b = some (k_iv (k_as 18 S a b), f') ∧ (∀ a, x + 70 ≤ a → a < wz → f' a = f a) ∧ k_wd x wz c S P K T f' := by
  have ok : k_ok (qa_nx S a) := by
    unfold qa_nx
    repeat' split
    all_goals first | trivial | (show _ < 3; omega)
  obtain ⟨f', e, a2, a3⟩ := h.q1 (G := fun f1 => qm (qa_nx S a) f1) (fun q St bf h1 => q_nx hN h1 h.gd.1 a)
  refine ⟨f', ?_, a2, a3⟩
  show _ = some (k_iv ((qa_nx S a)), _)
  generalize qa_nx S a = A at e ok
  unfold F_L_call F_L_find
  rw [if_pos (show (12 : Int32) ≤ 18 by decide), if_neg (show ¬ (22 : Int32) ≤ 18 by decide), if_neg (show ¬ (18 : Int32) = 12 by decide), if_neg (show ¬ (18 : Int32) = 13 by decide), if_neg (show ¬ (18 : Int32) = 14 by decide), if_neg (show ¬ (18 : Int32) = 15 by decide), if_neg (show ¬ (18 : Int32) = 16 by decide), if_neg (show ¬ (18 : Int32) = 17 by decide), if_pos rfl]
  simp only [h.cv, e, Option.bind_some]
  match A, ok with
  | .inl v, _ => rfl
  | .inr 0, _ => rfl
  | .inr 1, _ => rfl
  | .inr 2, _ => rfl
  | .inr (n + 3), ok => exact absurd (show n + 3 < 3 from ok) (by omega)
theorem k_cl19 (hN : 50000 ≤ N) (h : k_wd x wz c S P K T f) (a b : Int32) : ∃ f', F_L_call N (f, hs) x 19 a b = some (k_iv (k_as 19 S a b), f') ∧ (∀ a, x + 70 ≤ a → a < wz → f' a = f a) ∧ k_wd x wz c S P K T f' := by
  have ok : k_ok (qa_kb S a) := by
    unfold qa_kb
    repeat' split
    all_goals first | trivial | (show _ < 3; omega)
  obtain ⟨f', e, a2, a3⟩ := h.q1 (G := fun f1 => qm (qa_kb S a) f1) (fun q St bf h1 => q_kb hN h1 h.gd.1 a)
  refine ⟨f', ?_, a2, a3⟩
  show _ = some (k_iv ((qa_kb S a)), _)
  generalize qa_kb S a = A at e ok
  unfold F_L_call F_L_find
  rw [if_pos (show (12 : Int32) ≤ 19 by decide), if_neg (show ¬ (22 : Int32) ≤ 19 by decide), if_neg (show ¬ (19 : Int32) = 12 by decide), if_neg (show ¬ (19 : Int32) = 13 by decide), if_neg (show ¬ (19 : Int32) = 14 by decide), if_neg (show ¬ (19 : Int32) = 15 by decide), if_neg (show ¬ (19 : Int32) = 16 by decide), if_neg (show ¬ (19 : Int32) = 17 by decide), if_neg (show ¬ (19 : Int32) = 18 by decide), if_pos rfl]
  simp only [h.cv, e, Option.bind_some]
  match A, ok with
  | .inl v, _ => rfl
  | .inr 0, _ => rfl
  | .inr 1, _ => rfl
  | .inr 2, _ => rfl
  | .inr (n + 3), ok => exact absurd (show n + 3 < 3 from ok) (by omega)
theorem k_cl20 (hN : 50000 ≤ N) (h : k_wd x wz c S P K T f) (a b : Int32) : ∃ f', F_L_call N (f, hs) x 20 a b = some (k_iv (k_as 20 S a b), f') ∧ (∀ a, x + 70 ≤ a → a < wz → f' a = f a) ∧ k_wd x wz c S P K T f' := by
  have ok : k_ok (qa_ka S a) := by
    unfold qa_ka
    repeat' split
    all_goals first | trivial | (show _ < 3; omega)
  obtain ⟨f', e, a2, a3⟩ := h.q1 (G := fun f1 => qm (qa_ka S a) f1) (fun q St bf h1 => q_ka hN h1 h.gd.1 a)
  refine ⟨f', ?_, a2, a3⟩
  show _ = some (k_iv ((qa_ka S a)), _)
  generalize qa_ka S a = A at e ok
  unfold F_L_call F_L_find
  rw [if_pos (show (12 : Int32) ≤ 20 by decide), if_neg (show ¬ (22 : Int32) ≤ 20 by decide), if_neg (show ¬ (20 : Int32) = 12 by decide), if_neg (show ¬ (20 : Int32) = 13 by decide), if_neg (show ¬ (20 : Int32) = 14 by decide), if_neg (show ¬ (20 : Int32) = 15 by decide), if_neg (show ¬ (20 : Int32) = 16 by decide), if_neg (show ¬ (20 : Int32) = 17 by decide), if_neg (show ¬ (20 : Int32) = 18 by decide), if_neg (show ¬ (20 : Int32) = 19 by decide), if_pos rfl]
  simp only [h.cv, e, Option.bind_some]
  match A, ok with
  | .inl v, _ => rfl
  | .inr 0, _ => rfl
  | .inr 1, _ => rfl
  | .inr 2, _ => rfl
  | .inr (n + 3), ok => exact absurd (show n + 3 < 3 from ok) (by omega)
theorem k_cl21 (hN : 50000 ≤ N) (h : k_wd x wz c S P K T f) (a b : Int32) : ∃ f', F_L_call N (f, hs) x 21 a b = some (k_iv (k_as 21 S a b), f') ∧ (∀ a, x + 70 ≤ a → a < wz → f' a = f a) ∧ k_wd x wz c S P K T f' := by
  have ok : k_ok (qa_run S a) := by
    unfold qa_run
    repeat' split
    all_goals first | trivial | (show _ < 3; omega)
  refine ⟨f, ?_, fun _ _ _ => rfl, h⟩
  obtain ⟨q, St, bf, h1, hw⟩ := h.ci
  have e := q_run (N := N) hN h1 hw a
  show _ = some (k_iv ((qa_run S a)), _)
  generalize qa_run S a = A at e ok
  unfold F_L_call F_L_find
  rw [if_pos (show (12 : Int32) ≤ 21 by decide), if_neg (show ¬ (22 : Int32) ≤ 21 by decide), if_neg (show ¬ (21 : Int32) = 12 by decide), if_neg (show ¬ (21 : Int32) = 13 by decide), if_neg (show ¬ (21 : Int32) = 14 by decide), if_neg (show ¬ (21 : Int32) = 15 by decide), if_neg (show ¬ (21 : Int32) = 16 by decide), if_neg (show ¬ (21 : Int32) = 17 by decide), if_neg (show ¬ (21 : Int32) = 18 by decide), if_neg (show ¬ (21 : Int32) = 19 by decide), if_neg (show ¬ (21 : Int32) = 20 by decide)]
  simp only [h.cv, e, Option.bind_some]
  match A, ok with
  | .inl v, _ => rfl
  | .inr 0, _ => rfl
  | .inr 1, _ => rfl
  | .inr 2, _ => rfl
  | .inr (n + 3), ok => exact absurd (show n + 3 < 3 from ok) (by omega)
theorem k_cl22 (hN : 50000 ≤ N) (h : k_wd x wz c S P K T f) (a b : Int32) : ∃ f', F_L_call N (f, hs) x 22 a b = some (k_iv (k_as 22 S a b), f') ∧ (∀ a, x + 70 ≤ a → a < wz → f' a = f a) ∧ k_wd x wz c S P K T f' := by
  have ok : k_ok (qa_sz S a) := by
    unfold qa_sz
    repeat' split
    all_goals first | trivial | (show _ < 3; omega)
  refine ⟨f, ?_, fun _ _ _ => rfl, h⟩
  obtain ⟨q, St, bf, h1, hw⟩ := h.ci
  have e := q_sz (N := N) h1 a
  show _ = some (k_iv ((qa_sz S a)), _)
  generalize qa_sz S a = A at e ok
  unfold F_L_call F_L_tree
  rw [if_pos (show (12 : Int32) ≤ 22 by decide), if_pos (show (22 : Int32) ≤ 22 by decide), if_pos rfl]
  simp only [h.cv, e, Option.bind_some]
  match A, ok with
  | .inl v, _ => rfl
  | .inr 0, _ => rfl
  | .inr 1, _ => rfl
  | .inr 2, _ => rfl
  | .inr (n + 3), ok => exact absurd (show n + 3 < 3 from ok) (by omega)
theorem k_cl23 (hN : 50000 ≤ N) (h : k_wd x wz c S P K T f) (a b : Int32) : ∃ f', F_L_call N (f, hs) x 23 a b = some (k_iv (k_as 23 S a b), f') ∧ (∀ a, x + 70 ≤ a → a < wz → f' a = f a) ∧ k_wd x wz c S P K T f' := by
  have ok : k_ok (qa_ki S a b) := by
    unfold qa_ki
    repeat' split
    all_goals first | trivial | (show _ < 3; omega)
  refine ⟨f, ?_, fun _ _ _ => rfl, h⟩
  obtain ⟨q, St, bf, h1, hw⟩ := h.ci
  have e := q_ki (N := N) h1 a b
  show _ = some (k_iv ((qa_ki S a b)), _)
  generalize qa_ki S a b = A at e ok
  unfold F_L_call F_L_tree
  rw [if_pos (show (12 : Int32) ≤ 23 by decide), if_pos (show (22 : Int32) ≤ 23 by decide), if_neg (show ¬ (23 : Int32) = 22 by decide), if_pos rfl]
  simp only [h.cv, e, Option.bind_some]
  match A, ok with
  | .inl v, _ => rfl
  | .inr 0, _ => rfl
  | .inr 1, _ => rfl
  | .inr 2, _ => rfl
  | .inr (n + 3), ok => exact absurd (show n + 3 < 3 from ok) (by omega)
theorem k_cl24 (hN : 50000 ≤ N) (h : k_wd x wz c S P K T f) (a b : Int32) : ∃ f', F_L_call N (f, hs) x 24 a b = some (k_iv (k_as 24 S a b), f') ∧ (∀ a, x + 70 ≤ a → a < wz → f' a = f a) ∧ k_wd x wz c S P K T f' := by
  have ok : k_ok (k_bz (qa_go S a b)) := by
    unfold qa_go
    repeat' split
    all_goals first | trivial | (show _ < 3; omega)
  refine ⟨f, ?_, fun _ _ _ => rfl, h⟩
  obtain ⟨q, St, bf, h1, hw⟩ := h.ci
  have e := q_go (N := N) h1 a b
  show _ = some (k_iv (k_bz (qa_go S a b)), _)
  generalize qa_go S a b = A at e ok
  unfold F_L_call F_L_tree
  rw [if_pos (show (12 : Int32) ≤ 24 by decide), if_pos (show (22 : Int32) ≤ 24 by decide), if_neg (show ¬ (24 : Int32) = 22 by decide), if_neg (show ¬ (24 : Int32) = 23 by decide), if_pos rfl]
  simp only [h.cv, e, Option.bind_some]
  match A, ok with
  | .inl true, _ => rfl
  | .inl false, _ => rfl
  | .inr 0, _ => rfl
  | .inr 1, _ => rfl
  | .inr 2, _ => rfl
  | .inr (n + 3), ok => exact absurd (show n + 3 < 3 from ok) (by omega)
theorem k_cl25 (hN : 50000 ≤ N) (h : k_wd x wz c S P K T f) (a b : Int32) : ∃ f', F_L_call N (f, hs) x 25 a b = some (k_iv (k_as 25 S a b), f') ∧ (∀ a, x + 70 ≤ a → a < wz → f' a = f a) ∧ k_wd x wz c S P K T f' := by
  have ok : k_ok (qa_own S a) := by
    unfold qa_own
    repeat' split
    all_goals first | trivial | (show _ < 3; omega)
  refine ⟨f, ?_, fun _ _ _ => rfl, h⟩
  obtain ⟨q, St, bf, h1, hw⟩ := h.ci
  have e := q_own (N := N) hN h1 hw a
  show _ = some (k_iv ((qa_own S a)), _)
  generalize qa_own S a = A at e ok
  unfold F_L_call F_L_tree
  rw [if_pos (show (12 : Int32) ≤ 25 by decide), if_pos (show (22 : Int32) ≤ 25 by decide), if_neg (show ¬ (25 : Int32) = 22 by decide), if_neg (show ¬ (25 : Int32) = 23 by decide), if_neg (show ¬ (25 : Int32) = 24 by decide), if_pos rfl]
  simp only [h.cv, e, Option.bind_some]
  match A, ok with
  | .inl v, _ => rfl
  | .inr 0, _ => rfl
  | .inr 1, _ => rfl
  | .inr 2, _ => rfl
  | .inr (n + 3), ok => exact absurd (show n + 3 < 3 from ok) (by omega)
theorem k_cl26 (hN : 50000 ≤ N) (h : k_wd x wz c S P K T f) (a b : Int32) : ∃ f', F_L_call N (f, hs) x 26 a b = some (k_iv (k_as 26 S a b), f') ∧ (∀ a, x + 70 ≤ a → a < wz → f' a = f a) ∧ k_wd x wz c S P K T f' := by
  have ok : k_ok (qa_lk S a b) := by
    unfold qa_lk
    repeat' split
    all_goals first | trivial | (show _ < 3; omega)
  refine ⟨f, ?_, fun _ _ _ => rfl, h⟩
  obtain ⟨q, St, bf, h1, hw⟩ := h.ci
  have e := q_lk (N := N) hN h1 hw a b
  show _ = some (k_iv ((qa_lk S a b)), _)
  generalize qa_lk S a b = A at e ok
  unfold F_L_call F_L_tree
  rw [if_pos (show (12 : Int32) ≤ 26 by decide), if_pos (show (22 : Int32) ≤ 26 by decide), if_neg (show ¬ (26 : Int32) = 22 by decide), if_neg (show ¬ (26 : Int32) = 23 by decide), if_neg (show ¬ (26 : Int32) = 24 by decide), if_neg (show ¬ (26 : Int32) = 25 by decide), if_pos rfl]
  simp only [h.cv, e, Option.bind_some]
  match A, ok with
  | .inl v, _ => rfl
  | .inr 0, _ => rfl
  | .inr 1, _ => rfl
  | .inr 2, _ => rfl
  | .inr (n + 3), ok => exact absurd (show n + 3 < 3 from ok) (by omega)
theorem k_cl27 (hN : 50000 ≤ N) (h : k_wd x wz c S P K T f) (a b : Int32) : ∃ f', F_L_call N (f, hs) x 27 a b = some (k_iv (k_as 27 S a b), f') ∧ (∀ a, x + 70 ≤ a → a < wz → f' a = f a) ∧ k_wd x wz c S P K T f' := by
  have ok : k_ok (qa_ov S a) := by
    unfold qa_ov
    repeat' split
    all_goals first | trivial | (show _ < 3; omega)
  refine ⟨f, ?_, fun _ _ _ => rfl, h⟩
  obtain ⟨q, St, bf, h1, hw⟩ := h.ci
  have e := q_ov (N := N) hN h1 hw a
  show _ = some (k_iv ((qa_ov S a)), _)
  generalize qa_ov S a = A at e ok
  unfold F_L_call F_L_tree
  rw [if_pos (show (12 : Int32) ≤ 27 by decide), if_pos (show (22 : Int32) ≤ 27 by decide), if_neg (show ¬ (27 : Int32) = 22 by decide), if_neg (show ¬ (27 : Int32) = 23 by decide), if_neg (show ¬ (27 : Int32) = 24 by decide), if_neg (show ¬ (27 : Int32) = 25 by decide), if_neg (show ¬ (27 : Int32) = 26 by decide), if_pos rfl]
  simp only [h.cv, e, Option.bind_some]
  match A, ok with
  | .inl v, _ => rfl
  | .inr 0, _ => rfl
  | .inr 1, _ => rfl
  | .inr 2, _ => rfl
  | .inr (n + 3), ok => exact absurd (show n + 3 < 3 from ok) (by omega)
theorem k_cl28 (hN : 50000 ≤ N) (h : k_wd x wz c S P K T f) (a b : Int32) : ∃ f', F_L_call N (f, hs) x 28 a b = some (k_iv (k_as 28 S a b), f') ∧ (∀ a, x + 70 ≤ a → a < wz → f' a = f a) ∧ k_wd x wz c S P K T f' := by
  have ok : k_ok (qa_ol S a) := by
    unfold qa_ol
    repeat' split
    all_goals first | trivial | (show _ < 3; omega)
  refine ⟨f, ?_, fun _ _ _ => rfl, h⟩
  obtain ⟨q, St, bf, h1, hw⟩ := h.ci
  have e := q_ol (N := N) hN h1 hw a
  show _ = some (k_iv ((qa_ol S a)), _)
  generalize qa_ol S a = A at e ok
  unfold F_L_call F_L_tree
  rw [if_pos (show (12 : Int32) ≤ 28 by decide), if_pos (show (22 : Int32) ≤ 28 by decide), if_neg (show ¬ (28 : Int32) = 22 by decide), if_neg (show ¬ (28 : Int32) = 23 by decide), if_neg (show ¬ (28 : Int32) = 24 by decide), if_neg (show ¬ (28 : Int32) = 25 by decide), if_neg (show ¬ (28 : Int32) = 26 by decide), if_neg (show ¬ (28 : Int32) = 27 by decide), if_pos rfl]
  simp only [h.cv, e, Option.bind_some]
  match A, ok with
  | .inl v, _ => rfl
  | .inr 0, _ => rfl
  | .inr 1, _ => rfl
  | .inr 2, _ => rfl
  | .inr (n + 3), ok => exact absurd (show n + 3 < 3 from ok) (by omega)
theorem k_cl29 (hN : 50000 ≤ N) (h : k_wd x wz c S P K T f) (a b : Int32) : ∃ f', F_L_call N (f, hs) x 29 a b = some (k_iv (k_as 29 S a b), f') ∧ (∀ a, x + 70 ≤ a → a < wz → f' a = f a) ∧ k_wd x wz c S P K T f' := by
  have ok : k_ok (qa_nd S a) := by
    unfold qa_nd
    repeat' split
    all_goals first | trivial | (show _ < 3; omega)
  refine ⟨f, ?_, fun _ _ _ => rfl, h⟩
  obtain ⟨q, St, bf, h1, hw⟩ := h.ci
  have e := q_nd (N := N) hN h1 hw a
  show _ = some (k_iv ((qa_nd S a)), _)
  generalize qa_nd S a = A at e ok
  unfold F_L_call F_L_tree
  rw [if_pos (show (12 : Int32) ≤ 29 by decide), if_pos (show (22 : Int32) ≤ 29 by decide), if_neg (show ¬ (29 : Int32) = 22 by decide), if_neg (show ¬ (29 : Int32) = 23 by decide), if_neg (show ¬ (29 : Int32) = 24 by decide), if_neg (show ¬ (29 : Int32) = 25 by decide), if_neg (show ¬ (29 : Int32) = 26 by decide), if_neg (show ¬ (29 : Int32) = 27 by decide), if_neg (show ¬ (29 : Int32) = 28 by decide), if_pos rfl]
  simp only [h.cv, e, Option.bind_some]
  match A, ok with
  | .inl v, _ => rfl
  | .inr 0, _ => rfl
  | .inr 1, _ => rfl
  | .inr 2, _ => rfl
  | .inr (n + 3), ok => exact absurd (show n + 3 < 3 from ok) (by omega)
theorem k_cl30 (hN : 50000 ≤ N) (h : k_wd x wz c S P K T f) (a b : Int32) : ∃ f', F_L_call N (f, hs) x 30 a b = some (k_iv (k_as 30 S a b), f') ∧ (∀ a, x + 70 ≤ a → a < wz → f' a = f a) ∧ k_wd x wz c S P K T f' := by
  have ok : k_ok (qa_ch S a b) := by
    unfold qa_ch
    repeat' split
    all_goals first | trivial | (show _ < 3; omega)
  refine ⟨f, ?_, fun _ _ _ => rfl, h⟩
  obtain ⟨q, St, bf, h1, hw⟩ := h.ci
  have e := q_ch (N := N) hN h1 hw a b
  show _ = some (k_iv ((qa_ch S a b)), _)
  generalize qa_ch S a b = A at e ok
  unfold F_L_call F_L_tree
  rw [if_pos (show (12 : Int32) ≤ 30 by decide), if_pos (show (22 : Int32) ≤ 30 by decide), if_neg (show ¬ (30 : Int32) = 22 by decide), if_neg (show ¬ (30 : Int32) = 23 by decide), if_neg (show ¬ (30 : Int32) = 24 by decide), if_neg (show ¬ (30 : Int32) = 25 by decide), if_neg (show ¬ (30 : Int32) = 26 by decide), if_neg (show ¬ (30 : Int32) = 27 by decide), if_neg (show ¬ (30 : Int32) = 28 by decide), if_neg (show ¬ (30 : Int32) = 29 by decide), if_pos rfl]
  simp only [h.cv, e, Option.bind_some]
  match A, ok with
  | .inl v, _ => rfl
  | .inr 0, _ => rfl
  | .inr 1, _ => rfl
  | .inr 2, _ => rfl
  | .inr (n + 3), ok => exact absurd (show n + 3 < 3 from ok) (by omega)
theorem k_cl31 (hN : 50000 ≤ N) (h : k_wd x wz c S P K T f) (a b : Int32) : ∃ f', F_L_call N (f, hs) x 31 a b = some (k_iv (k_as 31 S a b), f') ∧ (∀ a, x + 70 ≤ a → a < wz → f' a = f a) ∧ k_wd x wz c S P K T f' := by
  have ok : k_ok (qa_bd S a b) := by
    unfold qa_bd
    repeat' split
    all_goals first | trivial | (show _ < 3; omega)
  refine ⟨f, ?_, fun _ _ _ => rfl, h⟩
  obtain ⟨q, St, bf, h1, hw⟩ := h.ci
  have e := q_bd (N := N) hN h1 hw a b
  show _ = some (k_iv ((qa_bd S a b)), _)
  generalize qa_bd S a b = A at e ok
  unfold F_L_call F_L_tree
  rw [if_pos (show (12 : Int32) ≤ 31 by decide), if_pos (show (22 : Int32) ≤ 31 by decide), if_neg (show ¬ (31 : Int32) = 22 by decide), if_neg (show ¬ (31 : Int32) = 23 by decide), if_neg (show ¬ (31 : Int32) = 24 by decide), if_neg (show ¬ (31 : Int32) = 25 by decide), if_neg (show ¬ (31 : Int32) = 26 by decide), if_neg (show ¬ (31 : Int32) = 27 by decide), if_neg (show ¬ (31 : Int32) = 28 by decide), if_neg (show ¬ (31 : Int32) = 29 by decide), if_neg (show ¬ (31 : Int32) = 30 by decide), if_pos rfl]
  simp only [h.cv, e, Option.bind_some]
  match A, ok with
  | .inl v, _ => rfl
  | .inr 0, _ => rfl
  | .inr 1, _ => rfl
  | .inr 2, _ => rfl
  | .inr (n + 3), ok => exact absurd (show n + 3 < 3 from ok) (by omega)
theorem k_cl32 (hN : 50000 ≤ N) (h : k_wd x wz c S P K T f) (a b : Int32) : ∃ f', F_L_call N (f, hs) x 32 a b = some (k_iv (k_as 32 S a b), f') ∧ (∀ a, x + 70 ≤ a → a < wz → f' a = f a) ∧ k_wd x wz c S P K T f' := by
  have ok : k_ok (qa_lf S a) := by
    unfold qa_lf
    repeat' split
    all_goals first | trivial | (show _ < 3; omega)
  refine ⟨f, ?_, fun _ _ _ => rfl, h⟩
  obtain ⟨q, St, bf, h1, hw⟩ := h.ci
  have e := q_lf (N := N) hN h1 hw a
  show _ = some (k_iv ((qa_lf S a)), _)
  generalize qa_lf S a = A at e ok
  unfold F_L_call F_L_tree
  rw [if_pos (show (12 : Int32) ≤ 32 by decide), if_pos (show (22 : Int32) ≤ 32 by decide), if_neg (show ¬ (32 : Int32) = 22 by decide), if_neg (show ¬ (32 : Int32) = 23 by decide), if_neg (show ¬ (32 : Int32) = 24 by decide), if_neg (show ¬ (32 : Int32) = 25 by decide), if_neg (show ¬ (32 : Int32) = 26 by decide), if_neg (show ¬ (32 : Int32) = 27 by decide), if_neg (show ¬ (32 : Int32) = 28 by decide), if_neg (show ¬ (32 : Int32) = 29 by decide), if_neg (show ¬ (32 : Int32) = 30 by decide), if_neg (show ¬ (32 : Int32) = 31 by decide), if_pos rfl]
  simp only [h.cv, e, Option.bind_some]
  match A, ok with
  | .inl v, _ => rfl
  | .inr 0, _ => rfl
  | .inr 1, _ => rfl
  | .inr 2, _ => rfl
  | .inr (n + 3), ok => exact absurd (show n + 3 < 3 from ok) (by omega)
theorem k_cl33 (hN : 50000 ≤ N) (h : k_wd x wz c S P K T f) (a b : Int32) : ∃ f', F_L_call N (f, hs) x 33 a b = some (k_iv (k_as 33 S a b), f') ∧ (∀ a, x + 70 ≤ a → a < wz → f' a = f a) ∧ k_wd x wz c S P K T f' := by
  have ok : k_ok (qa_lb S a) := by
    unfold qa_lb
    repeat' split
    all_goals first | trivial | (show _ < 3; omega)
  obtain ⟨f', e, a2, a3⟩ := h.q1 (G := fun f1 => qm (qa_lb S a) f1) (fun q St bf h1 => q_lb hN h1 h.gd.1 a)
  refine ⟨f', ?_, a2, a3⟩
  show _ = some (k_iv ((qa_lb S a)), _)
  generalize qa_lb S a = A at e ok
  unfold F_L_call F_L_tree
  rw [if_pos (show (12 : Int32) ≤ 33 by decide), if_pos (show (22 : Int32) ≤ 33 by decide), if_neg (show ¬ (33 : Int32) = 22 by decide), if_neg (show ¬ (33 : Int32) = 23 by decide), if_neg (show ¬ (33 : Int32) = 24 by decide), if_neg (show ¬ (33 : Int32) = 25 by decide), if_neg (show ¬ (33 : Int32) = 26 by decide), if_neg (show ¬ (33 : Int32) = 27 by decide), if_neg (show ¬ (33 : Int32) = 28 by decide), if_neg (show ¬ (33 : Int32) = 29 by decide), if_neg (show ¬ (33 : Int32) = 30 by decide), if_neg (show ¬ (33 : Int32) = 31 by decide), if_neg (show ¬ (33 : Int32) = 32 by decide), if_pos rfl]
  simp only [h.cv, e, Option.bind_some]
  match A, ok with
  | .inl v, _ => rfl
  | .inr 0, _ => rfl
  | .inr 1, _ => rfl
  | .inr 2, _ => rfl
  | .inr (n + 3), ok => exact absurd (show n + 3 < 3 from ok) (by omega)
theorem k_cl34 (hN : 50000 ≤ N) (h : k_wd x wz c S P K T f) (a b : Int32) : ∃ f', F_L_call N (f, hs) x 34 a b = some (k_iv (k_as 34 S a b), f') ∧ (∀ a, x + 70 ≤ a → a < wz → f' a = f a) ∧ k_wd x wz c S P K T f' := by
  have ok : k_ok (qa_ll S a) := by
    unfold qa_ll
    repeat' split
    all_goals first | trivial | (show _ < 3; omega)
  obtain ⟨f', e, a2, a3⟩ := h.q1 (G := fun f1 => qm (qa_ll S a) f1) (fun q St bf h1 => q_ll hN h1 h.gd.1 a)
  refine ⟨f', ?_, a2, a3⟩
  show _ = some (k_iv ((qa_ll S a)), _)
  generalize qa_ll S a = A at e ok
  unfold F_L_call F_L_tree
  rw [if_pos (show (12 : Int32) ≤ 34 by decide), if_pos (show (22 : Int32) ≤ 34 by decide), if_neg (show ¬ (34 : Int32) = 22 by decide), if_neg (show ¬ (34 : Int32) = 23 by decide), if_neg (show ¬ (34 : Int32) = 24 by decide), if_neg (show ¬ (34 : Int32) = 25 by decide), if_neg (show ¬ (34 : Int32) = 26 by decide), if_neg (show ¬ (34 : Int32) = 27 by decide), if_neg (show ¬ (34 : Int32) = 28 by decide), if_neg (show ¬ (34 : Int32) = 29 by decide), if_neg (show ¬ (34 : Int32) = 30 by decide), if_neg (show ¬ (34 : Int32) = 31 by decide), if_neg (show ¬ (34 : Int32) = 32 by decide), if_neg (show ¬ (34 : Int32) = 33 by decide)]
  simp only [h.cv, e, Option.bind_some]
  match A, ok with
  | .inl v, _ => rfl
  | .inr 0, _ => rfl
  | .inr 1, _ => rfl
  | .inr 2, _ => rfl
  | .inr (n + 3), ok => exact absurd (show n + 3 < 3 from ok) (by omega)
end KCL
