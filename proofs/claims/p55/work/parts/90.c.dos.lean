/-! Calls by hand: each with its answer and the state behind it. -/
section KDO
variable {N : Nat} {f : XM} {x wz c hs : Nat} {S : KS} {P : List KS} {K : Nat → Option KS} {T : List Int32}
theorem k_dd0 (hN : 50000 ≤ N) (hc : c < 351) (h : k_wd x wz c S P K T f) (hd : ∀ (a : Nat) (e : XE), f a = some e → a < hs) (hx : wz ≤ hs) {a b v : Int32} {S' : KS} (e : (k_ac 0 S a b).1 = .inl v) (q : k_eq2 (k_ac 0 S a b).2 S') : ∃ (f' : XM) (m : Nat), F_X5_put N (f, hs) x a b = some (.inl (v, (f', m))) ∧ (∀ a, x + 70 ≤ a → a < wz → f' a = f a) ∧ k_wd x wz (c + 1) S' (k_sv P S) K T f' := by
  obtain ⟨f', m, e1, a2, a3⟩ := k_ac_put hN h hd hx a b
  rw [e] at e1 a3
  exact ⟨f', m, e1, a2, k_wd.cg a3 q⟩
theorem k_dd1 (hN : 50000 ≤ N) (hc : c < 351) (h : k_wd x wz c S P K T f) (hd : ∀ (a : Nat) (e : XE), f a = some e → a < hs) (hx : wz ≤ hs) {a b v : Int32} {S' : KS} (e : (k_ac 1 S a b).1 = .inl v) (q : k_eq2 (k_ac 1 S a b).2 S') : ∃ (f' : XM) (m : Nat), F_X5_drop N (f, hs) x a = some (.inl (v, (f', m))) ∧ (∀ a, x + 70 ≤ a → a < wz → f' a = f a) ∧ k_wd x wz (c + 1) S' (k_sv P S) K T f' := by
  obtain ⟨f', m, e1, a2, a3⟩ := k_ac_drop hN h hd hx a b
  rw [e] at e1 a3
  exact ⟨f', m, e1, a2, k_wd.cg a3 q⟩
theorem k_dd2 (hN : 50000 ≤ N) (hc : c < 351) (h : k_wd x wz c S P K T f) (hd : ∀ (a : Nat) (e : XE), f a = some e → a < hs) (hx : wz ≤ hs) {a b v : Int32} {S' : KS} (e : (k_ac 2 S a b).1 = .inl v) (q : k_eq2 (k_ac 2 S a b).2 S') : ∃ (f' : XM) (m : Nat), F_X5_closeRun N (f, hs) x  = some (.inl (v, (f', m))) ∧ (∀ a, x + 70 ≤ a → a < wz → f' a = f a) ∧ k_wd x wz (c + 1) S' (k_sv P S) K T f' := by
  obtain ⟨f', m, e1, a2, a3⟩ := k_ac_close hN h hd hx a b
  rw [e] at e1 a3
  exact ⟨f', m, e1, a2, k_wd.cg a3 q⟩
theorem k_dd3 (hN : 50000 ≤ N) (hc : c < 351) (h : k_wd x wz c S P K T f) (hd : ∀ (a : Nat) (e : XE), f a = some e → a < hs) (hx : wz ≤ hs) {a b v : Int32} {S' : KS} (e : (k_ac 3 S a b).1 = .inl v) (q : k_eq2 (k_ac 3 S a b).2 S') : ∃ (f' : XM) (m : Nat), F_X5_mergeRuns N (f, hs) x  = some (.inl (v, (f', m))) ∧ (∀ a, x + 70 ≤ a → a < wz → f' a = f a) ∧ k_wd x wz (c + 1) S' (k_sv P S) K T f' := by
  obtain ⟨f', m, e1, a2, a3⟩ := k_ac_merge hN h hd hx a b
  rw [e] at e1 a3
  exact ⟨f', m, e1, a2, k_wd.cg a3 q⟩
theorem k_dd4 (hN : 50000 ≤ N) (hc : c < 351) (h : k_wd x wz c S P K T f) (hd : ∀ (a : Nat) (e : XE), f a = some e → a < hs) (hx : wz ≤ hs) {a b v : Int32} {S' : KS} (e : (k_ac 4 S a b).1 = .inl v) (q : k_eq2 (k_ac 4 S a b).2 S') : ∃ (f' : XM) (m : Nat), F_X5_build N (f, hs) x a = some (.inl (v, (f', m))) ∧ (∀ a, x + 70 ≤ a → a < wz → f' a = f a) ∧ k_wd x wz (c + 1) S' (k_sv P S) K T f' := by
  obtain ⟨f', m, e1, a2, a3⟩ := k_ac_build hN h hd hx a b
  rw [e] at e1 a3
  exact ⟨f', m, e1, a2, k_wd.cg a3 q⟩
theorem k_dd5 (hN : 50000 ≤ N) (hc : c < 351) (h : k_wd x wz c S P K T f) (hd : ∀ (a : Nat) (e : XE), f a = some e → a < hs) (hx : wz ≤ hs) {a b v : Int32} {S' : KS} (e : (k_ac 5 S a b).1 = .inl v) (q : k_eq2 (k_ac 5 S a b).2 S') : ∃ (f' : XM) (m : Nat), F_X5_insert N (f, hs) x a b = some (.inl (v, (f', m))) ∧ (∀ a, x + 70 ≤ a → a < wz → f' a = f a) ∧ k_wd x wz (c + 1) S' (k_sv P S) K T f' := by
  obtain ⟨f', m, e1, a2, a3⟩ := k_ac_insert hN hc h hd hx a b
  rw [e] at e1 a3
  exact ⟨f', m, e1, a2, k_wd.cg a3 q⟩
theorem k_dd6 (hN : 50000 ≤ N) (hc : c < 351) (h : k_wd x wz c S P K T f) (hd : ∀ (a : Nat) (e : XE), f a = some e → a < hs) (hx : wz ≤ hs) {a b v : Int32} {S' : KS} (e : (k_ac 6 S a b).1 = .inl v) (q : k_eq2 (k_ac 6 S a b).2 S') : ∃ (f' : XM) (m : Nat), F_X5_erase N (f, hs) x a = some (.inl (v, (f', m))) ∧ (∀ a, x + 70 ≤ a → a < wz → f' a = f a) ∧ k_wd x wz (c + 1) S' (k_sv P S) K T f' := by
  obtain ⟨f', m, e1, a2, a3⟩ := k_ac_erase hN h hd hx a b
  rw [e] at e1 a3
  exact ⟨f', m, e1, a2, k_wd.cg a3 q⟩
theorem k_dd7 (hN : 50000 ≤ N) (hc : c < 351) (h : k_wd x wz c S P K T f) (hd : ∀ (a : Nat) (e : XE), f a = some e → a < hs) (hx : wz ≤ hs) {a b v : Int32} {S' : KS} (e : (k_ac 7 S a b).1 = .inl v) (q : k_eq2 (k_ac 7 S a b).2 S') : ∃ (f' : XM) (m : Nat), F_X5_changeLeaf N (f, hs) x a = some (.inl (v, (f', m))) ∧ (∀ a, x + 70 ≤ a → a < wz → f' a = f a) ∧ k_wd x wz (c + 1) S' (k_sv P S) K T f' := by
  obtain ⟨f', m, e1, a2, a3⟩ := k_ac_leaf hN h hd hx a b
  rw [e] at e1 a3
  exact ⟨f', m, e1, a2, k_wd.cg a3 q⟩
theorem k_dd8 (hN : 50000 ≤ N) (hc : c < 351) (h : k_wd x wz c S P K T f) (hd : ∀ (a : Nat) (e : XE), f a = some e → a < hs) (hx : wz ≤ hs) {a b v : Int32} {S' : KS} (e : (k_ac 8 S a b).1 = .inl v) (q : k_eq2 (k_ac 8 S a b).2 S') : ∃ (f' : XM) (m : Nat), F_X5_changeFan N (f, hs) x a = some (.inl (v, (f', m))) ∧ (∀ a, x + 70 ≤ a → a < wz → f' a = f a) ∧ k_wd x wz (c + 1) S' (k_sv P S) K T f' := by
  obtain ⟨f', m, e1, a2, a3⟩ := k_ac_fan hN h hd hx a b
  rw [e] at e1 a3
  exact ⟨f', m, e1, a2, k_wd.cg a3 q⟩
end KDO
theorem k_gd0 : k_gd 0 k_S0 := by
  have hs0 : ∀ g, k_srt 0 g := fun g => ⟨fun i j _ hj => absurd hj (Nat.not_lt_zero _), fun i hi => absurd hi (Nat.not_lt_zero _)⟩
  exact ⟨⟨Nat.zero_le _, fun r _ => hs0 _, Nat.zero_le _, fun r _ _ => Nat.zero_le _, ⟨hs0 _, hs0 _, Nat.zero_le _, Nat.zero_le _, fun _ => rfl, fun y => absurd y (Nat.lt_irrefl _), fun i hi => absurd hi (Nat.not_lt_zero _), fun i hi => absurd hi (Nat.not_lt_zero _), Or.inl ⟨rfl, rfl, rfl⟩⟩, ⟨4, rfl, by omega, by omega⟩, ⟨3, rfl, by omega, by omega⟩⟩, ⟨fun r hr i hi => absurd hi (Nat.not_lt_zero _), fun i hi => absurd hi (Nat.not_lt_zero _)⟩, Nat.zero_le _⟩
/-- a new object, in the world -/
theorem k_new {N : Nat} {f : XM} {x wz : Nat} : ∃ f', F_X5_init N (x_up f x (.inr (5, [.null, .null, .null, .int 0, .null, .null, .int 0, .null, .null])), x + 1) x = some (f', x + 70) ∧ k_wd x wz 0 (k_of k_e0s) [] (fun _ => none) [] f' ∧ k_fr f f' x (x + 70) := by
  obtain ⟨f', a1, a2, a3⟩ := k_xinit (wz := wz) (N := N) (f := f) (x := x)
  refine ⟨f', a1, k_wd.cg (S := k_S0) ⟨_, _, _, a2, fun i hi => absurd hi (Nat.not_lt_zero _), fun i hi => ?_, fun i hi => absurd hi (Nat.not_lt_zero _), k_gd0, fun s hs => (by cases hs), fun i s hi hs => (by cases hs)⟩ k_of0, a3⟩
  show none = Option.map _ (if i + 7 = 0 then some (x + 30) else none)
  rw [if_neg (by omega)]
  rfl
theorem k_hall_cg {S : KS} {n len : Nat} {a b : Bool} {bf bg : Nat → Int32} (h : ∀ i, i < len → bf i = bg i) : k_hall S n a b bf len = k_hall S n a b bg len := by
  unfold k_hall k_htxt
  exact k_hf_cong (fun i h9 hi => by rw [h i hi])
/-- the digest, of the world alone -/
noncomputable def k_dig (S : KS) (P : List KS) (K : Nat → Option KS) (T : List Int32) : Int64 := k_hall S P.length (K 0).isSome (K 1).isSome (k_tx T) T.length
theorem k_digs {N : Nat} {f : XM} {x wz c : Nat} {S : KS} {P : List KS} {K : Nat → Option KS} {T : List Int32} (hN : 50000 ≤ N) (h : k_wd x wz c S P K T f) : ∃ f', F_X5_digest N f x = some (k_dig S P K T, f') ∧ (∀ a, x + 70 ≤ a → a < wz → f' a = f a) ∧ k_wd x wz c S P K T f' := by
  obtain ⟨q, St, bf, h1, h2, h3, h4, h5, h6, h7⟩ := h
  obtain ⟨f1, a1, a2, a3⟩ := q_digest hN h1 h5.1
  refine ⟨f1, ?_, fun a y1 y2 => a3 a y1, q, St, bf, a2, h2, h3, h4, h5, h6, h7⟩
  rw [a1]
  unfold k_dig
  have e0 : (K 0).isSome = (q 7).isSome := by rw [h3 0 (by omega)]; cases q 7 <;> rfl
  have e1 : (K 1).isSome = (q 8).isSome := by rw [h3 1 (by omega)]; cases q 8 <;> rfl
  rw [e0, e1, k_hall_cg (bg := k_tx T) (fun i hi => by
    unfold k_tx
    rw [List.getD_eq_getElem?_getD, h4 i hi]
    rfl)]
