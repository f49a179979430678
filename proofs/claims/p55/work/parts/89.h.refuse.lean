/-! Calls that are refused; branches that are known; numbers out of a range. -/
theorem k_wd.dn {x wz c c' : Nat} {S : KS} {P : List KS} {K : Nat → Option KS} {T : List Int32} {f f' : XM} (h' : k_wd x wz c' S P K T f') (h : k_wd x wz c S P K T f) : k_wd x wz c S P K T f' := by
  obtain ⟨q, St, bf, h1, h2, h3, h4, h5, h6, h7⟩ := h'
  obtain ⟨q', St', bf', g1, g2, g3, g4, g5, g6, g7⟩ := h
  exact ⟨q, St, bf, h1, h2, h3, h4, g5, g6, g7⟩
/-- the cell ahead of wz is there -/
def k_zz (x wz : Nat) (f : XM) : Prop := wz ≤ x + 70 ∨ (x + 71 ≤ wz ∧ ∃ e, f (wz - 1) = some e)
theorem k_zz.fr {x wz : Nat} {f f' : XM} (h : k_zz x wz f) (hf : ∀ a, x + 70 ≤ a → a < wz → f' a = f a) : k_zz x wz f' := by
  rcases h with y | ⟨y, e, he⟩
  · exact Or.inl y
  · exact Or.inr ⟨y, e, (hf _ (by omega) (by omega)).trans he⟩
theorem k_zz.le {x wz hs : Nat} {f : XM} (h : k_zz x wz f) (h70 : x + 70 ≤ hs) (hd : ∀ (a : Nat) (e : XE), f a = some e → a < hs) : wz ≤ hs := by
  rcases h with y | ⟨y, e, he⟩
  · omega
  · have := hd _ _ he; omega
section KRF
variable {N : Nat} {f : XM} {x wz c hs : Nat} {S : KS} {P : List KS} {K : Nat → Option KS} {T : List Int32}
theorem k_rf0_0 (hN : 50000 ≤ N) (hc : c < 351) (h : k_wd x wz c S P K T f) (hd : ∀ (a : Nat) (e : XE), f a = some e → a < hs) (hx : wz ≤ hs) {a b : Int32} (e : (k_ac 0 S a b).1 = .inr 0) : ∃ f', F_L_call N (f, hs) x 0 a b = some (-2012, f') ∧ (∀ a, x + 70 ≤ a → a < wz → f' a = f a) ∧ k_wd x wz c S P K T f' := by
  obtain ⟨f', e1, a2, a3⟩ := k_cl0 hN h hc hd hx a b
  rw [e] at e1 a3
  exact ⟨f', e1, a2, a3.dn h⟩
theorem k_rf0_1 (hN : 50000 ≤ N) (hc : c < 351) (h : k_wd x wz c S P K T f) (hd : ∀ (a : Nat) (e : XE), f a = some e → a < hs) (hx : wz ≤ hs) {a b : Int32} (e : (k_ac 0 S a b).1 = .inr 1) : ∃ f', F_L_call N (f, hs) x 0 a b = some (-2013, f') ∧ (∀ a, x + 70 ≤ a → a < wz → f' a = f a) ∧ k_wd x wz c S P K T f' := by
  obtain ⟨f', e1, a2, a3⟩ := k_cl0 hN h hc hd hx a b
  rw [e] at e1 a3
  exact ⟨f', e1, a2, a3.dn h⟩
theorem k_rf1_0 (hN : 50000 ≤ N) (hc : c < 351) (h : k_wd x wz c S P K T f) (hd : ∀ (a : Nat) (e : XE), f a = some e → a < hs) (hx : wz ≤ hs) {a b : Int32} (e : (k_ac 1 S a b).1 = .inr 0) : ∃ f', F_L_call N (f, hs) x 1 a b = some (-2012, f') ∧ (∀ a, x + 70 ≤ a → a < wz → f' a = f a) ∧ k_wd x wz c S P K T f' := by
  obtain ⟨f', e1, a2, a3⟩ := k_cl1 hN h hc hd hx a b
  rw [e] at e1 a3
  exact ⟨f', e1, a2, a3.dn h⟩
theorem k_rf1_1 (hN : 50000 ≤ N) (hc : c < 351) (h : k_wd x wz c S P K T f) (hd : ∀ (a : Nat) (e : XE), f a = some e → a < hs) (hx : wz ≤ hs) {a b : Int32} (e : (k_ac 1 S a b).1 = .inr 1) : ∃ f', F_L_call N (f, hs) x 1 a b = some (-2013, f') ∧ (∀ a, x + 70 ≤ a → a < wz → f' a = f a) ∧ k_wd x wz c S P K T f' := by
  obtain ⟨f', e1, a2, a3⟩ := k_cl1 hN h hc hd hx a b
  rw [e] at e1 a3
  exact ⟨f', e1, a2, a3.dn h⟩
theorem k_rf2_0 (hN : 50000 ≤ N) (hc : c < 351) (h : k_wd x wz c S P K T f) (hd : ∀ (a : Nat) (e : XE), f a = some e → a < hs) (hx : wz ≤ hs) {a b : Int32} (e : (k_ac 2 S a b).1 = .inr 0) : ∃ f', F_L_call N (f, hs) x 2 a b = some (-2012, f') ∧ (∀ a, x + 70 ≤ a → a < wz → f' a = f a) ∧ k_wd x wz c S P K T f' := by
  obtain ⟨f', e1, a2, a3⟩ := k_cl2 hN h hc hd hx a b
  rw [e] at e1 a3
  exact ⟨f', e1, a2, a3.dn h⟩
theorem k_rf2_1 (hN : 50000 ≤ N) (hc : c < 351) (h : k_wd x wz c S P K T f) (hd : ∀ (a : Nat) (e : XE), f a = some e → a < hs) (hx : wz ≤ hs) {a b : Int32} (e : (k_ac 2 S a b).1 = .inr 1) : ∃ f', F_L_call N (f, hs) x 2 a b = some (-2013, f') ∧ (∀ a, x + 70 ≤ a → a < wz → f' a = f a) ∧ k_wd x wz c S P K T f' := by
  obtain ⟨f', e1, a2, a3⟩ := k_cl2 hN h hc hd hx a b
  rw [e] at e1 a3
  exact ⟨f', e1, a2, a3.dn h⟩
theorem k_rf3_0 (hN : 50000 ≤ N) (hc : c < 351) (h : k_wd x wz c S P K T f) (hd : ∀ (a : Nat) (e : XE), f a = some e → a < hs) (hx : wz ≤ hs) {a b : Int32} (e : (k_ac 3 S a b).1 = .inr 0) : ∃ f', F_L_call N (f, hs) x 3 a b = some (-2012, f') ∧ (∀ a, x + 70 ≤ a → a < wz → f' a = f a) ∧ k_wd x wz c S P K T f' := by
  obtain ⟨f', e1, a2, a3⟩ := k_cl3 hN h hc hd hx a b
  rw [e] at e1 a3
  exact ⟨f', e1, a2, a3.dn h⟩
theorem k_rf3_1 (hN : 50000 ≤ N) (hc : c < 351) (h : k_wd x wz c S P K T f) (hd : ∀ (a : Nat) (e : XE), f a = some e → a < hs) (hx : wz ≤ hs) {a b : Int32} (e : (k_ac 3 S a b).1 = .inr 1) : ∃ f', F_L_call N (f, hs) x 3 a b = some (-2013, f') ∧ (∀ a, x + 70 ≤ a → a < wz → f' a = f a) ∧ k_wd x wz c S P K T f' := by
  obtain ⟨f', e1, a2, a3⟩ := k_cl3 hN h hc hd hx a b
  rw [e] at e1 a3
  exact ⟨f', e1, a2, a3.dn h⟩
theorem k_rf4_0 (hN : 50000 ≤ N) (hc : c < 351) (h : k_wd x wz c S P K T f) (hd : ∀ (a : Nat) (e : XE), f a = some e → a < hs) (hx : wz ≤ hs) {a b : Int32} (e : (k_ac 4 S a b).1 = .inr 0) : ∃ f', F_L_call N (f, hs) x 4 a b = some (-2012, f') ∧ (∀ a, x + 70 ≤ a → a < wz → f' a = f a) ∧ k_wd x wz c S P K T f' := by
  obtain ⟨f', e1, a2, a3⟩ := k_cl4 hN h hc hd hx a b
  rw [e] at e1 a3
  exact ⟨f', e1, a2, a3.dn h⟩
theorem k_rf4_1 (hN : 50000 ≤ N) (hc : c < 351) (h : k_wd x wz c S P K T f) (hd : ∀ (a : Nat) (e : XE), f a = some e → a < hs) (hx : wz ≤ hs) {a b : Int32} (e : (k_ac 4 S a b).1 = .inr 1) : ∃ f', F_L_call N (f, hs) x 4 a b = some (-2013, f') ∧ (∀ a, x + 70 ≤ a → a < wz → f' a = f a) ∧ k_wd x wz c S P K T f' := by
  obtain ⟨f', e1, a2, a3⟩ := k_cl4 hN h hc hd hx a b
  rw [e] at e1 a3
  exact ⟨f', e1, a2, a3.dn h⟩
theorem k_rf5_0 (hN : 50000 ≤ N) (hc : c < 351) (h : k_wd x wz c S P K T f) (hd : ∀ (a : Nat) (e : XE), f a = some e → a < hs) (hx : wz ≤ hs) {a b : Int32} (e : (k_ac 5 S a b).1 = .inr 0) : ∃ f', F_L_call N (f, hs) x 5 a b = some (-2012, f') ∧ (∀ a, x + 70 ≤ a → a < wz → f' a = f a) ∧ k_wd x wz c S P K T f' := by
  obtain ⟨f', e1, a2, a3⟩ := k_cl5 hN h hc hd hx a b
  rw [e] at e1 a3
  exact ⟨f', e1, a2, a3.dn h⟩
theorem k_rf5_1 (hN : 50000 ≤ N) (hc : c < 351) (h : k_wd x wz c S P K T f) (hd : ∀ (a : Nat) (e : XE), f a = some e → a < hs) (hx : wz ≤ hs) {a b : Int32} (e : (k_ac 5 S a b).1 = .inr 1) : ∃ f', F_L_call N (f, hs) x 5 a b = some (-2013, f') ∧ (∀ a, x + 70 ≤ a → a < wz → f' a = f a) ∧ k_wd x wz c S P K T f' := by
  obtain ⟨f', e1, a2, a3⟩ := k_cl5 hN h hc hd hx a b
  rw [e] at e1 a3
  exact ⟨f', e1, a2, a3.dn h⟩
theorem k_rf6_0 (hN : 50000 ≤ N) (hc : c < 351) (h : k_wd x wz c S P K T f) (hd : ∀ (a : Nat) (e : XE), f a = some e → a < hs) (hx : wz ≤ hs) {a b : Int32} (e : (k_ac 6 S a b).1 = .inr 0) : ∃ f', F_L_call N (f, hs) x 6 a b = some (-2012, f') ∧ (∀ a, x + 70 ≤ a → a < wz → f' a = f a) ∧ k_wd x wz c S P K T f' := by
  obtain ⟨f', e1, a2, a3⟩ := k_cl6 hN h hc hd hx a b
  rw [e] at e1 a3
  exact ⟨f', e1, a2, a3.dn h⟩
theorem k_rf6_1 (hN : 50000 ≤ N) (hc : c < 351) (h : k_wd x wz c S P K T f) (hd : ∀ (a : Nat) (e : XE), f a = some e → a < hs) (hx : wz ≤ hs) {a b : Int32} (e : (k_ac 6 S a b).1 = .inr 1) : ∃ f', F_L_call N (f, hs) x 6 a b = some (-2013, f') ∧ (∀ a, x + 70 ≤ a → a < wz → f' a = f a) ∧ k_wd x wz c S P K T f' := by
  obtain ⟨f', e1, a2, a3⟩ := k_cl6 hN h hc hd hx a b
  rw [e] at e1 a3
  exact ⟨f', e1, a2, a3.dn h⟩
theorem k_rf7_0 (hN : 50000 ≤ N) (hc : c < 351) (h : k_wd x wz c S P K T f) (hd : ∀ (a : Nat) (e : XE), f a = some e → a < hs) (hx : wz ≤ hs) {a b : Int32} (e : (k_ac 7 S a b).1 = .inr 0) : ∃ f', F_L_call N (f, hs) x 7 a b = some (-2012, f') ∧ (∀ a, x + 70 ≤ a → a < wz → f' a = f a) ∧ k_wd x wz c S P K T f' := by
  obtain ⟨f', e1, a2, a3⟩ := k_cl7 hN h hc hd hx a b
  rw [e] at e1 a3
  exact ⟨f', e1, a2, a3.dn h⟩
theorem k_rf7_1 (hN : 50000 ≤ N) (hc : c < 351) (h : k_wd x wz c S P K T f) (hd : ∀ (a : Nat) (e : XE), f a = some e → a < hs) (hx : wz ≤ hs) {a b : Int32} (e : (k_ac 7 S a b).1 = .inr 1) : ∃ f', F_L_call N (f, hs) x 7 a b = some (-2013, f') ∧ (∀ a, x + 70 ≤ a → a < wz → f' a = f a) ∧ k_wd x wz c S P K T f' := by
  obtain ⟨f', e1, a2, a3⟩ := k_cl7 hN h hc hd hx a b
  rw [e] at e1 a3
  exact ⟨f', e1, a2, a3.dn h⟩
theorem k_rf8_0 (hN : 50000 ≤ N) (hc : c < 351) (h : k_wd x wz c S P K T f) (hd : ∀ (a : Nat) (e : XE), f a = some e → a < hs) (hx : wz ≤ hs) {a b : Int32} (e : (k_ac 8 S a b).1 = .inr 0) : ∃ f', F_L_call N (f, hs) x 8 a b = some (-2012, f') ∧ (∀ a, x + 70 ≤ a → a < wz → f' a = f a) ∧ k_wd x wz c S P K T f' := by
  obtain ⟨f', e1, a2, a3⟩ := k_cl8 hN h hc hd hx a b
  rw [e] at e1 a3
  exact ⟨f', e1, a2, a3.dn h⟩
theorem k_rf8_1 (hN : 50000 ≤ N) (hc : c < 351) (h : k_wd x wz c S P K T f) (hd : ∀ (a : Nat) (e : XE), f a = some e → a < hs) (hx : wz ≤ hs) {a b : Int32} (e : (k_ac 8 S a b).1 = .inr 1) : ∃ f', F_L_call N (f, hs) x 8 a b = some (-2013, f') ∧ (∀ a, x + 70 ≤ a → a < wz → f' a = f a) ∧ k_wd x wz c S P K T f' := by
  obtain ⟨f', e1, a2, a3⟩ := k_cl8 hN h hc hd hx a b
  rw [e] at e1 a3
  exact ⟨f', e1, a2, a3.dn h⟩
theorem k_rf9 (h : k_wd x wz c S P K T f) {a b : Int32} {v : Nat} (e : k_ap T a = .inr v) : ∃ f', F_L_call N (f, hs) x 9 a b = some (k_iv (.inr v), f') ∧ (∀ a, x + 70 ≤ a → a < wz → f' a = f a) ∧ k_wd x wz c S P K T f' := by
  obtain ⟨f', e1, a2, a3⟩ := k_cl9 (N := N) (hs := hs) h a b
  rw [e] at e1 a3
  exact ⟨f', e1, a2, a3⟩
theorem k_rfb (hN : 50000 ≤ N) (h : k_wd x wz c S P K T f) (hd : ∀ (a : Nat) (e : XE), f a = some e → a < hs) (hx : wz ≤ hs) {a : Int32} {v : Nat} (e : k_bk K a = .inr v) : ∃ f', F_L_back N (f, hs) x a = some (k_iv (.inr v), f') ∧ (∀ a, x + 70 ≤ a → a < wz → f' a = f a) ∧ k_wd x wz c S P K T f' := by
  obtain ⟨f', e1, a2, a3⟩ := k_back hN h hd hx a
  rw [e] at e1 a3
  exact ⟨f', e1, a2, a3.dn h⟩
theorem k_rfk (hN : 50000 ≤ N) (h : k_wd x wz c S P K T f) (hd : ∀ (a : Nat) (e : XE), f a = some e → a < hs) (hx : wz ≤ hs) {a : Int32} (e : k_kp a = .inr 0) : ∃ f', F_L_keeps N (f, hs) x a = some (-2012, f') ∧ (∀ a, x + 70 ≤ a → a < wz → f' a = f a) ∧ k_wd x wz c S P K T f' := by
  obtain ⟨f', e1, a2, a3⟩ := k_keeps hN h hd hx a
  rw [e] at e1 a3
  exact ⟨f', e1, a2, a3⟩
/-- following a text that isn't orders -/
theorem k_rf10 (hN : 50000 ≤ N) (h : k_wd x wz c S P K T f) (hT : ¬ (k_er (k_tx T) T.length T.length ∧ k_cpl (k_rs (k_tx T) T.length) = true)) (a b : Int32) : ∃ f', F_L_call N (f, hs) x 10 a b = some (-2012, f') ∧ (∀ a, x + 70 ≤ a → a < wz → f' a = f a) ∧ k_wd x wz c S P K T f' := by
  have hcv : ∀ o : Option ((Int32 × XH) ⊕ (Nat × XM)), x_cv f 5 x o = o := fun o => h.cv
  obtain ⟨q, St, bf, r1, h2, h3, h4, h5, h6, h7⟩ := h
  obtain ⟨w, hw⟩ := r1.rq
  obtain ⟨e, f1, q', a1, a2, a3, a4⟩ := k_tellsOrders (N := N) (b := x + 61) (p := x + 62) (len := T.length) (by omega) (by omega) r1.2.1 hw r1.2.2.2.2.2.1
  have hbf : ∀ i, i < T.length → bf i = k_tx T i := fun i hi => by
    unfold k_tx
    rw [List.getD_eq_getElem?_getD, h4 i hi]
    rfl
  have hno : ¬ (e = T.length ∧ k_cpl (k_rs bf T.length) = true) := fun y => hT ⟨by rw [← y.1]; rw [y.1]; have := a2; rw [y.1] at this; exact this.cg hbf, by rw [← k_rs_cg hbf]; exact y.2⟩
  refine ⟨f1, ?_, fun a y1 y2 => a4 a (by omega), q, St, bf, r1.rd (fun a ha => a4 a (by omega)) a3, h2, h3, h4, h5, h6, h7⟩
  rw [decide_eq_false hno] at a1
  have e1 : F_X5_follow N (f, hs) x = some (.inr (0, f1)) := by
    unfold F_X5_follow
    simp only [r1.rdr, r1.buf, r1.lng, Option.bind_some, hw.cv, a1]
    rw [if_pos (show x_b false = 0 from rfl)]
  unfold F_L_call F_L_act
  rw [if_neg (show ¬ (12 : Int32) ≤ 10 by decide), if_neg (show ¬ (10 : Int32) = 0 by decide), if_neg (show ¬ (10 : Int32) = 1 by decide), if_neg (show ¬ (10 : Int32) = 2 by decide), if_neg (show ¬ (10 : Int32) = 3 by decide), if_neg (show ¬ (10 : Int32) = 4 by decide), if_neg (show ¬ (10 : Int32) = 5 by decide), if_neg (show ¬ (10 : Int32) = 6 by decide), if_neg (show ¬ (10 : Int32) = 7 by decide), if_neg (show ¬ (10 : Int32) = 8 by decide), if_neg (show ¬ (10 : Int32) = 9 by decide), if_pos rfl]
  simp only [hcv, e1, Option.bind_some]
  rfl
theorem k_cl11 (hN : 50000 ≤ N) (h : k_wd x wz c S P K T f) (a b : Int32) : ∃ (e : Nat) (f' : XM), F_L_call N (f, hs) x 11 a b = some (nI e, f') ∧ k_er (k_tx T) T.length e ∧ (∀ a, x + 70 ≤ a → a < wz → f' a = f a) ∧ k_wd x wz c S P K T f' := by
  obtain ⟨e, f', e1, a1, a2, a3⟩ := k_ferr hN h
  refine ⟨e, f', ?_, a1, a2, a3⟩
  unfold F_L_call F_L_act
  rw [if_neg (show ¬ (12 : Int32) ≤ 11 by decide), if_neg (show ¬ (11 : Int32) = 0 by decide), if_neg (show ¬ (11 : Int32) = 1 by decide), if_neg (show ¬ (11 : Int32) = 2 by decide), if_neg (show ¬ (11 : Int32) = 3 by decide), if_neg (show ¬ (11 : Int32) = 4 by decide), if_neg (show ¬ (11 : Int32) = 5 by decide), if_neg (show ¬ (11 : Int32) = 6 by decide), if_neg (show ¬ (11 : Int32) = 7 by decide), if_neg (show ¬ (11 : Int32) = 8 by decide), if_neg (show ¬ (11 : Int32) = 9 by decide), if_neg (show ¬ (11 : Int32) = 10 by decide)]
  simp only [h.cv, e1, Option.bind_some]
  rfl
end KRF
abbrev k_ky (a : Int32) : Prop := 0 ≤ a.toInt ∧ a.toInt ≤ 9999
theorem k_e0 {S : KS} {a b : Int32} (h : ¬ ((0 ≤ a.toInt ∧ a.toInt ≤ 9999) ∧ 0 ≤ b.toInt ∧ b.toInt ≤ 99)) : (k_ac 0 S a b).1 = .inr 0 := by
  show k_an (k_ex3 (decide _) _) _ = _
  rw [decide_eq_false h]; rfl
theorem k_e1 {S : KS} {a b : Int32} (h : ¬ k_ky a) : (k_ac 1 S a b).1 = .inr 0 := by
  show k_an (k_ex3 (decide _) _) _ = _
  rw [decide_eq_false h]; rfl
theorem k_e4 {S : KS} {a b : Int32} (h : ¬ (50 ≤ a.toInt ∧ a.toInt ≤ 100)) : (k_ac 4 S a b).1 = .inr 0 := by
  show k_an (k_ex3 (decide _) _) _ = _
  rw [decide_eq_false h]; rfl
theorem k_e5 {S : KS} {a b : Int32} (h : ¬ ((0 ≤ a.toInt ∧ a.toInt ≤ 9999) ∧ 0 ≤ b.toInt ∧ b.toInt ≤ 99)) : (k_ac 5 S a b).1 = .inr 0 := by
  show k_an (k_ex3 (decide _) _) _ = _
  rw [decide_eq_false h]; rfl
theorem k_e6 {S : KS} {a b : Int32} (h : ¬ k_ky a) : (k_ac 6 S a b).1 = .inr 0 := by
  show k_an (k_ex3 (decide _) _) _ = _
  rw [decide_eq_false h]; rfl
theorem k_e7 {S : KS} {a b : Int32} (h : ¬ (2 ≤ a.toInt ∧ a.toInt ≤ 8)) : (k_ac 7 S a b).1 = .inr 0 := by
  show k_an (k_ex0 (decide _)) _ = _
  rw [decide_eq_false h]; rfl
theorem k_e8 {S : KS} {a b : Int32} (h : ¬ (2 ≤ a.toInt ∧ a.toInt ≤ 6)) : (k_ac 8 S a b).1 = .inr 0 := by
  show k_an (k_ex0 (decide _)) _ = _
  rw [decide_eq_false h]; rfl
theorem k_e9 {T : List Int32} {a : Int32} (h : ¬ (33 ≤ a.toInt ∧ a.toInt ≤ 126)) : k_ap T a = .inr 0 := if_neg h
theorem k_eb {K : Nat → Option KS} {a : Int32} (h : ¬ (0 ≤ a.toInt ∧ a.toInt ≤ 1)) : k_bk K a = .inr 0 := if_neg h
theorem k_ek {a : Int32} (h : ¬ (0 ≤ a.toInt ∧ a.toInt ≤ 1)) : k_kp a = .inr 0 := if_neg h
theorem k_e12 {S : KS} {a b : Int32} (h : ¬ k_ky a) : k_iv (k_as 12 S a b) = -2012 := by
  show k_iv (k_bz (if _ then _ else _)) = _
  rw [if_neg h]; rfl
theorem k_e13 {S : KS} {a b : Int32} (h : ¬ k_ky a) : k_iv (k_as 13 S a b) = -2012 := by
  show k_iv (k_bz (if _ then _ else _)) = _
  rw [if_neg h]; rfl
theorem k_e14 {S : KS} {a b : Int32} (h : ¬ k_ky a) : k_iv (k_as 14 S a b) = -2012 := by
  show k_iv ((if _ then _ else _)) = _
  rw [if_neg h]; rfl
theorem k_e15 {S : KS} {a b : Int32} (h : ¬ k_ky a) : k_iv (k_as 15 S a b) = -2012 := by
  show k_iv ((if _ then _ else _)) = _
  rw [if_neg h]; rfl
theorem k_e18 {S : KS} {a b : Int32} (h : ¬ k_ky a) : k_iv (k_as 18 S a b) = -2012 := by
  show k_iv ((if _ then _ else _)) = _
  rw [if_neg h]; rfl
theorem k_e19 {S : KS} {a b : Int32} (h : ¬ k_ky a) : k_iv (k_as 19 S a b) = -2012 := by
  show k_iv ((if _ then _ else _)) = _
  rw [if_neg h]; rfl
theorem k_e21 {S : KS} {a b : Int32} (h : ¬ k_ky a) : k_iv (k_as 21 S a b) = -2012 := by
  show k_iv ((if _ then _ else _)) = _
  rw [if_neg h]; rfl
theorem k_e32 {S : KS} {a b : Int32} (h : ¬ k_ky a) : k_iv (k_as 32 S a b) = -2012 := by
  show k_iv ((if _ then _ else _)) = _
  rw [if_neg h]; rfl
theorem k_e16 {S : KS} {a b : Int32} (h : ¬ ((0 ≤ a.toInt ∧ a.toInt ≤ 9999) ∧ a.toInt ≤ b.toInt ∧ b.toInt ≤ 9999)) : k_iv (k_as 16 S a b) = -2012 := by
  show k_iv (if _ then _ else _) = _
  rw [if_neg h]; rfl
theorem k_e17 {S : KS} {a b : Int32} (h : ¬ ((0 ≤ a.toInt ∧ a.toInt ≤ 9999) ∧ a.toInt ≤ b.toInt ∧ b.toInt ≤ 9999)) : k_iv (k_as 17 S a b) = -2012 := by
  show k_iv (if _ then _ else _) = _
  rw [if_neg h]; rfl
theorem k_e33 {S : KS} {a b : Int32} (h : ¬ (50 ≤ a.toInt ∧ a.toInt ≤ 100)) : k_iv (k_as 33 S a b) = -2012 := by
  show k_iv (if _ then _ else _) = _
  rw [if_neg h]; rfl
theorem k_e34 {S : KS} {a b : Int32} (h : ¬ (50 ≤ a.toInt ∧ a.toInt ≤ 100)) : k_iv (k_as 34 S a b) = -2012 := by
  show k_iv (if _ then _ else _) = _
  rw [if_neg h]; rfl
theorem k_e20 {S : KS} {a b : Int32} (h : ¬ (0 ≤ a.toInt ∧ a.toInt < (k_all S).1)) : k_iv (k_as 20 S a b) = -2011 := by
  show k_iv ((if _ then _ else _)) = _
  rw [if_neg h]; rfl
theorem k_e22 {S : KS} {a b : Int32} (h : ¬ (0 ≤ a.toInt ∧ a.toInt ≤ S.1)) : k_iv (k_as 22 S a b) = -2011 := by
  show k_iv ((if _ then _ else _)) = _
  rw [if_neg h]; rfl
theorem k_e25 {S : KS} {a b : Int32} (h : ¬ (0 ≤ a.toInt ∧ a.toInt < S.2.2.1.2.2.1)) : k_iv (k_as 25 S a b) = -2011 := by
  show k_iv ((if _ then _ else _)) = _
  rw [if_neg h]; rfl
theorem k_e27 {S : KS} {a b : Int32} (h : ¬ (0 ≤ a.toInt ∧ a.toInt < S.2.2.1.2.2.1)) : k_iv (k_as 27 S a b) = -2011 := by
  show k_iv ((if _ then _ else _)) = _
  rw [if_neg h]; rfl
theorem k_e28 {S : KS} {a b : Int32} (h : ¬ (0 ≤ a.toInt ∧ a.toInt < S.2.2.1.2.2.1)) : k_iv (k_as 28 S a b) = -2011 := by
  show k_iv ((if _ then _ else _)) = _
  rw [if_neg h]; rfl
theorem k_e29 {S : KS} {a b : Int32} (h : ¬ (0 ≤ a.toInt ∧ a.toInt < k_tlv S.2.2.1)) : k_iv (k_as 29 S a b) = -2011 := by
  show k_iv ((if _ then _ else _)) = _
  rw [if_neg h]; rfl
theorem k_e23 {S : KS} {a b : Int32} (h : ¬ ((0 ≤ a.toInt ∧ a.toInt ≤ S.1) ∧ 0 ≤ b.toInt ∧ b.toInt < (S.2.1 (k_u a)).1)) : k_iv (k_as 23 S a b) = -2011 := by
  show k_iv ((if _ then _ else _)) = _
  rw [if_neg h]; rfl
theorem k_e24 {S : KS} {a b : Int32} (h : ¬ ((0 ≤ a.toInt ∧ a.toInt ≤ S.1) ∧ 0 ≤ b.toInt ∧ b.toInt < (S.2.1 (k_u a)).1)) : k_iv (k_as 24 S a b) = -2011 := by
  show k_iv (k_bz (if _ then _ else _)) = _
  rw [if_neg h]; rfl
theorem k_e26 {S : KS} {a b : Int32} (h : ¬ ((0 ≤ a.toInt ∧ a.toInt < S.2.2.1.2.2.1) ∧ 0 ≤ b.toInt ∧ k_oe S.2.2.1 (k_u a) (k_u b) < S.2.2.1.1.1)) : k_iv (k_as 26 S a b) = -2011 := by
  show k_iv ((if _ then _ else _)) = _
  rw [if_neg h]; rfl
theorem k_e30 {S : KS} {a b : Int32} (h : ¬ ((0 ≤ a.toInt ∧ a.toInt < k_tlv S.2.2.1) ∧ 0 ≤ b.toInt ∧ b.toInt < k_nn2 S (k_u a))) : k_iv (k_as 30 S a b) = -2011 := by
  show k_iv ((if _ then _ else _)) = _
  rw [if_neg h]; rfl
theorem k_e31 {S : KS} {a b : Int32} (h : ¬ ((0 ≤ a.toInt ∧ a.toInt < k_tlv S.2.2.1) ∧ 0 ≤ b.toInt ∧ b.toInt < k_nn2 S (k_u a))) : k_iv (k_as 31 S a b) = -2011 := by
  show k_iv ((if _ then _ else _)) = _
  rw [if_neg h]; rfl
section XBR
variable {M : XMD} {fr lo : Nat} {Tg : XT} {RO : Nat → State → Prop} {rc rs pc : Nat} {lv : List (Nat × Value)} {rest : List Value} {h : XH}
theorem x_if_eq_y {x : Int32} {off : Int} (t : Nat) (hd : decode M.2.1 pc = .ok (.ifCond .eq off, 3)) (ht : (pc : Int) + off = (t : Int)) (c : x = 0) (k : X M fr lo Tg RO rc rs t lv rest h) : X M fr lo Tg RO rc rs pc lv (.int x :: rest) h := x_if_eq (α := Unit) (A := some ()) (B := none) (r := ()) t hd ht (if_pos c) (fun _ => k) (fun z => by cases z)
theorem x_if_eq_n {x : Int32} {off : Int} (t : Nat) (hd : decode M.2.1 pc = .ok (.ifCond .eq off, 3)) (ht : (pc : Int) + off = (t : Int)) (c : ¬ x = 0) (k : X M fr lo Tg RO rc rs (pc + 3) lv rest h) : X M fr lo Tg RO rc rs pc lv (.int x :: rest) h := x_if_eq (α := Unit) (A := none) (B := some ()) (r := ()) t hd ht (if_neg c) (fun z => by cases z) (fun _ => k)
theorem x_icmp_eq_y {x y : Int32} {off : Int} (t : Nat) (hd : decode M.2.1 pc = .ok (.if_icmp .eq off, 3)) (ht : (pc : Int) + off = (t : Int)) (c : x = y) (k : X M fr lo Tg RO rc rs t lv rest h) : X M fr lo Tg RO rc rs pc lv (.int y :: .int x :: rest) h := x_icmp_eq (α := Unit) (A := some ()) (B := none) (r := ()) t hd ht (if_pos c) (fun _ => k) (fun z => by cases z)
theorem x_icmp_eq_n {x y : Int32} {off : Int} (t : Nat) (hd : decode M.2.1 pc = .ok (.if_icmp .eq off, 3)) (ht : (pc : Int) + off = (t : Int)) (c : ¬ x = y) (k : X M fr lo Tg RO rc rs (pc + 3) lv rest h) : X M fr lo Tg RO rc rs pc lv (.int y :: .int x :: rest) h := x_icmp_eq (α := Unit) (A := none) (B := some ()) (r := ()) t hd ht (if_neg c) (fun z => by cases z) (fun _ => k)
theorem x_if_ne_y {x : Int32} {off : Int} (t : Nat) (hd : decode M.2.1 pc = .ok (.ifCond .ne off, 3)) (ht : (pc : Int) + off = (t : Int)) (c : ¬ x = 0) (k : X M fr lo Tg RO rc rs t lv rest h) : X M fr lo Tg RO rc rs pc lv (.int x :: rest) h := x_if_ne (α := Unit) (A := some ()) (B := none) (r := ()) t hd ht (if_neg c) (fun _ => k) (fun z => by cases z)
theorem x_if_ne_n {x : Int32} {off : Int} (t : Nat) (hd : decode M.2.1 pc = .ok (.ifCond .ne off, 3)) (ht : (pc : Int) + off = (t : Int)) (c : x = 0) (k : X M fr lo Tg RO rc rs (pc + 3) lv rest h) : X M fr lo Tg RO rc rs pc lv (.int x :: rest) h := x_if_ne (α := Unit) (A := none) (B := some ()) (r := ()) t hd ht (if_pos c) (fun z => by cases z) (fun _ => k)
theorem x_icmp_ne_y {x y : Int32} {off : Int} (t : Nat) (hd : decode M.2.1 pc = .ok (.if_icmp .ne off, 3)) (ht : (pc : Int) + off = (t : Int)) (c : ¬ x = y) (k : X M fr lo Tg RO rc rs t lv rest h) : X M fr lo Tg RO rc rs pc lv (.int y :: .int x :: rest) h := x_icmp_ne (α := Unit) (A := some ()) (B := none) (r := ()) t hd ht (if_neg c) (fun _ => k) (fun z => by cases z)
theorem x_icmp_ne_n {x y : Int32} {off : Int} (t : Nat) (hd : decode M.2.1 pc = .ok (.if_icmp .ne off, 3)) (ht : (pc : Int) + off = (t : Int)) (c : x = y) (k : X M fr lo Tg RO rc rs (pc + 3) lv rest h) : X M fr lo Tg RO rc rs pc lv (.int y :: .int x :: rest) h := x_icmp_ne (α := Unit) (A := none) (B := some ()) (r := ()) t hd ht (if_pos c) (fun z => by cases z) (fun _ => k)
theorem x_if_lt_y {x : Int32} {off : Int} (t : Nat) (hd : decode M.2.1 pc = .ok (.ifCond .lt off, 3)) (ht : (pc : Int) + off = (t : Int)) (c : x < 0) (k : X M fr lo Tg RO rc rs t lv rest h) : X M fr lo Tg RO rc rs pc lv (.int x :: rest) h := x_if_lt (α := Unit) (A := some ()) (B := none) (r := ()) t hd ht (if_pos c) (fun _ => k) (fun z => by cases z)
theorem x_if_lt_n {x : Int32} {off : Int} (t : Nat) (hd : decode M.2.1 pc = .ok (.ifCond .lt off, 3)) (ht : (pc : Int) + off = (t : Int)) (c : ¬ x < 0) (k : X M fr lo Tg RO rc rs (pc + 3) lv rest h) : X M fr lo Tg RO rc rs pc lv (.int x :: rest) h := x_if_lt (α := Unit) (A := none) (B := some ()) (r := ()) t hd ht (if_neg c) (fun z => by cases z) (fun _ => k)
theorem x_icmp_lt_y {x y : Int32} {off : Int} (t : Nat) (hd : decode M.2.1 pc = .ok (.if_icmp .lt off, 3)) (ht : (pc : Int) + off = (t : Int)) (c : x < y) (k : X M fr lo Tg RO rc rs t lv rest h) : X M fr lo Tg RO rc rs pc lv (.int y :: .int x :: rest) h := x_icmp_lt (α := Unit) (A := some ()) (B := none) (r := ()) t hd ht (if_pos c) (fun _ => k) (fun z => by cases z)
theorem x_icmp_lt_n {x y : Int32} {off : Int} (t : Nat) (hd : decode M.2.1 pc = .ok (.if_icmp .lt off, 3)) (ht : (pc : Int) + off = (t : Int)) (c : ¬ x < y) (k : X M fr lo Tg RO rc rs (pc + 3) lv rest h) : X M fr lo Tg RO rc rs pc lv (.int y :: .int x :: rest) h := x_icmp_lt (α := Unit) (A := none) (B := some ()) (r := ()) t hd ht (if_neg c) (fun z => by cases z) (fun _ => k)
theorem x_if_ge_y {x : Int32} {off : Int} (t : Nat) (hd : decode M.2.1 pc = .ok (.ifCond .ge off, 3)) (ht : (pc : Int) + off = (t : Int)) (c : 0 ≤ x) (k : X M fr lo Tg RO rc rs t lv rest h) : X M fr lo Tg RO rc rs pc lv (.int x :: rest) h := x_if_ge (α := Unit) (A := some ()) (B := none) (r := ()) t hd ht (if_pos c) (fun _ => k) (fun z => by cases z)
theorem x_if_ge_n {x : Int32} {off : Int} (t : Nat) (hd : decode M.2.1 pc = .ok (.ifCond .ge off, 3)) (ht : (pc : Int) + off = (t : Int)) (c : ¬ 0 ≤ x) (k : X M fr lo Tg RO rc rs (pc + 3) lv rest h) : X M fr lo Tg RO rc rs pc lv (.int x :: rest) h := x_if_ge (α := Unit) (A := none) (B := some ()) (r := ()) t hd ht (if_neg c) (fun z => by cases z) (fun _ => k)
theorem x_icmp_ge_y {x y : Int32} {off : Int} (t : Nat) (hd : decode M.2.1 pc = .ok (.if_icmp .ge off, 3)) (ht : (pc : Int) + off = (t : Int)) (c : y ≤ x) (k : X M fr lo Tg RO rc rs t lv rest h) : X M fr lo Tg RO rc rs pc lv (.int y :: .int x :: rest) h := x_icmp_ge (α := Unit) (A := some ()) (B := none) (r := ()) t hd ht (if_pos c) (fun _ => k) (fun z => by cases z)
theorem x_icmp_ge_n {x y : Int32} {off : Int} (t : Nat) (hd : decode M.2.1 pc = .ok (.if_icmp .ge off, 3)) (ht : (pc : Int) + off = (t : Int)) (c : ¬ y ≤ x) (k : X M fr lo Tg RO rc rs (pc + 3) lv rest h) : X M fr lo Tg RO rc rs pc lv (.int y :: .int x :: rest) h := x_icmp_ge (α := Unit) (A := none) (B := some ()) (r := ()) t hd ht (if_neg c) (fun z => by cases z) (fun _ => k)
theorem x_if_gt_y {x : Int32} {off : Int} (t : Nat) (hd : decode M.2.1 pc = .ok (.ifCond .gt off, 3)) (ht : (pc : Int) + off = (t : Int)) (c : 0 < x) (k : X M fr lo Tg RO rc rs t lv rest h) : X M fr lo Tg RO rc rs pc lv (.int x :: rest) h := x_if_gt (α := Unit) (A := some ()) (B := none) (r := ()) t hd ht (if_pos c) (fun _ => k) (fun z => by cases z)
theorem x_if_gt_n {x : Int32} {off : Int} (t : Nat) (hd : decode M.2.1 pc = .ok (.ifCond .gt off, 3)) (ht : (pc : Int) + off = (t : Int)) (c : ¬ 0 < x) (k : X M fr lo Tg RO rc rs (pc + 3) lv rest h) : X M fr lo Tg RO rc rs pc lv (.int x :: rest) h := x_if_gt (α := Unit) (A := none) (B := some ()) (r := ()) t hd ht (if_neg c) (fun z => by cases z) (fun _ => k)
theorem x_icmp_gt_y {x y : Int32} {off : Int} (t : Nat) (hd : decode M.2.1 pc = .ok (.if_icmp .gt off, 3)) (ht : (pc : Int) + off = (t : Int)) (c : y < x) (k : X M fr lo Tg RO rc rs t lv rest h) : X M fr lo Tg RO rc rs pc lv (.int y :: .int x :: rest) h := x_icmp_gt (α := Unit) (A := some ()) (B := none) (r := ()) t hd ht (if_pos c) (fun _ => k) (fun z => by cases z)
theorem x_icmp_gt_n {x y : Int32} {off : Int} (t : Nat) (hd : decode M.2.1 pc = .ok (.if_icmp .gt off, 3)) (ht : (pc : Int) + off = (t : Int)) (c : ¬ y < x) (k : X M fr lo Tg RO rc rs (pc + 3) lv rest h) : X M fr lo Tg RO rc rs pc lv (.int y :: .int x :: rest) h := x_icmp_gt (α := Unit) (A := none) (B := some ()) (r := ()) t hd ht (if_neg c) (fun z => by cases z) (fun _ => k)
theorem x_if_le_y {x : Int32} {off : Int} (t : Nat) (hd : decode M.2.1 pc = .ok (.ifCond .le off, 3)) (ht : (pc : Int) + off = (t : Int)) (c : x ≤ 0) (k : X M fr lo Tg RO rc rs t lv rest h) : X M fr lo Tg RO rc rs pc lv (.int x :: rest) h := x_if_le (α := Unit) (A := some ()) (B := none) (r := ()) t hd ht (if_pos c) (fun _ => k) (fun z => by cases z)
theorem x_if_le_n {x : Int32} {off : Int} (t : Nat) (hd : decode M.2.1 pc = .ok (.ifCond .le off, 3)) (ht : (pc : Int) + off = (t : Int)) (c : ¬ x ≤ 0) (k : X M fr lo Tg RO rc rs (pc + 3) lv rest h) : X M fr lo Tg RO rc rs pc lv (.int x :: rest) h := x_if_le (α := Unit) (A := none) (B := some ()) (r := ()) t hd ht (if_neg c) (fun z => by cases z) (fun _ => k)
theorem x_icmp_le_y {x y : Int32} {off : Int} (t : Nat) (hd : decode M.2.1 pc = .ok (.if_icmp .le off, 3)) (ht : (pc : Int) + off = (t : Int)) (c : x ≤ y) (k : X M fr lo Tg RO rc rs t lv rest h) : X M fr lo Tg RO rc rs pc lv (.int y :: .int x :: rest) h := x_icmp_le (α := Unit) (A := some ()) (B := none) (r := ()) t hd ht (if_pos c) (fun _ => k) (fun z => by cases z)
theorem x_icmp_le_n {x y : Int32} {off : Int} (t : Nat) (hd : decode M.2.1 pc = .ok (.if_icmp .le off, 3)) (ht : (pc : Int) + off = (t : Int)) (c : ¬ x ≤ y) (k : X M fr lo Tg RO rc rs (pc + 3) lv rest h) : X M fr lo Tg RO rc rs pc lv (.int y :: .int x :: rest) h := x_icmp_le (α := Unit) (A := none) (B := some ()) (r := ()) t hd ht (if_neg c) (fun z => by cases z) (fun _ => k)
end XBR
theorem k_lgc (v : Int64) : lg_cmp v v = 0 := by
  unfold lg_cmp
  simp
/-- a number out of a range -/
def k_far (k lo hi : Int32) : Int32 := if k = 0 then lo - 1 else if k = 1 then hi + 1 else if k = 2 then -2147483648 else 2147483647
theorem k_farF {N : Nat} {f : XM} (k lo hi : Int32) : F_L_far N f k lo hi = some (k_far k lo hi) := by
  unfold F_L_far k_far
  repeat' split
  all_goals rfl
theorem k_far_o {k lo hi : Int32} (h1 : 0 ≤ lo.toInt) (h2 : lo.toInt ≤ hi.toInt + 1) (h3 : -1 ≤ hi.toInt) (h4 : hi.toInt ≤ 20000) : (k_far k lo hi).toInt < lo.toInt ∨ hi.toInt < (k_far k lo hi).toInt := by
  have e1 : (1 : Int32).toInt = 1 := rfl
  have em : (-2147483648 : Int32).toInt = -2147483648 := rfl
  have ex : (2147483647 : Int32).toInt = 2147483647 := rfl
  unfold k_far
  split
  · left
    rw [Int32.toInt_sub, e1, Int.bmod_def]
    omega
  · split
    · right
      rw [Int32.toInt_add, e1, Int.bmod_def]
      omega
    · split
      · left; omega
      · right; omega
theorem k_ni1 {m : Nat} (h : m ≤ 10000) : (nI m - 1).toInt = (m : Int) - 1 := pk_sub_toInt (a := m) (b := 1) (by omega) (by omega)
/-- what lies behind the object is as it was, up to wz -/
def k_Zf (x wz : Nat) (f0 f : XM) : Prop := k_zz x wz f ∧ ∀ a, x + 70 ≤ a → a < wz → f a = f0 a
theorem k_Zf.st {x wz : Nat} {f0 f f' : XM} (h : k_Zf x wz f0 f) (hf : ∀ a, x + 70 ≤ a → a < wz → f' a = f a) : k_Zf x wz f0 f' := ⟨h.1.fr hf, fun a y1 y2 => (hf a y1 y2).trans (h.2 a y1 y2)⟩
theorem k_Zf.rf {x wz : Nat} {f : XM} (h : k_zz x wz f) : k_Zf x wz f f := ⟨h, fun _ _ _ => rfl⟩
theorem k_Zf.le {x wz c hs : Nat} {f0 f : XM} {S : KS} {P : List KS} {K : Nat → Option KS} {T : List Int32} (h : k_Zf x wz f0 f) (w : k_wd x wz c S P K T f) (hd : ∀ (a : Nat) (e : XE), f a = some e → a < hs) : wz ≤ hs := h.1.le (w.dom hd) hd
theorem k_oe_ge {T : KT} {l p : Nat} (h : k_own T l ≤ p) : ¬ k_oe T l p < T.1.1 := fun y => by
  have h1 := k_fst_yes (fun i => (k_inl T l (T.1.2.1 i) && decide (T.2.1 i = 0)) && decide (k_cnt (fun i => k_inl T l (T.1.2.1 i) && decide (T.2.1 i = 0)) i = p)) T.1.1 y
  have h2 : (k_oq T l (k_oe T l p) && decide (k_cnt (k_oq T l) (k_oe T l p) = p)) = true := h1
  rw [Bool.and_eq_true] at h2
  have h3 := of_decide_eq_true h2.2
  have h4 : k_cnt (k_oq T l) (k_oe T l p + 1) = k_cnt (k_oq T l) (k_oe T l p) + 1 := k_cnt_y h2.1
  have h5 := k_cnt_mono (k_oq T l) (show k_oe T l p + 1 ≤ T.1.1 by omega)
  have h6 : k_cnt (k_oq T l) T.1.1 = k_own T l := rfl
  omega
theorem k_oe_gi {T : KT} {l : Nat} {b : Int32} (h : (k_own T l : Int) - 1 < b.toInt) : ¬ k_oe T l (k_u b) < T.1.1 := k_oe_ge (by have : k_u b = b.toInt.toNat := rfl; omega)
