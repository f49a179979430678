/-! The object's world: its state, the states saved, the slots, the text. States that are alike where it counts. -/
def k_rq2 (R R' : KR) : Prop := R.1 = R'.1 ∧ ∀ i, i < R.1 → R.2.1 i = R'.2.1 i ∧ R.2.2 i = R'.2.2 i
theorem k_rq2.rf {R : KR} : k_rq2 R R := ⟨rfl, fun _ _ => ⟨rfl, rfl⟩⟩
def k_tq (T T' : KT) : Prop := k_rq2 T.1 T'.1 ∧ (∀ i, i < T.1.1 → T.2.1 i = T'.2.1 i) ∧ T.2.2.1 = T'.2.2.1 ∧ (∀ i, i < T.2.2.1 → T.2.2.2.1 i = T'.2.2.2.1 i) ∧ T.2.2.2.2 = T'.2.2.2.2
theorem k_tq.rf {T : KT} : k_tq T T := ⟨k_rq2.rf, fun _ _ => rfl, rfl, fun _ _ => rfl, rfl⟩
/-- two states alike -/
def k_eq2 (S S' : KS) : Prop := S.1 = S'.1 ∧ (∀ r, r ≤ S.1 → k_rq2 (S.2.1 r) (S'.2.1 r)) ∧ k_tq S.2.2.1 S'.2.2.1 ∧ S.2.2.2 = S'.2.2.2
theorem k_eq2.rf {S : KS} : k_eq2 S S := ⟨rfl, fun _ _ => k_rq2.rf, k_tq.rf, rfl⟩
theorem k_rq2.tr {R R' R'' : KR} (h : k_rq2 R R') (h2 : k_rq2 R' R'') : k_rq2 R R'' := ⟨h.1.trans h2.1, fun i hi => ⟨(h.2 i hi).1.trans (h2.2 i (by rw [← h.1]; exact hi)).1, (h.2 i hi).2.trans (h2.2 i (by rw [← h.1]; exact hi)).2⟩⟩
theorem k_tq.tr {T T' T'' : KT} (h : k_tq T T') (h2 : k_tq T' T'') : k_tq T T'' := ⟨h.1.tr h2.1, fun i hi => (h.2.1 i hi).trans (h2.2.1 i (by rw [← h.1.1]; exact hi)), h.2.2.1.trans h2.2.2.1, fun i hi => (h.2.2.2.1 i hi).trans (h2.2.2.2.1 i (by rw [← h.2.2.1]; exact hi)), h.2.2.2.2.trans h2.2.2.2.2⟩
theorem k_eq2.tr {S S' S'' : KS} (h : k_eq2 S S') (h2 : k_eq2 S' S'') : k_eq2 S S'' := ⟨h.1.trans h2.1, fun r hr => (h.2.1 r hr).tr (h2.2.1 r (by rw [← h.1]; exact hr)), h.2.2.1.tr h2.2.2.1, h.2.2.2.trans h2.2.2.2⟩
theorem k_row.cg {f : XM} {b c : Nat} {R R' : KR} (h : k_row f b c R) (e : k_rq2 R R') : k_row f b c R' := h.cong e.1 (fun i hi => (e.2 i hi).1) (fun i hi => (e.2 i hi).2)
theorem k_st.cg {f : XM} {b : Nat} {S S' : KS} (h : k_st f b S) (e : k_eq2 S S') : k_st f b S' := by
  obtain ⟨h1, h2, h3, h4, g, w, Q, h5, h6, h7, h8⟩ := h
  obtain ⟨e1, e2, e3, e4⟩ := e
  refine ⟨by rw [← e1, ← e4]; exact h1, by omega, h3.cg (e2 0 (Nat.zero_le _)), h4.cong e3.1.1 (fun i hi => ⟨(e3.1.2 i hi).1, (e3.1.2 i hi).2, e3.2.1 i hi⟩) e3.2.2.1 e3.2.2.2.1 e3.2.2.2.2, g, w, fun i => if i < S.1 then S'.2.1 (S'.1 - i) else Q i, h5, fun i hi => ⟨(h6 i hi).1, (h6 i hi).2.1, ?_⟩, h7, fun i hi => ?_⟩
  · show k_row f (b + 11 + 3 * w i) 60 (if i < S.1 then S'.2.1 (S'.1 - i) else Q i)
    by_cases z : i < S.1
    · rw [if_pos z, ← e1]
      have := (h6 i hi).2.2
      rw [h8 i z] at this
      exact this.cg (e2 _ (by omega))
    · rw [if_neg z]
      exact (h6 i hi).2.2
  · show (if i < S.1 then S'.2.1 (S'.1 - i) else Q i) = _
    rw [if_pos (by omega)]
theorem k_wt.cg {T T' : KT} (h : k_wt T) (e : k_tq T T') : k_wt T' := by
  obtain ⟨h1, h2, h3, h4, h5, h6, h7, h8, h9⟩ := h
  obtain ⟨⟨e1, e2⟩, e3, e4, e5, e6⟩ := e
  refine ⟨by rw [← e1]; exact k_srt_cong h1 (fun i hi => (e2 i hi).1.symm), by rw [← e4]; exact k_srt_cong h2 (fun i hi => (e5 i hi).symm), by omega, by omega, fun z => by have := h5 (by omega); omega, fun z => by rw [← e5 0 (by omega)]; exact h6 (by omega), fun i hi => by rw [← (e2 i (by omega)).2]; exact h7 i (by omega), fun i hi => by rw [← e3 i (by omega)]; exact h8 i (by omega), ?_⟩
  rw [← e6, ← e4]
  exact h9
theorem k_ws.cg {S S' : KS} (h : k_ws S) (e : k_eq2 S S') : k_ws S' := by
  obtain ⟨h1, h2, h3, h4, h5, h6, h7⟩ := h
  obtain ⟨e1, e2, e3, e4⟩ := e
  refine ⟨by omega, fun r hr => ?_, ?_, fun r hr hr2 => ?_, h5.cg e3, by rw [← e4]; exact h6, by rw [← e4]; exact h7⟩
  · have := e2 r (by omega)
    rw [← this.1]
    exact k_srt_cong (h2 r (by omega)) (fun i hi => (this.2 i hi).1.symm)
  · rw [← (e2 0 (Nat.zero_le _)).1]; exact h3
  · rw [← (e2 r (by omega)).1]; exact h4 r hr (by omega)
theorem k_vr.cg {R R' : KR} {lo : Int} (h : k_vr R lo) (e : k_rq2 R R') : k_vr R' lo := fun i hi => by
  rw [← (e.2 i (by rw [e.1]; exact hi)).2]
  exact h i (by rw [e.1]; exact hi)
theorem k_vv.cg {S S' : KS} (h : k_vv S) (e : k_eq2 S S') : k_vv S' := ⟨fun r hr => (h.1 r (by rw [e.1]; exact hr)).cg (e.2.1 r (by rw [e.1]; exact hr)), h.2.cg e.2.2.1.1⟩
def k_gd (c : Nat) (S : KS) : Prop := k_ws S ∧ k_vv S ∧ S.2.2.1.2.2.1 ≤ 160 + c
theorem k_gd.mono {c c' : Nat} {S : KS} (h : k_gd c S) (hc : c ≤ c') : k_gd c' S := ⟨h.1, h.2.1, by have := h.2.2; omega⟩
theorem k_gd.cg {c : Nat} {S S' : KS} (h : k_gd c S) (e : k_eq2 S S') : k_gd c S' := ⟨h.1.cg e, h.2.1.cg e, by rw [← e.2.2.1.2.2.1]; exact h.2.2⟩
/-- the states saved, behind one more -/
def k_sv (P : List KS) (S : KS) : List KS := (P ++ [S]).drop (P.length - 5)
def k_wd (x wz c : Nat) (S : KS) (P : List KS) (K : Nat → Option KS) (T : List Int32) (f : XM) : Prop :=
  ∃ (q : Nat → Option Nat) (St : Nat → KS) (bf : Nat → Int32), k_ci f x wz P.length q St S bf T.length ∧ (∀ i, i < P.length → P[i]? = some (St (i + 1))) ∧ (∀ i, i < 2 → K i = (q (i + 7)).map (fun _ => St (i + 7))) ∧ (∀ i, i < T.length → T[i]? = some (bf i)) ∧ k_gd c S ∧ (∀ s ∈ P, k_gd c s) ∧ ∀ i s, i < 2 → K i = some s → k_gd c s
def k_pick {α : Type} (A : KA) (a b : α) : α := match A with | .inl _ => a | .inr _ => b
def qh (A : KA) (f : XM) (hs : Nat) : (Int32 × XH) ⊕ (Nat × XM) := match A with | .inl v => .inl (v, (f, hs)) | .inr c => .inr (c, f)
def k_an (ex : Option Nat) (v : Int32) : KA := match ex with | none => .inl v | some c => .inr c
/-- the calls that may change: answer and state behind it -/
noncomputable def k_ac (w : Nat) (S : KS) (a b : Int32) : KA × KS := match w with
  | 0 => (k_an (k_ex3 (decide ((0 ≤ a.toInt ∧ a.toInt ≤ 9999) ∧ 0 ≤ b.toInt ∧ b.toInt ≤ 99)) (k_room S a)) (nI (k_wr (S.2.1 0) a b).1), k_s0 S (k_wr (S.2.1 0) a b))
  | 1 => (k_an (k_ex3 (decide (0 ≤ a.toInt ∧ a.toInt ≤ 9999)) (k_room S a)) (nI (k_wr (S.2.1 0) a (-1)).1), k_s0 S (k_wr (S.2.1 0) a (-1)))
  | 2 => (k_an (k_ex2 (decide (¬ ((S.2.1 0).1 = 0 ∨ S.1 = 6)))) (nI (S.1 + 1)), k_scl S)
  | 3 => (k_an (k_ex2 (decide (2 ≤ S.1 ∧ (k_mrg (S.2.1 S.1) (S.2.1 (S.1 - 1))).1 ≤ 60))) (nI (k_mrg (S.2.1 S.1) (S.2.1 (S.1 - 1))).1), k_smg S (k_mrg (S.2.1 S.1) (S.2.1 (S.1 - 1))))
  | 4 => (k_an (k_ex3 (decide (50 ≤ a.toInt ∧ a.toInt ≤ 100)) (decide ((k_all S).1 ≤ 160))) (nI (k_ru (k_all S).1 (k_each S.2.2.2.1 (k_u a)))), k_sbl S (k_all S) (k_u a))
  | 5 => (k_an (k_ex3 (decide ((0 ≤ a.toInt ∧ a.toInt ≤ 9999) ∧ 0 ≤ b.toInt ∧ b.toInt ≤ 99)) (k_cin S a)) (k_twr (k_tfx S) a b).1, k_stt S (k_twr (k_tfx S) a b).2)
  | 6 => (k_an (k_ex3 (decide (0 ≤ a.toInt ∧ a.toInt ≤ 9999)) (decide (¬ (k_run S a ≤ S.1 ∨ ¬ k_pl S.2.2.1.1.1 S.2.2.1.1.2.1 a < S.2.2.1.1.1)))) (S.2.2.1.1.2.2 (k_pl S.2.2.1.1.1 S.2.2.1.1.2.1 a)), k_stt S (k_tdel S.2.2.1 a))
  | 7 => (k_an (k_ex0 (decide (2 ≤ a.toInt ∧ a.toInt ≤ 8))) S.2.2.2.1, k_sil S a)
  | _ => (k_an (k_ex0 (decide (2 ≤ a.toInt ∧ a.toInt ≤ 6))) S.2.2.2.2.1, k_snl S a)
section KWD
variable {N : Nat} {f : XM} {x wz c hs : Nat} {S : KS} {P : List KS} {K : Nat → Option KS} {T : List Int32}
theorem k_sv_len (P : List KS) (S : KS) (h : P.length ≤ 6) : (k_sv P S).length = if P.length < 6 then P.length + 1 else 6 := by
  unfold k_sv
  rw [List.length_drop, List.length_append]
  simp only [List.length_cons, List.length_nil]
  by_cases z : P.length < 6
  · rw [if_pos z]; omega
  · rw [if_neg z]; omega
theorem k_sv_at (P : List KS) (S : KS) (St : Nat → KS) (h : P.length ≤ 6) (hP : ∀ i, i < P.length → P[i]? = some (St (i + 1))) (i : Nat) (hi : i < if P.length < 6 then P.length + 1 else 6) : (k_sv P S)[i]? = some (k_svl P.length (fun i => if i = 0 then S else St i) i) := by
  unfold k_sv k_svl
  rw [List.getElem?_drop]
  by_cases z : P.length < 6
  · rw [if_pos z] at hi
    rw [if_pos z, show P.length - 5 + i = i by omega]
    by_cases y : i < P.length
    · rw [if_pos y, List.getElem?_append_left y, hP i y]
      exact congrArg some (if_neg (by omega)).symm
    · rw [if_neg y, List.getElem?_append_right (by omega), show i - P.length = 0 by omega]
      rfl
  · rw [if_neg z] at hi
    rw [if_neg z, show P.length - 5 + i = i + 1 by omega]
    by_cases y : i < 5
    · rw [if_pos y, List.getElem?_append_left (by omega), hP _ (by omega)]
      exact congrArg some (if_neg (by omega)).symm
    · rw [if_neg y, List.getElem?_append_right (by omega), show i + 1 - P.length = 0 by omega]
      rfl
theorem k_sv_mem {P : List KS} {S s : KS} (h : s ∈ k_sv P S) : s ∈ P ∨ s = S := by
  have := List.mem_of_mem_drop h
  rcases List.mem_append.mp this with y | y
  · exact Or.inl y
  · exact Or.inr (List.mem_singleton.mp y)
/-- a call that may change, in the world -/
theorem k_wd.step {ex : Option Nat} {v : Int32} {S' : KS} {z : Option ((Int32 × XH) ⊕ (Nat × XM))} (h : k_wd x wz c S P K T f) (hS : ex = none → k_gd (c + 1) S')
    (hz : ∀ q St bf, k_ci f x wz P.length q St S bf T.length → k_cx f x wz P.length q St S bf T.length ex v S' z) :
    ∃ (f' : XM) (hs' : Nat), z = some (qh (k_an ex v) f' hs') ∧ (∀ a, x + 70 ≤ a → a < wz → f' a = f a) ∧ k_wd x wz (c + 1) (k_pick (k_an ex v) S' S) (k_pick (k_an ex v) (k_sv P S) P) K T f' := by
  obtain ⟨q, St, bf, h1, h2, h3, h4, h5, h6, h7⟩ := h
  have hx := hz q St bf h1
  have h16 := h1.1
  cases ex with
  | some k =>
    obtain ⟨f', St', rfl, a2, a3, a4⟩ := hx
    refine ⟨f', 0, rfl, a2, q, St', bf, a3, fun i hi => ?_, fun i hi => ?_, h4, h5.mono (by omega), fun s hs => (h6 s hs).mono (by omega), fun i s hi hs => (h7 i s hi hs).mono (by omega)⟩
    · rw [a4 _ (by omega)]; exact h2 i hi
    · rw [a4 _ (by omega)]; exact h3 i hi
  | none =>
    obtain ⟨f', hs', n', q', St', rfl, a2, a3, rfl, a5, a6⟩ := hx
    have hl := k_sv_len P S h16
    refine ⟨f', hs', rfl, a2, q', St', bf, ?_, fun i hi => ?_, fun i hi => ?_, h4, hS rfl, fun s hs => ?_, fun i s hi hs => (h7 i s hi hs).mono (by omega)⟩
    · show k_ci f' x wz (k_sv P S).length q' St' S' bf T.length
      rw [hl]; exact a3
    · have hi' : i < (k_sv P S).length := hi
      rw [hl] at hi'
      show (k_sv P S)[i]? = _
      rw [k_sv_at P S St h16 h2 i hi', a5 i hi']
    · rw [(a6 i hi).1, (a6 i hi).2]; exact h3 i hi
    · rcases k_sv_mem (show s ∈ k_sv P S from hs) with y | y
      · exact (h6 s y).mono (by omega)
      · rw [y]; exact h5.mono (by omega)
theorem k_wd.gd (h : k_wd x wz c S P K T f) : k_gd c S := by
  obtain ⟨q, St, bf, h1, h2, h3, h4, h5, h6, h7⟩ := h
  exact h5
theorem k_wd.len (h : k_wd x wz c S P K T f) : P.length ≤ 6 := by
  obtain ⟨q, St, bf, h1, h2, h3, h4, h5, h6, h7⟩ := h
  exact h1.1
theorem k_wd.dom (h : k_wd x wz c S P K T f) (hd : ∀ (a : Nat) (e : XE), f a = some e → a < hs) : x + 70 ≤ hs := by
  obtain ⟨q, St, bf, h1, h2, h3, h4, h5, h6, h7⟩ := h
  obtain ⟨r0, r1, R0, R1, -, -, y1, y2⟩ := h1.gat
  have := h1.2.2.2.2.2.2.2.1
  obtain ⟨g1, g2, ⟨sp, a1, a2⟩, ⟨u1, a3, a4⟩, ⟨u2, a5, a6⟩, a7, ⟨ra, rb, rc, rd, a8⟩, ⟨r0', r1', R0', R1', hh, hg, b1, b2⟩, b3, a9, a10⟩ := h1
  obtain ⟨-, -, gk, gv, -, -, z1, -⟩ := b1
  obtain ⟨-, -, gk2, gv2, -, -, z2, -⟩ := b2
  have m1 := hd _ _ z1
  have m2 := hd _ _ z2
  omega
/-- the state may be put otherwise where it doesn't count -/
theorem k_wd.cg {S' : KS} (h : k_wd x wz c S P K T f) (e : k_eq2 S S') : k_wd x wz c S' P K T f := by
  obtain ⟨q, St, bf, h1, h2, h3, h4, h5, h6, h7⟩ := h
  exact ⟨q, St, bf, h1.setnow (fun _ _ _ => rfl) (h1.st.cg e) h1.gat, h2, h3, h4, h5.cg e, h6, h7⟩
theorem k_ac_put (hN : 50000 ≤ N) (h : k_wd x wz c S P K T f) (hd : ∀ (a : Nat) (e : XE), f a = some e → a < hs) (hx : wz ≤ hs) (a b : Int32) :
    ∃ (f' : XM) (hs' : Nat), F_X5_put N (f, hs) x a b = some (qh (k_ac 0 S a b).1 f' hs') ∧ (∀ a, x + 70 ≤ a → a < wz → f' a = f a) ∧ k_wd x wz (c + 1) (k_pick (k_ac 0 S a b).1 (k_ac 0 S a b).2 S) (k_pick (k_ac 0 S a b).1 (k_sv P S) P) K T f' := by
  refine h.step (fun e => ?_) (fun q St bf h1 => k_xput hN h1 hd ⟨h.dom hd, hx⟩ h.gd.1 a b)
  obtain ⟨g1, g2, g3⟩ := h.gd
  by_cases y : (0 ≤ a.toInt ∧ a.toInt ≤ 9999) ∧ 0 ≤ b.toInt ∧ b.toInt ≤ 99
  · rw [decide_eq_true y] at e
    have hr : k_room S a = true := by
      cases hr : k_room S a with
      | true => rfl
      | false => rw [hr] at e; cases e
    exact ⟨k_ws_s0 g1 (by omega) (of_decide_eq_true hr), k_vv_s0 g2 (by omega), by show S.2.2.1.2.2.1 ≤ _; omega⟩
  · rw [decide_eq_false y] at e
    cases e
theorem k_ac_drop (hN : 50000 ≤ N) (h : k_wd x wz c S P K T f) (hd : ∀ (a : Nat) (e : XE), f a = some e → a < hs) (hx : wz ≤ hs) (a b : Int32) :
    ∃ (f' : XM) (hs' : Nat), F_X5_drop N (f, hs) x a = some (qh (k_ac 1 S a b).1 f' hs') ∧ (∀ a, x + 70 ≤ a → a < wz → f' a = f a) ∧ k_wd x wz (c + 1) (k_pick (k_ac 1 S a b).1 (k_ac 1 S a b).2 S) (k_pick (k_ac 1 S a b).1 (k_sv P S) P) K T f' := by
  refine h.step (fun e => ?_) (fun q St bf h1 => k_xdrop hN h1 hd ⟨h.dom hd, hx⟩ h.gd.1 a)
  obtain ⟨g1, g2, g3⟩ := h.gd
  by_cases y : 0 ≤ a.toInt ∧ a.toInt ≤ 9999
  · rw [decide_eq_true y] at e
    have hr : k_room S a = true := by
      cases hr : k_room S a with
      | true => rfl
      | false => rw [hr] at e; cases e
    exact ⟨k_ws_s0 g1 (by omega) (of_decide_eq_true hr), k_vv_s0 g2 (by decide), by show S.2.2.1.2.2.1 ≤ _; omega⟩
  · rw [decide_eq_false y] at e
    cases e
theorem k_ac_close (hN : 50000 ≤ N) (h : k_wd x wz c S P K T f) (hd : ∀ (a : Nat) (e : XE), f a = some e → a < hs) (hx : wz ≤ hs) (a b : Int32) :
    ∃ (f' : XM) (hs' : Nat), F_X5_closeRun N (f, hs) x = some (qh (k_ac 2 S a b).1 f' hs') ∧ (∀ a, x + 70 ≤ a → a < wz → f' a = f a) ∧ k_wd x wz (c + 1) (k_pick (k_ac 2 S a b).1 (k_ac 2 S a b).2 S) (k_pick (k_ac 2 S a b).1 (k_sv P S) P) K T f' := by
  refine h.step (fun e => ?_) (fun q St bf h1 => k_xclose hN h1 hd ⟨h.dom hd, hx⟩ h.gd.1)
  obtain ⟨g1, g2, g3⟩ := h.gd
  by_cases y : ¬ ((S.2.1 0).1 = 0 ∨ S.1 = 6)
  · exact ⟨k_ws_cl g1 (by have := g1.1; omega), k_vv_cl g2, by show S.2.2.1.2.2.1 ≤ _; omega⟩
  · rw [decide_eq_false y] at e
    cases e
theorem k_ac_merge (hN : 50000 ≤ N) (h : k_wd x wz c S P K T f) (hd : ∀ (a : Nat) (e : XE), f a = some e → a < hs) (hx : wz ≤ hs) (a b : Int32) :
    ∃ (f' : XM) (hs' : Nat), F_X5_mergeRuns N (f, hs) x = some (qh (k_ac 3 S a b).1 f' hs') ∧ (∀ a, x + 70 ≤ a → a < wz → f' a = f a) ∧ k_wd x wz (c + 1) (k_pick (k_ac 3 S a b).1 (k_ac 3 S a b).2 S) (k_pick (k_ac 3 S a b).1 (k_sv P S) P) K T f' := by
  obtain ⟨g1, g2, g3⟩ := h.gd
  refine h.step (fun e => ?_) (fun q St bf h1 => ?_)
  · by_cases y : 2 ≤ S.1 ∧ (k_mrg (S.2.1 S.1) (S.2.1 (S.1 - 1))).1 ≤ 60
    · obtain ⟨q, St, bf, h1, -⟩ := id h
      obtain ⟨M, bb, m1, m2, -⟩ := k_xmerge hN h1 hd ⟨h.dom hd, hx⟩ g1
      have hM : k_mgd (S.2.1 S.1) (S.2.1 (S.1 - 1)) M := by
        cases bb with
        | true => exact (m1 rfl).2.1
        | false =>
          rcases m2 rfl with u | u
          · omega
          · exact u.2.1
      obtain ⟨n1, n2, n3⟩ := k_mrg_of hM
      exact ⟨k_ws_mg g1 y.1 n1.1 y.2, k_vv_mg g2 y.1 n1, by show S.2.2.1.2.2.1 ≤ _; omega⟩
    · rw [decide_eq_false y] at e
      cases e
  · obtain ⟨M, bb, m1, m2, m3⟩ := k_xmerge hN h1 hd ⟨h.dom hd, hx⟩ g1
    cases bb with
    | true =>
      obtain ⟨u1, u2, u3⟩ := m1 rfl
      obtain ⟨n1, n2, n3⟩ := k_mrg_of u2
      rw [decide_eq_true (show 2 ≤ S.1 ∧ (k_mrg (S.2.1 S.1) (S.2.1 (S.1 - 1))).1 ≤ 60 from ⟨u1, by omega⟩)]
      obtain ⟨f', hs', n', q', St', w1, w2, w3, w4, w5, w6⟩ := m3
      have e2 : k_eq2 (k_smg S M) (k_smg S (k_mrg (S.2.1 S.1) (S.2.1 (S.1 - 1)))) := by
        refine ⟨rfl, fun r hr => ?_, k_tq.rf, rfl⟩
        show k_rq2 (if r = S.1 - 1 then M else S.2.1 r) (if r = S.1 - 1 then k_mrg (S.2.1 S.1) (S.2.1 (S.1 - 1)) else S.2.1 r)
        by_cases z : r = S.1 - 1
        · rw [if_pos z, if_pos z]; exact ⟨n2, n3⟩
        · rw [if_neg z, if_neg z]; exact k_rq2.rf
      exact ⟨f', hs', n', q', St', by rw [← n2]; exact w1, w2, w3.setnow (fun _ _ _ => rfl) (w3.st.cg e2) w3.gat, w4, w5, w6⟩
    | false =>
      have hno : ¬ (2 ≤ S.1 ∧ (k_mrg (S.2.1 S.1) (S.2.1 (S.1 - 1))).1 ≤ 60) := by
        rcases m2 rfl with u | ⟨u1, u2, u3⟩
        · omega
        · obtain ⟨n1, n2, n3⟩ := k_mrg_of u2
          omega
      rw [decide_eq_false hno]
      obtain ⟨f', St', w1, w2, w3, w4⟩ := m3
      exact ⟨f', St', w1, w2, w3, w4⟩
theorem k_ac_build (hN : 50000 ≤ N) (h : k_wd x wz c S P K T f) (hd : ∀ (a : Nat) (e : XE), f a = some e → a < hs) (hx : wz ≤ hs) (a b : Int32) :
    ∃ (f' : XM) (hs' : Nat), F_X5_build N (f, hs) x a = some (qh (k_ac 4 S a b).1 f' hs') ∧ (∀ a, x + 70 ≤ a → a < wz → f' a = f a) ∧ k_wd x wz (c + 1) (k_pick (k_ac 4 S a b).1 (k_ac 4 S a b).2 S) (k_pick (k_ac 4 S a b).1 (k_sv P S) P) K T f' := by
  obtain ⟨g1, g2, g3⟩ := h.gd
  refine h.step (fun e => ?_) (fun q St bf h1 => k_xbuild hN h1 hd ⟨h.dom hd, hx⟩ g1 a)
  obtain ⟨q, St, bf, h1, -⟩ := id h
  have hA := h1.okA (N := N) (by omega) g1
  by_cases y : 50 ≤ a.toInt ∧ a.toInt ≤ 100
  · rw [decide_eq_true y] at e
    by_cases y2 : (k_all S).1 ≤ 160
    · obtain ⟨j, j1, rfl, j3⟩ := k_nn (x := a) (by omega)
      show k_gd (c + 1) (k_sbl S (k_all S) (k_u (nI j)))
      rw [k_u_n j1]
      refine ⟨k_ws_bl g1 (by omega) hA.1 y2, k_vv_bl g2 hA.1, ?_⟩
      show k_ru (k_all S).1 (k_each S.2.2.2.1 j) ≤ _
      have := k_ru_le (a := k_each S.2.2.2.1 j) (c := (k_all S).1) (k_each_r g1 (p := j) (by omega)).1
      omega
    · rw [decide_eq_false y2] at e
      cases e
  · rw [decide_eq_false y] at e
    cases e
theorem k_tlv_twr (T : KT) (k v : Int32) : (k_twr T k v).2.2.2.1 ≤ T.2.2.1 + 1 := by
  unfold k_twr
  split
  · exact Nat.le_succ _
  · repeat' split
    all_goals first
      | exact Nat.le_refl _
      | exact Nat.le_succ _
theorem k_ac_insert (hN : 50000 ≤ N) (hc : c < 351) (h : k_wd x wz c S P K T f) (hd : ∀ (a : Nat) (e : XE), f a = some e → a < hs) (hx : wz ≤ hs) (a b : Int32) :
    ∃ (f' : XM) (hs' : Nat), F_X5_insert N (f, hs) x a b = some (qh (k_ac 5 S a b).1 f' hs') ∧ (∀ a, x + 70 ≤ a → a < wz → f' a = f a) ∧ k_wd x wz (c + 1) (k_pick (k_ac 5 S a b).1 (k_ac 5 S a b).2 S) (k_pick (k_ac 5 S a b).1 (k_sv P S) P) K T f' := by
  obtain ⟨g1, g2, g3⟩ := h.gd
  refine h.step (fun e => ?_) (fun q St bf h1 => k_xinsert hN h1 hd ⟨h.dom hd, hx⟩ g1 (by omega) a b)
  by_cases y : (0 ≤ a.toInt ∧ a.toInt ≤ 9999) ∧ 0 ≤ b.toInt ∧ b.toInt ≤ 99
  · obtain ⟨t1, t2, t3, t4, t5⟩ := k_tfx_wt g1
    refine ⟨k_ws_tt g1 (k_wt_twr t1 (by omega) (by omega) (fun e => ?_) ⟨t2, t3⟩), k_vv_tw g2 y.2.1, ?_⟩
    · rw [e] at y
      exact absurd y.2.1 (by decide)
    · show (k_twr (k_tfx S) a b).2.2.2.1 ≤ _
      have := k_tlv_twr (k_tfx S) a b
      omega
  · rw [decide_eq_false y] at e
    cases e
theorem k_ac_erase (hN : 50000 ≤ N) (h : k_wd x wz c S P K T f) (hd : ∀ (a : Nat) (e : XE), f a = some e → a < hs) (hx : wz ≤ hs) (a b : Int32) :
    ∃ (f' : XM) (hs' : Nat), F_X5_erase N (f, hs) x a = some (qh (k_ac 6 S a b).1 f' hs') ∧ (∀ a, x + 70 ≤ a → a < wz → f' a = f a) ∧ k_wd x wz (c + 1) (k_pick (k_ac 6 S a b).1 (k_ac 6 S a b).2 S) (k_pick (k_ac 6 S a b).1 (k_sv P S) P) K T f' := by
  obtain ⟨g1, g2, g3⟩ := h.gd
  refine h.step (fun e => ?_) (fun q St bf h1 => k_xerase hN h1 hd ⟨h.dom hd, hx⟩ g1 a)
  exact ⟨k_ws_tt g1 (k_wt_del g1.2.2.2.2.1), k_vv_del g2, by show S.2.2.1.2.2.1 ≤ _; omega⟩
theorem k_ac_leaf (hN : 50000 ≤ N) (h : k_wd x wz c S P K T f) (hd : ∀ (a : Nat) (e : XE), f a = some e → a < hs) (hx : wz ≤ hs) (a b : Int32) :
    ∃ (f' : XM) (hs' : Nat), F_X5_changeLeaf N (f, hs) x a = some (qh (k_ac 7 S a b).1 f' hs') ∧ (∀ a, x + 70 ≤ a → a < wz → f' a = f a) ∧ k_wd x wz (c + 1) (k_pick (k_ac 7 S a b).1 (k_ac 7 S a b).2 S) (k_pick (k_ac 7 S a b).1 (k_sv P S) P) K T f' := by
  obtain ⟨g1, g2, g3⟩ := h.gd
  refine h.step (fun e => ?_) (fun q St bf h1 => k_xleaf hN h1 hd ⟨h.dom hd, hx⟩ a)
  by_cases y : 2 ≤ a.toInt ∧ a.toInt ≤ 8
  · obtain ⟨j, j1, rfl, j3⟩ := k_nn (x := a) (by omega)
    exact ⟨⟨g1.1, g1.2.1, g1.2.2.1, g1.2.2.2.1, g1.2.2.2.2.1, ⟨j, rfl, by omega, by omega⟩, g1.2.2.2.2.2.2⟩, g2, by show S.2.2.1.2.2.1 ≤ _; omega⟩
  · rw [decide_eq_false y] at e
    cases e
theorem k_ac_fan (hN : 50000 ≤ N) (h : k_wd x wz c S P K T f) (hd : ∀ (a : Nat) (e : XE), f a = some e → a < hs) (hx : wz ≤ hs) (a b : Int32) :
    ∃ (f' : XM) (hs' : Nat), F_X5_changeFan N (f, hs) x a = some (qh (k_ac 8 S a b).1 f' hs') ∧ (∀ a, x + 70 ≤ a → a < wz → f' a = f a) ∧ k_wd x wz (c + 1) (k_pick (k_ac 8 S a b).1 (k_ac 8 S a b).2 S) (k_pick (k_ac 8 S a b).1 (k_sv P S) P) K T f' := by
  obtain ⟨g1, g2, g3⟩ := h.gd
  refine h.step (fun e => ?_) (fun q St bf h1 => k_xfan hN h1 hd ⟨h.dom hd, hx⟩ a)
  by_cases y : 2 ≤ a.toInt ∧ a.toInt ≤ 6
  · obtain ⟨j, j1, rfl, j3⟩ := k_nn (x := a) (by omega)
    exact ⟨⟨g1.1, g1.2.1, g1.2.2.1, g1.2.2.2.1, g1.2.2.2.2.1, g1.2.2.2.2.2.1, ⟨j, rfl, by omega, by omega⟩⟩, g2, by show S.2.2.1.2.2.1 ≤ _; omega⟩
  · rw [decide_eq_false y] at e
    cases e
end KWD
