/-! The object: a state saved. -/
section KSV
variable {wz : Nat}
variable {N : Nat} {x n len : Nat} {q : Nat → Option Nat} {St : Nat → KS} {S : KS} {bf : Nat → Int32}
/-- what saving brings: as many states as then, which ones, the slots as they were, and nothing else -/
def k_svd (x wz n : Nat) (q : Nat → Option Nat) (St : Nat → KS) (f : XM) (n' : Nat) (q' : Nat → Option Nat) (St' : Nat → KS) (f' : XM) : Prop :=
  n' = (if n < 6 then n + 1 else 6) ∧ (∀ i, i < n' → St' (i + 1) = k_svl n St i) ∧ (∀ i, i < 2 → q' (i + 7) = q (i + 7) ∧ St' (i + 7) = St (i + 7)) ∧ (∀ a, x + 70 ≤ a → a < wz → f' a = f a)
theorem k_save_lt {f : XM} {hs : Nat} (h : k_ci f x wz n q St S bf len) (hd : ∀ (a : Nat) (e : XE), f a = some e → a < hs) (hx : x + 70 ≤ hs ∧ wz ≤ hs) (hn : n < 6) :
    ∃ (f' : XM) (hs' : Nat) (q' : Nat → Option Nat) (St' : Nat → KS), F_X5_saveSpare N (f, hs) x = some (f', hs') ∧ k_ci f' x wz (n + 1) q' St' S bf len ∧ k_svd x wz n q St f (n + 1) q' St' f' := by
  obtain ⟨sp, e1, e2, e3, e4⟩ := h.sp
  have hc := h
  obtain ⟨h1, h2, ⟨sp', a1, a2⟩, ⟨g, a3, a4⟩, a5, a7, a8, b1, b2, a9, a10⟩ := h
  cases e1.symm.trans a1
  obtain ⟨fs, hfs⟩ : ∃ fs, f sp = some (.inr (3, fs)) := ⟨_, e4.1⟩
  have s1 := k_astr a3 hfs (by omega) (i := n) hn (by omega)
  have o1 : x_up f (x + 59) (.inl (.object (x_cls 3), 6, .inr (.inr (.inr (.inr (va_up g n (some sp))))))) x = _ := (x_up_n (by omega)).trans a2
  have p1 := k_putn_ob (n' := n + 1) o1
  have o2 : x_up (x_up f (x + 59) (.inl (.object (x_cls 3), 6, .inr (.inr (.inr (.inr (va_up g n (some sp)))))))) x (.inr (5, k_ob x sp (n + 1) len)) x = _ := x_up_s
  have hb0 : ∀ i p a, i < 9 → q i = some p → p ≤ a → a < p + 29 → x_up (x_up f (x + 59) (.inl (.object (x_cls 3), 6, .inr (.inr (.inr (.inr (va_up g n (some sp)))))))) x (.inr (5, k_ob x sp (n + 1) len)) a = f a := fun i p a hi hp g1 g2 => by
    have := (a9.1 i p hi hp).1
    exact (x_up_n (by omega)).trans (x_up_n (by omega))
  have lead : F_X5_saveSpare N (f, hs) x = Option.elim (q (n + 1))
          ((x_new (x_up (x_up f (x + 59) (.inl (.object (x_cls 3), 6, .inr (.inr (.inr (.inr (va_up g n (some sp)))))))) x (.inr (5, k_ob x sp (n + 1) len)), hs) 3 [.null, .null, .int 0, .null, .int 0, .int 0, .int 0, .int 0]).bind fun z22 =>
          (F_X3_init N (z22.2.1, z22.2.2) z22.1).bind fun z23 =>
          (x_putr z23.1 5 x 1 (some z22.1)).bind fun f24 =>
          some (f24, z23.2))
          (fun a21 => (x_putr (x_up (x_up f (x + 59) (.inl (.object (x_cls 3), 6, .inr (.inr (.inr (.inr (va_up g n (some sp)))))))) x (.inr (5, k_ob x sp (n + 1) len))) 5 x 1 (some a21)).bind fun f25 =>
          some (f25, hs)) := by
    simp only [F_X5_saveSpare, hc.cnt, hc.svd, k_alenr a3, Option.bind_some]
    rw [if_pos (nI_lt hn (by omega)), if_neg (nI_pos (by omega)), if_pos (nI_lt hn (by omega))]
    simp only [k_aldr a3 (i := n) hn (by omega), a4 n hn, e2, s1, Option.bind_some, k_geti o1 (k := 3) rfl, k_add1, p1]
  cases hq : q (n + 1) with
  | some p =>
    have hsw : k_blk (x_up (x_up (x_up f (x + 59) (.inl (.object (x_cls 3), 6, .inr (.inr (.inr (.inr (va_up g n (some sp)))))))) x (.inr (5, k_ob x sp (n + 1) len))) x (.inr (5, k_ob x p (n + 1) len))) x wz (fun i => q (if i = 0 then n + 1 else if i = n + 1 then 0 else i)) (fun i => St (if i = 0 then n + 1 else if i = n + 1 then 0 else i)) := by
      refine k_blk.perm (fun i => if i = 0 then n + 1 else if i = n + 1 then 0 else i) (a9.ext (fun i p a hi hp g1 g2 => ?_)) (fun i hi => ?_) (fun i j hi hj e => ?_)
      · have := (a9.1 i p hi hp).1
        exact (x_up_n (by omega)).trans (hb0 i p a hi hp g1 g2)
      · show (if i = 0 then n + 1 else if i = n + 1 then 0 else i) < 9
        split
        · omega
        · split <;> omega
      · have e' : (if i = 0 then n + 1 else if i = n + 1 then 0 else i) = (if j = 0 then n + 1 else if j = n + 1 then 0 else j) := e
        split at e' <;> split at e' <;> first | omega | (split at e' <;> first | omega | (split at e' <;> omega))
    refine ⟨_, hs, _, _, ?_, hc.objs (n' := n + 1) (sp' := p) (len' := len) (g' := va_up g n (some sp)) (by omega) h2 (fun a y1 y2 _ => (x_up_n y1).trans ((x_up_n y1).trans (x_up_n y2))) x_up_s (by show q (if 0 = 0 then n + 1 else _) = _; rw [if_pos rfl]; exact hq) ((x_up_n (by omega)).trans ((x_up_n (by omega)).trans x_up_s)) (fun i hi => ?_) (fun i hi => ?_) hsw (fun i hi => ?_), by rw [if_pos hn], fun i hi => ?_, fun i hi => ⟨?_, ?_⟩, fun a y1 y2 => (x_up_n (by omega)).trans ((x_up_n (by omega)).trans (x_up_n (by omega)))⟩
    · rw [lead, hq, Option.elim_some, k_putf_ob o2]
      rfl
    · show va_up g n (some sp) i = q (if i + 1 = 0 then n + 1 else if i + 1 = n + 1 then 0 else i + 1)
      rw [if_neg (by omega)]
      by_cases z : i = n
      · rw [z, k_vup_s, if_pos rfl]; exact a1.symm
      · rw [k_vup_n z, if_neg (by omega)]; exact a4 i hi
    · show q (if i + 7 = 0 then n + 1 else if i + 7 = n + 1 then 0 else i + 7) = _
      rw [if_neg (by omega), if_neg (by omega)]
    · show ∃ p, q (if i + 1 = 0 then n + 1 else if i + 1 = n + 1 then 0 else i + 1) = some p
      rw [if_neg (by omega)]
      by_cases z : i = n
      · rw [if_pos (by omega)]; exact ⟨_, a1⟩
      · rw [if_neg (by omega)]; exact a10 i (by omega)
    · show St (if i + 1 = 0 then n + 1 else if i + 1 = n + 1 then 0 else i + 1) = k_svl n St i
      unfold k_svl
      rw [if_neg (by omega), if_pos hn]
      by_cases z : i = n
      · rw [if_pos (by omega), if_neg (by omega)]
      · rw [if_neg (by omega), if_pos (by omega)]
    · show q (if i + 7 = 0 then n + 1 else if i + 7 = n + 1 then 0 else i + 7) = _
      rw [if_neg (by omega), if_neg (by omega)]
    · show St (if i + 7 = 0 then n + 1 else if i + 7 = n + 1 then 0 else i + 7) = _
      rw [if_neg (by omega), if_neg (by omega)]
  | none =>
    obtain ⟨f3, t1, t2, t3⟩ := k_sinit (N := N) (f := x_up (x_up f (x + 59) (.inl (.object (x_cls 3), 6, .inr (.inr (.inr (.inr (va_up g n (some sp)))))))) x (.inr (5, k_ob x sp (n + 1) len))) (b := hs)
    have o3 : f3 x = _ := (t3 x (by omega)).trans o2
    have hdm : ∀ i p, i < 9 → q i = some p → p + 29 ≤ hs := fun i p hi hp => k_st_dom (a9.1 i p hi hp).2 hd
    have hsw : k_blk (x_up f3 x (.inr (5, k_ob x hs (n + 1) len))) x wz (fun i => if i = 0 then some hs else if i = n + 1 then q 0 else q i) (fun i => if i = 0 then k_S0 else if i = n + 1 then St 0 else St i) := by
      have hst : ∀ i p, i < 9 → q i = some p → k_st (x_up f3 x (.inr (5, k_ob x hs (n + 1) len))) p (St i) := fun i p hi hp => (a9.1 i p hi hp).2.ext (fun a g1 g2 => by
        have := (a9.1 i p hi hp).1
        have := hdm i p hi hp
        exact (x_up_n (by omega)).trans ((t3 a (by omega)).trans (hb0 i p a hi hp g1 g2)))
      refine ⟨fun i p hi hp => ?_, fun i j p p' hij hi hj hp hp' => ?_⟩
      · have hp2 : (if i = 0 then some hs else if i = n + 1 then q 0 else q i) = some p := hp
        show _ ∧ k_st _ p (if i = 0 then k_S0 else if i = n + 1 then St 0 else St i)
        by_cases z0 : i = 0
        · rw [if_pos z0] at hp2 ⊢
          cases hp2
          exact ⟨Or.inr hx, t2.ext (fun a g1 g2 => x_up_n (by omega))⟩
        · rw [if_neg z0] at hp2 ⊢
          by_cases z1 : i = n + 1
          · rw [if_pos z1] at hp2 ⊢
            exact ⟨(a9.1 0 p (by omega) hp2).1, hst 0 p (by omega) hp2⟩
          · rw [if_neg z1] at hp2 ⊢
            exact ⟨(a9.1 i p hi hp2).1, hst i p hi hp2⟩
      · have hp2 : (if i = 0 then some hs else if i = n + 1 then q 0 else q i) = some p := hp
        have hp3 : (if j = 0 then some hs else if j = n + 1 then q 0 else q j) = some p' := hp'
        by_cases z0 : i = 0
        · rw [if_pos z0] at hp2
          cases hp2
          rw [if_neg (by omega)] at hp3
          by_cases z1 : j = n + 1
          · rw [if_pos z1] at hp3
            exact Or.inr (hdm 0 p' (by omega) hp3)
          · rw [if_neg z1] at hp3
            exact Or.inr (hdm j p' hj hp3)
        · rw [if_neg z0] at hp2
          by_cases y0 : j = 0
          · rw [if_pos y0] at hp3
            cases hp3
            by_cases z1 : i = n + 1
            · rw [if_pos z1] at hp2
              exact Or.inl (hdm 0 p (by omega) hp2)
            · rw [if_neg z1] at hp2
              exact Or.inl (hdm i p hi hp2)
          · rw [if_neg y0] at hp3
            by_cases z1 : i = n + 1
            · rw [if_pos z1] at hp2
              rw [if_neg (by omega)] at hp3
              exact a9.2 0 j p p' (by omega) (by omega) hj hp2 hp3
            · rw [if_neg z1] at hp2
              by_cases y1 : j = n + 1
              · rw [if_pos y1] at hp3
                exact a9.2 i 0 p p' (by omega) hi (by omega) hp2 hp3
              · rw [if_neg y1] at hp3
                exact a9.2 i j p p' hij hi hj hp2 hp3
    refine ⟨_, hs + 29, _, _, ?_, hc.objs (n' := n + 1) (sp' := hs) (len' := len) (g' := va_up g n (some sp)) (by omega) h2 (fun a y1 y2 y3 => (x_up_n y1).trans ((t3 a (by omega)).trans ((x_up_n y1).trans (x_up_n y2)))) x_up_s (by show (if 0 = 0 then some hs else _) = _; rw [if_pos rfl]) ((x_up_n (by omega)).trans ((t3 _ (by omega)).trans ((x_up_n (by omega)).trans x_up_s))) (fun i hi => ?_) (fun i hi => ?_) hsw (fun i hi => ?_), by rw [if_pos hn], fun i hi => ?_, fun i hi => ⟨?_, ?_⟩, fun a y1 y2 => (x_up_n (by omega)).trans ((t3 a (by omega)).trans ((x_up_n (by omega)).trans (x_up_n (by omega))))⟩
    · rw [lead, hq, Option.elim_none]
      simp only [x_new, Option.bind_some, t1, k_putf_ob o3]
    · show va_up g n (some sp) i = (if i + 1 = 0 then some hs else if i + 1 = n + 1 then q 0 else q (i + 1))
      rw [if_neg (by omega)]
      by_cases z : i = n
      · rw [z, k_vup_s, if_pos rfl]; exact a1.symm
      · rw [k_vup_n z, if_neg (by omega)]; exact a4 i hi
    · show (if i + 7 = 0 then some hs else if i + 7 = n + 1 then q 0 else q (i + 7)) = _
      rw [if_neg (by omega), if_neg (by omega)]
    · show ∃ p, (if i + 1 = 0 then some hs else if i + 1 = n + 1 then q 0 else q (i + 1)) = some p
      rw [if_neg (by omega)]
      by_cases z : i = n
      · rw [if_pos (by omega)]; exact ⟨_, a1⟩
      · rw [if_neg (by omega)]; exact a10 i (by omega)
    · show (if i + 1 = 0 then k_S0 else if i + 1 = n + 1 then St 0 else St (i + 1)) = k_svl n St i
      unfold k_svl
      rw [if_neg (by omega), if_pos hn]
      by_cases z : i = n
      · rw [if_pos (by omega), if_neg (by omega)]
      · rw [if_neg (by omega), if_pos (by omega)]
    · show (if i + 7 = 0 then some hs else if i + 7 = n + 1 then q 0 else q (i + 7)) = _
      rw [if_neg (by omega), if_neg (by omega)]
    · show (if i + 7 = 0 then k_S0 else if i + 7 = n + 1 then St 0 else St (i + 7)) = _
      rw [if_neg (by omega), if_neg (by omega)]
theorem k_save_eq {f : XM} {hs : Nat} (hN : 5000 ≤ N) (h : k_ci f x wz 6 q St S bf len) :
    ∃ (f' : XM) (q' : Nat → Option Nat) (St' : Nat → KS), F_X5_saveSpare N (f, hs) x = some (f', hs) ∧ k_ci f' x wz 6 q' St' S bf len ∧ k_svd x wz 6 q St f 6 q' St' f' := by
  obtain ⟨sp, e1, e2, e3, e4⟩ := h.sp
  have hc := h
  obtain ⟨h1, h2, ⟨sp', a1, a2⟩, ⟨g, a3, a4⟩, a5, a7, a8, b1, b2, a9, a10⟩ := h
  cases e1.symm.trans a1
  obtain ⟨fs, hfs⟩ : ∃ fs, f sp = some (.inr (3, fs)) := ⟨_, e4.1⟩
  obtain ⟨p0, hp0⟩ := a10 0 (by omega)
  have hg0 : g 0 = some p0 := (a4 0 (by omega)).trans hp0
  have hb1 := a9.1 1 p0 (by omega) hp0
  obtain ⟨f1, g1, r1, r2, r3, r4⟩ := k_mob_loop (N := N) (x := x) (n := 6) (len := len) (c1 := some p0) (sp := sp) (K := fun y2_17 g17 =>
    (x_getr g17 5 x 2).bind fun v18 =>
    (x_getr g17 5 x 2).bind fun v19 =>
    Option.bind v19 fun a20 =>
    (x_alen g17 a20).bind fun v21 =>
    Option.bind v18 fun a22 =>
    (x_astr g17 3 a22 (v21 - 1) (some p0)).bind fun f23 =>
    (x_getr f23 5 x 2).bind fun v24 =>
    Option.bind v24 fun a25 =>
    (x_alen f23 a25).bind fun v26 =>
    (x_puti f23 5 x 3 (v26 - 1)).bind fun f27 =>
    some f27) 5 N 1 f g (by omega) (by omega) (by omega) a2 a3 (fun j hj => by
      obtain ⟨p, hp⟩ := a10 j hj
      have := a9.1 (j + 1) p (by omega) hp
      exact ⟨p, _, (a4 j hj).trans hp, this.2.1, by omega⟩)
  have o1 : f1 x = _ := (r4 x (by omega)).trans a2
  have hp0o : f1 p0 = _ := (r4 p0 (by omega)).trans hb1.2.1
  have hspo : f1 sp = _ := (r4 sp (by omega)).trans e4.1
  have z5 : nI 6 - 1 = nI 5 := nI_pred 5
  have s1 := k_astr r2 hp0o (by omega) (i := 5) (by omega) (by omega)
  have o2 : x_up f1 (x + 59) (.inl (.object (x_cls 3), 6, .inr (.inr (.inr (.inr (va_up g1 5 (some p0))))))) x = _ := (x_up_n (by omega)).trans o1
  have a2' : x_up (x_up f1 (x + 59) (.inl (.object (x_cls 3), 6, .inr (.inr (.inr (.inr (va_up g1 5 (some p0)))))))) x (.inr (5, k_ob x sp 5 len)) (x + 59) = some (.inl (.object (x_cls 3), 6, .inr (.inr (.inr (.inr (va_up g1 5 (some p0))))))) := (x_up_n (by omega)).trans x_up_s
  have o3 : x_up (x_up f1 (x + 59) (.inl (.object (x_cls 3), 6, .inr (.inr (.inr (.inr (va_up g1 5 (some p0)))))))) x (.inr (5, k_ob x sp 5 len)) x = _ := x_up_s
  have sp3 : x_up (x_up f1 (x + 59) (.inl (.object (x_cls 3), 6, .inr (.inr (.inr (.inr (va_up g1 5 (some p0)))))))) x (.inr (5, k_ob x sp 5 len)) sp = _ := (x_up_n (by omega)).trans ((x_up_n (by omega)).trans hspo)
  have mob : F_X5_moveOldestBehind N f x = some (x_up (x_up f1 (x + 59) (.inl (.object (x_cls 3), 6, .inr (.inr (.inr (.inr (va_up g1 5 (some p0)))))))) x (.inr (5, k_ob x sp 5 len))) := by
    simp only [F_X5_moveOldestBehind, hc.svd, k_alenr a3, Option.bind_some]
    rw [if_neg (nI_ne0 (by omega) (by omega))]
    simp only [show x_aldr f 3 (x + 59) 0 = some (g 0) from k_aldr a3 (i := 0) (by omega) (by omega), hg0, Option.bind_some]
    rw [show F_X5_moveOldestBehind_L18 N x (some p0) _ N 1 f = _ from r1]
    simp only [k_getr o1 (k := 2) rfl, k_alenr r2, z5, s1, k_getr o2 (k := 2) rfl, Option.bind_some, k_alenr (f := x_up f1 (x + 59) (.inl (.object (x_cls 3), 6, .inr (.inr (.inr (.inr (va_up g1 5 (some p0)))))))) x_up_s, k_putn_ob o2]
  generalize hF : x_up (x_up f1 (x + 59) (.inl (.object (x_cls 3), 6, .inr (.inr (.inr (.inr (va_up g1 5 (some p0)))))))) x (.inr (5, k_ob x sp 5 len)) = F3 at *
  have hF3 : ∀ a, a ≠ x → a ≠ x + 59 → F3 a = f a := fun a y1 y2 => by
    rw [← hF]
    exact (x_up_n y1).trans ((x_up_n y2).trans (r4 a (by omega)))
  have s2 := k_astr a2' sp3 (by omega) (i := 5) (by omega) (by omega)
  have o4 : x_up F3 (x + 59) (.inl (.object (x_cls 3), 6, .inr (.inr (.inr (.inr (va_up (va_up g1 5 (some p0)) 5 (some sp))))))) x = _ := (x_up_n (by omega)).trans o3
  have o5 : x_up (x_up F3 (x + 59) (.inl (.object (x_cls 3), 6, .inr (.inr (.inr (.inr (va_up (va_up g1 5 (some p0)) 5 (some sp)))))))) x (.inr (5, k_ob x sp 6 len)) x = _ := x_up_s
  have hsw : k_blk (x_up (x_up (x_up F3 (x + 59) (.inl (.object (x_cls 3), 6, .inr (.inr (.inr (.inr (va_up (va_up g1 5 (some p0)) 5 (some sp)))))))) x (.inr (5, k_ob x sp 6 len))) x (.inr (5, k_ob x p0 6 len))) x wz (fun i => q (if i < 6 then i + 1 else if i = 6 then 0 else i)) (fun i => St (if i < 6 then i + 1 else if i = 6 then 0 else i)) := by
    refine k_blk.perm (fun i => if i < 6 then i + 1 else if i = 6 then 0 else i) (a9.ext (fun i p a hi hp g1 g2 => ?_)) (fun i hi => ?_) (fun i j hi hj e => ?_)
    · have := (a9.1 i p hi hp).1
      exact (x_up_n (by omega)).trans ((x_up_n (by omega)).trans ((x_up_n (by omega)).trans (hF3 a (by omega) (by omega))))
    · show (if i < 6 then i + 1 else if i = 6 then 0 else i) < 9
      split
      · omega
      · split <;> omega
    · have e' : (if i < 6 then i + 1 else if i = 6 then 0 else i) = (if j < 6 then j + 1 else if j = 6 then 0 else j) := e
      split at e' <;> split at e' <;> first | omega | (split at e' <;> first | omega | (split at e' <;> omega))
  refine ⟨_, _, _, ?_, hc.objs (n' := 6) (sp' := p0) (len' := len) (g' := va_up (va_up g1 5 (some p0)) 5 (some sp)) (by omega) h2 (fun a y1 y2 _ => (x_up_n y1).trans ((x_up_n y1).trans ((x_up_n y2).trans (hF3 a y1 y2)))) x_up_s (by show q (if 0 < 6 then 0 + 1 else _) = _; rw [if_pos (by omega)]; exact hp0) ((x_up_n (by omega)).trans ((x_up_n (by omega)).trans x_up_s)) (fun i hi => ?_) (fun i hi => ?_) hsw (fun i hi => ?_), rfl, fun i hi => ?_, fun i hi => ⟨?_, ?_⟩, fun a y1 y2 => (x_up_n (by omega)).trans ((x_up_n (by omega)).trans ((x_up_n (by omega)).trans (hF3 a (by omega) (by omega))))⟩
  · simp only [F_X5_saveSpare, hc.cnt, hc.svd, k_alenr a3, Option.bind_some]
    rw [if_neg (nI_nlt (by omega) (by omega))]
    simp only [hc.cv, mob, Option.bind_some, k_geti o3 (k := 3) rfl, k_getr o3 (k := 2) rfl, k_alenr a2']
    rw [if_neg (nI_pos (by omega)), if_pos (nI_lt (by omega) (by omega))]
    simp only [k_aldr a2' (i := 5) (by omega) (by omega), k_vup_s, k_getr o3 (k := 1) rfl, s2, Option.bind_some, k_geti o4 (k := 3) rfl, k_add1, k_putn_ob o4, Option.elim_some, k_putf_ob o5]
  · show va_up (va_up g1 5 (some p0)) 5 (some sp) i = q (if i + 1 < 6 then i + 1 + 1 else if i + 1 = 6 then 0 else i + 1)
    by_cases z : i = 5
    · rw [z, k_vup_s, if_neg (by omega), if_pos rfl]; exact a1.symm
    · rw [k_vup_n z, k_vup_n z, if_pos (by omega), r3 i, if_pos (by omega)]; exact a4 (i + 1) (by omega)
  · show q (if i + 7 < 6 then _ else if i + 7 = 6 then 0 else i + 7) = _
    rw [if_neg (by omega), if_neg (by omega)]
  · show ∃ p, q (if i + 1 < 6 then i + 1 + 1 else if i + 1 = 6 then 0 else i + 1) = some p
    by_cases z : i = 5
    · rw [if_neg (by omega), if_pos (by omega)]; exact ⟨_, a1⟩
    · rw [if_pos (by omega)]; exact a10 (i + 1) (by omega)
  · show St (if i + 1 < 6 then i + 1 + 1 else if i + 1 = 6 then 0 else i + 1) = k_svl 6 St i
    unfold k_svl
    rw [if_neg (show ¬ 6 < 6 by omega)]
    by_cases z : i = 5
    · rw [if_neg (by omega), if_pos (by omega), if_neg (by omega)]
    · rw [if_pos (by omega), if_pos (by omega)]
  · show q (if i + 7 < 6 then _ else if i + 7 = 6 then 0 else i + 7) = _
    rw [if_neg (by omega), if_neg (by omega)]
  · show St (if i + 7 < 6 then _ else if i + 7 = 6 then 0 else i + 7) = _
    rw [if_neg (by omega), if_neg (by omega)]
theorem k_saveSpare {f : XM} {hs : Nat} (hN : 5000 ≤ N) (h : k_ci f x wz n q St S bf len) (hd : ∀ (a : Nat) (e : XE), f a = some e → a < hs) (hx : x + 70 ≤ hs ∧ wz ≤ hs) :
    ∃ (f' : XM) (hs' n' : Nat) (q' : Nat → Option Nat) (St' : Nat → KS), F_X5_saveSpare N (f, hs) x = some (f', hs') ∧ k_ci f' x wz n' q' St' S bf len ∧ k_svd x wz n q St f n' q' St' f' := by
  by_cases hn : n < 6
  · obtain ⟨f', hs', q', St', r1, r2, r3⟩ := k_save_lt (N := N) h hd hx hn
    exact ⟨f', hs', n + 1, q', St', r1, r2, r3⟩
  · have e : n = 6 := by have := h.1; omega
    subst e
    obtain ⟨f', q', St', r1, r2, r3⟩ := k_save_eq (N := N) (hs := hs) hN h
    exact ⟨f', hs, 6, q', St', r1, r2, r3⟩
end KSV

