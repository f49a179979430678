/-! Undo, slots, text, in the world. -/
def qv (A : KA) (f : XM) (hs : Nat) : XH ⊕ (Nat × XM) := match A with | .inl _ => .inl (f, hs) | .inr c => .inr (c, f)
/-- going back: what it answers, and the state behind it -/
def k_bk (K : Nat → Option KS) (a : Int32) : KA := if 0 ≤ a.toInt ∧ a.toInt ≤ 1 then (if (K (k_u a)).isSome then .inl 0 else .inr 1) else .inr 0
def k_kp (a : Int32) : KA := if 0 ≤ a.toInt ∧ a.toInt ≤ 1 then .inl 0 else .inr 0
section KWU
variable {N : Nat} {f : XM} {x wz c hs : Nat} {S : KS} {P : List KS} {K : Nat → Option KS} {T : List Int32}
theorem k_un_no (h : k_wd x wz c S [] K T f) : F_X5_undo N f x = some (.inr (1, f)) := by
  obtain ⟨q, St, bf, h1, h2, h3, h4, h5, h6, h7⟩ := h
  unfold F_X5_undo F_X5_latestSaved
  have hc : x_geti f 5 x 3 = some (nI 0) := h1.cnt
  simp only [h1.cv, hc, Option.bind_some]
  rw [if_pos (by decide)]
  rfl
theorem k_un_yes (hN : 50000 ≤ N) {s : KS} (h : k_wd x wz c S (P ++ [s]) K T f) : ∃ f', F_X5_undo N f x = some (.inl f') ∧ (∀ a, x + 70 ≤ a → a < wz → f' a = f a) ∧ k_wd x wz c s P K T f' := by
  obtain ⟨q, St, bf, r1, h2, h3, h4, h5, h6, h7⟩ := h
  have hl : (P ++ [s]).length = P.length + 1 := by rw [List.length_append]; rfl
  rw [hl] at r1 h2
  have hs : St (P.length + 1) = s := by
    have := h2 P.length (by omega)
    rw [List.getElem?_append_right (Nat.le_refl _), Nat.sub_self] at this
    exact (Option.some.inj this).symm
  generalize hk : P.length = k at *
  obtain ⟨h1, h2', ⟨sp, a1, a2⟩, ⟨g1, a3, a4⟩, ⟨g2, a5, a6⟩, a7, ⟨ra, rb, rc, rd, a8⟩, b1, b2, a9, a10⟩ := id r1
  obtain ⟨p, hp⟩ := a10 k (by omega)
  have hb := a9.1 (k + 1) p (by omega) hp
  obtain ⟨f1, s1, s2, s3⟩ := k_scopy (N := N) (by omega) b2 hb.2 (by omega)
  have hci1 : k_ci f1 x wz (k + 1) q St (St (k + 1)) bf T.length := r1.setnow (k_fr2.ofb s3 (Nat.le_refl _) (by omega)) s2 (b1.ext (fun a y1 y2 => s3 a (by omega)))
  have o1 : f1 x = _ := (s3 x (by omega)).trans a2
  have w1 := k_putn_ob (n' := k) o1
  have hci2 : k_ci (x_up f1 x (.inr (5, k_ob x sp k T.length))) x wz k q St (St (k + 1)) bf T.length := by
    refine hci1.objs (n' := k) (sp' := sp) (len' := T.length) (g' := g1) (by omega) h2' (fun a y1 y2 _ => x_up_n y1) x_up_s a1 ((x_up_n (by omega)).trans ((s3 _ (by omega)).trans a3)) a4 (fun i hi => rfl) (hci1.blk.ext (fun i p a e1 e2 e3 e4 => x_up_n (by have := (hci1.blk.1 i p e1 e2).1; omega))) (fun i hi => a10 i (by omega))
  have e2 : ∀ a, x + 70 ≤ a → a < wz → x_up f1 x (.inr (5, k_ob x sp k T.length)) a = f a := fun a y1 y2 => (x_up_n (by omega)).trans (s3 a (by omega))
  refine ⟨_, ?_, e2, q, St, bf, by rw [hk, ← hs]; exact hci2, fun i hi => ?_, h3, h4, h6 s (List.mem_append_right _ List.mem_cons_self), fun t ht => h6 t (List.mem_append_left _ ht), h7⟩
  · unfold F_X5_undo F_X5_latestSaved
    simp only [r1.cv, r1.cnt, Option.bind_some, nI_pred]
    rw [if_neg (nI_pos (by omega))]
    simp only [r1.svd, k_alenr a3, Option.bind_some]
    rw [if_pos (nI_lt (by omega) (by omega))]
    simp only [k_aldr a3 (i := k) (by omega) (by omega), a4 k (by omega), hp, Option.bind_some, Option.elim_some, r1.now, b2.cv, s1, hci1.cnt, nI_pred, w1]
  · have := h2 i (by omega)
    rw [List.getElem?_append_left hi] at this
    exact this
theorem k_gb (hN : 50000 ≤ N) (h : k_wd x wz c S P K T f) (hd : ∀ (a : Nat) (e : XE), f a = some e → a < hs) (hx : wz ≤ hs) (a : Int32) :
    ∃ (f' : XM) (hs' : Nat), F_X5_goBack N (f, hs) x a = some (qv (k_bk K a) f' hs') ∧ (∀ a, x + 70 ≤ a → a < wz → f' a = f a) ∧ k_wd x wz (c + 1) (k_pick (k_bk K a) ((K (k_u a)).getD S) S) (k_pick (k_bk K a) (k_sv P S) P) K T f' := by
  have hx70 := h.dom hd
  have hlen := h.len
  obtain ⟨q, St, bf, r1, h2, h3, h4, h5, h6, h7⟩ := h
  unfold k_bk
  by_cases g : 0 ≤ a.toInt ∧ a.toInt ≤ 1
  · obtain ⟨j, j1, rfl, j3⟩ := k_nn (x := a) (by omega)
    have hj : j < 2 := by omega
    rw [if_pos g, k_u_n j1]
    have hKj := h3 j hj
    cases z1 : q (j + 7) with
    | none =>
      rw [z1] at hKj
      rw [hKj]
      refine ⟨f, 0, ?_, fun _ _ _ => rfl, q, St, bf, r1, h2, h3, h4, h5.mono (by omega), fun s hs => (h6 s hs).mono (by omega), fun i s hi hs => (h7 i s hi hs).mono (by omega)⟩
      unfold F_X5_goBack
      rw [k_reqSlot, Option.bind_some, if_pos g]
      simp only [x_se, r1.cv, k_slotAt r1 hj, z1, Option.bind_some, Option.elim_none]
      rfl
    | some p =>
      rw [z1] at hKj
      rw [hKj]
      have hb := r1.blk.1 (j + 7) p (by omega) z1
      obtain ⟨sp, f1, a1, a2, a3, a4, a5, a6⟩ := k_ccopy (N := N) (by omega) r1 hd
      have hb1 := a4.blk.1 (j + 7) p (by omega) z1
      have hb1' : k_st f1 p (St (j + 7)) := by
        have : k_st f1 p (if j + 7 = 0 then S else St (j + 7)) := hb1.2
        rw [if_neg (by omega)] at this
        exact this
      obtain ⟨f2, s1, s2, s3⟩ := k_scopy (N := N) (by omega) a4.st hb1' (by omega)
      have hci2 := a4.setnow (k_fr2.ofb s3 (Nat.le_refl _) (by omega)) s2 (a4.gat.ext (fun a y1 y2 => s3 a (by omega)))
      obtain ⟨f3, hs', n', q', St', v1, v2, v3, v4, v5, v6⟩ := k_saveSpare (N := N) (by omega) hci2 (hs := hs) (fun a e he => by
        by_cases z : x + 1 ≤ a ∧ a < x + 1 + 29
        · omega
        · rw [s3 a (by omega)] at he
          exact a6 a e he) ⟨hx70, hx⟩
      have hll := k_sv_len P S hlen
      refine ⟨f3, hs', ?_, fun a y1 y2 => (v6 a y1 y2).trans ((s3 a (by omega)).trans (a5 a y1 y2)), q', St', bf, ?_, fun i hi => ?_, fun i hi => ?_, h4, (h7 j _ hj hKj).mono (by omega), fun s hs => ?_, fun i s hi hs => (h7 i s hi hs).mono (by omega)⟩
      · unfold F_X5_goBack
        rw [k_reqSlot, Option.bind_some, if_pos g]
        simp only [x_se, r1.cv, k_slotAt r1 hj, z1, Option.bind_some, Option.elim_some, a1, r1.now, a2, a3, a4.now, a4.st.cv, s1, hci2.cv, v1]
        rfl
      · show k_ci f3 x wz (k_sv P S).length q' St' (St (j + 7)) bf T.length
        rw [hll, ← v3]; exact v2
      · have hi' : i < (k_sv P S).length := hi
        rw [hll] at hi'
        show (k_sv P S)[i]? = _
        rw [k_sv_at P S St hlen h2 i hi', v4 i (by rw [v3]; exact hi')]
      · rw [(v5 i hi).1, (v5 i hi).2]
        refine (h3 i hi).trans ?_
        show _ = Option.map (fun _ => if i + 7 = 0 then S else St (i + 7)) _
        rw [if_neg (by omega)]
      · rcases k_sv_mem (show s ∈ k_sv P S from hs) with y | y
        · exact (h6 s y).mono (by omega)
        · rw [y]; exact h5.mono (by omega)
  · rw [if_neg g]
    refine ⟨f, 0, ?_, fun _ _ _ => rfl, q, St, bf, r1, h2, h3, h4, h5.mono (by omega), fun s hs => (h6 s hs).mono (by omega), fun i s hi hs => (h7 i s hi hs).mono (by omega)⟩
    unfold F_X5_goBack
    rw [k_reqSlot, Option.bind_some, if_neg g]
    rfl
theorem k_keep (hN : 50000 ≤ N) (h : k_wd x wz c S P K T f) (hd : ∀ (a : Nat) (e : XE), f a = some e → a < hs) (hx : wz ≤ hs) (a : Int32) :
    ∃ (f' : XM) (hs' : Nat), F_X5_keep N (f, hs) x a = some (qv (k_kp a) f' hs') ∧ (∀ a, x + 70 ≤ a → a < wz → f' a = f a) ∧ k_wd x wz c S P (k_pick (k_kp a) (fun i => if i = k_u a then some S else K i) K) T f' := by
  have hx70 := h.dom hd
  have hlen := h.len
  obtain ⟨q, St, bf, r1, h2, h3, h4, h5, h6, h7⟩ := h
  unfold k_kp
  by_cases g : 0 ≤ a.toInt ∧ a.toInt ≤ 1
  · obtain ⟨j, j1, rfl, j3⟩ := k_nn (x := a) (by omega)
    have hj : j < 2 := by omega
    rw [if_pos g, k_u_n j1]
    have key : ∃ (f1 : XM) (hs1 : Nat) (q' : Nat → Option Nat) (p : Nat), F_X5_keep N (f, hs) x (nI j) = some (.inl (f1, hs1)) ∧ q' (j + 7) = some p ∧ (∀ i, i ≠ j + 7 → q' i = q i) ∧ k_ci f1 x wz P.length q' (fun i => if i = j + 7 then S else St i) S bf T.length ∧ ∀ a, x + 70 ≤ a → a < wz → f1 a = f a := by
      cases z1 : q (j + 7) with
      | some p =>
        have hb := r1.blk.1 (j + 7) p (by omega) z1
        obtain ⟨f1, a1, a2, a3⟩ := k_scopy (N := N) (by omega) hb.2 r1.st (by omega)
        refine ⟨f1, hs, q, p, ?_, z1, fun _ _ => rfl, r1.setblk (by omega) z1 a3 a2, fun a y1 y2 => a3 a (by omega)⟩
        unfold F_X5_keep
        rw [k_reqSlot, Option.bind_some, if_pos g]
        simp only [x_se, r1.cv, k_slotAt r1 hj, z1, Option.bind_some, Option.elim_some, r1.now, hb.2.cv, a1]
      | none =>
        obtain ⟨u1, u2, ⟨sp, a1, a2⟩, ⟨g1, a3, a4⟩, ⟨g2, a5, a6⟩, a7, ⟨ra, rb, rc, rd, a8⟩, b1, b2, a9, a10⟩ := id r1
        have hdm : ∀ i p, i < 9 → q i = some p → p + 29 ≤ hs := fun i p hi hp => k_st_dom (a9.1 i p hi hp).2 hd
        obtain ⟨f1, t1, t2, t3⟩ := k_sinit (N := N) (f := f) (b := hs)
        have o5 : f1 (x + 60) = _ := (t3 _ (by omega)).trans a5
        have w1 := k_astr o5 t2.1 (by omega) (i := j) hj (by omega)
        have hst2 : k_st (x_up f1 (x + 60) (.inl (.object (x_cls 3), 2, .inr (.inr (.inr (.inr (va_up g2 j (some hs)))))))) hs k_S0 := t2.ext (fun a y1 y2 => x_up_n (by omega))
        have hfx : ∀ a, a < hs → a ≠ x + 60 → x_up f1 (x + 60) (.inl (.object (x_cls 3), 2, .inr (.inr (.inr (.inr (va_up g2 j (some hs))))))) a = f a := fun a y1 y2 => (x_up_n y2).trans (t3 a (by omega))
        have hnow : k_st (x_up f1 (x + 60) (.inl (.object (x_cls 3), 2, .inr (.inr (.inr (.inr (va_up g2 j (some hs)))))))) (x + 1) S := b2.ext (fun a y1 y2 => hfx a (by omega) (by omega))
        have h60 : x_up f1 (x + 60) (.inl (.object (x_cls 3), 2, .inr (.inr (.inr (.inr (va_up g2 j (some hs))))))) (x + 60) = _ := x_up_s
        have hx0 : x_up f1 (x + 60) (.inl (.object (x_cls 3), 2, .inr (.inr (.inr (.inr (va_up g2 j (some hs))))))) x = _ := (hfx x (by omega) (by omega)).trans a2
        have hf1x : f1 x = _ := (t3 x (by omega)).trans a2
        generalize x_up f1 (x + 60) (.inl (.object (x_cls 3), 2, .inr (.inr (.inr (.inr (va_up g2 j (some hs))))))) = f2 at *
        obtain ⟨f3, v1, v2, v3⟩ := k_scopy (N := N) (by omega) hst2 hnow (by omega)
        have hf3 : ∀ a, a < hs → a ≠ x + 60 → f3 a = f a := fun a y1 y2 => (v3 a (by omega)).trans (hfx a y1 y2)
        refine ⟨f3, hs + 29, fun i => if i = j + 7 then some hs else q i, hs, ?_, if_pos rfl, fun i hi => if_neg hi, ⟨u1, u2, ⟨sp, (if_neg (by omega)).trans a1, (hf3 _ (by omega) (by omega)).trans a2⟩, ⟨g1, (hf3 _ (by omega) (by omega)).trans a3, fun i hi => (a4 i hi).trans (if_neg (by omega)).symm⟩, ⟨_, (v3 _ (by omega)).trans h60, fun i hi => ?_⟩, (hf3 _ (by omega) (by omega)).trans a7, ⟨ra, rb, rc, rd, (hf3 _ (by omega) (by omega)).trans a8⟩, b1.ext (fun a y1 y2 => hf3 a (by omega) (by omega)), b2.ext (fun a y1 y2 => hf3 a (by omega) (by omega)), ⟨fun i p hi hp => ?_, fun i i' p p' hii hi hi' hp hp' => ?_⟩, fun i hi => ?_⟩, fun a y1 y2 => hf3 a (by omega) (by omega)⟩
        · unfold F_X5_keep
          rw [k_reqSlot, Option.bind_some, if_pos g]
          simp only [x_se, r1.cv, k_slotAt r1 hj, z1, Option.bind_some, Option.elim_none, x_new, t1]
          have fs : F_X5_fillSlot N f1 x (nI j) hs = some f2 := by
            unfold F_X5_fillSlot
            rw [if_neg (nI_pos (by omega))]
            simp only [k_getr hf1x (k := 4) rfl, Option.bind_some, k_alenr o5]
            rw [if_neg (nI_ge hj (by omega))]
            simp only [w1, Option.bind_some]
          simp only [k_cv hf1x, fs, Option.bind_some, k_getr hx0 (k := 0) rfl, hst2.cv, v1]
        · show va_up g2 j (some hs) i = if i + 7 = j + 7 then some hs else q (i + 7)
          by_cases z : i = j
          · rw [z, k_vup_s, if_pos rfl]
          · rw [k_vup_n z, if_neg (by omega)]; exact a6 i hi
        · by_cases z : i = j + 7
          · have hp' : (if i = j + 7 then some hs else q i) = some p := hp
            rw [if_pos z] at hp'
            cases hp'
            exact ⟨Or.inr ⟨hx70, hx⟩, by show k_st f3 hs (if i = j + 7 then S else St i); rw [if_pos z]; exact v2⟩
          · have hp' : (if i = j + 7 then some hs else q i) = some p := hp
            rw [if_neg z] at hp'
            have := hdm i p hi hp'
            have hq := a9.1 i p hi hp'
            refine ⟨hq.1, ?_⟩
            show k_st f3 p (if i = j + 7 then S else St i)
            rw [if_neg z]
            exact hq.2.ext (fun a y1 y2 => hf3 a (by omega) (by omega))
        · have e1 : (if i = j + 7 then some hs else q i) = some p := hp
          have e2 : (if i' = j + 7 then some hs else q i') = some p' := hp'
          by_cases z : i = j + 7
          · rw [if_pos z] at e1
            cases e1
            rw [if_neg (by omega)] at e2
            exact Or.inr (hdm i' p' hi' e2)
          · rw [if_neg z] at e1
            by_cases z' : i' = j + 7
            · rw [if_pos z'] at e2
              cases e2
              exact Or.inl (hdm i p hi e1)
            · rw [if_neg z'] at e2
              exact a9.2 i i' p p' hii hi hi' e1 e2
        · obtain ⟨p, hp⟩ := a10 i hi
          exact ⟨p, (if_neg (by have := u1; omega)).trans hp⟩
    obtain ⟨f1, hs1, q', p, lead, k2, k3, k4, k5⟩ := key
    refine ⟨f1, hs1, lead, k5, q', _, bf, k4, fun i hi => ?_, fun i hi => ?_, h4, h5, h6, fun i s hi hs => ?_⟩
    · show _ = some (if i + 1 = j + 7 then S else St (i + 1))
      rw [if_neg (by omega)]; exact h2 i hi
    · show (if i = j then some S else K i) = Option.map (fun _ => if i + 7 = j + 7 then S else St (i + 7)) _
      by_cases z : i = j
      · rw [if_pos z, if_pos (by omega), z, k2]; rfl
      · rw [if_neg z, if_neg (by omega), k3 _ (by omega)]; exact h3 i hi
    · have hs' : (if i = j then some S else K i) = some s := hs
      by_cases z : i = j
      · rw [if_pos z] at hs'
        cases hs'
        exact h5
      · rw [if_neg z] at hs'
        exact h7 i s hi hs'
  · rw [if_neg g]
    refine ⟨f, 0, ?_, fun _ _ _ => rfl, q, St, bf, r1, h2, h3, h4, h5, h6, h7⟩
    unfold F_X5_keep
    rw [k_reqSlot, Option.bind_some, if_neg g]
    rfl
/-- appending: what it answers -/
def k_ap (T : List Int32) (a : Int32) : KA := if 33 ≤ a.toInt ∧ a.toInt ≤ 126 then (if T.length < 60 then .inl (nI (T.length + 1)) else .inr 1) else .inr 0
theorem k_app (h : k_wd x wz c S P K T f) (a : Int32) : ∃ f', F_X5_append N f x a = some (qm (k_ap T a) f') ∧ (∀ a, x + 70 ≤ a → a < wz → f' a = f a) ∧ k_wd x wz c S P K (k_pick (k_ap T a) (T ++ [a]) T) f' := by
  obtain ⟨q, St, bf, r1, h2, h3, h4, h5, h6, h7⟩ := h
  have hl60 := r1.2.1
  have e33 : (33 : Int32).toInt = 33 := rfl
  have e126 : (126 : Int32).toInt = 126 := rfl
  obtain ⟨u1, u2, ⟨sp, a1, a2⟩, ⟨g1, a3, a4⟩, ⟨g2, a5, a6⟩, a7, ⟨ra, rb, rc, rd, a8⟩, b1, b2, a9, a10⟩ := id r1
  unfold F_X5_append k_ap
  by_cases g : 33 ≤ a.toInt ∧ a.toInt ≤ 126
  · rw [if_pos g, if_neg (show ¬ a < 33 by rw [k_i_lt, e33]; omega), if_pos (show a ≤ 126 by rw [k_i_le, e126]; omega)]
    simp only [r1.lng, Option.bind_some]
    rw [if_neg (nI_pos (by omega))]
    simp only [r1.buf, Option.bind_some, k_alen a7]
    by_cases gl : T.length < 60
    · obtain ⟨f1, f2, w1, w2, w3, w4, w5, w6⟩ := r1.app gl a
      rw [if_pos gl, if_pos (nI_lt gl (by omega))]
      simp only [w1, Option.bind_some, w2, k_add1, w3, w5]
      refine ⟨f2, rfl, w6, q, St, upd bf T.length a, ?_, h2, h3, fun i hi => ?_, h5, h6, h7⟩
      · show k_ci f2 x wz P.length q St S (upd bf T.length a) (T ++ [a]).length
        rw [List.length_append]; exact w4
      · have hi' : i < (T ++ [a]).length := hi
        rw [List.length_append] at hi'
        have hi'' : i < T.length + 1 := hi'
        show (T ++ [a])[i]? = _
        by_cases z : i = T.length
        · rw [z, k_upd_s, List.getElem?_append_right (Nat.le_refl _), Nat.sub_self]; rfl
        · rw [k_upd_n z, List.getElem?_append_left (by omega)]; exact h4 i (by omega)
    · rw [if_neg gl, if_neg (nI_nlt (by omega) (by omega))]
      exact ⟨f, rfl, fun _ _ _ => rfl, q, St, bf, r1, h2, h3, h4, h5, h6, h7⟩
  · rw [if_neg g]
    by_cases gl : a < 33
    · rw [if_pos gl]
      exact ⟨f, rfl, fun _ _ _ => rfl, q, St, bf, r1, h2, h3, h4, h5, h6, h7⟩
    · rw [if_neg gl, if_neg (show ¬ a ≤ 126 by rw [k_i_lt, e33] at gl; rw [k_i_le, e126]; omega)]
      exact ⟨f, rfl, fun _ _ _ => rfl, q, St, bf, r1, h2, h3, h4, h5, h6, h7⟩
theorem k_clrb (h : k_wd x wz c S P K T f) : ∃ f', F_X5_clearBuffer N f x = some (nI T.length, f') ∧ (∀ a, x + 70 ≤ a → a < wz → f' a = f a) ∧ k_wd x wz c S P K [] f' := by
  obtain ⟨q, St, bf, r1, h2, h3, h4, h5, h6, h7⟩ := h
  obtain ⟨f1, w1, w2, w3⟩ := r1.clr
  refine ⟨f1, ?_, fun a y1 y2 => w3 a (by omega), q, St, bf, w2, h2, h3, fun i hi => absurd hi (Nat.not_lt_zero _), h5, h6, h7⟩
  simp only [F_X5_clearBuffer, r1.lng, w1, Option.bind_some]
/-- the text as a row of numbers -/
def k_tx (T : List Int32) : Nat → Int32 := fun i => T.getD i 0
theorem k_rs_cg {bf bg : Nat → Int32} : ∀ {n : Nat}, (∀ i, i < n → bf i = bg i) → k_rs bf n = k_rs bg n
  | 0, _ => rfl
  | n + 1, h => by rw [k_rs, k_rs, k_rs_cg (fun i hi => h i (by omega)), h n (by omega)]
theorem k_er.cg {bf bg : Nat → Int32} {len e : Nat} (h : k_er bf len e) (he : ∀ i, i < len → bf i = bg i) : k_er bg len e := by
  obtain ⟨h1, h2, h3⟩ := h
  refine ⟨h1, by rw [← k_rs_cg (fun i hi => he i (by omega))]; exact h2, fun z => by rw [← k_rs_cg (fun i hi => he i (by omega))]; exact h3 z⟩
theorem k_ferr (hN : 50000 ≤ N) (h : k_wd x wz c S P K T f) : ∃ (e : Nat) (f' : XM), F_X5_firstError N f x = some (nI e, f') ∧ k_er (k_tx T) T.length e ∧ (∀ a, x + 70 ≤ a → a < wz → f' a = f a) ∧ k_wd x wz c S P K T f' := by
  obtain ⟨q, St, bf, r1, h2, h3, h4, h5, h6, h7⟩ := h
  obtain ⟨w, hw⟩ := r1.rq
  obtain ⟨e, f1, a1, a2, a3, a4⟩ := k_errorIn (N := N) (b := x + 61) (p := x + 62) (len := T.length) (by omega) (by omega) r1.2.1 hw r1.2.2.2.2.2.1
  refine ⟨e, f1, ?_, a2.cg (fun i hi => ?_), fun a y1 y2 => a4 a (by omega), q, St, bf, r1.rd (fun a ha => a4 a (by omega)) a3, h2, h3, h4, h5, h6, h7⟩
  · simp only [F_X5_firstError, r1.rdr, r1.buf, r1.lng, Option.bind_some, hw.cv, a1]
  · unfold k_tx
    rw [List.getD_eq_getElem?_getD, h4 i hi]
    rfl
end KWU
