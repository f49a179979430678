/-! The reference: an entry written. -/
section KMI
variable {N : Nat} {f : XM} {m c : Nat} {V : KM} {S : KS}
theorem k_ap_tail (h : k_mo f m V) {lc n : Nat} (e7 : V.1 1 7 = nI n) (e8 : V.1 1 8 = nI lc) (hn : n < 160) (hl : lc < 1200) (k v b0 : Int32) : ∃ (f1 f2 f3 : XM) (V1 V2 V3 : KM), x_ast f (m + 1) (nI (1496 + lc)) b0 = some f1 ∧ k_mo f1 m V1 ∧ x_ald f1 (m + 1) 8 = some (nI lc) ∧ F_X6_adds N f1 m k v (nI lc) 0 = some f2 ∧ k_mo f2 m V2 ∧ x_ald f2 (m + 1) 8 = some (nI lc) ∧ x_ast f2 (m + 1) 8 (nI (lc + 1)) = some f3 ∧ k_mo f3 m V3 ∧ k_mx V V3 [1] [] ∧ k_fr f f3 m (m + 10) ∧ ∀ a, V3.1 1 a = if a = 8 then nI (lc + 1) else k_Ga (fun a => if a = 1496 + lc then b0 else V.1 1 a) n k v (nI lc) 0 a := by
  obtain ⟨f1, a1, a2, a3⟩ := h.st (a := 1) (i := 1496 + lc) (by omega) (by omega) (by show _ < 6696; omega) b0
  have hG : ∀ a, (k_sA V 1 (1496 + lc) b0).1 1 a = if a = 1496 + lc then b0 else V.1 1 a := fun a => by
    rw [k_sA_s]
    by_cases z : a = 1496 + lc
    · rw [z, k_upd_s, if_pos rfl]
    · rw [k_upd_n z, if_neg z]
  obtain ⟨f2, V2, b1, b2, b3, b4, b5⟩ := k_madds (N := N) a2 (n := n) (by rw [hG, if_neg (by omega)]; exact e7) hn k v (nI lc) 0
  obtain ⟨f3, c1, c2, c3⟩ := b2.st (a := 1) (i := 8) (by omega) (by omega) (by show _ < 6696; omega) (nI (lc + 1))
  have x8 : x_ald f1 (m + 1) (nI 8) = some ((k_sA V 1 (1496 + lc) b0).1 1 8) := k_ld1 a2 (i := 8) (by omega)
  rw [hG, if_neg (by omega), e8] at x8
  have y8 : x_ald f2 (m + 1) (nI 8) = some (V2.1 1 8) := k_ld1 b2 (i := 8) (by omega)
  have hGa : k_Ga ((k_sA V 1 (1496 + lc) b0).1 1) n k v (nI lc) 0 = k_Ga (fun a => if a = 1496 + lc then b0 else V.1 1 a) n k v (nI lc) 0 := by
    have : (k_sA V 1 (1496 + lc) b0).1 1 = fun a => if a = 1496 + lc then b0 else V.1 1 a := funext hG
    rw [this]
  have z8 : V2.1 1 8 = nI lc := by
    rw [b5, hGa]; unfold k_Ga
    rw [if_neg (by omega), if_neg (by omega), if_neg (by omega), if_neg (by omega), if_neg (by omega)]
    show (if 8 = 1496 + lc then b0 else V.1 1 8) = _
    rw [if_neg (by omega), e8]
  rw [z8] at y8
  refine ⟨f1, f2, f3, _, V2, _, a1, a2, x8, b1, b2, y8, c1, c2, ((k_sA_mx (by simp)).tr b3).tr (k_sA_mx (by simp)), (a3.tr b4).tr c3, fun a => ?_⟩
  rw [k_sA_s]
  by_cases z : a = 8
  · rw [z, k_upd_s, if_pos rfl]
  · rw [k_upd_n z, if_neg z, b5, hGa]
theorem k_ap_ms {G G' : Nat → Int32} {k v : Int32} (hs : k_ms G S c) (hc : c + 1 ≤ 1200) (hl : S.2.2.1.2.2.1 < 512) (hk : 0 ≤ k.toInt ∧ k.toInt < 10000) (hv : v ≠ -1) (hpl : ¬ k_pl S.2.2.1.1.1 S.2.2.1.1.2.1 k < S.2.2.1.1.1) (hn : S.2.2.1.1.1 < 160)
    (hb : ∀ i, i < S.2.2.1.2.2.1 → 0 < S.2.2.1.2.2.1 → (S.2.2.1.2.2.2.1 i).toInt < k.toInt) (hx : ∀ i, i < S.2.2.1.1.1 → (S.2.2.1.1.2.1 i).toInt < k.toInt)
    (h2 : ∀ a, a ≠ 2 → a ≠ 3 → G' a = if a = 8 then nI (S.2.2.1.2.2.1 + 1) else k_Ga (fun a => if a = 1496 + S.2.2.1.2.2.1 then (if S.2.2.1.2.2.1 = 0 then 0 else k) else G a) S.2.2.1.1.1 k v (nI S.2.2.1.2.2.1) 0 a)
    (h23 : if S.2.2.1.2.2.2.2.1 = 0 then G' 2 = G 0 ∧ G' 3 = G 1 else G' 2 = G 2 ∧ G' 3 = G 3) : k_ms G' (k_stt S (k_tins (k_tleaf (k_tfx S) k) k v 0)) (c + 1) := by
  have hw := hs.1
  have h512 := hs.wt.2.2.2.1
  have hil0 := hs.2.2.2.2.2.1
  have h23' := hs.2.2.2.2.2.2.1
  have hcl := hs.2.2.2.2.2.2.2.2.1
  have hct := hs.2.2.2.2.2.2.2.2.2.2
  have a01 := hs.2.2.1
  obtain ⟨t1, t2, t3, t4, t5⟩ := k_tfx_wt hw
  have hfx : (k_tfx S).2.2.2.1 = S.2.2.1.2.2.2.1 := by
    unfold k_tfx
    split <;> rfl
  have hme : k_me G (k_tfx S) c := by
    unfold k_tfx
    split
    · exact hs.me
    · exact hs.me
  have hg23 : (k_tfx S).2.2.2.2.1 = G' 2 ∧ (k_tfx S).2.2.2.2.2 = G' 3 := by
    unfold k_tfx
    by_cases z : S.2.2.1.2.2.2.2.1 = 0
    · rw [if_pos z] at h23 ⊢
      exact ⟨by rw [h23.1]; exact a01.1.symm, by rw [h23.2]; exact a01.2.1.symm⟩
    · rw [if_neg z] at h23 ⊢
      obtain ⟨y1, y2⟩ := h23' z
      exact ⟨by rw [h23.1, y1], by rw [h23.2, y2]⟩
  rw [← t4] at hpl hn hx h2
  rw [← t5] at hl hb h2
  rw [← hfx] at hb
  have hct' : k_told S + (k_tfx S).1.1 ≤ c := by rw [t4]; exact hct
  have hcl' : (k_tfx S).2.2.1 ≤ c := by rw [t5]; exact hcl
  have hsb : ∀ l, l < (k_tfx S).2.2.1 → G (1496 + l) = (k_tfx S).2.2.2.1 l := fun l hl' => by rw [hfx]; exact hs.2.2.2.2.1 l (by rw [← t5]; exact hl')
  generalize k_tfx S = T at *
  have hll : k_lf (k_tleaf T k) k = T.2.2.1 + 1 := k_lf_app hb hk.1
  have hG : ∀ a, 856 ≤ a → a < 856 + 4 * T.1.1 → G' a = G a := fun a x1 x2 => by
    rw [h2 a (by omega) (by omega), if_neg (by omega)]; unfold k_Ga
    rw [if_neg (by omega), if_neg (by omega), if_neg (by omega), if_neg (by omega), if_neg (by omega)]
    exact if_neg (by omega)
  have hil : T.2.2.2.2.1 ≠ 0 := by
    obtain ⟨x1, x2, x3⟩ := t2.e (by omega)
    rw [x1]; exact nI_ne0 (by omega) (by omega)
  have hGn : ∀ w, w < 4 → G' (856 + 4 * T.1.1 + w) = if w = 0 then k else if w = 1 then v else if w = 2 then nI T.2.2.1 else 0 := fun w hw4 => by
    rw [h2 _ (by omega) (by omega), if_neg (by omega)]; unfold k_Ga
    rcases (show w = 0 ∨ w = 1 ∨ w = 2 ∨ w = 3 by omega) with rfl | rfl | rfl | rfl
    · rw [if_pos (by omega), if_pos rfl]
    · rw [if_neg (by omega), if_pos (by omega), if_neg (by omega), if_pos rfl]
    · rw [if_neg (by omega), if_neg (by omega), if_pos (by omega), if_neg (by omega), if_neg (by omega), if_pos rfl]
    · rw [if_neg (by omega), if_neg (by omega), if_neg (by omega), if_pos (by omega), if_neg (by omega), if_neg (by omega), if_neg (by omega)]
  refine hs.tree (T := k_tins (k_tleaf T k) k v 0) (k_wt_app t1 hk hpl hn hl hv ⟨t2, t3⟩ hb) (by omega) hc (fun a x1 x2 x3 x4 x5 => ?_) ?_ ?_ (fun l hl' => ?_) ⟨fun e => absurd e hil, fun e => absurd e.1 (Nat.succ_ne_zero _)⟩ (fun _ => ⟨hg23.1.symm, hg23.2.symm⟩) ?_ (show T.2.2.1 + 1 ≤ c + 1 by omega) (show k_told S + (T.1.1 + 1) ≤ c + 1 by omega)
  · rw [h2 a x2 x3, if_neg x5]; unfold k_Ga
    rw [if_neg (by omega), if_neg (by omega), if_neg (by omega), if_neg (by omega), if_neg x4]
    exact if_neg (by omega)
  · rw [h2 7 (by omega) (by omega), if_neg (by omega)]; unfold k_Ga
    rw [if_neg (by omega), if_neg (by omega), if_neg (by omega), if_neg (by omega), if_pos rfl]
    rfl
  · rw [h2 8 (by omega) (by omega), if_pos rfl]
    rfl
  · have hl2 : l < T.2.2.1 + 1 := hl'
    rw [h2 _ (by omega) (by omega), if_neg (by omega)]; unfold k_Ga
    rw [if_neg (by omega), if_neg (by omega), if_neg (by omega), if_neg (by omega), if_neg (by omega)]
    show (if 1496 + l = 1496 + T.2.2.1 then _ else _) = upd T.2.2.2.1 T.2.2.1 _ l
    by_cases z : l = T.2.2.1
    · rw [z, if_pos rfl, k_upd_s]
    · rw [if_neg (by omega), k_upd_n z]
      exact hsb l (by omega)
  · have hne : T.1.1 ≠ 0 → 0 < T.2.2.1 := fun z => by
      have := t1.2.2.2.2.1
      omega
    have hm := k_me_ins (G' := G') (c' := c + 1) (k := k) (v := v) (w := 0) (T := k_tleaf T k) (c := c) ?_ (k_me_leaf hme (fun i hi => k_lf_app' (hne (by omega)) (hx i hi))) (by omega) (Nat.zero_le _) hc hk hpl (fun j hj => ?_) ?_ ?_ ?_ ?_ (fun z => absurd rfl z)
    · exact hm
    · obtain ⟨y1, y2, y3, y4, y5, y6, y7, y8, y9⟩ := k_wt_app (v := v) t1 hk hpl hn hl hv ⟨t2, t3⟩ hb
      obtain ⟨w1, w2, w3, w4, w5, w6, w7, w8, w9⟩ := t1
      exact ⟨w1, y2, w3, y4, fun z => absurd z (Nat.succ_ne_zero _), y6, w7, w8, y9⟩
    · have hj' : j < T.1.1 := hj
      unfold k_eK k_eV k_eL k_eO
      exact ⟨hG _ (by omega) (by omega), hG _ (by omega) (by omega), hG _ (by omega) (by omega), hG _ (by omega) (by omega)⟩
    · exact hGn 0 (by omega)
    · have := hGn 1 (by omega)
      rw [show 856 + 4 * T.1.1 + 1 = 857 + 4 * T.1.1 by omega] at this
      exact this
    · have := hGn 2 (by omega)
      rw [show 856 + 4 * T.1.1 + 2 = 858 + 4 * T.1.1 by omega] at this
      rw [hll]
      exact this
    · have := hGn 3 (by omega)
      rw [show 856 + 4 * T.1.1 + 3 = 859 + 4 * T.1.1 by omega] at this
      exact this
end KMI
