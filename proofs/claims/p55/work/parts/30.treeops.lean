/-! The tree: what changes it. -/
def k_tins (T : KT) (k v p : Int32) : KT := ((T.1.1 + 1, k_ins (k_rk T.1.1 T.1.2.1 k) k T.1.2.1, k_ins (k_rk T.1.1 T.1.2.1 k) v T.1.2.2), k_ins (k_rk T.1.1 T.1.2.1 k) p T.2.1, T.2.2)
def k_tleaf (T : KT) (k : Int32) : KT := (T.1, T.2.1, T.2.2.1 + 1, upd T.2.2.2.1 T.2.2.1 (if T.2.2.1 = 0 then 0 else k), T.2.2.2.2)
def k_tset (T : KT) (k v : Int32) : KT := ((T.1.1, T.1.2.1, upd T.1.2.2 (k_pl T.1.1 T.1.2.1 k) v), T.2)
def k_twr (T : KT) (k v : Int32) : Int32 × KT :=
  if k_pl T.1.1 T.1.2.1 k < T.1.1 then (0, k_tset T k v)
  else if 160 ≤ T.1.1 then (-1, T)
  else if T.2.2.1 = 0 then (3, k_tins (k_tleaf T k) k v 0)
  else if k_own T (k_lf T k - 1) < k_u T.2.2.2.2.1 then (1, k_tins T k v 0)
  else if k_lf T k = T.2.2.1 ∧ (T.1.2.1 (T.1.1 - 1)).toInt < k.toInt then (3, k_tins (k_tleaf T k) k v 0)
  else (2, k_tins T k v (nI (k_ovf T (k_lf T k - 1) + 1)))
/-- places behind an entry of an overflow leaf that goes -/
def k_tup (T : KT) (k : Int32) : Nat → Int32 := fun i => if 0 < T.2.1 (k_pl T.1.1 T.1.2.1 k) ∧ k_inl T (k_lf T k - 1) (T.1.2.1 i) = true ∧ T.2.1 (k_pl T.1.1 T.1.2.1 k) < T.2.1 i then T.2.1 i - 1 else T.2.1 i
def k_tdel (T : KT) (k : Int32) : KT := ((T.1.1 - 1, k_rem (k_pl T.1.1 T.1.2.1 k) T.1.2.1, k_rem (k_pl T.1.1 T.1.2.1 k) T.1.2.2), k_rem (k_pl T.1.1 T.1.2.1 k) (k_tup T k), T.2.2)
section KTO
variable {wz : Nat}
variable {N : Nat} {f : XM} {b : Nat} {T : KT}
theorem k_tree.setrow {f' : XM} {R : KR} (h : k_tree f b T) (hf : k_fr f f' (b + 1) (b + 4)) (hr : k_row f' (b + 1) 160 R) (hn : R.1 ≤ T.1.1) : k_tree f' b (R, T.2) := by
  obtain ⟨h1, h2, ⟨gp, h3, h4⟩, ⟨gb, h5, h6⟩, h7⟩ := h
  exact ⟨(hf _ (by omega)).trans h1, hr, ⟨gp, (hf _ (by omega)).trans h3, fun i hi => h4 i (Nat.lt_of_lt_of_le hi hn)⟩, ⟨gb, (hf _ (by omega)).trans h5, h6⟩, h7⟩
theorem k_addLeaf (h : k_tree f b T) (hl : T.2.2.1 < 512) (k : Int32) : ∃ f', F_X4_addLeaf N f b k = some f' ∧ k_tree f' b (k_tleaf T k) ∧ k_fr f f' b (b + 6) := by
  have a1 := h.l
  have a2 := h.bo
  have a3 := h.bl
  obtain ⟨h1, h2, ⟨gp, h3, h4⟩, ⟨gb, h5, h6⟩, h7⟩ := h
  have s1 : ∀ v, x_ast f (b + 5) (nI T.2.2.1) v = some (x_up f (b + 5) (.inl (.int, 512, .inl (upd gb T.2.2.1 v)))) := fun v => k_ast h5 hl (by omega)
  have e1 : ∀ v, x_up f (b + 5) (.inl (.int, 512, .inl (upd gb T.2.2.1 v))) b = _ := fun v => (x_up_n (by omega)).trans h1
  have key : ∀ v, (v = if T.2.2.1 = 0 then 0 else k) → k_tree (x_up (x_up f (b + 5) (.inl (.int, 512, .inl (upd gb T.2.2.1 v)))) b (.inr (4, [.ref (b + 1), .ref (b + 4), .ref (b + 5), .int (nI (T.2.2.1 + 1)), .int T.2.2.2.2.1, .int T.2.2.2.2.2]))) b (k_tleaf T k) := by
    intro v hv
    subst hv
    refine ⟨x_up_s, h2.ext (fun q g1 g2 => (x_up_n (by omega)).trans (x_up_n (by omega))), ⟨gp, (x_up_n (by omega)).trans ((x_up_n (by omega)).trans h3), h4⟩, ⟨_, (x_up_n (by omega)).trans x_up_s, fun i hi => ?_⟩, hl⟩
    have hi' : i < T.2.2.1 + 1 := hi
    show upd gb T.2.2.1 _ i = upd T.2.2.2.1 T.2.2.1 _ i
    by_cases z : i = T.2.2.1
    · rw [z, k_upd_s, k_upd_s]
    · rw [k_upd_n z, k_upd_n z, h6 i (by omega)]
  have fr : ∀ v e, k_fr f (x_up (x_up f (b + 5) (.inl (.int, 512, .inl (upd gb T.2.2.1 v)))) b e) b (b + 6) := fun v e => (k_fr.up (by omega) (by omega)).upd (by omega) (by omega)
  by_cases z : T.2.2.1 = 0
  · refine ⟨_, ?_, key 0 (by rw [if_pos z]), fr _ _⟩
    simp only [F_X4_addLeaf, a1, a2, a3, Option.bind_some]
    rw [if_neg (nI_pos (by omega)), if_neg (nI_ge hl (by omega)), if_pos (by rw [z]; rfl)]
    simp only [s1, k_geti (e1 0) (k := 3) rfl, k_puti (e1 0) (k := 3) (by simp), Option.bind_some, k_add1, List.set_cons_succ, List.set_cons_zero]
  · refine ⟨_, ?_, key k (by rw [if_neg z]), fr _ _⟩
    simp only [F_X4_addLeaf, a1, a2, a3, Option.bind_some]
    rw [if_neg (nI_pos (by omega)), if_neg (nI_ge hl (by omega)), if_neg (nI_ne0 (by omega) (by omega))]
    simp only [s1, k_geti (e1 k) (k := 3) rfl, k_puti (e1 k) (k := 3) (by simp), Option.bind_some, k_add1, List.set_cons_succ, List.set_cons_zero]
theorem k_ae_loop {p : Nat} {x1 x2 x3 : Int32} {K : Int32 → XM → Option XM} : ∀ (d fuel m : Nat) (f : XM) (gp : Nat → Int32), m = p + d → d < fuel → m < 160 → x_getr f 4 b 1 = some (some (b + 4)) → (∀ e, x_getr (x_up f (b + 4) e) 4 b 1 = some (some (b + 4))) → f (b + 4) = some (.inl (.int, 160, .inl gp)) →
    ∃ (f' : XM) (hp : Nat → Int32), F_X4_addEntry_L52 N b x1 x2 x3 (nI p) K fuel (nI m) f = K (nI p) f' ∧ f' (b + 4) = some (.inl (.int, 160, .inl hp)) ∧ (∀ j, hp j = if p < j ∧ j ≤ m then gp (j - 1) else gp j) ∧ k_fr f f' (b + 4) (b + 5) := by
  intro d
  induction d with
  | zero =>
    intro fuel m f gp h1 h2 h3 hx hx2 hg
    obtain ⟨u, rfl⟩ : ∃ u, fuel = u + 1 := ⟨fuel - 1, by omega⟩
    have e : m = p := by omega
    subst e
    refine ⟨f, gp, ?_, hg, fun j => by rw [if_neg (by omega)], k_fr.rf⟩
    rw [F_X4_addEntry_L52, if_pos (nI_le (Nat.le_refl _) (by omega))]
  | succ d ih =>
    intro fuel m f gp h1 h2 h3 hx hx2 hg
    obtain ⟨u, rfl⟩ : ∃ u, fuel = u + 1 := ⟨fuel - 1, by omega⟩
    obtain ⟨q, rfl⟩ : ∃ q, m = q + 1 := ⟨m - 1, by omega⟩
    obtain ⟨f', hp, e1, e2, e3, e4⟩ := ih u q (x_up f (b + 4) (.inl (.int, 160, .inl (upd gp (q + 1) (gp q))))) _ (by omega) (by omega) (by omega) (hx2 _) (fun e => by
      have := hx2 e
      have e2 : x_up (x_up f (b + 4) (.inl (.int, 160, .inl (upd gp (q + 1) (gp q))))) (b + 4) e = x_up f (b + 4) e := by
        funext z
        unfold x_up
        split <;> rfl
      rw [e2]; exact this) x_up_s
    refine ⟨f', hp, ?_, e2, fun j => ?_, (k_fr.up (by omega) (by omega)).tr e4⟩
    · rw [F_X4_addEntry_L52, if_neg (nI_ge (by omega) (by omega))]
      simp only [hx, nI_pred, pk_m1, Option.bind_some, k_ald hg (i := q) (by omega) (by omega), k_ast hg (i := q + 1) (by omega) (by omega)]
      exact e1
    · rw [e3 j]
      by_cases z1 : j = q + 1
      · rw [if_neg (by omega), if_pos (by omega), z1, k_upd_s]; rfl
      · by_cases z2 : p < j ∧ j ≤ q
        · rw [if_pos z2, if_pos (by omega), k_upd_n (by omega)]
        · rw [if_neg z2, if_neg (by omega), k_upd_n z1]
theorem k_addEntry (hN : 5000 ≤ N) (h : k_tree f b T) (hs : k_srt T.1.1 T.1.2.1) (hn : T.1.1 < 160) (k v p : Int32) : ∃ f', F_X4_addEntry N f b k v p = some f' ∧ k_tree f' b (k_tins T k v p) ∧ k_fr f f' b (b + 6) := by
  have hr := k_rk_le T.1.1 T.1.2.1 k
  have a0 := h.r
  have a1 := h.p
  have a2 := h.pl
  have a3 := h.row
  obtain ⟨h1, h2, ⟨gp, h3, h4⟩, ⟨gb, h5, h6⟩, h7⟩ := h
  obtain ⟨f1, hp, e1, e2, e3, e4⟩ := k_ae_loop (N := N) (b := b) (p := k_rk T.1.1 T.1.2.1 k) (x1 := k) (x2 := v) (x3 := p) (K := fun y5_23 g23 =>
        (x_getr g23 4 b 1).bind fun v24 =>
        Option.bind v24 fun a25 =>
        (x_ast g23 a25 (nI (k_rk T.1.1 T.1.2.1 k)) p).bind fun f26 =>
        (x_getr f26 4 b 0).bind fun v27 =>
        Option.bind v27 fun a28 =>
        (x_cv f26 2 a28 (F_X2_addAt N f26 a28 (nI (k_rk T.1.1 T.1.2.1 k)) k v)).bind fun z29 =>
        some z29) (T.1.1 - k_rk T.1.1 T.1.2.1 k) N T.1.1 f gp (by omega) (by omega) hn a1 (fun e => k_getr ((x_up_n (by omega)).trans h1) rfl) h3
  have s1 := k_ast (v := p) e2 (i := k_rk T.1.1 T.1.2.1 k) (by omega) (by omega)
  have o1 : f1 b = _ := (e4 b (by omega)).trans h1
  have o2 : x_up f1 (b + 4) (.inl (.int, 160, .inl (upd hp (k_rk T.1.1 T.1.2.1 k) p))) b = _ := (x_up_n (by omega)).trans o1
  have fr2 : k_fr f (x_up f1 (b + 4) (.inl (.int, 160, .inl (upd hp (k_rk T.1.1 T.1.2.1 k) p)))) (b + 4) (b + 5) := e4.upd (by omega) (by omega)
  obtain ⟨f2, q1, q2, q3⟩ := k_addAt (N := N) hN (a3.fr fr2 (by omega)) hr hn k v
  refine ⟨f2, ?_, ⟨(q3 b (by omega)).trans o2, q2, ⟨_, (q3 _ (by omega)).trans x_up_s, fun j hj => ?_⟩, ⟨gb, (q3 _ (by omega)).trans ((fr2 _ (by omega)).trans h5), h6⟩, h7⟩, (fr2.wd (by omega) (by omega)).tr (q3.wd (by omega) (by omega))⟩
  · simp only [F_X4_addEntry, a0, a1, a2, a3.cv, a3.n, k_firstFrom (N := N) (by omega) a3 hs, Option.bind_some]
    rw [if_neg (nI_pos (by omega)), if_neg (nI_nlt hr (by omega)), if_pos (show nI T.1.1 < nI 160 from nI_lt hn (by omega)), e1]
    simp only [k_getr o1 (k := 1) rfl, s1, k_getr o2 (k := 0) rfl, Option.bind_some, (a3.fr fr2 (by omega)).cv, q1]
  · have hj' : j < T.1.1 + 1 := hj
    show upd hp _ p j = k_ins _ p T.2.1 j
    unfold k_ins
    by_cases z : j = k_rk T.1.1 T.1.2.1 k
    · rw [z, k_upd_s, if_neg (by omega), if_pos rfl]
    · rw [k_upd_n z, e3 j]
      by_cases z2 : j < k_rk T.1.1 T.1.2.1 k
      · rw [if_neg (by omega), if_pos z2, h4 j (by omega)]
      · rw [if_pos (by omega), if_neg z2, if_neg z, h4 (j - 1) (by omega)]
theorem k_twrite (hN : 5000 ≤ N) (h : k_tree f b T) (hw : k_wt T) (hl : T.2.2.1 < 512) {k : Int32} (hk : 0 ≤ k.toInt) (hil : 0 < T.2.2.1 → k_sm T.2.2.2.2.1 2 8) (v : Int32) : ∃ f', F_X4_write N f b k v = some ((k_twr T k v).1, f') ∧ k_tree f' b (k_twr T k v).2 ∧ k_fr f f' b (b + 6) ∧ ((k_twr T k v).1 = -1 → f' = f) := by
  have hlf := k_lf_le T k
  have hrl := h.row.le
  unfold k_twr
  simp only [F_X4_write, h.r, h.row.cv, h.cv, k_placeOf (N := N) (by omega) h.row hw.1, Option.bind_some]
  by_cases g1 : k_pl T.1.1 T.1.2.1 k < T.1.1
  · obtain ⟨f', q1, q2, q3⟩ := k_setValue (N := N) h.row g1 v
    refine ⟨f', ?_, ?_, q3.wd (by omega) (by omega), ?_⟩
    · rw [if_pos g1, if_pos g1, if_neg (k_nim1 _ (by omega)), q1]
      rfl
    · rw [if_pos g1]
      exact h.setrow q3 q2 (Nat.le_refl _)
    · rw [if_pos g1]
      intro e; exact absurd e (by show ¬ (0 : Int32) = -1; decide)
  · simp only [if_neg g1, if_true, k_isFull h.row, Option.bind_some]
    by_cases g2 : 160 ≤ T.1.1
    · refine ⟨f, ?_, ?_, k_fr.rf, fun _ => rfl⟩
      · rw [decide_eq_true g2, if_pos g2, if_neg (by rw [k_xb_t]; exact id)]
      · rw [if_pos g2]; exact h
    · rw [decide_eq_false g2, if_neg g2]
      simp only [k_xb_f, if_true, k_leafOfKey (show 1000 ≤ N by omega) h hw, Option.bind_some, h.l]
      by_cases g3 : T.2.2.1 = 0
      · have hn0 : T.1.1 = 0 := hw.2.2.2.2.1 g3
        have hlf0 : k_lf T k = 0 := by omega
        have hk0 : F_X2_keyOn N f (b + 1) (nI T.1.1 - 1) = some (-1) := k_keyOn_o h.row (Or.inl (by rw [hn0]; decide))
        obtain ⟨f1, q1, q2, q3⟩ := k_addLeaf (N := N) h hl k
        obtain ⟨f2, r1, r2, r3⟩ := k_addEntry (N := N) hN q2 hw.1 (by show T.1.1 < 160; omega) k v 0
        refine ⟨f2, ?_, by rw [if_pos g3]; exact r2, q3.tr r3, ?_⟩
        · rw [if_pos g3, hlf0, g3, if_pos (by rfl), if_pos (by rfl)]
          simp only [h.row.n, Option.bind_some, hk0]
          rw [if_neg (by rw [k_i_le]; have e : (-1 : Int32).toInt = -1 := rfl; omega), if_pos (by rfl)]
          simp only [q1, q2.cv, r1, Option.bind_some]
        · rw [if_pos g3]
          intro e; exact absurd e (by show ¬ (3 : Int32) = -1; decide)
      · have hp := k_lf_pos hw hk (by omega)
        obtain ⟨q, hq⟩ : ∃ q, k_lf T k = q + 1 := ⟨k_lf T k - 1, by omega⟩
        obtain ⟨e1, e2, e3⟩ := (hil (by omega)).e (by omega)
        have hol := k_cnt_le (fun i => k_inl T q (T.1.2.1 i) && decide (T.2.1 i = 0)) T.1.1
        have hvl := k_cnt_le (fun i => k_inl T q (T.1.2.1 i) && decide (0 < T.2.1 i)) T.1.1
        rw [if_neg g3, hq, nI_pred, if_neg (k_nim1 q (by omega))]
        simp only [k_ownCount (show 1000 ≤ N by omega) h hw (l := q) (by omega), h.il, Option.bind_some, Nat.add_sub_cancel]
        by_cases g4 : k_own T q < k_u T.2.2.2.2.1
        · obtain ⟨f2, r1, r2, r3⟩ := k_addEntry (N := N) hN h hw.1 (by omega) k v 0
          refine ⟨f2, ?_, by rw [if_pos g4]; exact r2, r3, ?_⟩
          · rw [if_pos g4, if_neg (by rw [e1]; exact nI_ge g4 (by omega))]
            simp only [r1, Option.bind_some]
          · rw [if_pos g4]
            intro e; exact absurd e (by show ¬ (1 : Int32) = -1; decide)
        · have hon : k_own T q ≤ T.1.1 := hol
          have hn1 : 0 < T.1.1 := by omega
          obtain ⟨m, hm⟩ : ∃ m, T.1.1 = m + 1 := ⟨T.1.1 - 1, by omega⟩
          have hlast : F_X2_keyOn N f (b + 1) (nI T.1.1 - 1) = some (T.1.2.1 (T.1.1 - 1)) := by
            rw [hm, nI_pred]
            exact k_keyOn h.row (by omega)
          have eq1 : (nI q = nI T.2.2.1 - 1) ↔ q + 1 = T.2.2.1 := by
            obtain ⟨l, hl2⟩ : ∃ l, T.2.2.1 = l + 1 := ⟨T.2.2.1 - 1, by omega⟩
            rw [hl2, nI_pred, nI_eq (by omega) (by omega)]
            omega
          rw [if_neg g4, if_pos (by rw [e1]; exact nI_le (by omega) (by show k_own T q < _; unfold k_own; omega))]
          by_cases g5 : q + 1 = T.2.2.1 ∧ (T.1.2.1 (T.1.1 - 1)).toInt < k.toInt
          · obtain ⟨f1, q1, q2, q3⟩ := k_addLeaf (N := N) h hl k
            obtain ⟨f2, r1, r2, r3⟩ := k_addEntry (N := N) hN q2 hw.1 (by show T.1.1 < 160; omega) k v 0
            refine ⟨f2, ?_, by rw [if_pos g5]; exact r2, q3.tr r3, ?_⟩
            · rw [if_pos g5, if_pos (eq1.mpr g5.1)]
              simp only [h.row.n, Option.bind_some, hlast]
              rw [if_neg (by rw [k_i_le]; omega), if_neg (k_nim1 q (by omega)), if_neg (by decide)]
              simp only [h.bl, h.bo, Option.bind_some]
              rw [if_neg (show ¬ nI 512 ≤ nI T.2.2.1 from nI_ge hl (by omega))]
              simp only [q1, q2.cv, r1, Option.bind_some]
            · rw [if_pos g5]
              intro e; exact absurd e (by show ¬ (3 : Int32) = -1; decide)
          · obtain ⟨f2, r1, r2, r3⟩ := k_addEntry (N := N) hN h hw.1 (by omega) k v (nI (k_ovf T q + 1))
            refine ⟨f2, ?_, by rw [if_neg g5]; exact r2, r3, ?_⟩
            · rw [if_neg g5]
              by_cases g6 : q + 1 = T.2.2.1
              · rw [if_pos (eq1.mpr g6)]
                simp only [h.row.n, Option.bind_some, hlast]
                rw [if_pos (by rw [k_i_le]; omega), if_neg (k_nim1 q (by omega))]
                simp only [k_overflowCount (show 1000 ≤ N by omega) h hw (l := q) (by omega), Option.bind_some, k_add1, r1]
              · rw [if_neg (fun z => g6 (eq1.mp z)), if_neg (k_nim1 q (by omega))]
                simp only [k_overflowCount (show 1000 ≤ N by omega) h hw (l := q) (by omega), Option.bind_some, k_add1, r1]
            · rw [if_neg g5]
              intro e; exact absurd e (by show ¬ (2 : Int32) = -1; decide)
end KTO

