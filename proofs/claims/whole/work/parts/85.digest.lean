/-! The digest, both. -/
section KDG
variable {N L : Nat} {xs : Nat → Int32} {x m o t : Nat} {h : XH} {f : XM} {n len : Nat} {q : Nat → Option Nat} {St : Nat → KS} {S : KS} {bf : Nat → Int32} {V : KM} {c : Nat}
theorem k_htx_loop (h : k_ci f x n q St S bf len) (h0 : Int64) : ∀ (d fuel i : Nat), i + d = len → d < fuel → F_X5_hashOfTexts_L49 N f x (fun y _ => some y) fuel (k_hf (fun i h => k_mix h (bf i).toInt64) i h0) (nI i) = some (k_hf (fun i h => k_mix h (bf i).toInt64) len h0) := by
  have hl := h.2.1
  have ha := h.2.2.2.2.2.1
  intro d
  induction d with
  | zero =>
    intro fuel i h1 h2
    obtain ⟨u, rfl⟩ : ∃ u, fuel = u + 1 := ⟨fuel - 1, by omega⟩
    simp only [F_X5_hashOfTexts_L49, h.lng, Option.bind_some]
    rw [if_pos (nI_le (by omega) (by omega)), show i = len by omega]
  | succ d ih =>
    intro fuel i h1 h2
    obtain ⟨u, rfl⟩ : ∃ u, fuel = u + 1 := ⟨fuel - 1, by omega⟩
    simp only [F_X5_hashOfTexts_L49, h.lng, h.buf, k_alen ha, Option.bind_some]
    rw [if_neg (nI_ge (by omega) (by omega)), if_neg (nI_ge (by omega) (by omega))]
    simp only [k_ald ha (i := i) (by omega) (by omega), k_mixF, Option.bind_some, k_add1]
    exact ih u (i + 1) (by omega) (by omega)
theorem k_htexts (hN : 50000 ≤ N) (h : k_ci f x n q St S bf len) (h0 : Int64) : F_X5_hashOfTexts N f x h0 = some (k_htxt (q 7).isSome (q 8).isSome bf len h0) := by
  have hl := h.2.1
  obtain ⟨N', hN'⟩ : ∃ N', N = N' + 3 := ⟨N - 3, by omega⟩
  have t0 := k_slotAt (N := N) h (j := 0) (by omega)
  have t1 := k_slotAt (N := N) h (j := 1) (by omega)
  have key : ∀ (K : Int64 → Int32 → Option Int64), F_X5_hashOfTexts_L5 N f x K (N' + 3) h0 (nI 0) = K (k_mix (k_mix h0 (if (q 7).isSome = true then 1 else 0)) (if (q 8).isSome = true then 1 else 0)) (nI 2) := fun K => by
    have s0 : ∀ (u : Nat) (g : Int64), F_X5_hashOfTexts_L5 N f x K (u + 1) g (nI 0) = F_X5_hashOfTexts_L5 N f x K u (k_mix g (if (q 7).isSome = true then 1 else 0)) (nI 1) := fun u g => by
      rw [F_X5_hashOfTexts_L5, if_neg (show ¬ (2 : Int32) ≤ nI 0 by decide), h.cv, t0, Option.bind_some]
      cases q 7 with
      | none => rw [Option.elim_none, k_mixG, Option.bind_some]; rfl
      | some p => rw [Option.elim_some, k_mixG, Option.bind_some]; rfl
    have s1 : ∀ (u : Nat) (g : Int64), F_X5_hashOfTexts_L5 N f x K (u + 1) g (nI 1) = F_X5_hashOfTexts_L5 N f x K u (k_mix g (if (q 8).isSome = true then 1 else 0)) (nI 2) := fun u g => by
      rw [F_X5_hashOfTexts_L5, if_neg (show ¬ (2 : Int32) ≤ nI 1 by decide), h.cv, t1, Option.bind_some]
      cases q 8 with
      | none => rw [Option.elim_none, k_mixG, Option.bind_some]; rfl
      | some p => rw [Option.elim_some, k_mixG, Option.bind_some]; rfl
    rw [s0, s1, F_X5_hashOfTexts_L5, if_pos (show (2 : Int32) ≤ nI 2 by decide)]
  unfold F_X5_hashOfTexts
  have k0 := key (fun y3_6 y5_6 => (x_geti f 5 x 6).bind fun v7 => (F_X5_mix N f y3_6 ((v7 : Int32).toInt64)).bind fun z8 => F_X5_hashOfTexts_L49 N f x (fun y3_18 y5_18 => some y3_18) N z8 0)
  rw [← hN'] at k0
  refine k0.trans ?_
  simp only [h.lng, k_mixF, Option.bind_some]
  exact k_htx_loop (N := N) h _ len N 0 (by omega) (by omega)
theorem k_mtx_loop (hm : k_mo f m V) (hl : len ≤ 60) (h10 : V.2 10 = nI len) (h8 : ∀ i, i < len → V.1 8 i = bf i) (h0 : Int64) {K : Int64 → Int32 → Option (Int64 × XM)} : ∀ (d fuel i : Nat), i + d = len → d < fuel → F_X6_digest_L200 N f m K fuel (k_hf (fun i h => k_mix h (bf i).toInt64) i h0) (nI i) = K (k_hf (fun i h => k_mix h (bf i).toInt64) len h0) (nI len) := by
  intro d
  induction d with
  | zero =>
    intro fuel i h1 h2
    obtain ⟨u, rfl⟩ : ∃ u, fuel = u + 1 := ⟨fuel - 1, by omega⟩
    simp only [F_X6_digest_L200, hm.i10, h10, Option.bind_some]
    rw [if_pos (nI_le (by omega) (by omega)), show i = len by omega]
  | succ d ih =>
    intro fuel i h1 h2
    obtain ⟨u, rfl⟩ : ∃ u, fuel = u + 1 := ⟨fuel - 1, by omega⟩
    have l8 : x_ald f (m + 8) (nI i) = some (bf i) := by rw [← h8 i (by omega)]; exact hm.ld (a := 8) (by omega) (by omega) (by show _ < 60; omega)
    simp only [F_X6_digest_L200, hm.i10, h10, Option.bind_some]
    rw [if_neg (nI_ge (by omega) (by omega))]
    simp only [hm.r9, l8, Option.bind_some, k_add1]
    exact ih u (i + 1) (by omega) (by omega)
theorem k_m76 (hN : 50000 ≤ N) (hA : k_okA S) (hm : k_mo f m V) (hs : k_ms (V.1 1) S c) (h0 : Int64) {K : Int64 → Int32 → XM → Option (Int64 × XM)} : ∃ (f' : XM) (V' : KM), F_X6_digest_L76 N m K N h0 50 f = K (k_mix (k_mix (k_mix (k_mix h0 (nI (k_lvb S 50)).toInt64) (nI (k_llb S 50)).toInt64) (nI (k_lvb S 100)).toInt64) (nI (k_llb S 100)).toInt64) (nI 150) f' ∧ k_mo f' m V' ∧ k_mx V V' [7] [8] ∧ k_fr f f' m (m + 10) := by
  have step : ∀ (p u : Nat) (g : Int64) (f : XM) (V : KM), p ≤ 100 → k_mo f m V → k_ms (V.1 1) S c → ∃ (f' : XM) (V' : KM), F_X6_digest_L76 N m K (u + 1) g (nI p) f = F_X6_digest_L76 N m K u (k_mix (k_mix g (nI (k_lvb S p)).toInt64) (nI (k_llb S p)).toInt64) (nI (p + 50)) f' ∧ k_mo f' m V' ∧ k_mx V V' [7] [8] ∧ k_fr f f' m (m + 10) := fun p u g f V hp hm hs => by
    have he := k_each_r hs.1 hp
    have hle := k_ru_le (c := (k_all S).1) he.1
    have hlt := hA.2
    obtain ⟨e1, e2, e3⟩ := hs.1.2.2.2.2.2.2.e (by omega)
    obtain ⟨f1, V1, a1, a2, a3, a4⟩ := k_mlb hN hA hm hs hp
    have hs1 : k_ms (V1.1 1) S c := by rw [a3.1 1 (by simp)]; exact hs
    obtain ⟨f2, V2, b1, b2, b3, b4⟩ := k_mlb hN hA a2 hs1 hp
    have hs2 : k_ms (V2.1 1) S c := by rw [b3.1 1 (by simp)]; exact hs1
    have v1 : V2.1 1 1 = S.2.2.2.2.1 := hs2.2.2.1.2.1
    have o1 : x_ald f2 (m + 1) 1 = some (nI (k_u S.2.2.2.2.1)) := by rw [← e1, ← v1]; exact k_ld1 b2 (i := 1) (by omega)
    have lv := k_mlevelsOf (N := N) (f := f2) (m := m) (cnt := k_ru (k_all S).1 (k_each S.2.2.2.1 p)) (by omega) e2 (show k_u S.2.2.2.2.1 ≤ 100 by omega) (by omega)
    have a50 : nI p + 50 = nI (p + 50) := nI_add p 50
    refine ⟨f2, V2, ?_, b2, a3.tr b3, a4.tr b4⟩
    rw [F_X6_digest_L76, if_neg (show ¬ (100 : Int32) < nI p from nI_nlt (a := 100) (by omega) (by omega))]
    simp only [hm.cv, a1, a2.cv, b1, b2.r0, o1, b2.cv, lv, Option.bind_some, a50]
    rfl
  obtain ⟨N', rfl⟩ : ∃ N', N = N' + 3 := ⟨N - 3, by omega⟩
  obtain ⟨f1, V1, a1, a2, a3, a4⟩ := step 50 (N' + 2) h0 f V (by omega) hm hs
  obtain ⟨f2, V2, b1, b2, b3, b4⟩ := step 100 (N' + 1) _ f1 V1 (by omega) a2 (by rw [a3.1 1 (by simp)]; exact hs)
  refine ⟨f2, V2, ?_, b2, a3.tr b3, a4.tr b4⟩
  refine (a1.trans b1).trans ?_
  rw [F_X6_digest_L76, if_pos (show (100 : Int32) < nI 150 by decide)]
end KDG
