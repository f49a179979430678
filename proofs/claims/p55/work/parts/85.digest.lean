/-! The digest, both. -/
section KDG
variable {wz : Nat}
variable {N L : Nat} {xs : Nat → Int32} {x m o t : Nat} {h : XH} {f : XM} {n len : Nat} {q : Nat → Option Nat} {St : Nat → KS} {S : KS} {bf : Nat → Int32} {c : Nat}
theorem k_htx_loop (h : k_ci f x wz n q St S bf len) (h0 : Int64) : ∀ (d fuel i : Nat), i + d = len → d < fuel → F_X5_hashOfTexts_L49 N f x (fun y _ => some y) fuel (k_hf (fun i h => k_mix h (bf i).toInt64) i h0) (nI i) = some (k_hf (fun i h => k_mix h (bf i).toInt64) len h0) := by
  have hl := h.2.1
  have ha := h.2.2.2.2.2.1
  intro d
  induction d with
  | zero =>
    intro fuel i h1 h2
    obtain ⟨u, rfl⟩ : ∃ u, fuel = u + 1 := ⟨fuel - 1, by omega⟩
    simp only [F_X5_hashOfTexts_L49, h.lng, Option.bind_some]
    rw [if_pos (nI_le (by omega) (by omega)), show i = len by omega]
  | succ d ih =>
    intro fuel i h1 h2
    obtain ⟨u, rfl⟩ : ∃ u, fuel = u + 1 := ⟨fuel - 1, by omega⟩
    simp only [F_X5_hashOfTexts_L49, h.lng, h.buf, k_alen ha, Option.bind_some]
    rw [if_neg (nI_ge (by omega) (by omega)), if_neg (nI_ge (by omega) (by omega))]
    simp only [k_ald ha (i := i) (by omega) (by omega), k_mixF, Option.bind_some, k_add1]
    exact ih u (i + 1) (by omega) (by omega)
theorem k_htexts (hN : 50000 ≤ N) (h : k_ci f x wz n q St S bf len) (h0 : Int64) : F_X5_hashOfTexts N f x h0 = some (k_htxt (q 7).isSome (q 8).isSome bf len h0) := by
  have hl := h.2.1
  obtain ⟨N', hN'⟩ : ∃ N', N = N' + 3 := ⟨N - 3, by omega⟩
  have t0 := k_slotAt (N := N) h (j := 0) (by omega)
  have t1 := k_slotAt (N := N) h (j := 1) (by omega)
  have key : ∀ (K : Int64 → Int32 → Option Int64), F_X5_hashOfTexts_L5 N f x K (N' + 3) h0 (nI 0) = K (k_mix (k_mix h0 (if (q 7).isSome = true then 1 else 0)) (if (q 8).isSome = true then 1 else 0)) (nI 2) := fun K => by
    have s0 : ∀ (u : Nat) (g : Int64), F_X5_hashOfTexts_L5 N f x K (u + 1) g (nI 0) = F_X5_hashOfTexts_L5 N f x K u (k_mix g (if (q 7).isSome = true then 1 else 0)) (nI 1) := fun u g => by
      rw [F_X5_hashOfTexts_L5, if_neg (show ¬ (2 : Int32) ≤ nI 0 by decide), h.cv, t0, Option.bind_some]
      cases q 7 with
      | none => rw [Option.elim_none, k_mixG, Option.bind_some]; rfl
      | some p => rw [Option.elim_some, k_mixG, Option.bind_some]; rfl
    have s1 : ∀ (u : Nat) (g : Int64), F_X5_hashOfTexts_L5 N f x K (u + 1) g (nI 1) = F_X5_hashOfTexts_L5 N f x K u (k_mix g (if (q 8).isSome = true then 1 else 0)) (nI 2) := fun u g => by
      rw [F_X5_hashOfTexts_L5, if_neg (show ¬ (2 : Int32) ≤ nI 1 by decide), h.cv, t1, Option.bind_some]
      cases q 8 with
      | none => rw [Option.elim_none, k_mixG, Option.bind_some]; rfl
      | some p => rw [Option.elim_some, k_mixG, Option.bind_some]; rfl
    rw [s0, s1, F_X5_hashOfTexts_L5, if_pos (show (2 : Int32) ≤ nI 2 by decide)]
  unfold F_X5_hashOfTexts
  have k0 := key (fun y3_6 y5_6 => (x_geti f 5 x 6).bind fun v7 => (F_X5_mix N f y3_6 ((v7 : Int32).toInt64)).bind fun z8 => F_X5_hashOfTexts_L49 N f x (fun y3_18 y5_18 => some y3_18) N z8 0)
  rw [← hN'] at k0
  refine k0.trans ?_
  simp only [h.lng, k_mixF, Option.bind_some]
  exact k_htx_loop (N := N) h _ len N 0 (by omega) (by omega)
end KDG

