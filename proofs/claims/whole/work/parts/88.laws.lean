/-! What is left of the laws: the reader's (11, 12), and all of them together. -/
section KEN
variable {N L : Nat} {xs : Nat → Int32} {x m o t : Nat} {h : XH}
theorem k_ifst {c : Prop} {hc : Decidable c} {A B : Option XM} {P : XM → Prop} (hA : ∃ r, A = some r ∧ P r) (hB : ∃ r, B = some r ∧ P r) : ∃ r, (@ite _ c hc A B) = some r ∧ P r := by
  by_cases z : c
  · rw [if_pos z]; exact hA
  · rw [if_neg z]; exact hB
theorem k_lawk (hN : 50000 ≤ N) (hL : L ≤ 1536) (ht : t < 512) (h3 : 3 * t + 3 ≤ L) (hI : k_In x m o t h.1) (hd : ∀ (a : Nat) (e : XE), h.1 a = some e → a < h.2) (k : Int32) : ∃ r, F_law_k N L xs x m o (nI (3 * t)) h k = some r ∧ k_In x m o (t + 1) r := by
  unfold F_law_k
  refine k_ifst (k_law0 hN hL ht h3 hI hd) ?_
  refine k_ifst (k_law1 hN hL ht h3 hI hd) ?_
  refine k_ifst (k_law2 hN hL ht h3 hI hd) ?_
  refine k_ifst (k_law3 hN hL ht h3 hI hd) ?_
  refine k_ifst (k_law4 hN hL ht h3 hI hd) ?_
  refine k_ifst (k_law5 hN hL ht h3 hI hd) ?_
  refine k_ifst (k_law6 hN hL ht h3 hI hd) ?_
  refine k_ifst (k_law7 hN hL ht h3 hI hd) ?_
  refine k_ifst (k_law8 hN hL ht h3 hI hd) ?_
  refine k_ifst (k_law9 hN hL ht h3 hI hd) ?_
  refine k_ifst (k_law10 hI) ?_
  refine k_ifst (k_law11 hN hI) ?_
  refine k_ifst (k_law12 hN ht hI hd) ?_
  refine k_ifst (k_law13 hN hL h3 hI hd) ?_
  refine k_ifst (k_law14 hN hL h3 hI hd) ?_
  refine k_ifst (k_law15 hN hI) ?_
  refine k_ifst (k_law16 hI) ?_
  refine k_ifst (k_law17 hN hL h3 hI) ?_
  refine k_ifst (k_law18 hN hL h3 hI) ?_
  refine k_ifst (k_law19 hN hL h3 hI) ?_
  refine k_ifst (k_law20 hN hL h3 hI) ?_
  refine k_ifst (k_law21 hN hL h3 hI) ?_
  refine k_ifst (k_law22 hN hL h3 hI) ?_
  refine k_ifst (k_law23 hN hL h3 hI) ?_
  refine k_ifst (k_law24 hN hL h3 hI) ?_
  refine k_ifst (k_law25 hN hI) ?_
  refine k_ifst (k_law26 hN hL h3 hI) ?_
  refine k_ifst (k_law27 hI) ?_
  refine k_ifst (k_law28 hN hL h3 hI) ?_
  refine k_ifst (k_law29 hN hL h3 hI) ?_
  refine k_ifst (k_law30 hN hL h3 hI) ?_
  refine k_ifst (k_law31 hN hL h3 hI) ?_
  refine k_ifst (k_law32 hI) ?_
  refine k_ifst (k_law33 hI) ?_
  refine k_ifst (k_law34 hN hL h3 hI) ?_
  refine k_ifst (k_law35 hN hL h3 hI) ?_
  refine k_ifst (k_law36 hN hL h3 hI) ?_
  refine k_ifst (k_law37 hN hL h3 hI) ?_
  refine k_ifst (k_law38 hN hI) ?_
  refine k_ifst (k_law39 hN hL h3 hI) ?_
  refine k_ifst (k_law40 hN hL h3 hI) ?_
  refine k_ifst (k_law41 hN hL h3 hI) ?_
  refine k_ifst (k_law42 hN hL h3 hI) ?_
  refine k_ifst (k_law43 hI) ?_
  refine k_ifst (k_law44 hI) ?_
  refine k_ifst (k_law45 hN hI) ?_
  refine k_ifst (k_law46 hN hI) ?_
  refine k_ifst (k_law47 hN hI) ?_
  refine k_ifst (k_law48 hN hI) ?_
  refine k_ifst (k_law49 hN hL h3 hI) ?_
  refine k_ifst (k_law50 hN hL h3 hI) ?_
  refine k_ifst (k_law51 hN hI) ⟨h.1, rfl, ?_⟩
  obtain ⟨e1, e2, n, q, St, S, bf, len, V, c, r1, r2, r3, r4, r5⟩ := hI
  exact ⟨e1, e2, n, q, St, S, bf, len, V, c, r1, r2, r3, r4, by omega, r5.2⟩
end KEN
