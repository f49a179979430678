/-! The reference: built anew. -/
theorem k_rem_i {i e : Nat} (hi : i < 2 ^ 29) (he : 1 ≤ e) (he2 : e < 2 ^ 29) : x_rem (nI i) (nI e) = some (nI (i % e)) := by
  have hd : i / e ≤ i := Nat.div_le_self _ _
  have h1 : nI i / nI e = nI (i / e) := pk_div (by omega) (by omega) (by omega)
  unfold x_rem
  rw [if_neg (nI_ne0 (by omega) (by omega)), h1, pk_mul]
  have h2 : nI i = nI (i % e) + nI (i / e * e) := by
    rw [nI_add]
    congr 1
    have := Nat.mod_add_div i e
    rw [Nat.mul_comm] at this
    omega
  rw [h2, Int32.add_sub_cancel]
def k_Ga (G : Nat → Int32) (n : Nat) (k v l o : Int32) (a : Nat) : Int32 := if a = 856 + 4 * n then k else if a = 857 + 4 * n then v else if a = 858 + 4 * n then l else if a = 859 + 4 * n then o else if a = 7 then nI (n + 1) else G a
section KMB
variable {N : Nat} {f : XM} {m c : Nat} {V : KM} {S : KS}
theorem k_madds (h : k_mo f m V) {n : Nat} (e7 : V.1 1 7 = nI n) (hn : n < 160) (k v l o : Int32) : ∃ (f' : XM) (V' : KM), F_X6_adds N f m k v l o = some f' ∧ k_mo f' m V' ∧ k_mx V V' [1] [] ∧ k_fr f f' m (m + 10) ∧ ∀ a, V'.1 1 a = k_Ga (V.1 1) n k v l o a := by
  obtain ⟨f1, a1, a2, a3⟩ := h.st (a := 1) (i := 856 + 4 * n) (by omega) (by omega) (by show _ < 6696; omega) k
  obtain ⟨f2, b1, b2, b3⟩ := a2.st (a := 1) (i := 857 + 4 * n) (by omega) (by omega) (by show _ < 6696; omega) v
  obtain ⟨f3, c1, c2, c3⟩ := b2.st (a := 1) (i := 858 + 4 * n) (by omega) (by omega) (by show _ < 6696; omega) l
  obtain ⟨f4, d1, d2, d3⟩ := c2.st (a := 1) (i := 859 + 4 * n) (by omega) (by omega) (by show _ < 6696; omega) o
  have e7' : (k_sA (k_sA (k_sA (k_sA V 1 (856 + 4 * n) k) 1 (857 + 4 * n) v) 1 (858 + 4 * n) l) 1 (859 + 4 * n) o).1 1 7 = nI n := by
    rw [k_sA_s, k_upd_n (by omega), k_sA_s, k_upd_n (by omega), k_sA_s, k_upd_n (by omega), k_sA_s, k_upd_n (by omega), e7]
  obtain ⟨f5, g1, g2, g3⟩ := d2.st (a := 1) (i := 7) (by omega) (by omega) (by show _ < 6696; omega) (nI (n + 1))
  have i0 : (856 + 4 * nI n : Int32) = nI (856 + 4 * n) := by rw [k_lit 856, k_lit 4, pk_mul, nI_add]
  have i2 : (nI (856 + 4 * n) + 2 : Int32) = nI (858 + 4 * n) := by
    rw [k_lit 2, nI_add]; exact congrArg nI (by omega)
  have i3 : (nI (856 + 4 * n) + 3 : Int32) = nI (859 + 4 * n) := by
    rw [k_lit 3, nI_add]; exact congrArg nI (by omega)
  have b1' : x_ast f1 (m + 1) (nI (856 + 4 * n + 1)) v = some f2 := by rw [← b1]; congr 2; omega
  have l7 : x_ald f (m + 1) 7 = some (nI n) := by rw [← e7]; exact k_ld1 h (i := 7) (by omega)
  have l7' : x_ald f4 (m + 1) 7 = some (nI n) := by rw [← e7']; exact k_ld1 d2 (i := 7) (by omega)
  have g1' : x_ast f4 (m + 1) 7 (nI (n + 1)) = some f5 := g1
  refine ⟨f5, _, ?_, g2, ((((k_sA_mx (by simp)).tr (k_sA_mx (by simp))).tr (k_sA_mx (by simp))).tr (k_sA_mx (by simp))).tr (k_sA_mx (by simp)), (((a3.tr b3).tr c3).tr d3).tr g3, fun a => ?_⟩
  · simp only [F_X6_adds, h.r0, l7, Option.bind_some, i2, i3, i0, k_add1, a1, a2.r0, b1', b2.r0, c1, c2.r0, d1, d2.r0, l7', g1']
  · unfold k_Ga
    rw [k_sA_s]
    by_cases z1 : a = 7
    · rw [z1, k_upd_s, if_neg (by omega), if_neg (by omega), if_neg (by omega), if_neg (by omega), if_pos rfl]
    · rw [k_upd_n z1, if_neg z1, k_sA_s]
      by_cases z2 : a = 859 + 4 * n
      · rw [z2, k_upd_s, if_neg (by omega), if_neg (by omega), if_neg (by omega), if_pos rfl]
      · rw [k_upd_n z2, if_neg z2, k_sA_s]
        by_cases z3 : a = 858 + 4 * n
        · rw [z3, k_upd_s, if_neg (by omega), if_neg (by omega), if_pos rfl]
        · rw [k_upd_n z3, if_neg z3, k_sA_s]
          by_cases z4 : a = 857 + 4 * n
          · rw [z4, k_upd_s, if_neg (by omega), if_pos rfl]
          · rw [k_upd_n z4, if_neg z4, k_sA_s]
            by_cases z5 : a = 856 + 4 * n
            · rw [z5, k_upd_s, if_pos rfl]
            · rw [k_upd_n z5, if_neg z5]
/-- what is built so far -/
def k_mb (G : Nat → Int32) (Q : KR) (each i : Nat) : Prop :=
  G 7 = nI i ∧ G 8 = nI (k_ru i each) ∧ (∀ l, l < k_ru i each → G (1496 + l) = if l = 0 then 0 else Q.2.1 (each * l)) ∧ ∀ j, j < i → k_eK G j = Q.2.1 j ∧ k_eV G j = Q.2.2 j ∧ k_eL G j = nI (j / each) ∧ k_eO G j = 0
theorem k_ru_st {i each : Nat} (he : 1 ≤ each) : (i % each = 0 → each * k_ru i each = i ∧ k_ru (i + 1) each = k_ru i each + 1) ∧ (i % each ≠ 0 → k_ru (i + 1) each = k_ru i each) ∧ k_ru (i + 1) each = i / each + 1 := by
  have hq : k_ru (i + 1) each = i / each + 1 := by
    show (i + 1 + each - 1) / each = _
    rw [show i + 1 + each - 1 = i + each by omega, Nat.add_div_right _ (by omega)]
  have hm := Nat.mod_add_div i each
  have hl := Nat.mod_lt i (show 0 < each by omega)
  refine ⟨fun z => ?_, fun z => ?_, hq⟩
  · have h1 : k_ru i each = i / each := by
      show (i + each - 1) / each = _
      refine (Nat.div_eq_iff (by omega)).mpr ?_
      rw [Nat.mul_comm (i / each)]
      omega
    rw [hq, h1]
    exact ⟨by omega, rfl⟩
  · rw [hq]
    show _ = (i + each - 1) / each
    refine ((Nat.div_eq_iff (by omega)).mpr ?_).symm
    rw [Nat.add_mul, Nat.mul_comm (i / each)]
    omega
theorem k_mb.add {G G' : Nat → Int32} {Q : KR} {each i : Nat} (he : 1 ≤ each) (hi : i < 160) (h : k_mb G Q each i) {lc : Nat} (hlc : lc = k_ru (i + 1) each) (g8 : G' 8 = nI lc) (gb : ∀ l, l < lc → G' (1496 + l) = if l = 0 then 0 else Q.2.1 (each * l)) (g7 : G' 7 = nI (i + 1)) (ge : ∀ a, 856 ≤ a → a < 1496 → G' a = k_Ga G i (Q.2.1 i) (Q.2.2 i) (nI (i / each)) 0 a) : k_mb G' Q each (i + 1) := by
  obtain ⟨h1, h2, h3, h4⟩ := h
  subst hlc
  refine ⟨g7, g8, gb, fun j hj => ?_⟩
  unfold k_eK k_eV k_eL k_eO
  rw [ge _ (by omega) (by omega), ge _ (by omega) (by omega), ge _ (by omega) (by omega), ge _ (by omega) (by omega)]
  unfold k_Ga
  by_cases z : j = i
  · subst z
    exact ⟨if_pos rfl, by rw [if_neg (by omega), if_pos rfl], by rw [if_neg (by omega), if_neg (by omega), if_pos rfl], by rw [if_neg (by omega), if_neg (by omega), if_neg (by omega), if_pos rfl]⟩
  · have := h4 j (by omega)
    unfold k_eK k_eV k_eL k_eO at this
    refine ⟨?_, ?_, ?_, ?_⟩ <;> rw [if_neg (by omega), if_neg (by omega), if_neg (by omega), if_neg (by omega), if_neg (by omega)]
    · exact this.1
    · exact this.2.1
    · exact this.2.2.1
    · exact this.2.2.2
end KMB
