/-! Calls that ask of levels, nodes, leaves. -/
section KAV
variable {wz : Nat}
variable {N L : Nat} {xs : Nat → Int32} {x m o t : Nat} {h : XH} {f : XM} {n len : Nat} {q : Nat → Option Nat} {St : Nat → KS} {S : KS} {bf : Nat → Int32} {c : Nat}
theorem k_lv_32 (a : Nat) : ∀ d c, k_lv a d c ≤ d
  | 0, _ => Nat.le_refl _
  | d + 1, c => by
    have := k_lv_32 a d (k_ru c a)
    unfold k_lv
    split <;> omega
theorem k_reqLevel (hN : 50000 ≤ N) (h : k_ci f x wz n q St S bf len) (hw : k_ws S) (l : Int32) : F_X5_requireLevel N f x l = some (if 0 ≤ l.toInt ∧ l.toInt < k_tlv S.2.2.1 then .inl () else .inr 2) := by
  have h32 : k_tlv S.2.2.1 ≤ 32 := k_lv_32 _ _ _
  have e0 : (0 : Int32).toInt = 0 := rfl
  unfold F_X5_requireLevel
  by_cases g : l < 0
  · rw [if_pos g, if_neg (by rw [k_i_lt, e0] at g; omega)]
  · rw [if_neg g]
    rw [k_i_lt, e0] at g
    simp only [h.now, h.st.tr, h.st.tree.cv, k_levelCount (N := N) (by omega) h.st.tree hw.2.2.2.2.1, Option.bind_some]
    by_cases g2 : l < nI (k_tlv S.2.2.1)
    · rw [if_pos g2, if_pos (by rw [k_i_lt, nI_toInt (by omega)] at g2; omega)]
    · rw [if_neg g2, if_neg (by rw [k_i_lt, nI_toInt (by omega)] at g2; omega)]
/-- how many nodes there are on a level -/
def k_nn2 (S : KS) (v : Nat) : Nat := k_nc (k_u S.2.2.1.2.2.2.2.2) (v + 1) S.2.2.1.2.2.1
theorem k_nn2_le (hw : k_wt S.2.2.1) (hl : 0 < S.2.2.1.2.2.1) (v : Nat) : k_nn2 S v ≤ 512 := by
  obtain ⟨e1, e2, e3⟩ := (k_wt_nl hw hl).2.e (by omega)
  have := k_nc_le (a := k_u S.2.2.1.2.2.2.2.2) (by omega) (v + 1) S.2.2.1.2.2.1
  have h5 := hw.2.2.2.1
  unfold k_nn2
  omega
theorem k_cnodes (hN : 50000 ≤ N) {b : Nat} (h : k_tree f b S.2.2.1) (hw : k_wt S.2.2.1) (hl : 0 < S.2.2.1.2.2.1) {v : Nat} (hv : v < 32) : F_X4_nodeCount N f b (nI v) = some (nI (k_nn2 S v)) := by
  obtain ⟨e1, e2, e3⟩ := (k_wt_nl hw hl).2.e (by omega)
  have := k_nodeCount (N := N) (by omega) h e1 (by omega) (by omega) (D := v + 1) (by omega)
  rw [nI_pred] at this
  exact this
theorem k_reqNode (hN : 50000 ≤ N) (h : k_ci f x wz n q St S bf len) (hw : k_wt S.2.2.1) (hl : 0 < S.2.2.1.2.2.1) {v : Nat} (hv : v < 32) (p : Int32) : F_X5_requireNode N f x (nI v) p = some (if 0 ≤ p.toInt ∧ p.toInt < k_nn2 S v then .inl () else .inr 2) := by
  have hle := k_nn2_le hw hl v
  have e0 : (0 : Int32).toInt = 0 := rfl
  unfold F_X5_requireNode
  by_cases g : p < 0
  · rw [if_pos g, if_neg (by rw [k_i_lt, e0] at g; omega)]
  · rw [if_neg g]
    rw [k_i_lt, e0] at g
    simp only [h.now, h.st.tr, h.st.tree.cv, k_cnodes hN h.st.tree hw hl hv, Option.bind_some]
    by_cases g2 : p < nI (k_nn2 S v)
    · rw [if_pos g2, if_pos (by rw [k_i_lt, nI_toInt (by omega)] at g2; omega)]
    · rw [if_neg g2, if_neg (by rw [k_i_lt, nI_toInt (by omega)] at g2; omega)]
end KAV

