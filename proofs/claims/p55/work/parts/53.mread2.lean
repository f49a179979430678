/-! The reference: entries of leaves, nodes, ranges. -/
/-- own entries of a leaf, by the tree's places -/
def k_oq (T : KT) (l : Nat) : Nat → Bool := fun i => k_inl T l (T.1.2.1 i) && decide (T.2.1 i = 0)
section KMT
variable {wz : Nat}
variable {N : Nat} {f : XM} {m c : Nat} {S : KS}
/-- children of a node, as both count them -/
def k_ch (T : KT) (D : Nat) (x : Int32) : Int32 := x_imin T.2.2.2.2.2 (nI (k_nc (k_u T.2.2.2.2.2) (D - 1) T.2.2.1) - x * T.2.2.2.2.2)
theorem k_cchildren {b : Nat} {T : KT} (hN : 1000 ≤ N) (h : k_tree f b T) (hn : k_sm T.2.2.2.2.2 2 6) {D : Nat} (hD : D ≤ 32) (hD1 : 1 ≤ D) (x : Int32) : F_X4_childCount N f b (nI D - 1) x = some (k_ch T D x) := by
  obtain ⟨E, rfl⟩ : ∃ E, D = E + 1 := ⟨D - 1, by omega⟩
  obtain ⟨e1, e2, e3⟩ := hn.e (by omega)
  rw [nI_pred]
  simp only [F_X4_childCount, h.cv, h.nl, k_nodeCount hN h e1 (by omega) (by omega) (D := E) (by omega), Option.bind_some]
  rfl
end KMT

