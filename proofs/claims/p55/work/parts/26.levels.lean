/-! The tree: levels and nodes, by numbers; pages. -/
def k_ru (a e : Nat) : Nat := (a + e - 1) / e
/-- how many levels are above c, by d steps at most -/
def k_lv (a : Nat) : Nat → Nat → Nat
  | 0, _ => 0
  | d + 1, c => if c ≤ 1 then 0 else 1 + k_lv a d (k_ru c a)
/-- how many there are d levels above c -/
def k_nc (a : Nat) : Nat → Nat → Nat
  | 0, c => c
  | d + 1, c => k_nc a d (k_ru c a)
theorem k_nc_out (a : Nat) : ∀ d c, k_nc a (d + 1) c = k_ru (k_nc a d c) a
  | 0, c => rfl
  | d + 1, c => by
    show k_nc a (d + 1) (k_ru c a) = k_ru (k_nc a d (k_ru c a)) a
    exact k_nc_out a d (k_ru c a)
theorem k_ru_le {a c : Nat} (ha : 1 ≤ a) : k_ru c a ≤ c := by
  unfold k_ru
  rcases Nat.eq_zero_or_pos c with z | z
  · subst z
    exact Nat.le_of_eq (Nat.div_eq_of_lt (by omega))
  · have : (c + a - 1) / a ≤ (c * a) / a := Nat.div_le_div_right (by
      have : c + a ≤ c * a + 1 := by
        obtain ⟨c', rfl⟩ : ∃ c', c = c' + 1 := ⟨c - 1, by omega⟩
        obtain ⟨a', rfl⟩ : ∃ a', a = a' + 1 := ⟨a - 1, by omega⟩
        rw [Nat.add_mul, Nat.mul_add]
        omega
      omega)
    rwa [Nat.mul_div_cancel _ (by omega)] at this
theorem k_ru_half {a c d : Nat} (ha : 2 ≤ a) (hc : c ≤ 2 ^ (d + 1)) : k_ru c a ≤ 2 ^ d := by
  unfold k_ru
  rw [Nat.pow_succ] at hc
  have h1 : c + a - 1 < (2 ^ d + 1) * a := by
    have h2 : 2 ^ d * 2 ≤ 2 ^ d * a := Nat.mul_le_mul_left _ ha
    rw [Nat.add_mul]
    omega
  have := (Nat.div_lt_iff_lt_mul (by omega)).mpr h1
  omega
theorem k_nc_le {a : Nat} (ha : 1 ≤ a) : ∀ d c, k_nc a d c ≤ c
  | 0, c => Nat.le_refl _
  | d + 1, c => Nat.le_trans (k_nc_le ha d _) (k_ru_le ha)
theorem k_ru_mul {a c x : Nat} (ha : 1 ≤ a) (h : x < k_ru c a) : x * a < c := by
  unfold k_ru at h
  have h1 : (x + 1) * a ≤ c + a - 1 := (Nat.le_div_iff_mul_le (by omega)).mp h
  rw [Nat.add_mul] at h1
  omega
theorem k_nc_mul {a : Nat} (ha : 1 ≤ a) : ∀ (d c x : Nat), x < k_nc a d c → x * a ^ d < c
  | 0, c, x, h => by simpa [k_nc] using h
  | d + 1, c, x, h => by
    have h1 := k_nc_mul ha d _ x h
    have h2 := k_ru_mul ha h1
    rwa [Nat.pow_succ, ← Nat.mul_assoc]
theorem k_lv_le (a : Nat) : ∀ d c, k_lv a d c ≤ d
  | 0, c => Nat.le_refl _
  | d + 1, c => by
    unfold k_lv
    split
    · omega
    · have := k_lv_le a d (k_ru c a); omega
theorem k_ru_n {a e : Nat} (ha : a < 2 ^ 29) (he : 1 ≤ e) (he2 : e < 2 ^ 29) : x_div ((nI a + nI e) - 1) (nI e) = some (nI (k_ru a e)) := by
  unfold x_div
  rw [if_neg (nI_ne0 (by omega) (by omega)), nI_add]
  have : nI (a + e) - 1 = nI (a + e - 1) := by
    obtain ⟨q, hq⟩ : ∃ q, a + e = q + 1 := ⟨a + e - 1, by omega⟩
    rw [hq, nI_pred]; rfl
  rw [this, pk_div (by omega) (by omega) (by omega)]
  rfl
section KLV
variable {wz : Nat}
variable {N : Nat} {f : XM} {b : Nat} {T : KT}
theorem k_lev_loop {a : Nat} (ha : 2 ≤ a) (ha2 : a ≤ 100) : ∀ (d s fuel c lv : Nat), s + d = 32 → d < fuel → c < 2 ^ 28 →
    F_X4_levelsAbove_L14 N f (nI a) (fun _ y3 _ => some y3) fuel (nI c) (nI lv) (nI s) = some (nI (lv + k_lv a d c)) := by
  intro d
  induction d with
  | zero =>
    intro s fuel c lv h1 h2 h3
    obtain ⟨u, rfl⟩ : ∃ u, fuel = u + 1 := ⟨fuel - 1, by omega⟩
    have e : s = 32 := by omega
    subst e
    rw [F_X4_levelsAbove_L14, if_pos (show (32 : Int32) ≤ nI 32 from nI_le (a := 32) (by omega) (by omega))]
    rfl
  | succ d ih =>
    intro s fuel c lv h1 h2 h3
    obtain ⟨u, rfl⟩ : ∃ u, fuel = u + 1 := ⟨fuel - 1, by omega⟩
    rw [F_X4_levelsAbove_L14, if_neg (show ¬ (32 : Int32) ≤ nI s from nI_ge (b := 32) (by omega) (by omega))]
    unfold k_lv
    by_cases g : c ≤ 1
    · rw [if_pos (show nI c ≤ 1 from nI_le (b := 1) g (by omega)), if_pos g]
      rfl
    · rw [if_neg (show ¬ nI c ≤ 1 from nI_ge (a := 1) (by omega) (by omega)), if_neg g, k_ru_n (by omega) (by omega) (by omega), Option.bind_some, k_add1, k_add1]
      have hle := k_ru_le (a := a) (c := c) (by omega)
      rw [ih (s + 1) u (k_ru c a) (lv + 1) (by omega) (by omega) (by omega)]
      congr 2
      omega
theorem k_levelsAbove (hN : 1000 ≤ N) {a c : Nat} (ha : 2 ≤ a) (ha2 : a ≤ 100) (hc : c < 2 ^ 28) : F_X4_levelsAbove N f (nI c) (nI a) = some (nI (k_lv a 32 c)) := by
  rw [F_X4_levelsAbove, if_pos (show (2 : Int32) ≤ nI a from nI_le (a := 2) ha (by omega))]
  have := k_lev_loop (N := N) (f := f) ha ha2 32 0 N c 0 (by omega) (by omega) hc
  rw [Nat.zero_add] at this
  exact this
theorem k_roundedUp {a e : Nat} (ha : a < 2 ^ 29) (he : 1 ≤ e) (he2 : e < 2 ^ 29) : F_X4_roundedUp N f (nI a) (nI e) = some (nI (k_ru a e)) := by
  rw [F_X4_roundedUp, if_pos (show (1 : Int32) ≤ nI e from nI_le (a := 1) he (by omega)), k_ru_n ha he he2]
  rfl
/-- the tree's numbers -/
def k_u (x : Int32) : Nat := x.toInt.toNat
theorem k_u_n {n : Nat} (h : n < 2 ^ 31) : k_u (nI n) = n := by
  unfold k_u
  rw [nI_toInt h]
  rfl
theorem k_sm.e {x : Int32} {lo hi : Nat} (h : k_sm x lo hi) (hh : hi < 2 ^ 31) : x = nI (k_u x) ∧ lo ≤ k_u x ∧ k_u x ≤ hi := by
  obtain ⟨j, rfl, h1, h2⟩ := h
  rw [k_u_n (by omega)]
  exact ⟨rfl, h1, h2⟩
def k_tlv (T : KT) : Nat := k_lv (k_u T.2.2.2.2.2) 32 T.2.2.1
theorem k_levelCount (hN : 1000 ≤ N) (h : k_tree f b T) (hw : k_wt T) : F_X4_levelCount N f b = some (nI (k_tlv T)) := by
  have h5 := h.2.2.2.2
  simp only [F_X4_levelCount, h.l, h.nl, Option.bind_some]
  unfold k_tlv
  rcases hw.2.2.2.2.2.2.2.2 with ⟨z1, z2, z3⟩ | ⟨z2, z3⟩
  · rw [z1, z3, F_X4_levelsAbove, if_neg (by decide)]
    rfl
  · obtain ⟨e1, e2, e3⟩ := z3.e (by omega)
    rw [e1, k_levelsAbove hN e2 (by omega) (by omega), ← e1]
    rfl
theorem k_nd_loop (h : k_tree f b T) {a D : Nat} (ha : T.2.2.2.2.2 = nI a) (ha1 : 1 ≤ a) (ha2 : a ≤ 100) (hD : D ≤ 32) : ∀ (d fuel i c : Nat), i + d = D → d < fuel → c < 2 ^ 28 →
    F_X4_nodeCount_L7 N f b (nI D - 1) (fun y _ => some y) fuel (nI c) (nI i) = some (nI (k_nc a d c)) := by
  have eD : (nI D - 1).toInt = (D : Int) - 1 := pk_sub_toInt (a := D) (b := 1) (by omega) (by omega)
  intro d
  induction d with
  | zero =>
    intro fuel i c h1 h2 h3
    obtain ⟨u, rfl⟩ : ∃ u, fuel = u + 1 := ⟨fuel - 1, by omega⟩
    rw [F_X4_nodeCount_L7, if_pos (by rw [k_i_lt, eD, nI_toInt (by omega)]; omega)]
    rfl
  | succ d ih =>
    intro fuel i c h1 h2 h3
    obtain ⟨u, rfl⟩ : ∃ u, fuel = u + 1 := ⟨fuel - 1, by omega⟩
    have hle := k_ru_le (c := c) ha1
    rw [F_X4_nodeCount_L7, if_neg (by rw [k_i_lt, eD, nI_toInt (by omega)]; omega), if_neg (show ¬ (32 : Int32) ≤ nI i from nI_ge (b := 32) (by omega) (by omega))]
    simp only [h.nl, Option.bind_some, ha, k_roundedUp (N := N) (f := f) (show c < 2 ^ 29 by omega) ha1 (show a < 2 ^ 29 by omega), k_add1]
    exact ih u (i + 1) (k_ru c a) (by omega) (by omega) (by omega)
theorem k_nodeCount (hN : 1000 ≤ N) (h : k_tree f b T) {a D : Nat} (ha : T.2.2.2.2.2 = nI a) (ha1 : 1 ≤ a) (ha2 : a ≤ 100) (hD : D ≤ 32) : F_X4_nodeCount N f b (nI D - 1) = some (nI (k_nc a D T.2.2.1)) := by
  have h5 := h.2.2.2.2
  simp only [F_X4_nodeCount, h.l, Option.bind_some]
  exact k_nd_loop h ha ha1 ha2 hD D N 0 T.2.2.1 (by omega) (by omega) (by omega)
theorem k_nb_loop (h : k_tree f b T) {a D : Nat} (ha : T.2.2.2.2.2 = nI a) (ha1 : 1 ≤ a) (hD : D ≤ 32) : ∀ (d fuel i x : Nat), i + d = D → d < fuel → x * a ^ d < T.2.2.1 →
    F_X4_nodeBound_L5 N f b (nI D - 1) (fun y3_4 y4_4 => (x_cv f 4 b (F_X4_boundOn N f b y3_4)).bind fun z5 => some z5) fuel (nI x) (nI i) = some (T.2.2.2.1 (x * a ^ d)) := by
  have h5 := h.2.2.2.2
  have eD : (nI D - 1).toInt = (D : Int) - 1 := pk_sub_toInt (a := D) (b := 1) (by omega) (by omega)
  intro d
  induction d with
  | zero =>
    intro fuel i x h1 h2 h3
    obtain ⟨u, rfl⟩ : ∃ u, fuel = u + 1 := ⟨fuel - 1, by omega⟩
    rw [Nat.pow_zero, Nat.mul_one] at h3 ⊢
    rw [F_X4_nodeBound_L5, if_pos (by rw [k_i_lt, eD, nI_toInt (by omega)]; omega)]
    simp only [h.cv, k_boundOn h (l := x) (by omega), Option.bind_some]
    unfold k_bd
    rw [if_pos h3]
  | succ d ih =>
    intro fuel i x h1 h2 h3
    obtain ⟨u, rfl⟩ : ∃ u, fuel = u + 1 := ⟨fuel - 1, by omega⟩
    have hp : x * a * a ^ d = x * a ^ (d + 1) := by rw [Nat.pow_succ, Nat.mul_assoc, Nat.mul_comm a]
    have hpos : 1 ≤ a ^ (d + 1) := Nat.pow_pos (show 0 < a by omega)
    have hx : x < T.2.2.1 := by
      have : x * 1 ≤ x * a ^ (d + 1) := Nat.mul_le_mul_left _ hpos
      omega
    rw [F_X4_nodeBound_L5, if_neg (by rw [k_i_lt, eD, nI_toInt (by omega)]; omega), if_neg (show ¬ (32 : Int32) ≤ nI i from nI_ge (b := 32) (by omega) (by omega))]
    simp only [h.nl, h.l, Option.bind_some, ha, pk_mul, k_add1]
    rw [if_neg (nI_ge hx (by omega)), ← hp]
    exact ih u (i + 1) (x * a) (by omega) (by omega) (by rw [hp]; exact h3)
theorem k_nodeBound (hN : 1000 ≤ N) (h : k_tree f b T) {a D x : Nat} (ha : T.2.2.2.2.2 = nI a) (ha1 : 1 ≤ a) (hD : D ≤ 32) (hx : x < k_nc a D T.2.2.1) : F_X4_nodeBound N f b (nI D - 1) (nI x) = some (T.2.2.2.1 (x * a ^ D)) :=
  k_nb_loop h ha ha1 hD D N 0 x (by omega) (by omega) (k_nc_mul ha1 _ _ _ hx)
/-- the pages of a key in the tree -/
def k_bh (T : KT) (k : Int32) : Nat := if k_pl T.1.1 T.1.2.1 k < T.1.1 then k_u (T.2.1 (k_pl T.1.1 T.1.2.1 k)) else k_ovf T (k_lf T k - 1)
def k_tpg (T : KT) (k : Int32) : Nat := if T.2.2.1 = 0 then 0 else k_tlv T + 1 + k_ru (k_bh T k) (k_u T.2.2.2.2.1)
theorem k_bh_le {T : KT} (hw : k_wt T) (k : Int32) : k_bh T k ≤ 160 := by
  unfold k_bh
  split
  · exact ((hw.2.2.2.2.2.2.2.1 _ (by assumption)).e (by omega)).2.2
  · have := k_cnt_le (fun i => k_inl T (k_lf T k - 1) (T.1.2.1 i) && decide (0 < T.2.1 i)) T.1.1
    have := hw.2.2.1
    unfold k_ovf
    omega
theorem k_tpagesRead (hN : 1000 ≤ N) (h : k_tree f b T) (hw : k_wt T) {k : Int32} (hk : 0 ≤ k.toInt) : F_X4_pagesRead N f b k = some (nI (k_tpg T k)) := by
  have h5 := h.2.2.2.2
  have hlf := k_lf_le T k
  unfold k_tpg
  simp only [F_X4_pagesRead, h.cv, k_leafOfKey hN h hw, Option.bind_some]
  by_cases z : T.2.2.1 = 0
  · have e : k_lf T k = 0 := by omega
    rw [e, if_pos (by decide), if_pos z]
    rfl
  · have hp := k_lf_pos hw hk (by omega)
    obtain ⟨q, hq⟩ : ∃ q, k_lf T k = q + 1 := ⟨k_lf T k - 1, by omega⟩
    have hb := k_bh_le hw k
    obtain ⟨e1, e2, e3⟩ := (show k_sm T.2.2.2.2.1 2 8 by
      rcases hw.2.2.2.2.2.2.2.2 with ⟨z1, z2, z3⟩ | ⟨z2, z3⟩
      · exact absurd z1 z
      · exact z2).e (by omega)
    have htl : k_tlv T ≤ 32 := k_lv_le _ _ _
    have hru : k_ru (k_bh T k) (k_u T.2.2.2.2.1) ≤ 160 := Nat.le_trans (k_ru_le (by omega)) hb
    rw [if_neg z, hq, nI_pred, if_neg (k_nim1 q (by omega))]
    simp only [h.r, h.row.cv, k_placeOf hN h.row hw.1, Option.bind_some]
    unfold k_bh at hb hru ⊢
    by_cases g : k_pl T.1.1 T.1.2.1 k < T.1.1
    · rw [if_pos g] at hb hru ⊢
      rw [if_pos g, if_neg (k_nim1 _ (by have := h.row.le; omega))]
      obtain ⟨p1, p2, p3⟩ := (hw.2.2.2.2.2.2.2.1 _ g).e (by omega)
      simp only [k_placeOn h g, k_levelCount hN h hw, h.il, Option.bind_some]
      rw [p1, e1, k_roundedUp (by omega) (by omega) (by omega)]
      simp only [Option.bind_some, k_add1, nI_add]
      rw [← p1, ← e1]
    · rw [if_neg g] at hb hru ⊢
      rw [if_neg g, if_pos rfl]
      simp only [k_overflowCount hN h hw (l := q) (by omega), k_levelCount hN h hw, h.il, Option.bind_some]
      rw [hq] at hb hru ⊢
      simp only [Nat.add_sub_cancel] at hb hru ⊢
      rw [e1, k_roundedUp (by omega) (by omega) (by omega)]
      simp only [Option.bind_some, k_add1, nI_add]
      rw [← e1]
end KLV

