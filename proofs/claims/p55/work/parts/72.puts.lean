/-! Calls that may change: runs. -/
theorem k_reqKey {N : Nat} {f : XM} (k : Int32) : F_X5_requireKey N f k = some (if 0 ≤ k.toInt ∧ k.toInt ≤ 9999 then .inl () else .inr 0) := by
  have e0 : (0 : Int32).toInt = 0 := rfl
  have e1 : (9999 : Int32).toInt = 9999 := rfl
  unfold F_X5_requireKey
  by_cases g : k < 0
  · rw [if_pos g, if_neg (by rw [k_i_lt, e0] at g; omega)]
  · rw [if_neg g]
    by_cases g2 : k ≤ 9999
    · rw [if_pos g2, if_pos (by rw [k_i_lt, e0] at g; rw [k_i_le, e1] at g2; omega)]
    · rw [if_neg g2, if_neg (by rw [k_i_le, e1] at g2; omega)]
theorem k_reqVal {N : Nat} {f : XM} (k : Int32) : F_X5_requireValue N f k = some (if 0 ≤ k.toInt ∧ k.toInt ≤ 99 then .inl () else .inr 0) := by
  have e0 : (0 : Int32).toInt = 0 := rfl
  have e1 : (99 : Int32).toInt = 99 := rfl
  unfold F_X5_requireValue
  by_cases g : k < 0
  · rw [if_pos g, if_neg (by rw [k_i_lt, e0] at g; omega)]
  · rw [if_neg g]
    by_cases g2 : k ≤ 99
    · rw [if_pos g2, if_pos (by rw [k_i_lt, e0] at g; rw [k_i_le, e1] at g2; omega)]
    · rw [if_neg g2, if_neg (by rw [k_i_le, e1] at g2; omega)]
theorem k_reqFill {N : Nat} {f : XM} (k : Int32) : F_X5_requireFill N f k = some (if 50 ≤ k.toInt ∧ k.toInt ≤ 100 then .inl () else .inr 0) := by
  have e0 : (50 : Int32).toInt = 50 := rfl
  have e1 : (100 : Int32).toInt = 100 := rfl
  unfold F_X5_requireFill
  by_cases g : k < 50
  · rw [if_pos g, if_neg (by rw [k_i_lt, e0] at g; omega)]
  · rw [if_neg g]
    by_cases g2 : k ≤ 100
    · rw [if_pos g2, if_pos (by rw [k_i_lt, e0] at g; rw [k_i_le, e1] at g2; omega)]
    · rw [if_neg g2, if_neg (by rw [k_i_le, e1] at g2; omega)]
theorem k_xb1 {c : Prop} {hc : Decidable c} (h : c) : ¬ x_b (@decide c hc) = 0 := by rw [decide_eq_true h]; decide
theorem k_xb0 {c : Prop} {hc : Decidable c} (h : ¬ c) : x_b (@decide c hc) = 0 := by rw [decide_eq_false h]; rfl
/-- arguments refused, the call itself refused, or granted -/
def k_ex3 (a b : Bool) : Option Nat := if a then (if b then none else some 1) else some 0
theorem k_ex3_or (a b : Bool) : k_ex3 a b = none ∨ k_ex3 a b = some 0 ∨ k_ex3 a b = some 1 := by cases a <;> cases b <;> simp [k_ex3]
def k_ex2 (b : Bool) : Option Nat := if b then none else some 1
theorem k_ex2_or (b : Bool) : k_ex2 b = none ∨ k_ex2 b = some 1 := by cases b <;> simp [k_ex2]
section KPU
variable {wz : Nat}
variable {N : Nat} {f : XM} {x n len : Nat} {q : Nat → Option Nat} {St : Nat → KS} {S : KS} {bf : Nat → Int32} {c m hs : Nat}
def k_room (S : KS) (k : Int32) : Bool := decide (k_pl (S.2.1 0).1 (S.2.1 0).2.1 k < (S.2.1 0).1 ∨ (S.2.1 0).1 < 12)
theorem k_xtell (hN : 50000 ≤ N) (h : k_ci f x wz n q St S bf len) (hd : ∀ (a : Nat) (e : XE), f a = some e → a < hs) (hx : x + 70 ≤ hs ∧ wz ≤ hs) (hw : k_ws S) (k v : Int32) : k_cx f x wz n q St S bf len (k_ex2 (k_room S k)) (nI (k_wr (S.2.1 0) k v).1) (k_s0 S (k_wr (S.2.1 0) k v))
    ((x_getr f 5 x 1).bind fun v4 => (x_getr f 5 x 0).bind fun v5 => Option.bind v5 fun a6 => Option.bind v4 fun a7 => (x_cv f 3 a7 (F_X3_copyFrom N f a7 a6)).bind fun z8 => (x_getr z8 5 x 0).bind fun v9 => Option.bind v9 fun a10 => (x_cv z8 3 a10 (F_X3_tell N z8 a10 k v)).bind fun z11 => k_cs N hs x z11) := by
  obtain ⟨sp, f1, a1, a2, a3, a4, a5, a6⟩ := k_ccopy (N := N) (by omega) h hd
  have ht := k_tell (N := N) (by omega) a4.st (hw.2.1 0 (Nat.zero_le _)) k v
  have h12 := hw.2.2.1
  simp only [a1, h.now, Option.bind_some, a2, a3, a4.now, a4.st.cv]
  unfold k_room
  by_cases g : k_pl (S.2.1 0).1 (S.2.1 0).2.1 k < (S.2.1 0).1 ∨ (S.2.1 0).1 < 12
  · rw [if_pos g] at ht
    obtain ⟨f2, b1, b2, b3⟩ := ht
    rw [b1, Option.bind_some, decide_eq_true g]
    refine k_cx_yes (by omega) a4 a5 a6 hx (k_fr2.ofb b3 (Nat.le_refl _) (by omega)) b2 (a4.gat.ext (fun a c d => b3 a (by omega))) (fun e => k_nim1 _ ?_ e)
    rw [k_wr_n]
    split <;> omega
  · rw [if_neg g] at ht
    rw [ht, Option.bind_some, decide_eq_false g]
    exact k_cx_no a4 a5 k_fr2.rf a4.st a4.gat
theorem k_xput (hN : 50000 ≤ N) (h : k_ci f x wz n q St S bf len) (hd : ∀ (a : Nat) (e : XE), f a = some e → a < hs) (hx : x + 70 ≤ hs ∧ wz ≤ hs) (hw : k_ws S) (k v : Int32) : k_cx f x wz n q St S bf len (k_ex3 (decide ((0 ≤ k.toInt ∧ k.toInt ≤ 9999) ∧ 0 ≤ v.toInt ∧ v.toInt ≤ 99)) (k_room S k)) (nI (k_wr (S.2.1 0) k v).1) (k_s0 S (k_wr (S.2.1 0) k v)) (F_X5_put N (f, hs) x k v) := by
  unfold F_X5_put
  rw [k_reqKey, Option.bind_some]
  by_cases g : 0 ≤ k.toInt ∧ k.toInt ≤ 9999
  · rw [if_pos g]
    show k_cx _ _ _ _ _ _ _ _ _ _ _ _ ((F_X5_requireValue N f v).bind _)
    rw [k_reqVal, Option.bind_some]
    by_cases g2 : 0 ≤ v.toInt ∧ v.toInt ≤ 99
    · rw [if_pos g2, decide_eq_true ⟨g, g2⟩]
      exact k_xtell hN h hd hx hw k v
    · rw [if_neg g2, decide_eq_false (fun y => g2 y.2)]
      exact k_cx_bad h
  · rw [if_neg g, decide_eq_false (fun y => g y.1)]
    exact k_cx_bad h
theorem k_xdrop (hN : 50000 ≤ N) (h : k_ci f x wz n q St S bf len) (hd : ∀ (a : Nat) (e : XE), f a = some e → a < hs) (hx : x + 70 ≤ hs ∧ wz ≤ hs) (hw : k_ws S) (k : Int32) : k_cx f x wz n q St S bf len (k_ex3 (decide (0 ≤ k.toInt ∧ k.toInt ≤ 9999)) (k_room S k)) (nI (k_wr (S.2.1 0) k (-1)).1) (k_s0 S (k_wr (S.2.1 0) k (-1))) (F_X5_drop N (f, hs) x k) := by
  unfold F_X5_drop
  rw [k_reqKey, Option.bind_some]
  by_cases g : 0 ≤ k.toInt ∧ k.toInt ≤ 9999
  · rw [if_pos g, decide_eq_true g]
    exact k_xtell hN h hd hx hw k (-1)
  · rw [if_neg g, decide_eq_false g]
    exact k_cx_bad h
theorem k_xclose (hN : 50000 ≤ N) (h : k_ci f x wz n q St S bf len) (hd : ∀ (a : Nat) (e : XE), f a = some e → a < hs) (hx : x + 70 ≤ hs ∧ wz ≤ hs) (hw : k_ws S) : k_cx f x wz n q St S bf len (k_ex2 (decide (¬ ((S.2.1 0).1 = 0 ∨ S.1 = 6)))) (nI (S.1 + 1)) (k_scl S) (F_X5_closeRun N (f, hs) x) := by
  obtain ⟨sp, f1, a1, a2, a3, a4, a5, a6⟩ := k_ccopy (N := N) (by omega) h hd
  have ht := k_closeOpen (N := N) (by omega) a4.st
  have h6 := hw.1
  unfold F_X5_closeRun
  simp only [a1, h.now, Option.bind_some, a2, a3, a4.now, a4.st.cv]
  by_cases g : (S.2.1 0).1 = 0 ∨ S.1 = 6
  · rw [if_pos g] at ht
    rw [ht, Option.bind_some, decide_eq_false (fun y => y g)]
    exact k_cx_no a4 a5 k_fr2.rf a4.st a4.gat
  · rw [if_neg g] at ht
    obtain ⟨f2, b1, b2, b3⟩ := ht
    rw [b1, Option.bind_some, decide_eq_true g]
    exact k_cx_yes (by omega) a4 a5 a6 hx (k_fr2.ofb b3 (Nat.le_refl _) (by omega)) b2 (a4.gat.ext (fun a c d => b3 a (by omega))) (fun e => k_nim1 _ (by omega) e)
end KPU

