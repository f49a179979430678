/-! The reader of orders: its picture, and what the class's reader does. -/
abbrev KQ : Type := Int32 × Int32 × Int32 × Int32
def k_dg (k : Int32) : Bool := decide (48 ≤ k.toInt ∧ k.toInt ≤ 57)
def k_cpl (q : KQ) : Bool := decide (q.1 = 7 ∨ q.1 = 4 ∨ (q.1 = 2 ∧ q.2.1 ≠ 112 ∧ q.2.1 ≠ 105))
def k_rdL (k : Int32) : KQ := (if k = 98 then 5 else if k = 99 then 7 else if k = 100 then 1 else if k = 101 then 1 else if k = 105 then 1 else if k = 112 then 1 else 8, k, 0, 0)
def k_rdK (q : KQ) (k : Int32) : KQ := if k = 61 ∧ q.1 = 2 ∧ (q.2.1 = 112 ∨ q.2.1 = 105) then (3, q.2) else if k_dg k = false then (8, q.2) else if q.1 = 2 ∧ q.2.2.1 = 0 then (8, q.2) else (if q.2.2.1 * 10 + k - 48 ≤ 9999 then 2 else 8, q.2.1, q.2.2.1 * 10 + k - 48, q.2.2.2)
def k_rdV (q : KQ) (k : Int32) : KQ := if k_dg k = false then (8, q.2) else if q.1 = 4 ∧ q.2.2.2 = 0 then (8, q.2) else (if q.2.2.2 * 10 + k - 48 ≤ 99 then 4 else 8, q.2.1, q.2.2.1, q.2.2.2 * 10 + k - 48)
def k_fll (w : Int32) : Int32 := if 50 ≤ w.toInt ∧ w.toInt ≤ 100 then 7 else if w = 1 ∨ w = 10 ∨ (5 ≤ w.toInt ∧ w.toInt ≤ 9) then 6 else 8
def k_rdF (q : KQ) (k : Int32) : KQ := if k_dg k = false then (8, q.2) else (k_fll (q.2.2.1 * 10 + k - 48), q.2.1, q.2.2.1 * 10 + k - 48, q.2.2.2)
def k_rdM (q : KQ) (k : Int32) : KQ := if q.1 = 0 then k_rdL k else if q.1 = 1 then k_rdK q k else if q.1 = 2 then k_rdK q k else if q.1 = 3 then k_rdV q k else if q.1 = 4 then k_rdV q k else if q.1 = 5 then k_rdF q k else if q.1 = 6 then k_rdF q k else (8, q.2)
def k_rd (q : KQ) (k : Int32) : KQ := if k = 59 ∧ k_cpl q = true then (0, q.2) else k_rdM q k
/-- the reader behind so many letters -/
def k_rs (bf : Nat → Int32) : Nat → KQ
  | 0 => (0, 0, 0, 0)
  | i + 1 => k_rd (k_rs bf i) (bf i)
theorem k_rd8 {q : KQ} (h : q.1 = 8) (k : Int32) : (k_rd q k).1 = 8 := by
  have hc : k_cpl q = false := decide_eq_false (fun y => by
    rw [h] at y
    rcases y with y | y | y
    · exact absurd y (by decide)
    · exact absurd y (by decide)
    · exact absurd y.1 (by decide))
  unfold k_rd k_rdM
  rw [hc, if_neg (fun y => absurd y.2 (by decide)), h]
  rfl
theorem k_rs8 {bf : Nat → Int32} {i : Nat} (h : (k_rs bf i).1 = 8) : ∀ d, (k_rs bf (i + d)).1 = 8
  | 0 => h
  | d + 1 => k_rd8 (k_rs8 h d) _
/-- the place of the first error, or the end -/
def k_er (bf : Nat → Int32) (len e : Nat) : Prop := e ≤ len ∧ (k_rs bf e).1 ≠ 8 ∧ (e < len → (k_rs bf (e + 1)).1 = 8)
theorem k_er.le {bf : Nat → Int32} {len e e' : Nat} (h : k_er bf len e) (h' : k_er bf len e') : e' ≤ e := by
  rcases Nat.lt_or_ge e e' with y | y
  · exfalso
    have h1 := h.2.2 (by have := h'.1; omega)
    have h2 := k_rs8 h1 (e' - (e + 1))
    rw [show e + 1 + (e' - (e + 1)) = e' by omega] at h2
    exact h'.2.1 h2
  · exact y
theorem k_er.eq {bf : Nat → Int32} {len e e' : Nat} (h : k_er bf len e) (h' : k_er bf len e') : e = e' := Nat.le_antisymm (h'.le h) (h.le h')
def k_rq (f : XM) (p : Nat) (q : KQ) : Prop := f p = some (.inr (1, [.int q.1, .int q.2.1, .int q.2.2.1, .int q.2.2.2]))
section KRD
variable {wz : Nat}
variable {N : Nat} {f : XM} {p : Nat} {q : KQ}
theorem k_rq.cv {β : Type} {o : Option β} (h : k_rq f p q) : x_cv f 1 p o = o := k_cv h
theorem k_rq.g0 (h : k_rq f p q) : x_geti f 1 p 0 = some q.1 := k_geti h rfl
theorem k_rq.g1 (h : k_rq f p q) : x_geti f 1 p 1 = some q.2.1 := k_geti h rfl
theorem k_rq.g2 (h : k_rq f p q) : x_geti f 1 p 2 = some q.2.2.1 := k_geti h rfl
theorem k_rq.g3 (h : k_rq f p q) : x_geti f 1 p 3 = some q.2.2.2 := k_geti h rfl
theorem k_rq.p0 (h : k_rq f p q) (v : Int32) : ∃ f', x_puti f 1 p 0 v = some f' ∧ k_rq f' p (v, q.2) ∧ k_fr f f' p (p + 1) := ⟨_, k_puti h (by simp), x_up_s, k_fr.up (Nat.le_refl _) (Nat.lt_succ_self _)⟩
theorem k_rq.p1 (h : k_rq f p q) (v : Int32) : ∃ f', x_puti f 1 p 1 v = some f' ∧ k_rq f' p (q.1, v, q.2.2) ∧ k_fr f f' p (p + 1) := ⟨_, k_puti h (by simp), x_up_s, k_fr.up (Nat.le_refl _) (Nat.lt_succ_self _)⟩
theorem k_rq.p2 (h : k_rq f p q) (v : Int32) : ∃ f', x_puti f 1 p 2 v = some f' ∧ k_rq f' p (q.1, q.2.1, v, q.2.2.2) ∧ k_fr f f' p (p + 1) := ⟨_, k_puti h (by simp), x_up_s, k_fr.up (Nat.le_refl _) (Nat.lt_succ_self _)⟩
theorem k_rq.p3 (h : k_rq f p q) (v : Int32) : ∃ f', x_puti f 1 p 3 v = some f' ∧ k_rq f' p (q.1, q.2.1, q.2.2.1, v) ∧ k_fr f f' p (p + 1) := ⟨_, k_puti h (by simp), x_up_s, k_fr.up (Nat.le_refl _) (Nat.lt_succ_self _)⟩
theorem k_isDigit (k : Int32) : F_X1_isDigit N f k = some (k_dg k) := by
  have e1 : (48 : Int32).toInt = 48 := rfl
  have e2 : (57 : Int32).toInt = 57 := rfl
  unfold F_X1_isDigit k_dg
  by_cases g : k < 48
  · rw [if_pos g, decide_eq_false (by rw [k_i_lt, e1] at g; omega)]
  · rw [if_neg g]
    by_cases g2 : 57 < k
    · rw [if_pos g2, decide_eq_false (by rw [k_i_lt, e2] at g2; omega)]
    · rw [if_neg g2, decide_eq_true (by rw [k_i_lt, e1] at g; rw [k_i_lt, e2] at g2; omega)]
theorem k_isComplete (h : k_rq f p q) : F_X1_isComplete N f p = some (k_cpl q) := by
  unfold F_X1_isComplete k_cpl
  simp only [h.g0, h.g1, Option.bind_some]
  by_cases e1 : q.1 = 7
  · rw [if_pos e1, decide_eq_true (Or.inl e1)]
  · rw [if_neg e1]
    by_cases e2 : q.1 = 4
    · rw [if_pos e2, decide_eq_true (Or.inr (Or.inl e2))]
    · rw [if_neg e2]
      by_cases e3 : q.1 = 2
      · rw [if_pos e3]
        by_cases e4 : q.2.1 = 112
        · rw [if_pos e4, decide_eq_false (fun y => y.elim e1 (fun y => y.elim e2 (fun y => y.2.1 e4)))]
        · rw [if_neg e4]
          by_cases e5 : q.2.1 = 105
          · rw [if_pos e5, decide_eq_false (fun y => y.elim e1 (fun y => y.elim e2 (fun y => y.2.2 e5)))]
          · rw [if_neg e5, decide_eq_true (Or.inr (Or.inr ⟨e3, e4, e5⟩))]
      · rw [if_neg e3, decide_eq_false (fun y => y.elim e1 (fun y => y.elim e2 (fun y => e3 y.1)))]
theorem k_readLetter (h : k_rq f p q) (k : Int32) : ∃ f', F_X1_readLetter N f p k = some ((k_rdL k).1, f') ∧ k_rq f' p (q.1, (k_rdL k).2) ∧ k_fr f f' p (p + 1) := by
  obtain ⟨f1, a1, a2, a3⟩ := h.p1 k
  obtain ⟨f2, b1, b2, b3⟩ := a2.p2 0
  obtain ⟨f3, c1, c2, c3⟩ := b2.p3 0
  refine ⟨f3, ?_, c2, (a3.tr b3).tr c3⟩
  unfold F_X1_readLetter k_rdL
  simp only [a1, b1, c1, Option.bind_some]
  by_cases e1 : k = 98
  · rw [if_pos e1, if_pos e1]
  · rw [if_neg e1, if_neg e1]
    by_cases e2 : k = 99
    · rw [if_pos e2, if_pos e2]
    · rw [if_neg e2, if_neg e2]
      by_cases e3 : k = 100
      · rw [if_pos e3, if_pos e3]
      · rw [if_neg e3, if_neg e3]
        by_cases e4 : k = 101
        · rw [if_pos e4, if_pos e4]
        · rw [if_neg e4, if_neg e4]
          by_cases e5 : k = 105
          · rw [if_pos e5, if_pos e5]
          · rw [if_neg e5, if_neg e5]
            by_cases e6 : k = 112
            · rw [if_pos e6, if_pos e6]
            · rw [if_neg e6, if_neg e6]
theorem k_xb_dg0 {k : Int32} (h : k_dg k = false) : x_b (k_dg k) = 0 := by rw [h]; rfl
theorem k_dg_t {k : Int32} (h : ¬ k_dg k = false) : k_dg k = true := by
  cases e : k_dg k with
  | true => rfl
  | false => exact absurd e h
theorem k_xb_dg1 {k : Int32} (h : ¬ k_dg k = false) : ¬ x_b (k_dg k) = 0 := by
  rw [k_dg_t h]
  decide
def k_tlK (N : Nat) (f : XM) (p : Nat) (k : Int32) : Option (Int32 × XM) :=
  (F_X1_isDigit N f k).bind fun z1 => if (x_b z1) = 0 then some (8, f) else (x_geti f 1 p 0).bind fun v2 => if v2 = 2 then (x_geti f 1 p 2).bind fun v6 => if v6 = 0 then some (8, f) else (x_geti f 1 p 2).bind fun v7 => (x_puti f 1 p 2 (((v7 * 10) + k) - 48)).bind fun f8 => (x_geti f8 1 p 2).bind fun v9 => if v9 ≤ 9999 then some (2, f8) else some (8, f8) else (x_geti f 1 p 2).bind fun v3 => (x_puti f 1 p 2 (((v3 * 10) + k) - 48)).bind fun f4 => (x_geti f4 1 p 2).bind fun v5 => if v5 ≤ 9999 then some (2, f4) else some (8, f4)
theorem k_readKey (h : k_rq f p q) (k : Int32) : ∃ f', F_X1_readKey N f p k = some ((k_rdK q k).1, f') ∧ k_rq f' p (q.1, (k_rdK q k).2) ∧ k_fr f f' p (p + 1) := by
  obtain ⟨f1, b1, b2, b3⟩ := h.p2 (q.2.2.1 * 10 + k - 48)
  have g2 := b2.g2
  by_cases y : k = 61 ∧ q.1 = 2 ∧ (q.2.1 = 112 ∨ q.2.1 = 105)
  · refine ⟨f, ?_, by unfold k_rdK; rw [if_pos y]; exact h, k_fr.rf⟩
    unfold F_X1_readKey k_rdK
    rw [if_pos y, if_pos y.1, h.g0, Option.bind_some, if_pos y.2.1, h.g1, Option.bind_some]
    rcases y.2.2 with z | z
    · rw [if_pos z]
    · rw [if_neg (by rw [z]; decide), Option.bind_some, if_pos z]
  · have hT : F_X1_readKey N f p k = k_tlK N f p k := by
      unfold F_X1_readKey
      by_cases e1 : k = 61
      · rw [if_pos e1, h.g0, Option.bind_some]
        by_cases e2 : q.1 = 2
        · rw [if_pos e2, h.g1, Option.bind_some, if_neg (fun z => y ⟨e1, e2, Or.inl z⟩), Option.bind_some, if_neg (fun z => y ⟨e1, e2, Or.inr z⟩)]
          unfold k_tlK
          rw [h.g0]
        · rw [if_neg e2]
          unfold k_tlK
          rw [h.g0]
      · rw [if_neg e1]
        rfl
    rw [hT]
    unfold k_tlK k_rdK
    rw [if_neg y]
    by_cases d : k_dg k = false
    · refine ⟨f, ?_, by rw [if_pos d]; exact h, k_fr.rf⟩
      rw [k_isDigit, Option.bind_some, if_pos (k_xb_dg0 d), if_pos d]
    · rw [k_isDigit, Option.bind_some, if_neg (k_xb_dg1 d), if_neg d, h.g0, Option.bind_some, h.g2, Option.bind_some]
      by_cases e : q.1 = 2
      · rw [if_pos e]
        by_cases e0 : q.2.2.1 = 0
        · refine ⟨f, ?_, by rw [if_pos ⟨e, e0⟩]; exact h, k_fr.rf⟩
          rw [if_pos e0, if_pos ⟨e, e0⟩]
        · rw [if_neg (show ¬ (q.1 = 2 ∧ q.2.2.1 = 0) from fun z => e0 z.2)]
          refine ⟨f1, ?_, b2, b3⟩
          rw [if_neg e0, Option.bind_some, b1, Option.bind_some, g2, Option.bind_some]
          dsimp only
          split <;> rfl
      · rw [if_neg e, if_neg (show ¬ (q.1 = 2 ∧ q.2.2.1 = 0) from fun z => e z.1)]
        refine ⟨f1, ?_, b2, b3⟩
        rw [Option.bind_some, b1, Option.bind_some, g2, Option.bind_some]
        dsimp only
        split <;> rfl
theorem k_readValue (h : k_rq f p q) (k : Int32) : ∃ f', F_X1_readValue N f p k = some ((k_rdV q k).1, f') ∧ k_rq f' p (q.1, (k_rdV q k).2) ∧ k_fr f f' p (p + 1) := by
  obtain ⟨f1, b1, b2, b3⟩ := h.p3 (q.2.2.2 * 10 + k - 48)
  have g2 := b2.g3
  unfold F_X1_readValue k_rdV
  by_cases d : k_dg k = false
  · refine ⟨f, ?_, by rw [if_pos d]; exact h, k_fr.rf⟩
    rw [k_isDigit, Option.bind_some, if_pos (k_xb_dg0 d), if_pos d]
  · rw [k_isDigit, Option.bind_some, if_neg (k_xb_dg1 d), if_neg d, h.g0, Option.bind_some, h.g3, Option.bind_some]
    by_cases e : q.1 = 4
    · rw [if_pos e]
      by_cases e0 : q.2.2.2 = 0
      · refine ⟨f, ?_, by rw [if_pos ⟨e, e0⟩]; exact h, k_fr.rf⟩
        rw [if_pos e0, if_pos ⟨e, e0⟩]
      · rw [if_neg (show ¬ (q.1 = 4 ∧ q.2.2.2 = 0) from fun z => e0 z.2)]
        refine ⟨f1, ?_, b2, b3⟩
        rw [if_neg e0, Option.bind_some, b1, Option.bind_some, g2, Option.bind_some]
        dsimp only
        split <;> rfl
    · rw [if_neg e, if_neg (show ¬ (q.1 = 4 ∧ q.2.2.2 = 0) from fun z => e z.1)]
      refine ⟨f1, ?_, b2, b3⟩
      rw [Option.bind_some, b1, Option.bind_some, g2, Option.bind_some]
      dsimp only
      split <;> rfl
theorem k_readFill (h : k_rq f p q) (k : Int32) : ∃ f', F_X1_readFill N f p k = some ((k_rdF q k).1, f') ∧ k_rq f' p (q.1, (k_rdF q k).2) ∧ k_fr f f' p (p + 1) := by
  obtain ⟨f1, b1, b2, b3⟩ := h.p2 (q.2.2.1 * 10 + k - 48)
  have g2 := b2.g2
  have e50 : (50 : Int32).toInt = 50 := rfl
  have e100 : (100 : Int32).toInt = 100 := rfl
  have e5 : (5 : Int32).toInt = 5 := rfl
  have e9 : (9 : Int32).toInt = 9 := rfl
  unfold F_X1_readFill k_rdF
  by_cases d : k_dg k = false
  · refine ⟨f, ?_, by rw [if_pos d]; exact h, k_fr.rf⟩
    rw [k_isDigit, Option.bind_some, if_pos (k_xb_dg0 d), if_pos d]
  · rw [k_isDigit, Option.bind_some, if_neg (k_xb_dg1 d), if_neg d, h.g2, Option.bind_some, b1]
    refine ⟨f1, ?_, b2, b3⟩
    simp only [g2, Option.bind_some]
    generalize q.2.2.1 * 10 + k - 48 = w
    unfold k_fll
    have tl : (if w = 1 then some ((6 : Int32), f1) else if w = 10 then some (6, f1) else if w < 5 then some (8, f1) else if 9 < w then some (8, f1) else some (6, f1)) = some ((if w = 1 ∨ w = 10 ∨ (5 ≤ w.toInt ∧ w.toInt ≤ 9) then (6 : Int32) else 8), f1) := by
      by_cases u1 : w = 1
      · rw [if_pos u1, if_pos (Or.inl u1)]
      · rw [if_neg u1]
        by_cases u2 : w = 10
        · rw [if_pos u2, if_pos (Or.inr (Or.inl u2))]
        · rw [if_neg u2]
          by_cases u3 : w < 5
          · rw [if_pos u3, if_neg (fun y => y.elim u1 (fun y => y.elim u2 (fun y => by rw [k_i_lt, e5] at u3; omega)))]
          · rw [if_neg u3]
            by_cases u4 : 9 < w
            · rw [if_pos u4, if_neg (fun y => y.elim u1 (fun y => y.elim u2 (fun y => by rw [k_i_lt, e9] at u4; omega)))]
            · rw [if_neg u4, if_pos (Or.inr (Or.inr (by rw [k_i_lt, e5] at u3; rw [k_i_lt, e9] at u4; omega)))]
    by_cases u : w < 50
    · rw [if_pos u, if_neg (show ¬ (50 ≤ w.toInt ∧ w.toInt ≤ 100) by rw [k_i_lt, e50] at u; omega)]
      exact tl
    · rw [if_neg u]
      by_cases u2 : 100 < w
      · rw [if_pos u2, if_neg (show ¬ (50 ≤ w.toInt ∧ w.toInt ≤ 100) by rw [k_i_lt, e100] at u2; omega)]
        exact tl
      · rw [if_neg u2, if_pos (show 50 ≤ w.toInt ∧ w.toInt ≤ 100 by rw [k_i_lt, e50] at u; rw [k_i_lt, e100] at u2; omega)]
def k_tlM (N : Nat) (f : XM) (p : Nat) (k v : Int32) : Option (Int32 × XM) :=
  if v = 0 then (x_cv f 1 p (F_X1_readLetter N f p k)).bind fun z => some (z.1, z.2) else if v = 1 then (x_cv f 1 p (F_X1_readKey N f p k)).bind fun z => some (z.1, z.2) else if v = 2 then (x_cv f 1 p (F_X1_readKey N f p k)).bind fun z => some (z.1, z.2) else if v = 3 then (x_cv f 1 p (F_X1_readValue N f p k)).bind fun z => some (z.1, z.2) else if v = 4 then (x_cv f 1 p (F_X1_readValue N f p k)).bind fun z => some (z.1, z.2) else if v = 5 then (x_cv f 1 p (F_X1_readFill N f p k)).bind fun z => some (z.1, z.2) else if v = 6 then (x_cv f 1 p (F_X1_readFill N f p k)).bind fun z => some (z.1, z.2) else some (8, f)
theorem k_tlM_is (h : k_rq f p q) (k : Int32) : ∃ f', k_tlM N f p k q.1 = some ((k_rdM q k).1, f') ∧ k_rq f' p (q.1, (k_rdM q k).2) ∧ k_fr f f' p (p + 1) := by
  unfold k_tlM k_rdM
  simp only [h.cv]
  by_cases e0 : q.1 = 0
  · rw [if_pos e0, if_pos e0]
    obtain ⟨f1, a1, a2, a3⟩ := k_readLetter (N := N) h k
    exact ⟨f1, by rw [a1]; rfl, a2, a3⟩
  · rw [if_neg e0, if_neg e0]
    by_cases e1 : q.1 = 1
    · rw [if_pos e1, if_pos e1]
      obtain ⟨f1, a1, a2, a3⟩ := k_readKey (N := N) h k
      exact ⟨f1, by rw [a1]; rfl, a2, a3⟩
    · rw [if_neg e1, if_neg e1]
      by_cases e2 : q.1 = 2
      · rw [if_pos e2, if_pos e2]
        obtain ⟨f1, a1, a2, a3⟩ := k_readKey (N := N) h k
        exact ⟨f1, by rw [a1]; rfl, a2, a3⟩
      · rw [if_neg e2, if_neg e2]
        by_cases e3 : q.1 = 3
        · rw [if_pos e3, if_pos e3]
          obtain ⟨f1, a1, a2, a3⟩ := k_readValue (N := N) h k
          exact ⟨f1, by rw [a1]; rfl, a2, a3⟩
        · rw [if_neg e3, if_neg e3]
          by_cases e4 : q.1 = 4
          · rw [if_pos e4, if_pos e4]
            obtain ⟨f1, a1, a2, a3⟩ := k_readValue (N := N) h k
            exact ⟨f1, by rw [a1]; rfl, a2, a3⟩
          · rw [if_neg e4, if_neg e4]
            by_cases e5 : q.1 = 5
            · rw [if_pos e5, if_pos e5]
              obtain ⟨f1, a1, a2, a3⟩ := k_readFill (N := N) h k
              exact ⟨f1, by rw [a1]; rfl, a2, a3⟩
            · rw [if_neg e5, if_neg e5]
              by_cases e6 : q.1 = 6
              · rw [if_pos e6, if_pos e6]
                obtain ⟨f1, a1, a2, a3⟩ := k_readFill (N := N) h k
                exact ⟨f1, by rw [a1]; rfl, a2, a3⟩
              · rw [if_neg e6, if_neg e6]
                exact ⟨f, rfl, h, k_fr.rf⟩
theorem k_modeAfter (h : k_rq f p q) (k : Int32) : ∃ f', F_X1_modeAfter N f p k = some ((k_rd q k).1, f') ∧ k_rq f' p (q.1, (k_rd q k).2) ∧ k_fr f f' p (p + 1) := by
  obtain ⟨f1, a1, a2, a3⟩ := k_tlM_is (N := N) h k
  unfold F_X1_modeAfter k_rd
  by_cases e : k = 59
  · rw [if_pos e, h.cv, k_isComplete h, Option.bind_some]
    cases hc : k_cpl q with
    | true =>
      refine ⟨f, ?_, by rw [if_pos ⟨e, rfl⟩]; exact h, k_fr.rf⟩
      rw [if_neg (show ¬ x_b true = 0 by decide), if_pos ⟨e, rfl⟩]
    | false =>
      rw [if_pos (show x_b false = 0 from rfl), h.g0, Option.bind_some, if_neg (show ¬ (k = 59 ∧ false = true) from fun y => absurd y.2 (by decide))]
      exact ⟨f1, a1, a2, a3⟩
  · rw [if_neg e, h.g0, Option.bind_some, if_neg (show ¬ (k = 59 ∧ k_cpl q = true) from fun y => e y.1)]
    exact ⟨f1, a1, a2, a3⟩
theorem k_accepts (h : k_rq f p q) (k : Int32) : ∃ f', F_X1_accepts N f p k = some (decide (¬ (k_rd q k).1 = 8), f') ∧ k_rq f' p (k_rd q k) ∧ k_fr f f' p (p + 1) := by
  obtain ⟨f1, a1, a2, a3⟩ := k_modeAfter (N := N) h k
  obtain ⟨f2, b1, b2, b3⟩ := a2.p0 (k_rd q k).1
  refine ⟨f2, ?_, b2, a3.tr b3⟩
  have g0 := b2.g0
  unfold F_X1_accepts
  rw [h.cv, a1, Option.bind_some, b1, Option.bind_some, g0, Option.bind_some]
  dsimp only
  by_cases e : (k_rd q k).1 = 8
  · rw [if_pos e, decide_eq_false (fun y => y e)]
  · rw [if_neg e, decide_eq_true e]
theorem k_rbegin (h : k_rq f p q) : ∃ f', F_X1_begin N f p = some f' ∧ k_rq f' p (0, 0, 0, 0) ∧ k_fr f f' p (p + 1) := by
  obtain ⟨f1, a1, a2, a3⟩ := h.p0 0
  obtain ⟨f2, b1, b2, b3⟩ := a2.p1 0
  obtain ⟨f3, c1, c2, c3⟩ := b2.p2 0
  obtain ⟨f4, d1, d2, d3⟩ := c2.p3 0
  refine ⟨f4, ?_, d2, ((a3.tr b3).tr c3).tr d3⟩
  unfold F_X1_begin
  rw [a1, Option.bind_some, b1, Option.bind_some, c1, Option.bind_some, d1, Option.bind_some]
theorem k_err_loop {b len : Nat} {bf : Nat → Int32} (hb : b ≠ p) (hlen : len ≤ 60) : ∀ (d fuel i : Nat) (f : XM), i + d = len → d < fuel → f b = some (.inl (.int, 60, .inl bf)) → k_rq f p (k_rs bf i) → (k_rs bf i).1 ≠ 8 →
    ∃ (e : Nat) (f' : XM), F_X1_errorIn_L6 N p b (nI len) (fun y3_6 g6 => some (nI len, g6)) fuel (nI i) f = some (nI e, f') ∧ k_er bf len e ∧ k_rq f' p (k_rs bf (if e < len then e + 1 else e)) ∧ k_fr f f' p (p + 1) := by
  intro d
  induction d with
  | zero =>
    intro fuel i f h1 h2 hf hq h8
    obtain ⟨u, rfl⟩ : ∃ u, fuel = u + 1 := ⟨fuel - 1, by omega⟩
    refine ⟨len, f, ?_, ⟨Nat.le_refl _, by rw [show len = i by omega]; exact h8, fun y => absurd y (Nat.lt_irrefl _)⟩, ?_, k_fr.rf⟩
    · rw [F_X1_errorIn_L6, if_pos (nI_le (by omega) (by omega))]
    · rw [if_neg (Nat.lt_irrefl _), show len = i by omega]
      exact hq
  | succ d ih =>
    intro fuel i f h1 h2 hf hq h8
    obtain ⟨u, rfl⟩ : ∃ u, fuel = u + 1 := ⟨fuel - 1, by omega⟩
    obtain ⟨f1, a1, a2, a3⟩ := k_accepts (N := N) hq (bf i)
    rw [F_X1_errorIn_L6, if_neg (nI_ge (by omega) (by omega)), k_alen hf, Option.bind_some, if_neg (nI_ge (by omega) (by omega)), k_ald hf (i := i) (by omega) (by omega), Option.bind_some, hq.cv, a1, Option.bind_some]
    dsimp only
    by_cases g : (k_rd (k_rs bf i) (bf i)).1 = 8
    · rw [if_pos (k_xb0 (fun y => y g))]
      refine ⟨i, f1, rfl, ⟨by omega, h8, fun _ => g⟩, ?_, a3⟩
      rw [if_pos (by omega)]
      exact a2
    · rw [if_neg (k_xb1 g), k_add1]
      obtain ⟨e, f', c1, c2, c3, c4⟩ := ih u (i + 1) f1 (by omega) (by omega) ((a3 _ (by omega)).trans hf) a2 g
      exact ⟨e, f', c1, c2, c3, a3.tr c4⟩
theorem k_errorIn {b len : Nat} {bf : Nat → Int32} (hN : 100 ≤ N) (hb : b ≠ p) (hlen : len ≤ 60) (h : k_rq f p q) (hf : f b = some (.inl (.int, 60, .inl bf))) :
    ∃ (e : Nat) (f' : XM), F_X1_errorIn N f p b (nI len) = some (nI e, f') ∧ k_er bf len e ∧ k_rq f' p (k_rs bf (if e < len then e + 1 else e)) ∧ k_fr f f' p (p + 1) := by
  obtain ⟨f1, a1, a2, a3⟩ := k_rbegin (N := N) h
  obtain ⟨e, f', c1, c2, c3, c4⟩ := k_err_loop (N := N) hb hlen len N 0 f1 (by omega) (by omega) ((a3 _ (by omega)).trans hf) a2 (show ¬ (0 : Int32) = 8 by decide)
  refine ⟨e, f', ?_, c2, c3, a3.tr c4⟩
  unfold F_X1_errorIn
  rw [h.cv, a1, Option.bind_some]
  exact c1
theorem k_tellsOrders {b len : Nat} {bf : Nat → Int32} (hN : 100 ≤ N) (hb : b ≠ p) (hlen : len ≤ 60) (h : k_rq f p q) (hf : f b = some (.inl (.int, 60, .inl bf))) :
    ∃ (e : Nat) (f' : XM) (q' : KQ), F_X1_tellsOrders N f p b (nI len) = some (decide (e = len ∧ k_cpl (k_rs bf len) = true), f') ∧ k_er bf len e ∧ k_rq f' p q' ∧ k_fr f f' p (p + 1) := by
  obtain ⟨e, f', c1, c2, c3, c4⟩ := k_errorIn (N := N) hN hb hlen h hf
  refine ⟨e, f', _, ?_, c2, c3, c4⟩
  unfold F_X1_tellsOrders
  rw [h.cv, c1, Option.bind_some]
  dsimp only
  have hle := c2.1
  by_cases g : e = len
  · subst g
    rw [if_neg (Nat.lt_irrefl _)] at c3
    rw [if_pos rfl, c3.cv, k_isComplete c3, Option.bind_some]
    cases hc : k_cpl (k_rs bf e) with
    | true => rw [if_neg (show ¬ x_b true = 0 by decide), decide_eq_true ⟨rfl, rfl⟩]
    | false => rw [if_pos (show x_b false = 0 from rfl), decide_eq_false (fun y => absurd y.2 (by decide))]
  · rw [if_neg (fun y => g ((nI_eq (by omega) (by omega)).mp y)), decide_eq_false (fun y => g y.1)]
end KRD

