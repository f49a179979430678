/-! The shapes of the calls that may change. -/
def k_mp (N m : Nat) (A : XM → Option (Int32 × XM)) (e : Int32) (f : XM) : Option (Int32 × XM) :=
  (x_puti f 6 m 11 e).bind fun f2 => (x_geti f2 6 m 11).bind fun v3 => if v3 ≤ 0 then (x_getr f2 6 m 0).bind fun v4 => Option.bind v4 fun a5 => (x_cv f2 6 m (F_X6_saves N f2 m a5)).bind fun z6 => (x_cv z6 6 m (A z6)).bind fun z7 => some (z7.1, z7.2) else some (0, f2)
def k_cs (N hs x : Nat) (z14 : Int32 × XM) : Option ((Int32 × XH) ⊕ (Nat × XM)) :=
  (x_cv z14.2 5 x (F_X5_saveUnlessRefused N (z14.2, hs) x z14.1)).bind fun z15 => x_se z15 (fun w16 => some (.inl (w16.1, (w16.2.1, w16.2.2)))) (fun e17 => some (.inr (e17.1, e17.2)))
def k_wr2 (o : Nat) (z : Option ((Int32 × XH) ⊕ (Nat × XM))) : Option (Int32 × XM) :=
  z.bind fun z1 => x_se z1 (fun w2 => (x_astl w2.2.1 o 0 ((w2.1 : Int32).toInt64)).bind fun f4 => some (0, f4)) (fun e3 => if e3.1 = 0 then some (1, e3.2) else if e3.1 = 1 then some (2, e3.2) else none)
def k_wr1 (k : Nat) (o : Nat) (z : Option ((Int32 × XH) ⊕ (Nat × XM))) : Option (Int32 × XM) :=
  z.bind fun z1 => x_se z1 (fun w2 => (x_astl w2.2.1 o 0 ((w2.1 : Int32).toInt64)).bind fun f4 => some (0, f4)) (fun e3 => if e3.1 = k then some (1, e3.2) else none)
/-- what the class's own method brings -/
def k_cx (f : XM) (x n : Nat) (q : Nat → Option Nat) (St : Nat → KS) (S : KS) (bf : Nat → Int32) (len : Nat) (ex : Option Nat) (v : Int32) (S' : KS) (z : Option ((Int32 × XH) ⊕ (Nat × XM))) : Prop :=
  match ex with
  | some k => ∃ (f' : XM) (St' : Nat → KS), z = some (.inr (k, f')) ∧ (∀ a, x + 70 ≤ a → a < x + 81 → f' a = f a) ∧ k_ci f' x n q St' S bf len ∧ ∀ i, 1 ≤ i → St' i = St i
  | none => ∃ (f' : XM) (hs' n' : Nat) (q' : Nat → Option Nat) (St' : Nat → KS), z = some (.inl (v, (f', hs'))) ∧ (∀ a, x + 70 ≤ a → a < x + 81 → f' a = f a) ∧ k_ci f' x n' q' St' S' bf len ∧ n' = (if n < 6 then n + 1 else 6) ∧ (∀ i, i < n' → St' (i + 1) = k_svl n (fun i => if i = 0 then S else St i) i) ∧ (∀ i, i < 2 → q' (i + 7) = q (i + 7) ∧ St' (i + 7) = St (i + 7))
def k_e2 (ex : Option Nat) : Int32 := match ex with
  | none => 0
  | some 0 => 1
  | some _ => 2
def k_e1 (ex : Option Nat) : Int32 := match ex with
  | none => 0
  | some _ => 1
section KSH
variable {N : Nat} {f : XM} {x n len : Nat} {q : Nat → Option Nat} {St : Nat → KS} {S S' : KS} {bf : Nat → Int32} {V V0 : KM} {c' m : Nat} {v : Int32} {hs : Nat}
theorem k_mp_no {A : XM → Option (Int32 × XM)} {f0 : XM} {e : Int32} (he : e = 1 ∨ e = 2) (h : k_mo f m V) (hx : k_mx V0 V [7] [8]) (hf : k_fr f0 f m (m + 10)) : k_mr m f0 V0 n c' e v S' (k_mp N m A e f) := by
  obtain ⟨f1, a1, a2, a3⟩ := h.pi (i := 11) (by omega) e
  have h11 : (k_sI V 11 e).2 11 = e := k_sI_s
  refine ⟨0, f1, _, ?_, a2, hf.tr a3, h11, hx.1 3 (by simp), hx.1 4 (by simp), hx.1 8 (by simp), ?_, ?_⟩
  · unfold k_mp
    simp only [a1, a2.i11, h11, Option.bind_some]
    rw [if_neg (by rcases he with rfl | rfl <;> decide)]
  · show (if (10 : Nat) = 11 then e else V.2 10) = _
    rw [if_neg (by omega)]; exact hx.2 10 (by simp)
  · rw [if_neg (by rcases he with rfl | rfl <;> decide)]
    refine ⟨hx.1 1 (by simp), hx.1 2 (by simp), ?_⟩
    show (if (2 : Nat) = 11 then e else V.2 2) = _
    rw [if_neg (by omega)]; exact hx.2 2 (by simp)
theorem k_mp_yes {A : XM → Option (Int32 × XM)} {f0 : XM} (hN : 50000 ≤ N) (h : k_mo f m V) (hx : k_mx V0 V [7] [8]) (hf : k_fr f0 f m (m + 10)) (hn : n ≤ 6) (h2 : V0.2 2 = nI n)
    (hA : ∀ f1 V1, k_mo f1 m V1 → V1.1 1 = V0.1 1 → ∃ (f2 : XM) (V2 : KM), A f1 = some (v, f2) ∧ k_mo f2 m V2 ∧ k_mx V1 V2 [1, 5, 6, 7, 9] [8] ∧ k_fr f1 f2 m (m + 10) ∧ k_ms (V2.1 1) S' c') : k_mr m f0 V0 n c' 0 v S' (k_mp N m A 0 f) := by
  obtain ⟨f1, a1, a2, a3⟩ := h.pi (i := 11) (by omega) 0
  have h11 : (k_sI V 11 0).2 11 = 0 := k_sI_s
  have h22 : (k_sI V 11 0).2 2 = nI n := by
    rw [k_sI_n (by omega)]; rw [← h2]; exact hx.2 2 (by simp)
  obtain ⟨f2, V2, b1, b2, b3, b4, b5, b6⟩ := k_msaves (N := N) (a1 := 1) hN a2 (Or.inl rfl) hn h22
  have e1 : V2.1 1 = V0.1 1 := (b3.1 1 (by simp)).trans (hx.1 1 (by simp))
  obtain ⟨f3, V3, c1, c2, c3, c4, c5⟩ := hA f2 V2 b2 e1
  refine ⟨v, f3, V3, ?_, c2, ((hf.tr a3).tr b4).tr c4, ?_, ?_, ?_, ?_, ?_, ?_⟩
  · unfold k_mp
    simp only [a1, a2.i11, h11, Option.bind_some]
    rw [if_pos (by decide)]
    simp only [a2.r0, Option.bind_some, a2.cv, b1, b2.cv, c1]
  · exact ((c3.2 11 (by simp)).trans (b3.2 11 (by simp))).trans h11
  · exact ((c3.1 3 (by simp)).trans (b3.1 3 (by simp))).trans (hx.1 3 (by simp))
  · exact ((c3.1 4 (by simp)).trans (b3.1 4 (by simp))).trans (hx.1 4 (by simp))
  · exact ((c3.1 8 (by simp)).trans (b3.1 8 (by simp))).trans (hx.1 8 (by simp))
  · refine ((c3.2 10 (by simp)).trans (b3.2 10 (by simp))).trans ?_
    rw [k_sI_n (by omega)]; exact hx.2 10 (by simp)
  · rw [if_pos rfl]
    refine ⟨rfl, c5, (c3.2 2 (by simp)).trans b5, fun i j hi hj => ?_⟩
    rw [c3.1 2 (by simp), b6 i j hi hj]
    have : (k_sI V 11 0).1 2 = V0.1 2 := hx.1 2 (by simp)
    rw [this]
    have : (k_sI V 11 0).1 1 = V0.1 1 := hx.1 1 (by simp)
    rw [this]
theorem k_ccopy (hN : 5000 ≤ N) (h : k_ci f x n q St S bf len) (hd : ∀ (a : Nat) (e : XE), f a = some e → a < hs) : ∃ (sp : Nat) (f1 : XM), x_getr f 5 x 1 = some (some sp) ∧ (∀ o : Option XM, x_cv f 3 sp o = o) ∧ F_X3_copyFrom N f sp (x + 1) = some f1 ∧ k_ci f1 x n q (fun i => if i = 0 then S else St i) S bf len ∧ (∀ a, x + 70 ≤ a → a < x + 81 → f1 a = f a) ∧ (∀ (a : Nat) (e : XE), f1 a = some e → a < hs) := by
  obtain ⟨sp, e1, e2, e3, e4⟩ := h.sp
  obtain ⟨f1, a1, a2, a3⟩ := h.copy (N := N) hN e1
  have hsp := k_st_dom e4 hd
  refine ⟨sp, f1, e2, fun o => e4.cv, a1, a2, fun a h1 h2 => a3 a (by omega), fun a e he => ?_⟩
  by_cases z : sp ≤ a ∧ a < sp + 29
  · omega
  · rw [a3 a (by omega)] at he
    exact hd a e he
theorem k_cx_bad {k : Nat} (h : k_ci f x n q St S bf len) : k_cx f x n q St S bf len (some k) v S' (some (.inr (k, f))) := ⟨f, St, rfl, fun _ _ _ => rfl, h, fun _ _ => rfl⟩
theorem k_cx_no {f1 f2 : XM} (h : k_ci f1 x n q (fun i => if i = 0 then S else St i) S bf len) (hc : ∀ a, x + 70 ≤ a → a < x + 81 → f1 a = f a) (hf : k_fr2 f1 f2 (x + 1) (x + 63)) (hs2 : k_st f2 (x + 1) S) (hg : k_gat f2 (x + 63)) : k_cx f x n q St S bf len (some 1) v S' (k_cs N hs x (-1, f2)) := by
  have h2 := h.setnow hf hs2 hg
  refine ⟨f2, _, ?_, fun a h1 h3 => (hf a (by omega) (by omega)).trans (hc a h1 h3), h2, fun i hi => if_neg (by omega)⟩
  unfold k_cs F_X5_saveUnlessRefused
  simp only []
  rw [if_pos trivial, h2.cv, Option.bind_some]
  rfl
theorem k_cx_yes {f1 f2 : XM} (hN : 5000 ≤ N) (h : k_ci f1 x n q (fun i => if i = 0 then S else St i) S bf len) (hc : ∀ a, x + 70 ≤ a → a < x + 81 → f1 a = f a) (hd : ∀ (a : Nat) (e : XE), f1 a = some e → a < hs) (hx : x + 81 ≤ hs) (hf : k_fr2 f1 f2 (x + 1) (x + 63)) (hs2 : k_st f2 (x + 1) S') (hg : k_gat f2 (x + 63)) (hv : v ≠ -1) : k_cx f x n q St S bf len none v S' (k_cs N hs x (v, f2)) := by
  have h2 := h.setnow hf hs2 hg
  obtain ⟨f', hs', n', q', St', r1, r2, r3, r4, r5, r6⟩ := k_saveSpare (N := N) hN h2 (hs := hs) (fun a e he => by
    by_cases z : (x + 1 ≤ a ∧ a < x + 1 + 29) ∨ (x + 63 ≤ a ∧ a < x + 63 + 7)
    · omega
    · rw [hf a (by omega) (by omega)] at he
      exact hd a e he) hx
  refine ⟨f', hs', n', q', St', ?_, fun a h1 h3 => (r6 a h1 h3).trans ((hf a (by omega) (by omega)).trans (hc a h1 h3)), r2, r3, r4, fun i hi => ⟨(r5 i hi).1, by rw [(r5 i hi).2]; exact if_neg (by omega)⟩⟩
  unfold k_cs F_X5_saveUnlessRefused
  simp only []
  rw [if_neg hv, h2.cv, h2.cv, r1]
  rfl
theorem k_cx_co {ex : Option Nat} {z : Option ((Int32 × XH) ⊕ (Nat × XM))} {e : Int32} {W : Option ((Int32 × XH) ⊕ (Nat × XM)) → Option (Int32 × XM)} (hlo : k_lo f (x + 80)) (h : k_cx f x n q St S bf len ex v S' z)
    (h0 : ∀ f' hs', W (some (.inl (v, (f', hs')))) = (x_astl f' (x + 80) 0 v.toInt64).bind fun f4 => some (0, f4)) (h1 : ∀ k f', ex = some k → W (some (.inr (k, f'))) = some (e, f') ∧ e ≠ 0) (he : ex = none → e = 0) : k_co f x n q St S bf len e v S' (W z) := by
  cases ex with
  | none =>
    obtain ⟨f', hs', n', q', St', rfl, a2, a3, a4, a5, a6⟩ := h
    obtain ⟨f4, b1, b2, b3, b4⟩ := k_lo.st (hlo.ext (a2 _ (by omega) (by omega))) v.toInt64
    rw [he rfl]
    refine ⟨f4, n', q', St', by rw [h0, b1]; rfl, fun a y1 y2 => (b2 a (by omega)).trans (a2 a y1 (by omega)), b3, ?_, ?_⟩
    · rw [if_pos rfl]; exact a3.frm b2 (by omega) (by omega)
    · rw [if_pos rfl]; exact ⟨b4, a4, a5, a6⟩
  | some k =>
    obtain ⟨f', St', rfl, a2, a3, a4⟩ := h
    obtain ⟨w1, w2⟩ := h1 k f' rfl
    refine ⟨f', n, q, St', w1, fun a y1 y2 => a2 a y1 (by omega), hlo.ext (a2 _ (by omega) (by omega)), ?_, ?_⟩
    · rw [if_neg w2]; exact a3
    · rw [if_neg w2]; exact ⟨rfl, rfl, a4⟩
theorem k_co2 {ex : Option Nat} {z : Option ((Int32 × XH) ⊕ (Nat × XM))} (hlo : k_lo f (x + 80)) (h : k_cx f x n q St S bf len ex v S' z) (hx : ex = none ∨ ex = some 0 ∨ ex = some 1) : k_co f x n q St S bf len (k_e2 ex) v S' (k_wr2 (x + 80) z) := by
  rcases hx with rfl | rfl | rfl
  · exact k_cx_co hlo h (fun f' hs' => rfl) (fun k f' e => by cases e) (fun e => rfl)
  · exact k_cx_co hlo h (fun f' hs' => rfl) (fun k f' e => by cases e; exact ⟨rfl, by decide⟩) (fun e => by cases e)
  · exact k_cx_co hlo h (fun f' hs' => rfl) (fun k f' e => by cases e; exact ⟨rfl, by decide⟩) (fun e => by cases e)
theorem k_co1 {k : Nat} {ex : Option Nat} {z : Option ((Int32 × XH) ⊕ (Nat × XM))} (hlo : k_lo f (x + 80)) (h : k_cx f x n q St S bf len ex v S' z) (hx : ex = none ∨ ex = some k) : k_co f x n q St S bf len (k_e1 ex) v S' (k_wr1 k (x + 80) z) := by
  rcases hx with rfl | rfl
  · exact k_cx_co hlo h (fun f' hs' => rfl) (fun j f' e => by cases e) (fun e => rfl)
  · refine k_cx_co hlo h (fun f' hs' => rfl) (fun j f' e => ?_) (fun e => by cases e)
    cases e
    refine ⟨?_, show (1 : Int32) ≠ 0 by decide⟩
    show (if k = k then some (1, f') else none) = _
    rw [if_pos rfl]
    rfl
end KSH
