/-! The shapes of the calls that may change. -/
def k_cs (N hs x : Nat) (z14 : Int32 × XM) : Option ((Int32 × XH) ⊕ (Nat × XM)) :=
  (x_cv z14.2 5 x (F_X5_saveUnlessRefused N (z14.2, hs) x z14.1)).bind fun z15 => x_se z15 (fun w16 => some (.inl (w16.1, (w16.2.1, w16.2.2)))) (fun e17 => some (.inr (e17.1, e17.2)))
/-- what the class's own method brings -/
def k_cx (f : XM) (x wz n : Nat) (q : Nat → Option Nat) (St : Nat → KS) (S : KS) (bf : Nat → Int32) (len : Nat) (ex : Option Nat) (v : Int32) (S' : KS) (z : Option ((Int32 × XH) ⊕ (Nat × XM))) : Prop :=
  match ex with
  | some k => ∃ (f' : XM) (St' : Nat → KS), z = some (.inr (k, f')) ∧ (∀ a, x + 70 ≤ a → a < wz → f' a = f a) ∧ k_ci f' x wz n q St' S bf len ∧ ∀ i, 1 ≤ i → St' i = St i
  | none => ∃ (f' : XM) (hs' n' : Nat) (q' : Nat → Option Nat) (St' : Nat → KS), z = some (.inl (v, (f', hs'))) ∧ (∀ a, x + 70 ≤ a → a < wz → f' a = f a) ∧ k_ci f' x wz n' q' St' S' bf len ∧ n' = (if n < 6 then n + 1 else 6) ∧ (∀ i, i < n' → St' (i + 1) = k_svl n (fun i => if i = 0 then S else St i) i) ∧ (∀ i, i < 2 → q' (i + 7) = q (i + 7) ∧ St' (i + 7) = St (i + 7))
section KSH
variable {wz : Nat}
variable {N : Nat} {f : XM} {x n len : Nat} {q : Nat → Option Nat} {St : Nat → KS} {S S' : KS} {bf : Nat → Int32} {c' m : Nat} {v : Int32} {hs : Nat}
theorem k_ccopy (hN : 5000 ≤ N) (h : k_ci f x wz n q St S bf len) (hd : ∀ (a : Nat) (e : XE), f a = some e → a < hs) : ∃ (sp : Nat) (f1 : XM), x_getr f 5 x 1 = some (some sp) ∧ (∀ o : Option XM, x_cv f 3 sp o = o) ∧ F_X3_copyFrom N f sp (x + 1) = some f1 ∧ k_ci f1 x wz n q (fun i => if i = 0 then S else St i) S bf len ∧ (∀ a, x + 70 ≤ a → a < wz → f1 a = f a) ∧ (∀ (a : Nat) (e : XE), f1 a = some e → a < hs) := by
  obtain ⟨sp, e1, e2, e3, e4⟩ := h.sp
  obtain ⟨f1, a1, a2, a3⟩ := h.copy (N := N) hN e1
  have hsp := k_st_dom e4 hd
  refine ⟨sp, f1, e2, fun o => e4.cv, a1, a2, fun a h1 h2 => a3 a (by omega), fun a e he => ?_⟩
  by_cases z : sp ≤ a ∧ a < sp + 29
  · omega
  · rw [a3 a (by omega)] at he
    exact hd a e he
theorem k_cx_bad {k : Nat} (h : k_ci f x wz n q St S bf len) : k_cx f x wz n q St S bf len (some k) v S' (some (.inr (k, f))) := ⟨f, St, rfl, fun _ _ _ => rfl, h, fun _ _ => rfl⟩
theorem k_cx_no {f1 f2 : XM} (h : k_ci f1 x wz n q (fun i => if i = 0 then S else St i) S bf len) (hc : ∀ a, x + 70 ≤ a → a < wz → f1 a = f a) (hf : k_fr2 f1 f2 (x + 1) (x + 63)) (hs2 : k_st f2 (x + 1) S) (hg : k_gat f2 (x + 63)) : k_cx f x wz n q St S bf len (some 1) v S' (k_cs N hs x (-1, f2)) := by
  have h2 := h.setnow hf hs2 hg
  refine ⟨f2, _, ?_, fun a h1 h3 => (hf a (by omega) (by omega)).trans (hc a h1 h3), h2, fun i hi => if_neg (by omega)⟩
  unfold k_cs F_X5_saveUnlessRefused
  simp only []
  rw [if_pos trivial, h2.cv, Option.bind_some]
  rfl
theorem k_cx_yes {f1 f2 : XM} (hN : 5000 ≤ N) (h : k_ci f1 x wz n q (fun i => if i = 0 then S else St i) S bf len) (hc : ∀ a, x + 70 ≤ a → a < wz → f1 a = f a) (hd : ∀ (a : Nat) (e : XE), f1 a = some e → a < hs) (hx : x + 70 ≤ hs ∧ wz ≤ hs) (hf : k_fr2 f1 f2 (x + 1) (x + 63)) (hs2 : k_st f2 (x + 1) S') (hg : k_gat f2 (x + 63)) (hv : v ≠ -1) : k_cx f x wz n q St S bf len none v S' (k_cs N hs x (v, f2)) := by
  have h2 := h.setnow hf hs2 hg
  obtain ⟨f', hs', n', q', St', r1, r2, r3, r4, r5, r6⟩ := k_saveSpare (N := N) hN h2 (hs := hs) (fun a e he => by
    by_cases z : (x + 1 ≤ a ∧ a < x + 1 + 29) ∨ (x + 63 ≤ a ∧ a < x + 63 + 7)
    · omega
    · rw [hf a (by omega) (by omega)] at he
      exact hd a e he) hx
  refine ⟨f', hs', n', q', St', ?_, fun a h1 h3 => (r6 a h1 h3).trans ((hf a (by omega) (by omega)).trans (hc a h1 h3)), r2, r3, r4, fun i hi => ⟨(r5 i hi).1, by rw [(r5 i hi).2]; exact if_neg (by omega)⟩⟩
  unfold k_cs F_X5_saveUnlessRefused
  simp only []
  rw [if_neg hv, h2.cv, h2.cv, r1]
  rfl
end KSH

