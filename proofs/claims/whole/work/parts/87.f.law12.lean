/-! Orders that are followed: the law. -/
section KL12
variable {N L : Nat} {xs : Nat → Int32} {x m o t : Nat} {h : XH} {f : XM} {n len : Nat} {q : Nat → Option Nat} {St : Nat → KS} {S : KS} {bf : Nat → Int32} {V : KM} {c : Nat}
theorem k_ci.clr (h : k_ci f x n q St S bf len) : ∃ f' : XM, x_puti f 5 x 6 0 = some f' ∧ k_ci f' x n q St S bf 0 ∧ k_fr f f' x (x + 1) := by
  obtain ⟨h1, h2, ⟨sp, a1, a2⟩, ⟨g1, a3, a4⟩, ⟨g2, a5, a6⟩, a7, ⟨ra, rb, rc, rd, a8⟩, b1, b2, a9, a10⟩ := h
  have e2 : ∀ a, a ≠ x → x_up f x (.inr (5, (k_ob x sp n len).set 6 (.int 0))) a = f a := fun a y => x_up_n y
  exact ⟨_, k_puti (v := 0) a2 (k := 6) (by simp [k_ob]), ⟨h1, by omega, ⟨sp, a1, x_up_s⟩, ⟨g1, (e2 _ (by omega)).trans a3, a4⟩, ⟨g2, (e2 _ (by omega)).trans a5, a6⟩, (e2 _ (by omega)).trans a7, ⟨ra, rb, rc, rd, (e2 _ (by omega)).trans a8⟩, b1.ext (fun a c d => e2 a (by omega)), b2.ext (fun a c d => e2 a (by omega)), a9.ext (fun i p a e1 e3 e4 e5 => e2 a (by have := (a9.1 i p e1 e3).1; omega)), a10⟩, k_fr.up (Nat.le_refl _) (Nat.lt_succ_self _)⟩
/-- what the class's call brings: refused as a text, refused by an order, or done -/
def k_l12 (N x : Nat) (f : XM) (n : Nat) (q : Nat → Option Nat) (St : Nat → KS) (S : KS) (bf : Nat → Int32) (len : Nat) (r : Option KS) (z : Option (Int32 × XM)) : Prop :=
  match r with
  | none => ∃ (f' : XM) (St' : Nat → KS), z = some (2, f') ∧ (∀ a, x + 70 ≤ a → a < x + 81 → f' a = f a) ∧ k_ci f' x n q St' S bf len ∧ ∀ i, 1 ≤ i → St' i = St i
  | some S' => ∃ (f' : XM) (n' : Nat) (q' : Nat → Option Nat) (St' : Nat → KS), z = some (0, f') ∧ (∀ a, x + 70 ≤ a → a < x + 80 → f' a = f a) ∧ k_lo f' (x + 80) ∧ x_aldl f' (x + 80) 0 = some (nI (k_all S').1).toInt64 ∧ k_okA S' ∧ k_ci f' x n' q' St' S' bf 0 ∧ n' = (if n < 6 then n + 1 else 6) ∧ (∀ i, i < n' → St' (i + 1) = k_svl n (fun i => if i = 0 then S else St i) i) ∧ (∀ i, i < 2 → q' (i + 7) = q (i + 7) ∧ St' (i + 7) = St (i + 7)) ∧ k_vv S'
theorem k_lead12 (hN : 50000 ≤ N) {hs : Nat} (h : k_ci f x n q St S bf len) (hlo : k_lo f (x + 80)) (hd : ∀ (a : Nat) (e : XE), f a = some e → a < hs) (hx : x + 81 ≤ hs) {w : KQ} (hw : k_rq f (x + 62) w) {e : Nat} (he : k_er bf len e) :
    (¬ (e = len ∧ k_cpl (k_rs bf len) = true) → ∃ (f' : XM) (w' : KQ), F_L_follow N (f, hs) x (x + 80) = some (1, f') ∧ k_rq f' (x + 62) w' ∧ k_fr f f' (x + 62) (x + 63)) ∧
    ((e = len ∧ k_cpl (k_rs bf len) = true) → ∀ {G : Nat → Int32} {nn : Nat}, k_ords bf G len nn 0 0 → (∃ Gp, k_ms Gp S c) → c + nn ≤ 512 → k_vv S → ∃ r : Option KS, k_l12 N x f n q St S bf len r (F_L_follow N (f, hs) x (x + 80)) ∧
      (∀ (g : XM) (m : Nat) (V : KM) (c2 fuel : Nat) (K2 : Int32 → XM → Option (Int32 × XM)), k_mo g m V → k_ms (V.1 1) S c2 → c2 + nn ≤ 1200 → k_ords bf (V.1 9) len nn 0 0 → V.2 14 = nI nn → nn < fuel → ∃ (j : Nat) (g' : XM) (V' : KM), F_X6_follow_L40 N m K2 fuel 0 g = K2 (nI j) g' ∧ k_mo g' m V' ∧ k_mx V V' [1, 7] [8] ∧ k_fr g g' m (m + 10) ∧ (r = none → j < nn) ∧ ∀ S', r = some S' → j = nn ∧ k_ms (V'.1 1) S' (c2 + nn))) := by
  have hl := h.2.1
  obtain ⟨e', f1, w1, a1, a2, a3, a4⟩ := k_tellsOrders (N := N) (b := x + 61) (p := x + 62) (len := len) (by omega) (by omega) hl hw h.2.2.2.2.2.1
  have ee : e = e' := he.eq a2
  subst ee
  have hci1 := h.rd a4 a3
  refine ⟨fun hno => ⟨f1, w1, ?_, a3, a4⟩, fun hyes {G nn} ho hG hc hvv => ?_⟩
  · unfold F_L_follow F_X5_follow
    simp only [h.cv, h.rdr, h.buf, h.lng, Option.bind_some, hw.cv, a1]
    rw [if_pos (k_xb0 hno), Option.bind_some]
    rfl
  · have hd1 : ∀ (a : Nat) (e : XE), f1 a = some e → a < hs := fun a y ha => by
      by_cases z : x + 62 ≤ a ∧ a < x + 63
      · omega
      · rw [a4 a z] at ha
        exact hd a y ha
    obtain ⟨sp, f2, b1, b2, b3, b4, b5, b6⟩ := k_ccopy (N := N) (by omega) hci1 hd1
    obtain ⟨w2, hw2⟩ := b4.rq
    obtain ⟨f3, c1, c2, c3⟩ := k_rbegin (N := N) hw2
    have hci3 := b4.rd c3 c2
    obtain ⟨r, ⟨f4, S4, d1, d2, d3, d4⟩, d5⟩ := k_orders (N := N) hN hl nn 0 0 c S f3 ho hci3 c2 hvv hG hc
    have hall : F_X5_carryOutAll N f2 x = some (r.isSome, f4) := by
      unfold F_X5_carryOutAll
      rw [b4.rdr, Option.bind_some, Option.bind_some, hw2.cv, c1, Option.bind_some]
      exact d1 N (by omega)
    have hfr4 : ∀ a, x + 70 ≤ a → a < x + 81 → f4 a = f a := fun a y z => (d4 a (by omega)).trans ((c3 a (by omega)).trans ((b5 a y z).trans (a4 a (by omega))))
    have hd4 : ∀ (a : Nat) (e : XE), f4 a = some e → a < hs := fun a y ha => by
      by_cases z : x + 1 ≤ a ∧ a < x + 70
      · omega
      · rw [d4 a z, c3 a (by omega)] at ha
        exact b6 a y ha
    refine ⟨r, ?_, fun g m V c2 fuel K2 hm hs2 hcc ho2 h14 hfu => ?_⟩
    · cases r with
      | none =>
        obtain ⟨sp', e1, e2, e3, e4⟩ := d2.sp
        have e4' : k_st f4 sp' S := e4
        obtain ⟨f5, s1, s2, s3⟩ := k_scopy (N := N) (by omega) d2.st e4' (by omega)
        have hci5 := d2.setnow (k_fr2.ofb s3 (Nat.le_refl _) (by omega)) s2 (d2.gat.ext (fun a y1 y2 => s3 a (by omega)))
        refine ⟨f5, _, ?_, fun a y z => (s3 a (by omega)).trans (hfr4 a y z), hci5, fun i hi => if_neg (by omega)⟩
        unfold F_L_follow F_X5_follow
        simp only [h.cv, h.rdr, h.buf, h.lng, Option.bind_some, hw.cv, a1]
        rw [if_neg (k_xb1 hyes)]
        simp only [b1, hci1.now, Option.bind_some, b2, b3, b4.cv, hall]
        rw [if_pos (show x_b (Option.isSome (none : Option KS)) = 0 from rfl)]
        simp only [d2.now, e2, Option.bind_some, d2.st.cv, s1]
        rfl
      | some S' =>
        obtain ⟨rfl, hv'⟩ := d3 S' rfl
        obtain ⟨f5, hs', n', q', St', s1, s2, s3, s4, s5, s6⟩ := k_saveSpare (N := N) (by omega) d2 hd4 hx
        obtain ⟨f6, t1, t2, t3⟩ := s2.clr
        sorry
    · obtain ⟨j, g', V', y1, y2, y3, y4, y5, y6⟩ := d5 g m V c2 fuel K2 hm hs2 hcc ho2 (by have := (k_ords_le _ _ _ ho2).1; omega) (by rw [h14, Nat.zero_add]) hfu
      exact ⟨j, g', V', y1, y2, y3, y4, fun z => by have := y5 z; omega, fun S' z => by have := y6 S' z; exact ⟨by omega, this.2⟩⟩
end KL12
