/-! Contracts whose end is said by a predicate (the law's own methods), the script's reader, further rules. -/
def x_Qq (B : Nat) (Q : Option Value → XM → Prop) : Array Value → State → Outcome → State → Prop := fun _ st o t => (∃ (v : Option Value) (f : XM) (n : Nat), o = .returned v ∧ Q v f ∧ x_Rep B (f, n) t t.heap) ∧ va_F (fun q => B ≤ q) st t
def x_endq (Q : Option Value → XM → Prop) : XT := fun B below args s mc ms => MQ below (x_Qq B Q) args s mc ms (fun q => B ≤ q)
def x_Cq (M : XMD) (fr lo mc ms : Nat) (av : List Value) (h : XH) (Q : Option Value → XM → Prop) : Prop :=
  ∀ (l : Launch) (B : Nat), l.stackTraces = false → Met l M.1 (x_ws M) { frames := fr, cells := mc, slots := ms, locals := lo } (fun v U => v = av.toArray ∧ x_Env B U U.heap ∧ x_Rep B h U U.heap) (x_Qq B Q) mc ms (fun q => B ≤ q)
theorem x_cq {M : XMD} {fr lo mc ms : Nat} {av : List Value} {h : XH} {Q : Option Value → XM → Prop} (hy : plainName M.1.cls = true) (hh : M.2.2.2.2 = []) (hn : (lg_sl av).length ≤ M.2.2.1) (k : X M fr lo (x_endq Q) x_noRO mc ms 0 (lv_args 0 av) [] h) : x_Cq M fr lo mc ms av h Q := by
  intro l B htr
  have hM : vx_Met l M.1 (x_ws M) { frames := fr, cells := mc, slots := ms, locals := lo } (fun v U => v = av.toArray ∧ x_Env B U U.heap ∧ x_Rep B h U U.heap) (x_Qq B Q) (fun _ _ _ => False) mc ms (fun q => B ≤ q) := by
    refine vx_ofW (cc := M.2.1) (maxL := M.2.2.1) (ret := M.2.2.2.1) (ws' := x_tb) hy (by unfold x_ws x_cw; rw [hh]) ?_
    intro p e s m args below meth c s₁ b hml ht hp
    exact vx_ret (x_body htr hn k b hml (by rw [hh]; show _ = []; cases hz : c.exceptionTable.toList with | nil => rfl | cons q r => exact (ht q (by rw [hz]; exact List.mem_cons_self)).elim) hp)
  intro p e h1 h2 h3 s m args below h4 h5 h6 h7
  obtain ⟨n, o, a1, a2, a3, a4⟩ := hM p e h1 h2 h3 s m args below h4 h5 h6 h7
  refine ⟨n, o, a1, a2, a3, ?_⟩
  rcases a4 with a4 | ⟨q9, -, E, ce, L, hX, -⟩
  · exact a4
  · exact hX.elim
section XQ1
variable {M M' : XMD} {fr lo fr' lo' mc' ms' : Nat} {Tg : XT} {RO : Nat → State → Prop} {rc rs pc : Nat} {lv : List (Nat × Value)} {rest st : List Value} {h : XH} {Q : Option Value → XM → Prop}
theorem x_iretq {v : Int32} (hd : decode M.2.1 pc = .ok (.ireturn, 1)) (ht : M.2.2.2.1 = some .int) (hq : Q (some (.int v)) h.1) : X M fr lo (x_endq Q) RO rc rs pc lv [.int v] h := by
  intro l B p e s m args below meth c H locs cells slots mc ms ls hC hRO hl hR hS g1 g2
  obtain ⟨hx, hb, hr, hml, hown, hts, hlk, hnm, htab, hE, htr⟩ := hC
  refine W.widen (k := mc) (n := ms) (by omega) (by omega) (W.iret hx hb (hr.trans ht) (fun t ht hW => ⟨⟨_, h.1, h.2, rfl, hq, ?_⟩, hS.F ht⟩) hS.2.2 hd)
  rw [ht]; exact hR.moved hW.alike
theorem x_zretq {v : Int32} (hd : decode M.2.1 pc = .ok (.ireturn, 1)) (ht : M.2.2.2.1 = some .boolean) (hv : v = 0 ∨ v = 1) (hq : Q (some (.int v)) h.1) : X M fr lo (x_endq Q) RO rc rs pc lv [.int v] h := by
  intro l B p e s m args below meth c H locs cells slots mc ms ls hC hRO hl hR hS g1 g2
  obtain ⟨hx, hb, hr, hml, hown, hts, hlk, hnm, htab, hE, htr⟩ := hC
  refine W.widen (k := mc) (n := ms) (by omega) (by omega) (W.zret hx hb (hr.trans ht) (by rcases hv with rfl | rfl <;> rfl) (fun t ht hW => ⟨⟨_, h.1, h.2, rfl, hq, ?_⟩, hS.F ht⟩) hS.2.2 hd)
  rw [ht]; exact hR.moved hW.alike
/-- a static call of such a method -/
theorem x_callsQ {index n : Nat} {As : List Value} (rc1 rs1 : Nat) (hd : decode M.2.1 pc = .ok (.invokestatic index, 3)) (hm : x_MS M' n) (hh : M'.2.2.2.2 = []) (hk : x_Lk M.1.cls index M') (hst : st = As.reverse ++ rest) (hn : As.length = n) (hcat : (rest.map fun v => v.category).sum ≤ 8) (hf : fr' + 1 ≤ fr ∧ 8 + (M'.2.2.1 + 11) + lo' ≤ lo) (h1 : rc1 + mc' ≤ rc) (h2 : rs1 + ms' ≤ rs)
    (hc : x_Cq M' fr' lo' mc' ms' As h Q) (kk : ∀ (v : Option Value) (f : XM) (n9 : Nat), Q v f → X M fr lo Tg RO rc1 rs1 (pc + 3) lv (v.toList ++ rest) (f, n9)) : X M fr lo Tg RO rc rs pc lv st h := by
  intro l B p e s m args below meth c H locs cells slots mc ms ls hC hRO hl hR hS g1 g2
  have hr : va_Run p l e { frames := fr, cells := mc, slots := ms, locals := lo } s m args below meth c H locs cells slots mc' ms' (F0 m pc ls st) rest (x_Qq B Q As.toArray) (fun q => B ≤ q) := by
    obtain ⟨hx, hb9, hr, hml, hown, hts, hlk, hnm, htab, hE, htr⟩ := hC
    obtain ⟨⟨m1, m2, m3, m4, m5⟩, m6⟩ := hm
    refine va_runS (As := As) (n := n) ⟨hx, hb9, hml, hown, hts⟩ (hc l B htr) (va_cwS (bytes := M'.2.1) (maxL := M'.2.2.1) (ret := M'.2.2.2.1) n hts (fun w hw => ?_) (by unfold x_ws; rw [x_cw0 hh]) rfl rfl ⟨m3, m4, m5⟩ hf) ⟨x_blind, fun U hU hW => ?_⟩ rfl hn hl.1 hst (lv_room hcat) hd ⟨by show cells + mc' ≤ mc; omega, by show slots + ms' ≤ ms; omega⟩
    · rcases List.mem_append.mp hw with hw | hw
      · simp only [List.mem_cons, List.not_mem_nil, or_false] at hw
        rcases hw with rfl | rfl | rfl
        · exact x_good hk
        · exact x_good m6
        · exact x_good m2
      · exact x_goodws m1 w hw
    · obtain ⟨-, q1, q2⟩ := x_pre (av := []) hE hR hS U hU hW
      exact ⟨rfl, q1, q2⟩
  intro T hT X0
  obtain ⟨v8, st₀, t, T', L, h0, X', hL, e1, e2, ⟨⟨v9, f9, n9, hv, hQ, hRt⟩, hF⟩, stp⟩ := hr T hT X0
  cases hv
  obtain ⟨k1, k2, k3⟩ := vx_keep h0 e1 hS (fun q _ z => z) (fun q z => z) hL hF
  have hal : t.vm.Alike s.vm := by rw [← e2]; exact X'.warmed.alike.symm
  obtain ⟨t2, a1, b1⟩ := kk _ f9 n9 hQ l B p e s m args below meth c T'.heap (locs ++ L) (cells + mc') (slots + ms') mc ms ls hC hRO hl (by rw [e1]; exact hRt.moved hal) k3 (by omega) (by omega) T' rfl X'
  exact ⟨t2, stp t2 a1, b1⟩
/-- every cell lies below the heap's size -/
theorem x_dom (k : (∀ (a : Nat) (e : XE), h.1 a = some e → a < h.2) → X M fr lo Tg RO rc rs pc lv st h) : X M fr lo Tg RO rc rs pc lv st h := by
  intro l B p e s m args below meth c H locs cells slots mc ms ls hC hRO hl hR hS g1 g2
  refine k (fun a x hx => ?_) l B p e s m args below meth c H locs cells slots mc ms ls hC hRO hl hR hS g1 g2
  obtain ⟨r1, r2, r3, D, r4, r5⟩ := hR
  rw [← r1]
  exact (r5 a x hx).lt
/-- cells may be forgotten -/
theorem x_fgt {f : XM} (hf : ∀ (a : Nat) (e : XE), f a = some e → h.1 a = some e) (k : X M fr lo Tg RO rc rs pc lv st (f, h.2)) : X M fr lo Tg RO rc rs pc lv st h := by
  intro l B p e s m args below meth c H locs cells slots mc ms ls hC hRO hl hR hS g1 g2
  refine k l B p e s m args below meth c H locs cells slots mc ms ls hC hRO hl ?_ hS g1 g2
  obtain ⟨r1, r2, r3, D, r4, r5⟩ := hR
  exact ⟨r1, r2, fun a x hx => r3 a x (hf a x hx), D, r4, fun a x hx => r5 a x (hf a x hx)⟩
theorem x_ishr {x y : Int32} (hd : decode M.2.1 pc = .ok (.ishr, 1)) (k : X M fr lo Tg RO rc rs (pc + 1) lv (.int (x >>> (y &&& 31)) :: rest) h) : X M fr lo Tg RO rc rs pc lv (.int y :: .int x :: rest) h := x_op (fun hx hb _ k => lv_ishr hx hb hd k) k
theorem x_ixor {x y : Int32} (hd : decode M.2.1 pc = .ok (.ixor, 1)) (k : X M fr lo Tg RO rc rs (pc + 1) lv (.int (x ^^^ y) :: rest) h) : X M fr lo Tg RO rc rs pc lv (.int y :: .int x :: rest) h := x_op (fun hx hb _ k => lv_ixor hx hb hd k) k
theorem x_lshr {x : Int64} {y : Int32} (hd : decode M.2.1 pc = .ok (.lshr, 1)) (k : X M fr lo Tg RO rc rs (pc + 1) lv (.long (x >>> (y.toInt64 &&& 63)) :: rest) h) : X M fr lo Tg RO rc rs pc lv (.int y :: .long x :: rest) h := x_op (fun hx hb _ k => lv_lshr hx hb hd rfl k) k
theorem x_land {x y : Int64} (hd : decode M.2.1 pc = .ok (.land, 1)) (k : X M fr lo Tg RO rc rs (pc + 1) lv (.long (x &&& y) :: rest) h) : X M fr lo Tg RO rc rs pc lv (.long y :: .long x :: rest) h := x_op (fun hx hb _ k => lv_land hx hb hd k) k
theorem x_l2i {x : Int64} (hd : decode M.2.1 pc = .ok (.l2i, 1)) (k : X M fr lo Tg RO rc rs (pc + 1) lv (.int x.toInt32 :: rest) h) : X M fr lo Tg RO rc rs pc lv (.long x :: rest) h := x_op (fun hx hb _ k => lv_l2i hx hb hd rfl k) k
end XQ1
/-- the law's script, and where it lies: below all that is made -/
def x_RD (b L : Nat) (xs : Nat → Int32) : Nat → State → Prop := fun B s => va_X b L xs s s.heap ∧ b < s.heap.size ∧ b < B
def x_sld (L : Nat) (xs : Nat → Int32) (i : Int32) : Option Int32 := if i < 0 ∨ L ≤ i.toNatClampNeg then none else some (xs i.toNatClampNeg)
section XRL
variable {M : XMD} {fr lo : Nat} {Tg : XT} {rc rs pc b L : Nat} {xs : Nat → Int32} {lv : List (Nat × Value)} {rest : List Value} {h : XH}
theorem x_slen (hd : decode M.2.1 pc = .ok (.arraylength, 1)) (k : X M fr lo Tg (x_RD b L xs) rc rs (pc + 1) lv (.int (Int32.ofNat L) :: rest) h) : X M fr lo Tg (x_RD b L xs) rc rs pc lv (.ref b :: rest) h := by
  intro l B p e s m args below meth c H locs cells slots mc ms ls hC hRO hl9 hR hS g1 g2
  have K := k l B p e s m args below meth c H locs cells slots mc ms ls hC hRO hl9 hR hS g1 g2
  obtain ⟨hx, hb, -⟩ := hC
  obtain ⟨hX, hbl, hbB⟩ := hRO
  exact va_slen hx hb hX hbl (Nat.not_le.mpr hbB) hS hd K
theorem x_sld_r {α : Type} {f : Int32 → Option α} {w : α} {i : Int32} (hd : decode M.2.1 pc = .ok (.iaload, 1)) (hF : (x_sld L xs i).bind f = some w) (k : ∀ v : Int32, f v = some w → X M fr lo Tg (x_RD b L xs) rc rs (pc + 1) lv (.int v :: rest) h) : X M fr lo Tg (x_RD b L xs) rc rs pc lv (.int i :: .ref b :: rest) h := by
  obtain ⟨v, hv, hF⟩ := x_bind hF
  unfold x_sld at hv
  split at hv
  · cases hv
  rename_i hi
  cases hv
  intro l B p e s m args below meth c H locs cells slots mc ms ls hC hRO hl9 hR hS g1 g2
  have K := k _ hF l B p e s m args below meth c H locs cells slots mc ms ls hC hRO hl9 hR hS g1 g2
  obtain ⟨hx, hb, -⟩ := hC
  obtain ⟨hX, hbl, hbB⟩ := hRO
  exact va_sld hx hb hX hbl (Nat.not_le.mpr hbB) hS hi hd K
end XRL
/-- a contract of a method that reads the script -/
def x_CtR (M : XMD) (fr lo : Nat) (av : List Value) (h : XH) (v : Int32) (b L : Nat) (xs : Nat → Int32) : Prop :=
  ∀ (l : Launch) (B : Nat), l.stackTraces = false → Met l M.1 (x_ws M) { frames := fr, cells := 0, slots := 0, locals := lo } (fun a U => a = av.toArray ∧ x_Env B U U.heap ∧ x_Rep B h U U.heap ∧ x_RD b L xs B U) (x_Qc B (.inl (some (.int v), h))) 0 0 (fun q => B ≤ q)
theorem x_ctr {M : XMD} {fr lo : Nat} {av : List Value} {h : XH} {v : Int32} {b L : Nat} {xs : Nat → Int32} (hy : plainName M.1.cls = true) (hh : M.2.2.2.2 = []) (hn : (lg_sl av).length ≤ M.2.2.1) (k : X M fr lo (x_end (.inl (some (.int v), h))) (x_RD b L xs) 0 0 0 (lv_args 0 av) [] h) : x_CtR M fr lo av h v b L xs := by
  intro l B htr
  have hM : vx_Met l M.1 (x_ws M) { frames := fr, cells := 0, slots := 0, locals := lo } (fun a U => a = av.toArray ∧ x_Env B U U.heap ∧ x_Rep B h U U.heap ∧ x_RD b L xs B U) (x_Qc B (.inl (some (.int v), h))) (x_XC B (.inl (some (.int v), h))) 0 0 (fun q => B ≤ q) := by
    refine vx_ofW (cc := M.2.1) (maxL := M.2.2.1) (ret := M.2.2.2.1) (ws' := x_tb) hy (by unfold x_ws x_cw; rw [hh]) ?_
    intro p e s m args below meth c s₁ b9 hml ht hp
    obtain ⟨rfl, hE, hR, hRO⟩ := hp
    have hts := atoms_spec (ws := x_ws M) b9.pre
    rw [lg_entry_eq]
    exact k l B p e s m _ below meth c s.heap [] 0 0 0 0 _ ⟨b9.exec, b9.bytes, b9.returns, hml, findClass_of_methodNamed b9.named, fun w hw => hts w (List.mem_cons_of_mem _ hw), b9.notSynchronized, (name_of_methodNamed b9.named b9.method).1, (by rw [hh]; show _ = []; cases hz : c.exceptionTable.toList with | nil => rfl | cons q r => exact (ht q (by rw [hz]; exact List.mem_cons_self)).elim), hE, htr⟩ hRO (lv_entry av hn) hR va_S.rf (by omega) (by omega)
  intro p e h1 h2 h3 s m args below h4 h5 h6 h7
  obtain ⟨n, o, a1, a2, a3, a4⟩ := hM p e h1 h2 h3 s m args below h4 h5 h6 h7
  refine ⟨n, o, a1, a2, a3, ?_⟩
  rcases a4 with a4 | ⟨q9, -, E, ce, L9, ⟨⟨hm, n9, hX, -⟩, -⟩, -⟩
  · exact a4
  · cases hX
section XRM
variable {M M' : XMD} {fr lo fr' lo' : Nat} {Tg : XT} {rc rs pc b L : Nat} {xs : Nat → Int32} {lv : List (Nat × Value)} {rest st : List Value} {h : XH}
theorem x_blindR {B : Nat} {av : List Value} : FrameBlind (fun a U => a = av.toArray ∧ x_Env B U U.heap ∧ x_Rep B h U U.heap ∧ x_RD b L xs B U) := by
  intro a U g mk q
  obtain ⟨q0, q1, q2, q3, q4, q5⟩ := q
  exact ⟨q0, x_Env.vm (s := U) (U := U.calling g mk a) rfl q1, x_Rep.moved (u := U) (U := U.calling g mk a) (Vm.Alike.refl U.vm) q2, va_X.moved (u := U) (U := U.calling g mk a) (Vm.Alike.refl U.vm) q3, q4, q5⟩
theorem x_callsR {index n : Nat} {As : List Value} {v : Int32} (hd : decode M.2.1 pc = .ok (.invokestatic index, 3)) (hm : x_MS M' n) (hh : M'.2.2.2.2 = []) (hk : x_Lk M.1.cls index M') (hst : st = As.reverse ++ rest) (hn : As.length = n) (hcat : (rest.map fun v => v.category).sum ≤ 8) (hf : fr' + 1 ≤ fr ∧ 8 + (M'.2.2.1 + 11) + lo' ≤ lo)
    (hc : x_CtR M' fr' lo' As h v b L xs) (kk : X M fr lo Tg (x_RD b L xs) rc rs (pc + 3) lv (.int v :: rest) h) : X M fr lo Tg (x_RD b L xs) rc rs pc lv st h := by
  intro l B p e s m args below meth c H locs cells slots mc ms ls hC hRO hl hR hS g1 g2
  refine x_afterM (h := h) (mc' := 0) (ms' := 0) (v := some (.int v)) (h' := h) (As := As.toArray) rc rs (Nat.le_refl _) (Nat.le_refl _) kk hC hRO hl hR hS g1 g2 ?_
  obtain ⟨hx, hb9, hr, hml, hown, hts, hlk, hnm, htab, hE, htr⟩ := hC
  obtain ⟨⟨m1, m2, m3, m4, m5⟩, m6⟩ := hm
  obtain ⟨z1, z2, z3⟩ := hRO
  refine va_runS (As := As) (n := n) ⟨hx, hb9, hml, hown, hts⟩ (hc l B htr) (va_cwS (bytes := M'.2.1) (maxL := M'.2.2.1) (ret := M'.2.2.2.1) n hts (fun w hw => ?_) (by unfold x_ws; rw [x_cw0 hh]) rfl rfl ⟨m3, m4, m5⟩ hf) ⟨x_blindR, fun U hU hW => ?_⟩ rfl hn hl.1 hst (lv_room hcat) hd ⟨by show cells + 0 ≤ mc; omega, by show slots + 0 ≤ ms; omega⟩
  · rcases List.mem_append.mp hw with hw | hw
    · simp only [List.mem_cons, List.not_mem_nil, or_false] at hw
      rcases hw with rfl | rfl | rfl
      · exact x_good hk
      · exact x_good m6
      · exact x_good m2
    · exact x_goodws m1 w hw
  · obtain ⟨-, q1, q2⟩ := x_pre (av := []) hE hR hS U hU hW
    refine ⟨rfl, q1, q2, ?_, ?_, z3⟩
    · rw [hU]
      exact (z1.kept (hS.2.1 b z2 (Nat.not_le.mpr z3))).moved hW.alike
    · rw [hU, hR.1]
      exact Nat.lt_of_lt_of_le z3 hR.2.1
end XRM
