/-! X's rules: ends, contracts, calls, exceptions. -/
theorem x_Env.vm {B : Nat} {s U : State} {H : Heap} (hv : s.vm = U.vm) (h : x_Env B s H) : x_Env B U H := by
  obtain ⟨h1, h2, h3, n1, n2, n3, n4, h5, h6⟩ := h
  have hal : s.vm.Alike U.vm := by rw [hv]; exact Vm.Alike.refl _
  refine ⟨fun w hw hk => ?_, fun own k tx hm => ?_, fun C hC => (h3 C hC).moved hal, n1.moved hal, n2.moved hal, n3.moved hal, n4.moved hal, h5.moved hal, h6.moved hal⟩
  · have hz := h1 w hw hk
    exact va_Nw.same (by cases w <;> first | rfl | (simp [x_nk] at hk)) hv hz
  · obtain ⟨a, ha⟩ := h2 own k tx hm
    exact ⟨a, vk_R.same hv.symm ha⟩
section XR4
variable {M : XMD} {fr lo : Nat} {Tg : XT} {RO : Nat → State → Prop} {rc rs pc : Nat} {lv : List (Nat × Value)} {rest : List Value} {h : XH} {res : XR}
theorem x_iret {v : Int32} (hd : decode M.2.1 pc = .ok (.ireturn, 1)) (ht : M.2.2.2.1 = some .int) (hq : res = .inl (some (.int v), h)) : X M fr lo (x_end res) RO rc rs pc lv [.int v] h := by
  intro l B p e s m args below meth c H locs cells slots mc ms ls hC hRO hl hR hS g1 g2
  obtain ⟨hx, hb, hr, hml, hown, hts, hlk, hnm, htab, hE, htr⟩ := hC
  refine W.widen (k := mc) (n := ms) (by omega) (by omega) (vx_ret (W.iret hx hb (hr.trans ht) (fun t ht hW => ⟨⟨_, h, hq, rfl, ?_⟩, hS.F ht⟩) hS.2.2 hd))
  rw [ht]; exact hR.moved hW.alike
theorem x_zret {v : Int32} (hd : decode M.2.1 pc = .ok (.ireturn, 1)) (ht : M.2.2.2.1 = some .boolean) (hv : v = 0 ∨ v = 1) (hq : res = .inl (some (.int v), h)) : X M fr lo (x_end res) RO rc rs pc lv [.int v] h := by
  intro l B p e s m args below meth c H locs cells slots mc ms ls hC hRO hl hR hS g1 g2
  obtain ⟨hx, hb, hr, hml, hown, hts, hlk, hnm, htab, hE, htr⟩ := hC
  refine W.widen (k := mc) (n := ms) (by omega) (by omega) (vx_ret (W.zret hx hb (hr.trans ht) (by rcases hv with rfl | rfl <;> rfl) (fun t ht hW => ⟨⟨_, h, hq, rfl, ?_⟩, hS.F ht⟩) hS.2.2 hd))
  rw [ht]; exact hR.moved hW.alike
theorem x_lret {v : Int64} (hd : decode M.2.1 pc = .ok (.lreturn, 1)) (ht : M.2.2.2.1 = some .long) (hq : res = .inl (some (.long v), h)) : X M fr lo (x_end res) RO rc rs pc lv [.long v] h := by
  intro l B p e s m args below meth c H locs cells slots mc ms ls hC hRO hl hR hS g1 g2
  obtain ⟨hx, hb, hr, hml, hown, hts, hlk, hnm, htab, hE, htr⟩ := hC
  refine W.widen (k := mc) (n := ms) (by omega) (by omega) (vx_ret (W.lret hx hb (hr.trans ht) (fun t ht hW => ⟨⟨_, h, hq, rfl, ?_⟩, hS.F ht⟩) hS.2.2 hd))
  rw [ht]; exact hR.moved hW.alike
theorem x_dret {v : UInt64} (hd : decode M.2.1 pc = .ok (.dreturn, 1)) (ht : M.2.2.2.1 = some .double) (hq : res = .inl (some (.double v), h)) : X M fr lo (x_end res) RO rc rs pc lv [.double v] h := by
  intro l B p e s m args below meth c H locs cells slots mc ms ls hC hRO hl hR hS g1 g2
  obtain ⟨hx, hb, hr, hml, hown, hts, hlk, hnm, htab, hE, htr⟩ := hC
  refine W.widen (k := mc) (n := ms) (by omega) (by omega) (vx_ret (W.dret hx hb (hr.trans ht) (fun t ht hW => ⟨⟨_, h, hq, rfl, ?_⟩, hS.F ht⟩) hS.2.2 hd))
  rw [ht]; exact hR.moved hW.alike
theorem x_vret (hd : decode M.2.1 pc = .ok (.return_, 1)) (ht : M.2.2.2.1 = none) (hq : res = .inl (none, h)) : X M fr lo (x_end res) RO rc rs pc lv [] h := by
  intro l B p e s m args below meth c H locs cells slots mc ms ls hC hRO hl hR hS g1 g2
  obtain ⟨hx, hb, hr, hml, hown, hts, hlk, hnm, htab, hE, htr⟩ := hC
  refine W.widen (k := mc) (n := ms) (by omega) (by omega) (vx_ret (W.vret hx hb (hr.trans ht) (fun t ht hW => ⟨⟨_, h, hq, rfl, ?_⟩, hS.F ht⟩) hS.2.2 hd))
  rw [ht]; exact hR.moved hW.alike
theorem x_aret {r : Option Nat} {C : String} (hd : decode M.2.1 pc = .ok (.areturn, 1)) (ht : M.2.2.2.1 = some (.object C)) (hq : res = .inl (some (va_rf r), h)) : X M fr lo (x_end res) RO rc rs pc lv [va_rf r] h := by
  intro l B p e s m args below meth c H locs cells slots mc ms ls hC hRO hl hR hS g1 g2
  obtain ⟨hx, hb, hr, hml, hown, hts, hlk, hnm, htab, hE, htr⟩ := hC
  refine W.widen (k := mc) (n := ms) (by omega) (by omega) (vx_ret (W.aret hx hb (hr.trans ht) (Or.inl ⟨_, rfl⟩) (by cases r with | none => exact Or.inl rfl | some a => exact Or.inr ⟨a, rfl⟩) (fun t ht hW => ⟨⟨_, h, hq, rfl, ?_⟩, hS.F ht⟩) hS.2.2 hd))
  rw [ht]; exact hR.moved hW.alike
theorem x_iretn {v : Int32} {res : Option Value × XM} (hd : decode M.2.1 pc = .ok (.ireturn, 1)) (ht : M.2.2.2.1 = some .int) (hq : res = (some (.int v), h.1)) : X M fr lo (x_endn res) RO rc rs pc lv [.int v] h := by
  intro l B p e s m args below meth c H locs cells slots mc ms ls hC hRO hl hR hS g1 g2
  obtain ⟨hx, hb, hr, hml, hown, hts, hlk, hnm, htab, hE, htr⟩ := hC
  subst hq
  refine W.widen (k := mc) (n := ms) (by omega) (by omega) (W.iret hx hb (hr.trans ht) (fun t ht hW => ⟨⟨h.2, rfl, ?_⟩, hS.F ht⟩) hS.2.2 hd)
  rw [ht]; exact hR.moved hW.alike
end XR4
/-- a body is a contract -/
theorem x_body {M : XMD} {fr lo mc ms : Nat} {av : List Value} {h : XH} {Tg : XT} {l : Launch} {B : Nat} (htr : l.stackTraces = false) (hn : (lg_sl av).length ≤ M.2.2.1) (k : X M fr lo Tg x_noRO mc ms 0 (lv_args 0 av) [] h)
    {p : Program} {e : Env} {s : State} {m : MethodId} {args : Array Value} {below : List Frame} {meth : Method} {c : Code} {s₁ : State} (b : BodyLoose p l M.1 (headSpec (x_ws M) { frames := fr, cells := mc, slots := ms, locals := lo }) M.2.1 M.2.2.1 M.2.2.2.1 e s m args below meth c s₁) (hml : c.maxLocals = M.2.2.1) (htab : c.exceptionTable.toList = tableOf M.2.2.2.2) (hp : args = av.toArray ∧ x_Env B s s.heap ∧ x_Rep B h s s.heap) :
    W p l e { frames := fr, cells := mc, slots := ms, locals := lo } s m args below meth c s.heap [] 0 0 (Tg B below args s mc ms) (entryFrame m args M.2.2.1) := by
  obtain ⟨rfl, hE, hR⟩ := hp
  have hts := atoms_spec (ws := x_ws M) b.pre
  rw [lg_entry_eq]
  exact k l B p e s m _ below meth c s.heap [] 0 0 mc ms _ ⟨b.exec, b.bytes, b.returns, hml, findClass_of_methodNamed b.named, fun w hw => hts w (List.mem_cons_of_mem _ hw), b.notSynchronized, (name_of_methodNamed b.named b.method).1, htab, hE, htr⟩ trivial (lv_entry av hn) hR va_S.rf (by omega) (by omega)
theorem x_ct {M : XMD} {fr lo mc ms : Nat} {av : List Value} {h : XH} {res : XR} (hy : plainName M.1.cls = true) (hh : M.2.2.2.2 = []) (hn : (lg_sl av).length ≤ M.2.2.1) (k : X M fr lo (x_end res) x_noRO mc ms 0 (lv_args 0 av) [] h) : x_Ct M fr lo mc ms av h res := by
  intro l B htr
  refine vx_ofW (cc := M.2.1) (maxL := M.2.2.1) (ret := M.2.2.2.1) (ws' := x_tb) hy (by unfold x_ws x_cw; rw [hh]) ?_
  intro p e s m args below meth c s₁ b hml ht hp
  exact x_body htr hn k b hml (by rw [hh]; show _ = []; cases hz : c.exceptionTable.toList with | nil => rfl | cons q r => exact (ht q (by rw [hz]; exact List.mem_cons_self)).elim) hp
theorem x_cn {M : XMD} {fr lo mc ms : Nat} {av : List Value} {h : XH} {res : Option Value × XM} {q : Nat × Nat × Nat × Nat} {hs : List (Nat × Nat × Nat × Nat)} (hy : plainName M.1.cls = true) (hh : M.2.2.2.2 = q :: hs) (hn : (lg_sl av).length ≤ M.2.2.1) (k : X M fr lo (x_endn res) x_noRO mc ms 0 (lv_args 0 av) [] h) : x_Cn M fr lo mc ms av h res := by
  intro l B htr
  have hM : vx_Met l M.1 (x_ws M) { frames := fr, cells := mc, slots := ms, locals := lo } (fun v U => v = av.toArray ∧ x_Env B U U.heap ∧ x_Rep B h U U.heap) (x_Qn B res) (fun _ _ _ => False) mc ms (fun q => B ≤ q) := by
    refine vx_ofWH (cc := M.2.1) (maxL := M.2.2.1) (ret := M.2.2.2.1) (hh := q :: hs) (ws' := x_tb) hy (by unfold x_ws x_cw; rw [hh]) ?_
    intro p e s m args below meth c s₁ b hml hp
    have htab : c.exceptionTable.toList = tableOf M.2.2.2.2 := by
      rw [hh]
      exact vx_table (x := M.1) (y := M.1) b (atoms_spec (ws := x_ws M) b.pre _ (by unfold x_ws x_cw; rw [hh]; exact List.mem_cons_self))
    exact vx_ret (x_body htr hn k b hml htab hp)
  intro p e h1 h2 h3 s m args below h4 h5 h6 h7
  obtain ⟨n, o, a1, a2, a3, a4⟩ := hM p e h1 h2 h3 s m args below h4 h5 h6 h7
  refine ⟨n, o, a1, a2, a3, ?_⟩
  rcases a4 with a4 | ⟨q9, -, E, ce, L, hX, -⟩
  · exact a4
  · exact hX.elim
/-- a contract that doesn't throw -/
theorem x_Ct.met {M : XMD} {fr lo mc ms : Nat} {av : List Value} {h : XH} {v : Option Value} {h' : XH} (k : x_Ct M fr lo mc ms av h (.inl (v, h'))) (l : Launch) (B : Nat) (htr : l.stackTraces = false) : Met l M.1 (x_ws M) { frames := fr, cells := mc, slots := ms, locals := lo } (fun v U => v = av.toArray ∧ x_Env B U U.heap ∧ x_Rep B h U U.heap) (x_Qc B (.inl (v, h'))) mc ms (fun q => B ≤ q) := by
  intro p e h1 h2 h3 s m args below h4 h5 h6 h7
  obtain ⟨n, o, a1, a2, a3, a4⟩ := k l B htr p e h1 h2 h3 s m args below h4 h5 h6 h7
  refine ⟨n, o, a1, a2, a3, ?_⟩
  rcases a4 with a4 | ⟨q9, -, E, ce, L, ⟨⟨hm, n9, hX, -⟩, -⟩, -⟩
  · exact a4
  · cases hX
/-- a method of the same or another class, by a plain link: what the tables say of it; n: its arguments -/
def x_MB (M' : XMD) (n : Nat) : Prop := x_cw M' ∈ x_tb ∧ Cond.initialized M'.1.cls ∈ x_tb ∧ M'.1.cls ≠ "java/lang/invoke/MethodHandle" ∧ M'.1.cls ≠ "java/lang/invoke/VarHandle" ∧ (parseMethodDescriptor M'.1.desc).map (fun d => d.parameters.length) = some n
def x_MV (M' : XMD) (n : Nat) : Prop := x_MB M' n ∧ M'.2.2.2.2 = [] ∧ Cond.instanceMethod M'.1 ∈ x_tb ∧ Cond.selects M'.1.cls M'.1 M'.1 ∈ x_tb
def x_MS (M' : XMD) (n : Nat) : Prop := x_MB M' n ∧ Cond.static M'.1 ∈ x_tb
def x_MI (M' : XMD) (n : Nat) : Prop := x_MB M' n ∧ M'.2.2.2.2 = [] ∧ M'.2.2.2.1 = none ∧ M'.1.name = "<init>" ∧ Cond.instanceMethod M'.1 ∈ x_tb
/-- how it is linked: plainly, or as a nest mate -/
def x_Lk (own : String) (index : Nat) (M' : XMD) : Prop := Cond.methodLink own index M'.1 ∈ x_tb
def x_LkN (own : String) (index : Nat) (M' : XMD) : Prop := ∃ host, Cond.methodLinkNest own index M'.1 host ∈ lw_tbl
theorem x_good {w : Cond} (hw : w ∈ x_tb) : w ∈ x_tb ∧ ((w.onTables && w.keeps) = true ∨ ∃ ty, w = .arrayClass ty) := x_tb_good w hw
theorem x_goodws {M' : XMD} (h : x_cw M' ∈ x_tb) : GoodIn x_tb (x_ws M') := fun w hw => by
  rcases List.mem_cons.mp hw with rfl | hw
  · exact x_good h
  · exact x_good hw
theorem x_cw0 {M' : XMD} (hh : M'.2.2.2.2 = []) : x_cw M' = .code M'.1 M'.2.1 M'.2.2.1 M'.2.2.2.1 := by unfold x_cw; rw [hh]
theorem x_cw1 {M' : XMD} {q : Nat × Nat × Nat × Nat} {hs : List (Nat × Nat × Nat × Nat)} (hh : M'.2.2.2.2 = q :: hs) : x_cw M' = .codeWith M'.1 M'.2.1 M'.2.2.1 M'.2.2.2.1 (q :: hs) := by unfold x_cw; rw [hh]
section XR5
variable {M M' : XMD} {fr lo fr' lo' mc' ms' : Nat} {Tg : XT} {RO : Nat → State → Prop} {rc rs pc : Nat} {lv : List (Nat × Value)} {rest st : List Value} {h : XH} {res : XR}
/-- what goes on behind a call -/
def x_K (M : XMD) (fr lo : Nat) (Tg : XT) (RO : Nat → State → Prop) (rc1 rs1 pc : Nat) (lv : List (Nat × Value)) (rest : List Value) (res : XR) : Prop := ∀ (v : Option Value) (h' : XH), res = .inl (v, h') → X M fr lo Tg RO rc1 rs1 (pc + 3) lv (v.toList ++ rest) h'
/-- what goes on where it throws -/
def x_KX (M : XMD) (fr lo : Nat) (Tg : XT) (RO : Nat → State → Prop) (rc1 rs1 pc : Nat) (lv : List (Nat × Value)) (rest : List Value) (res : XR) : Prop :=
  ∀ (E : String) (hm : XM), res = .inr (E, hm) → ∀ (n : Nat) (l : Launch) (B : Nat) (p : Program) (e : Env) (s : State) (m : MethodId) (args : Array Value) (below : List Frame) (meth : Method) (c : Code) (H : Heap) (locs : List Loc) (cells slots mc ms : Nat) (ls : Array Slot) (q : Addr) (ce : Cell),
    x_Ctx M B l p s m args meth c → RO B s → lv_has ls M.2.2.1 lv → x_Rep B (hm, n) s H → va_S (fun q => B ≤ q) s.heap H locs → cells + rc1 ≤ mc → slots + rs1 ≤ ms → H[q]? = some ce → ce.vm = .none → s.vm.findClass E = some ce.cls →
    vx_W p l e { frames := fr, cells := mc, slots := ms, locals := lo } s m args below meth c H locs cells slots (Tg B below args s mc ms) (F0 m pc ls rest) q
theorem x_blind {B : Nat} {av : List Value} {h : XH} : FrameBlind (fun v U => v = av.toArray ∧ x_Env B U U.heap ∧ x_Rep B h U U.heap) := by
  intro a U g mk q
  obtain ⟨q0, q1, q2⟩ := q
  exact ⟨q0, x_Env.vm (s := U) (U := U.calling g mk a) rfl q1, x_Rep.moved (u := U) (U := U.calling g mk a) (Vm.Alike.refl U.vm) q2⟩
theorem x_pre {B : Nat} {av : List Value} {h : XH} {s : State} {H : Heap} {locs : List Loc} (hE : x_Env B s s.heap) (hR : x_Rep B h s H) (hS : va_S (fun q => B ≤ q) s.heap H locs) : ∀ U : State, U.heap = H → s.WarmedH U.vm → av.toArray = av.toArray ∧ x_Env B U U.heap ∧ x_Rep B h U U.heap := by
  intro U hU hW
  rw [hU]
  exact ⟨rfl, hE.same hW (fun a h1 h2 => hS.2.1 a h1 h2), hR.moved hW.alike⟩
/-- behind the run of a call -/
theorem x_after {As : Array Value} (rc1 rs1 : Nat) (h1 : rc1 + mc' ≤ rc) (h2 : rs1 + ms' ≤ rs) (kk : x_K M fr lo Tg RO rc1 rs1 pc lv rest res) (kx : x_KX M fr lo Tg RO rc1 rs1 pc lv rest res)
    {l : Launch} {B : Nat} {p : Program} {e : Env} {s : State} {m : MethodId} {args : Array Value} {below : List Frame} {meth : Method} {c : Code} {H : Heap} {locs : List Loc} {cells slots mc ms : Nat} {ls : Array Slot} {h : XH} (hC : x_Ctx M B l p s m args meth c) (hRO : RO B s) (hl : lv_has ls M.2.2.1 lv) (hR : x_Rep B h s H) (hS : va_S (fun q => B ≤ q) s.heap H locs) (g1 : cells + rc ≤ mc) (g2 : slots + rs ≤ ms)
    (hr : vx_Run p l e { frames := fr, cells := mc, slots := ms, locals := lo } s m args below meth c H locs cells slots mc' ms' (F0 m pc ls st) rest (x_Qc B res As) (x_XC B res) (fun q => B ≤ q)) :
    W p l e { frames := fr, cells := mc, slots := ms, locals := lo } s m args below meth c H locs cells slots (Tg B below args s mc ms) (F0 m pc ls st) := by
  intro T hT X0
  rcases hr T hT X0 with ⟨v, st₀, t, T', L, h0, X', hL, e1, e2, ⟨⟨v9, h9, hq, hv, hRt⟩, hF⟩, stp⟩ | ⟨q, st₀, t, T', L, E, ce, h0, X', hL, e1, e2, ⟨⟨hm, n, hq, hRt⟩, hF⟩, hce, hcv, hcl, stp⟩
  · cases hv
    obtain ⟨k1, k2, k3⟩ := vx_keep h0 e1 hS (fun q _ z => z) (fun q z => z) hL hF
    have hal : t.vm.Alike s.vm := by rw [← e2]; exact X'.warmed.alike.symm
    obtain ⟨t2, a1, b1⟩ := kk v h9 hq l B p e s m args below meth c T'.heap (locs ++ L) (cells + mc') (slots + ms') mc ms ls hC hRO hl (by rw [e1]; exact hRt.moved hal) k3 (by omega) (by omega) T' rfl X'
    exact ⟨t2, stp t2 a1, b1⟩
  · obtain ⟨k1, k2, k3⟩ := vx_keep h0 e1 hS (fun q _ z => z) (fun q z => z) hL hF
    have hal : t.vm.Alike s.vm := by rw [← e2]; exact X'.warmed.alike.symm
    obtain ⟨t2, a1, b1⟩ := kx E hm hq n l B p e s m args below meth c T'.heap (locs ++ L) (cells + mc') (slots + ms') mc ms ls q ce hC hRO hl (by rw [e1]; exact hRt.moved hal) k3 (by omega) (by omega) (by rw [e1]; exact hce) hcv hcl T' rfl X'
    exact ⟨t2, stp.trans a1, b1⟩
theorem x_afterM {As : Array Value} {v : Option Value} {h' : XH} (rc1 rs1 : Nat) (h1 : rc1 + mc' ≤ rc) (h2 : rs1 + ms' ≤ rs) (kk : X M fr lo Tg RO rc1 rs1 (pc + 3) lv (v.toList ++ rest) h')
    {l : Launch} {B : Nat} {p : Program} {e : Env} {s : State} {m : MethodId} {args : Array Value} {below : List Frame} {meth : Method} {c : Code} {H : Heap} {locs : List Loc} {cells slots mc ms : Nat} {ls : Array Slot} {h : XH} (hC : x_Ctx M B l p s m args meth c) (hRO : RO B s) (hl : lv_has ls M.2.2.1 lv) (hR : x_Rep B h s H) (hS : va_S (fun q => B ≤ q) s.heap H locs) (g1 : cells + rc ≤ mc) (g2 : slots + rs ≤ ms)
    (hr : va_Run p l e { frames := fr, cells := mc, slots := ms, locals := lo } s m args below meth c H locs cells slots mc' ms' (F0 m pc ls st) rest (x_Qc B (.inl (v, h')) As) (fun q => B ≤ q)) :
    W p l e { frames := fr, cells := mc, slots := ms, locals := lo } s m args below meth c H locs cells slots (Tg B below args s mc ms) (F0 m pc ls st) := by
  intro T hT X0
  obtain ⟨v8, st₀, t, T', L, h0, X', hL, e1, e2, ⟨⟨v9, h9, hq, hv, hRt⟩, hF⟩, stp⟩ := hr T hT X0
  cases hv
  cases hq
  obtain ⟨k1, k2, k3⟩ := vx_keep h0 e1 hS (fun q _ z => z) (fun q z => z) hL hF
  have hal : t.vm.Alike s.vm := by rw [← e2]; exact X'.warmed.alike.symm
  obtain ⟨t2, a1, b1⟩ := kk l B p e s m args below meth c T'.heap (locs ++ L) (cells + mc') (slots + ms') mc ms ls hC hRO hl (by rw [e1]; exact hRt.moved hal) k3 (by omega) (by omega) T' rfl X'
  exact ⟨t2, stp t2 a1, b1⟩
theorem x_recv {B : Nat} {s : State} {H : Heap} {b ci : Nat} {fs : List Value} {cls : String} (hR : x_Rep B h s H) (hb : h.1 b = some (.inr (ci, fs))) (hc : x_cls ci = cls) : ∃ cell : Cell, H[b]? = some cell ∧ cell.vm.isStatics = false ∧ s.vm.findClass cls = some cell.cls := by
  obtain ⟨r1, r2, r3, D, r4, r5⟩ := hR
  obtain ⟨q', h1, cell, g1, g2, g3, -⟩ := r5 _ _ hb
  refine ⟨cell, g1, by rw [g3]; rfl, ?_⟩
  rw [← hc, g2]
  unfold x_cls
  rw [h1]
  exact (r4 ci q' h1).2.1
/-- a virtual call -/
theorem x_callv {index n b ci : Nat} {fs : List Value} {As : List Value} (rc1 rs1 : Nat) (hd : decode M.2.1 pc = .ok (.invokevirtual index, 3)) (hm : x_MV M' n) (hk : x_Lk M.1.cls index M') (hst : st = As.reverse ++ .ref b :: rest) (hn : As.length = n) (hcat : (rest.map fun v => v.category).sum ≤ 8) (hf : fr' + 1 ≤ fr ∧ 8 + (M'.2.2.1 + 11) + lo' ≤ lo) (h1 : rc1 + mc' ≤ rc) (h2 : rs1 + ms' ≤ rs) (hb : h.1 b = some (.inr (ci, fs))) (hcl : x_cls ci = M'.1.cls)
    (hc : x_Ct M' fr' lo' mc' ms' (.ref b :: As) h res) (kk : x_K M fr lo Tg RO rc1 rs1 pc lv rest res) (kx : x_KX M fr lo Tg RO rc1 rs1 pc lv rest res) : X M fr lo Tg RO rc rs pc lv st h := by
  intro l B p e s m args below meth c H locs cells slots mc ms ls hC hRO hl hR hS g1 g2
  refine x_after (h := h) (As := (Value.ref b :: As).toArray) rc1 rs1 h1 h2 kk kx hC hRO hl hR hS g1 g2 ?_
  obtain ⟨hx, hb9, hr, hml, hown, hts, hlk, hnm, htab, hE, htr⟩ := hC
  obtain ⟨⟨m1, m2, m3, m4, m5⟩, m6, m7, m8⟩ := hm
  refine vx_runV (As := As) (C := M'.1.cls) (n := n) ⟨hx, hb9, hml, hown, hts⟩ (hc l B htr) (cwV (bytes := M'.2.1) (maxL := M'.2.2.1) (ret := M'.2.2.2.1) n hts (fun w hw => ?_) (by unfold x_ws; rw [x_cw0 m6]) rfl rfl ⟨rfl, m3, m4, m5⟩ hf) ⟨x_blind, x_recv hR hb hcl, fun U hU hW => ?_⟩ rfl hn hl.1 hst (lv_room hcat) hd ⟨by show cells + mc' ≤ mc; omega, by show slots + ms' ≤ ms; omega⟩
  · rcases List.mem_append.mp hw with hw | hw
    · simp only [List.mem_cons, List.not_mem_nil, or_false] at hw
      rcases hw with rfl | rfl | rfl | rfl
      · exact x_good hk
      · exact x_good m7
      · exact x_good m8
      · exact x_good m2
    · exact x_goodws m1 w hw
  · obtain ⟨-, q1, q2⟩ := x_pre (av := []) hE hR hS U hU hW
    exact ⟨rfl, q1, q2⟩
theorem x_KX.none {v : Option Value} {h' : XH} {rc1 rs1 : Nat} : x_KX M fr lo Tg RO rc1 rs1 pc lv rest (.inl (v, h')) := fun E hm hq => by cases hq
/-- an exception that no row of this method catches leaves it -/
theorem x_KX.out {rc1 rs1 : Nat} {res0 : XR} (hh : M.2.2.2.2 = []) (hq : ∀ E hm, res = .inr (E, hm) → res0 = .inr (E, hm)) : x_KX M fr lo (x_end res0) RO rc1 rs1 pc lv rest res := by
  intro E hm hE9 n l B p e s m args below meth c H locs cells slots mc ms ls q ce hC hRO hl hR hS g1 g2 hce hcv hcl
  obtain ⟨hx, hb9, hr, hml, hown, hts, hlk, hnm, htab, hE, htr⟩ := hC
  have h0 := hq E hm hE9
  refine vx_out (fun x hx9 => ?_) hlk hce hcv hcl (fun t ht hA => ⟨⟨hm, n, h0, ?_⟩, hS.F ht⟩) hS.2.2 (by omega) (by omega)
  · rw [htab, hh] at hx9
    cases hx9
  · rw [ht]
    exact hR.moved hA
/-- a static call -/
theorem x_calls {index n : Nat} {As : List Value} (rc1 rs1 : Nat) (hd : decode M.2.1 pc = .ok (.invokestatic index, 3)) (hm : x_MS M' n) (hh : M'.2.2.2.2 = []) (hk : x_Lk M.1.cls index M') (hst : st = As.reverse ++ rest) (hn : As.length = n) (hcat : (rest.map fun v => v.category).sum ≤ 8) (hf : fr' + 1 ≤ fr ∧ 8 + (M'.2.2.1 + 11) + lo' ≤ lo) (h1 : rc1 + mc' ≤ rc) (h2 : rs1 + ms' ≤ rs)
    (hc : x_Ct M' fr' lo' mc' ms' As h res) (kk : x_K M fr lo Tg RO rc1 rs1 pc lv rest res) (kx : x_KX M fr lo Tg RO rc1 rs1 pc lv rest res) : X M fr lo Tg RO rc rs pc lv st h := by
  intro l B p e s m args below meth c H locs cells slots mc ms ls hC hRO hl hR hS g1 g2
  refine x_after (h := h) (As := As.toArray) rc1 rs1 h1 h2 kk kx hC hRO hl hR hS g1 g2 ?_
  obtain ⟨hx, hb9, hr, hml, hown, hts, hlk, hnm, htab, hE, htr⟩ := hC
  obtain ⟨⟨m1, m2, m3, m4, m5⟩, m6⟩ := hm
  refine vx_runS (As := As) (n := n) ⟨hx, hb9, hml, hown, hts⟩ (hc l B htr) (va_cwS (bytes := M'.2.1) (maxL := M'.2.2.1) (ret := M'.2.2.2.1) n hts (fun w hw => ?_) (by unfold x_ws; rw [x_cw0 hh]) rfl rfl ⟨m3, m4, m5⟩ hf) ⟨x_blind, fun U hU hW => ?_⟩ rfl hn hl.1 hst (lv_room hcat) hd ⟨by show cells + mc' ≤ mc; omega, by show slots + ms' ≤ ms; omega⟩
  · rcases List.mem_append.mp hw with hw | hw
    · simp only [List.mem_cons, List.not_mem_nil, or_false] at hw
      rcases hw with rfl | rfl | rfl
      · exact x_good hk
      · exact x_good m6
      · exact x_good m2
    · exact x_goodws m1 w hw
  · obtain ⟨-, q1, q2⟩ := x_pre (av := []) hE hR hS U hU hW
    exact ⟨rfl, q1, q2⟩
/-- a static call of a nest mate's private method; it doesn't throw -/
theorem x_callsN {index n : Nat} {As : List Value} {v : Option Value} {h' : XH} (rc1 rs1 : Nat) (hd : decode M.2.1 pc = .ok (.invokestatic index, 3)) (hm : x_MS M' n) (hh : M'.2.2.2.2 = []) (hk : x_LkN M.1.cls index M') (hst : st = As.reverse ++ rest) (hn : As.length = n) (hcat : (rest.map fun v => v.category).sum ≤ 8) (hf : fr' + 1 ≤ fr ∧ 8 + (M'.2.2.1 + 11) + lo' ≤ lo) (h1 : rc1 + mc' ≤ rc) (h2 : rs1 + ms' ≤ rs)
    (hc : x_Ct M' fr' lo' mc' ms' As h (.inl (v, h'))) (kk : X M fr lo Tg RO rc1 rs1 (pc + 3) lv (v.toList ++ rest) h') : X M fr lo Tg RO rc rs pc lv st h := by
  intro l B p e s m args below meth c H locs cells slots mc ms ls hC hRO hl hR hS g1 g2
  refine x_afterM (h := h) (As := As.toArray) rc1 rs1 h1 h2 kk hC hRO hl hR hS g1 g2 ?_
  obtain ⟨hx, hb9, hr, hml, hown, hts, hlk, hnm, htab, hE, htr⟩ := hC
  obtain ⟨⟨m1, m2, m3, m4, m5⟩, m6⟩ := hm
  obtain ⟨host, hk⟩ := hk
  refine va_runSN (As := As) (n := n) (host := host) ⟨hx, hb9, hml, hown, hts⟩ (hc.met l B htr) ⟨va_cnB (bytes := M'.2.1) (maxL := M'.2.2.1) (ret := M'.2.2.2.1) n hts (x_goodws m1) (by unfold x_ws; rw [x_cw0 hh]) rfl rfl (hE.1 _ hk rfl) (hts _ m2) ⟨m3, m4, m5⟩ hf, hts _ m6, trivial⟩ ⟨x_blind, fun U hU hW => ?_⟩ rfl hn hl.1 hst (lv_room hcat) hd ⟨by show cells + mc' ≤ mc; omega, by show slots + ms' ≤ ms; omega⟩
  obtain ⟨-, q1, q2⟩ := x_pre (av := []) hE hR hS U hU hW
  exact ⟨rfl, q1, q2⟩
/-- a constructor -/
theorem x_calli {index n b : Nat} {As : List Value} {v : Option Value} {h' : XH} (rc1 rs1 : Nat) (hd : decode M.2.1 pc = .ok (.invokespecial index, 3)) (hm : x_MI M' n) (hk : x_Lk M.1.cls index M') (hst : st = As.reverse ++ .ref b :: rest) (hn : As.length = n) (hcat : (rest.map fun v => v.category).sum ≤ 8) (hf : fr' + 1 ≤ fr ∧ 8 + (M'.2.2.1 + 11) + lo' ≤ lo) (h1 : rc1 + mc' ≤ rc) (h2 : rs1 + ms' ≤ rs)
    (hc : x_Ct M' fr' lo' mc' ms' (.ref b :: As) h (.inl (v, h'))) (kk : X M fr lo Tg RO rc1 rs1 (pc + 3) lv (v.toList ++ rest) h') : X M fr lo Tg RO rc rs pc lv st h := by
  intro l B p e s m args below meth c H locs cells slots mc ms ls hC hRO hl hR hS g1 g2
  refine x_afterM (h := h) (As := (Value.ref b :: As).toArray) rc1 rs1 h1 h2 kk hC hRO hl hR hS g1 g2 ?_
  obtain ⟨hx, hb9, hr, hml, hown, hts, hlk, hnm, htab, hE, htr⟩ := hC
  obtain ⟨⟨m1, m2, m3, m4, m5⟩, m6, m7, m8, m9⟩ := hm
  refine va_runI (As := As) (n := n) ⟨hx, hb9, hml, hown, hts⟩ (hc.met l B htr) (cwI (bytes := M'.2.1) (maxL := M'.2.2.1) n hts (x_goodws m1) (by unfold x_ws; rw [x_cw0 m6, m7]) rfl rfl (hts _ m2) (hts _ hk) (hts _ m9) m8 ⟨m3, m4, m5⟩ hf) ⟨x_blind, fun U hU hW => ?_⟩ rfl hn hl.1 hst (lv_room hcat) hd ⟨by show cells + mc' ≤ mc; omega, by show slots + ms' ≤ ms; omega⟩
  obtain ⟨-, q1, q2⟩ := x_pre (av := []) hE hR hS U hU hW
  exact ⟨rfl, q1, q2⟩
theorem x_calliN {index n b : Nat} {As : List Value} {v : Option Value} {h' : XH} (rc1 rs1 : Nat) (hd : decode M.2.1 pc = .ok (.invokespecial index, 3)) (hm : x_MI M' n) (hk : x_LkN M.1.cls index M') (hst : st = As.reverse ++ .ref b :: rest) (hn : As.length = n) (hcat : (rest.map fun v => v.category).sum ≤ 8) (hf : fr' + 1 ≤ fr ∧ 8 + (M'.2.2.1 + 11) + lo' ≤ lo) (h1 : rc1 + mc' ≤ rc) (h2 : rs1 + ms' ≤ rs)
    (hc : x_Ct M' fr' lo' mc' ms' (.ref b :: As) h (.inl (v, h'))) (kk : X M fr lo Tg RO rc1 rs1 (pc + 3) lv (v.toList ++ rest) h') : X M fr lo Tg RO rc rs pc lv st h := by
  intro l B p e s m args below meth c H locs cells slots mc ms ls hC hRO hl hR hS g1 g2
  refine x_afterM (h := h) (As := (Value.ref b :: As).toArray) rc1 rs1 h1 h2 kk hC hRO hl hR hS g1 g2 ?_
  obtain ⟨hx, hb9, hr, hml, hown, hts, hlk, hnm, htab, hE, htr⟩ := hC
  obtain ⟨⟨m1, m2, m3, m4, m5⟩, m6, m7, m8, m9⟩ := hm
  obtain ⟨host, hk⟩ := hk
  refine va_runIN (As := As) (n := n) (host := host) ⟨hx, hb9, hml, hown, hts⟩ (hc.met l B htr) ⟨va_cnB (bytes := M'.2.1) (maxL := M'.2.2.1) (ret := none) n hts (x_goodws m1) (by unfold x_ws; rw [x_cw0 m6, m7]) rfl rfl (hE.1 _ hk rfl) (hts _ m2) ⟨m3, m4, m5⟩ hf, m8, hts _ m9⟩ ⟨x_blind, fun U hU hW => ?_⟩ rfl hn hl.1 hst (lv_room hcat) hd ⟨by show cells + mc' ≤ mc; omega, by show slots + ms' ≤ ms; omega⟩
  obtain ⟨-, q1, q2⟩ := x_pre (av := []) hE hR hS U hU hW
  exact ⟨rfl, q1, q2⟩
/-- a static call of a method with handlers: it doesn't throw, and leaves the heap's size open -/
theorem x_callsH {index n : Nat} {As : List Value} {res : Option Value × XM} {q9 : Nat × Nat × Nat × Nat} {hs : List (Nat × Nat × Nat × Nat)} (rc1 rs1 : Nat) (hd : decode M.2.1 pc = .ok (.invokestatic index, 3)) (hm : x_MS M' n) (hh : M'.2.2.2.2 = q9 :: hs) (hk : x_Lk M.1.cls index M') (hst : st = As.reverse ++ rest) (hn : As.length = n) (hcat : (rest.map fun v => v.category).sum ≤ 8) (hf : fr' + 1 ≤ fr ∧ 8 + (M'.2.2.1 + 11) + lo' ≤ lo) (h1 : rc1 + mc' ≤ rc) (h2 : rs1 + ms' ≤ rs)
    (hc : x_Cn M' fr' lo' mc' ms' As h res) (kk : ∀ n9 : Nat, X M fr lo Tg RO rc1 rs1 (pc + 3) lv (res.1.toList ++ rest) (res.2, n9)) : X M fr lo Tg RO rc rs pc lv st h := by
  intro l B p e s m args below meth c H locs cells slots mc ms ls hC hRO hl hR hS g1 g2
  have hr : va_Run p l e { frames := fr, cells := mc, slots := ms, locals := lo } s m args below meth c H locs cells slots mc' ms' (F0 m pc ls st) rest (x_Qn B res As.toArray) (fun q => B ≤ q) := by
    obtain ⟨hx, hb9, hr, hml, hown, hts, hlk, hnm, htab, hE, htr⟩ := hC
    obtain ⟨⟨m1, m2, m3, m4, m5⟩, m6⟩ := hm
    refine vx_runSW (As := As) (n := n) ⟨hx, hb9, hml, hown, hts⟩ (hc l B htr) (vx_cwSW (bytes := M'.2.1) (maxL := M'.2.2.1) (ret := M'.2.2.2.1) (hh := q9 :: hs) n hts (fun w hw => ?_) (by unfold x_ws; rw [x_cw1 hh]) rfl rfl ⟨m3, m4, m5⟩ hf) ⟨x_blind, fun U hU hW => ?_⟩ rfl hn hl.1 hst (lv_room hcat) hd ⟨by show cells + mc' ≤ mc; omega, by show slots + ms' ≤ ms; omega⟩
    · rcases List.mem_append.mp hw with hw | hw
      · simp only [List.mem_cons, List.not_mem_nil, or_false] at hw
        rcases hw with rfl | rfl | rfl
        · exact x_good hk
        · exact x_good m6
        · exact x_good m2
      · exact x_goodws m1 w hw
    · obtain ⟨-, q1, q2⟩ := x_pre (av := []) hE hR hS U hU hW
      exact ⟨rfl, q1, q2⟩
  intro T hT X0
  obtain ⟨v8, st₀, t, T', L, h0, X', hL, e1, e2, ⟨⟨n9, hv, hRt⟩, hF⟩, stp⟩ := hr T hT X0
  cases hv
  obtain ⟨k1, k2, k3⟩ := vx_keep h0 e1 hS (fun q _ z => z) (fun q z => z) hL hF
  have hal : t.vm.Alike s.vm := by rw [← e2]; exact X'.warmed.alike.symm
  obtain ⟨t2, a1, b1⟩ := kk n9 l B p e s m args below meth c T'.heap (locs ++ L) (cells + mc') (slots + ms') mc ms ls hC hRO hl (by rw [e1]; exact hRt.moved hal) k3 (by omega) (by omega) T' rfl X'
  exact ⟨t2, stp t2 a1, b1⟩
/-- an exception that a row of this method catches: past rows that name other classes -/
theorem x_KX.catch {rc1 rs1 : Nat} (hq : ∀ E hm, res = .inr (E, hm) → ∃ (pre : List ExceptionTableEntry) (x : ExceptionTableEntry) (suf : List ExceptionTableEntry), tableOf M.2.2.2.2 = pre ++ x :: suf ∧
      (∀ z ∈ pre, covers z pc = false ∨ (z.catchType ≠ 0 ∧ ∃ nm : String, Cond.classLink M.1.cls z.catchType nm ∈ x_tb ∧ ((E = x_ISE ∧ nm = x_IAE) ∨ (E = x_IAE ∧ nm = x_IOE) ∨ (E = x_ISE ∧ nm = x_IOE) ∨ (E = x_IAE ∧ nm = x_ISE)))) ∧ covers x pc = true ∧ x.catchType ≠ 0 ∧
      Cond.classLink M.1.cls x.catchType E ∈ x_tb ∧ Cond.castable E E ∈ lw_tbl ∧ ∀ (n q : Nat), X M fr lo Tg RO rc1 rs1 x.handlerPc lv [.ref q] (hm, n)) : x_KX M fr lo Tg RO rc1 rs1 pc lv rest res := by
  intro E hm hE9 n l B p e s m args below meth c H locs cells slots mc ms ls q ce hC hRO hl hR hS g1 g2 hce hcv hcl
  obtain ⟨pre, x, suf, t1, t2, t3, t4, t5, t6, t7⟩ := hq E hm hE9
  have K := t7 n q l B p e s m args below meth c H locs cells slots mc ms ls hC hRO hl hR hS g1 g2
  obtain ⟨hx, hb9, hr, hml, hown, hts, hlk, hnm, htab, hE, htr⟩ := hC
  refine vx_catch hown pre x suf (htab.trans t1) (fun z hz => ?_) t3 t4 (hts _ t5) (va_Nw.use rfl (hE.1 _ t6 rfl)) hce hcv hcl K
  rcases t2 z hz with h | ⟨h9, nm, h1, h2⟩
  · exact Or.inl h
  · refine Or.inr ⟨h9, nm, hts _ h1, ?_⟩
    rcases h2 with ⟨rfl, rfl⟩ | ⟨rfl, rfl⟩ | ⟨rfl, rfl⟩ | ⟨rfl, rfl⟩
    · exact hE.2.2.2.1
    · exact hE.2.2.2.2.1
    · exact hE.2.2.2.2.2.1
    · exact hE.2.2.2.2.2.2.1
/-- a class of exceptions that this method may throw: its words -/
def x_TL (own : String) (ik ic : Nat) (E : String) : Prop := Bundle.fit E = true ∧ Cond.classLink own ik E ∈ x_tb ∧ Cond.initialized E ∈ x_tb ∧ ∀ w ∈ vx_atS own ic E ["java/lang/RuntimeException", "java/lang/Exception"], w ∈ lw_tbl ∧ (goodWord w || x_nk w) = true
theorem x_hat {B : Nat} {s : State} {args : Array Value} {w : Cond} (hts : ∀ w ∈ x_tb, w.before args s = true) (hE : x_Env B s s.heap) (h : w ∈ lw_tbl ∧ (goodWord w || x_nk w) = true) : w.before args s = true ∧ vx_ot w = true := by
  obtain ⟨h1, h2⟩ := h
  rw [Bool.or_eq_true] at h2
  rcases h2 with h2 | h2
  · exact ⟨hts _ (x_tb_in h1 h2), by unfold vx_ot; rw [h2, Bool.or_true]⟩
  · have hz : w.onTables = true := by cases w <;> first | rfl | (simp [x_nk] at h2)
    exact ⟨va_Nw.use hz (hE.1 _ h1 h2), by unfold vx_ot; rw [hz, Bool.true_or]⟩
theorem x_throwS {ik is ic : Nat} {E text : String} (d0 : decode M.2.1 pc = .ok (.new ik, 3)) (d3 : decode M.2.1 (pc + 3) = .ok (.dup, 1)) (d4 : decode M.2.1 (pc + 4) = .ok (.ldc is, 2)) (d6 : decode M.2.1 (pc + 6) = .ok (.invokespecial ic, 3)) (d9 : decode M.2.1 (pc + 9) = .ok (.athrow, 1)) (hh : M.2.2.2.2 = []) (ht : x_TL M.1.cls ik ic E) (hstr : Cond.stringRef M.1.cls is text ∈ lw_tbl)
    (hfr : 6 ≤ fr) (hlo : 90 ≤ lo) (h1 : 1 ≤ rc) (h2 : 6 ≤ rs) (hcat : (rest.map fun v => v.category).sum ≤ 8) (hq : res = .inr (E, h.1)) : X M fr lo (x_end res) RO rc rs pc lv rest h := by
  intro l B p e s m args below meth c H locs cells slots mc ms ls hC hRO hl hR hS g1 g2
  obtain ⟨hx, hb9, hr, hml, hown, hts, hlk, hnm, htab, hE, htr⟩ := hC
  obtain ⟨t1, t2, t3, t4⟩ := ht
  obtain ⟨sa, hsa⟩ := hE.2.1 _ _ _ hstr
  refine vx_throwS (names := ["java/lang/RuntimeException", "java/lang/Exception"]) hx hb9 htr hown t1 (by decide) (hts _ t2) (hts _ t3) hsa (fun w hw => (x_hat hts hE (t4 w hw)).1) (fun w hw => ?_) hE.2.2.2.2.2.2.2.1 hE.2.2.2.2.2.2.2.2 hS (by rw [hml]; exact hl.1) d0 d3 d4 d6 d9 (fun x hx9 => ?_) (by show 2 + 3 < fr; omega) (by show _ + (13 * (2 + 1) + 43) ≤ lo; omega) (by show cells + 1 ≤ mc; omega) (by show slots + 6 ≤ ms; omega) hlk (fun t hA hz hk => ?_) hS.2.2 (by omega) (by omega)
  · rcases List.mem_cons.mp hw with rfl | hw
    · unfold vx_ot; rfl
    · rcases List.mem_cons.mp hw with rfl | hw
      · unfold vx_ot; rfl
      · exact (x_hat hts hE (t4 w hw)).2
  · rw [htab, hh] at hx9
    cases hx9
  · obtain ⟨r1, r2, r3, D, r4, r5⟩ := hR
    refine ⟨⟨h.1, t.heap.size, hq, rfl, by show B ≤ t.heap.size; omega, r3, D, r4.moved hA, fun a x ha => ((r5 a x ha).kept (hk a ((r5 a x ha).lt))).moved hA⟩, ?_, fun q g3 g4 => ?_⟩
    · exact Nat.le_trans hS.1 hz
    · exact (hk q (Nat.lt_of_lt_of_le g3 hS.1)).trans (hS.2.1 q g3 g4)
theorem x_throwSW {ik is ic : Nat} {E text : String} (d0 : decode M.2.1 pc = .ok (.new ik, 3)) (d3 : decode M.2.1 (pc + 3) = .ok (.dup, 1)) (d4 : decode M.2.1 (pc + 4) = .ok (.ldc_w is, 3)) (d7 : decode M.2.1 (pc + 7) = .ok (.invokespecial ic, 3)) (d10 : decode M.2.1 (pc + 10) = .ok (.athrow, 1)) (hh : M.2.2.2.2 = []) (ht : x_TL M.1.cls ik ic E) (hstr : Cond.stringRef M.1.cls is text ∈ lw_tbl)
    (hfr : 6 ≤ fr) (hlo : 90 ≤ lo) (h1 : 1 ≤ rc) (h2 : 6 ≤ rs) (hcat : (rest.map fun v => v.category).sum ≤ 8) (hq : res = .inr (E, h.1)) : X M fr lo (x_end res) RO rc rs pc lv rest h := by
  intro l B p e s m args below meth c H locs cells slots mc ms ls hC hRO hl hR hS g1 g2
  obtain ⟨hx, hb9, hr, hml, hown, hts, hlk, hnm, htab, hE, htr⟩ := hC
  obtain ⟨t1, t2, t3, t4⟩ := ht
  obtain ⟨sa, hsa⟩ := hE.2.1 _ _ _ hstr
  refine vx_throwSW (names := ["java/lang/RuntimeException", "java/lang/Exception"]) hx hb9 htr hown t1 (by decide) (hts _ t2) (hts _ t3) hsa (fun w hw => (x_hat hts hE (t4 w hw)).1) (fun w hw => ?_) hE.2.2.2.2.2.2.2.1 hE.2.2.2.2.2.2.2.2 hS (by rw [hml]; exact hl.1) d0 d3 d4 d7 d10 (fun x hx9 => ?_) (by show 2 + 3 < fr; omega) (by show _ + (13 * (2 + 1) + 43) ≤ lo; omega) (by show cells + 1 ≤ mc; omega) (by show slots + 6 ≤ ms; omega) hlk (fun t hA hz hk => ?_) hS.2.2 (by omega) (by omega)
  · rcases List.mem_cons.mp hw with rfl | hw
    · unfold vx_ot; rfl
    · rcases List.mem_cons.mp hw with rfl | hw
      · unfold vx_ot; rfl
      · exact (x_hat hts hE (t4 w hw)).2
  · rw [htab, hh] at hx9
    cases hx9
  · obtain ⟨r1, r2, r3, D, r4, r5⟩ := hR
    refine ⟨⟨h.1, t.heap.size, hq, rfl, by show B ≤ t.heap.size; omega, r3, D, r4.moved hA, fun a x ha => ((r5 a x ha).kept (hk a ((r5 a x ha).lt))).moved hA⟩, ?_, fun q g3 g4 => ?_⟩
    · exact Nat.le_trans hS.1 hz
    · exact (hk q (Nat.lt_of_lt_of_le g3 hS.1)).trans (hS.2.1 q g3 g4)
end XR5
