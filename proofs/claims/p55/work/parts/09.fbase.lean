/-! Base of the F functions: functional copies of the bytecode's methods. -/
def x_b (b : Bool) : Int32 := if b then 1 else 0
theorem x_b_01 (b : Bool) : x_b b = 0 ∨ x_b b = 1 := by cases b <;> simp [x_b]
def x_ex (c : Nat) : String := match c with
  | 0 => x_IAE
  | 1 => x_ISE
  | _ => x_IOE
abbrev xr_ip (r : Int32) (h : XH) : XR := .inl (some (.int r), h)
abbrev xr_im (r : Int32 × XM) (n : Nat) : XR := .inl (some (.int r.1), (r.2, n))
abbrev xr_ia (r : Int32 × XH) : XR := .inl (some (.int r.1), r.2)
abbrev xr_ipt (r : Int32 ⊕ Nat) (h : XH) : XR := match r with | .inl w => .inl (some (.int w), h) | .inr c => .inr (x_ex c, h.1)
abbrev xr_imt (r : (Int32 × XM) ⊕ (Nat × XM)) (n : Nat) : XR := match r with | .inl w => .inl (some (.int w.1), (w.2, n)) | .inr c => .inr (x_ex c.1, c.2)
abbrev xr_iat (r : (Int32 × XH) ⊕ (Nat × XM)) : XR := match r with | .inl w => .inl (some (.int w.1), w.2) | .inr c => .inr (x_ex c.1, c.2)
abbrev xr_zp (r : Bool) (h : XH) : XR := .inl (some (.int (x_b r)), h)
abbrev xr_zm (r : Bool × XM) (n : Nat) : XR := .inl (some (.int (x_b r.1)), (r.2, n))
abbrev xr_za (r : Bool × XH) : XR := .inl (some (.int (x_b r.1)), r.2)
abbrev xr_zpt (r : Bool ⊕ Nat) (h : XH) : XR := match r with | .inl w => .inl (some (.int (x_b w)), h) | .inr c => .inr (x_ex c, h.1)
abbrev xr_zmt (r : (Bool × XM) ⊕ (Nat × XM)) (n : Nat) : XR := match r with | .inl w => .inl (some (.int (x_b w.1)), (w.2, n)) | .inr c => .inr (x_ex c.1, c.2)
abbrev xr_zat (r : (Bool × XH) ⊕ (Nat × XM)) : XR := match r with | .inl w => .inl (some (.int (x_b w.1)), w.2) | .inr c => .inr (x_ex c.1, c.2)
abbrev xr_lp (r : Int64) (h : XH) : XR := .inl (some (.long r), h)
abbrev xr_lm (r : Int64 × XM) (n : Nat) : XR := .inl (some (.long r.1), (r.2, n))
abbrev xr_la (r : Int64 × XH) : XR := .inl (some (.long r.1), r.2)
abbrev xr_lpt (r : Int64 ⊕ Nat) (h : XH) : XR := match r with | .inl w => .inl (some (.long w), h) | .inr c => .inr (x_ex c, h.1)
abbrev xr_lmt (r : (Int64 × XM) ⊕ (Nat × XM)) (n : Nat) : XR := match r with | .inl w => .inl (some (.long w.1), (w.2, n)) | .inr c => .inr (x_ex c.1, c.2)
abbrev xr_lat (r : (Int64 × XH) ⊕ (Nat × XM)) : XR := match r with | .inl w => .inl (some (.long w.1), w.2) | .inr c => .inr (x_ex c.1, c.2)
abbrev xr_dp (r : UInt64) (h : XH) : XR := .inl (some (.double r), h)
abbrev xr_dm (r : UInt64 × XM) (n : Nat) : XR := .inl (some (.double r.1), (r.2, n))
abbrev xr_da (r : UInt64 × XH) : XR := .inl (some (.double r.1), r.2)
abbrev xr_dpt (r : UInt64 ⊕ Nat) (h : XH) : XR := match r with | .inl w => .inl (some (.double w), h) | .inr c => .inr (x_ex c, h.1)
abbrev xr_dmt (r : (UInt64 × XM) ⊕ (Nat × XM)) (n : Nat) : XR := match r with | .inl w => .inl (some (.double w.1), (w.2, n)) | .inr c => .inr (x_ex c.1, c.2)
abbrev xr_dat (r : (UInt64 × XH) ⊕ (Nat × XM)) : XR := match r with | .inl w => .inl (some (.double w.1), w.2) | .inr c => .inr (x_ex c.1, c.2)
abbrev xr_qp (r : Option Nat) (h : XH) : XR := .inl (some (va_rf r), h)
abbrev xr_qm (r : Option Nat × XM) (n : Nat) : XR := .inl (some (va_rf r.1), (r.2, n))
abbrev xr_qa (r : Option Nat × XH) : XR := .inl (some (va_rf r.1), r.2)
abbrev xr_qpt (r : Option Nat ⊕ Nat) (h : XH) : XR := match r with | .inl w => .inl (some (va_rf w), h) | .inr c => .inr (x_ex c, h.1)
abbrev xr_qmt (r : (Option Nat × XM) ⊕ (Nat × XM)) (n : Nat) : XR := match r with | .inl w => .inl (some (va_rf w.1), (w.2, n)) | .inr c => .inr (x_ex c.1, c.2)
abbrev xr_qat (r : (Option Nat × XH) ⊕ (Nat × XM)) : XR := match r with | .inl w => .inl (some (va_rf w.1), w.2) | .inr c => .inr (x_ex c.1, c.2)
abbrev xr_vp (_ : Unit) (h : XH) : XR := .inl (none, h)
abbrev xr_vm (r : XM) (n : Nat) : XR := .inl (none, (r, n))
abbrev xr_va (r : XH) : XR := .inl (none, r)
abbrev xr_vpt (r : Unit ⊕ Nat) (h : XH) : XR := match r with | .inl _ => .inl (none, h) | .inr c => .inr (x_ex c, h.1)
abbrev xr_vmt (r : XM ⊕ (Nat × XM)) (n : Nat) : XR := match r with | .inl w => .inl (none, (w, n)) | .inr c => .inr (x_ex c.1, c.2)
abbrev xr_vat (r : XH ⊕ (Nat × XM)) : XR := match r with | .inl w => .inl (none, w) | .inr c => .inr (x_ex c.1, c.2)
/-- a call of an object's method: the object is there, of that class -/
def x_cv {β : Type} (f : XM) (ci b : Nat) (o : Option β) : Option β := match f b with
  | some (.inr (c, _)) => if c = ci then o else none
  | _ => none
theorem x_cv_sp {β : Type} {f : XM} {ci b : Nat} {o : Option β} {z : β} (h : x_cv f ci b o = some z) : (∃ fs, f b = some (.inr (ci, fs))) ∧ o = some z := by
  unfold x_cv at h
  split at h
  · rename_i c fs hf
    split at h
    · rename_i hc
      subst hc
      exact ⟨⟨fs, hf⟩, h⟩
    · cases h
  · cases h
def x_se {α β γ : Type} (z : α ⊕ β) (k1 : α → γ) (k2 : β → γ) : γ := match z with
  | .inl a => k1 a
  | .inr b => k2 b
theorem x_sel {α β γ : Type} {a : α} {k1 : α → Option γ} {k2 : β → Option γ} {r : γ} (h : x_se (.inl a) k1 k2 = some r) : k1 a = some r := h
theorem x_ser {α β γ : Type} {b : β} {k1 : α → Option γ} {k2 : β → Option γ} {r : γ} (h : x_se (.inr b) k1 k2 = some r) : k2 b = some r := h
theorem x_ifn {α : Type} {c : Prop} {A B : Option α} {r : α} {hd : Decidable c} (hc : ¬ c) (h : (@ite _ c hd A B) = some r) : B = some r := by rw [if_neg hc] at h; exact h
theorem x_rfc (r : Option Nat) : (va_rf r).category = 1 := by cases r <;> rfl
theorem x_toInt {x : Int32} {v : Int32} (h : x.toInt = v.toInt) : x = v := Int32.toInt_inj.mp h
section XR6
variable {M M' : XMD} {fr lo fr' lo' mc' ms' : Nat} {Tg : XT} {RO : Nat → State → Prop} {rc rs pc : Nat} {lv : List (Nat × Value)} {rest st : List Value} {h : XH} {res : XR}
theorem x_K.some {rc1 rs1 : Nat} {v : Value} {h' : XH} (k : X M fr lo Tg RO rc1 rs1 (pc + 3) lv (v :: rest) h') : x_K M fr lo Tg RO rc1 rs1 pc lv rest (.inl (some v, h')) := fun v9 h9 hq => by cases hq; exact k
theorem x_K.none {rc1 rs1 : Nat} {h' : XH} (k : X M fr lo Tg RO rc1 rs1 (pc + 3) lv rest h') : x_K M fr lo Tg RO rc1 rs1 pc lv rest (.inl (none, h')) := fun v9 h9 hq => by cases hq; exact k
theorem x_K.inr {rc1 rs1 : Nat} {E : String} {hm : XM} : x_K M fr lo Tg RO rc1 rs1 pc lv rest (.inr (E, hm)) := fun v9 h9 hq => by cases hq
theorem x_toX {st' : List Value} (e : st = st') (k : X M fr lo Tg RO rc rs pc lv st' h) : X M fr lo Tg RO rc rs pc lv st h := e ▸ k
theorem x_ldc {index : Nat} {v : Int32} (hk : Cond.constant M.1.cls index v ∈ x_tb) (hd : decode M.2.1 pc = .ok (.ldc index, 2)) (k : X M fr lo Tg RO rc rs (pc + 2) lv (.int v :: rest) h) : X M fr lo Tg RO rc rs pc lv rest h := by
  intro l B p e s m args below meth c H locs cells slots mc ms ls hC hRO hl9 hR hS g1 g2
  have K := k l B p e s m args below meth c H locs cells slots mc ms ls hC hRO hl9 hR hS g1 g2
  obtain ⟨hx, hb, hr, hml, hown, hts, hlk, hnm, htab, hE, htr⟩ := hC
  exact lv_ldc hx hb hown (hts _ hk) hd K
theorem x_ldcw {index : Nat} {v : Int32} (hk : Cond.constant M.1.cls index v ∈ x_tb) (hd : decode M.2.1 pc = .ok (.ldc_w index, 3)) (k : X M fr lo Tg RO rc rs (pc + 3) lv (.int v :: rest) h) : X M fr lo Tg RO rc rs pc lv rest h := by
  intro l B p e s m args below meth c H locs cells slots mc ms ls hC hRO hl9 hR hS g1 g2
  have K := k l B p e s m args below meth c H locs cells slots mc ms ls hC hRO hl9 hR hS g1 g2
  obtain ⟨hx, hb, hr, hml, hown, hts, hlk, hnm, htab, hE, htr⟩ := hC
  exact lv_ldcw hx hb hown (hts _ hk) hd K
theorem x_ldc2 {index : Nat} {v : Int64} (hk : Cond.constantLong M.1.cls index v ∈ x_tb) (hd : decode M.2.1 pc = .ok (.ldc2_w index, 3)) (k : X M fr lo Tg RO rc rs (pc + 3) lv (.long v :: rest) h) : X M fr lo Tg RO rc rs pc lv rest h := by
  intro l B p e s m args below meth c H locs cells slots mc ms ls hC hRO hl9 hR hS g1 g2
  have K := k l B p e s m args below meth c H locs cells slots mc ms ls hC hRO hl9 hR hS g1 g2
  obtain ⟨hx, hb, hr, hml, hown, hts, hlk, hnm, htab, hE, htr⟩ := hC
  exact lv_ldc2 hx hb hown (hts _ hk) hd K
theorem x_ldc2d {index : Nat} {v : UInt64} (hk : Cond.constantDouble M.1.cls index v ∈ x_tb) (hd : decode M.2.1 pc = .ok (.ldc2_w index, 3)) (k : X M fr lo Tg RO rc rs (pc + 3) lv (.double v :: rest) h) : X M fr lo Tg RO rc rs pc lv rest h := by
  intro l B p e s m args below meth c H locs cells slots mc ms ls hC hRO hl9 hR hS g1 g2
  have K := k l B p e s m args below meth c H locs cells slots mc ms ls hC hRO hl9 hR hS g1 g2
  obtain ⟨hx, hb, hr, hml, hown, hts, hlk, hnm, htab, hE, htr⟩ := hC
  exact lv_ldc2d hx hb hown (hts _ hk) hd K
/-- the default of a switch: of each label's place either the default's, or not this number -/
theorem x_swd {x : Int32} {dflt lo' hi : Int} {offs : Array Int} {len : Nat} (t : Nat) (hd : decode M.2.1 pc = .ok (.tableswitch dflt lo' hi offs, len)) (ht : (pc : Int) + dflt = (t : Int)) (hz : ∀ i : Nat, i < offs.size → offs[i]? = some dflt ∨ x.toInt ≠ lo' + i) (k : hi = lo' + offs.size - 1 ∧ X M fr lo Tg RO rc rs t lv rest h) : X M fr lo Tg RO rc rs pc lv (.int x :: rest) h := by
  obtain ⟨hh, k⟩ := k
  by_cases h1 : x.toInt < lo'
  · exact x_swo t hd (Or.inl h1) ht k
  · by_cases h2 : hi < x.toInt
    · exact x_swo t hd (Or.inr h2) ht k
    · rcases hz (x.toInt - lo').toNat (by omega) with h3 | h3
      · exact x_op (fun hx hb _ k => lv_tableIn hx hb hd h1 h2 h3 ht k) k
      · exact absurd (by omega) h3
end XR6
