/-! XKIT: one judgement X over an abstract heap (cells by address); all of the machine's context is hidden in it. A rule an instruction. -/
/-- the words that every method's list holds -/
def x_tb : List Cond := lw_tbl.filter goodWord
theorem x_tb_in {w : Cond} (h : w ∈ lw_tbl) (hg : goodWord w = true) : w ∈ x_tb := List.mem_filter.mpr ⟨h, hg⟩
theorem x_tb_good : GoodIn x_tb x_tb := fun w h => ⟨h, good_of_word (List.mem_filter.mp h).2⟩
/-- a cell: an array of a type, or an object of a class (by its number) with its fields -/
abbrev XE : Type := (FieldType × vp_A) ⊕ (Nat × List Value)
abbrev XM : Type := Nat → Option XE
abbrev XH : Type := XM × Nat
/-- a method: name, code, locals, answer, handlers -/
abbrev XMD : Type := MethodName × ByteArray × Nat × Option FieldType × List (Nat × Nat × Nat × Nat)
/-- what a method comes to: an answer and a heap, or an exception's class and a heap -/
abbrev XR : Type := (Option Value × XH) ⊕ (String × XM)
def x_cw (M : XMD) : Cond := match M.2.2.2.2 with
  | [] => .code M.1 M.2.1 M.2.2.1 M.2.2.2.1
  | hh => .codeWith M.1 M.2.1 M.2.2.1 M.2.2.2.1 hh
def x_ws (M : XMD) : List Cond := x_cw M :: x_tb
def x_cell (D : va_G) (s : State) (H : Heap) (a : Nat) (e : XE) : Prop := match e with
  | .inl x => ∃ cA : ClassId, H[a]? = some (vp_cell cA x.2) ∧ ArrOfT s cA x.1 ∧ va_RA s cA x.1
  | .inr o => va_at D vwCl (a, .inr o) H
def x_Kn (D : va_G) (s : State) : Prop := ∀ (c : Nat) (q : vw_C), vwCl[c]? = some q → u_Kn s q.1 q.2.1 q.2.2 (D.1 c) (D.2 c)
def x_Rep (B : Nat) (h : XH) (s : State) (H : Heap) : Prop :=
  H.size = h.2 ∧ B ≤ h.2 ∧ (∀ (a : Nat) (x : XE), h.1 a = some x → B ≤ a) ∧ ∃ D : va_G, x_Kn D s ∧ ∀ (a : Nat) (x : XE), h.1 a = some x → x_cell D s H a x
/-- words that no list of a method may hold, but that stay -/
def x_nk (w : Cond) : Bool := match w with
  | .fieldLinkNest .. => true
  | .methodLinkNest .. => true
  | .declares .. => true
  | .castable .. => true
  | _ => false
abbrev x_IAE : String := "java/lang/IllegalArgumentException"
abbrev x_ISE : String := "java/lang/IllegalStateException"
abbrev x_IOE : String := "java/lang/IndexOutOfBoundsException"
/-- what lies below B and what the tables say beside the words -/
def x_Env (B : Nat) (U : State) (H : Heap) : Prop :=
  (∀ w ∈ lw_tbl, x_nk w = true → va_Nw w U) ∧ (∀ own k tx, Cond.stringRef own k tx ∈ lw_tbl → ∃ a : Nat, vk_R own k tx a U) ∧ (∀ C, Cond.arrayOver (.object C) ∈ lw_tbl → va_AO C U) ∧
  va_Nc x_ISE x_IAE U ∧ va_Nc x_IAE x_IOE U ∧ va_Nc x_ISE x_IOE U ∧ va_Nc x_IAE x_ISE U ∧
  vx_Zq Bundle.tN "UNASSIGNED_STACK" Bundle.steD (fun q => B ≤ q) U H ∧ vx_Zq Bundle.tN "SUPPRESSED_SENTINEL" Bundle.listD (fun q => B ≤ q) U H
theorem x_Env.same {B : Nat} {s U : State} {H H1 : Heap} (hW : s.WarmedH U.vm) (hq : ∀ a : Nat, a < H.size → ¬ B ≤ a → H1[a]? = H[a]?) (h : x_Env B s H) : x_Env B U H1 := by
  obtain ⟨h1, h2, h3, n1, n2, n3, n4, h5, h6⟩ := h
  have hal := hW.alike
  refine ⟨fun w hw hk => ?_, fun own k tx hm => ?_, fun C hC => (h3 C hC).moved hal, n1.moved hal, n2.moved hal, n3.moved hal, n4.moved hal, (h5.moved hal).kept hq, (h6.moved hal).kept hq⟩
  · have hz := h1 w hw hk
    cases w <;> first
      | exact va_Nw.warmF hW hz
      | exact va_Nw.warmM hW hz
      | exact va_Nw.warmD hW hz
      | exact va_Nw.warmC hW hz
      | (simp [x_nk] at hk)
  · obtain ⟨a, ha⟩ := h2 own k tx hm
    exact ⟨a, ha.warm hW⟩
/-- at every point of a method's body -/
def x_Ctx (M : XMD) (B : Nat) (l : Launch) (p : Program) (s : State) (m : MethodId) (args : Array Value) (meth : Method) (c : Code) : Prop :=
  p.tables.exec = Jvm.exec ∧ c.code = M.2.1 ∧ meth.sig.returnType = M.2.2.2.1 ∧ c.maxLocals = M.2.2.1 ∧ s.vm.findClass M.1.cls = some m.cls ∧ (∀ w ∈ x_tb, w.before args s = true) ∧ meth.locks = false ∧ meth.name = M.1.name ∧ c.exceptionTable.toList = tableOf M.2.2.2.2 ∧ x_Env B s s.heap ∧ l.stackTraces = false
/-- where the body's end leads to -/
abbrev XT : Type := Nat → List Frame → Array Value → State → Nat → Nat → State → Prop
def X (M : XMD) (fr lo : Nat) (Tg : XT) (RO : Nat → State → Prop) (rc rs : Nat) (pc : Nat) (lv : List (Nat × Value)) (st : List Value) (h : XH) : Prop :=
  ∀ (l : Launch) (B : Nat) (p : Program) (e : Env) (s : State) (m : MethodId) (args : Array Value) (below : List Frame) (meth : Method) (c : Code) (H : Heap) (locs : List Loc) (cells slots mc ms : Nat) (ls : Array Slot),
    x_Ctx M B l p s m args meth c → RO B s → lv_has ls M.2.2.1 lv → x_Rep B h s H → va_S (fun q => B ≤ q) s.heap H locs → cells + rc ≤ mc → slots + rs ≤ ms →
    W p l e { frames := fr, cells := mc, slots := ms, locals := lo } s m args below meth c H locs cells slots (Tg B below args s mc ms) (F0 m pc ls st)
def x_Qc (B : Nat) (res : XR) : Array Value → State → Outcome → State → Prop := fun _ st o t => (∃ (v : Option Value) (h : XH), res = .inl (v, h) ∧ o = .returned v ∧ x_Rep B h t t.heap) ∧ va_F (fun q => B ≤ q) st t
def x_XC (B : Nat) (res : XR) : String → State → State → Prop := fun E st t => (∃ (hm : XM) (n : Nat), res = .inr (E, hm) ∧ x_Rep B (hm, n) t t.heap) ∧ va_F (fun q => B ≤ q) st t
/-- a method's end: with this result -/
def x_end (res : XR) : XT := fun B below args s mc ms => vx_MQ below (x_Qc B res) (x_XC B res) args s mc ms (fun q => B ≤ q)
/-- a method's end, the heap's size left open -/
def x_Qn (B : Nat) (res : Option Value × XM) : Array Value → State → Outcome → State → Prop := fun _ st o t => (∃ n : Nat, o = .returned res.1 ∧ x_Rep B (res.2, n) t t.heap) ∧ va_F (fun q => B ≤ q) st t
def x_endn (res : Option Value × XM) : XT := fun B below args s mc ms => MQ below (x_Qn B res) args s mc ms (fun q => B ≤ q)
def x_noRO : Nat → State → Prop := fun _ _ => True
/-- a contract: from these arguments and this heap the method comes to this result -/
def x_Ct (M : XMD) (fr lo mc ms : Nat) (av : List Value) (h : XH) (res : XR) : Prop :=
  ∀ (l : Launch) (B : Nat), l.stackTraces = false → vx_Met l M.1 (x_ws M) { frames := fr, cells := mc, slots := ms, locals := lo } (fun v U => v = av.toArray ∧ x_Env B U U.heap ∧ x_Rep B h U U.heap) (x_Qc B res) (x_XC B res) mc ms (fun q => B ≤ q)
def x_Cn (M : XMD) (fr lo mc ms : Nat) (av : List Value) (h : XH) (res : Option Value × XM) : Prop :=
  ∀ (l : Launch) (B : Nat), l.stackTraces = false → Met l M.1 (x_ws M) { frames := fr, cells := mc, slots := ms, locals := lo } (fun v U => v = av.toArray ∧ x_Env B U U.heap ∧ x_Rep B h U U.heap) (x_Qn B res) mc ms (fun q => B ≤ q)
theorem x_Kn.moved {D : va_G} {u U : State} (hvm : u.vm.Alike U.vm) (h : x_Kn D u) : x_Kn D U := fun c q hq => u_Kn_moved hvm (h c q hq)
theorem x_cell.moved {D : va_G} {u U : State} {H : Heap} {a : Nat} {e : XE} (hvm : u.vm.Alike U.vm) (h : x_cell D u H a e) : x_cell D U H a e := by
  cases e with
  | inl x =>
    obtain ⟨cA, h1, h2, h3⟩ := h
    exact ⟨cA, h1, arrOfT_moved hvm h2, h3.moved hvm⟩
  | inr o => exact h
theorem x_cell.kept {D : va_G} {s : State} {H H1 : Heap} {a : Nat} {e : XE} (h : x_cell D s H a e) (hq : H1[a]? = H[a]?) : x_cell D s H1 a e := by
  cases e with
  | inl x =>
    obtain ⟨cA, h1, h2, h3⟩ := h
    exact ⟨cA, hq.trans h1, h2, h3⟩
  | inr o => exact va_at.kept (q := (a, .inr o)) h hq
theorem x_cell.lt {D : va_G} {s : State} {H : Heap} {a : Nat} {e : XE} (h : x_cell D s H a e) : a < H.size := by
  cases e with
  | inl x =>
    obtain ⟨cA, h1, h2, h3⟩ := h
    exact (Array.getElem?_eq_some_iff.mp h1).1
  | inr o => exact va_at.lt (q := (a, .inr o)) h
theorem x_Rep.moved {B : Nat} {h : XH} {u U : State} {H : Heap} (hvm : u.vm.Alike U.vm) (r : x_Rep B h u H) : x_Rep B h U H := by
  obtain ⟨h1, h2, h3, D, h4, h5⟩ := r
  exact ⟨h1, h2, h3, D, h4.moved hvm, fun a x hx => (h5 a x hx).moved hvm⟩
def x_up (f : XM) (a : Nat) (e : XE) : XM := fun q => if q = a then some e else f q
theorem x_up_s {f : XM} {a : Nat} {e : XE} : x_up f a e a = some e := if_pos rfl
theorem x_up_n {f : XM} {a b : Nat} {e : XE} (h : b ≠ a) : x_up f a e b = f b := if_neg h
/-- one cell changes -/
theorem x_Rep.set {B : Nat} {h : XH} {s : State} {H H1 : Heap} {a : Nat} {x0 x : XE} {D : va_G} (h1 : H.size = h.2) (h2 : B ≤ h.2) (h3 : ∀ (a : Nat) (x : XE), h.1 a = some x → B ≤ a) (h4 : x_Kn D s) (h5 : ∀ (a : Nat) (x : XE), h.1 a = some x → x_cell D s H a x) (ha : h.1 a = some x0)
    (hc : x_cell D s H1 a x) (z : H1.size = H.size) (o : ∀ q : Nat, q ≠ a → H1[q]? = H[q]?) : x_Rep B (x_up h.1 a x, h.2) s H1 := by
  refine ⟨z.trans h1, h2, fun b y hb0 => ?_, D, h4, fun b y hb0 => ?_⟩
  · have hb : x_up h.1 a x b = some y := hb0
    by_cases e : b = a
    · rw [e]; exact h3 _ _ ha
    · rw [x_up_n e] at hb; exact h3 _ _ hb
  · have hb : x_up h.1 a x b = some y := hb0
    by_cases e : b = a
    · rw [e, x_up_s] at hb
      cases hb
      rw [e]
      exact hc
    · rw [x_up_n e] at hb
      exact (h5 _ _ hb).kept (o b e)
/-- one cell is born -/
theorem x_Rep.push {B : Nat} {h : XH} {s : State} {H H1 : Heap} {x : XE} {D : va_G} (h1 : H.size = h.2) (h2 : B ≤ h.2) (h3 : ∀ (a : Nat) (x : XE), h.1 a = some x → B ≤ a) (h4 : x_Kn D s) (h5 : ∀ (a : Nat) (x : XE), h.1 a = some x → x_cell D s H a x)
    (hc : x_cell D s H1 H.size x) (z : H1.size = H.size + 1) (o : ∀ q : Nat, q < H.size → H1[q]? = H[q]?) : x_Rep B (x_up h.1 h.2 x, h.2 + 1) s H1 := by
  refine ⟨by rw [z, h1], Nat.le_succ_of_le h2, fun b y hb0 => ?_, D, h4, fun b y hb0 => ?_⟩
  · have hb : x_up h.1 h.2 x b = some y := hb0
    by_cases e : b = h.2
    · rw [e]; exact h2
    · rw [x_up_n e] at hb; exact h3 _ _ hb
  · have hb : x_up h.1 h.2 x b = some y := hb0
    by_cases e : b = h.2
    · rw [e, x_up_s] at hb
      cases hb
      rw [e, ← h1]
      exact hc
    · rw [x_up_n e] at hb
      exact (h5 _ _ hb).kept (o b ((h5 _ _ hb).lt))
/-! partial reads and writes -/
def x_geti (f : XM) (ci a k : Nat) : Option Int32 := match f a with
  | some (.inr (c, fs)) => if c = ci then (match fs[k]? with | some (.int v) => some v | _ => none) else none
  | _ => none
def x_getr (f : XM) (ci a k : Nat) : Option (Option Nat) := match f a with
  | some (.inr (c, fs)) => if c = ci then (match fs[k]? with | some (.ref v) => some (some v) | some .null => some none | _ => none) else none
  | _ => none
def x_putf (f : XM) (ci a k : Nat) (v : Value) : Option XM := match f a with
  | some (.inr (c, fs)) => if c = ci ∧ k < fs.length then some (x_up f a (.inr (c, fs.set k v))) else none
  | _ => none
def x_puti (f : XM) (ci a k : Nat) (v : Int32) : Option XM := x_putf f ci a k (.int v)
def x_putr (f : XM) (ci a k : Nat) (v : Option Nat) : Option XM := x_putf f ci a k (va_rf v)
def x_alen (f : XM) (a : Nat) : Option Int32 := match f a with
  | some (.inl (_, x)) => some (Int32.ofNat x.1)
  | _ => none
def x_ald (f : XM) (a : Nat) (i : Int32) : Option Int32 := match f a with
  | some (.inl (.int, n, .inl g)) => if i < 0 ∨ n ≤ i.toNatClampNeg then none else some (g i.toNatClampNeg)
  | _ => none
def x_ast (f : XM) (a : Nat) (i v : Int32) : Option XM := match f a with
  | some (.inl (.int, n, .inl g)) => if i < 0 ∨ n ≤ i.toNatClampNeg then none else some (x_up f a (.inl (.int, n, .inl (upd g i.toNatClampNeg v))))
  | _ => none
def x_aldl (f : XM) (a : Nat) (i : Int32) : Option Int64 := match f a with
  | some (.inl (.long, n, .inr (.inl g))) => if i < 0 ∨ n ≤ i.toNatClampNeg then none else some (g i.toNatClampNeg)
  | _ => none
def x_astl (f : XM) (a : Nat) (i : Int32) (v : Int64) : Option XM := match f a with
  | some (.inl (.long, n, .inr (.inl g))) => if i < 0 ∨ n ≤ i.toNatClampNeg then none else some (x_up f a (.inl (.long, n, .inr (.inl (vp_updL g i.toNatClampNeg v)))))
  | _ => none
/-- the class of the elements of an array of references -/
def x_cls (ci : Nat) : String := match vwCl[ci]? with
  | some q => q.1
  | none => ""
def x_aldr (f : XM) (ci a : Nat) (i : Int32) : Option (Option Nat) := match f a with
  | some (.inl (.object C, n, .inr (.inr (.inr (.inr g))))) => if C = x_cls ci then (if i < 0 ∨ n ≤ i.toNatClampNeg then none else some (g i.toNatClampNeg)) else none
  | _ => none
/-- what is stored is null, or an object of that class -/
def x_isC (f : XM) (ci : Nat) (r : Option Nat) : Bool := match r with
  | none => true
  | some v => match f v with
    | some (.inr (c, _)) => c == ci
    | _ => false
def x_astr (f : XM) (ci a : Nat) (i : Int32) (r : Option Nat) : Option XM := match f a with
  | some (.inl (.object C, n, .inr (.inr (.inr (.inr g))))) => if C = x_cls ci ∧ ci < 6 ∧ x_isC f ci r = true then (if i < 0 ∨ n ≤ i.toNatClampNeg then none else some (x_up f a (.inl (.object C, n, .inr (.inr (.inr (.inr (va_up g i.toNatClampNeg r)))))))) else none
  | _ => none
/-- System.arraycopy of two different int arrays -/
def x_acp (f : XM) (a0 : Nat) (sp : Int32) (a1 : Nat) (dp n : Int32) : Option XM := match f a0, f a1 with
  | some (.inl (.int, n0, .inl g0)), some (.inl (.int, n1, .inl g1)) => if ¬ sp < 0 ∧ ¬ dp < 0 ∧ ¬ n < 0 ∧ sp.toNatClampNeg + n.toNatClampNeg ≤ n0 ∧ dp.toNatClampNeg + n.toNatClampNeg ≤ n1 ∧ a0 ≠ a1 then some (x_up f a1 (.inl (.int, n1, .inl (va_cpy g0 g1 sp.toNatClampNeg dp.toNatClampNeg n.toNatClampNeg)))) else none
  | _, _ => none
/-- a new object: its address, the heap -/
def x_new (h : XH) (ci : Nat) (fs : List Value) : Option (Nat × XH) := some (h.2, (x_up h.1 h.2 (.inr (ci, fs)), h.2 + 1))
def x_newi (h : XH) (n : Int32) : Option (Nat × XH) := if n < 0 ∨ 1000000 < n.toNatClampNeg then none else some (h.2, (x_up h.1 h.2 (.inl (.int, n.toNatClampNeg, .inl (fun _ => 0))), h.2 + 1))
def x_newl (h : XH) (n : Int32) : Option (Nat × XH) := if n < 0 ∨ 1000000 < n.toNatClampNeg then none else some (h.2, (x_up h.1 h.2 (.inl (.long, n.toNatClampNeg, .inr (.inl (fun _ => 0)))), h.2 + 1))
def x_newr (h : XH) (ci : Nat) (n : Int32) : Option (Nat × XH) := if n < 0 ∨ 1000000 < n.toNatClampNeg then none else some (h.2, (x_up h.1 h.2 (.inl (.object (x_cls ci), n.toNatClampNeg, .inr (.inr (.inr (.inr (fun _ => none)))))), h.2 + 1))
theorem x_bind {α β : Type} {o : Option α} {f : α → Option β} {r : β} (h : o.bind f = some r) : ∃ v, o = some v ∧ f v = some r := by
  cases o with
  | none => cases h
  | some v => exact ⟨v, rfl, h⟩
theorem x_geti_sp {f : XM} {ci a k : Nat} {v : Int32} (h : x_geti f ci a k = some v) : ∃ fs, f a = some (.inr (ci, fs)) ∧ fs[k]? = some (.int v) := by
  unfold x_geti at h
  split at h
  · rename_i c fs hf
    split at h
    · rename_i hc
      subst hc
      split at h
      · rename_i w hw
        cases h
        exact ⟨fs, hf, hw⟩
      · cases h
    · cases h
  · cases h
theorem x_getr_sp {f : XM} {ci a k : Nat} {v : Option Nat} (h : x_getr f ci a k = some v) : ∃ fs, f a = some (.inr (ci, fs)) ∧ fs[k]? = some (va_rf v) := by
  unfold x_getr at h
  split at h
  · rename_i c fs hf
    split at h
    · rename_i hc
      subst hc
      split at h
      · rename_i w hw
        cases h
        exact ⟨fs, hf, hw⟩
      · rename_i hw
        cases h
        exact ⟨fs, hf, hw⟩
      · cases h
    · cases h
  · cases h
theorem x_putf_sp {f f' : XM} {ci a k : Nat} {v : Value} (h : x_putf f ci a k v = some f') : ∃ fs, f a = some (.inr (ci, fs)) ∧ k < fs.length ∧ f' = x_up f a (.inr (ci, fs.set k v)) := by
  unfold x_putf at h
  split at h
  · rename_i c fs hf
    split at h
    · rename_i hc
      obtain ⟨hc, hk⟩ := hc
      subst hc
      cases h
      exact ⟨fs, hf, hk, rfl⟩
    · cases h
  · cases h
theorem x_alen_sp {f : XM} {a : Nat} {v : Int32} (h : x_alen f a = some v) : ∃ ty x, f a = some (.inl (ty, x)) ∧ Int32.ofNat x.1 = v := by
  unfold x_alen at h
  split at h
  · rename_i ty x hf
    cases h
    exact ⟨ty, x, hf, rfl⟩
  · cases h
theorem x_ald_sp {f : XM} {a : Nat} {i v : Int32} (h : x_ald f a i = some v) : ∃ n g, f a = some (.inl (.int, n, .inl g)) ∧ vp_in i n ∧ v = g i.toNatClampNeg := by
  unfold x_ald at h
  split at h
  · rename_i n g hf
    split at h
    · cases h
    · rename_i hi
      cases h
      exact ⟨n, g, hf, hi, rfl⟩
  · cases h
theorem x_ast_sp {f f' : XM} {a : Nat} {i v : Int32} (h : x_ast f a i v = some f') : ∃ n g, f a = some (.inl (.int, n, .inl g)) ∧ vp_in i n ∧ f' = x_up f a (.inl (.int, n, .inl (upd g i.toNatClampNeg v))) := by
  unfold x_ast at h
  split at h
  · rename_i n g hf
    split at h
    · cases h
    · rename_i hi
      cases h
      exact ⟨n, g, hf, hi, rfl⟩
  · cases h
theorem x_aldl_sp {f : XM} {a : Nat} {i : Int32} {v : Int64} (h : x_aldl f a i = some v) : ∃ n g, f a = some (.inl (.long, n, .inr (.inl g))) ∧ vp_in i n ∧ v = g i.toNatClampNeg := by
  unfold x_aldl at h
  split at h
  · rename_i n g hf
    split at h
    · cases h
    · rename_i hi
      cases h
      exact ⟨n, g, hf, hi, rfl⟩
  · cases h
theorem x_astl_sp {f f' : XM} {a : Nat} {i : Int32} {v : Int64} (h : x_astl f a i v = some f') : ∃ n g, f a = some (.inl (.long, n, .inr (.inl g))) ∧ vp_in i n ∧ f' = x_up f a (.inl (.long, n, .inr (.inl (vp_updL g i.toNatClampNeg v)))) := by
  unfold x_astl at h
  split at h
  · rename_i n g hf
    split at h
    · cases h
    · rename_i hi
      cases h
      exact ⟨n, g, hf, hi, rfl⟩
  · cases h
theorem x_aldr_sp {f : XM} {ci a : Nat} {i : Int32} {v : Option Nat} (h : x_aldr f ci a i = some v) : ∃ n g, f a = some (.inl (.object (x_cls ci), n, .inr (.inr (.inr (.inr g))))) ∧ vp_in i n ∧ v = g i.toNatClampNeg := by
  unfold x_aldr at h
  split at h
  · rename_i C n g hf
    split at h
    · rename_i hC
      subst hC
      split at h
      · cases h
      · rename_i hi
        cases h
        exact ⟨n, g, hf, hi, rfl⟩
    · cases h
  · cases h
theorem x_astr_sp {f f' : XM} {ci a : Nat} {i : Int32} {r : Option Nat} (h : x_astr f ci a i r = some f') : ∃ n g, f a = some (.inl (.object (x_cls ci), n, .inr (.inr (.inr (.inr g))))) ∧ ci < 6 ∧ x_isC f ci r = true ∧ vp_in i n ∧ f' = x_up f a (.inl (.object (x_cls ci), n, .inr (.inr (.inr (.inr (va_up g i.toNatClampNeg r)))))) := by
  unfold x_astr at h
  split at h
  · rename_i C n g hf
    split at h
    · rename_i hC
      obtain ⟨hC, h7, hr⟩ := hC
      subst hC
      split at h
      · cases h
      · rename_i hi
        cases h
        exact ⟨n, g, hf, h7, hr, hi, rfl⟩
    · cases h
  · cases h
theorem x_acp_sp {f f' : XM} {a0 a1 : Nat} {sp dp n : Int32} (h : x_acp f a0 sp a1 dp n = some f') : ∃ n0 g0 n1 g1, f a0 = some (.inl (.int, n0, .inl g0)) ∧ f a1 = some (.inl (.int, n1, .inl g1)) ∧ ¬ sp < 0 ∧ ¬ dp < 0 ∧ ¬ n < 0 ∧ sp.toNatClampNeg + n.toNatClampNeg ≤ n0 ∧ dp.toNatClampNeg + n.toNatClampNeg ≤ n1 ∧ a0 ≠ a1 ∧ f' = x_up f a1 (.inl (.int, n1, .inl (va_cpy g0 g1 sp.toNatClampNeg dp.toNatClampNeg n.toNatClampNeg))) := by
  unfold x_acp at h
  split at h
  · rename_i n0 g0 n1 g1 h0 h1
    split at h
    · rename_i hc
      obtain ⟨c1, c2, c3, c4, c5, c6⟩ := hc
      cases h
      exact ⟨n0, g0, n1, g1, h0, h1, c1, c2, c3, c4, c5, c6, rfl⟩
    · cases h
  · cases h
