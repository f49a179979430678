/-! X's rules: fields, arrays, new cells. -/
/-- a constant pool entry that is a field: of which class, which place, which type; final or not -/
def x_FL (own : String) (index ci k : Nat) (ty : FieldType) (fin : Bool) : Prop :=
  ∃ (C : String) (T : u_T) (N : Nat) (ty0 : Nat → FieldType), vwCl[ci]? = some (C, T, N) ∧ k < N ∧ (∀ w ∈ u_ws C T N, w ∈ x_tb) ∧ (∀ k, k < N → parseFieldDescriptor (T k).2.2.1 = some (ty0 k)) ∧ (∀ a, a < N → ∀ b, b < N → a ≠ b → (T a).2.1 ≠ (T b).2.1) ∧ ty0 k = ty ∧ (T k).2.2.2 = fin ∧ (T k).1 = C ∧
    (Cond.fieldLink own index (T k).1 (T k).2.1 (T k).2.2.1 ∈ x_tb ∨ ∃ host, Cond.fieldLinkNest own index (T k).1 (T k).2.1 (T k).2.2.1 host ∈ lw_tbl)
section XR2
variable {M : XMD} {fr lo : Nat} {Tg : XT} {RO : Nat → State → Prop} {rc rs pc : Nat} {lv : List (Nat × Value)} {rest : List Value} {h : XH}
theorem x_getv {index ci k a : Nat} {ty : FieldType} {fin : Bool} {fs : List Value} {v : Value} (hd : decode M.2.1 pc = .ok (.getfield index, 3)) (hf : x_FL M.1.cls index ci k ty fin) (ha : h.1 a = some (.inr (ci, fs))) (hv : fs[k]? = some v) (kk : X M fr lo Tg RO rc rs (pc + 3) lv (v :: rest) h) : X M fr lo Tg RO rc rs pc lv (.ref a :: rest) h := by
  intro l B p e s m args below meth c H locs cells slots mc ms ls hC hRO hl hR hS g1 g2
  have K := kk l B p e s m args below meth c H locs cells slots mc ms ls hC hRO hl hR hS g1 g2
  obtain ⟨hx, hb, hr, hml, hown, hts, hlk, hnm, htab, hE, htr⟩ := hC
  obtain ⟨r1, r2, r3, D, r4, r5⟩ := hR
  obtain ⟨C, T, N, ty0, hc, hk, hin, hty, hap, -, -, -, hln⟩ := hf
  have hcell := r5 _ _ ha
  have hP : va_P D vwCl [(a, .inr (ci, fs))] H := fun j q hq => by
    match j, hq with
    | 0, hq => cases hq; exact hcell
  have hK : va_K D vwCl [] s := ⟨r4, fun j q hq => by simp at hq⟩
  rcases hln with hln | ⟨host, hln⟩
  · exact va_get hx hb hts hin hown hK hP 0 rfl hc k hk (hts _ hln) (fun _ h9 => h9) hv hd K
  · exact va_getN hx hb hts hin hown hK hP 0 rfl hc k hk (va_Nw.use rfl (hE.1 _ hln rfl)) (fun _ h9 => h9) hv hd K
theorem x_geti_r {α : Type} {f : Int32 → Option α} {w : α} {index ci k a : Nat} {fin : Bool} (hd : decode M.2.1 pc = .ok (.getfield index, 3)) (hf : x_FL M.1.cls index ci k .int fin) (hF : (x_geti h.1 ci a k).bind f = some w) (kk : ∀ v : Int32, f v = some w → X M fr lo Tg RO rc rs (pc + 3) lv (.int v :: rest) h) : X M fr lo Tg RO rc rs pc lv (.ref a :: rest) h := by
  obtain ⟨v, hv, hF⟩ := x_bind hF
  obtain ⟨fs, h1, h2⟩ := x_geti_sp hv
  exact x_getv hd hf h1 h2 (kk v hF)
theorem x_getr_r {α : Type} {f : Option Nat → Option α} {w : α} {index ci k a : Nat} {ty : FieldType} {fin : Bool} (hd : decode M.2.1 pc = .ok (.getfield index, 3)) (hf : x_FL M.1.cls index ci k ty fin) (hF : (x_getr h.1 ci a k).bind f = some w) (kk : ∀ v : Option Nat, f v = some w → X M fr lo Tg RO rc rs (pc + 3) lv (va_rf v :: rest) h) : X M fr lo Tg RO rc rs pc lv (.ref a :: rest) h := by
  obtain ⟨v, hv, hF⟩ := x_bind hF
  obtain ⟨fs, h1, h2⟩ := x_getr_sp hv
  exact x_getv hd hf h1 h2 (kk v hF)
/-- a reference that isn't null, ahead of its use -/
theorem x_nn {α : Type} {f : Nat → Option α} {w : α} {r : Option Nat} {G : Prop} (hF : r.bind f = some w) (k : ∀ a : Nat, r = some a → f a = some w → G) : G := by
  cases r with
  | none => cases hF
  | some a => exact k a rfl hF
theorem x_putv {index ci k a : Nat} {ty : FieldType} {fin : Bool} {fs : List Value} {v : Value} (hd : decode M.2.1 pc = .ok (.putfield index, 3)) (hf : x_FL M.1.cls index ci k ty fin) (hfin : fin = true → M.1.name = "<init>" ∧ x_cls ci = M.1.cls) (hn : narrow ty v = v) (hfit : fits ty v = true) (ha : h.1 a = some (.inr (ci, fs))) (hl9 : k < fs.length)
    (kk : X M fr lo Tg RO rc rs (pc + 3) lv rest (x_up h.1 a (.inr (ci, fs.set k v)), h.2)) : X M fr lo Tg RO rc rs pc lv (v :: .ref a :: rest) h := by
  intro l B p e s m args below meth c H locs cells slots mc ms ls hC hRO hl hR hS g1 g2
  have KK : ∀ (H1 : Heap) (locs1 : List Loc), x_Rep B (x_up h.1 a (.inr (ci, fs.set k v)), h.2) s H1 → va_S (fun q => B ≤ q) s.heap H1 locs1 → W p l e { frames := fr, cells := mc, slots := ms, locals := lo } s m args below meth c H1 locs1 cells slots (Tg B below args s mc ms) (F0 m (pc + 3) ls rest) := fun H1 locs1 hR1 hS1 => kk l B p e s m args below meth c H1 locs1 cells slots mc ms ls hC hRO hl hR1 hS1 g1 g2
  obtain ⟨hx, hb, hr, hml, hown, hts, hlk, hnm, htab, hE, htr⟩ := hC
  obtain ⟨r1, r2, r3, D, r4, r5⟩ := hR
  obtain ⟨C, T, N, ty0, hc, hk, hin, hty, hap0, hte, hfi, hCn, hln⟩ := hf
  have hcell := r5 _ _ ha
  have hK : va_K D vwCl [] s := ⟨r4, fun j q hq => by simp at hq⟩
  have hap := va_apart (own := M.1.cls) hts hin ty0 hty hap0 hK hc
  obtain ⟨r, h1, cell, q1, q2, q3, q4⟩ := hcell
  have hr9 : r = (C, T, N) := Option.some.inj (h1.symm.trans hc)
  subst hr9
  obtain ⟨hSl, hfc, kC, hkC, hkind⟩ := hK.1 ci _ hc
  obtain ⟨cf, kf, fi, f, hi, hsl⟩ := hSl k hk
  have hd9 : parseFieldDescriptor (T k).2.2.1 = some ty := by rw [hty k hk, hte]
  have hlay := hts _ (hin _ (u_in_lay hk))
  unfold u_lay at hlay
  have hst := (u_facts hfc hkC (u_lays hts hin hk) hi).1
  have fin1 : ∀ H' : Heap, H'[a]? = some (cell.setSlot f.slot v) → H'.size = H.size → (∀ q, q ≠ a → H'[q]? = H[q]?) → W p l e { frames := fr, cells := mc, slots := ms, locals := lo } s m args below meth c H' (locs ++ [⟨a, f.slot⟩]) cells slots (Tg B below args s mc ms) (F0 m (pc + 3) ls rest) := fun H' e1 e2 e3 => by
    refine KK H' _ (x_Rep.set r1 r2 r3 r4 r5 ha ⟨_, hc, t_OB.to (V := updV (vp_V fs) k v) ⟨_, e1, q2, q3, ?_⟩ (fun j _ => vp_updV_set hl9 v j)⟩ e2 e3) (hS.put e2 e3 (r3 _ _ ha))
    rw [hsl]
    exact t_set q4 hap hk v
  cases fin with
  | false =>
    rw [if_neg (by rw [hfi]; decide)] at hlay
    have h6 := u_store hfc hkC hkind hlay hi hd9 hn hfit
    rcases hln with hln | ⟨host, hln⟩
    · exact W.putK hx hb (f := f) ⟨hown, hts _ hln, ⟨_, _, _, hi⟩, hst⟩ (by rw [q2]; exact h6) q1 q3 (by rw [hsl]; exact k2_hasslot (q4 k hk)) rfl rfl hd fin1
    · exact va_WputK hx hb hown (va_Nw.use rfl (hE.1 _ hln rfl)) hi hst (by rw [q2]; exact h6) q1 q3 (by rw [hsl]; exact k2_hasslot (q4 k hk)) rfl rfl hd fin1
  | true =>
    obtain ⟨hini, hcl⟩ := hfin rfl
    rw [if_pos hfi] at hlay
    have hdecl : C = M.1.cls := by rw [← hcl]; unfold x_cls; rw [hc]
    have hcf : m.cls = cf := by
      obtain ⟨_, _, c', _, _, _, -, -, hf', -, -, -, hown2, -⟩ := Cond.laysFinal_spec hlay
      have e1 : c' = cf := by have := hi.symm.trans hf'; simp at this; exact this.1.symm
      rw [hCn, hdecl] at hown2
      rw [← e1]; exact Option.some.inj (hown.symm.trans hown2)
    have h6 := u_fits hfc hkC hkind (Or.inr hlay) hi hd9 hn hfit
    rcases hln with hln | ⟨host, hln⟩
    · exact W.putFinK hx hb hown (hts _ hln) hi hst hcf (hnm.trans hini) (by rw [q2]; exact h6) q1 q3 (by rw [hsl]; exact k2_hasslot (q4 k hk)) rfl rfl hd fin1
    · exact va_Wputf hx hb hown (va_Nw.use rfl (hE.1 _ hln rfl)) hi hst (Or.inr ⟨hcf, hnm.trans hini⟩) q1 (by rw [q3]; exact fun h => by cases h) (by rw [hsl]; exact k2_hasslot (q4 k hk)) h6.1 (by rw [q2, q3]; exact h6.2) rfl rfl hd (fin1 _ (by simp [Array.getElem?_setIfInBounds, (Array.getElem?_eq_some_iff.mp q1).1]) (by simp) (fun q hq => by simp [Array.getElem?_setIfInBounds, Ne.symm hq]))
theorem x_puti_r {α : Type} {f : XM → Option α} {w : α} {index ci k a : Nat} {fin : Bool} {v : Int32} (hd : decode M.2.1 pc = .ok (.putfield index, 3)) (hf : x_FL M.1.cls index ci k .int fin) (hfin : fin = true → M.1.name = "<init>" ∧ x_cls ci = M.1.cls) (hF : (x_puti h.1 ci a k v).bind f = some w) (kk : ∀ h1 : XM, f h1 = some w → X M fr lo Tg RO rc rs (pc + 3) lv rest (h1, h.2)) : X M fr lo Tg RO rc rs pc lv (.int v :: .ref a :: rest) h := by
  obtain ⟨h1, hv, hF⟩ := x_bind hF
  obtain ⟨fs, e1, e2, rfl⟩ := x_putf_sp hv
  exact x_putv hd hf hfin rfl rfl e1 e2 (kk _ hF)
theorem x_putr_r {α : Type} {f : XM → Option α} {w : α} {index ci k a : Nat} {ty : FieldType} {fin : Bool} {v : Option Nat} (hd : decode M.2.1 pc = .ok (.putfield index, 3)) (hf : x_FL M.1.cls index ci k ty fin) (hty : ty.isReference = true) (hfin : fin = true → M.1.name = "<init>" ∧ x_cls ci = M.1.cls) (hF : (x_putr h.1 ci a k v).bind f = some w) (kk : ∀ h1 : XM, f h1 = some w → X M fr lo Tg RO rc rs (pc + 3) lv rest (h1, h.2)) : X M fr lo Tg RO rc rs pc lv (va_rf v :: .ref a :: rest) h := by
  obtain ⟨h1, hv, hF⟩ := x_bind hF
  obtain ⟨fs, e1, e2, rfl⟩ := x_putf_sp hv
  refine x_putv hd hf hfin ?_ ?_ e1 e2 (kk _ hF)
  · cases v <;> cases ty <;> first | rfl | (simp [FieldType.isReference] at hty)
  · cases v <;> cases ty <;> first | rfl | (simp [FieldType.isReference] at hty)
theorem x_alen_r {α : Type} {f : Int32 → Option α} {w : α} {a : Nat} (hd : decode M.2.1 pc = .ok (.arraylength, 1)) (hF : (x_alen h.1 a).bind f = some w) (kk : ∀ v : Int32, f v = some w → X M fr lo Tg RO rc rs (pc + 1) lv (.int v :: rest) h) : X M fr lo Tg RO rc rs pc lv (.ref a :: rest) h := by
  obtain ⟨v, hv, hF⟩ := x_bind hF
  obtain ⟨ty, x, ha, hv⟩ := x_alen_sp hv
  intro l B p e s m args below meth c H locs cells slots mc ms ls hC hRO hl hR hS g1 g2
  have K := kk v hF l B p e s m args below meth c H locs cells slots mc ms ls hC hRO hl hR hS g1 g2
  obtain ⟨hx, hb, -⟩ := hC
  obtain ⟨r1, r2, r3, D, r4, r5⟩ := hR
  obtain ⟨cA, c1, c2, c3⟩ := r5 _ _ ha
  have hP : va_P D vwCl [(a, .inl (cA, x))] H := fun j q hq => by
    match j, hq with
    | 0, hq => cases hq; exact c1
  have hK : va_K D vwCl [(cA, ty)] s := ⟨r4, fun j q hq => by
    match j, hq with
    | 0, hq => cases hq; exact ⟨c2, c3⟩⟩
  exact va_alen hx hb hK hP 0 0 rfl rfl hv hd K
theorem x_ald_r {α : Type} {f : Int32 → Option α} {w : α} {a : Nat} {i : Int32} (hd : decode M.2.1 pc = .ok (.iaload, 1)) (hF : (x_ald h.1 a i).bind f = some w) (kk : ∀ v : Int32, f v = some w → X M fr lo Tg RO rc rs (pc + 1) lv (.int v :: rest) h) : X M fr lo Tg RO rc rs pc lv (.int i :: .ref a :: rest) h := by
  obtain ⟨v, hv, hF⟩ := x_bind hF
  obtain ⟨n, g, ha, hi, rfl⟩ := x_ald_sp hv
  intro l B p e s m args below meth c H locs cells slots mc ms ls hC hRO hl hR hS g1 g2
  have K := kk _ hF l B p e s m args below meth c H locs cells slots mc ms ls hC hRO hl hR hS g1 g2
  obtain ⟨hx, hb, -⟩ := hC
  obtain ⟨r1, r2, r3, D, r4, r5⟩ := hR
  obtain ⟨cA, c1, c2, c3⟩ := r5 _ _ ha
  have hP : va_P D vwCl [(a, .inl (cA, n, .inl g))] H := fun j q hq => by
    match j, hq with
    | 0, hq => cases hq; exact c1
  have hK : va_K D vwCl [(cA, .int)] s := ⟨r4, fun j q hq => by
    match j, hq with
    | 0, hq => cases hq; exact ⟨c2, c3⟩⟩
  exact va_iald hx hb hK hP 0 0 rfl rfl hi hd K
theorem x_aldl_r {α : Type} {f : Int64 → Option α} {w : α} {a : Nat} {i : Int32} (hd : decode M.2.1 pc = .ok (.laload, 1)) (hF : (x_aldl h.1 a i).bind f = some w) (kk : ∀ v : Int64, f v = some w → X M fr lo Tg RO rc rs (pc + 1) lv (.long v :: rest) h) : X M fr lo Tg RO rc rs pc lv (.int i :: .ref a :: rest) h := by
  obtain ⟨v, hv, hF⟩ := x_bind hF
  obtain ⟨n, g, ha, hi, rfl⟩ := x_aldl_sp hv
  intro l B p e s m args below meth c H locs cells slots mc ms ls hC hRO hl hR hS g1 g2
  have K := kk _ hF l B p e s m args below meth c H locs cells slots mc ms ls hC hRO hl hR hS g1 g2
  obtain ⟨hx, hb, -⟩ := hC
  obtain ⟨r1, r2, r3, D, r4, r5⟩ := hR
  obtain ⟨cA, c1, c2, c3⟩ := r5 _ _ ha
  have hP : va_P D vwCl [(a, .inl (cA, n, .inr (.inl g)))] H := fun j q hq => by
    match j, hq with
    | 0, hq => cases hq; exact c1
  have hK : va_K D vwCl [(cA, .long)] s := ⟨r4, fun j q hq => by
    match j, hq with
    | 0, hq => cases hq; exact ⟨c2, c3⟩⟩
  exact va_lald hx hb hK hP 0 0 rfl rfl hi hd K
theorem x_aldr_r {α : Type} {f : Option Nat → Option α} {w : α} {a : Nat} {i : Int32} (ci : Nat) (hd : decode M.2.1 pc = .ok (.aaload, 1)) (hF : (x_aldr h.1 ci a i).bind f = some w) (kk : ∀ v : Option Nat, f v = some w → X M fr lo Tg RO rc rs (pc + 1) lv (va_rf v :: rest) h) : X M fr lo Tg RO rc rs pc lv (.int i :: .ref a :: rest) h := by
  obtain ⟨v, hv, hF⟩ := x_bind hF
  obtain ⟨n, g, ha, hi, rfl⟩ := x_aldr_sp hv
  intro l B p e s m args below meth c H locs cells slots mc ms ls hC hRO hl hR hS g1 g2
  have K := kk _ hF l B p e s m args below meth c H locs cells slots mc ms ls hC hRO hl hR hS g1 g2
  obtain ⟨hx, hb, -⟩ := hC
  obtain ⟨r1, r2, r3, D, r4, r5⟩ := hR
  obtain ⟨cA, c1, c2, c3⟩ := r5 _ _ ha
  have hP : va_P D vwCl [(a, .inl (cA, n, .inr (.inr (.inr (.inr g)))))] H := fun j q hq => by
    match j, hq with
    | 0, hq => cases hq; exact c1
  have hK : va_K D vwCl [(cA, .object (x_cls ci))] s := ⟨r4, fun j q hq => by
    match j, hq with
    | 0, hq => cases hq; exact ⟨c2, c3⟩⟩
  exact va_aldq hx hb hK hP 0 0 rfl rfl hi hd K
theorem x_ast_r {α : Type} {f : XM → Option α} {w : α} {a : Nat} {i v : Int32} (hd : decode M.2.1 pc = .ok (.iastore, 1)) (hF : (x_ast h.1 a i v).bind f = some w) (kk : ∀ h1 : XM, f h1 = some w → X M fr lo Tg RO rc rs (pc + 1) lv rest (h1, h.2)) : X M fr lo Tg RO rc rs pc lv (.int v :: .int i :: .ref a :: rest) h := by
  obtain ⟨h1, hv, hF⟩ := x_bind hF
  obtain ⟨n, g, ha, hi, rfl⟩ := x_ast_sp hv
  intro l B p e s m args below meth c H locs cells slots mc ms ls hC hRO hl hR hS g1 g2
  have K := fun H1 locs1 hR1 hS1 => kk _ hF l B p e s m args below meth c H1 locs1 cells slots mc ms ls hC hRO hl hR1 hS1 g1 g2
  obtain ⟨hx, hb, -⟩ := hC
  obtain ⟨r1, r2, r3, D, r4, r5⟩ := hR
  obtain ⟨cA, c1, c2, c3⟩ := r5 _ _ ha
  refine W.iast hx hb c1 (c2 n (fun j => .int (g j))) (fun q => by cases q) (by show ¬ (i < 0 ∨ (arrV _ _ _).slots.size ≤ _); rw [arrV_size]; exact hi) rfl rfl hd fun H1 e1 z oq => ?_
  refine K H1 _ (x_Rep.set r1 r2 r3 r4 r5 ha ⟨cA, ?_, c2, c3⟩ z oq) (hS.put z oq (r3 _ _ ha))
  rw [e1]
  show some (Cell.setSlot (vp_cell cA (n, .inl g)) _ _) = some (vp_cell cA (n, .inl (upd g i.toNatClampNeg v)))
  rw [vp_cell_i, vp_cell_i, arrV_store]
  congr 2
  funext q
  by_cases hq : q = i.toNatClampNeg
  · subst hq
    simp [updV, upd]
  · simp [updV, upd, hq]
theorem x_astl_r {α : Type} {f : XM → Option α} {w : α} {a : Nat} {i : Int32} {v : Int64} (hd : decode M.2.1 pc = .ok (.lastore, 1)) (hF : (x_astl h.1 a i v).bind f = some w) (kk : ∀ h1 : XM, f h1 = some w → X M fr lo Tg RO rc rs (pc + 1) lv rest (h1, h.2)) : X M fr lo Tg RO rc rs pc lv (.long v :: .int i :: .ref a :: rest) h := by
  obtain ⟨h1, hv, hF⟩ := x_bind hF
  obtain ⟨n, g, ha, hi, rfl⟩ := x_astl_sp hv
  intro l B p e s m args below meth c H locs cells slots mc ms ls hC hRO hl hR hS g1 g2
  have K := fun H1 locs1 hR1 hS1 => kk _ hF l B p e s m args below meth c H1 locs1 cells slots mc ms ls hC hRO hl hR1 hS1 g1 g2
  obtain ⟨hx, hb, -⟩ := hC
  obtain ⟨r1, r2, r3, D, r4, r5⟩ := hR
  obtain ⟨cA, c1, c2, c3⟩ := r5 _ _ ha
  refine W.last hx hb c1 (c2 n (fun j => .long (g j))) (fun q => by cases q) (by show ¬ (i < 0 ∨ (arrV _ _ _).slots.size ≤ _); rw [arrV_size]; exact hi) rfl rfl hd fun H1 e1 z oq => ?_
  refine K H1 _ (x_Rep.set r1 r2 r3 r4 r5 ha ⟨cA, ?_, c2, c3⟩ z oq) (hS.put z oq (r3 _ _ ha))
  rw [e1]
  show some (Cell.setSlot (vp_cell cA (n, .inr (.inl g))) _ _) = some (vp_cell cA (n, .inr (.inl (vp_updL g i.toNatClampNeg v))))
  rw [vp_cell_l, vp_cell_l, arrV_store]
  congr 2
  funext q
  by_cases hq : q = i.toNatClampNeg
  · subst hq
    simp [updV, vp_updL]
  · simp [updV, vp_updL, hq]
end XR2
