/-! X's rules: arrays of references, new cells, arraycopy, the JDK's small ones. -/
section XR3
variable {M : XMD} {fr lo : Nat} {Tg : XT} {RO : Nat → State → Prop} {rc rs pc : Nat} {lv : List (Nat × Value)} {rest : List Value} {h : XH}
theorem x_vwCl_lt {ci : Nat} (h : ci < 6) : ∃ r : vw_C, vwCl[ci]? = some r ∧ x_cls ci = r.1 := by
  have h1 : ci < vwCl.length := h
  refine ⟨vwCl[ci], List.getElem?_eq_getElem h1, ?_⟩
  unfold x_cls
  rw [List.getElem?_eq_getElem h1]
theorem x_astr_r {α : Type} {f : XM → Option α} {w : α} {a : Nat} {i : Int32} {r : Option Nat} (ci : Nat) (hd : decode M.2.1 pc = .ok (.aastore, 1)) (hF : (x_astr h.1 ci a i r).bind f = some w) (kk : ∀ h1 : XM, f h1 = some w → X M fr lo Tg RO rc rs (pc + 1) lv rest (h1, h.2)) : X M fr lo Tg RO rc rs pc lv (va_rf r :: .int i :: .ref a :: rest) h := by
  obtain ⟨h1, hv, hF⟩ := x_bind hF
  obtain ⟨n, g, ha, h7, hr, hi, rfl⟩ := x_astr_sp hv
  obtain ⟨cl, hcl, hcn⟩ := x_vwCl_lt h7
  intro l B p e s m args below meth c H locs cells slots mc ms ls hC hRO hl hR hS g1 g2
  have K := fun H1 locs1 hR1 hS1 => kk _ hF l B p e s m args below meth c H1 locs1 cells slots mc ms ls hC hRO hl hR1 hS1 g1 g2
  obtain ⟨hx, hb, -⟩ := hC
  obtain ⟨r1, r2, r3, D, r4, r5⟩ := hR
  obtain ⟨cA, c1, c2, c3⟩ := r5 _ _ ha
  have fin : ∀ H1 : Heap, H1[a]? = some ((vp_cell cA (n, .inr (.inr (.inr (.inr g))))).setSlot i.toNatClampNeg (va_rf r)) → H1.size = H.size → (∀ q, q ≠ a → H1[q]? = H[q]?) → W p l e { frames := fr, cells := mc, slots := ms, locals := lo } s m args below meth c H1 (locs ++ [⟨a, i.toNatClampNeg⟩]) cells slots (Tg B below args s mc ms) (F0 m (pc + 1) ls rest) := fun H1 e1 z oq => by
    refine K H1 _ (x_Rep.set r1 r2 r3 r4 r5 ha ⟨cA, ?_, c2, c3⟩ z oq) (hS.put z oq (r3 _ _ ha))
    rw [e1]
    show some (Cell.setSlot (vp_cell cA (n, .inr (.inr (.inr (.inr g))))) _ _) = some (vp_cell cA (n, .inr (.inr (.inr (.inr (va_up g i.toNatClampNeg r))))))
    rw [vp_cell_q, vp_cell_q, arrV_store]
    congr 2
    funext q
    by_cases hq : q = i.toNatClampNeg
    · subst hq
      simp [updV, va_up]
    · simp [updV, va_up, hq]
  cases r with
  | none => exact va_WaastN (C := x_cls ci) hx hb c1 (c2 n (fun j => va_rf (g j))) (fun h => by cases h) (by show ¬ (i < 0 ∨ (arrV _ _ _).slots.size ≤ _); rw [arrV_size]; exact hi) rfl rfl hd fin
  | some v =>
    have hlt : i.toNatClampNeg < n := Nat.not_le.mp fun q => hi (Or.inr q)
    have h0 : ¬ i < 0 := fun q => hi (Or.inl q)
    obtain ⟨fs, hv9⟩ : ∃ fs, h.1 v = some (.inr (ci, fs)) := by
      unfold x_isC at hr
      dsimp only at hr
      split at hr
      · rename_i c9 fs9 h9
        rw [beq_iff_eq] at hr
        subst hr
        exact ⟨fs9, h9⟩
      · cases hr
    obtain ⟨r', hr', cellV, q1, q2, q3, -⟩ := r5 _ _ hv9
    have e9 : r' = cl := Option.some.inj (hr'.symm.trans hcl)
    subst e9
    have hcls := (r4 ci _ hcl).2
    obtain ⟨kA, comp, k1, k2, k3, -⟩ := c3
    rw [hcn] at k3
    have hcomp : comp = D.1 ci := Option.some.inj (k3.symm.trans hcls.1)
    subst hcomp
    obtain ⟨kC, hkC, -⟩ := hcls.2
    exact W.aast hx hb c1 (fun q h => by cases h) (fun h => by cases h) k1 k2 rfl hkC ⟨h0, by show _ < (arrV _ _ _).slots.size; rw [arrV_size]; exact hlt⟩ q1 (fun q h => by rw [q3] at h; cases h) (by rw [q2]; exact hkC) (by rw [q2]; exact va_assign hcls) rfl rfl hd fin
/-- a constant pool entry that is a class of which objects are made -/
def x_CL (own : String) (index ci : Nat) (N : Nat) (fs : List Value) : Prop :=
  ∃ (C : String) (T : u_T) (ty : Nat → FieldType), vwCl[ci]? = some (C, T, N) ∧ (∀ w ∈ u_ws C T N, w ∈ x_tb) ∧ (∀ k, k < N → parseFieldDescriptor (T k).2.2.1 = some (ty k)) ∧ Cond.classLink own index C ∈ x_tb ∧ Cond.instantiable C N ∈ x_tb ∧ Cond.initialized C ∈ x_tb ∧ ∀ j, j < N → defaultValue (ty j) = vp_V fs j
theorem x_new_r {α : Type} {f : Nat × XH → Option α} {w : α} {index ci N : Nat} {fs : List Value} (rc1 rs1 : Nat) (hd : decode M.2.1 pc = .ok (.new index, 3)) (hf : x_CL M.1.cls index ci N fs) (h1 : rc1 + 1 ≤ rc) (h2 : rs1 + N ≤ rs) (hF : (x_new h ci fs).bind f = some w) (kk : ∀ z : Nat × XH, f z = some w → X M fr lo Tg RO rc1 rs1 (pc + 3) lv (.ref z.1 :: rest) z.2) : X M fr lo Tg RO rc rs pc lv rest h := by
  have hF9 : f (h.2, (x_up h.1 h.2 (.inr (ci, fs)), h.2 + 1)) = some w := hF
  intro l B p e s m args below meth c H locs cells slots mc ms ls hC hRO hl hR hS g1 g2
  have K := fun H1 locs1 hR1 hS1 g3 g4 => kk (_, _) hF9 l B p e s m args below meth c H1 locs1 (cells + 1) (slots + N) mc ms ls hC hRO hl hR1 hS1 g3 g4
  obtain ⟨hx, hb, hr, hml, hown, hts, hlk, hnm, htab, hE, htr⟩ := hC
  obtain ⟨r1, r2, r3, D, r4, r5⟩ := hR
  obtain ⟨C, T, ty, hc, hin, hty, hk1, hk2, hk3, hfs⟩ := hf
  have hKn := r4 ci _ hc
  refine W.newcK hx hb hown (hts _ hk1) (hts _ hk2) (hts _ hk3) rfl hd (by show cells + 1 ≤ mc; omega) (by show slots + N ≤ ms; omega) hKn.2.1 r1 fun H1 kC hkC e1 z1 o1 => ?_
  refine K H1 locs (x_Rep.push r1 r2 r3 r4 r5 ⟨_, hc, ?_⟩ (by rw [z1, r1]) (fun q hq => o1 q (by rw [← r1]; exact hq))) ⟨by have := hS.1; omega, fun x g3 g4 => (o1 x (by have := hS.1; omega)).trans (hS.2.1 x g3 g4), hS.2.2⟩ (by omega) (by omega)
  show t_OB H.size _ _ _ _ _
  rw [r1]
  exact (u_born ty hts hin hKn hkC e1 hty).to hfs
theorem x_newi_r {α : Type} {f : Nat × XH → Option α} {w : α} {n : Int32} (rc1 rs1 : Nat) (hd : decode M.2.1 pc = .ok (.newarray .int, 2)) (ht : Cond.arrayClass (.int) ∈ x_tb) (h1 : rc1 + 1 ≤ rc) (h2 : rs1 + n.toNatClampNeg ≤ rs) (hF : (x_newi h n).bind f = some w) (kk : ∀ z : Nat × XH, f z = some w → X M fr lo Tg RO rc1 rs1 (pc + 2) lv (.ref z.1 :: rest) z.2) : X M fr lo Tg RO rc rs pc lv (.int n :: rest) h := by
  obtain ⟨⟨q9, h9⟩, hv, hF9⟩ := x_bind hF
  unfold x_newi at hv
  split at hv
  · cases hv
  rename_i hn
  cases hv
  intro l B p e s m args below meth c H locs cells slots mc ms ls hC hRO hl hR hS g1 g2
  have K := fun H1 locs1 hR1 hS1 g3 g4 => kk (_, _) hF9 l B p e s m args below meth c H1 locs1 (cells + 1) (slots + n.toNatClampNeg) mc ms ls hC hRO hl hR1 hS1 g3 g4
  obtain ⟨hx, hb, hr, hml, hown, hts, hlk, hnm, htab, hE, htr⟩ := hC
  obtain ⟨r1, r2, r3, D, r4, r5⟩ := hR
  have hn1 : ¬ n < 0 := fun q => hn (Or.inl q)
  have hn2 : n.toNatClampNeg ≤ 1000000 := Nat.not_lt.mp fun q => hn (Or.inr q)
  refine va_newaK (atype := .int) hx hb (hts _ ht) rfl hd rfl hn1 rfl (by show _ * 4 ≤ _; omega) (by show cells + 1 ≤ mc; omega) (by show slots + _ ≤ ms; omega) rfl fun H1 cA e1 z1 o1 hAr hNm => ?_
  show W p l e _ s m args below meth c H1 locs _ _ _ (F0 m (pc + 2) ls (.ref H.size :: rest))
  rw [r1]
  refine K H1 locs (x_Rep.push r1 r2 r3 r4 r5 ⟨cA, ?_, hAr, hNm⟩ z1 o1) ⟨by have := hS.1; omega, fun x g3 g4 => (o1 x (by have := hS.1; omega)).trans (hS.2.1 x g3 g4), hS.2.2⟩ (by omega) (by omega)
  exact e1
theorem x_newl_r {α : Type} {f : Nat × XH → Option α} {w : α} {n : Int32} (rc1 rs1 : Nat) (hd : decode M.2.1 pc = .ok (.newarray .long, 2)) (ht : Cond.arrayClass (.long) ∈ x_tb) (h1 : rc1 + 1 ≤ rc) (h2 : rs1 + n.toNatClampNeg ≤ rs) (hF : (x_newl h n).bind f = some w) (kk : ∀ z : Nat × XH, f z = some w → X M fr lo Tg RO rc1 rs1 (pc + 2) lv (.ref z.1 :: rest) z.2) : X M fr lo Tg RO rc rs pc lv (.int n :: rest) h := by
  obtain ⟨⟨q9, h9⟩, hv, hF9⟩ := x_bind hF
  unfold x_newl at hv
  split at hv
  · cases hv
  rename_i hn
  cases hv
  intro l B p e s m args below meth c H locs cells slots mc ms ls hC hRO hl hR hS g1 g2
  have K := fun H1 locs1 hR1 hS1 g3 g4 => kk (_, _) hF9 l B p e s m args below meth c H1 locs1 (cells + 1) (slots + n.toNatClampNeg) mc ms ls hC hRO hl hR1 hS1 g3 g4
  obtain ⟨hx, hb, hr, hml, hown, hts, hlk, hnm, htab, hE, htr⟩ := hC
  obtain ⟨r1, r2, r3, D, r4, r5⟩ := hR
  have hn1 : ¬ n < 0 := fun q => hn (Or.inl q)
  have hn2 : n.toNatClampNeg ≤ 1000000 := Nat.not_lt.mp fun q => hn (Or.inr q)
  refine va_newaK (atype := .long) hx hb (hts _ ht) rfl hd rfl hn1 rfl (by show _ * 8 ≤ _; omega) (by show cells + 1 ≤ mc; omega) (by show slots + _ ≤ ms; omega) rfl fun H1 cA e1 z1 o1 hAr hNm => ?_
  show W p l e _ s m args below meth c H1 locs _ _ _ (F0 m (pc + 2) ls (.ref H.size :: rest))
  rw [r1]
  refine K H1 locs (x_Rep.push r1 r2 r3 r4 r5 ⟨cA, ?_, hAr, hNm⟩ z1 o1) ⟨by have := hS.1; omega, fun x g3 g4 => (o1 x (by have := hS.1; omega)).trans (hS.2.1 x g3 g4), hS.2.2⟩ (by omega) (by omega)
  exact e1
theorem x_newr_r {α : Type} {f : Nat × XH → Option α} {w : α} {n : Int32} {index : Nat} (ci : Nat) (rc1 rs1 : Nat) (hd : decode M.2.1 pc = .ok (.anewarray index, 3)) (ht : Cond.classLink M.1.cls index (x_cls ci) ∈ x_tb) (ho : Cond.arrayOver (.object (x_cls ci)) ∈ lw_tbl) (h1 : rc1 + 1 ≤ rc) (h2 : rs1 + n.toNatClampNeg ≤ rs) (hF : (x_newr h ci n).bind f = some w) (kk : ∀ z : Nat × XH, f z = some w → X M fr lo Tg RO rc1 rs1 (pc + 3) lv (.ref z.1 :: rest) z.2) : X M fr lo Tg RO rc rs pc lv (.int n :: rest) h := by
  obtain ⟨⟨q9, h9⟩, hv, hF9⟩ := x_bind hF
  unfold x_newr at hv
  split at hv
  · cases hv
  rename_i hn
  cases hv
  intro l B p e s m args below meth c H locs cells slots mc ms ls hC hRO hl hR hS g1 g2
  have K := fun H1 locs1 hR1 hS1 g3 g4 => kk (_, _) hF9 l B p e s m args below meth c H1 locs1 (cells + 1) (slots + n.toNatClampNeg) mc ms ls hC hRO hl hR1 hS1 g3 g4
  obtain ⟨hx, hb, hr, hml, hown, hts, hlk, hnm, htab, hE, htr⟩ := hC
  obtain ⟨r1, r2, r3, D, r4, r5⟩ := hR
  have hn1 : ¬ n < 0 := fun q => hn (Or.inl q)
  have hn2 : n.toNatClampNeg ≤ 1000000 := Nat.not_lt.mp fun q => hn (Or.inr q)
  refine W.anew hx hb hown (hts _ ht) (va_AO.use (hE.2.2.1 _ ho)) rfl hd rfl hn1 (by omega) (by show cells + 1 ≤ mc; omega) (by show slots + _ ≤ ms; omega) fun cA kA comp f1 f2 f3 f4 => ?_
  generalize hH1 : H.push ({ cls := cA, slots := Array.replicate n.toNatClampNeg .null, vm := .none } : Cell) = H1
  have z1 : H1.size = H.size + 1 := by rw [← hH1, Array.size_push]
  have e1 : H1[H.size]? = some (arrV cA n.toNatClampNeg (fun _ => .null)) := by rw [← hH1, Array.getElem?_push_size, ← arrV_new]
  have o1 : ∀ q : Nat, q < H.size → H1[q]? = H[q]? := fun q hq => by rw [← hH1, Array.getElem?_push, if_neg (Nat.ne_of_lt hq)]
  have hAr : ArrOfT s cA (.object (x_cls ci)) := fun N z => ⟨(fun k h => by cases h), kA, f2, comp, f3⟩
  show W p l e _ s m args below meth c H1 locs _ _ _ (F0 m (pc + 3) ls (.ref H.size :: rest))
  rw [r1]
  refine K H1 locs (x_Rep.push r1 r2 r3 r4 r5 ⟨cA, ?_, hAr, kA, comp, f2, f3, f4, f1⟩ z1 o1) ⟨by have := hS.1; omega, fun x g3 g4 => (o1 x (by have := hS.1; omega)).trans (hS.2.1 x g3 g4), hS.2.2⟩ (by omega) (by omega)
  rw [vp_cell_q]
  exact e1
/-- Object.<init> -/
theorem x_oinit {index a : Nat} (hd : decode M.2.1 pc = .ok (.invokespecial index, 3)) (hl : Cond.methodLink M.1.cls index Lib.objectInit ∈ x_tb) (hi : Cond.instanceMethod Lib.objectInit ∈ x_tb) (hc : Cond.code Lib.objectInit ⟨#[0xb1]⟩ 1 none ∈ x_tb) (h1 : 1 ≤ fr) (h2 : 20 ≤ lo) (hcat : (rest.map fun v => v.category).sum ≤ 8) (k : X M fr lo Tg RO rc rs (pc + 3) lv rest h) : X M fr lo Tg RO rc rs pc lv (.ref a :: rest) h := by
  intro l B p e s m args below meth c H locs cells slots mc ms ls hC hRO hl9 hR hS g1 g2
  have K := k l B p e s m args below meth c H locs cells slots mc ms ls hC hRO hl9 hR hS g1 g2
  obtain ⟨hx, hb, hr, hml, hown, hts, hlk, hnm, htab, hE, htr⟩ := hC
  exact W.objInit hx hb hown (hts _ hl) (hts _ hi) (hts _ hc) rfl (by rw [hml]; exact hl9.1) rfl hd h1 (by show 2 * 0 + _ + 12 ≤ lo; omega) K
def x_imax (x y : Int32) : Int32 := if x < y then y else x
def x_imin (x y : Int32) : Int32 := if y < x then y else x
theorem x_mmax {index : Nat} {x y : Int32} (hd : decode M.2.1 pc = .ok (.invokestatic index, 3)) (hl : Cond.methodLink M.1.cls index Lib.Math.max.name ∈ x_tb) (hs : Cond.static Lib.Math.max.name ∈ x_tb) (hi : Cond.initialized "java/lang/Math" ∈ x_tb) (hc : Cond.code Lib.Math.max.name Lib.Math.max.code 2 (some .int) ∈ x_tb) (h1 : 1 ≤ fr) (h2 : 21 ≤ lo) (hcat : (rest.map fun v => v.category).sum ≤ 8) (k : X M fr lo Tg RO rc rs (pc + 3) lv (.int (x_imax x y) :: rest) h) : X M fr lo Tg RO rc rs pc lv (.int y :: .int x :: rest) h := by
  intro l B p e s m args below meth c H locs cells slots mc ms ls hC hRO hl9 hR hS g1 g2
  have K := k l B p e s m args below meth c H locs cells slots mc ms ls hC hRO hl9 hR hS g1 g2
  obtain ⟨hx, hb, hr, hml, hown, hts, hlk, hnm, htab, hE, htr⟩ := hC
  exact va_mmax hx hb (by rw [hml]; exact hl9.1.symm) hown (hts _ hl) (hts _ hs) (hts _ hi) (hts _ hc) h1 (by show _ ≤ lo; omega) (by show cells ≤ mc; omega) (by show slots ≤ ms; omega) hd K
theorem x_mmin {index : Nat} {x y : Int32} (hd : decode M.2.1 pc = .ok (.invokestatic index, 3)) (hl : Cond.methodLink M.1.cls index Lib.Math.min.name ∈ x_tb) (hs : Cond.static Lib.Math.min.name ∈ x_tb) (hi : Cond.initialized "java/lang/Math" ∈ x_tb) (hc : Cond.code Lib.Math.min.name Lib.Math.min.code 2 (some .int) ∈ x_tb) (h1 : 1 ≤ fr) (h2 : 21 ≤ lo) (hcat : (rest.map fun v => v.category).sum ≤ 8) (k : X M fr lo Tg RO rc rs (pc + 3) lv (.int (x_imin x y) :: rest) h) : X M fr lo Tg RO rc rs pc lv (.int y :: .int x :: rest) h := by
  intro l B p e s m args below meth c H locs cells slots mc ms ls hC hRO hl9 hR hS g1 g2
  have K := k l B p e s m args below meth c H locs cells slots mc ms ls hC hRO hl9 hR hS g1 g2
  obtain ⟨hx, hb, hr, hml, hown, hts, hlk, hnm, htab, hE, htr⟩ := hC
  exact va_mmin hx hb (by rw [hml]; exact hl9.1.symm) hown (hts _ hl) (hts _ hs) (hts _ hi) (hts _ hc) h1 (by show _ ≤ lo; omega) (by show cells ≤ mc; omega) (by show slots ≤ ms; omega) hd K
abbrev x_rawN : MethodName := ⟨"java/lang/Double", "doubleToRawLongBits", "(D)J"⟩
theorem x_rawbits {index : Nat} {b : UInt64} (hd : decode M.2.1 pc = .ok (.invokestatic index, 3)) (hl : Cond.methodLink M.1.cls index x_rawN ∈ x_tb) (hn : Cond.native x_rawN ∈ x_tb) (hs : Cond.static x_rawN ∈ x_tb) (hi : Cond.initialized "java/lang/Double" ∈ x_tb) (h1 : 1 ≤ fr) (h2 : 23 ≤ lo) (hcat : (rest.map fun v => v.category).sum ≤ 8) (k : X M fr lo Tg RO rc rs (pc + 3) lv (.long b.toInt64 :: rest) h) : X M fr lo Tg RO rc rs pc lv (.double b :: rest) h := by
  intro l B p e s m args below meth c H locs cells slots mc ms ls hC hRO hl9 hR hS g1 g2
  have K := k l B p e s m args below meth c H locs cells slots mc ms ls hC hRO hl9 hR hS g1 g2
  obtain ⟨hx, hb, hr, hml, hown, hts, hlk, hnm, htab, hE, htr⟩ := hC
  exact vn_d2l hx hb (by rw [hml]; exact hl9.1.symm) hown (hts _ hl) (hts _ hn) (hts _ hs) (hts _ hi) h1 (by show _ ≤ lo; omega) hd K
set_option maxHeartbeats 1000000 in
theorem x_acp_r {α : Type} {f : XM → Option α} {w : α} {index a0 a : Nat} {sp dp n : Int32} (hd : decode M.2.1 pc = .ok (.invokestatic index, 3)) (hl : Cond.methodLink M.1.cls index arraycopyName ∈ x_tb) (hn : Cond.native arraycopyName ∈ x_tb) (hs : Cond.static arraycopyName ∈ x_tb) (hi : Cond.initialized "java/lang/System" ∈ x_tb) (h1 : 1 ≤ fr) (h2 : (nativeFrameWords "java/lang/System" "arraycopy" 5 + 19) ≤ lo) (hcat : (rest.map fun v => v.category).sum ≤ 8)
    (hF : (x_acp h.1 a0 sp a dp n).bind f = some w) (kk : ∀ h1 : XM, f h1 = some w → X M fr lo Tg RO rc rs (pc + 3) lv rest (h1, h.2)) : X M fr lo Tg RO rc rs pc lv (.int n :: .int dp :: .ref a :: .int sp :: .ref a0 :: rest) h := by
  obtain ⟨f1, hv, hF9⟩ := x_bind hF
  obtain ⟨n0, g0, n1, g, ha0, ha1, k1, k2, k3, k4, k5, k6, rfl⟩ := x_acp_sp hv
  intro l B p e s m args below meth c H locs cells slots mc ms ls hC hRO hl9 hR hS g1 g2
  have K := fun H1 locs1 hR1 hS1 => kk _ hF9 l B p e s m args below meth c H1 locs1 cells slots mc ms ls hC hRO hl9 hR1 hS1 g1 g2
  obtain ⟨hx, hb, hr, hml, hown, hts, hlk, hnm, htab, hE, htr⟩ := hC
  obtain ⟨r1, r2, r3, D, r4, r5⟩ := hR
  obtain ⟨c0, d1, d2, d3⟩ := r5 _ _ ha0
  obtain ⟨c1, e1, e2, e3⟩ := r5 _ _ ha1
  have nn : ∀ z : Int32, ¬ z < 0 → z.toInt = (z.toNatClampNeg : Int) := by
    intro z hz
    have hz0 : (0 : Int) ≤ z.toInt := by
      have := Int32.not_lt.mp hz
      simpa using Int32.le_iff_toInt_le.mp this
    show z.toInt = ((z.toInt.toNat : Nat) : Int)
    omega
  intro T hT X
  obtain ⟨-, q0, hq0, cm0, hqq0⟩ := d2 n0 (fun j => .int (g0 j))
  obtain ⟨-, q1, hq1, cm1, hqq1⟩ := e2 n1 (fun j => .int (g j))
  obtain ⟨vm', X', step⟩ := X.arraycopy hx hown (hts _ hl) (hts _ hn) (hts _ hs) (hts _ hi) (src := a0) (dst := a) (cs := vp_cell c0 (n0, .inl g0)) (cd := vp_cell c1 (n1, .inl g)) (srcPos := sp) (destPos := dp) (n := n) (by rw [hT]; exact d1) (by rw [hT]; exact e1)
    (fun _ h => by cases h) (fun _ h => by cases h) (fun h => by cases h) (fun h => by cases h) hq0 hq1 hqq0 hqq1 (by simp [refKind]) k1 k2 k3
    (by rw [nn sp k1, nn n k3]; show ¬ _ > ((arrV c0 n0 (fun j => .int (g0 j))).slots.size : Int); rw [arrV_size]; omega)
    (by rw [nn dp k2, nn n k3]; show ¬ _ > ((arrV c1 n1 (fun j => .int (g j))).slots.size : Int); rw [arrV_size]; omega)
    (fun vm₁ _ i hi => by
      have e : (vp_cell c0 (n0, .inl g0)).slots.getD (sp.toNatClampNeg + i) .null = .int (g0 (sp.toNatClampNeg + i)) := by
        show (arrV c0 n0 (fun j => .int (g0 j))).slots.getD _ _ = _
        rw [Array.getD_eq_getD_getElem?, arrV_read _ _ (by omega)]
        rfl
      refine ⟨?_, ?_⟩
      · rw [e]
        rfl
      · rw [e]
        exact trivial)
    (g := F0 m pc ls (.int n :: .int dp :: .ref a :: .int sp :: .ref a0 :: rest)) rfl (by rw [hml]; exact hl9.1) (rest := rest) rfl (by rw [hb]; exact hd) h1 (by show 2 * 0 + _ + _ ≤ lo; omega)
  have ee : copied (vp_cell c0 (n0, .inl g0)) (vp_cell c1 (n1, .inl g)) sp dp n = vp_cell c1 (n1, .inl (va_cpy g0 g sp.toNatClampNeg dp.toNatClampNeg n.toNatClampNeg)) := va_copied (fun z => .int z) c0 c1 g0 g k4
  rw [ee] at X' step
  have hlt : a < H.size := (Array.getElem?_eq_some_iff.mp e1).1
  have hheap : ((T.setVm vm').setCell a (vp_cell c1 (n1, .inl (va_cpy g0 g sp.toNatClampNeg dp.toNatClampNeg n.toNatClampNeg)))).heap = H.setIfInBounds a (vp_cell c1 (n1, .inl (va_cpy g0 g sp.toNatClampNeg dp.toNatClampNeg n.toNatClampNeg))) := by rw [← hT]; rfl
  have oq : ∀ q : Nat, q ≠ a → (H.setIfInBounds a (vp_cell c1 (n1, .inl (va_cpy g0 g sp.toNatClampNeg dp.toNatClampNeg n.toNatClampNeg))))[q]? = H[q]? := fun q hq => by simp [Array.getElem?_setIfInBounds, Ne.symm hq]
  obtain ⟨t, a1, b1⟩ := K _ _ (x_Rep.set r1 r2 r3 r4 r5 ha1 ⟨c1, show (H.setIfInBounds a _)[a]? = some _ by simp [Array.getElem?_setIfInBounds, hlt], e2, e3⟩ (by simp) oq) ⟨by simp; exact hS.1, fun q g3 g4 => by
      rw [oq q (fun e => g4 (by rw [e]; exact r3 _ _ ha1))]
      exact hS.2.1 q g3 g4, fun q hq => by
      rcases List.mem_append.mp hq with h | h
      · exact hS.2.2 q h
      · obtain ⟨z, -, hz⟩ := List.mem_map.mp h
        rw [← hz]
        exact r3 _ _ ha1⟩ _ hheap X'
  exact ⟨t, step t a1, b1⟩
end XR3
