/-! From the law's entry: its start, its loop, its end; what is left is of the F functions alone. -/
theorem x_setDrawn (s : State) : s.setDrawn s.drawn = s := rfl
section XRM
variable {M : XMD} {fr lo : Nat} {Tg : XT} {RO : Nat → State → Prop} {rc rs pc : Nat} {lv : List (Nat × Value)} {st rest : List Value} {h : XH}
/-- every cell lies below the heap's size -/
theorem x_dom (k : (∀ (a : Nat) (e : XE), h.1 a = some e → a < h.2) → X M fr lo Tg RO rc rs pc lv st h) : X M fr lo Tg RO rc rs pc lv st h := by
  intro l B p e s m args below meth c H locs cells slots mc ms ls hC hRO hl hR hS g1 g2
  refine k (fun a x hx => ?_) l B p e s m args below meth c H locs cells slots mc ms ls hC hRO hl hR hS g1 g2
  obtain ⟨r1, r2, r3, D, r4, r5⟩ := hR
  rw [← r1]
  exact (r5 a x hx).lt
theorem x_lawret {b L : Nat} {xs : Nat → Int32} (hd : decode M.2.1 pc = .ok (.ireturn, 1)) (ht : M.2.2.2.1 = some .boolean) : X M fr lo x_lz (x_RO b L xs) rc rs pc lv [.int 1] h := by
  intro l B p e s m args below meth c H locs cells slots mc ms ls hC hRO hl hR hS g1 g2
  obtain ⟨hx, hb, hr, hml, hown, hts, hlk, hnm, htab, hE, htr⟩ := hC
  obtain ⟨hX, hbl, rfl⟩ := hRO
  refine va_forget (fun q hq => hS.2.2 q hq) ?_
  refine W.widen (k := mc) (n := ms) (by omega) (by omega) ?_
  intro T hT X
  obtain ⟨fs, hret, hrun, hended, hW, hframe⟩ := X.leave (v := some (.int 1)) (hlocks := hlk) (fun h => by rw [hr, ht] at h; cases h)
  have hmeth' : T.vm.method? m = some meth := X.method'
  refine ⟨T.setFrames fs, ?_, fun m1 m2 => ⟨.returned (some (.int 1)), hrun, hended, rfl, ?_⟩⟩
  · jvm_step X.here [X.here.top, hx, hb, hd, hmeth', hr, ht, narrow_b1]
    (try refine ⟨rfl, ?_⟩); (try refine ⟨rfl, ?_⟩)
    first | (intro acts; rw [hret _ acts rfl rfl rfl]) | rw [hret _ _ rfl rfl rfl]
    exact Steps.refl _
  · exact lw_closed (d0 := s.drawn) (Drawn.sameBut.refl s.drawn lw_cs) ⟨_, rfl⟩ hW (hframe.mono m1 m2)
end XRM
/-- the law's loop: turns that keep Inv; t: turns done -/
theorem x_lawloop {b L : Nat} {xs : Nat → Int32} (hL : L ≤ 1536) (N x m o : Nat) (Inv : Nat → XM → Prop)
    (P : ∀ (t : Nat) (h : XH), t < 512 → 3 * t + 3 ≤ L → Inv t h.1 → (∀ (a : Nat) (e : XE), h.1 a = some e → a < h.2) → ∃ r, F_law_k N L xs x m o (nI (3 * t)) h ((xs (3 * t)) &&& 63) = some r ∧ Inv (t + 1) r) :
    ∀ (R t : Nat) (h : XH) (rc rs : Nat), L < 3 * (t + R) + 3 → t + R ≤ 512 → 40 * R ≤ rc → 2200 * R ≤ rs → Inv t h.1 → X mL_law 11 398 x_lz (x_RO b L xs) rc rs 23 [(0, .ref b), (1, .ref x), (2, .ref m), (3, .ref o), (4, .int (nI (3 * t)))] [] h := by
  intro R
  induction R with
  | zero =>
    intro t h rc rs h1 h2 h3 h4 hI
    refine x_iload 4 dL_law_23 rfl ?_
    refine x_aload_n 0 dL_law_25 rfl rfl ?_
    refine x_slen (L := L) (xs := xs) dL_law_26 ?_
    refine x_iconst 3 (by decide) dL_law_27 ?_
    refine x_isub dL_law_28 ?_
    refine x_icmp_gt (α := Unit) (A := some ()) (B := none) (r := ()) 2611 dL_law_29 (by decide) ?_ (fun _ => ?_) (fun hF => by cases hF)
    · rw [if_pos]
      rw [Int32.lt_iff_toInt_lt]
      have e1 : (Int32.ofNat L - 3).toInt = (L : Int) - 3 := pk_sub_toInt (a := L) (b := 3) (by omega) (by omega)
      have e2 : (nI (3 * t)).toInt = ((3 * t : Nat) : Int) := nI_toInt (by omega)
      rw [e1, e2]
      omega
    · refine x_iconst 1 (by decide) dL_law_2611 ?_
      exact x_lawret dL_law_2612 rfl
  | succ R ih =>
    intro t h rc rs h1 h2 h3 h4 hI
    refine x_iload 4 dL_law_23 rfl ?_
    refine x_aload_n 0 dL_law_25 rfl rfl ?_
    refine x_slen (L := L) (xs := xs) dL_law_26 ?_
    refine x_iconst 3 (by decide) dL_law_27 ?_
    refine x_isub dL_law_28 ?_
    have e1 : (Int32.ofNat L - 3).toInt = (L : Int) - 3 := pk_sub_toInt (a := L) (b := 3) (by omega) (by omega)
    have e2 : (nI (3 * t)).toInt = ((3 * t : Nat) : Int) := nI_toInt (by omega)
    by_cases hc : Int32.ofNat L - 3 < nI (3 * t)
    · refine x_icmp_gt (α := Unit) (A := some ()) (B := none) (r := ()) 2611 dL_law_29 (by decide) (if_pos hc) (fun _ => ?_) (fun hF => by cases hF)
      refine x_iconst 1 (by decide) dL_law_2611 ?_
      exact x_lawret dL_law_2612 rfl
    · refine x_icmp_gt (α := Unit) (A := none) (B := some ()) (r := ()) 2611 dL_law_29 (by decide) (if_neg hc) (fun hF => by cases hF) (fun _ => ?_)
      rw [Int32.lt_iff_toInt_lt, e1, e2] at hc
      have hlt : 3 * t + 3 ≤ L := by omega
      refine x_dom (fun hdom => ?_)
      obtain ⟨r, hr, hI2⟩ := P t h (by omega) hlt hI hdom
      refine x_aload_n 0 dL_law_32 rfl rfl ?_
      refine x_iload 4 dL_law_33 rfl ?_
      have hin : ¬ (nI (3 * t) < 0 ∨ L ≤ (nI (3 * t)).toNatClampNeg) := by
        rw [nI_clamp (by omega)]
        intro hz
        rcases hz with hz | hz
        · exact nI_pos (by omega) hz
        · omega
      refine x_sld_r (f := fun v => if v = xs (3 * t) then some () else none) (w := ()) (L := L) (xs := xs) dL_law_35 ?_ (fun v hv => ?_)
      · unfold x_sld
        rw [if_neg hin, nI_clamp (by omega)]
        exact if_pos rfl
      · have hv9 : v = xs (3 * t) := by
          by_cases hz : v = xs (3 * t)
          · exact hz
          · rw [if_neg hz] at hv
            cases hv
        subst hv9
        refine x_bipush 63 (by decide) dL_law_36 ?_
        refine x_iand dL_law_38 ?_
        refine x_less (rc' := 40 * R + 40) (rs' := 2200 * R + 2200) (by omega) (by omega) ?_
        refine w_law_k N x m o (nI (3 * t)) h _ r hr (fun n => ?_)
        have e3 : nI (3 * t) + 3 = nI (3 * (t + 1)) := by
          rw [show 3 * (t + 1) = 3 * t + 3 by omega, ← nI_add]
          rfl
        rw [e3]
        exact ih (t + 1) (r, n) (40 * R) (2200 * R) (by omega) (by omega) (Nat.le_refl _) (Nat.le_refl _) hI2
/-! the law's entry -/
theorem x_flatgiven {b : Nat} {s : State} (hgv : (Jvm.Cond.and given_1 narrow_1).before #[Value.ref b] s = true) {c : Cond} (h : c ∈ flatC (Jvm.Cond.and given_1 narrow_1)) : c.before #[Value.ref b] s = true := flat_of_before _ hgv c h
/-- each String constant of the tables is one that the Statement says is a String -/
def x_strok (w : Cond) : Bool := match w with
  | .stringRef own k _ => decide (Cond.exactly (.string own k) "java/lang/String" ∈ flatC (Jvm.Cond.and given_1 narrow_1))
  | _ => true
set_option maxRecDepth 100000 in
theorem x_strok_all : ∀ w ∈ lw_tbl, x_strok w = true := by decide +kernel
set_option maxRecDepth 100000 in
theorem x_env0 {b B : Nat} {s : State} (hB : B = s.heap.size) (hts : ∀ w ∈ lw_tbl, w.before #[Value.ref b] s = true) (hgv : (Jvm.Cond.and given_1 narrow_1).before #[Value.ref b] s = true) : x_Env B s s.heap := by
  refine ⟨fun w hw hk => ?_, fun own k tx hm => ?_, fun C hC => va_AO.of (hts _ hC), va_Nc.of (x_flatgiven hgv (by decide +kernel)), va_Nc.of (x_flatgiven hgv (by decide +kernel)), va_Nc.of (x_flatgiven hgv (by decide +kernel)), va_Nc.of (x_flatgiven hgv (by decide +kernel)), ?_, ?_⟩
  · exact va_Nw.of (by cases w <;> first | rfl | (simp [x_nk] at hk)) (hts w hw)
  · have h1 := x_strok_all _ hm
    have h2 := of_decide_eq_true (show decide (Cond.exactly (.string own k) "java/lang/String" ∈ flatC (Jvm.Cond.and given_1 narrow_1)) = true from h1)
    obtain ⟨a, -, -, -, ha, -⟩ := Cond.exactly_spec (x_flatgiven hgv h2)
    exact ⟨a, vk_R.of (hts _ hm) ha⟩
  · exact vx_Zqof (hts _ (by decide +kernel)) (hts _ (by decide +kernel)) (x_flatgiven hgv (by decide +kernel)) (fun a h1 h2 => by omega)
  · exact vx_Zqof (hts _ (by decide +kernel)) (hts _ (by decide +kernel)) (x_flatgiven hgv (by decide +kernel)) (fun a h1 h2 => by omega)
theorem x_kn0 {b : Nat} {s : State} (hts : ∀ w ∈ lw_tbl, w.before #[Value.ref b] s = true) : ∃ D : va_G, x_Kn D s := by
  have hx : ∀ w ∈ x_tb, w.before #[Value.ref b] s = true := fun w hw => hts w (List.mem_filter.mp hw).1
  obtain ⟨c0, i0, k0⟩ := u_known (C := RX0) (T := TX0) (N := 2) (n := 2) hx x_ws0 (hts (.instantiable RX0 2) (by decide +kernel))
  obtain ⟨c1, i1, k1⟩ := u_known (C := RX1) (T := TX1) (N := 4) (n := 4) hx x_ws1 (hts (.instantiable RX1 4) (by decide +kernel))
  obtain ⟨c2, i2, k2⟩ := u_known (C := RX2) (T := TX2) (N := 3) (n := 3) hx x_ws2 (hts (.instantiable RX2 3) (by decide +kernel))
  obtain ⟨c3, i3, k3⟩ := u_known (C := RX3) (T := TX3) (N := 8) (n := 8) hx x_ws3 (hts (.instantiable RX3 8) (by decide +kernel))
  obtain ⟨c4, i4, k4⟩ := u_known (C := RX4) (T := TX4) (N := 6) (n := 6) hx x_ws4 (hts (.instantiable RX4 6) (by decide +kernel))
  obtain ⟨c5, i5, k5⟩ := u_known (C := RX5) (T := TX5) (N := 9) (n := 9) hx x_ws5 (hts (.instantiable RX5 9) (by decide +kernel))
  obtain ⟨c6, i6, k6⟩ := u_known (C := RX6) (T := TX6) (N := 15) (n := 15) hx x_ws6 (hts (.instantiable RX6 15) (by decide +kernel))
  refine ⟨(fun k => match k with | 0 => c0 | 1 => c1 | 2 => c2 | 3 => c3 | 4 => c4 | 5 => c5 | _ => c6, fun k => match k with | 0 => i0 | 1 => i1 | 2 => i2 | 3 => i3 | 4 => i4 | 5 => i5 | _ => i6), ?_⟩
  intro c q hq
  match c, hq with
  | 0, hq => cases hq; exact k0
  | 1, hq => cases hq; exact k1
  | 2, hq => cases hq; exact k2
  | 3, hq => cases hq; exact k3
  | 4, hq => cases hq; exact k4
  | 5, hq => cases hq; exact k5
  | 6, hq => cases hq; exact k6
  | c + 7, hq => simp [vwCl] at hq
/-- THE LAW, out of what the F functions say -/
theorem x_whole (N : Nat) (Inv : Nat → Nat → Nat → Nat → XM → Prop)
    (P0 : ∀ B : Nat, ∃ r, F_law_start N ((fun _ => none), B) = some r ∧ Inv r.1 r.2.1 r.2.2.1 0 r.2.2.2.1)
    (P1 : ∀ (L : Nat) (xs : Nat → Int32) (x m o t : Nat) (h : XH), L ≤ 1536 → t < 512 → 3 * t + 3 ≤ L → Inv x m o t h.1 → (∀ (a : Nat) (e : XE), h.1 a = some e → a < h.2) → ∃ r, F_law_k N L xs x m o (nI (3 * t)) h ((xs (3 * t)) &&& 63) = some r ∧ Inv x m o (t + 1) r)
    {p : Program} {e : Env} {s : State} {m : MethodId} {below : List Frame} {meth : Method} {c : Code} (l : Launch) (hflags : l.flags = flags0) {b L : Nat} {xs : Nat → Int32} (hL : L ≤ 1536) (C0 : lw_At p s m meth c b L xs) : W p l e room_1 s m #[Value.ref b] below meth c s.heap [] 0 0 (lw_Z below #[Value.ref b] s) (entryFrame m ([Value.ref b] : List Value).toArray 9) := by
  obtain ⟨hx, hb, hr, hml, hown, hts, hX, hbl, hlocks, hgv, hnm, htab⟩ := C0
  obtain ⟨D, hD⟩ := x_kn0 hts
  obtain ⟨r, hr0, hI⟩ := P0 s.heap.size
  have K := w_law_start (b := b) (L := L) (xs := xs) (rc := 40 * 512) (rs := 2200 * 512) N ((fun _ => none), s.heap.size) r hr0 (x_lawloop hL N r.1 r.2.1 r.2.2.1 (Inv r.1 r.2.1 r.2.2.1) (fun t h h1 h2 h3 h4 => P1 L xs r.1 r.2.1 r.2.2.1 t h hL h1 h2 h3 h4) 512 0 r.2.2.2 (40 * 512) (2200 * 512) (by omega) (by omega) (Nat.le_refl _) (Nat.le_refl _) hI)
  rw [lg_entry_eq]
  have hW := K l s.heap.size p e s m #[Value.ref b] below meth c s.heap [] 0 0 601024 7293034 _ ⟨hx, hb, hr, hml, hown, fun w hw => hts w (List.mem_filter.mp hw).1, hlocks, hnm, htab, x_env0 rfl hts hgv, by unfold Launch.stackTraces; rw [hflags]; decide +kernel⟩ ⟨hX, hbl, rfl⟩ (lv_entry [.ref b] (n := 9) (Nat.le_of_ble_eq_true rfl)) ⟨rfl, Nat.le_refl _, (fun a x hx => by cases hx), D, hD, (fun a x hx => by cases hx)⟩ va_S.rf (Nat.le_of_ble_eq_true rfl) (Nat.le_of_ble_eq_true rfl)
  intro T hT X0
  obtain ⟨t, a1, b1⟩ := hW T hT X0
  exact ⟨t, a1, b1 (Nat.le_refl _) (Nat.le_refl _)⟩
