/-! From the law's entry to its end. -/
/-- the law's end -/
def x_lz : XT := fun B below args s mc ms => fun t => B = s.heap.size → mc ≤ 600172 → ms ≤ 7300668 → lw_Z below args s t
theorem x_setDrawn (s : State) : s.setDrawn s.drawn = s := rfl
theorem x_lawret {M : XMD} {fr lo : Nat} {RO : Nat → State → Prop} {rc rs pc : Nat} {lv : List (Nat × Value)} {h : XH} (hd : decode M.2.1 pc = .ok (.ireturn, 1)) (ht : M.2.2.2.1 = some .boolean) : X M fr lo x_lz RO rc rs pc lv [.int 1] h := by
  intro l B p e s m args below meth c H locs cells slots mc ms ls hC hRO hl hR hS g1 g2
  obtain ⟨hx, hb, hr, hml, hown, hts, hlk, hnm, htab, hE, htr⟩ := hC
  by_cases hB : B = s.heap.size
  rotate_left
  · intro T hT X
    exact ⟨_, Steps.refl _, fun h => absurd h hB⟩
  subst hB
  refine va_forget (fun q hq => hS.2.2 q hq) ?_
  refine W.widen (k := mc) (n := ms) (by omega) (by omega) ?_
  intro T hT X
  obtain ⟨fs, hret, hrun, hended, hW, hframe⟩ := X.leave (v := some (.int 1)) (hlocks := hlk) (fun h => by rw [hr, ht] at h; cases h)
  have hmeth' : T.vm.method? m = some meth := X.method'
  refine ⟨T.setFrames fs, ?_, fun _ m1 m2 => ⟨.returned (some (.int 1)), hrun, hended, rfl, ?_⟩⟩
  · jvm_step X.here [X.here.top, hx, hb, hd, hmeth', hr, ht, narrow_b1]
    (try refine ⟨rfl, ?_⟩); (try refine ⟨rfl, ?_⟩)
    first | (intro acts; rw [hret _ acts rfl rfl rfl]) | rw [hret _ _ rfl rfl rfl]
    exact Steps.refl _
  · exact lw_closed (d0 := s.drawn) (Drawn.sameBut.refl s.drawn lw_cs) ⟨_, rfl⟩ hW (hframe.mono m1 m2)
/-! the law's entry -/
theorem x_flatgiven {b : Nat} {s : State} (hgv : (Jvm.Cond.and given_1 narrow_1).before #[Value.ref b] s = true) {c : Cond} (h : c ∈ flatC (Jvm.Cond.and given_1 narrow_1)) : c.before #[Value.ref b] s = true := flat_of_before _ hgv c h
/-- each String constant of the tables is one that the Statement says is a String -/
def x_strok (w : Cond) : Bool := match w with
  | .stringRef own k _ => decide (Cond.exactly (.string own k) "java/lang/String" ∈ flatC (Jvm.Cond.and given_1 narrow_1))
  | _ => true
set_option maxRecDepth 100000 in
theorem x_strok_all : ∀ w ∈ lw_tbl, x_strok w = true := by decide +kernel
set_option maxRecDepth 100000 in
theorem x_env0 {b B : Nat} {s : State} (hB : B = s.heap.size) (hts : ∀ w ∈ lw_tbl, w.before #[Value.ref b] s = true) (hgv : (Jvm.Cond.and given_1 narrow_1).before #[Value.ref b] s = true) : x_Env B s s.heap := by
  refine ⟨fun w hw hk => ?_, fun own k tx hm => ?_, fun C hC => va_AO.of (hts _ hC), va_Nc.of (x_flatgiven hgv (by decide +kernel)), va_Nc.of (x_flatgiven hgv (by decide +kernel)), va_Nc.of (x_flatgiven hgv (by decide +kernel)), va_Nc.of (x_flatgiven hgv (by decide +kernel)), ?_, ?_⟩
  · exact va_Nw.of (by cases w <;> first | rfl | (simp [x_nk] at hk)) (hts w hw)
  · have h1 := x_strok_all _ hm
    have h2 := of_decide_eq_true (show decide (Cond.exactly (.string own k) "java/lang/String" ∈ flatC (Jvm.Cond.and given_1 narrow_1)) = true from h1)
    obtain ⟨a, -, -, -, ha, -⟩ := Cond.exactly_spec (x_flatgiven hgv h2)
    exact ⟨a, vk_R.of (hts _ hm) ha⟩
  · exact vx_Zqof (hts _ (by decide +kernel)) (hts _ (by decide +kernel)) (x_flatgiven hgv (by decide +kernel)) (fun a h1 h2 => by omega)
  · exact vx_Zqof (hts _ (by decide +kernel)) (hts _ (by decide +kernel)) (x_flatgiven hgv (by decide +kernel)) (fun a h1 h2 => by omega)
theorem x_kn0 {b : Nat} {s : State} (hts : ∀ w ∈ lw_tbl, w.before #[Value.ref b] s = true) : ∃ D : va_G, x_Kn D s := by
  have hx : ∀ w ∈ x_tb, w.before #[Value.ref b] s = true := fun w hw => hts w (List.mem_filter.mp hw).1
  obtain ⟨c0, i0, k0⟩ := u_known (C := RX0) (T := TX0) (N := 2) (n := 2) hx x_ws0 (hts (.instantiable RX0 2) (by decide +kernel))
  obtain ⟨c1, i1, k1⟩ := u_known (C := RX1) (T := TX1) (N := 4) (n := 4) hx x_ws1 (hts (.instantiable RX1 4) (by decide +kernel))
  obtain ⟨c2, i2, k2⟩ := u_known (C := RX2) (T := TX2) (N := 3) (n := 3) hx x_ws2 (hts (.instantiable RX2 3) (by decide +kernel))
  obtain ⟨c3, i3, k3⟩ := u_known (C := RX3) (T := TX3) (N := 8) (n := 8) hx x_ws3 (hts (.instantiable RX3 8) (by decide +kernel))
  obtain ⟨c4, i4, k4⟩ := u_known (C := RX4) (T := TX4) (N := 6) (n := 6) hx x_ws4 (hts (.instantiable RX4 6) (by decide +kernel))
  obtain ⟨c5, i5, k5⟩ := u_known (C := RX5) (T := TX5) (N := 9) (n := 9) hx x_ws5 (hts (.instantiable RX5 9) (by decide +kernel))
  refine ⟨(fun k => match k with | 0 => c0 | 1 => c1 | 2 => c2 | 3 => c3 | 4 => c4 | _ => c5, fun k => match k with | 0 => i0 | 1 => i1 | 2 => i2 | 3 => i3 | 4 => i4 | _ => i5), ?_⟩
  intro c q hq
  match c, hq with
  | 0, hq => cases hq; exact k0
  | 1, hq => cases hq; exact k1
  | 2, hq => cases hq; exact k2
  | 3, hq => cases hq; exact k3
  | 4, hq => cases hq; exact k4
  | 5, hq => cases hq; exact k5
  | c + 6, hq => simp [vwCl] at hq
/-- THE LAW -/
def k_N : Nat := 1000000
theorem x_whole {p : Program} {e : Env} {s : State} {m : MethodId} {below : List Frame} {meth : Method} {c : Code} (l : Launch) (hflags : l.flags = flags0) {b L : Nat} {xs : Nat → Int32} (hL : L ≤ 260) (C0 : lw_At p s m meth c b L xs) : W p l e room_1 s m #[Value.ref b] below meth c s.heap [] 0 0 (lw_Z below #[Value.ref b] s) (entryFrame m ([Value.ref b] : List Value).toArray 14) := by
  obtain ⟨hx, hb, hr, hml, hown, hts, hX, hbl, hlocks, hgv, hnm, htab⟩ := C0
  obtain ⟨D, hD⟩ := x_kn0 hts
  have K := w_law_0 (N := k_N) (b := b) (L := L) (xs := xs) (Tg := x_lz) (show 50000 ≤ k_N by unfold k_N; omega) (by omega) (fun lv h => x_lawret dL_law_536 rfl) ((fun _ => none), s.heap.size)
  rw [lg_entry_eq]
  have hW := K l s.heap.size p e s m #[Value.ref b] below meth c s.heap [] 0 0 600172 7300668 _ ⟨hx, hb, hr, hml, hown, fun w hw => hts w (List.mem_filter.mp hw).1, hlocks, hnm, htab, x_env0 rfl hts hgv, by unfold Launch.stackTraces; rw [hflags]; decide +kernel⟩ ⟨hX, hbl, hbl⟩ (lv_entry [.ref b] (n := 14) (Nat.le_of_ble_eq_true rfl)) ⟨rfl, Nat.le_refl _, (fun a x hx => by cases hx), D, hD, (fun a x hx => by cases hx)⟩ va_S.rf (Nat.le_of_ble_eq_true rfl) (Nat.le_of_ble_eq_true rfl)
  intro T hT X0
  obtain ⟨t, a1, b1⟩ := hW T hT X0
  exact ⟨t, a1, b1 rfl (Nat.le_refl _) (Nat.le_refl _)⟩
