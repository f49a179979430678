/-! The law's own method: its script, its start, one turn of its loop. -/
def x_sld (L : Nat) (xs : Nat → Int32) (i : Int32) : Option Int32 := if i < 0 ∨ L ≤ i.toNatClampNeg then none else some (xs i.toNatClampNeg)
abbrev mL_law : XMD := (yL_law, cL_law, 9, (some .boolean), [])
/-- the law's script, and where it lies -/
def x_RO (b L : Nat) (xs : Nat → Int32) : Nat → State → Prop := fun B s => va_X b L xs s s.heap ∧ b < s.heap.size ∧ B = s.heap.size
/-- the law's end -/
def x_lz : XT := fun _ below args s mc ms => fun t => mc ≤ 601024 → ms ≤ 7293034 → lw_Z below args s t
section XRL
variable {M : XMD} {fr lo : Nat} {Tg : XT} {rc rs pc b L : Nat} {xs : Nat → Int32} {lv : List (Nat × Value)} {rest : List Value} {h : XH}
theorem x_slen (hd : decode M.2.1 pc = .ok (.arraylength, 1)) (k : X M fr lo Tg (x_RO b L xs) rc rs (pc + 1) lv (.int (Int32.ofNat L) :: rest) h) : X M fr lo Tg (x_RO b L xs) rc rs pc lv (.ref b :: rest) h := by
  intro l B p e s m args below meth c H locs cells slots mc ms ls hC hRO hl9 hR hS g1 g2
  have K := k l B p e s m args below meth c H locs cells slots mc ms ls hC hRO hl9 hR hS g1 g2
  obtain ⟨hx, hb, -⟩ := hC
  obtain ⟨hX, hbl, rfl⟩ := hRO
  exact va_slen hx hb hX hbl (Nat.not_le.mpr hbl) hS hd K
theorem x_sld_r {α : Type} {f : Int32 → Option α} {w : α} {i : Int32} (hd : decode M.2.1 pc = .ok (.iaload, 1)) (hF : (x_sld L xs i).bind f = some w) (k : ∀ v : Int32, f v = some w → X M fr lo Tg (x_RO b L xs) rc rs (pc + 1) lv (.int v :: rest) h) : X M fr lo Tg (x_RO b L xs) rc rs pc lv (.int i :: .ref b :: rest) h := by
  obtain ⟨v, hv, hF⟩ := x_bind hF
  unfold x_sld at hv
  split at hv
  · cases hv
  rename_i hi
  cases hv
  intro l B p e s m args below meth c H locs cells slots mc ms ls hC hRO hl9 hR hS g1 g2
  have K := k _ hF l B p e s m args below meth c H locs cells slots mc ms ls hC hRO hl9 hR hS g1 g2
  obtain ⟨hx, hb, -⟩ := hC
  obtain ⟨hX, hbl, rfl⟩ := hRO
  exact va_sld hx hb hX hbl (Nat.not_le.mpr hbl) hS hi hd K
end XRL
def F_law_start (N : Nat) (h : XH) : Option (Nat × Nat × Nat × XH) :=
  (x_new (h.1, h.2) 5 [.null, .null, .null, .int 0, .null, .null, .int 0, .null, .null]).bind fun z1 =>
  (F_X5_init N (z1.2.1, z1.2.2) z1.1).bind fun z2 =>
  (x_new (z2.1, z2.2) 6 [.null, .null, .int 0, .null, .null, .null, .null, .null, .int 0, .null, .int 0, .int 0, .int 0, .null, .int 0]).bind fun z3 =>
  (F_X6_init N (z3.2.1, z3.2.2) z3.1).bind fun z4 =>
  (x_newl (z4.1, z4.2) 1).bind fun z5 =>
  some (z1.1, z3.1, z5.1, (z5.2.1, z5.2.2))
set_option maxRecDepth 20000 in
set_option maxHeartbeats 4000000 in
theorem w_law_start (N : Nat) (h : XH) {b L : Nat} {xs : Nat → Int32} {rc rs : Nat} (r : Nat × Nat × Nat × XH) (hF : F_law_start N h = some r) (hK : X mL_law 11 398 x_lz (x_RO b L xs) rc rs 23 [(0, .ref b), (1, .ref r.1), (2, .ref r.2.1), (3, .ref r.2.2.1), (4, .int 0)] [] r.2.2.2) : X mL_law 11 398 x_lz (x_RO b L xs) (rc + 87) (rs + 74594) 0 [(0, .ref b)] [] h := by
  unfold F_law_start at hF
  refine x_new_r (rc + 86) (rs + 74585) dL_law_0 cl_L_8 (by omega) (by omega) hF (fun z1 hF => ?_)
  refine x_dupr dL_law_3 ?_
  obtain ⟨z2, hzz2, hF⟩ := x_bind hF
  refine x_calli (As := []) (rest := [.ref z1.1]) (rc + 11) (rs + 68571) dL_law_4 mi_X5_init ml_L_132 rfl rfl (Nat.le_of_ble_eq_true rfl) ⟨by decide, by decide⟩ (by omega) (by omega) (c_X5_init N _ _ _ hzz2) ?_
  refine x_toX (st' := [.ref z1.1]) rfl ?_
  refine x_astore_n (i := 1) (lv' := [(1, .ref z1.1), (0, .ref b)]) dL_law_7 rfl (by decide) rfl ?_
  refine x_new_r (rc + 10) (rs + 68556) dL_law_8 cl_L_133 (by omega) (by omega) hF (fun z3 hF => ?_)
  refine x_dupr dL_law_11 ?_
  obtain ⟨z4, hzz4, hF⟩ := x_bind hF
  refine x_calli (As := []) (rest := [.ref z3.1]) (rc + 1) (rs + 1) dL_law_12 mi_X6_init ml_L_135 rfl rfl (Nat.le_of_ble_eq_true rfl) ⟨by decide, by decide⟩ (by omega) (by omega) (c_X6_init N _ _ _ hzz4) ?_
  refine x_toX (st' := [.ref z3.1]) rfl ?_
  refine x_astore_n (i := 2) (lv' := [(2, .ref z3.1), (1, .ref z1.1), (0, .ref b)]) dL_law_15 rfl (by decide) rfl ?_
  refine x_iconst 1 (by decide) dL_law_16 ?_
  refine x_newl_r (rc + 0) (rs + 0) dL_law_17 ac_long (by omega) (by show (rs + 0) + 1 ≤ (rs + 1); omega) hF (fun z5 hF => ?_)
  refine x_astore_n (i := 3) (lv' := [(3, .ref z5.1), (2, .ref z3.1), (1, .ref z1.1), (0, .ref b)]) dL_law_19 rfl (by decide) rfl ?_
  refine x_iconst 0 (by decide) dL_law_20 ?_
  refine x_istore (i := 4) (lv' := [(4, .int 0), (3, .ref z5.1), (2, .ref z3.1), (1, .ref z1.1), (0, .ref b)]) dL_law_21 (by decide) rfl ?_
  cases hF
  refine x_sub [4, 3, 2, 1, 0] rfl ?_
  refine x_less (rc' := rc) (rs' := rs) (by omega) (by omega) hK
def F_law_0 (N L : Nat) (xs : Nat → Int32) (x m o : Nat) (i : Int32) (h : XH) : Option XM :=
  (x_sld L xs (i + 1)).bind fun v1 =>
  (x_sld L xs (i + 2)).bind fun v2 =>
  (F_L_put N (h.1, h.2) x v1 v2 o).bind fun z3 =>
  (x_sld L xs (i + 1)).bind fun v4 =>
  (x_sld L xs (i + 2)).bind fun v5 =>
  (x_cv z3.2 6 m (F_X6_put N z3.2 m v4 v5)).bind fun z6 =>
  (x_cv z6.2 6 m (F_X6_thrown N z6.2 m)).bind fun z7 =>
  if z7 = z3.1 then
    if z3.1 = 0 then
      (x_aldl z6.2 o 0).bind fun v8 =>
      if (lg_cmp v8 ((z6.1 : Int32).toInt64)) = 0 then
        some z6.2
      else
        none
    else
      some z6.2
  else
    none
set_option maxRecDepth 20000 in
set_option maxHeartbeats 4000000 in
theorem w_law_0 (N : Nat) {b L : Nat} {xs : Nat → Int32} (x m o : Nat) (i : Int32) (h : XH) {rc rs : Nat} (r : XM) (hF : F_law_0 N L xs x m o i h = some r) (hK : ∀ n : Nat, X mL_law 11 398 x_lz (x_RO b L xs) rc rs 23 [(0, .ref b), (1, .ref x), (2, .ref m), (3, .ref o), (4, .int (i + 3))] [] (r, n)) : X mL_law 11 398 x_lz (x_RO b L xs) (rc + 40) (rs + 2200) 260 [(0, .ref b), (1, .ref x), (2, .ref m), (3, .ref o), (4, .int i)] [] h := by
  unfold F_law_0 at hF
  refine x_aload_n 1 dL_law_260 rfl rfl ?_
  refine x_aload_n 0 dL_law_261 rfl rfl ?_
  refine x_iload 4 dL_law_262 rfl ?_
  refine x_iconst 1 (by decide) dL_law_264 ?_
  refine x_iadd dL_law_265 ?_
  refine x_sld_r dL_law_266 hF (fun v1 hF => ?_)
  refine x_aload_n 0 dL_law_267 rfl rfl ?_
  refine x_iload 4 dL_law_268 rfl ?_
  refine x_iconst 2 (by decide) dL_law_270 ?_
  refine x_iadd dL_law_271 ?_
  refine x_sld_r dL_law_272 hF (fun v2 hF => ?_)
  refine x_aload_n 3 dL_law_273 rfl rfl ?_
  obtain ⟨z3, hzz3, hF⟩ := x_bind hF
  refine x_callsH (As := [.ref x, .int v1, .int v2, .ref o]) (rest := []) (rc + 6) (rs + 285) dL_law_274 mi_L_put rfl ml_L_136 rfl rfl (Nat.le_of_ble_eq_true rfl) ⟨by decide, by decide⟩ (by omega) (by omega) (c_L_put N _ _ _ _ _ _ hzz3) (fun n9 => ?_)
  refine x_istore (i := 5) (lv' := [(5, .int z3.1), (0, .ref b), (1, .ref x), (2, .ref m), (3, .ref o), (4, .int i)]) dL_law_277 (by decide) rfl ?_
  refine x_aload_n 3 dL_law_279 rfl rfl ?_
  refine x_aload_n 1 dL_law_280 rfl rfl ?_
  refine x_iload 5 dL_law_281 rfl ?_
  refine x_iconst 1 (by decide) dL_law_283 ?_
  refine x_iadd dL_law_284 ?_
  refine x_sld_r dL_law_285 hF (fun v4 hF => ?_)
  refine x_aload_n 1 dL_law_286 rfl rfl ?_
  refine x_iload 5 dL_law_287 rfl ?_
  refine x_iconst 2 (by decide) dL_law_289 ?_
  refine x_iadd dL_law_290 ?_
  refine x_sld_r dL_law_291 hF (fun v5 hF => ?_)
  obtain ⟨z6, hzz6, hF⟩ := x_bind hF
  obtain ⟨⟨fsz6, hbz6⟩, hzz6⟩ := x_cv_sp hzz6
  refine x_callv (As := [.int v4, .int v5]) (rest := []) (rc + 6) (rs + 285) dL_law_292 mi_X6_put ml_L_141 rfl rfl (Nat.le_of_ble_eq_true rfl) ⟨by decide, by decide⟩ (by omega) (by omega) hbz6 rfl (c_X6_put N _ _ _ _ _ _ hzz6) (x_K.some ?_) x_KX.none
  refine x_istore (i := 6) (lv' := [(6, .int z6.1), (5, .int z3.1), (0, .ref b), (1, .ref x), (2, .ref m), (3, .ref o), (4, .int i)]) dL_law_295 (by decide) rfl ?_
  refine x_aload_n 4 dL_law_297 rfl rfl ?_
  obtain ⟨z7, hzz7, hF⟩ := x_bind hF
  obtain ⟨⟨fsz7, hbz7⟩, hzz7⟩ := x_cv_sp hzz7
  refine x_callv (As := []) (rest := []) (rc + 6) (rs + 285) dL_law_298 mi_X6_thrown ml_L_142 rfl rfl (Nat.le_of_ble_eq_true rfl) ⟨by decide, by decide⟩ (by omega) (by omega) hbz7 rfl (c_X6_thrown N _ _ _ _ hzz7) (x_K.some ?_) x_KX.none
  refine x_iload 1 dL_law_301 rfl ?_
  refine x_icmp_eq 308 dL_law_303 (by decide) hF (fun hF => ?_) (fun hF => ?_)
  · refine x_iload 1 dL_law_308 rfl ?_
    refine x_if_ne 325 dL_law_310 (by decide) hF (fun hF => ?_) (fun hF => ?_)
    · refine x_goto 2605 dL_law_325 (by decide) ?_
      refine x_iinc (i + 3) (lv' := [(4, .int (i + 3)), (6, .int z6.1), (5, .int z3.1), (0, .ref b), (1, .ref x), (2, .ref m), (3, .ref o)]) dL_law_2605 6 rfl (by rfl) (by decide) rfl ?_
      refine x_goto 23 dL_law_2608 (by decide) ?_
      cases hF
      refine x_sub [3, 4, 5, 6, 0] rfl ?_
      exact x_less (rc' := rc) (rs' := rs) (by omega) (by omega) (hK _)
    · refine x_aload_n 5 dL_law_313 rfl rfl ?_
      refine x_iconst 0 (by decide) dL_law_314 ?_
      refine x_aldl_r dL_law_315 hF (fun v8 hF => ?_)
      refine x_iload 0 dL_law_316 rfl ?_
      refine x_i2l dL_law_318 ?_
      refine x_lcmp dL_law_319 ?_
      refine x_if_eq 325 dL_law_320 (by decide) hF (fun hF => ?_) (fun hF => ?_)
      · refine x_goto 2605 dL_law_325 (by decide) ?_
        refine x_iinc (i + 3) (lv' := [(4, .int (i + 3)), (6, .int z6.1), (5, .int z3.1), (0, .ref b), (1, .ref x), (2, .ref m), (3, .ref o)]) dL_law_2605 6 rfl (by rfl) (by decide) rfl ?_
        refine x_goto 23 dL_law_2608 (by decide) ?_
        cases hF
        refine x_sub [3, 4, 5, 6, 0] rfl ?_
        exact x_less (rc' := rc) (rs' := rs) (by omega) (by omega) (hK _)
      · refine x_iconst 0 (by decide) dL_law_323 ?_
        cases hF
  · refine x_iconst 0 (by decide) dL_law_306 ?_
    cases hF
def F_law_1 (N L : Nat) (xs : Nat → Int32) (x m o : Nat) (i : Int32) (h : XH) : Option XM :=
  (x_sld L xs (i + 1)).bind fun v1 =>
  (F_L_drop N (h.1, h.2) x v1 o).bind fun z2 =>
  (x_sld L xs (i + 1)).bind fun v3 =>
  (x_cv z2.2 6 m (F_X6_drop N z2.2 m v3)).bind fun z4 =>
  (x_cv z4.2 6 m (F_X6_thrown N z4.2 m)).bind fun z5 =>
  if z5 = z2.1 then
    if z2.1 = 0 then
      (x_aldl z4.2 o 0).bind fun v6 =>
      if (lg_cmp v6 ((z4.1 : Int32).toInt64)) = 0 then
        some z4.2
      else
        none
    else
      some z4.2
  else
    none
set_option maxRecDepth 20000 in
set_option maxHeartbeats 4000000 in
theorem w_law_1 (N : Nat) {b L : Nat} {xs : Nat → Int32} (x m o : Nat) (i : Int32) (h : XH) {rc rs : Nat} (r : XM) (hF : F_law_1 N L xs x m o i h = some r) (hK : ∀ n : Nat, X mL_law 11 398 x_lz (x_RO b L xs) rc rs 23 [(0, .ref b), (1, .ref x), (2, .ref m), (3, .ref o), (4, .int (i + 3))] [] (r, n)) : X mL_law 11 398 x_lz (x_RO b L xs) (rc + 40) (rs + 2200) 328 [(0, .ref b), (1, .ref x), (2, .ref m), (3, .ref o), (4, .int i)] [] h := by
  unfold F_law_1 at hF
  refine x_aload_n 1 dL_law_328 rfl rfl ?_
  refine x_aload_n 0 dL_law_329 rfl rfl ?_
  refine x_iload 4 dL_law_330 rfl ?_
  refine x_iconst 1 (by decide) dL_law_332 ?_
  refine x_iadd dL_law_333 ?_
  refine x_sld_r dL_law_334 hF (fun v1 hF => ?_)
  refine x_aload_n 3 dL_law_335 rfl rfl ?_
  obtain ⟨z2, hzz2, hF⟩ := x_bind hF
  refine x_callsH (As := [.ref x, .int v1, .ref o]) (rest := []) (rc + 7) (rs + 291) dL_law_336 mi_L_drop rfl ml_L_145 rfl rfl (Nat.le_of_ble_eq_true rfl) ⟨by decide, by decide⟩ (by omega) (by omega) (c_L_drop N _ _ _ _ _ hzz2) (fun n9 => ?_)
  refine x_istore (i := 5) (lv' := [(5, .int z2.1), (0, .ref b), (1, .ref x), (2, .ref m), (3, .ref o), (4, .int i)]) dL_law_339 (by decide) rfl ?_
  refine x_aload_n 3 dL_law_341 rfl rfl ?_
  refine x_aload_n 1 dL_law_342 rfl rfl ?_
  refine x_iload 5 dL_law_343 rfl ?_
  refine x_iconst 1 (by decide) dL_law_345 ?_
  refine x_iadd dL_law_346 ?_
  refine x_sld_r dL_law_347 hF (fun v3 hF => ?_)
  obtain ⟨z4, hzz4, hF⟩ := x_bind hF
  obtain ⟨⟨fsz4, hbz4⟩, hzz4⟩ := x_cv_sp hzz4
  refine x_callv (As := [.int v3]) (rest := []) (rc + 7) (rs + 291) dL_law_348 mi_X6_drop ml_L_148 rfl rfl (Nat.le_of_ble_eq_true rfl) ⟨by decide, by decide⟩ (by omega) (by omega) hbz4 rfl (c_X6_drop N _ _ _ _ _ hzz4) (x_K.some ?_) x_KX.none
  refine x_istore (i := 6) (lv' := [(6, .int z4.1), (5, .int z2.1), (0, .ref b), (1, .ref x), (2, .ref m), (3, .ref o), (4, .int i)]) dL_law_351 (by decide) rfl ?_
  refine x_aload_n 4 dL_law_353 rfl rfl ?_
  obtain ⟨z5, hzz5, hF⟩ := x_bind hF
  obtain ⟨⟨fsz5, hbz5⟩, hzz5⟩ := x_cv_sp hzz5
  refine x_callv (As := []) (rest := []) (rc + 7) (rs + 291) dL_law_354 mi_X6_thrown ml_L_142 rfl rfl (Nat.le_of_ble_eq_true rfl) ⟨by decide, by decide⟩ (by omega) (by omega) hbz5 rfl (c_X6_thrown N _ _ _ _ hzz5) (x_K.some ?_) x_KX.none
  refine x_iload 1 dL_law_357 rfl ?_
  refine x_icmp_eq 364 dL_law_359 (by decide) hF (fun hF => ?_) (fun hF => ?_)
  · refine x_iload 1 dL_law_364 rfl ?_
    refine x_if_ne 381 dL_law_366 (by decide) hF (fun hF => ?_) (fun hF => ?_)
    · refine x_goto 2605 dL_law_381 (by decide) ?_
      refine x_iinc (i + 3) (lv' := [(4, .int (i + 3)), (6, .int z4.1), (5, .int z2.1), (0, .ref b), (1, .ref x), (2, .ref m), (3, .ref o)]) dL_law_2605 6 rfl (by rfl) (by decide) rfl ?_
      refine x_goto 23 dL_law_2608 (by decide) ?_
      cases hF
      refine x_sub [3, 4, 5, 6, 0] rfl ?_
      exact x_less (rc' := rc) (rs' := rs) (by omega) (by omega) (hK _)
    · refine x_aload_n 5 dL_law_369 rfl rfl ?_
      refine x_iconst 0 (by decide) dL_law_370 ?_
      refine x_aldl_r dL_law_371 hF (fun v6 hF => ?_)
      refine x_iload 0 dL_law_372 rfl ?_
      refine x_i2l dL_law_374 ?_
      refine x_lcmp dL_law_375 ?_
      refine x_if_eq 381 dL_law_376 (by decide) hF (fun hF => ?_) (fun hF => ?_)
      · refine x_goto 2605 dL_law_381 (by decide) ?_
        refine x_iinc (i + 3) (lv' := [(4, .int (i + 3)), (6, .int z4.1), (5, .int z2.1), (0, .ref b), (1, .ref x), (2, .ref m), (3, .ref o)]) dL_law_2605 6 rfl (by rfl) (by decide) rfl ?_
        refine x_goto 23 dL_law_2608 (by decide) ?_
        cases hF
        refine x_sub [3, 4, 5, 6, 0] rfl ?_
        exact x_less (rc' := rc) (rs' := rs) (by omega) (by omega) (hK _)
      · refine x_iconst 0 (by decide) dL_law_379 ?_
        cases hF
  · refine x_iconst 0 (by decide) dL_law_362 ?_
    cases hF
def F_law_2 (N L : Nat) (xs : Nat → Int32) (x m o : Nat) (i : Int32) (h : XH) : Option XM :=
  (F_L_closeRun N (h.1, h.2) x o).bind fun z1 =>
  (x_cv z1.2 6 m (F_X6_closeRun N z1.2 m)).bind fun z2 =>
  (x_cv z2.2 6 m (F_X6_thrown N z2.2 m)).bind fun z3 =>
  if z3 = z1.1 then
    if z1.1 = 0 then
      (x_aldl z2.2 o 0).bind fun v4 =>
      if (lg_cmp v4 ((z2.1 : Int32).toInt64)) = 0 then
        some z2.2
      else
        none
    else
      some z2.2
  else
    none
set_option maxRecDepth 20000 in
set_option maxHeartbeats 4000000 in
theorem w_law_2 (N : Nat) {b L : Nat} {xs : Nat → Int32} (x m o : Nat) (i : Int32) (h : XH) {rc rs : Nat} (r : XM) (hF : F_law_2 N L xs x m o i h = some r) (hK : ∀ n : Nat, X mL_law 11 398 x_lz (x_RO b L xs) rc rs 23 [(0, .ref b), (1, .ref x), (2, .ref m), (3, .ref o), (4, .int (i + 3))] [] (r, n)) : X mL_law 11 398 x_lz (x_RO b L xs) (rc + 40) (rs + 2200) 384 [(0, .ref b), (1, .ref x), (2, .ref m), (3, .ref o), (4, .int i)] [] h := by
  unfold F_law_2 at hF
  refine x_aload_n 1 dL_law_384 rfl rfl ?_
  refine x_aload_n 3 dL_law_385 rfl rfl ?_
  obtain ⟨z1, hzz1, hF⟩ := x_bind hF
  refine x_callsH (As := [.ref x, .ref o]) (rest := []) (rc + 8) (rs + 297) dL_law_386 mi_L_closeRun rfl ml_L_149 rfl rfl (Nat.le_of_ble_eq_true rfl) ⟨by decide, by decide⟩ (by omega) (by omega) (c_L_closeRun N _ _ _ _ hzz1) (fun n9 => ?_)
  refine x_istore (i := 5) (lv' := [(5, .int z1.1), (0, .ref b), (1, .ref x), (2, .ref m), (3, .ref o), (4, .int i)]) dL_law_389 (by decide) rfl ?_
  refine x_aload_n 3 dL_law_391 rfl rfl ?_
  obtain ⟨z2, hzz2, hF⟩ := x_bind hF
  obtain ⟨⟨fsz2, hbz2⟩, hzz2⟩ := x_cv_sp hzz2
  refine x_callv (As := []) (rest := []) (rc + 8) (rs + 297) dL_law_392 mi_X6_closeRun ml_L_152 rfl rfl (Nat.le_of_ble_eq_true rfl) ⟨by decide, by decide⟩ (by omega) (by omega) hbz2 rfl (c_X6_closeRun N _ _ _ _ hzz2) (x_K.some ?_) x_KX.none
  refine x_istore (i := 6) (lv' := [(6, .int z2.1), (5, .int z1.1), (0, .ref b), (1, .ref x), (2, .ref m), (3, .ref o), (4, .int i)]) dL_law_395 (by decide) rfl ?_
  refine x_aload_n 4 dL_law_397 rfl rfl ?_
  obtain ⟨z3, hzz3, hF⟩ := x_bind hF
  obtain ⟨⟨fsz3, hbz3⟩, hzz3⟩ := x_cv_sp hzz3
  refine x_callv (As := []) (rest := []) (rc + 8) (rs + 297) dL_law_398 mi_X6_thrown ml_L_142 rfl rfl (Nat.le_of_ble_eq_true rfl) ⟨by decide, by decide⟩ (by omega) (by omega) hbz3 rfl (c_X6_thrown N _ _ _ _ hzz3) (x_K.some ?_) x_KX.none
  refine x_iload 1 dL_law_401 rfl ?_
  refine x_icmp_eq 408 dL_law_403 (by decide) hF (fun hF => ?_) (fun hF => ?_)
  · refine x_iload 1 dL_law_408 rfl ?_
    refine x_if_ne 425 dL_law_410 (by decide) hF (fun hF => ?_) (fun hF => ?_)
    · refine x_goto 2605 dL_law_425 (by decide) ?_
      refine x_iinc (i + 3) (lv' := [(4, .int (i + 3)), (6, .int z2.1), (5, .int z1.1), (0, .ref b), (1, .ref x), (2, .ref m), (3, .ref o)]) dL_law_2605 6 rfl (by rfl) (by decide) rfl ?_
      refine x_goto 23 dL_law_2608 (by decide) ?_
      cases hF
      refine x_sub [3, 4, 5, 6, 0] rfl ?_
      exact x_less (rc' := rc) (rs' := rs) (by omega) (by omega) (hK _)
    · refine x_aload_n 5 dL_law_413 rfl rfl ?_
      refine x_iconst 0 (by decide) dL_law_414 ?_
      refine x_aldl_r dL_law_415 hF (fun v4 hF => ?_)
      refine x_iload 0 dL_law_416 rfl ?_
      refine x_i2l dL_law_418 ?_
      refine x_lcmp dL_law_419 ?_
      refine x_if_eq 425 dL_law_420 (by decide) hF (fun hF => ?_) (fun hF => ?_)
      · refine x_goto 2605 dL_law_425 (by decide) ?_
        refine x_iinc (i + 3) (lv' := [(4, .int (i + 3)), (6, .int z2.1), (5, .int z1.1), (0, .ref b), (1, .ref x), (2, .ref m), (3, .ref o)]) dL_law_2605 6 rfl (by rfl) (by decide) rfl ?_
        refine x_goto 23 dL_law_2608 (by decide) ?_
        cases hF
        refine x_sub [3, 4, 5, 6, 0] rfl ?_
        exact x_less (rc' := rc) (rs' := rs) (by omega) (by omega) (hK _)
      · refine x_iconst 0 (by decide) dL_law_423 ?_
        cases hF
  · refine x_iconst 0 (by decide) dL_law_406 ?_
    cases hF
def F_law_3 (N L : Nat) (xs : Nat → Int32) (x m o : Nat) (i : Int32) (h : XH) : Option XM :=
  (F_L_mergeRuns N (h.1, h.2) x o).bind fun z1 =>
  (x_cv z1.2 6 m (F_X6_mergeRuns N z1.2 m)).bind fun z2 =>
  (x_cv z2.2 6 m (F_X6_thrown N z2.2 m)).bind fun z3 =>
  if z3 = z1.1 then
    if z1.1 = 0 then
      (x_aldl z2.2 o 0).bind fun v4 =>
      if (lg_cmp v4 ((z2.1 : Int32).toInt64)) = 0 then
        some z2.2
      else
        none
    else
      some z2.2
  else
    none
set_option maxRecDepth 20000 in
set_option maxHeartbeats 4000000 in
theorem w_law_3 (N : Nat) {b L : Nat} {xs : Nat → Int32} (x m o : Nat) (i : Int32) (h : XH) {rc rs : Nat} (r : XM) (hF : F_law_3 N L xs x m o i h = some r) (hK : ∀ n : Nat, X mL_law 11 398 x_lz (x_RO b L xs) rc rs 23 [(0, .ref b), (1, .ref x), (2, .ref m), (3, .ref o), (4, .int (i + 3))] [] (r, n)) : X mL_law 11 398 x_lz (x_RO b L xs) (rc + 40) (rs + 2200) 428 [(0, .ref b), (1, .ref x), (2, .ref m), (3, .ref o), (4, .int i)] [] h := by
  unfold F_law_3 at hF
  refine x_aload_n 1 dL_law_428 rfl rfl ?_
  refine x_aload_n 3 dL_law_429 rfl rfl ?_
  obtain ⟨z1, hzz1, hF⟩ := x_bind hF
  refine x_callsH (As := [.ref x, .ref o]) (rest := []) (rc + 8) (rs + 297) dL_law_430 mi_L_mergeRuns rfl ml_L_153 rfl rfl (Nat.le_of_ble_eq_true rfl) ⟨by decide, by decide⟩ (by omega) (by omega) (c_L_mergeRuns N _ _ _ _ hzz1) (fun n9 => ?_)
  refine x_istore (i := 5) (lv' := [(5, .int z1.1), (0, .ref b), (1, .ref x), (2, .ref m), (3, .ref o), (4, .int i)]) dL_law_433 (by decide) rfl ?_
  refine x_aload_n 3 dL_law_435 rfl rfl ?_
  obtain ⟨z2, hzz2, hF⟩ := x_bind hF
  obtain ⟨⟨fsz2, hbz2⟩, hzz2⟩ := x_cv_sp hzz2
  refine x_callv (As := []) (rest := []) (rc + 8) (rs + 297) dL_law_436 mi_X6_mergeRuns ml_L_155 rfl rfl (Nat.le_of_ble_eq_true rfl) ⟨by decide, by decide⟩ (by omega) (by omega) hbz2 rfl (c_X6_mergeRuns N _ _ _ _ hzz2) (x_K.some ?_) x_KX.none
  refine x_istore (i := 6) (lv' := [(6, .int z2.1), (5, .int z1.1), (0, .ref b), (1, .ref x), (2, .ref m), (3, .ref o), (4, .int i)]) dL_law_439 (by decide) rfl ?_
  refine x_aload_n 4 dL_law_441 rfl rfl ?_
  obtain ⟨z3, hzz3, hF⟩ := x_bind hF
  obtain ⟨⟨fsz3, hbz3⟩, hzz3⟩ := x_cv_sp hzz3
  refine x_callv (As := []) (rest := []) (rc + 8) (rs + 297) dL_law_442 mi_X6_thrown ml_L_142 rfl rfl (Nat.le_of_ble_eq_true rfl) ⟨by decide, by decide⟩ (by omega) (by omega) hbz3 rfl (c_X6_thrown N _ _ _ _ hzz3) (x_K.some ?_) x_KX.none
  refine x_iload 1 dL_law_445 rfl ?_
  refine x_icmp_eq 452 dL_law_447 (by decide) hF (fun hF => ?_) (fun hF => ?_)
  · refine x_iload 1 dL_law_452 rfl ?_
    refine x_if_ne 469 dL_law_454 (by decide) hF (fun hF => ?_) (fun hF => ?_)
    · refine x_goto 2605 dL_law_469 (by decide) ?_
      refine x_iinc (i + 3) (lv' := [(4, .int (i + 3)), (6, .int z2.1), (5, .int z1.1), (0, .ref b), (1, .ref x), (2, .ref m), (3, .ref o)]) dL_law_2605 6 rfl (by rfl) (by decide) rfl ?_
      refine x_goto 23 dL_law_2608 (by decide) ?_
      cases hF
      refine x_sub [3, 4, 5, 6, 0] rfl ?_
      exact x_less (rc' := rc) (rs' := rs) (by omega) (by omega) (hK _)
    · refine x_aload_n 5 dL_law_457 rfl rfl ?_
      refine x_iconst 0 (by decide) dL_law_458 ?_
      refine x_aldl_r dL_law_459 hF (fun v4 hF => ?_)
      refine x_iload 0 dL_law_460 rfl ?_
      refine x_i2l dL_law_462 ?_
      refine x_lcmp dL_law_463 ?_
      refine x_if_eq 469 dL_law_464 (by decide) hF (fun hF => ?_) (fun hF => ?_)
      · refine x_goto 2605 dL_law_469 (by decide) ?_
        refine x_iinc (i + 3) (lv' := [(4, .int (i + 3)), (6, .int z2.1), (5, .int z1.1), (0, .ref b), (1, .ref x), (2, .ref m), (3, .ref o)]) dL_law_2605 6 rfl (by rfl) (by decide) rfl ?_
        refine x_goto 23 dL_law_2608 (by decide) ?_
        cases hF
        refine x_sub [3, 4, 5, 6, 0] rfl ?_
        exact x_less (rc' := rc) (rs' := rs) (by omega) (by omega) (hK _)
      · refine x_iconst 0 (by decide) dL_law_467 ?_
        cases hF
  · refine x_iconst 0 (by decide) dL_law_450 ?_
    cases hF
def F_law_4 (N L : Nat) (xs : Nat → Int32) (x m o : Nat) (i : Int32) (h : XH) : Option XM :=
  (x_sld L xs (i + 1)).bind fun v1 =>
  (F_L_build N (h.1, h.2) x v1 o).bind fun z2 =>
  (x_sld L xs (i + 1)).bind fun v3 =>
  (x_cv z2.2 6 m (F_X6_build N z2.2 m v3)).bind fun z4 =>
  (x_cv z4.2 6 m (F_X6_thrown N z4.2 m)).bind fun z5 =>
  if z5 = z2.1 then
    if z2.1 = 0 then
      (x_aldl z4.2 o 0).bind fun v6 =>
      if (lg_cmp v6 ((z4.1 : Int32).toInt64)) = 0 then
        some z4.2
      else
        none
    else
      some z4.2
  else
    none
set_option maxRecDepth 20000 in
set_option maxHeartbeats 4000000 in
theorem w_law_4 (N : Nat) {b L : Nat} {xs : Nat → Int32} (x m o : Nat) (i : Int32) (h : XH) {rc rs : Nat} (r : XM) (hF : F_law_4 N L xs x m o i h = some r) (hK : ∀ n : Nat, X mL_law 11 398 x_lz (x_RO b L xs) rc rs 23 [(0, .ref b), (1, .ref x), (2, .ref m), (3, .ref o), (4, .int (i + 3))] [] (r, n)) : X mL_law 11 398 x_lz (x_RO b L xs) (rc + 40) (rs + 2200) 472 [(0, .ref b), (1, .ref x), (2, .ref m), (3, .ref o), (4, .int i)] [] h := by
  unfold F_law_4 at hF
  refine x_aload_n 1 dL_law_472 rfl rfl ?_
  refine x_aload_n 0 dL_law_473 rfl rfl ?_
  refine x_iload 4 dL_law_474 rfl ?_
  refine x_iconst 1 (by decide) dL_law_476 ?_
  refine x_iadd dL_law_477 ?_
  refine x_sld_r dL_law_478 hF (fun v1 hF => ?_)
  refine x_aload_n 3 dL_law_479 rfl rfl ?_
  obtain ⟨z2, hzz2, hF⟩ := x_bind hF
  refine x_callsH (As := [.ref x, .int v1, .ref o]) (rest := []) (rc + 7) (rs + 291) dL_law_480 mi_L_build rfl ml_L_156 rfl rfl (Nat.le_of_ble_eq_true rfl) ⟨by decide, by decide⟩ (by omega) (by omega) (c_L_build N _ _ _ _ _ hzz2) (fun n9 => ?_)
  refine x_istore (i := 5) (lv' := [(5, .int z2.1), (0, .ref b), (1, .ref x), (2, .ref m), (3, .ref o), (4, .int i)]) dL_law_483 (by decide) rfl ?_
  refine x_aload_n 3 dL_law_485 rfl rfl ?_
  refine x_aload_n 1 dL_law_486 rfl rfl ?_
  refine x_iload 5 dL_law_487 rfl ?_
  refine x_iconst 1 (by decide) dL_law_489 ?_
  refine x_iadd dL_law_490 ?_
  refine x_sld_r dL_law_491 hF (fun v3 hF => ?_)
  obtain ⟨z4, hzz4, hF⟩ := x_bind hF
  obtain ⟨⟨fsz4, hbz4⟩, hzz4⟩ := x_cv_sp hzz4
  refine x_callv (As := [.int v3]) (rest := []) (rc + 7) (rs + 291) dL_law_492 mi_X6_build ml_L_158 rfl rfl (Nat.le_of_ble_eq_true rfl) ⟨by decide, by decide⟩ (by omega) (by omega) hbz4 rfl (c_X6_build N _ _ _ _ _ hzz4) (x_K.some ?_) x_KX.none
  refine x_istore (i := 6) (lv' := [(6, .int z4.1), (5, .int z2.1), (0, .ref b), (1, .ref x), (2, .ref m), (3, .ref o), (4, .int i)]) dL_law_495 (by decide) rfl ?_
  refine x_aload_n 4 dL_law_497 rfl rfl ?_
  obtain ⟨z5, hzz5, hF⟩ := x_bind hF
  obtain ⟨⟨fsz5, hbz5⟩, hzz5⟩ := x_cv_sp hzz5
  refine x_callv (As := []) (rest := []) (rc + 7) (rs + 291) dL_law_498 mi_X6_thrown ml_L_142 rfl rfl (Nat.le_of_ble_eq_true rfl) ⟨by decide, by decide⟩ (by omega) (by omega) hbz5 rfl (c_X6_thrown N _ _ _ _ hzz5) (x_K.some ?_) x_KX.none
  refine x_iload 1 dL_law_501 rfl ?_
  refine x_icmp_eq 508 dL_law_503 (by decide) hF (fun hF => ?_) (fun hF => ?_)
  · refine x_iload 1 dL_law_508 rfl ?_
    refine x_if_ne 525 dL_law_510 (by decide) hF (fun hF => ?_) (fun hF => ?_)
    · refine x_goto 2605 dL_law_525 (by decide) ?_
      refine x_iinc (i + 3) (lv' := [(4, .int (i + 3)), (6, .int z4.1), (5, .int z2.1), (0, .ref b), (1, .ref x), (2, .ref m), (3, .ref o)]) dL_law_2605 6 rfl (by rfl) (by decide) rfl ?_
      refine x_goto 23 dL_law_2608 (by decide) ?_
      cases hF
      refine x_sub [3, 4, 5, 6, 0] rfl ?_
      exact x_less (rc' := rc) (rs' := rs) (by omega) (by omega) (hK _)
    · refine x_aload_n 5 dL_law_513 rfl rfl ?_
      refine x_iconst 0 (by decide) dL_law_514 ?_
      refine x_aldl_r dL_law_515 hF (fun v6 hF => ?_)
      refine x_iload 0 dL_law_516 rfl ?_
      refine x_i2l dL_law_518 ?_
      refine x_lcmp dL_law_519 ?_
      refine x_if_eq 525 dL_law_520 (by decide) hF (fun hF => ?_) (fun hF => ?_)
      · refine x_goto 2605 dL_law_525 (by decide) ?_
        refine x_iinc (i + 3) (lv' := [(4, .int (i + 3)), (6, .int z4.1), (5, .int z2.1), (0, .ref b), (1, .ref x), (2, .ref m), (3, .ref o)]) dL_law_2605 6 rfl (by rfl) (by decide) rfl ?_
        refine x_goto 23 dL_law_2608 (by decide) ?_
        cases hF
        refine x_sub [3, 4, 5, 6, 0] rfl ?_
        exact x_less (rc' := rc) (rs' := rs) (by omega) (by omega) (hK _)
      · refine x_iconst 0 (by decide) dL_law_523 ?_
        cases hF
  · refine x_iconst 0 (by decide) dL_law_506 ?_
    cases hF
def F_law_5 (N L : Nat) (xs : Nat → Int32) (x m o : Nat) (i : Int32) (h : XH) : Option XM :=
  (x_sld L xs (i + 1)).bind fun v1 =>
  (x_sld L xs (i + 2)).bind fun v2 =>
  (F_L_insert N (h.1, h.2) x v1 v2 o).bind fun z3 =>
  (x_sld L xs (i + 1)).bind fun v4 =>
  (x_sld L xs (i + 2)).bind fun v5 =>
  (x_cv z3.2 6 m (F_X6_insert N z3.2 m v4 v5)).bind fun z6 =>
  (x_cv z6.2 6 m (F_X6_thrown N z6.2 m)).bind fun z7 =>
  if z7 = z3.1 then
    if z3.1 = 0 then
      (x_aldl z6.2 o 0).bind fun v8 =>
      if (lg_cmp v8 ((z6.1 : Int32).toInt64)) = 0 then
        some z6.2
      else
        none
    else
      some z6.2
  else
    none
set_option maxRecDepth 20000 in
set_option maxHeartbeats 4000000 in
theorem w_law_5 (N : Nat) {b L : Nat} {xs : Nat → Int32} (x m o : Nat) (i : Int32) (h : XH) {rc rs : Nat} (r : XM) (hF : F_law_5 N L xs x m o i h = some r) (hK : ∀ n : Nat, X mL_law 11 398 x_lz (x_RO b L xs) rc rs 23 [(0, .ref b), (1, .ref x), (2, .ref m), (3, .ref o), (4, .int (i + 3))] [] (r, n)) : X mL_law 11 398 x_lz (x_RO b L xs) (rc + 40) (rs + 2200) 528 [(0, .ref b), (1, .ref x), (2, .ref m), (3, .ref o), (4, .int i)] [] h := by
  unfold F_law_5 at hF
  refine x_aload_n 1 dL_law_528 rfl rfl ?_
  refine x_aload_n 0 dL_law_529 rfl rfl ?_
  refine x_iload 4 dL_law_530 rfl ?_
  refine x_iconst 1 (by decide) dL_law_532 ?_
  refine x_iadd dL_law_533 ?_
  refine x_sld_r dL_law_534 hF (fun v1 hF => ?_)
  refine x_aload_n 0 dL_law_535 rfl rfl ?_
  refine x_iload 4 dL_law_536 rfl ?_
  refine x_iconst 2 (by decide) dL_law_538 ?_
  refine x_iadd dL_law_539 ?_
  refine x_sld_r dL_law_540 hF (fun v2 hF => ?_)
  refine x_aload_n 3 dL_law_541 rfl rfl ?_
  obtain ⟨z3, hzz3, hF⟩ := x_bind hF
  refine x_callsH (As := [.ref x, .int v1, .int v2, .ref o]) (rest := []) (rc + 6) (rs + 285) dL_law_542 mi_L_insert rfl ml_L_159 rfl rfl (Nat.le_of_ble_eq_true rfl) ⟨by decide, by decide⟩ (by omega) (by omega) (c_L_insert N _ _ _ _ _ _ hzz3) (fun n9 => ?_)
  refine x_istore (i := 5) (lv' := [(5, .int z3.1), (0, .ref b), (1, .ref x), (2, .ref m), (3, .ref o), (4, .int i)]) dL_law_545 (by decide) rfl ?_
  refine x_aload_n 3 dL_law_547 rfl rfl ?_
  refine x_aload_n 1 dL_law_548 rfl rfl ?_
  refine x_iload 5 dL_law_549 rfl ?_
  refine x_iconst 1 (by decide) dL_law_551 ?_
  refine x_iadd dL_law_552 ?_
  refine x_sld_r dL_law_553 hF (fun v4 hF => ?_)
  refine x_aload_n 1 dL_law_554 rfl rfl ?_
  refine x_iload 5 dL_law_555 rfl ?_
  refine x_iconst 2 (by decide) dL_law_557 ?_
  refine x_iadd dL_law_558 ?_
  refine x_sld_r dL_law_559 hF (fun v5 hF => ?_)
  obtain ⟨z6, hzz6, hF⟩ := x_bind hF
  obtain ⟨⟨fsz6, hbz6⟩, hzz6⟩ := x_cv_sp hzz6
  refine x_callv (As := [.int v4, .int v5]) (rest := []) (rc + 6) (rs + 285) dL_law_560 mi_X6_insert ml_L_161 rfl rfl (Nat.le_of_ble_eq_true rfl) ⟨by decide, by decide⟩ (by omega) (by omega) hbz6 rfl (c_X6_insert N _ _ _ _ _ _ hzz6) (x_K.some ?_) x_KX.none
  refine x_istore (i := 6) (lv' := [(6, .int z6.1), (5, .int z3.1), (0, .ref b), (1, .ref x), (2, .ref m), (3, .ref o), (4, .int i)]) dL_law_563 (by decide) rfl ?_
  refine x_aload_n 4 dL_law_565 rfl rfl ?_
  obtain ⟨z7, hzz7, hF⟩ := x_bind hF
  obtain ⟨⟨fsz7, hbz7⟩, hzz7⟩ := x_cv_sp hzz7
  refine x_callv (As := []) (rest := []) (rc + 6) (rs + 285) dL_law_566 mi_X6_thrown ml_L_142 rfl rfl (Nat.le_of_ble_eq_true rfl) ⟨by decide, by decide⟩ (by omega) (by omega) hbz7 rfl (c_X6_thrown N _ _ _ _ hzz7) (x_K.some ?_) x_KX.none
  refine x_iload 1 dL_law_569 rfl ?_
  refine x_icmp_eq 576 dL_law_571 (by decide) hF (fun hF => ?_) (fun hF => ?_)
  · refine x_iload 1 dL_law_576 rfl ?_
    refine x_if_ne 593 dL_law_578 (by decide) hF (fun hF => ?_) (fun hF => ?_)
    · refine x_goto 2605 dL_law_593 (by decide) ?_
      refine x_iinc (i + 3) (lv' := [(4, .int (i + 3)), (6, .int z6.1), (5, .int z3.1), (0, .ref b), (1, .ref x), (2, .ref m), (3, .ref o)]) dL_law_2605 6 rfl (by rfl) (by decide) rfl ?_
      refine x_goto 23 dL_law_2608 (by decide) ?_
      cases hF
      refine x_sub [3, 4, 5, 6, 0] rfl ?_
      exact x_less (rc' := rc) (rs' := rs) (by omega) (by omega) (hK _)
    · refine x_aload_n 5 dL_law_581 rfl rfl ?_
      refine x_iconst 0 (by decide) dL_law_582 ?_
      refine x_aldl_r dL_law_583 hF (fun v8 hF => ?_)
      refine x_iload 0 dL_law_584 rfl ?_
      refine x_i2l dL_law_586 ?_
      refine x_lcmp dL_law_587 ?_
      refine x_if_eq 593 dL_law_588 (by decide) hF (fun hF => ?_) (fun hF => ?_)
      · refine x_goto 2605 dL_law_593 (by decide) ?_
        refine x_iinc (i + 3) (lv' := [(4, .int (i + 3)), (6, .int z6.1), (5, .int z3.1), (0, .ref b), (1, .ref x), (2, .ref m), (3, .ref o)]) dL_law_2605 6 rfl (by rfl) (by decide) rfl ?_
        refine x_goto 23 dL_law_2608 (by decide) ?_
        cases hF
        refine x_sub [3, 4, 5, 6, 0] rfl ?_
        exact x_less (rc' := rc) (rs' := rs) (by omega) (by omega) (hK _)
      · refine x_iconst 0 (by decide) dL_law_591 ?_
        cases hF
  · refine x_iconst 0 (by decide) dL_law_574 ?_
    cases hF
def F_law_6 (N L : Nat) (xs : Nat → Int32) (x m o : Nat) (i : Int32) (h : XH) : Option XM :=
  (x_sld L xs (i + 1)).bind fun v1 =>
  (F_L_erase N (h.1, h.2) x v1 o).bind fun z2 =>
  (x_sld L xs (i + 1)).bind fun v3 =>
  (x_cv z2.2 6 m (F_X6_erase N z2.2 m v3)).bind fun z4 =>
  (x_cv z4.2 6 m (F_X6_thrown N z4.2 m)).bind fun z5 =>
  if z5 = z2.1 then
    if z2.1 = 0 then
      (x_aldl z4.2 o 0).bind fun v6 =>
      if (lg_cmp v6 ((z4.1 : Int32).toInt64)) = 0 then
        some z4.2
      else
        none
    else
      some z4.2
  else
    none
set_option maxRecDepth 20000 in
set_option maxHeartbeats 4000000 in
theorem w_law_6 (N : Nat) {b L : Nat} {xs : Nat → Int32} (x m o : Nat) (i : Int32) (h : XH) {rc rs : Nat} (r : XM) (hF : F_law_6 N L xs x m o i h = some r) (hK : ∀ n : Nat, X mL_law 11 398 x_lz (x_RO b L xs) rc rs 23 [(0, .ref b), (1, .ref x), (2, .ref m), (3, .ref o), (4, .int (i + 3))] [] (r, n)) : X mL_law 11 398 x_lz (x_RO b L xs) (rc + 40) (rs + 2200) 596 [(0, .ref b), (1, .ref x), (2, .ref m), (3, .ref o), (4, .int i)] [] h := by
  unfold F_law_6 at hF
  refine x_aload_n 1 dL_law_596 rfl rfl ?_
  refine x_aload_n 0 dL_law_597 rfl rfl ?_
  refine x_iload 4 dL_law_598 rfl ?_
  refine x_iconst 1 (by decide) dL_law_600 ?_
  refine x_iadd dL_law_601 ?_
  refine x_sld_r dL_law_602 hF (fun v1 hF => ?_)
  refine x_aload_n 3 dL_law_603 rfl rfl ?_
  obtain ⟨z2, hzz2, hF⟩ := x_bind hF
  refine x_callsH (As := [.ref x, .int v1, .ref o]) (rest := []) (rc + 7) (rs + 291) dL_law_604 mi_L_erase rfl ml_L_162 rfl rfl (Nat.le_of_ble_eq_true rfl) ⟨by decide, by decide⟩ (by omega) (by omega) (c_L_erase N _ _ _ _ _ hzz2) (fun n9 => ?_)
  refine x_istore (i := 5) (lv' := [(5, .int z2.1), (0, .ref b), (1, .ref x), (2, .ref m), (3, .ref o), (4, .int i)]) dL_law_607 (by decide) rfl ?_
  refine x_aload_n 3 dL_law_609 rfl rfl ?_
  refine x_aload_n 1 dL_law_610 rfl rfl ?_
  refine x_iload 5 dL_law_611 rfl ?_
  refine x_iconst 1 (by decide) dL_law_613 ?_
  refine x_iadd dL_law_614 ?_
  refine x_sld_r dL_law_615 hF (fun v3 hF => ?_)
  obtain ⟨z4, hzz4, hF⟩ := x_bind hF
  obtain ⟨⟨fsz4, hbz4⟩, hzz4⟩ := x_cv_sp hzz4
  refine x_callv (As := [.int v3]) (rest := []) (rc + 7) (rs + 291) dL_law_616 mi_X6_erase ml_L_164 rfl rfl (Nat.le_of_ble_eq_true rfl) ⟨by decide, by decide⟩ (by omega) (by omega) hbz4 rfl (c_X6_erase N _ _ _ _ _ hzz4) (x_K.some ?_) x_KX.none
  refine x_istore (i := 6) (lv' := [(6, .int z4.1), (5, .int z2.1), (0, .ref b), (1, .ref x), (2, .ref m), (3, .ref o), (4, .int i)]) dL_law_619 (by decide) rfl ?_
  refine x_aload_n 4 dL_law_621 rfl rfl ?_
  obtain ⟨z5, hzz5, hF⟩ := x_bind hF
  obtain ⟨⟨fsz5, hbz5⟩, hzz5⟩ := x_cv_sp hzz5
  refine x_callv (As := []) (rest := []) (rc + 7) (rs + 291) dL_law_622 mi_X6_thrown ml_L_142 rfl rfl (Nat.le_of_ble_eq_true rfl) ⟨by decide, by decide⟩ (by omega) (by omega) hbz5 rfl (c_X6_thrown N _ _ _ _ hzz5) (x_K.some ?_) x_KX.none
  refine x_iload 1 dL_law_625 rfl ?_
  refine x_icmp_eq 632 dL_law_627 (by decide) hF (fun hF => ?_) (fun hF => ?_)
  · refine x_iload 1 dL_law_632 rfl ?_
    refine x_if_ne 649 dL_law_634 (by decide) hF (fun hF => ?_) (fun hF => ?_)
    · refine x_goto 2605 dL_law_649 (by decide) ?_
      refine x_iinc (i + 3) (lv' := [(4, .int (i + 3)), (6, .int z4.1), (5, .int z2.1), (0, .ref b), (1, .ref x), (2, .ref m), (3, .ref o)]) dL_law_2605 6 rfl (by rfl) (by decide) rfl ?_
      refine x_goto 23 dL_law_2608 (by decide) ?_
      cases hF
      refine x_sub [3, 4, 5, 6, 0] rfl ?_
      exact x_less (rc' := rc) (rs' := rs) (by omega) (by omega) (hK _)
    · refine x_aload_n 5 dL_law_637 rfl rfl ?_
      refine x_iconst 0 (by decide) dL_law_638 ?_
      refine x_aldl_r dL_law_639 hF (fun v6 hF => ?_)
      refine x_iload 0 dL_law_640 rfl ?_
      refine x_i2l dL_law_642 ?_
      refine x_lcmp dL_law_643 ?_
      refine x_if_eq 649 dL_law_644 (by decide) hF (fun hF => ?_) (fun hF => ?_)
      · refine x_goto 2605 dL_law_649 (by decide) ?_
        refine x_iinc (i + 3) (lv' := [(4, .int (i + 3)), (6, .int z4.1), (5, .int z2.1), (0, .ref b), (1, .ref x), (2, .ref m), (3, .ref o)]) dL_law_2605 6 rfl (by rfl) (by decide) rfl ?_
        refine x_goto 23 dL_law_2608 (by decide) ?_
        cases hF
        refine x_sub [3, 4, 5, 6, 0] rfl ?_
        exact x_less (rc' := rc) (rs' := rs) (by omega) (by omega) (hK _)
      · refine x_iconst 0 (by decide) dL_law_647 ?_
        cases hF
  · refine x_iconst 0 (by decide) dL_law_630 ?_
    cases hF
def F_law_7 (N L : Nat) (xs : Nat → Int32) (x m o : Nat) (i : Int32) (h : XH) : Option XM :=
  (x_sld L xs (i + 1)).bind fun v1 =>
  (F_L_changeLeaf N (h.1, h.2) x v1 o).bind fun z2 =>
  (x_sld L xs (i + 1)).bind fun v3 =>
  (x_cv z2.2 6 m (F_X6_changeLeaf N z2.2 m v3)).bind fun z4 =>
  (x_cv z4.2 6 m (F_X6_thrown N z4.2 m)).bind fun z5 =>
  if z5 = z2.1 then
    if z2.1 = 0 then
      (x_aldl z4.2 o 0).bind fun v6 =>
      if (lg_cmp v6 ((z4.1 : Int32).toInt64)) = 0 then
        some z4.2
      else
        none
    else
      some z4.2
  else
    none
set_option maxRecDepth 20000 in
set_option maxHeartbeats 4000000 in
theorem w_law_7 (N : Nat) {b L : Nat} {xs : Nat → Int32} (x m o : Nat) (i : Int32) (h : XH) {rc rs : Nat} (r : XM) (hF : F_law_7 N L xs x m o i h = some r) (hK : ∀ n : Nat, X mL_law 11 398 x_lz (x_RO b L xs) rc rs 23 [(0, .ref b), (1, .ref x), (2, .ref m), (3, .ref o), (4, .int (i + 3))] [] (r, n)) : X mL_law 11 398 x_lz (x_RO b L xs) (rc + 40) (rs + 2200) 652 [(0, .ref b), (1, .ref x), (2, .ref m), (3, .ref o), (4, .int i)] [] h := by
  unfold F_law_7 at hF
  refine x_aload_n 1 dL_law_652 rfl rfl ?_
  refine x_aload_n 0 dL_law_653 rfl rfl ?_
  refine x_iload 4 dL_law_654 rfl ?_
  refine x_iconst 1 (by decide) dL_law_656 ?_
  refine x_iadd dL_law_657 ?_
  refine x_sld_r dL_law_658 hF (fun v1 hF => ?_)
  refine x_aload_n 3 dL_law_659 rfl rfl ?_
  obtain ⟨z2, hzz2, hF⟩ := x_bind hF
  refine x_callsH (As := [.ref x, .int v1, .ref o]) (rest := []) (rc + 8) (rs + 297) dL_law_660 mi_L_changeLeaf rfl ml_L_165 rfl rfl (Nat.le_of_ble_eq_true rfl) ⟨by decide, by decide⟩ (by omega) (by omega) (c_L_changeLeaf N _ _ _ _ _ hzz2) (fun n9 => ?_)
  refine x_istore (i := 5) (lv' := [(5, .int z2.1), (0, .ref b), (1, .ref x), (2, .ref m), (3, .ref o), (4, .int i)]) dL_law_663 (by decide) rfl ?_
  refine x_aload_n 3 dL_law_665 rfl rfl ?_
  refine x_aload_n 1 dL_law_666 rfl rfl ?_
  refine x_iload 5 dL_law_667 rfl ?_
  refine x_iconst 1 (by decide) dL_law_669 ?_
  refine x_iadd dL_law_670 ?_
  refine x_sld_r dL_law_671 hF (fun v3 hF => ?_)
  obtain ⟨z4, hzz4, hF⟩ := x_bind hF
  obtain ⟨⟨fsz4, hbz4⟩, hzz4⟩ := x_cv_sp hzz4
  refine x_callv (As := [.int v3]) (rest := []) (rc + 8) (rs + 297) dL_law_672 mi_X6_changeLeaf ml_L_167 rfl rfl (Nat.le_of_ble_eq_true rfl) ⟨by decide, by decide⟩ (by omega) (by omega) hbz4 rfl (c_X6_changeLeaf N _ _ _ _ _ hzz4) (x_K.some ?_) x_KX.none
  refine x_istore (i := 6) (lv' := [(6, .int z4.1), (5, .int z2.1), (0, .ref b), (1, .ref x), (2, .ref m), (3, .ref o), (4, .int i)]) dL_law_675 (by decide) rfl ?_
  refine x_aload_n 4 dL_law_677 rfl rfl ?_
  obtain ⟨z5, hzz5, hF⟩ := x_bind hF
  obtain ⟨⟨fsz5, hbz5⟩, hzz5⟩ := x_cv_sp hzz5
  refine x_callv (As := []) (rest := []) (rc + 8) (rs + 297) dL_law_678 mi_X6_thrown ml_L_142 rfl rfl (Nat.le_of_ble_eq_true rfl) ⟨by decide, by decide⟩ (by omega) (by omega) hbz5 rfl (c_X6_thrown N _ _ _ _ hzz5) (x_K.some ?_) x_KX.none
  refine x_iload 1 dL_law_681 rfl ?_
  refine x_icmp_eq 688 dL_law_683 (by decide) hF (fun hF => ?_) (fun hF => ?_)
  · refine x_iload 1 dL_law_688 rfl ?_
    refine x_if_ne 705 dL_law_690 (by decide) hF (fun hF => ?_) (fun hF => ?_)
    · refine x_goto 2605 dL_law_705 (by decide) ?_
      refine x_iinc (i + 3) (lv' := [(4, .int (i + 3)), (6, .int z4.1), (5, .int z2.1), (0, .ref b), (1, .ref x), (2, .ref m), (3, .ref o)]) dL_law_2605 6 rfl (by rfl) (by decide) rfl ?_
      refine x_goto 23 dL_law_2608 (by decide) ?_
      cases hF
      refine x_sub [3, 4, 5, 6, 0] rfl ?_
      exact x_less (rc' := rc) (rs' := rs) (by omega) (by omega) (hK _)
    · refine x_aload_n 5 dL_law_693 rfl rfl ?_
      refine x_iconst 0 (by decide) dL_law_694 ?_
      refine x_aldl_r dL_law_695 hF (fun v6 hF => ?_)
      refine x_iload 0 dL_law_696 rfl ?_
      refine x_i2l dL_law_698 ?_
      refine x_lcmp dL_law_699 ?_
      refine x_if_eq 705 dL_law_700 (by decide) hF (fun hF => ?_) (fun hF => ?_)
      · refine x_goto 2605 dL_law_705 (by decide) ?_
        refine x_iinc (i + 3) (lv' := [(4, .int (i + 3)), (6, .int z4.1), (5, .int z2.1), (0, .ref b), (1, .ref x), (2, .ref m), (3, .ref o)]) dL_law_2605 6 rfl (by rfl) (by decide) rfl ?_
        refine x_goto 23 dL_law_2608 (by decide) ?_
        cases hF
        refine x_sub [3, 4, 5, 6, 0] rfl ?_
        exact x_less (rc' := rc) (rs' := rs) (by omega) (by omega) (hK _)
      · refine x_iconst 0 (by decide) dL_law_703 ?_
        cases hF
  · refine x_iconst 0 (by decide) dL_law_686 ?_
    cases hF
def F_law_8 (N L : Nat) (xs : Nat → Int32) (x m o : Nat) (i : Int32) (h : XH) : Option XM :=
  (x_sld L xs (i + 1)).bind fun v1 =>
  (F_L_changeFan N (h.1, h.2) x v1 o).bind fun z2 =>
  (x_sld L xs (i + 1)).bind fun v3 =>
  (x_cv z2.2 6 m (F_X6_changeFan N z2.2 m v3)).bind fun z4 =>
  (x_cv z4.2 6 m (F_X6_thrown N z4.2 m)).bind fun z5 =>
  if z5 = z2.1 then
    if z2.1 = 0 then
      (x_aldl z4.2 o 0).bind fun v6 =>
      if (lg_cmp v6 ((z4.1 : Int32).toInt64)) = 0 then
        some z4.2
      else
        none
    else
      some z4.2
  else
    none
set_option maxRecDepth 20000 in
set_option maxHeartbeats 4000000 in
theorem w_law_8 (N : Nat) {b L : Nat} {xs : Nat → Int32} (x m o : Nat) (i : Int32) (h : XH) {rc rs : Nat} (r : XM) (hF : F_law_8 N L xs x m o i h = some r) (hK : ∀ n : Nat, X mL_law 11 398 x_lz (x_RO b L xs) rc rs 23 [(0, .ref b), (1, .ref x), (2, .ref m), (3, .ref o), (4, .int (i + 3))] [] (r, n)) : X mL_law 11 398 x_lz (x_RO b L xs) (rc + 40) (rs + 2200) 708 [(0, .ref b), (1, .ref x), (2, .ref m), (3, .ref o), (4, .int i)] [] h := by
  unfold F_law_8 at hF
  refine x_aload_n 1 dL_law_708 rfl rfl ?_
  refine x_aload_n 0 dL_law_709 rfl rfl ?_
  refine x_iload 4 dL_law_710 rfl ?_
  refine x_iconst 1 (by decide) dL_law_712 ?_
  refine x_iadd dL_law_713 ?_
  refine x_sld_r dL_law_714 hF (fun v1 hF => ?_)
  refine x_aload_n 3 dL_law_715 rfl rfl ?_
  obtain ⟨z2, hzz2, hF⟩ := x_bind hF
  refine x_callsH (As := [.ref x, .int v1, .ref o]) (rest := []) (rc + 8) (rs + 297) dL_law_716 mi_L_changeFan rfl ml_L_168 rfl rfl (Nat.le_of_ble_eq_true rfl) ⟨by decide, by decide⟩ (by omega) (by omega) (c_L_changeFan N _ _ _ _ _ hzz2) (fun n9 => ?_)
  refine x_istore (i := 5) (lv' := [(5, .int z2.1), (0, .ref b), (1, .ref x), (2, .ref m), (3, .ref o), (4, .int i)]) dL_law_719 (by decide) rfl ?_
  refine x_aload_n 3 dL_law_721 rfl rfl ?_
  refine x_aload_n 1 dL_law_722 rfl rfl ?_
  refine x_iload 5 dL_law_723 rfl ?_
  refine x_iconst 1 (by decide) dL_law_725 ?_
  refine x_iadd dL_law_726 ?_
  refine x_sld_r dL_law_727 hF (fun v3 hF => ?_)
  obtain ⟨z4, hzz4, hF⟩ := x_bind hF
  obtain ⟨⟨fsz4, hbz4⟩, hzz4⟩ := x_cv_sp hzz4
  refine x_callv (As := [.int v3]) (rest := []) (rc + 8) (rs + 297) dL_law_728 mi_X6_changeFan ml_L_170 rfl rfl (Nat.le_of_ble_eq_true rfl) ⟨by decide, by decide⟩ (by omega) (by omega) hbz4 rfl (c_X6_changeFan N _ _ _ _ _ hzz4) (x_K.some ?_) x_KX.none
  refine x_istore (i := 6) (lv' := [(6, .int z4.1), (5, .int z2.1), (0, .ref b), (1, .ref x), (2, .ref m), (3, .ref o), (4, .int i)]) dL_law_731 (by decide) rfl ?_
  refine x_aload_n 4 dL_law_733 rfl rfl ?_
  obtain ⟨z5, hzz5, hF⟩ := x_bind hF
  obtain ⟨⟨fsz5, hbz5⟩, hzz5⟩ := x_cv_sp hzz5
  refine x_callv (As := []) (rest := []) (rc + 8) (rs + 297) dL_law_734 mi_X6_thrown ml_L_142 rfl rfl (Nat.le_of_ble_eq_true rfl) ⟨by decide, by decide⟩ (by omega) (by omega) hbz5 rfl (c_X6_thrown N _ _ _ _ hzz5) (x_K.some ?_) x_KX.none
  refine x_iload 1 dL_law_737 rfl ?_
  refine x_icmp_eq 744 dL_law_739 (by decide) hF (fun hF => ?_) (fun hF => ?_)
  · refine x_iload 1 dL_law_744 rfl ?_
    refine x_if_ne 761 dL_law_746 (by decide) hF (fun hF => ?_) (fun hF => ?_)
    · refine x_goto 2605 dL_law_761 (by decide) ?_
      refine x_iinc (i + 3) (lv' := [(4, .int (i + 3)), (6, .int z4.1), (5, .int z2.1), (0, .ref b), (1, .ref x), (2, .ref m), (3, .ref o)]) dL_law_2605 6 rfl (by rfl) (by decide) rfl ?_
      refine x_goto 23 dL_law_2608 (by decide) ?_
      cases hF
      refine x_sub [3, 4, 5, 6, 0] rfl ?_
      exact x_less (rc' := rc) (rs' := rs) (by omega) (by omega) (hK _)
    · refine x_aload_n 5 dL_law_749 rfl rfl ?_
      refine x_iconst 0 (by decide) dL_law_750 ?_
      refine x_aldl_r dL_law_751 hF (fun v6 hF => ?_)
      refine x_iload 0 dL_law_752 rfl ?_
      refine x_i2l dL_law_754 ?_
      refine x_lcmp dL_law_755 ?_
      refine x_if_eq 761 dL_law_756 (by decide) hF (fun hF => ?_) (fun hF => ?_)
      · refine x_goto 2605 dL_law_761 (by decide) ?_
        refine x_iinc (i + 3) (lv' := [(4, .int (i + 3)), (6, .int z4.1), (5, .int z2.1), (0, .ref b), (1, .ref x), (2, .ref m), (3, .ref o)]) dL_law_2605 6 rfl (by rfl) (by decide) rfl ?_
        refine x_goto 23 dL_law_2608 (by decide) ?_
        cases hF
        refine x_sub [3, 4, 5, 6, 0] rfl ?_
        exact x_less (rc' := rc) (rs' := rs) (by omega) (by omega) (hK _)
      · refine x_iconst 0 (by decide) dL_law_759 ?_
        cases hF
  · refine x_iconst 0 (by decide) dL_law_742 ?_
    cases hF
def F_law_9 (N L : Nat) (xs : Nat → Int32) (x m o : Nat) (i : Int32) (h : XH) : Option XM :=
  (x_sld L xs (i + 1)).bind fun v1 =>
  (F_L_append N (h.1, h.2) x v1 o).bind fun z2 =>
  (x_sld L xs (i + 1)).bind fun v3 =>
  (x_cv z2.2 6 m (F_X6_append N z2.2 m v3)).bind fun z4 =>
  (x_cv z4.2 6 m (F_X6_thrown N z4.2 m)).bind fun z5 =>
  if z5 = z2.1 then
    if z2.1 = 0 then
      (x_aldl z4.2 o 0).bind fun v6 =>
      if (lg_cmp v6 ((z4.1 : Int32).toInt64)) = 0 then
        some z4.2
      else
        none
    else
      some z4.2
  else
    none
set_option maxRecDepth 20000 in
set_option maxHeartbeats 4000000 in
theorem w_law_9 (N : Nat) {b L : Nat} {xs : Nat → Int32} (x m o : Nat) (i : Int32) (h : XH) {rc rs : Nat} (r : XM) (hF : F_law_9 N L xs x m o i h = some r) (hK : ∀ n : Nat, X mL_law 11 398 x_lz (x_RO b L xs) rc rs 23 [(0, .ref b), (1, .ref x), (2, .ref m), (3, .ref o), (4, .int (i + 3))] [] (r, n)) : X mL_law 11 398 x_lz (x_RO b L xs) (rc + 40) (rs + 2200) 764 [(0, .ref b), (1, .ref x), (2, .ref m), (3, .ref o), (4, .int i)] [] h := by
  unfold F_law_9 at hF
  refine x_aload_n 1 dL_law_764 rfl rfl ?_
  refine x_aload_n 0 dL_law_765 rfl rfl ?_
  refine x_iload 4 dL_law_766 rfl ?_
  refine x_iconst 1 (by decide) dL_law_768 ?_
  refine x_iadd dL_law_769 ?_
  refine x_sld_r dL_law_770 hF (fun v1 hF => ?_)
  refine x_aload_n 3 dL_law_771 rfl rfl ?_
  obtain ⟨z2, hzz2, hF⟩ := x_bind hF
  refine x_callsH (As := [.ref x, .int v1, .ref o]) (rest := []) (rc + 39) (rs + 2194) dL_law_772 mi_L_append rfl ml_L_171 rfl rfl (Nat.le_of_ble_eq_true rfl) ⟨by decide, by decide⟩ (by omega) (by omega) (c_L_append N _ _ _ _ _ hzz2) (fun n9 => ?_)
  refine x_istore (i := 5) (lv' := [(5, .int z2.1), (0, .ref b), (1, .ref x), (2, .ref m), (3, .ref o), (4, .int i)]) dL_law_775 (by decide) rfl ?_
  refine x_aload_n 3 dL_law_777 rfl rfl ?_
  refine x_aload_n 1 dL_law_778 rfl rfl ?_
  refine x_iload 5 dL_law_779 rfl ?_
  refine x_iconst 1 (by decide) dL_law_781 ?_
  refine x_iadd dL_law_782 ?_
  refine x_sld_r dL_law_783 hF (fun v3 hF => ?_)
  obtain ⟨z4, hzz4, hF⟩ := x_bind hF
  obtain ⟨⟨fsz4, hbz4⟩, hzz4⟩ := x_cv_sp hzz4
  refine x_callv (As := [.int v3]) (rest := []) (rc + 39) (rs + 2194) dL_law_784 mi_X6_append ml_L_173 rfl rfl (Nat.le_of_ble_eq_true rfl) ⟨by decide, by decide⟩ (by omega) (by omega) hbz4 rfl (c_X6_append N _ _ _ _ _ hzz4) (x_K.some ?_) x_KX.none
  refine x_istore (i := 6) (lv' := [(6, .int z4.1), (5, .int z2.1), (0, .ref b), (1, .ref x), (2, .ref m), (3, .ref o), (4, .int i)]) dL_law_787 (by decide) rfl ?_
  refine x_aload_n 4 dL_law_789 rfl rfl ?_
  obtain ⟨z5, hzz5, hF⟩ := x_bind hF
  obtain ⟨⟨fsz5, hbz5⟩, hzz5⟩ := x_cv_sp hzz5
  refine x_callv (As := []) (rest := []) (rc + 39) (rs + 2194) dL_law_790 mi_X6_thrown ml_L_142 rfl rfl (Nat.le_of_ble_eq_true rfl) ⟨by decide, by decide⟩ (by omega) (by omega) hbz5 rfl (c_X6_thrown N _ _ _ _ hzz5) (x_K.some ?_) x_KX.none
  refine x_iload 1 dL_law_793 rfl ?_
  refine x_icmp_eq 800 dL_law_795 (by decide) hF (fun hF => ?_) (fun hF => ?_)
  · refine x_iload 1 dL_law_800 rfl ?_
    refine x_if_ne 817 dL_law_802 (by decide) hF (fun hF => ?_) (fun hF => ?_)
    · refine x_goto 2605 dL_law_817 (by decide) ?_
      refine x_iinc (i + 3) (lv' := [(4, .int (i + 3)), (6, .int z4.1), (5, .int z2.1), (0, .ref b), (1, .ref x), (2, .ref m), (3, .ref o)]) dL_law_2605 6 rfl (by rfl) (by decide) rfl ?_
      refine x_goto 23 dL_law_2608 (by decide) ?_
      cases hF
      refine x_sub [3, 4, 5, 6, 0] rfl ?_
      exact x_less (rc' := rc) (rs' := rs) (by omega) (by omega) (hK _)
    · refine x_aload_n 5 dL_law_805 rfl rfl ?_
      refine x_iconst 0 (by decide) dL_law_806 ?_
      refine x_aldl_r dL_law_807 hF (fun v6 hF => ?_)
      refine x_iload 0 dL_law_808 rfl ?_
      refine x_i2l dL_law_810 ?_
      refine x_lcmp dL_law_811 ?_
      refine x_if_eq 817 dL_law_812 (by decide) hF (fun hF => ?_) (fun hF => ?_)
      · refine x_goto 2605 dL_law_817 (by decide) ?_
        refine x_iinc (i + 3) (lv' := [(4, .int (i + 3)), (6, .int z4.1), (5, .int z2.1), (0, .ref b), (1, .ref x), (2, .ref m), (3, .ref o)]) dL_law_2605 6 rfl (by rfl) (by decide) rfl ?_
        refine x_goto 23 dL_law_2608 (by decide) ?_
        cases hF
        refine x_sub [3, 4, 5, 6, 0] rfl ?_
        exact x_less (rc' := rc) (rs' := rs) (by omega) (by omega) (hK _)
      · refine x_iconst 0 (by decide) dL_law_815 ?_
        cases hF
  · refine x_iconst 0 (by decide) dL_law_798 ?_
    cases hF
def F_law_10 (N L : Nat) (xs : Nat → Int32) (x m o : Nat) (i : Int32) (h : XH) : Option XM :=
  (x_cv h.1 5 x (F_X5_clearBuffer N h.1 x)).bind fun z1 =>
  (x_cv z1.2 6 m (F_X6_clearBuffer N z1.2 m)).bind fun z2 =>
  if z1.1 = z2.1 then
    some z2.2
  else
    none
set_option maxRecDepth 20000 in
set_option maxHeartbeats 4000000 in
theorem w_law_10 (N : Nat) {b L : Nat} {xs : Nat → Int32} (x m o : Nat) (i : Int32) (h : XH) {rc rs : Nat} (r : XM) (hF : F_law_10 N L xs x m o i h = some r) (hK : ∀ n : Nat, X mL_law 11 398 x_lz (x_RO b L xs) rc rs 23 [(0, .ref b), (1, .ref x), (2, .ref m), (3, .ref o), (4, .int (i + 3))] [] (r, n)) : X mL_law 11 398 x_lz (x_RO b L xs) (rc + 40) (rs + 2200) 820 [(0, .ref b), (1, .ref x), (2, .ref m), (3, .ref o), (4, .int i)] [] h := by
  unfold F_law_10 at hF
  refine x_aload_n 1 dL_law_820 rfl rfl ?_
  obtain ⟨z1, hzz1, hF⟩ := x_bind hF
  obtain ⟨⟨fsz1, hbz1⟩, hzz1⟩ := x_cv_sp hzz1
  refine x_callv (As := []) (rest := []) (rc + 40) (rs + 2200) dL_law_821 mi_X5_clearBuffer ml_L_174 rfl rfl (Nat.le_of_ble_eq_true rfl) ⟨by decide, by decide⟩ (by omega) (by omega) hbz1 rfl (c_X5_clearBuffer N _ _ _ _ hzz1) (x_K.some ?_) x_KX.none
  refine x_aload_n 2 dL_law_824 rfl rfl ?_
  obtain ⟨z2, hzz2, hF⟩ := x_bind hF
  obtain ⟨⟨fsz2, hbz2⟩, hzz2⟩ := x_cv_sp hzz2
  refine x_callv (As := []) (rest := [.int z1.1]) (rc + 40) (rs + 2200) dL_law_825 mi_X6_clearBuffer ml_L_177 rfl rfl (Nat.le_of_ble_eq_true rfl) ⟨by decide, by decide⟩ (by omega) (by omega) hbz2 rfl (c_X6_clearBuffer N _ _ _ _ hzz2) (x_K.some ?_) x_KX.none
  refine x_icmp_eq 2605 dL_law_828 (by decide) hF (fun hF => ?_) (fun hF => ?_)
  · refine x_iinc (i + 3) (lv' := [(4, .int (i + 3)), (0, .ref b), (1, .ref x), (2, .ref m), (3, .ref o)]) dL_law_2605 4 rfl (by rfl) (by decide) rfl ?_
    refine x_goto 23 dL_law_2608 (by decide) ?_
    cases hF
    refine x_sub [1, 2, 3, 4, 0] rfl ?_
    exact x_less (rc' := rc) (rs' := rs) (by omega) (by omega) (hK _)
  · refine x_iconst 0 (by decide) dL_law_831 ?_
    cases hF
def F_law_11 (N L : Nat) (xs : Nat → Int32) (x m o : Nat) (i : Int32) (h : XH) : Option XM :=
  (x_cv h.1 5 x (F_X5_firstError N h.1 x)).bind fun z1 =>
  (x_cv z1.2 6 m (F_X6_firstError N z1.2 m)).bind fun z2 =>
  if z1.1 = z2.1 then
    some z2.2
  else
    none
set_option maxRecDepth 20000 in
set_option maxHeartbeats 4000000 in
theorem w_law_11 (N : Nat) {b L : Nat} {xs : Nat → Int32} (x m o : Nat) (i : Int32) (h : XH) {rc rs : Nat} (r : XM) (hF : F_law_11 N L xs x m o i h = some r) (hK : ∀ n : Nat, X mL_law 11 398 x_lz (x_RO b L xs) rc rs 23 [(0, .ref b), (1, .ref x), (2, .ref m), (3, .ref o), (4, .int (i + 3))] [] (r, n)) : X mL_law 11 398 x_lz (x_RO b L xs) (rc + 40) (rs + 2200) 833 [(0, .ref b), (1, .ref x), (2, .ref m), (3, .ref o), (4, .int i)] [] h := by
  unfold F_law_11 at hF
  refine x_aload_n 1 dL_law_833 rfl rfl ?_
  obtain ⟨z1, hzz1, hF⟩ := x_bind hF
  obtain ⟨⟨fsz1, hbz1⟩, hzz1⟩ := x_cv_sp hzz1
  refine x_callv (As := []) (rest := []) (rc + 40) (rs + 2200) dL_law_834 mi_X5_firstError ml_L_178 rfl rfl (Nat.le_of_ble_eq_true rfl) ⟨by decide, by decide⟩ (by omega) (by omega) hbz1 rfl (c_X5_firstError N _ _ _ _ hzz1) (x_K.some ?_) x_KX.none
  refine x_aload_n 2 dL_law_837 rfl rfl ?_
  obtain ⟨z2, hzz2, hF⟩ := x_bind hF
  obtain ⟨⟨fsz2, hbz2⟩, hzz2⟩ := x_cv_sp hzz2
  refine x_callv (As := []) (rest := [.int z1.1]) (rc + 40) (rs + 2200) dL_law_838 mi_X6_firstError ml_L_181 rfl rfl (Nat.le_of_ble_eq_true rfl) ⟨by decide, by decide⟩ (by omega) (by omega) hbz2 rfl (c_X6_firstError N _ _ _ _ hzz2) (x_K.some ?_) x_KX.none
  refine x_icmp_eq 2605 dL_law_841 (by decide) hF (fun hF => ?_) (fun hF => ?_)
  · refine x_iinc (i + 3) (lv' := [(4, .int (i + 3)), (0, .ref b), (1, .ref x), (2, .ref m), (3, .ref o)]) dL_law_2605 4 rfl (by rfl) (by decide) rfl ?_
    refine x_goto 23 dL_law_2608 (by decide) ?_
    cases hF
    refine x_sub [1, 2, 3, 4, 0] rfl ?_
    exact x_less (rc' := rc) (rs' := rs) (by omega) (by omega) (hK _)
  · refine x_iconst 0 (by decide) dL_law_844 ?_
    cases hF
def F_law_12 (N L : Nat) (xs : Nat → Int32) (x m o : Nat) (i : Int32) (h : XH) : Option XM :=
  (F_L_follow N (h.1, h.2) x o).bind fun z1 =>
  (x_cv z1.2 6 m (F_X6_follow N z1.2 m)).bind fun z2 =>
  (x_cv z2.2 6 m (F_X6_thrown N z2.2 m)).bind fun z3 =>
  if z3 = z1.1 then
    if z1.1 = 0 then
      (x_aldl z2.2 o 0).bind fun v4 =>
      if (lg_cmp v4 ((z2.1 : Int32).toInt64)) = 0 then
        some z2.2
      else
        none
    else
      some z2.2
  else
    none
set_option maxRecDepth 20000 in
set_option maxHeartbeats 4000000 in
theorem w_law_12 (N : Nat) {b L : Nat} {xs : Nat → Int32} (x m o : Nat) (i : Int32) (h : XH) {rc rs : Nat} (r : XM) (hF : F_law_12 N L xs x m o i h = some r) (hK : ∀ n : Nat, X mL_law 11 398 x_lz (x_RO b L xs) rc rs 23 [(0, .ref b), (1, .ref x), (2, .ref m), (3, .ref o), (4, .int (i + 3))] [] (r, n)) : X mL_law 11 398 x_lz (x_RO b L xs) (rc + 40) (rs + 2200) 846 [(0, .ref b), (1, .ref x), (2, .ref m), (3, .ref o), (4, .int i)] [] h := by
  unfold F_law_12 at hF
  refine x_aload_n 1 dL_law_846 rfl rfl ?_
  refine x_aload_n 3 dL_law_847 rfl rfl ?_
  obtain ⟨z1, hzz1, hF⟩ := x_bind hF
  refine x_callsH (As := [.ref x, .ref o]) (rest := []) (rc + 8) (rs + 297) dL_law_848 mi_L_follow rfl ml_L_182 rfl rfl (Nat.le_of_ble_eq_true rfl) ⟨by decide, by decide⟩ (by omega) (by omega) (c_L_follow N _ _ _ _ hzz1) (fun n9 => ?_)
  refine x_istore (i := 5) (lv' := [(5, .int z1.1), (0, .ref b), (1, .ref x), (2, .ref m), (3, .ref o), (4, .int i)]) dL_law_851 (by decide) rfl ?_
  refine x_aload_n 3 dL_law_853 rfl rfl ?_
  obtain ⟨z2, hzz2, hF⟩ := x_bind hF
  obtain ⟨⟨fsz2, hbz2⟩, hzz2⟩ := x_cv_sp hzz2
  refine x_callv (As := []) (rest := []) (rc + 8) (rs + 297) dL_law_854 mi_X6_follow ml_L_184 rfl rfl (Nat.le_of_ble_eq_true rfl) ⟨by decide, by decide⟩ (by omega) (by omega) hbz2 rfl (c_X6_follow N _ _ _ _ hzz2) (x_K.some ?_) x_KX.none
  refine x_istore (i := 6) (lv' := [(6, .int z2.1), (5, .int z1.1), (0, .ref b), (1, .ref x), (2, .ref m), (3, .ref o), (4, .int i)]) dL_law_857 (by decide) rfl ?_
  refine x_aload_n 4 dL_law_859 rfl rfl ?_
  obtain ⟨z3, hzz3, hF⟩ := x_bind hF
  obtain ⟨⟨fsz3, hbz3⟩, hzz3⟩ := x_cv_sp hzz3
  refine x_callv (As := []) (rest := []) (rc + 8) (rs + 297) dL_law_860 mi_X6_thrown ml_L_142 rfl rfl (Nat.le_of_ble_eq_true rfl) ⟨by decide, by decide⟩ (by omega) (by omega) hbz3 rfl (c_X6_thrown N _ _ _ _ hzz3) (x_K.some ?_) x_KX.none
  refine x_iload 1 dL_law_863 rfl ?_
  refine x_icmp_eq 870 dL_law_865 (by decide) hF (fun hF => ?_) (fun hF => ?_)
  · refine x_iload 1 dL_law_870 rfl ?_
    refine x_if_ne 887 dL_law_872 (by decide) hF (fun hF => ?_) (fun hF => ?_)
    · refine x_goto 2605 dL_law_887 (by decide) ?_
      refine x_iinc (i + 3) (lv' := [(4, .int (i + 3)), (6, .int z2.1), (5, .int z1.1), (0, .ref b), (1, .ref x), (2, .ref m), (3, .ref o)]) dL_law_2605 6 rfl (by rfl) (by decide) rfl ?_
      refine x_goto 23 dL_law_2608 (by decide) ?_
      cases hF
      refine x_sub [3, 4, 5, 6, 0] rfl ?_
      exact x_less (rc' := rc) (rs' := rs) (by omega) (by omega) (hK _)
    · refine x_aload_n 5 dL_law_875 rfl rfl ?_
      refine x_iconst 0 (by decide) dL_law_876 ?_
      refine x_aldl_r dL_law_877 hF (fun v4 hF => ?_)
      refine x_iload 0 dL_law_878 rfl ?_
      refine x_i2l dL_law_880 ?_
      refine x_lcmp dL_law_881 ?_
      refine x_if_eq 887 dL_law_882 (by decide) hF (fun hF => ?_) (fun hF => ?_)
      · refine x_goto 2605 dL_law_887 (by decide) ?_
        refine x_iinc (i + 3) (lv' := [(4, .int (i + 3)), (6, .int z2.1), (5, .int z1.1), (0, .ref b), (1, .ref x), (2, .ref m), (3, .ref o)]) dL_law_2605 6 rfl (by rfl) (by decide) rfl ?_
        refine x_goto 23 dL_law_2608 (by decide) ?_
        cases hF
        refine x_sub [3, 4, 5, 6, 0] rfl ?_
        exact x_less (rc' := rc) (rs' := rs) (by omega) (by omega) (hK _)
      · refine x_iconst 0 (by decide) dL_law_885 ?_
        cases hF
  · refine x_iconst 0 (by decide) dL_law_868 ?_
    cases hF
def F_law_13 (N L : Nat) (xs : Nat → Int32) (x m o : Nat) (i : Int32) (h : XH) : Option XM :=
  (x_sld L xs (i + 1)).bind fun v1 =>
  (F_L_keep N (h.1, h.2) x v1).bind fun z2 =>
  (x_sld L xs (i + 1)).bind fun v3 =>
  (x_cv z2.2 6 m (F_X6_keep N z2.2 m v3)).bind fun z4 =>
  (x_cv z4 6 m (F_X6_thrown N z4 m)).bind fun z5 =>
  if z5 = z2.1 then
    some z4
  else
    none
set_option maxRecDepth 20000 in
set_option maxHeartbeats 4000000 in
theorem w_law_13 (N : Nat) {b L : Nat} {xs : Nat → Int32} (x m o : Nat) (i : Int32) (h : XH) {rc rs : Nat} (r : XM) (hF : F_law_13 N L xs x m o i h = some r) (hK : ∀ n : Nat, X mL_law 11 398 x_lz (x_RO b L xs) rc rs 23 [(0, .ref b), (1, .ref x), (2, .ref m), (3, .ref o), (4, .int (i + 3))] [] (r, n)) : X mL_law 11 398 x_lz (x_RO b L xs) (rc + 40) (rs + 2200) 890 [(0, .ref b), (1, .ref x), (2, .ref m), (3, .ref o), (4, .int i)] [] h := by
  unfold F_law_13 at hF
  refine x_aload_n 1 dL_law_890 rfl rfl ?_
  refine x_aload_n 0 dL_law_891 rfl rfl ?_
  refine x_iload 4 dL_law_892 rfl ?_
  refine x_iconst 1 (by decide) dL_law_894 ?_
  refine x_iadd dL_law_895 ?_
  refine x_sld_r dL_law_896 hF (fun v1 hF => ?_)
  obtain ⟨z2, hzz2, hF⟩ := x_bind hF
  refine x_callsH (As := [.ref x, .int v1]) (rest := []) (rc + 7) (rs + 291) dL_law_897 mi_L_keep rfl ml_L_185 rfl rfl (Nat.le_of_ble_eq_true rfl) ⟨by decide, by decide⟩ (by omega) (by omega) (c_L_keep N _ _ _ _ hzz2) (fun n9 => ?_)
  refine x_istore (i := 5) (lv' := [(5, .int z2.1), (0, .ref b), (1, .ref x), (2, .ref m), (3, .ref o), (4, .int i)]) dL_law_900 (by decide) rfl ?_
  refine x_aload_n 3 dL_law_902 rfl rfl ?_
  refine x_aload_n 1 dL_law_903 rfl rfl ?_
  refine x_iload 5 dL_law_904 rfl ?_
  refine x_iconst 1 (by decide) dL_law_906 ?_
  refine x_iadd dL_law_907 ?_
  refine x_sld_r dL_law_908 hF (fun v3 hF => ?_)
  obtain ⟨z4, hzz4, hF⟩ := x_bind hF
  obtain ⟨⟨fsz4, hbz4⟩, hzz4⟩ := x_cv_sp hzz4
  refine x_callv (As := [.int v3]) (rest := []) (rc + 7) (rs + 291) dL_law_909 mi_X6_keep ml_L_188 rfl rfl (Nat.le_of_ble_eq_true rfl) ⟨by decide, by decide⟩ (by omega) (by omega) hbz4 rfl (c_X6_keep N _ _ _ _ _ hzz4) (x_K.none ?_) x_KX.none
  refine x_aload_n 3 dL_law_912 rfl rfl ?_
  obtain ⟨z5, hzz5, hF⟩ := x_bind hF
  obtain ⟨⟨fsz5, hbz5⟩, hzz5⟩ := x_cv_sp hzz5
  refine x_callv (As := []) (rest := []) (rc + 7) (rs + 291) dL_law_913 mi_X6_thrown ml_L_142 rfl rfl (Nat.le_of_ble_eq_true rfl) ⟨by decide, by decide⟩ (by omega) (by omega) hbz5 rfl (c_X6_thrown N _ _ _ _ hzz5) (x_K.some ?_) x_KX.none
  refine x_iload 0 dL_law_916 rfl ?_
  refine x_icmp_eq 923 dL_law_918 (by decide) hF (fun hF => ?_) (fun hF => ?_)
  · refine x_goto 2605 dL_law_923 (by decide) ?_
    refine x_iinc (i + 3) (lv' := [(4, .int (i + 3)), (5, .int z2.1), (0, .ref b), (1, .ref x), (2, .ref m), (3, .ref o)]) dL_law_2605 5 rfl (by rfl) (by decide) rfl ?_
    refine x_goto 23 dL_law_2608 (by decide) ?_
    cases hF
    refine x_sub [2, 3, 4, 5, 0] rfl ?_
    exact x_less (rc' := rc) (rs' := rs) (by omega) (by omega) (hK _)
  · refine x_iconst 0 (by decide) dL_law_921 ?_
    cases hF
def F_law_14 (N L : Nat) (xs : Nat → Int32) (x m o : Nat) (i : Int32) (h : XH) : Option XM :=
  (x_sld L xs (i + 1)).bind fun v1 =>
  (F_L_goBack N (h.1, h.2) x v1).bind fun z2 =>
  (x_sld L xs (i + 1)).bind fun v3 =>
  (x_cv z2.2 6 m (F_X6_goBack N z2.2 m v3)).bind fun z4 =>
  (x_cv z4 6 m (F_X6_thrown N z4 m)).bind fun z5 =>
  if z5 = z2.1 then
    some z4
  else
    none
set_option maxRecDepth 20000 in
set_option maxHeartbeats 4000000 in
theorem w_law_14 (N : Nat) {b L : Nat} {xs : Nat → Int32} (x m o : Nat) (i : Int32) (h : XH) {rc rs : Nat} (r : XM) (hF : F_law_14 N L xs x m o i h = some r) (hK : ∀ n : Nat, X mL_law 11 398 x_lz (x_RO b L xs) rc rs 23 [(0, .ref b), (1, .ref x), (2, .ref m), (3, .ref o), (4, .int (i + 3))] [] (r, n)) : X mL_law 11 398 x_lz (x_RO b L xs) (rc + 40) (rs + 2200) 926 [(0, .ref b), (1, .ref x), (2, .ref m), (3, .ref o), (4, .int i)] [] h := by
  unfold F_law_14 at hF
  refine x_aload_n 1 dL_law_926 rfl rfl ?_
  refine x_aload_n 0 dL_law_927 rfl rfl ?_
  refine x_iload 4 dL_law_928 rfl ?_
  refine x_iconst 1 (by decide) dL_law_930 ?_
  refine x_iadd dL_law_931 ?_
  refine x_sld_r dL_law_932 hF (fun v1 hF => ?_)
  obtain ⟨z2, hzz2, hF⟩ := x_bind hF
  refine x_callsH (As := [.ref x, .int v1]) (rest := []) (rc + 7) (rs + 291) dL_law_933 mi_L_goBack rfl ml_L_189 rfl rfl (Nat.le_of_ble_eq_true rfl) ⟨by decide, by decide⟩ (by omega) (by omega) (c_L_goBack N _ _ _ _ hzz2) (fun n9 => ?_)
  refine x_istore (i := 5) (lv' := [(5, .int z2.1), (0, .ref b), (1, .ref x), (2, .ref m), (3, .ref o), (4, .int i)]) dL_law_936 (by decide) rfl ?_
  refine x_aload_n 3 dL_law_938 rfl rfl ?_
  refine x_aload_n 1 dL_law_939 rfl rfl ?_
  refine x_iload 5 dL_law_940 rfl ?_
  refine x_iconst 1 (by decide) dL_law_942 ?_
  refine x_iadd dL_law_943 ?_
  refine x_sld_r dL_law_944 hF (fun v3 hF => ?_)
  obtain ⟨z4, hzz4, hF⟩ := x_bind hF
  obtain ⟨⟨fsz4, hbz4⟩, hzz4⟩ := x_cv_sp hzz4
  refine x_callv (As := [.int v3]) (rest := []) (rc + 7) (rs + 291) dL_law_945 mi_X6_goBack ml_L_191 rfl rfl (Nat.le_of_ble_eq_true rfl) ⟨by decide, by decide⟩ (by omega) (by omega) hbz4 rfl (c_X6_goBack N _ _ _ _ _ hzz4) (x_K.none ?_) x_KX.none
  refine x_aload_n 3 dL_law_948 rfl rfl ?_
  obtain ⟨z5, hzz5, hF⟩ := x_bind hF
  obtain ⟨⟨fsz5, hbz5⟩, hzz5⟩ := x_cv_sp hzz5
  refine x_callv (As := []) (rest := []) (rc + 7) (rs + 291) dL_law_949 mi_X6_thrown ml_L_142 rfl rfl (Nat.le_of_ble_eq_true rfl) ⟨by decide, by decide⟩ (by omega) (by omega) hbz5 rfl (c_X6_thrown N _ _ _ _ hzz5) (x_K.some ?_) x_KX.none
  refine x_iload 0 dL_law_952 rfl ?_
  refine x_icmp_eq 959 dL_law_954 (by decide) hF (fun hF => ?_) (fun hF => ?_)
  · refine x_goto 2605 dL_law_959 (by decide) ?_
    refine x_iinc (i + 3) (lv' := [(4, .int (i + 3)), (5, .int z2.1), (0, .ref b), (1, .ref x), (2, .ref m), (3, .ref o)]) dL_law_2605 5 rfl (by rfl) (by decide) rfl ?_
    refine x_goto 23 dL_law_2608 (by decide) ?_
    cases hF
    refine x_sub [2, 3, 4, 5, 0] rfl ?_
    exact x_less (rc' := rc) (rs' := rs) (by omega) (by omega) (hK _)
  · refine x_iconst 0 (by decide) dL_law_957 ?_
    cases hF
def F_law_15 (N L : Nat) (xs : Nat → Int32) (x m o : Nat) (i : Int32) (h : XH) : Option XM :=
  (F_L_undo N (h.1, h.2) x).bind fun z1 =>
  (x_cv z1.2 6 m (F_X6_undo N z1.2 m)).bind fun z2 =>
  (x_cv z2 6 m (F_X6_thrown N z2 m)).bind fun z3 =>
  if z3 = z1.1 then
    some z2
  else
    none
set_option maxRecDepth 20000 in
set_option maxHeartbeats 4000000 in
theorem w_law_15 (N : Nat) {b L : Nat} {xs : Nat → Int32} (x m o : Nat) (i : Int32) (h : XH) {rc rs : Nat} (r : XM) (hF : F_law_15 N L xs x m o i h = some r) (hK : ∀ n : Nat, X mL_law 11 398 x_lz (x_RO b L xs) rc rs 23 [(0, .ref b), (1, .ref x), (2, .ref m), (3, .ref o), (4, .int (i + 3))] [] (r, n)) : X mL_law 11 398 x_lz (x_RO b L xs) (rc + 40) (rs + 2200) 962 [(0, .ref b), (1, .ref x), (2, .ref m), (3, .ref o), (4, .int i)] [] h := by
  unfold F_law_15 at hF
  refine x_aload_n 1 dL_law_962 rfl rfl ?_
  obtain ⟨z1, hzz1, hF⟩ := x_bind hF
  refine x_callsH (As := [.ref x]) (rest := []) (rc + 39) (rs + 2194) dL_law_963 mi_L_undo rfl ml_L_192 rfl rfl (Nat.le_of_ble_eq_true rfl) ⟨by decide, by decide⟩ (by omega) (by omega) (c_L_undo N _ _ _ hzz1) (fun n9 => ?_)
  refine x_istore (i := 5) (lv' := [(5, .int z1.1), (0, .ref b), (1, .ref x), (2, .ref m), (3, .ref o), (4, .int i)]) dL_law_966 (by decide) rfl ?_
  refine x_aload_n 3 dL_law_968 rfl rfl ?_
  obtain ⟨z2, hzz2, hF⟩ := x_bind hF
  obtain ⟨⟨fsz2, hbz2⟩, hzz2⟩ := x_cv_sp hzz2
  refine x_callv (As := []) (rest := []) (rc + 39) (rs + 2194) dL_law_969 mi_X6_undo ml_L_195 rfl rfl (Nat.le_of_ble_eq_true rfl) ⟨by decide, by decide⟩ (by omega) (by omega) hbz2 rfl (c_X6_undo N _ _ _ _ hzz2) (x_K.none ?_) x_KX.none
  refine x_aload_n 3 dL_law_972 rfl rfl ?_
  obtain ⟨z3, hzz3, hF⟩ := x_bind hF
  obtain ⟨⟨fsz3, hbz3⟩, hzz3⟩ := x_cv_sp hzz3
  refine x_callv (As := []) (rest := []) (rc + 39) (rs + 2194) dL_law_973 mi_X6_thrown ml_L_142 rfl rfl (Nat.le_of_ble_eq_true rfl) ⟨by decide, by decide⟩ (by omega) (by omega) hbz3 rfl (c_X6_thrown N _ _ _ _ hzz3) (x_K.some ?_) x_KX.none
  refine x_iload 0 dL_law_976 rfl ?_
  refine x_icmp_eq 983 dL_law_978 (by decide) hF (fun hF => ?_) (fun hF => ?_)
  · refine x_goto 2605 dL_law_983 (by decide) ?_
    refine x_iinc (i + 3) (lv' := [(4, .int (i + 3)), (5, .int z1.1), (0, .ref b), (1, .ref x), (2, .ref m), (3, .ref o)]) dL_law_2605 5 rfl (by rfl) (by decide) rfl ?_
    refine x_goto 23 dL_law_2608 (by decide) ?_
    cases hF
    refine x_sub [2, 3, 4, 5, 0] rfl ?_
    exact x_less (rc' := rc) (rs' := rs) (by omega) (by omega) (hK _)
  · refine x_iconst 0 (by decide) dL_law_981 ?_
    cases hF
def F_law_16 (N L : Nat) (xs : Nat → Int32) (x m o : Nat) (i : Int32) (h : XH) : Option XM :=
  (x_cv h.1 5 x (F_X5_savedStates N h.1 x)).bind fun z1 =>
  (x_cv h.1 6 m (F_X6_savedStates N h.1 m)).bind fun z2 =>
  if z1 = z2.1 then
    some z2.2
  else
    none
set_option maxRecDepth 20000 in
set_option maxHeartbeats 4000000 in
theorem w_law_16 (N : Nat) {b L : Nat} {xs : Nat → Int32} (x m o : Nat) (i : Int32) (h : XH) {rc rs : Nat} (r : XM) (hF : F_law_16 N L xs x m o i h = some r) (hK : ∀ n : Nat, X mL_law 11 398 x_lz (x_RO b L xs) rc rs 23 [(0, .ref b), (1, .ref x), (2, .ref m), (3, .ref o), (4, .int (i + 3))] [] (r, n)) : X mL_law 11 398 x_lz (x_RO b L xs) (rc + 40) (rs + 2200) 986 [(0, .ref b), (1, .ref x), (2, .ref m), (3, .ref o), (4, .int i)] [] h := by
  unfold F_law_16 at hF
  refine x_aload_n 1 dL_law_986 rfl rfl ?_
  obtain ⟨z1, hzz1, hF⟩ := x_bind hF
  obtain ⟨⟨fsz1, hbz1⟩, hzz1⟩ := x_cv_sp hzz1
  refine x_callv (As := []) (rest := []) (rc + 40) (rs + 2200) dL_law_987 mi_X5_savedStates ml_L_196 rfl rfl (Nat.le_of_ble_eq_true rfl) ⟨by decide, by decide⟩ (by omega) (by omega) hbz1 rfl (c_X5_savedStates N _ _ _ _ hzz1) (x_K.some ?_) x_KX.none
  refine x_aload_n 2 dL_law_990 rfl rfl ?_
  obtain ⟨z2, hzz2, hF⟩ := x_bind hF
  obtain ⟨⟨fsz2, hbz2⟩, hzz2⟩ := x_cv_sp hzz2
  refine x_callv (As := []) (rest := [.int z1]) (rc + 40) (rs + 2200) dL_law_991 mi_X6_savedStates ml_L_199 rfl rfl (Nat.le_of_ble_eq_true rfl) ⟨by decide, by decide⟩ (by omega) (by omega) hbz2 rfl (c_X6_savedStates N _ _ _ _ hzz2) (x_K.some ?_) x_KX.none
  refine x_icmp_eq 2605 dL_law_994 (by decide) hF (fun hF => ?_) (fun hF => ?_)
  · refine x_iinc (i + 3) (lv' := [(4, .int (i + 3)), (0, .ref b), (1, .ref x), (2, .ref m), (3, .ref o)]) dL_law_2605 4 rfl (by rfl) (by decide) rfl ?_
    refine x_goto 23 dL_law_2608 (by decide) ?_
    cases hF
    refine x_sub [1, 2, 3, 4, 0] rfl ?_
    exact x_less (rc' := rc) (rs' := rs) (by omega) (by omega) (hK _)
  · refine x_iconst 0 (by decide) dL_law_997 ?_
    cases hF
def F_law_17 (N L : Nat) (xs : Nat → Int32) (x m o : Nat) (i : Int32) (h : XH) : Option XM :=
  (x_sld L xs (i + 1)).bind fun v1 =>
  (F_L_isFoundByTree N (h.1, h.2) x v1 o).bind fun z2 =>
  (x_sld L xs (i + 1)).bind fun v3 =>
  (x_cv z2.2 6 m (F_X6_isFoundByTree N z2.2 m v3)).bind fun z4 =>
  (x_cv z4.2 6 m (F_X6_thrown N z4.2 m)).bind fun z5 =>
  if z5 = z2.1 then
    if z2.1 = 0 then
      (x_aldl z4.2 o 0).bind fun v6 =>
      if (x_b z4.1) = 0 then
        if (lg_cmp v6 (0 : Int64)) = 0 then
          some z4.2
        else
          none
      else
        if (lg_cmp v6 (1 : Int64)) = 0 then
          some z4.2
        else
          none
    else
      some z4.2
  else
    none
set_option maxRecDepth 20000 in
set_option maxHeartbeats 4000000 in
theorem w_law_17 (N : Nat) {b L : Nat} {xs : Nat → Int32} (x m o : Nat) (i : Int32) (h : XH) {rc rs : Nat} (r : XM) (hF : F_law_17 N L xs x m o i h = some r) (hK : ∀ n : Nat, X mL_law 11 398 x_lz (x_RO b L xs) rc rs 23 [(0, .ref b), (1, .ref x), (2, .ref m), (3, .ref o), (4, .int (i + 3))] [] (r, n)) : X mL_law 11 398 x_lz (x_RO b L xs) (rc + 40) (rs + 2200) 999 [(0, .ref b), (1, .ref x), (2, .ref m), (3, .ref o), (4, .int i)] [] h := by
  unfold F_law_17 at hF
  refine x_aload_n 1 dL_law_999 rfl rfl ?_
  refine x_aload_n 0 dL_law_1000 rfl rfl ?_
  refine x_iload 4 dL_law_1001 rfl ?_
  refine x_iconst 1 (by decide) dL_law_1003 ?_
  refine x_iadd dL_law_1004 ?_
  refine x_sld_r dL_law_1005 hF (fun v1 hF => ?_)
  refine x_aload_n 3 dL_law_1006 rfl rfl ?_
  obtain ⟨z2, hzz2, hF⟩ := x_bind hF
  refine x_callsH (As := [.ref x, .int v1, .ref o]) (rest := []) (rc + 39) (rs + 2194) dL_law_1007 mi_L_isFoundByTree rfl ml_L_200 rfl rfl (Nat.le_of_ble_eq_true rfl) ⟨by decide, by decide⟩ (by omega) (by omega) (c_L_isFoundByTree N _ _ _ _ _ hzz2) (fun n9 => ?_)
  refine x_istore (i := 5) (lv' := [(5, .int z2.1), (0, .ref b), (1, .ref x), (2, .ref m), (3, .ref o), (4, .int i)]) dL_law_1010 (by decide) rfl ?_
  refine x_aload_n 3 dL_law_1012 rfl rfl ?_
  refine x_aload_n 1 dL_law_1013 rfl rfl ?_
  refine x_iload 5 dL_law_1014 rfl ?_
  refine x_iconst 1 (by decide) dL_law_1016 ?_
  refine x_iadd dL_law_1017 ?_
  refine x_sld_r dL_law_1018 hF (fun v3 hF => ?_)
  obtain ⟨z4, hzz4, hF⟩ := x_bind hF
  obtain ⟨⟨fsz4, hbz4⟩, hzz4⟩ := x_cv_sp hzz4
  refine x_callv (As := [.int v3]) (rest := []) (rc + 39) (rs + 2194) dL_law_1019 mi_X6_isFoundByTree ml_L_202 rfl rfl (Nat.le_of_ble_eq_true rfl) ⟨by decide, by decide⟩ (by omega) (by omega) hbz4 rfl (c_X6_isFoundByTree N _ _ _ _ _ hzz4) (x_K.some ?_) x_KX.none
  refine x_istore (i := 6) (lv' := [(6, .int (x_b z4.1)), (5, .int z2.1), (0, .ref b), (1, .ref x), (2, .ref m), (3, .ref o), (4, .int i)]) dL_law_1022 (by decide) rfl ?_
  refine x_aload_n 4 dL_law_1024 rfl rfl ?_
  obtain ⟨z5, hzz5, hF⟩ := x_bind hF
  obtain ⟨⟨fsz5, hbz5⟩, hzz5⟩ := x_cv_sp hzz5
  refine x_callv (As := []) (rest := []) (rc + 39) (rs + 2194) dL_law_1025 mi_X6_thrown ml_L_142 rfl rfl (Nat.le_of_ble_eq_true rfl) ⟨by decide, by decide⟩ (by omega) (by omega) hbz5 rfl (c_X6_thrown N _ _ _ _ hzz5) (x_K.some ?_) x_KX.none
  refine x_iload 1 dL_law_1028 rfl ?_
  refine x_icmp_eq 1035 dL_law_1030 (by decide) hF (fun hF => ?_) (fun hF => ?_)
  · refine x_iload 1 dL_law_1035 rfl ?_
    refine x_if_ne 1059 dL_law_1037 (by decide) hF (fun hF => ?_) (fun hF => ?_)
    · refine x_goto 2605 dL_law_1059 (by decide) ?_
      refine x_iinc (i + 3) (lv' := [(4, .int (i + 3)), (6, .int (x_b z4.1)), (5, .int z2.1), (0, .ref b), (1, .ref x), (2, .ref m), (3, .ref o)]) dL_law_2605 6 rfl (by rfl) (by decide) rfl ?_
      refine x_goto 23 dL_law_2608 (by decide) ?_
      cases hF
      refine x_sub [3, 4, 5, 6, 0] rfl ?_
      exact x_less (rc' := rc) (rs' := rs) (by omega) (by omega) (hK _)
    · refine x_aload_n 5 dL_law_1040 rfl rfl ?_
      refine x_iconst 0 (by decide) dL_law_1041 ?_
      refine x_aldl_r dL_law_1042 hF (fun v6 hF => ?_)
      refine x_iload 0 dL_law_1043 rfl ?_
      refine x_if_eq 1052 dL_law_1045 (by decide) hF (fun hF => ?_) (fun hF => ?_)
      · refine x_lconst 0 (by decide) dL_law_1052 ?_
        refine x_lcmp dL_law_1053 ?_
        refine x_if_eq 1059 dL_law_1054 (by decide) hF (fun hF => ?_) (fun hF => ?_)
        · refine x_goto 2605 dL_law_1059 (by decide) ?_
          refine x_iinc (i + 3) (lv' := [(4, .int (i + 3)), (6, .int (x_b z4.1)), (5, .int z2.1), (0, .ref b), (1, .ref x), (2, .ref m), (3, .ref o)]) dL_law_2605 6 rfl (by rfl) (by decide) rfl ?_
          refine x_goto 23 dL_law_2608 (by decide) ?_
          cases hF
          refine x_sub [3, 4, 5, 6, 0] rfl ?_
          exact x_less (rc' := rc) (rs' := rs) (by omega) (by omega) (hK _)
        · refine x_iconst 0 (by decide) dL_law_1057 ?_
          cases hF
      · refine x_lconst 1 (by decide) dL_law_1048 ?_
        refine x_goto 1053 dL_law_1049 (by decide) ?_
        refine x_lcmp dL_law_1053 ?_
        refine x_if_eq 1059 dL_law_1054 (by decide) hF (fun hF => ?_) (fun hF => ?_)
        · refine x_goto 2605 dL_law_1059 (by decide) ?_
          refine x_iinc (i + 3) (lv' := [(4, .int (i + 3)), (6, .int (x_b z4.1)), (5, .int z2.1), (0, .ref b), (1, .ref x), (2, .ref m), (3, .ref o)]) dL_law_2605 6 rfl (by rfl) (by decide) rfl ?_
          refine x_goto 23 dL_law_2608 (by decide) ?_
          cases hF
          refine x_sub [3, 4, 5, 6, 0] rfl ?_
          exact x_less (rc' := rc) (rs' := rs) (by omega) (by omega) (hK _)
        · refine x_iconst 0 (by decide) dL_law_1057 ?_
          cases hF
  · refine x_iconst 0 (by decide) dL_law_1033 ?_
    cases hF
def F_law_18 (N L : Nat) (xs : Nat → Int32) (x m o : Nat) (i : Int32) (h : XH) : Option XM :=
  (x_sld L xs (i + 1)).bind fun v1 =>
  (F_L_isFoundByGoing N (h.1, h.2) x v1 o).bind fun z2 =>
  (x_sld L xs (i + 1)).bind fun v3 =>
  (x_cv z2.2 6 m (F_X6_isFoundByGoing N z2.2 m v3)).bind fun z4 =>
  (x_cv z4.2 6 m (F_X6_thrown N z4.2 m)).bind fun z5 =>
  if z5 = z2.1 then
    if z2.1 = 0 then
      (x_aldl z4.2 o 0).bind fun v6 =>
      if (x_b z4.1) = 0 then
        if (lg_cmp v6 (0 : Int64)) = 0 then
          some z4.2
        else
          none
      else
        if (lg_cmp v6 (1 : Int64)) = 0 then
          some z4.2
        else
          none
    else
      some z4.2
  else
    none
set_option maxRecDepth 20000 in
set_option maxHeartbeats 4000000 in
theorem w_law_18 (N : Nat) {b L : Nat} {xs : Nat → Int32} (x m o : Nat) (i : Int32) (h : XH) {rc rs : Nat} (r : XM) (hF : F_law_18 N L xs x m o i h = some r) (hK : ∀ n : Nat, X mL_law 11 398 x_lz (x_RO b L xs) rc rs 23 [(0, .ref b), (1, .ref x), (2, .ref m), (3, .ref o), (4, .int (i + 3))] [] (r, n)) : X mL_law 11 398 x_lz (x_RO b L xs) (rc + 40) (rs + 2200) 1062 [(0, .ref b), (1, .ref x), (2, .ref m), (3, .ref o), (4, .int i)] [] h := by
  unfold F_law_18 at hF
  refine x_aload_n 1 dL_law_1062 rfl rfl ?_
  refine x_aload_n 0 dL_law_1063 rfl rfl ?_
  refine x_iload 4 dL_law_1064 rfl ?_
  refine x_iconst 1 (by decide) dL_law_1066 ?_
  refine x_iadd dL_law_1067 ?_
  refine x_sld_r dL_law_1068 hF (fun v1 hF => ?_)
  refine x_aload_n 3 dL_law_1069 rfl rfl ?_
  obtain ⟨z2, hzz2, hF⟩ := x_bind hF
  refine x_callsH (As := [.ref x, .int v1, .ref o]) (rest := []) (rc + 39) (rs + 2194) dL_law_1070 mi_L_isFoundByGoing rfl ml_L_203 rfl rfl (Nat.le_of_ble_eq_true rfl) ⟨by decide, by decide⟩ (by omega) (by omega) (c_L_isFoundByGoing N _ _ _ _ _ hzz2) (fun n9 => ?_)
  refine x_istore (i := 5) (lv' := [(5, .int z2.1), (0, .ref b), (1, .ref x), (2, .ref m), (3, .ref o), (4, .int i)]) dL_law_1073 (by decide) rfl ?_
  refine x_aload_n 3 dL_law_1075 rfl rfl ?_
  refine x_aload_n 1 dL_law_1076 rfl rfl ?_
  refine x_iload 5 dL_law_1077 rfl ?_
  refine x_iconst 1 (by decide) dL_law_1079 ?_
  refine x_iadd dL_law_1080 ?_
  refine x_sld_r dL_law_1081 hF (fun v3 hF => ?_)
  obtain ⟨z4, hzz4, hF⟩ := x_bind hF
  obtain ⟨⟨fsz4, hbz4⟩, hzz4⟩ := x_cv_sp hzz4
  refine x_callv (As := [.int v3]) (rest := []) (rc + 39) (rs + 2194) dL_law_1082 mi_X6_isFoundByGoing ml_L_205 rfl rfl (Nat.le_of_ble_eq_true rfl) ⟨by decide, by decide⟩ (by omega) (by omega) hbz4 rfl (c_X6_isFoundByGoing N _ _ _ _ _ hzz4) (x_K.some ?_) x_KX.none
  refine x_istore (i := 6) (lv' := [(6, .int (x_b z4.1)), (5, .int z2.1), (0, .ref b), (1, .ref x), (2, .ref m), (3, .ref o), (4, .int i)]) dL_law_1085 (by decide) rfl ?_
  refine x_aload_n 4 dL_law_1087 rfl rfl ?_
  obtain ⟨z5, hzz5, hF⟩ := x_bind hF
  obtain ⟨⟨fsz5, hbz5⟩, hzz5⟩ := x_cv_sp hzz5
  refine x_callv (As := []) (rest := []) (rc + 39) (rs + 2194) dL_law_1088 mi_X6_thrown ml_L_142 rfl rfl (Nat.le_of_ble_eq_true rfl) ⟨by decide, by decide⟩ (by omega) (by omega) hbz5 rfl (c_X6_thrown N _ _ _ _ hzz5) (x_K.some ?_) x_KX.none
  refine x_iload 1 dL_law_1091 rfl ?_
  refine x_icmp_eq 1098 dL_law_1093 (by decide) hF (fun hF => ?_) (fun hF => ?_)
  · refine x_iload 1 dL_law_1098 rfl ?_
    refine x_if_ne 1122 dL_law_1100 (by decide) hF (fun hF => ?_) (fun hF => ?_)
    · refine x_goto 2605 dL_law_1122 (by decide) ?_
      refine x_iinc (i + 3) (lv' := [(4, .int (i + 3)), (6, .int (x_b z4.1)), (5, .int z2.1), (0, .ref b), (1, .ref x), (2, .ref m), (3, .ref o)]) dL_law_2605 6 rfl (by rfl) (by decide) rfl ?_
      refine x_goto 23 dL_law_2608 (by decide) ?_
      cases hF
      refine x_sub [3, 4, 5, 6, 0] rfl ?_
      exact x_less (rc' := rc) (rs' := rs) (by omega) (by omega) (hK _)
    · refine x_aload_n 5 dL_law_1103 rfl rfl ?_
      refine x_iconst 0 (by decide) dL_law_1104 ?_
      refine x_aldl_r dL_law_1105 hF (fun v6 hF => ?_)
      refine x_iload 0 dL_law_1106 rfl ?_
      refine x_if_eq 1115 dL_law_1108 (by decide) hF (fun hF => ?_) (fun hF => ?_)
      · refine x_lconst 0 (by decide) dL_law_1115 ?_
        refine x_lcmp dL_law_1116 ?_
        refine x_if_eq 1122 dL_law_1117 (by decide) hF (fun hF => ?_) (fun hF => ?_)
        · refine x_goto 2605 dL_law_1122 (by decide) ?_
          refine x_iinc (i + 3) (lv' := [(4, .int (i + 3)), (6, .int (x_b z4.1)), (5, .int z2.1), (0, .ref b), (1, .ref x), (2, .ref m), (3, .ref o)]) dL_law_2605 6 rfl (by rfl) (by decide) rfl ?_
          refine x_goto 23 dL_law_2608 (by decide) ?_
          cases hF
          refine x_sub [3, 4, 5, 6, 0] rfl ?_
          exact x_less (rc' := rc) (rs' := rs) (by omega) (by omega) (hK _)
        · refine x_iconst 0 (by decide) dL_law_1120 ?_
          cases hF
      · refine x_lconst 1 (by decide) dL_law_1111 ?_
        refine x_goto 1116 dL_law_1112 (by decide) ?_
        refine x_lcmp dL_law_1116 ?_
        refine x_if_eq 1122 dL_law_1117 (by decide) hF (fun hF => ?_) (fun hF => ?_)
        · refine x_goto 2605 dL_law_1122 (by decide) ?_
          refine x_iinc (i + 3) (lv' := [(4, .int (i + 3)), (6, .int (x_b z4.1)), (5, .int z2.1), (0, .ref b), (1, .ref x), (2, .ref m), (3, .ref o)]) dL_law_2605 6 rfl (by rfl) (by decide) rfl ?_
          refine x_goto 23 dL_law_2608 (by decide) ?_
          cases hF
          refine x_sub [3, 4, 5, 6, 0] rfl ?_
          exact x_less (rc' := rc) (rs' := rs) (by omega) (by omega) (hK _)
        · refine x_iconst 0 (by decide) dL_law_1120 ?_
          cases hF
  · refine x_iconst 0 (by decide) dL_law_1096 ?_
    cases hF
def F_law_19 (N L : Nat) (xs : Nat → Int32) (x m o : Nat) (i : Int32) (h : XH) : Option XM :=
  (x_sld L xs (i + 1)).bind fun v1 =>
  (F_L_valueOf N (h.1, h.2) x v1 o).bind fun z2 =>
  (x_sld L xs (i + 1)).bind fun v3 =>
  (x_cv z2.2 6 m (F_X6_valueOf N z2.2 m v3)).bind fun z4 =>
  (x_cv z4.2 6 m (F_X6_thrown N z4.2 m)).bind fun z5 =>
  if z5 = z2.1 then
    if z2.1 = 0 then
      (x_aldl z4.2 o 0).bind fun v6 =>
      if (lg_cmp v6 ((z4.1 : Int32).toInt64)) = 0 then
        some z4.2
      else
        none
    else
      some z4.2
  else
    none
set_option maxRecDepth 20000 in
set_option maxHeartbeats 4000000 in
theorem w_law_19 (N : Nat) {b L : Nat} {xs : Nat → Int32} (x m o : Nat) (i : Int32) (h : XH) {rc rs : Nat} (r : XM) (hF : F_law_19 N L xs x m o i h = some r) (hK : ∀ n : Nat, X mL_law 11 398 x_lz (x_RO b L xs) rc rs 23 [(0, .ref b), (1, .ref x), (2, .ref m), (3, .ref o), (4, .int (i + 3))] [] (r, n)) : X mL_law 11 398 x_lz (x_RO b L xs) (rc + 40) (rs + 2200) 1125 [(0, .ref b), (1, .ref x), (2, .ref m), (3, .ref o), (4, .int i)] [] h := by
  unfold F_law_19 at hF
  refine x_aload_n 1 dL_law_1125 rfl rfl ?_
  refine x_aload_n 0 dL_law_1126 rfl rfl ?_
  refine x_iload 4 dL_law_1127 rfl ?_
  refine x_iconst 1 (by decide) dL_law_1129 ?_
  refine x_iadd dL_law_1130 ?_
  refine x_sld_r dL_law_1131 hF (fun v1 hF => ?_)
  refine x_aload_n 3 dL_law_1132 rfl rfl ?_
  obtain ⟨z2, hzz2, hF⟩ := x_bind hF
  refine x_callsH (As := [.ref x, .int v1, .ref o]) (rest := []) (rc + 38) (rs + 2188) dL_law_1133 mi_L_valueOf rfl ml_L_206 rfl rfl (Nat.le_of_ble_eq_true rfl) ⟨by decide, by decide⟩ (by omega) (by omega) (c_L_valueOf N _ _ _ _ _ hzz2) (fun n9 => ?_)
  refine x_istore (i := 5) (lv' := [(5, .int z2.1), (0, .ref b), (1, .ref x), (2, .ref m), (3, .ref o), (4, .int i)]) dL_law_1136 (by decide) rfl ?_
  refine x_aload_n 3 dL_law_1138 rfl rfl ?_
  refine x_aload_n 1 dL_law_1139 rfl rfl ?_
  refine x_iload 5 dL_law_1140 rfl ?_
  refine x_iconst 1 (by decide) dL_law_1142 ?_
  refine x_iadd dL_law_1143 ?_
  refine x_sld_r dL_law_1144 hF (fun v3 hF => ?_)
  obtain ⟨z4, hzz4, hF⟩ := x_bind hF
  obtain ⟨⟨fsz4, hbz4⟩, hzz4⟩ := x_cv_sp hzz4
  refine x_callv (As := [.int v3]) (rest := []) (rc + 38) (rs + 2188) dL_law_1145 mi_X6_valueOf ml_L_208 rfl rfl (Nat.le_of_ble_eq_true rfl) ⟨by decide, by decide⟩ (by omega) (by omega) hbz4 rfl (c_X6_valueOf N _ _ _ _ _ hzz4) (x_K.some ?_) x_KX.none
  refine x_istore (i := 6) (lv' := [(6, .int z4.1), (5, .int z2.1), (0, .ref b), (1, .ref x), (2, .ref m), (3, .ref o), (4, .int i)]) dL_law_1148 (by decide) rfl ?_
  refine x_aload_n 4 dL_law_1150 rfl rfl ?_
  obtain ⟨z5, hzz5, hF⟩ := x_bind hF
  obtain ⟨⟨fsz5, hbz5⟩, hzz5⟩ := x_cv_sp hzz5
  refine x_callv (As := []) (rest := []) (rc + 38) (rs + 2188) dL_law_1151 mi_X6_thrown ml_L_142 rfl rfl (Nat.le_of_ble_eq_true rfl) ⟨by decide, by decide⟩ (by omega) (by omega) hbz5 rfl (c_X6_thrown N _ _ _ _ hzz5) (x_K.some ?_) x_KX.none
  refine x_iload 1 dL_law_1154 rfl ?_
  refine x_icmp_eq 1161 dL_law_1156 (by decide) hF (fun hF => ?_) (fun hF => ?_)
  · refine x_iload 1 dL_law_1161 rfl ?_
    refine x_if_ne 1178 dL_law_1163 (by decide) hF (fun hF => ?_) (fun hF => ?_)
    · refine x_goto 2605 dL_law_1178 (by decide) ?_
      refine x_iinc (i + 3) (lv' := [(4, .int (i + 3)), (6, .int z4.1), (5, .int z2.1), (0, .ref b), (1, .ref x), (2, .ref m), (3, .ref o)]) dL_law_2605 6 rfl (by rfl) (by decide) rfl ?_
      refine x_goto 23 dL_law_2608 (by decide) ?_
      cases hF
      refine x_sub [3, 4, 5, 6, 0] rfl ?_
      exact x_less (rc' := rc) (rs' := rs) (by omega) (by omega) (hK _)
    · refine x_aload_n 5 dL_law_1166 rfl rfl ?_
      refine x_iconst 0 (by decide) dL_law_1167 ?_
      refine x_aldl_r dL_law_1168 hF (fun v6 hF => ?_)
      refine x_iload 0 dL_law_1169 rfl ?_
      refine x_i2l dL_law_1171 ?_
      refine x_lcmp dL_law_1172 ?_
      refine x_if_eq 1178 dL_law_1173 (by decide) hF (fun hF => ?_) (fun hF => ?_)
      · refine x_goto 2605 dL_law_1178 (by decide) ?_
        refine x_iinc (i + 3) (lv' := [(4, .int (i + 3)), (6, .int z4.1), (5, .int z2.1), (0, .ref b), (1, .ref x), (2, .ref m), (3, .ref o)]) dL_law_2605 6 rfl (by rfl) (by decide) rfl ?_
        refine x_goto 23 dL_law_2608 (by decide) ?_
        cases hF
        refine x_sub [3, 4, 5, 6, 0] rfl ?_
        exact x_less (rc' := rc) (rs' := rs) (by omega) (by omega) (hK _)
      · refine x_iconst 0 (by decide) dL_law_1176 ?_
        cases hF
  · refine x_iconst 0 (by decide) dL_law_1159 ?_
    cases hF
def F_law_20 (N L : Nat) (xs : Nat → Int32) (x m o : Nat) (i : Int32) (h : XH) : Option XM :=
  (x_sld L xs (i + 1)).bind fun v1 =>
  (F_L_pagesFor N (h.1, h.2) x v1 o).bind fun z2 =>
  (x_sld L xs (i + 1)).bind fun v3 =>
  (x_cv z2.2 6 m (F_X6_pagesFor N z2.2 m v3)).bind fun z4 =>
  (x_cv z4.2 6 m (F_X6_thrown N z4.2 m)).bind fun z5 =>
  if z5 = z2.1 then
    if z2.1 = 0 then
      (x_aldl z4.2 o 0).bind fun v6 =>
      if (lg_cmp v6 ((z4.1 : Int32).toInt64)) = 0 then
        some z4.2
      else
        none
    else
      some z4.2
  else
    none
set_option maxRecDepth 20000 in
set_option maxHeartbeats 4000000 in
theorem w_law_20 (N : Nat) {b L : Nat} {xs : Nat → Int32} (x m o : Nat) (i : Int32) (h : XH) {rc rs : Nat} (r : XM) (hF : F_law_20 N L xs x m o i h = some r) (hK : ∀ n : Nat, X mL_law 11 398 x_lz (x_RO b L xs) rc rs 23 [(0, .ref b), (1, .ref x), (2, .ref m), (3, .ref o), (4, .int (i + 3))] [] (r, n)) : X mL_law 11 398 x_lz (x_RO b L xs) (rc + 40) (rs + 2200) 1181 [(0, .ref b), (1, .ref x), (2, .ref m), (3, .ref o), (4, .int i)] [] h := by
  unfold F_law_20 at hF
  refine x_aload_n 1 dL_law_1181 rfl rfl ?_
  refine x_aload_n 0 dL_law_1182 rfl rfl ?_
  refine x_iload 4 dL_law_1183 rfl ?_
  refine x_iconst 1 (by decide) dL_law_1185 ?_
  refine x_iadd dL_law_1186 ?_
  refine x_sld_r dL_law_1187 hF (fun v1 hF => ?_)
  refine x_aload_n 3 dL_law_1188 rfl rfl ?_
  obtain ⟨z2, hzz2, hF⟩ := x_bind hF
  refine x_callsH (As := [.ref x, .int v1, .ref o]) (rest := []) (rc + 39) (rs + 2194) dL_law_1189 mi_L_pagesFor rfl ml_L_209 rfl rfl (Nat.le_of_ble_eq_true rfl) ⟨by decide, by decide⟩ (by omega) (by omega) (c_L_pagesFor N _ _ _ _ _ hzz2) (fun n9 => ?_)
  refine x_istore (i := 5) (lv' := [(5, .int z2.1), (0, .ref b), (1, .ref x), (2, .ref m), (3, .ref o), (4, .int i)]) dL_law_1192 (by decide) rfl ?_
  refine x_aload_n 3 dL_law_1194 rfl rfl ?_
  refine x_aload_n 1 dL_law_1195 rfl rfl ?_
  refine x_iload 5 dL_law_1196 rfl ?_
  refine x_iconst 1 (by decide) dL_law_1198 ?_
  refine x_iadd dL_law_1199 ?_
  refine x_sld_r dL_law_1200 hF (fun v3 hF => ?_)
  obtain ⟨z4, hzz4, hF⟩ := x_bind hF
  obtain ⟨⟨fsz4, hbz4⟩, hzz4⟩ := x_cv_sp hzz4
  refine x_callv (As := [.int v3]) (rest := []) (rc + 39) (rs + 2194) dL_law_1201 mi_X6_pagesFor ml_L_211 rfl rfl (Nat.le_of_ble_eq_true rfl) ⟨by decide, by decide⟩ (by omega) (by omega) hbz4 rfl (c_X6_pagesFor N _ _ _ _ _ hzz4) (x_K.some ?_) x_KX.none
  refine x_istore (i := 6) (lv' := [(6, .int z4.1), (5, .int z2.1), (0, .ref b), (1, .ref x), (2, .ref m), (3, .ref o), (4, .int i)]) dL_law_1204 (by decide) rfl ?_
  refine x_aload_n 4 dL_law_1206 rfl rfl ?_
  obtain ⟨z5, hzz5, hF⟩ := x_bind hF
  obtain ⟨⟨fsz5, hbz5⟩, hzz5⟩ := x_cv_sp hzz5
  refine x_callv (As := []) (rest := []) (rc + 39) (rs + 2194) dL_law_1207 mi_X6_thrown ml_L_142 rfl rfl (Nat.le_of_ble_eq_true rfl) ⟨by decide, by decide⟩ (by omega) (by omega) hbz5 rfl (c_X6_thrown N _ _ _ _ hzz5) (x_K.some ?_) x_KX.none
  refine x_iload 1 dL_law_1210 rfl ?_
  refine x_icmp_eq 1217 dL_law_1212 (by decide) hF (fun hF => ?_) (fun hF => ?_)
  · refine x_iload 1 dL_law_1217 rfl ?_
    refine x_if_ne 1234 dL_law_1219 (by decide) hF (fun hF => ?_) (fun hF => ?_)
    · refine x_goto 2605 dL_law_1234 (by decide) ?_
      refine x_iinc (i + 3) (lv' := [(4, .int (i + 3)), (6, .int z4.1), (5, .int z2.1), (0, .ref b), (1, .ref x), (2, .ref m), (3, .ref o)]) dL_law_2605 6 rfl (by rfl) (by decide) rfl ?_
      refine x_goto 23 dL_law_2608 (by decide) ?_
      cases hF
      refine x_sub [3, 4, 5, 6, 0] rfl ?_
      exact x_less (rc' := rc) (rs' := rs) (by omega) (by omega) (hK _)
    · refine x_aload_n 5 dL_law_1222 rfl rfl ?_
      refine x_iconst 0 (by decide) dL_law_1223 ?_
      refine x_aldl_r dL_law_1224 hF (fun v6 hF => ?_)
      refine x_iload 0 dL_law_1225 rfl ?_
      refine x_i2l dL_law_1227 ?_
      refine x_lcmp dL_law_1228 ?_
      refine x_if_eq 1234 dL_law_1229 (by decide) hF (fun hF => ?_) (fun hF => ?_)
      · refine x_goto 2605 dL_law_1234 (by decide) ?_
        refine x_iinc (i + 3) (lv' := [(4, .int (i + 3)), (6, .int z4.1), (5, .int z2.1), (0, .ref b), (1, .ref x), (2, .ref m), (3, .ref o)]) dL_law_2605 6 rfl (by rfl) (by decide) rfl ?_
        refine x_goto 23 dL_law_2608 (by decide) ?_
        cases hF
        refine x_sub [3, 4, 5, 6, 0] rfl ?_
        exact x_less (rc' := rc) (rs' := rs) (by omega) (by omega) (hK _)
      · refine x_iconst 0 (by decide) dL_law_1232 ?_
        cases hF
  · refine x_iconst 0 (by decide) dL_law_1215 ?_
    cases hF
def F_law_21 (N L : Nat) (xs : Nat → Int32) (x m o : Nat) (i : Int32) (h : XH) : Option XM :=
  (x_sld L xs (i + 1)).bind fun v1 =>
  (x_sld L xs (i + 2)).bind fun v2 =>
  (F_L_countByLeaves N (h.1, h.2) x v1 v2 o).bind fun z3 =>
  (x_sld L xs (i + 1)).bind fun v4 =>
  (x_sld L xs (i + 2)).bind fun v5 =>
  (x_cv z3.2 6 m (F_X6_countByLeaves N z3.2 m v4 v5)).bind fun z6 =>
  (x_cv z6.2 6 m (F_X6_thrown N z6.2 m)).bind fun z7 =>
  if z7 = z3.1 then
    if z3.1 = 0 then
      (x_aldl z6.2 o 0).bind fun v8 =>
      if (lg_cmp v8 ((z6.1 : Int32).toInt64)) = 0 then
        some z6.2
      else
        none
    else
      some z6.2
  else
    none
set_option maxRecDepth 20000 in
set_option maxHeartbeats 4000000 in
theorem w_law_21 (N : Nat) {b L : Nat} {xs : Nat → Int32} (x m o : Nat) (i : Int32) (h : XH) {rc rs : Nat} (r : XM) (hF : F_law_21 N L xs x m o i h = some r) (hK : ∀ n : Nat, X mL_law 11 398 x_lz (x_RO b L xs) rc rs 23 [(0, .ref b), (1, .ref x), (2, .ref m), (3, .ref o), (4, .int (i + 3))] [] (r, n)) : X mL_law 11 398 x_lz (x_RO b L xs) (rc + 40) (rs + 2200) 1237 [(0, .ref b), (1, .ref x), (2, .ref m), (3, .ref o), (4, .int i)] [] h := by
  unfold F_law_21 at hF
  refine x_aload_n 1 dL_law_1237 rfl rfl ?_
  refine x_aload_n 0 dL_law_1238 rfl rfl ?_
  refine x_iload 4 dL_law_1239 rfl ?_
  refine x_iconst 1 (by decide) dL_law_1241 ?_
  refine x_iadd dL_law_1242 ?_
  refine x_sld_r dL_law_1243 hF (fun v1 hF => ?_)
  refine x_aload_n 0 dL_law_1244 rfl rfl ?_
  refine x_iload 4 dL_law_1245 rfl ?_
  refine x_iconst 2 (by decide) dL_law_1247 ?_
  refine x_iadd dL_law_1248 ?_
  refine x_sld_r dL_law_1249 hF (fun v2 hF => ?_)
  refine x_aload_n 3 dL_law_1250 rfl rfl ?_
  obtain ⟨z3, hzz3, hF⟩ := x_bind hF
  refine x_callsH (As := [.ref x, .int v1, .int v2, .ref o]) (rest := []) (rc + 39) (rs + 2194) dL_law_1251 mi_L_countByLeaves rfl ml_L_212 rfl rfl (Nat.le_of_ble_eq_true rfl) ⟨by decide, by decide⟩ (by omega) (by omega) (c_L_countByLeaves N _ _ _ _ _ _ hzz3) (fun n9 => ?_)
  refine x_istore (i := 5) (lv' := [(5, .int z3.1), (0, .ref b), (1, .ref x), (2, .ref m), (3, .ref o), (4, .int i)]) dL_law_1254 (by decide) rfl ?_
  refine x_aload_n 3 dL_law_1256 rfl rfl ?_
  refine x_aload_n 1 dL_law_1257 rfl rfl ?_
  refine x_iload 5 dL_law_1258 rfl ?_
  refine x_iconst 1 (by decide) dL_law_1260 ?_
  refine x_iadd dL_law_1261 ?_
  refine x_sld_r dL_law_1262 hF (fun v4 hF => ?_)
  refine x_aload_n 1 dL_law_1263 rfl rfl ?_
  refine x_iload 5 dL_law_1264 rfl ?_
  refine x_iconst 2 (by decide) dL_law_1266 ?_
  refine x_iadd dL_law_1267 ?_
  refine x_sld_r dL_law_1268 hF (fun v5 hF => ?_)
  obtain ⟨z6, hzz6, hF⟩ := x_bind hF
  obtain ⟨⟨fsz6, hbz6⟩, hzz6⟩ := x_cv_sp hzz6
  refine x_callv (As := [.int v4, .int v5]) (rest := []) (rc + 39) (rs + 2194) dL_law_1269 mi_X6_countByLeaves ml_L_214 rfl rfl (Nat.le_of_ble_eq_true rfl) ⟨by decide, by decide⟩ (by omega) (by omega) hbz6 rfl (c_X6_countByLeaves N _ _ _ _ _ _ hzz6) (x_K.some ?_) x_KX.none
  refine x_istore (i := 6) (lv' := [(6, .int z6.1), (5, .int z3.1), (0, .ref b), (1, .ref x), (2, .ref m), (3, .ref o), (4, .int i)]) dL_law_1272 (by decide) rfl ?_
  refine x_aload_n 4 dL_law_1274 rfl rfl ?_
  obtain ⟨z7, hzz7, hF⟩ := x_bind hF
  obtain ⟨⟨fsz7, hbz7⟩, hzz7⟩ := x_cv_sp hzz7
  refine x_callv (As := []) (rest := []) (rc + 39) (rs + 2194) dL_law_1275 mi_X6_thrown ml_L_142 rfl rfl (Nat.le_of_ble_eq_true rfl) ⟨by decide, by decide⟩ (by omega) (by omega) hbz7 rfl (c_X6_thrown N _ _ _ _ hzz7) (x_K.some ?_) x_KX.none
  refine x_iload 1 dL_law_1278 rfl ?_
  refine x_icmp_eq 1285 dL_law_1280 (by decide) hF (fun hF => ?_) (fun hF => ?_)
  · refine x_iload 1 dL_law_1285 rfl ?_
    refine x_if_ne 1302 dL_law_1287 (by decide) hF (fun hF => ?_) (fun hF => ?_)
    · refine x_goto 2605 dL_law_1302 (by decide) ?_
      refine x_iinc (i + 3) (lv' := [(4, .int (i + 3)), (6, .int z6.1), (5, .int z3.1), (0, .ref b), (1, .ref x), (2, .ref m), (3, .ref o)]) dL_law_2605 6 rfl (by rfl) (by decide) rfl ?_
      refine x_goto 23 dL_law_2608 (by decide) ?_
      cases hF
      refine x_sub [3, 4, 5, 6, 0] rfl ?_
      exact x_less (rc' := rc) (rs' := rs) (by omega) (by omega) (hK _)
    · refine x_aload_n 5 dL_law_1290 rfl rfl ?_
      refine x_iconst 0 (by decide) dL_law_1291 ?_
      refine x_aldl_r dL_law_1292 hF (fun v8 hF => ?_)
      refine x_iload 0 dL_law_1293 rfl ?_
      refine x_i2l dL_law_1295 ?_
      refine x_lcmp dL_law_1296 ?_
      refine x_if_eq 1302 dL_law_1297 (by decide) hF (fun hF => ?_) (fun hF => ?_)
      · refine x_goto 2605 dL_law_1302 (by decide) ?_
        refine x_iinc (i + 3) (lv' := [(4, .int (i + 3)), (6, .int z6.1), (5, .int z3.1), (0, .ref b), (1, .ref x), (2, .ref m), (3, .ref o)]) dL_law_2605 6 rfl (by rfl) (by decide) rfl ?_
        refine x_goto 23 dL_law_2608 (by decide) ?_
        cases hF
        refine x_sub [3, 4, 5, 6, 0] rfl ?_
        exact x_less (rc' := rc) (rs' := rs) (by omega) (by omega) (hK _)
      · refine x_iconst 0 (by decide) dL_law_1300 ?_
        cases hF
  · refine x_iconst 0 (by decide) dL_law_1283 ?_
    cases hF
def F_law_22 (N L : Nat) (xs : Nat → Int32) (x m o : Nat) (i : Int32) (h : XH) : Option XM :=
  (x_sld L xs (i + 1)).bind fun v1 =>
  (x_sld L xs (i + 2)).bind fun v2 =>
  (F_L_countByNext N (h.1, h.2) x v1 v2 o).bind fun z3 =>
  (x_sld L xs (i + 1)).bind fun v4 =>
  (x_sld L xs (i + 2)).bind fun v5 =>
  (x_cv z3.2 6 m (F_X6_countByNext N z3.2 m v4 v5)).bind fun z6 =>
  (x_cv z6.2 6 m (F_X6_thrown N z6.2 m)).bind fun z7 =>
  if z7 = z3.1 then
    if z3.1 = 0 then
      (x_aldl z6.2 o 0).bind fun v8 =>
      if (lg_cmp v8 ((z6.1 : Int32).toInt64)) = 0 then
        some z6.2
      else
        none
    else
      some z6.2
  else
    none
set_option maxRecDepth 20000 in
set_option maxHeartbeats 4000000 in
theorem w_law_22 (N : Nat) {b L : Nat} {xs : Nat → Int32} (x m o : Nat) (i : Int32) (h : XH) {rc rs : Nat} (r : XM) (hF : F_law_22 N L xs x m o i h = some r) (hK : ∀ n : Nat, X mL_law 11 398 x_lz (x_RO b L xs) rc rs 23 [(0, .ref b), (1, .ref x), (2, .ref m), (3, .ref o), (4, .int (i + 3))] [] (r, n)) : X mL_law 11 398 x_lz (x_RO b L xs) (rc + 40) (rs + 2200) 1305 [(0, .ref b), (1, .ref x), (2, .ref m), (3, .ref o), (4, .int i)] [] h := by
  unfold F_law_22 at hF
  refine x_aload_n 1 dL_law_1305 rfl rfl ?_
  refine x_aload_n 0 dL_law_1306 rfl rfl ?_
  refine x_iload 4 dL_law_1307 rfl ?_
  refine x_iconst 1 (by decide) dL_law_1309 ?_
  refine x_iadd dL_law_1310 ?_
  refine x_sld_r dL_law_1311 hF (fun v1 hF => ?_)
  refine x_aload_n 0 dL_law_1312 rfl rfl ?_
  refine x_iload 4 dL_law_1313 rfl ?_
  refine x_iconst 2 (by decide) dL_law_1315 ?_
  refine x_iadd dL_law_1316 ?_
  refine x_sld_r dL_law_1317 hF (fun v2 hF => ?_)
  refine x_aload_n 3 dL_law_1318 rfl rfl ?_
  obtain ⟨z3, hzz3, hF⟩ := x_bind hF
  refine x_callsH (As := [.ref x, .int v1, .int v2, .ref o]) (rest := []) (rc + 39) (rs + 2194) dL_law_1319 mi_L_countByNext rfl ml_L_215 rfl rfl (Nat.le_of_ble_eq_true rfl) ⟨by decide, by decide⟩ (by omega) (by omega) (c_L_countByNext N _ _ _ _ _ _ hzz3) (fun n9 => ?_)
  refine x_istore (i := 5) (lv' := [(5, .int z3.1), (0, .ref b), (1, .ref x), (2, .ref m), (3, .ref o), (4, .int i)]) dL_law_1322 (by decide) rfl ?_
  refine x_aload_n 3 dL_law_1324 rfl rfl ?_
  refine x_aload_n 1 dL_law_1325 rfl rfl ?_
  refine x_iload 5 dL_law_1326 rfl ?_
  refine x_iconst 1 (by decide) dL_law_1328 ?_
  refine x_iadd dL_law_1329 ?_
  refine x_sld_r dL_law_1330 hF (fun v4 hF => ?_)
  refine x_aload_n 1 dL_law_1331 rfl rfl ?_
  refine x_iload 5 dL_law_1332 rfl ?_
  refine x_iconst 2 (by decide) dL_law_1334 ?_
  refine x_iadd dL_law_1335 ?_
  refine x_sld_r dL_law_1336 hF (fun v5 hF => ?_)
  obtain ⟨z6, hzz6, hF⟩ := x_bind hF
  obtain ⟨⟨fsz6, hbz6⟩, hzz6⟩ := x_cv_sp hzz6
  refine x_callv (As := [.int v4, .int v5]) (rest := []) (rc + 39) (rs + 2194) dL_law_1337 mi_X6_countByNext ml_L_217 rfl rfl (Nat.le_of_ble_eq_true rfl) ⟨by decide, by decide⟩ (by omega) (by omega) hbz6 rfl (c_X6_countByNext N _ _ _ _ _ _ hzz6) (x_K.some ?_) x_KX.none
  refine x_istore (i := 6) (lv' := [(6, .int z6.1), (5, .int z3.1), (0, .ref b), (1, .ref x), (2, .ref m), (3, .ref o), (4, .int i)]) dL_law_1340 (by decide) rfl ?_
  refine x_aload_n 4 dL_law_1342 rfl rfl ?_
  obtain ⟨z7, hzz7, hF⟩ := x_bind hF
  obtain ⟨⟨fsz7, hbz7⟩, hzz7⟩ := x_cv_sp hzz7
  refine x_callv (As := []) (rest := []) (rc + 39) (rs + 2194) dL_law_1343 mi_X6_thrown ml_L_142 rfl rfl (Nat.le_of_ble_eq_true rfl) ⟨by decide, by decide⟩ (by omega) (by omega) hbz7 rfl (c_X6_thrown N _ _ _ _ hzz7) (x_K.some ?_) x_KX.none
  refine x_iload 1 dL_law_1346 rfl ?_
  refine x_icmp_eq 1353 dL_law_1348 (by decide) hF (fun hF => ?_) (fun hF => ?_)
  · refine x_iload 1 dL_law_1353 rfl ?_
    refine x_if_ne 1370 dL_law_1355 (by decide) hF (fun hF => ?_) (fun hF => ?_)
    · refine x_goto 2605 dL_law_1370 (by decide) ?_
      refine x_iinc (i + 3) (lv' := [(4, .int (i + 3)), (6, .int z6.1), (5, .int z3.1), (0, .ref b), (1, .ref x), (2, .ref m), (3, .ref o)]) dL_law_2605 6 rfl (by rfl) (by decide) rfl ?_
      refine x_goto 23 dL_law_2608 (by decide) ?_
      cases hF
      refine x_sub [3, 4, 5, 6, 0] rfl ?_
      exact x_less (rc' := rc) (rs' := rs) (by omega) (by omega) (hK _)
    · refine x_aload_n 5 dL_law_1358 rfl rfl ?_
      refine x_iconst 0 (by decide) dL_law_1359 ?_
      refine x_aldl_r dL_law_1360 hF (fun v8 hF => ?_)
      refine x_iload 0 dL_law_1361 rfl ?_
      refine x_i2l dL_law_1363 ?_
      refine x_lcmp dL_law_1364 ?_
      refine x_if_eq 1370 dL_law_1365 (by decide) hF (fun hF => ?_) (fun hF => ?_)
      · refine x_goto 2605 dL_law_1370 (by decide) ?_
        refine x_iinc (i + 3) (lv' := [(4, .int (i + 3)), (6, .int z6.1), (5, .int z3.1), (0, .ref b), (1, .ref x), (2, .ref m), (3, .ref o)]) dL_law_2605 6 rfl (by rfl) (by decide) rfl ?_
        refine x_goto 23 dL_law_2608 (by decide) ?_
        cases hF
        refine x_sub [3, 4, 5, 6, 0] rfl ?_
        exact x_less (rc' := rc) (rs' := rs) (by omega) (by omega) (hK _)
      · refine x_iconst 0 (by decide) dL_law_1368 ?_
        cases hF
  · refine x_iconst 0 (by decide) dL_law_1351 ?_
    cases hF
def F_law_23 (N L : Nat) (xs : Nat → Int32) (x m o : Nat) (i : Int32) (h : XH) : Option XM :=
  (x_sld L xs (i + 1)).bind fun v1 =>
  (F_L_nextKey N (h.1, h.2) x v1 o).bind fun z2 =>
  (x_sld L xs (i + 1)).bind fun v3 =>
  (x_cv z2.2 6 m (F_X6_nextKey N z2.2 m v3)).bind fun z4 =>
  (x_cv z4.2 6 m (F_X6_thrown N z4.2 m)).bind fun z5 =>
  if z5 = z2.1 then
    if z2.1 = 0 then
      (x_aldl z4.2 o 0).bind fun v6 =>
      if (lg_cmp v6 ((z4.1 : Int32).toInt64)) = 0 then
        some z4.2
      else
        none
    else
      some z4.2
  else
    none
set_option maxRecDepth 20000 in
set_option maxHeartbeats 4000000 in
theorem w_law_23 (N : Nat) {b L : Nat} {xs : Nat → Int32} (x m o : Nat) (i : Int32) (h : XH) {rc rs : Nat} (r : XM) (hF : F_law_23 N L xs x m o i h = some r) (hK : ∀ n : Nat, X mL_law 11 398 x_lz (x_RO b L xs) rc rs 23 [(0, .ref b), (1, .ref x), (2, .ref m), (3, .ref o), (4, .int (i + 3))] [] (r, n)) : X mL_law 11 398 x_lz (x_RO b L xs) (rc + 40) (rs + 2200) 1373 [(0, .ref b), (1, .ref x), (2, .ref m), (3, .ref o), (4, .int i)] [] h := by
  unfold F_law_23 at hF
  refine x_aload_n 1 dL_law_1373 rfl rfl ?_
  refine x_aload_n 0 dL_law_1374 rfl rfl ?_
  refine x_iload 4 dL_law_1375 rfl ?_
  refine x_iconst 1 (by decide) dL_law_1377 ?_
  refine x_iadd dL_law_1378 ?_
  refine x_sld_r dL_law_1379 hF (fun v1 hF => ?_)
  refine x_aload_n 3 dL_law_1380 rfl rfl ?_
  obtain ⟨z2, hzz2, hF⟩ := x_bind hF
  refine x_callsH (As := [.ref x, .int v1, .ref o]) (rest := []) (rc + 38) (rs + 2188) dL_law_1381 mi_L_nextKey rfl ml_L_218 rfl rfl (Nat.le_of_ble_eq_true rfl) ⟨by decide, by decide⟩ (by omega) (by omega) (c_L_nextKey N _ _ _ _ _ hzz2) (fun n9 => ?_)
  refine x_istore (i := 5) (lv' := [(5, .int z2.1), (0, .ref b), (1, .ref x), (2, .ref m), (3, .ref o), (4, .int i)]) dL_law_1384 (by decide) rfl ?_
  refine x_aload_n 3 dL_law_1386 rfl rfl ?_
  refine x_aload_n 1 dL_law_1387 rfl rfl ?_
  refine x_iload 5 dL_law_1388 rfl ?_
  refine x_iconst 1 (by decide) dL_law_1390 ?_
  refine x_iadd dL_law_1391 ?_
  refine x_sld_r dL_law_1392 hF (fun v3 hF => ?_)
  obtain ⟨z4, hzz4, hF⟩ := x_bind hF
  obtain ⟨⟨fsz4, hbz4⟩, hzz4⟩ := x_cv_sp hzz4
  refine x_callv (As := [.int v3]) (rest := []) (rc + 38) (rs + 2188) dL_law_1393 mi_X6_nextKey ml_L_220 rfl rfl (Nat.le_of_ble_eq_true rfl) ⟨by decide, by decide⟩ (by omega) (by omega) hbz4 rfl (c_X6_nextKey N _ _ _ _ _ hzz4) (x_K.some ?_) x_KX.none
  refine x_istore (i := 6) (lv' := [(6, .int z4.1), (5, .int z2.1), (0, .ref b), (1, .ref x), (2, .ref m), (3, .ref o), (4, .int i)]) dL_law_1396 (by decide) rfl ?_
  refine x_aload_n 4 dL_law_1398 rfl rfl ?_
  obtain ⟨z5, hzz5, hF⟩ := x_bind hF
  obtain ⟨⟨fsz5, hbz5⟩, hzz5⟩ := x_cv_sp hzz5
  refine x_callv (As := []) (rest := []) (rc + 38) (rs + 2188) dL_law_1399 mi_X6_thrown ml_L_142 rfl rfl (Nat.le_of_ble_eq_true rfl) ⟨by decide, by decide⟩ (by omega) (by omega) hbz5 rfl (c_X6_thrown N _ _ _ _ hzz5) (x_K.some ?_) x_KX.none
  refine x_iload 1 dL_law_1402 rfl ?_
  refine x_icmp_eq 1409 dL_law_1404 (by decide) hF (fun hF => ?_) (fun hF => ?_)
  · refine x_iload 1 dL_law_1409 rfl ?_
    refine x_if_ne 1426 dL_law_1411 (by decide) hF (fun hF => ?_) (fun hF => ?_)
    · refine x_goto 2605 dL_law_1426 (by decide) ?_
      refine x_iinc (i + 3) (lv' := [(4, .int (i + 3)), (6, .int z4.1), (5, .int z2.1), (0, .ref b), (1, .ref x), (2, .ref m), (3, .ref o)]) dL_law_2605 6 rfl (by rfl) (by decide) rfl ?_
      refine x_goto 23 dL_law_2608 (by decide) ?_
      cases hF
      refine x_sub [3, 4, 5, 6, 0] rfl ?_
      exact x_less (rc' := rc) (rs' := rs) (by omega) (by omega) (hK _)
    · refine x_aload_n 5 dL_law_1414 rfl rfl ?_
      refine x_iconst 0 (by decide) dL_law_1415 ?_
      refine x_aldl_r dL_law_1416 hF (fun v6 hF => ?_)
      refine x_iload 0 dL_law_1417 rfl ?_
      refine x_i2l dL_law_1419 ?_
      refine x_lcmp dL_law_1420 ?_
      refine x_if_eq 1426 dL_law_1421 (by decide) hF (fun hF => ?_) (fun hF => ?_)
      · refine x_goto 2605 dL_law_1426 (by decide) ?_
        refine x_iinc (i + 3) (lv' := [(4, .int (i + 3)), (6, .int z4.1), (5, .int z2.1), (0, .ref b), (1, .ref x), (2, .ref m), (3, .ref o)]) dL_law_2605 6 rfl (by rfl) (by decide) rfl ?_
        refine x_goto 23 dL_law_2608 (by decide) ?_
        cases hF
        refine x_sub [3, 4, 5, 6, 0] rfl ?_
        exact x_less (rc' := rc) (rs' := rs) (by omega) (by omega) (hK _)
      · refine x_iconst 0 (by decide) dL_law_1424 ?_
        cases hF
  · refine x_iconst 0 (by decide) dL_law_1407 ?_
    cases hF
def F_law_24 (N L : Nat) (xs : Nat → Int32) (x m o : Nat) (i : Int32) (h : XH) : Option XM :=
  (x_sld L xs (i + 1)).bind fun v1 =>
  (F_L_keyBefore N (h.1, h.2) x v1 o).bind fun z2 =>
  (x_sld L xs (i + 1)).bind fun v3 =>
  (x_cv z2.2 6 m (F_X6_keyBefore N z2.2 m v3)).bind fun z4 =>
  (x_cv z4.2 6 m (F_X6_thrown N z4.2 m)).bind fun z5 =>
  if z5 = z2.1 then
    if z2.1 = 0 then
      (x_aldl z4.2 o 0).bind fun v6 =>
      if (lg_cmp v6 ((z4.1 : Int32).toInt64)) = 0 then
        some z4.2
      else
        none
    else
      some z4.2
  else
    none
set_option maxRecDepth 20000 in
set_option maxHeartbeats 4000000 in
theorem w_law_24 (N : Nat) {b L : Nat} {xs : Nat → Int32} (x m o : Nat) (i : Int32) (h : XH) {rc rs : Nat} (r : XM) (hF : F_law_24 N L xs x m o i h = some r) (hK : ∀ n : Nat, X mL_law 11 398 x_lz (x_RO b L xs) rc rs 23 [(0, .ref b), (1, .ref x), (2, .ref m), (3, .ref o), (4, .int (i + 3))] [] (r, n)) : X mL_law 11 398 x_lz (x_RO b L xs) (rc + 40) (rs + 2200) 1429 [(0, .ref b), (1, .ref x), (2, .ref m), (3, .ref o), (4, .int i)] [] h := by
  unfold F_law_24 at hF
  refine x_aload_n 1 dL_law_1429 rfl rfl ?_
  refine x_aload_n 0 dL_law_1430 rfl rfl ?_
  refine x_iload 4 dL_law_1431 rfl ?_
  refine x_iconst 1 (by decide) dL_law_1433 ?_
  refine x_iadd dL_law_1434 ?_
  refine x_sld_r dL_law_1435 hF (fun v1 hF => ?_)
  refine x_aload_n 3 dL_law_1436 rfl rfl ?_
  obtain ⟨z2, hzz2, hF⟩ := x_bind hF
  refine x_callsH (As := [.ref x, .int v1, .ref o]) (rest := []) (rc + 38) (rs + 2188) dL_law_1437 mi_L_keyBefore rfl ml_L_221 rfl rfl (Nat.le_of_ble_eq_true rfl) ⟨by decide, by decide⟩ (by omega) (by omega) (c_L_keyBefore N _ _ _ _ _ hzz2) (fun n9 => ?_)
  refine x_istore (i := 5) (lv' := [(5, .int z2.1), (0, .ref b), (1, .ref x), (2, .ref m), (3, .ref o), (4, .int i)]) dL_law_1440 (by decide) rfl ?_
  refine x_aload_n 3 dL_law_1442 rfl rfl ?_
  refine x_aload_n 1 dL_law_1443 rfl rfl ?_
  refine x_iload 5 dL_law_1444 rfl ?_
  refine x_iconst 1 (by decide) dL_law_1446 ?_
  refine x_iadd dL_law_1447 ?_
  refine x_sld_r dL_law_1448 hF (fun v3 hF => ?_)
  obtain ⟨z4, hzz4, hF⟩ := x_bind hF
  obtain ⟨⟨fsz4, hbz4⟩, hzz4⟩ := x_cv_sp hzz4
  refine x_callv (As := [.int v3]) (rest := []) (rc + 38) (rs + 2188) dL_law_1449 mi_X6_keyBefore ml_L_223 rfl rfl (Nat.le_of_ble_eq_true rfl) ⟨by decide, by decide⟩ (by omega) (by omega) hbz4 rfl (c_X6_keyBefore N _ _ _ _ _ hzz4) (x_K.some ?_) x_KX.none
  refine x_istore (i := 6) (lv' := [(6, .int z4.1), (5, .int z2.1), (0, .ref b), (1, .ref x), (2, .ref m), (3, .ref o), (4, .int i)]) dL_law_1452 (by decide) rfl ?_
  refine x_aload_n 4 dL_law_1454 rfl rfl ?_
  obtain ⟨z5, hzz5, hF⟩ := x_bind hF
  obtain ⟨⟨fsz5, hbz5⟩, hzz5⟩ := x_cv_sp hzz5
  refine x_callv (As := []) (rest := []) (rc + 38) (rs + 2188) dL_law_1455 mi_X6_thrown ml_L_142 rfl rfl (Nat.le_of_ble_eq_true rfl) ⟨by decide, by decide⟩ (by omega) (by omega) hbz5 rfl (c_X6_thrown N _ _ _ _ hzz5) (x_K.some ?_) x_KX.none
  refine x_iload 1 dL_law_1458 rfl ?_
  refine x_icmp_eq 1465 dL_law_1460 (by decide) hF (fun hF => ?_) (fun hF => ?_)
  · refine x_iload 1 dL_law_1465 rfl ?_
    refine x_if_ne 1482 dL_law_1467 (by decide) hF (fun hF => ?_) (fun hF => ?_)
    · refine x_goto 2605 dL_law_1482 (by decide) ?_
      refine x_iinc (i + 3) (lv' := [(4, .int (i + 3)), (6, .int z4.1), (5, .int z2.1), (0, .ref b), (1, .ref x), (2, .ref m), (3, .ref o)]) dL_law_2605 6 rfl (by rfl) (by decide) rfl ?_
      refine x_goto 23 dL_law_2608 (by decide) ?_
      cases hF
      refine x_sub [3, 4, 5, 6, 0] rfl ?_
      exact x_less (rc' := rc) (rs' := rs) (by omega) (by omega) (hK _)
    · refine x_aload_n 5 dL_law_1470 rfl rfl ?_
      refine x_iconst 0 (by decide) dL_law_1471 ?_
      refine x_aldl_r dL_law_1472 hF (fun v6 hF => ?_)
      refine x_iload 0 dL_law_1473 rfl ?_
      refine x_i2l dL_law_1475 ?_
      refine x_lcmp dL_law_1476 ?_
      refine x_if_eq 1482 dL_law_1477 (by decide) hF (fun hF => ?_) (fun hF => ?_)
      · refine x_goto 2605 dL_law_1482 (by decide) ?_
        refine x_iinc (i + 3) (lv' := [(4, .int (i + 3)), (6, .int z4.1), (5, .int z2.1), (0, .ref b), (1, .ref x), (2, .ref m), (3, .ref o)]) dL_law_2605 6 rfl (by rfl) (by decide) rfl ?_
        refine x_goto 23 dL_law_2608 (by decide) ?_
        cases hF
        refine x_sub [3, 4, 5, 6, 0] rfl ?_
        exact x_less (rc' := rc) (rs' := rs) (by omega) (by omega) (hK _)
      · refine x_iconst 0 (by decide) dL_law_1480 ?_
        cases hF
  · refine x_iconst 0 (by decide) dL_law_1463 ?_
    cases hF
def F_law_25 (N L : Nat) (xs : Nat → Int32) (x m o : Nat) (i : Int32) (h : XH) : Option XM :=
  (x_cv h.1 5 x (F_X5_found N h.1 x)).bind fun z1 =>
  (x_cv z1.2 6 m (F_X6_found N z1.2 m)).bind fun z2 =>
  if z1.1 = z2.1 then
    some z2.2
  else
    none
set_option maxRecDepth 20000 in
set_option maxHeartbeats 4000000 in
theorem w_law_25 (N : Nat) {b L : Nat} {xs : Nat → Int32} (x m o : Nat) (i : Int32) (h : XH) {rc rs : Nat} (r : XM) (hF : F_law_25 N L xs x m o i h = some r) (hK : ∀ n : Nat, X mL_law 11 398 x_lz (x_RO b L xs) rc rs 23 [(0, .ref b), (1, .ref x), (2, .ref m), (3, .ref o), (4, .int (i + 3))] [] (r, n)) : X mL_law 11 398 x_lz (x_RO b L xs) (rc + 40) (rs + 2200) 1485 [(0, .ref b), (1, .ref x), (2, .ref m), (3, .ref o), (4, .int i)] [] h := by
  unfold F_law_25 at hF
  refine x_aload_n 1 dL_law_1485 rfl rfl ?_
  obtain ⟨z1, hzz1, hF⟩ := x_bind hF
  obtain ⟨⟨fsz1, hbz1⟩, hzz1⟩ := x_cv_sp hzz1
  refine x_callv (As := []) (rest := []) (rc + 40) (rs + 2200) dL_law_1486 mi_X5_found ml_L_224 rfl rfl (Nat.le_of_ble_eq_true rfl) ⟨by decide, by decide⟩ (by omega) (by omega) hbz1 rfl (c_X5_found N _ _ _ _ hzz1) (x_K.some ?_) x_KX.none
  refine x_aload_n 2 dL_law_1489 rfl rfl ?_
  obtain ⟨z2, hzz2, hF⟩ := x_bind hF
  obtain ⟨⟨fsz2, hbz2⟩, hzz2⟩ := x_cv_sp hzz2
  refine x_callv (As := []) (rest := [.int z1.1]) (rc + 40) (rs + 2200) dL_law_1490 mi_X6_found ml_L_227 rfl rfl (Nat.le_of_ble_eq_true rfl) ⟨by decide, by decide⟩ (by omega) (by omega) hbz2 rfl (c_X6_found N _ _ _ _ hzz2) (x_K.some ?_) x_KX.none
  refine x_icmp_eq 2605 dL_law_1493 (by decide) hF (fun hF => ?_) (fun hF => ?_)
  · refine x_iinc (i + 3) (lv' := [(4, .int (i + 3)), (0, .ref b), (1, .ref x), (2, .ref m), (3, .ref o)]) dL_law_2605 4 rfl (by rfl) (by decide) rfl ?_
    refine x_goto 23 dL_law_2608 (by decide) ?_
    cases hF
    refine x_sub [1, 2, 3, 4, 0] rfl ?_
    exact x_less (rc' := rc) (rs' := rs) (by omega) (by omega) (hK _)
  · refine x_iconst 0 (by decide) dL_law_1496 ?_
    cases hF
def F_law_26 (N L : Nat) (xs : Nat → Int32) (x m o : Nat) (i : Int32) (h : XH) : Option XM :=
  (x_sld L xs (i + 1)).bind fun v1 =>
  (F_L_keyAt N (h.1, h.2) x v1 o).bind fun z2 =>
  (x_sld L xs (i + 1)).bind fun v3 =>
  (x_cv z2.2 6 m (F_X6_keyAt N z2.2 m v3)).bind fun z4 =>
  (x_cv z4.2 6 m (F_X6_thrown N z4.2 m)).bind fun z5 =>
  if z5 = z2.1 then
    if z2.1 = 0 then
      (x_aldl z4.2 o 0).bind fun v6 =>
      if (lg_cmp v6 ((z4.1 : Int32).toInt64)) = 0 then
        some z4.2
      else
        none
    else
      some z4.2
  else
    none
set_option maxRecDepth 20000 in
set_option maxHeartbeats 4000000 in
theorem w_law_26 (N : Nat) {b L : Nat} {xs : Nat → Int32} (x m o : Nat) (i : Int32) (h : XH) {rc rs : Nat} (r : XM) (hF : F_law_26 N L xs x m o i h = some r) (hK : ∀ n : Nat, X mL_law 11 398 x_lz (x_RO b L xs) rc rs 23 [(0, .ref b), (1, .ref x), (2, .ref m), (3, .ref o), (4, .int (i + 3))] [] (r, n)) : X mL_law 11 398 x_lz (x_RO b L xs) (rc + 40) (rs + 2200) 1498 [(0, .ref b), (1, .ref x), (2, .ref m), (3, .ref o), (4, .int i)] [] h := by
  unfold F_law_26 at hF
  refine x_aload_n 1 dL_law_1498 rfl rfl ?_
  refine x_aload_n 0 dL_law_1499 rfl rfl ?_
  refine x_iload 4 dL_law_1500 rfl ?_
  refine x_iconst 1 (by decide) dL_law_1502 ?_
  refine x_iadd dL_law_1503 ?_
  refine x_sld_r dL_law_1504 hF (fun v1 hF => ?_)
  refine x_aload_n 3 dL_law_1505 rfl rfl ?_
  obtain ⟨z2, hzz2, hF⟩ := x_bind hF
  refine x_callsH (As := [.ref x, .int v1, .ref o]) (rest := []) (rc + 39) (rs + 2194) dL_law_1506 mi_L_keyAt rfl ml_L_228 rfl rfl (Nat.le_of_ble_eq_true rfl) ⟨by decide, by decide⟩ (by omega) (by omega) (c_L_keyAt N _ _ _ _ _ hzz2) (fun n9 => ?_)
  refine x_istore (i := 5) (lv' := [(5, .int z2.1), (0, .ref b), (1, .ref x), (2, .ref m), (3, .ref o), (4, .int i)]) dL_law_1509 (by decide) rfl ?_
  refine x_aload_n 3 dL_law_1511 rfl rfl ?_
  refine x_aload_n 1 dL_law_1512 rfl rfl ?_
  refine x_iload 5 dL_law_1513 rfl ?_
  refine x_iconst 1 (by decide) dL_law_1515 ?_
  refine x_iadd dL_law_1516 ?_
  refine x_sld_r dL_law_1517 hF (fun v3 hF => ?_)
  obtain ⟨z4, hzz4, hF⟩ := x_bind hF
  obtain ⟨⟨fsz4, hbz4⟩, hzz4⟩ := x_cv_sp hzz4
  refine x_callv (As := [.int v3]) (rest := []) (rc + 39) (rs + 2194) dL_law_1518 mi_X6_keyAt ml_L_230 rfl rfl (Nat.le_of_ble_eq_true rfl) ⟨by decide, by decide⟩ (by omega) (by omega) hbz4 rfl (c_X6_keyAt N _ _ _ _ _ hzz4) (x_K.some ?_) x_KX.none
  refine x_istore (i := 6) (lv' := [(6, .int z4.1), (5, .int z2.1), (0, .ref b), (1, .ref x), (2, .ref m), (3, .ref o), (4, .int i)]) dL_law_1521 (by decide) rfl ?_
  refine x_aload_n 4 dL_law_1523 rfl rfl ?_
  obtain ⟨z5, hzz5, hF⟩ := x_bind hF
  obtain ⟨⟨fsz5, hbz5⟩, hzz5⟩ := x_cv_sp hzz5
  refine x_callv (As := []) (rest := []) (rc + 39) (rs + 2194) dL_law_1524 mi_X6_thrown ml_L_142 rfl rfl (Nat.le_of_ble_eq_true rfl) ⟨by decide, by decide⟩ (by omega) (by omega) hbz5 rfl (c_X6_thrown N _ _ _ _ hzz5) (x_K.some ?_) x_KX.none
  refine x_iload 1 dL_law_1527 rfl ?_
  refine x_icmp_eq 1534 dL_law_1529 (by decide) hF (fun hF => ?_) (fun hF => ?_)
  · refine x_iload 1 dL_law_1534 rfl ?_
    refine x_if_ne 1551 dL_law_1536 (by decide) hF (fun hF => ?_) (fun hF => ?_)
    · refine x_goto 2605 dL_law_1551 (by decide) ?_
      refine x_iinc (i + 3) (lv' := [(4, .int (i + 3)), (6, .int z4.1), (5, .int z2.1), (0, .ref b), (1, .ref x), (2, .ref m), (3, .ref o)]) dL_law_2605 6 rfl (by rfl) (by decide) rfl ?_
      refine x_goto 23 dL_law_2608 (by decide) ?_
      cases hF
      refine x_sub [3, 4, 5, 6, 0] rfl ?_
      exact x_less (rc' := rc) (rs' := rs) (by omega) (by omega) (hK _)
    · refine x_aload_n 5 dL_law_1539 rfl rfl ?_
      refine x_iconst 0 (by decide) dL_law_1540 ?_
      refine x_aldl_r dL_law_1541 hF (fun v6 hF => ?_)
      refine x_iload 0 dL_law_1542 rfl ?_
      refine x_i2l dL_law_1544 ?_
      refine x_lcmp dL_law_1545 ?_
      refine x_if_eq 1551 dL_law_1546 (by decide) hF (fun hF => ?_) (fun hF => ?_)
      · refine x_goto 2605 dL_law_1551 (by decide) ?_
        refine x_iinc (i + 3) (lv' := [(4, .int (i + 3)), (6, .int z4.1), (5, .int z2.1), (0, .ref b), (1, .ref x), (2, .ref m), (3, .ref o)]) dL_law_2605 6 rfl (by rfl) (by decide) rfl ?_
        refine x_goto 23 dL_law_2608 (by decide) ?_
        cases hF
        refine x_sub [3, 4, 5, 6, 0] rfl ?_
        exact x_less (rc' := rc) (rs' := rs) (by omega) (by omega) (hK _)
      · refine x_iconst 0 (by decide) dL_law_1549 ?_
        cases hF
  · refine x_iconst 0 (by decide) dL_law_1532 ?_
    cases hF
def F_law_27 (N L : Nat) (xs : Nat → Int32) (x m o : Nat) (i : Int32) (h : XH) : Option XM :=
  (x_cv h.1 5 x (F_X5_runs N h.1 x)).bind fun z1 =>
  (x_cv h.1 6 m (F_X6_runs N h.1 m)).bind fun z2 =>
  if z1 = z2.1 then
    some z2.2
  else
    none
set_option maxRecDepth 20000 in
set_option maxHeartbeats 4000000 in
theorem w_law_27 (N : Nat) {b L : Nat} {xs : Nat → Int32} (x m o : Nat) (i : Int32) (h : XH) {rc rs : Nat} (r : XM) (hF : F_law_27 N L xs x m o i h = some r) (hK : ∀ n : Nat, X mL_law 11 398 x_lz (x_RO b L xs) rc rs 23 [(0, .ref b), (1, .ref x), (2, .ref m), (3, .ref o), (4, .int (i + 3))] [] (r, n)) : X mL_law 11 398 x_lz (x_RO b L xs) (rc + 40) (rs + 2200) 1554 [(0, .ref b), (1, .ref x), (2, .ref m), (3, .ref o), (4, .int i)] [] h := by
  unfold F_law_27 at hF
  refine x_aload_n 1 dL_law_1554 rfl rfl ?_
  obtain ⟨z1, hzz1, hF⟩ := x_bind hF
  obtain ⟨⟨fsz1, hbz1⟩, hzz1⟩ := x_cv_sp hzz1
  refine x_callv (As := []) (rest := []) (rc + 40) (rs + 2200) dL_law_1555 mi_X5_runs ml_L_231 rfl rfl (Nat.le_of_ble_eq_true rfl) ⟨by decide, by decide⟩ (by omega) (by omega) hbz1 rfl (c_X5_runs N _ _ _ _ hzz1) (x_K.some ?_) x_KX.none
  refine x_aload_n 2 dL_law_1558 rfl rfl ?_
  obtain ⟨z2, hzz2, hF⟩ := x_bind hF
  obtain ⟨⟨fsz2, hbz2⟩, hzz2⟩ := x_cv_sp hzz2
  refine x_callv (As := []) (rest := [.int z1]) (rc + 40) (rs + 2200) dL_law_1559 mi_X6_runs ml_L_234 rfl rfl (Nat.le_of_ble_eq_true rfl) ⟨by decide, by decide⟩ (by omega) (by omega) hbz2 rfl (c_X6_runs N _ _ _ _ hzz2) (x_K.some ?_) x_KX.none
  refine x_icmp_eq 2605 dL_law_1562 (by decide) hF (fun hF => ?_) (fun hF => ?_)
  · refine x_iinc (i + 3) (lv' := [(4, .int (i + 3)), (0, .ref b), (1, .ref x), (2, .ref m), (3, .ref o)]) dL_law_2605 4 rfl (by rfl) (by decide) rfl ?_
    refine x_goto 23 dL_law_2608 (by decide) ?_
    cases hF
    refine x_sub [1, 2, 3, 4, 0] rfl ?_
    exact x_less (rc' := rc) (rs' := rs) (by omega) (by omega) (hK _)
  · refine x_iconst 0 (by decide) dL_law_1565 ?_
    cases hF
def F_law_28 (N L : Nat) (xs : Nat → Int32) (x m o : Nat) (i : Int32) (h : XH) : Option XM :=
  (x_sld L xs (i + 1)).bind fun v1 =>
  (F_L_sizeOf N (h.1, h.2) x v1 o).bind fun z2 =>
  (x_sld L xs (i + 1)).bind fun v3 =>
  (x_cv z2.2 6 m (F_X6_sizeOf N z2.2 m v3)).bind fun z4 =>
  (x_cv z4.2 6 m (F_X6_thrown N z4.2 m)).bind fun z5 =>
  if z5 = z2.1 then
    if z2.1 = 0 then
      (x_aldl z4.2 o 0).bind fun v6 =>
      if (lg_cmp v6 ((z4.1 : Int32).toInt64)) = 0 then
        some z4.2
      else
        none
    else
      some z4.2
  else
    none
set_option maxRecDepth 20000 in
set_option maxHeartbeats 4000000 in
theorem w_law_28 (N : Nat) {b L : Nat} {xs : Nat → Int32} (x m o : Nat) (i : Int32) (h : XH) {rc rs : Nat} (r : XM) (hF : F_law_28 N L xs x m o i h = some r) (hK : ∀ n : Nat, X mL_law 11 398 x_lz (x_RO b L xs) rc rs 23 [(0, .ref b), (1, .ref x), (2, .ref m), (3, .ref o), (4, .int (i + 3))] [] (r, n)) : X mL_law 11 398 x_lz (x_RO b L xs) (rc + 40) (rs + 2200) 1567 [(0, .ref b), (1, .ref x), (2, .ref m), (3, .ref o), (4, .int i)] [] h := by
  unfold F_law_28 at hF
  refine x_aload_n 1 dL_law_1567 rfl rfl ?_
  refine x_aload_n 0 dL_law_1568 rfl rfl ?_
  refine x_iload 4 dL_law_1569 rfl ?_
  refine x_iconst 1 (by decide) dL_law_1571 ?_
  refine x_iadd dL_law_1572 ?_
  refine x_sld_r dL_law_1573 hF (fun v1 hF => ?_)
  refine x_aload_n 3 dL_law_1574 rfl rfl ?_
  obtain ⟨z2, hzz2, hF⟩ := x_bind hF
  refine x_callsH (As := [.ref x, .int v1, .ref o]) (rest := []) (rc + 39) (rs + 2194) dL_law_1575 mi_L_sizeOf rfl ml_L_235 rfl rfl (Nat.le_of_ble_eq_true rfl) ⟨by decide, by decide⟩ (by omega) (by omega) (c_L_sizeOf N _ _ _ _ _ hzz2) (fun n9 => ?_)
  refine x_istore (i := 5) (lv' := [(5, .int z2.1), (0, .ref b), (1, .ref x), (2, .ref m), (3, .ref o), (4, .int i)]) dL_law_1578 (by decide) rfl ?_
  refine x_aload_n 3 dL_law_1580 rfl rfl ?_
  refine x_aload_n 1 dL_law_1581 rfl rfl ?_
  refine x_iload 5 dL_law_1582 rfl ?_
  refine x_iconst 1 (by decide) dL_law_1584 ?_
  refine x_iadd dL_law_1585 ?_
  refine x_sld_r dL_law_1586 hF (fun v3 hF => ?_)
  obtain ⟨z4, hzz4, hF⟩ := x_bind hF
  obtain ⟨⟨fsz4, hbz4⟩, hzz4⟩ := x_cv_sp hzz4
  refine x_callv (As := [.int v3]) (rest := []) (rc + 39) (rs + 2194) dL_law_1587 mi_X6_sizeOf ml_L_237 rfl rfl (Nat.le_of_ble_eq_true rfl) ⟨by decide, by decide⟩ (by omega) (by omega) hbz4 rfl (c_X6_sizeOf N _ _ _ _ _ hzz4) (x_K.some ?_) x_KX.none
  refine x_istore (i := 6) (lv' := [(6, .int z4.1), (5, .int z2.1), (0, .ref b), (1, .ref x), (2, .ref m), (3, .ref o), (4, .int i)]) dL_law_1590 (by decide) rfl ?_
  refine x_aload_n 4 dL_law_1592 rfl rfl ?_
  obtain ⟨z5, hzz5, hF⟩ := x_bind hF
  obtain ⟨⟨fsz5, hbz5⟩, hzz5⟩ := x_cv_sp hzz5
  refine x_callv (As := []) (rest := []) (rc + 39) (rs + 2194) dL_law_1593 mi_X6_thrown ml_L_142 rfl rfl (Nat.le_of_ble_eq_true rfl) ⟨by decide, by decide⟩ (by omega) (by omega) hbz5 rfl (c_X6_thrown N _ _ _ _ hzz5) (x_K.some ?_) x_KX.none
  refine x_iload 1 dL_law_1596 rfl ?_
  refine x_icmp_eq 1603 dL_law_1598 (by decide) hF (fun hF => ?_) (fun hF => ?_)
  · refine x_iload 1 dL_law_1603 rfl ?_
    refine x_if_ne 1620 dL_law_1605 (by decide) hF (fun hF => ?_) (fun hF => ?_)
    · refine x_goto 2605 dL_law_1620 (by decide) ?_
      refine x_iinc (i + 3) (lv' := [(4, .int (i + 3)), (6, .int z4.1), (5, .int z2.1), (0, .ref b), (1, .ref x), (2, .ref m), (3, .ref o)]) dL_law_2605 6 rfl (by rfl) (by decide) rfl ?_
      refine x_goto 23 dL_law_2608 (by decide) ?_
      cases hF
      refine x_sub [3, 4, 5, 6, 0] rfl ?_
      exact x_less (rc' := rc) (rs' := rs) (by omega) (by omega) (hK _)
    · refine x_aload_n 5 dL_law_1608 rfl rfl ?_
      refine x_iconst 0 (by decide) dL_law_1609 ?_
      refine x_aldl_r dL_law_1610 hF (fun v6 hF => ?_)
      refine x_iload 0 dL_law_1611 rfl ?_
      refine x_i2l dL_law_1613 ?_
      refine x_lcmp dL_law_1614 ?_
      refine x_if_eq 1620 dL_law_1615 (by decide) hF (fun hF => ?_) (fun hF => ?_)
      · refine x_goto 2605 dL_law_1620 (by decide) ?_
        refine x_iinc (i + 3) (lv' := [(4, .int (i + 3)), (6, .int z4.1), (5, .int z2.1), (0, .ref b), (1, .ref x), (2, .ref m), (3, .ref o)]) dL_law_2605 6 rfl (by rfl) (by decide) rfl ?_
        refine x_goto 23 dL_law_2608 (by decide) ?_
        cases hF
        refine x_sub [3, 4, 5, 6, 0] rfl ?_
        exact x_less (rc' := rc) (rs' := rs) (by omega) (by omega) (hK _)
      · refine x_iconst 0 (by decide) dL_law_1618 ?_
        cases hF
  · refine x_iconst 0 (by decide) dL_law_1601 ?_
    cases hF
def F_law_29 (N L : Nat) (xs : Nat → Int32) (x m o : Nat) (i : Int32) (h : XH) : Option XM :=
  (x_sld L xs (i + 1)).bind fun v1 =>
  (x_sld L xs (i + 2)).bind fun v2 =>
  (F_L_keyIn N (h.1, h.2) x v1 v2 o).bind fun z3 =>
  (x_sld L xs (i + 1)).bind fun v4 =>
  (x_sld L xs (i + 2)).bind fun v5 =>
  (x_cv z3.2 6 m (F_X6_keyIn N z3.2 m v4 v5)).bind fun z6 =>
  (x_cv z6.2 6 m (F_X6_thrown N z6.2 m)).bind fun z7 =>
  if z7 = z3.1 then
    if z3.1 = 0 then
      (x_aldl z6.2 o 0).bind fun v8 =>
      if (lg_cmp v8 ((z6.1 : Int32).toInt64)) = 0 then
        some z6.2
      else
        none
    else
      some z6.2
  else
    none
set_option maxRecDepth 20000 in
set_option maxHeartbeats 4000000 in
theorem w_law_29 (N : Nat) {b L : Nat} {xs : Nat → Int32} (x m o : Nat) (i : Int32) (h : XH) {rc rs : Nat} (r : XM) (hF : F_law_29 N L xs x m o i h = some r) (hK : ∀ n : Nat, X mL_law 11 398 x_lz (x_RO b L xs) rc rs 23 [(0, .ref b), (1, .ref x), (2, .ref m), (3, .ref o), (4, .int (i + 3))] [] (r, n)) : X mL_law 11 398 x_lz (x_RO b L xs) (rc + 40) (rs + 2200) 1623 [(0, .ref b), (1, .ref x), (2, .ref m), (3, .ref o), (4, .int i)] [] h := by
  unfold F_law_29 at hF
  refine x_aload_n 1 dL_law_1623 rfl rfl ?_
  refine x_aload_n 0 dL_law_1624 rfl rfl ?_
  refine x_iload 4 dL_law_1625 rfl ?_
  refine x_iconst 1 (by decide) dL_law_1627 ?_
  refine x_iadd dL_law_1628 ?_
  refine x_sld_r dL_law_1629 hF (fun v1 hF => ?_)
  refine x_aload_n 0 dL_law_1630 rfl rfl ?_
  refine x_iload 4 dL_law_1631 rfl ?_
  refine x_iconst 2 (by decide) dL_law_1633 ?_
  refine x_iadd dL_law_1634 ?_
  refine x_sld_r dL_law_1635 hF (fun v2 hF => ?_)
  refine x_aload_n 3 dL_law_1636 rfl rfl ?_
  obtain ⟨z3, hzz3, hF⟩ := x_bind hF
  refine x_callsH (As := [.ref x, .int v1, .int v2, .ref o]) (rest := []) (rc + 39) (rs + 2194) dL_law_1637 mi_L_keyIn rfl ml_L_238 rfl rfl (Nat.le_of_ble_eq_true rfl) ⟨by decide, by decide⟩ (by omega) (by omega) (c_L_keyIn N _ _ _ _ _ _ hzz3) (fun n9 => ?_)
  refine x_istore (i := 5) (lv' := [(5, .int z3.1), (0, .ref b), (1, .ref x), (2, .ref m), (3, .ref o), (4, .int i)]) dL_law_1640 (by decide) rfl ?_
  refine x_aload_n 3 dL_law_1642 rfl rfl ?_
  refine x_aload_n 1 dL_law_1643 rfl rfl ?_
  refine x_iload 5 dL_law_1644 rfl ?_
  refine x_iconst 1 (by decide) dL_law_1646 ?_
  refine x_iadd dL_law_1647 ?_
  refine x_sld_r dL_law_1648 hF (fun v4 hF => ?_)
  refine x_aload_n 1 dL_law_1649 rfl rfl ?_
  refine x_iload 5 dL_law_1650 rfl ?_
  refine x_iconst 2 (by decide) dL_law_1652 ?_
  refine x_iadd dL_law_1653 ?_
  refine x_sld_r dL_law_1654 hF (fun v5 hF => ?_)
  obtain ⟨z6, hzz6, hF⟩ := x_bind hF
  obtain ⟨⟨fsz6, hbz6⟩, hzz6⟩ := x_cv_sp hzz6
  refine x_callv (As := [.int v4, .int v5]) (rest := []) (rc + 39) (rs + 2194) dL_law_1655 mi_X6_keyIn ml_L_240 rfl rfl (Nat.le_of_ble_eq_true rfl) ⟨by decide, by decide⟩ (by omega) (by omega) hbz6 rfl (c_X6_keyIn N _ _ _ _ _ _ hzz6) (x_K.some ?_) x_KX.none
  refine x_istore (i := 6) (lv' := [(6, .int z6.1), (5, .int z3.1), (0, .ref b), (1, .ref x), (2, .ref m), (3, .ref o), (4, .int i)]) dL_law_1658 (by decide) rfl ?_
  refine x_aload_n 4 dL_law_1660 rfl rfl ?_
  obtain ⟨z7, hzz7, hF⟩ := x_bind hF
  obtain ⟨⟨fsz7, hbz7⟩, hzz7⟩ := x_cv_sp hzz7
  refine x_callv (As := []) (rest := []) (rc + 39) (rs + 2194) dL_law_1661 mi_X6_thrown ml_L_142 rfl rfl (Nat.le_of_ble_eq_true rfl) ⟨by decide, by decide⟩ (by omega) (by omega) hbz7 rfl (c_X6_thrown N _ _ _ _ hzz7) (x_K.some ?_) x_KX.none
  refine x_iload 1 dL_law_1664 rfl ?_
  refine x_icmp_eq 1671 dL_law_1666 (by decide) hF (fun hF => ?_) (fun hF => ?_)
  · refine x_iload 1 dL_law_1671 rfl ?_
    refine x_if_ne 1688 dL_law_1673 (by decide) hF (fun hF => ?_) (fun hF => ?_)
    · refine x_goto 2605 dL_law_1688 (by decide) ?_
      refine x_iinc (i + 3) (lv' := [(4, .int (i + 3)), (6, .int z6.1), (5, .int z3.1), (0, .ref b), (1, .ref x), (2, .ref m), (3, .ref o)]) dL_law_2605 6 rfl (by rfl) (by decide) rfl ?_
      refine x_goto 23 dL_law_2608 (by decide) ?_
      cases hF
      refine x_sub [3, 4, 5, 6, 0] rfl ?_
      exact x_less (rc' := rc) (rs' := rs) (by omega) (by omega) (hK _)
    · refine x_aload_n 5 dL_law_1676 rfl rfl ?_
      refine x_iconst 0 (by decide) dL_law_1677 ?_
      refine x_aldl_r dL_law_1678 hF (fun v8 hF => ?_)
      refine x_iload 0 dL_law_1679 rfl ?_
      refine x_i2l dL_law_1681 ?_
      refine x_lcmp dL_law_1682 ?_
      refine x_if_eq 1688 dL_law_1683 (by decide) hF (fun hF => ?_) (fun hF => ?_)
      · refine x_goto 2605 dL_law_1688 (by decide) ?_
        refine x_iinc (i + 3) (lv' := [(4, .int (i + 3)), (6, .int z6.1), (5, .int z3.1), (0, .ref b), (1, .ref x), (2, .ref m), (3, .ref o)]) dL_law_2605 6 rfl (by rfl) (by decide) rfl ?_
        refine x_goto 23 dL_law_2608 (by decide) ?_
        cases hF
        refine x_sub [3, 4, 5, 6, 0] rfl ?_
        exact x_less (rc' := rc) (rs' := rs) (by omega) (by omega) (hK _)
      · refine x_iconst 0 (by decide) dL_law_1686 ?_
        cases hF
  · refine x_iconst 0 (by decide) dL_law_1669 ?_
    cases hF
def F_law_30 (N L : Nat) (xs : Nat → Int32) (x m o : Nat) (i : Int32) (h : XH) : Option XM :=
  (x_sld L xs (i + 1)).bind fun v1 =>
  (x_sld L xs (i + 2)).bind fun v2 =>
  (F_L_isGoneIn N (h.1, h.2) x v1 v2 o).bind fun z3 =>
  (x_sld L xs (i + 1)).bind fun v4 =>
  (x_sld L xs (i + 2)).bind fun v5 =>
  (x_cv z3.2 6 m (F_X6_isGoneIn N z3.2 m v4 v5)).bind fun z6 =>
  (x_cv z6.2 6 m (F_X6_thrown N z6.2 m)).bind fun z7 =>
  if z7 = z3.1 then
    if z3.1 = 0 then
      (x_aldl z6.2 o 0).bind fun v8 =>
      if (x_b z6.1) = 0 then
        if (lg_cmp v8 (0 : Int64)) = 0 then
          some z6.2
        else
          none
      else
        if (lg_cmp v8 (1 : Int64)) = 0 then
          some z6.2
        else
          none
    else
      some z6.2
  else
    none
set_option maxRecDepth 20000 in
set_option maxHeartbeats 4000000 in
theorem w_law_30 (N : Nat) {b L : Nat} {xs : Nat → Int32} (x m o : Nat) (i : Int32) (h : XH) {rc rs : Nat} (r : XM) (hF : F_law_30 N L xs x m o i h = some r) (hK : ∀ n : Nat, X mL_law 11 398 x_lz (x_RO b L xs) rc rs 23 [(0, .ref b), (1, .ref x), (2, .ref m), (3, .ref o), (4, .int (i + 3))] [] (r, n)) : X mL_law 11 398 x_lz (x_RO b L xs) (rc + 40) (rs + 2200) 1691 [(0, .ref b), (1, .ref x), (2, .ref m), (3, .ref o), (4, .int i)] [] h := by
  unfold F_law_30 at hF
  refine x_aload_n 1 dL_law_1691 rfl rfl ?_
  refine x_aload_n 0 dL_law_1692 rfl rfl ?_
  refine x_iload 4 dL_law_1693 rfl ?_
  refine x_iconst 1 (by decide) dL_law_1695 ?_
  refine x_iadd dL_law_1696 ?_
  refine x_sld_r dL_law_1697 hF (fun v1 hF => ?_)
  refine x_aload_n 0 dL_law_1698 rfl rfl ?_
  refine x_iload 4 dL_law_1699 rfl ?_
  refine x_iconst 2 (by decide) dL_law_1701 ?_
  refine x_iadd dL_law_1702 ?_
  refine x_sld_r dL_law_1703 hF (fun v2 hF => ?_)
  refine x_aload_n 3 dL_law_1704 rfl rfl ?_
  obtain ⟨z3, hzz3, hF⟩ := x_bind hF
  refine x_callsH (As := [.ref x, .int v1, .int v2, .ref o]) (rest := []) (rc + 39) (rs + 2194) dL_law_1705 mi_L_isGoneIn rfl ml_L_241 rfl rfl (Nat.le_of_ble_eq_true rfl) ⟨by decide, by decide⟩ (by omega) (by omega) (c_L_isGoneIn N _ _ _ _ _ _ hzz3) (fun n9 => ?_)
  refine x_istore (i := 5) (lv' := [(5, .int z3.1), (0, .ref b), (1, .ref x), (2, .ref m), (3, .ref o), (4, .int i)]) dL_law_1708 (by decide) rfl ?_
  refine x_aload_n 3 dL_law_1710 rfl rfl ?_
  refine x_aload_n 1 dL_law_1711 rfl rfl ?_
  refine x_iload 5 dL_law_1712 rfl ?_
  refine x_iconst 1 (by decide) dL_law_1714 ?_
  refine x_iadd dL_law_1715 ?_
  refine x_sld_r dL_law_1716 hF (fun v4 hF => ?_)
  refine x_aload_n 1 dL_law_1717 rfl rfl ?_
  refine x_iload 5 dL_law_1718 rfl ?_
  refine x_iconst 2 (by decide) dL_law_1720 ?_
  refine x_iadd dL_law_1721 ?_
  refine x_sld_r dL_law_1722 hF (fun v5 hF => ?_)
  obtain ⟨z6, hzz6, hF⟩ := x_bind hF
  obtain ⟨⟨fsz6, hbz6⟩, hzz6⟩ := x_cv_sp hzz6
  refine x_callv (As := [.int v4, .int v5]) (rest := []) (rc + 39) (rs + 2194) dL_law_1723 mi_X6_isGoneIn ml_L_243 rfl rfl (Nat.le_of_ble_eq_true rfl) ⟨by decide, by decide⟩ (by omega) (by omega) hbz6 rfl (c_X6_isGoneIn N _ _ _ _ _ _ hzz6) (x_K.some ?_) x_KX.none
  refine x_istore (i := 6) (lv' := [(6, .int (x_b z6.1)), (5, .int z3.1), (0, .ref b), (1, .ref x), (2, .ref m), (3, .ref o), (4, .int i)]) dL_law_1726 (by decide) rfl ?_
  refine x_aload_n 4 dL_law_1728 rfl rfl ?_
  obtain ⟨z7, hzz7, hF⟩ := x_bind hF
  obtain ⟨⟨fsz7, hbz7⟩, hzz7⟩ := x_cv_sp hzz7
  refine x_callv (As := []) (rest := []) (rc + 39) (rs + 2194) dL_law_1729 mi_X6_thrown ml_L_142 rfl rfl (Nat.le_of_ble_eq_true rfl) ⟨by decide, by decide⟩ (by omega) (by omega) hbz7 rfl (c_X6_thrown N _ _ _ _ hzz7) (x_K.some ?_) x_KX.none
  refine x_iload 1 dL_law_1732 rfl ?_
  refine x_icmp_eq 1739 dL_law_1734 (by decide) hF (fun hF => ?_) (fun hF => ?_)
  · refine x_iload 1 dL_law_1739 rfl ?_
    refine x_if_ne 1763 dL_law_1741 (by decide) hF (fun hF => ?_) (fun hF => ?_)
    · refine x_goto 2605 dL_law_1763 (by decide) ?_
      refine x_iinc (i + 3) (lv' := [(4, .int (i + 3)), (6, .int (x_b z6.1)), (5, .int z3.1), (0, .ref b), (1, .ref x), (2, .ref m), (3, .ref o)]) dL_law_2605 6 rfl (by rfl) (by decide) rfl ?_
      refine x_goto 23 dL_law_2608 (by decide) ?_
      cases hF
      refine x_sub [3, 4, 5, 6, 0] rfl ?_
      exact x_less (rc' := rc) (rs' := rs) (by omega) (by omega) (hK _)
    · refine x_aload_n 5 dL_law_1744 rfl rfl ?_
      refine x_iconst 0 (by decide) dL_law_1745 ?_
      refine x_aldl_r dL_law_1746 hF (fun v8 hF => ?_)
      refine x_iload 0 dL_law_1747 rfl ?_
      refine x_if_eq 1756 dL_law_1749 (by decide) hF (fun hF => ?_) (fun hF => ?_)
      · refine x_lconst 0 (by decide) dL_law_1756 ?_
        refine x_lcmp dL_law_1757 ?_
        refine x_if_eq 1763 dL_law_1758 (by decide) hF (fun hF => ?_) (fun hF => ?_)
        · refine x_goto 2605 dL_law_1763 (by decide) ?_
          refine x_iinc (i + 3) (lv' := [(4, .int (i + 3)), (6, .int (x_b z6.1)), (5, .int z3.1), (0, .ref b), (1, .ref x), (2, .ref m), (3, .ref o)]) dL_law_2605 6 rfl (by rfl) (by decide) rfl ?_
          refine x_goto 23 dL_law_2608 (by decide) ?_
          cases hF
          refine x_sub [3, 4, 5, 6, 0] rfl ?_
          exact x_less (rc' := rc) (rs' := rs) (by omega) (by omega) (hK _)
        · refine x_iconst 0 (by decide) dL_law_1761 ?_
          cases hF
      · refine x_lconst 1 (by decide) dL_law_1752 ?_
        refine x_goto 1757 dL_law_1753 (by decide) ?_
        refine x_lcmp dL_law_1757 ?_
        refine x_if_eq 1763 dL_law_1758 (by decide) hF (fun hF => ?_) (fun hF => ?_)
        · refine x_goto 2605 dL_law_1763 (by decide) ?_
          refine x_iinc (i + 3) (lv' := [(4, .int (i + 3)), (6, .int (x_b z6.1)), (5, .int z3.1), (0, .ref b), (1, .ref x), (2, .ref m), (3, .ref o)]) dL_law_2605 6 rfl (by rfl) (by decide) rfl ?_
          refine x_goto 23 dL_law_2608 (by decide) ?_
          cases hF
          refine x_sub [3, 4, 5, 6, 0] rfl ?_
          exact x_less (rc' := rc) (rs' := rs) (by omega) (by omega) (hK _)
        · refine x_iconst 0 (by decide) dL_law_1761 ?_
          cases hF
  · refine x_iconst 0 (by decide) dL_law_1737 ?_
    cases hF
def F_law_31 (N L : Nat) (xs : Nat → Int32) (x m o : Nat) (i : Int32) (h : XH) : Option XM :=
  (x_sld L xs (i + 1)).bind fun v1 =>
  (F_L_runOf N (h.1, h.2) x v1 o).bind fun z2 =>
  (x_sld L xs (i + 1)).bind fun v3 =>
  (x_cv z2.2 6 m (F_X6_runOf N z2.2 m v3)).bind fun z4 =>
  (x_cv z4.2 6 m (F_X6_thrown N z4.2 m)).bind fun z5 =>
  if z5 = z2.1 then
    if z2.1 = 0 then
      (x_aldl z4.2 o 0).bind fun v6 =>
      if (lg_cmp v6 ((z4.1 : Int32).toInt64)) = 0 then
        some z4.2
      else
        none
    else
      some z4.2
  else
    none
set_option maxRecDepth 20000 in
set_option maxHeartbeats 4000000 in
theorem w_law_31 (N : Nat) {b L : Nat} {xs : Nat → Int32} (x m o : Nat) (i : Int32) (h : XH) {rc rs : Nat} (r : XM) (hF : F_law_31 N L xs x m o i h = some r) (hK : ∀ n : Nat, X mL_law 11 398 x_lz (x_RO b L xs) rc rs 23 [(0, .ref b), (1, .ref x), (2, .ref m), (3, .ref o), (4, .int (i + 3))] [] (r, n)) : X mL_law 11 398 x_lz (x_RO b L xs) (rc + 40) (rs + 2200) 1766 [(0, .ref b), (1, .ref x), (2, .ref m), (3, .ref o), (4, .int i)] [] h := by
  unfold F_law_31 at hF
  refine x_aload_n 1 dL_law_1766 rfl rfl ?_
  refine x_aload_n 0 dL_law_1767 rfl rfl ?_
  refine x_iload 4 dL_law_1768 rfl ?_
  refine x_iconst 1 (by decide) dL_law_1770 ?_
  refine x_iadd dL_law_1771 ?_
  refine x_sld_r dL_law_1772 hF (fun v1 hF => ?_)
  refine x_aload_n 3 dL_law_1773 rfl rfl ?_
  obtain ⟨z2, hzz2, hF⟩ := x_bind hF
  refine x_callsH (As := [.ref x, .int v1, .ref o]) (rest := []) (rc + 38) (rs + 2188) dL_law_1774 mi_L_runOf rfl ml_L_244 rfl rfl (Nat.le_of_ble_eq_true rfl) ⟨by decide, by decide⟩ (by omega) (by omega) (c_L_runOf N _ _ _ _ _ hzz2) (fun n9 => ?_)
  refine x_istore (i := 5) (lv' := [(5, .int z2.1), (0, .ref b), (1, .ref x), (2, .ref m), (3, .ref o), (4, .int i)]) dL_law_1777 (by decide) rfl ?_
  refine x_aload_n 3 dL_law_1779 rfl rfl ?_
  refine x_aload_n 1 dL_law_1780 rfl rfl ?_
  refine x_iload 5 dL_law_1781 rfl ?_
  refine x_iconst 1 (by decide) dL_law_1783 ?_
  refine x_iadd dL_law_1784 ?_
  refine x_sld_r dL_law_1785 hF (fun v3 hF => ?_)
  obtain ⟨z4, hzz4, hF⟩ := x_bind hF
  obtain ⟨⟨fsz4, hbz4⟩, hzz4⟩ := x_cv_sp hzz4
  refine x_callv (As := [.int v3]) (rest := []) (rc + 38) (rs + 2188) dL_law_1786 mi_X6_runOf ml_L_246 rfl rfl (Nat.le_of_ble_eq_true rfl) ⟨by decide, by decide⟩ (by omega) (by omega) hbz4 rfl (c_X6_runOf N _ _ _ _ _ hzz4) (x_K.some ?_) x_KX.none
  refine x_istore (i := 6) (lv' := [(6, .int z4.1), (5, .int z2.1), (0, .ref b), (1, .ref x), (2, .ref m), (3, .ref o), (4, .int i)]) dL_law_1789 (by decide) rfl ?_
  refine x_aload_n 4 dL_law_1791 rfl rfl ?_
  obtain ⟨z5, hzz5, hF⟩ := x_bind hF
  obtain ⟨⟨fsz5, hbz5⟩, hzz5⟩ := x_cv_sp hzz5
  refine x_callv (As := []) (rest := []) (rc + 38) (rs + 2188) dL_law_1792 mi_X6_thrown ml_L_142 rfl rfl (Nat.le_of_ble_eq_true rfl) ⟨by decide, by decide⟩ (by omega) (by omega) hbz5 rfl (c_X6_thrown N _ _ _ _ hzz5) (x_K.some ?_) x_KX.none
  refine x_iload 1 dL_law_1795 rfl ?_
  refine x_icmp_eq 1802 dL_law_1797 (by decide) hF (fun hF => ?_) (fun hF => ?_)
  · refine x_iload 1 dL_law_1802 rfl ?_
    refine x_if_ne 1819 dL_law_1804 (by decide) hF (fun hF => ?_) (fun hF => ?_)
    · refine x_goto 2605 dL_law_1819 (by decide) ?_
      refine x_iinc (i + 3) (lv' := [(4, .int (i + 3)), (6, .int z4.1), (5, .int z2.1), (0, .ref b), (1, .ref x), (2, .ref m), (3, .ref o)]) dL_law_2605 6 rfl (by rfl) (by decide) rfl ?_
      refine x_goto 23 dL_law_2608 (by decide) ?_
      cases hF
      refine x_sub [3, 4, 5, 6, 0] rfl ?_
      exact x_less (rc' := rc) (rs' := rs) (by omega) (by omega) (hK _)
    · refine x_aload_n 5 dL_law_1807 rfl rfl ?_
      refine x_iconst 0 (by decide) dL_law_1808 ?_
      refine x_aldl_r dL_law_1809 hF (fun v6 hF => ?_)
      refine x_iload 0 dL_law_1810 rfl ?_
      refine x_i2l dL_law_1812 ?_
      refine x_lcmp dL_law_1813 ?_
      refine x_if_eq 1819 dL_law_1814 (by decide) hF (fun hF => ?_) (fun hF => ?_)
      · refine x_goto 2605 dL_law_1819 (by decide) ?_
        refine x_iinc (i + 3) (lv' := [(4, .int (i + 3)), (6, .int z4.1), (5, .int z2.1), (0, .ref b), (1, .ref x), (2, .ref m), (3, .ref o)]) dL_law_2605 6 rfl (by rfl) (by decide) rfl ?_
        refine x_goto 23 dL_law_2608 (by decide) ?_
        cases hF
        refine x_sub [3, 4, 5, 6, 0] rfl ?_
        exact x_less (rc' := rc) (rs' := rs) (by omega) (by omega) (hK _)
      · refine x_iconst 0 (by decide) dL_law_1817 ?_
        cases hF
  · refine x_iconst 0 (by decide) dL_law_1800 ?_
    cases hF
def F_law_32 (N L : Nat) (xs : Nat → Int32) (x m o : Nat) (i : Int32) (h : XH) : Option XM :=
  (x_cv h.1 5 x (F_X5_entries N h.1 x)).bind fun z1 =>
  (x_cv h.1 6 m (F_X6_entries N h.1 m)).bind fun z2 =>
  if z1 = z2.1 then
    some z2.2
  else
    none
set_option maxRecDepth 20000 in
set_option maxHeartbeats 4000000 in
theorem w_law_32 (N : Nat) {b L : Nat} {xs : Nat → Int32} (x m o : Nat) (i : Int32) (h : XH) {rc rs : Nat} (r : XM) (hF : F_law_32 N L xs x m o i h = some r) (hK : ∀ n : Nat, X mL_law 11 398 x_lz (x_RO b L xs) rc rs 23 [(0, .ref b), (1, .ref x), (2, .ref m), (3, .ref o), (4, .int (i + 3))] [] (r, n)) : X mL_law 11 398 x_lz (x_RO b L xs) (rc + 40) (rs + 2200) 1822 [(0, .ref b), (1, .ref x), (2, .ref m), (3, .ref o), (4, .int i)] [] h := by
  unfold F_law_32 at hF
  refine x_aload_n 1 dL_law_1822 rfl rfl ?_
  obtain ⟨z1, hzz1, hF⟩ := x_bind hF
  obtain ⟨⟨fsz1, hbz1⟩, hzz1⟩ := x_cv_sp hzz1
  refine x_callv (As := []) (rest := []) (rc + 40) (rs + 2200) dL_law_1823 mi_X5_entries ml_L_247 rfl rfl (Nat.le_of_ble_eq_true rfl) ⟨by decide, by decide⟩ (by omega) (by omega) hbz1 rfl (c_X5_entries N _ _ _ _ hzz1) (x_K.some ?_) x_KX.none
  refine x_aload_n 2 dL_law_1826 rfl rfl ?_
  obtain ⟨z2, hzz2, hF⟩ := x_bind hF
  obtain ⟨⟨fsz2, hbz2⟩, hzz2⟩ := x_cv_sp hzz2
  refine x_callv (As := []) (rest := [.int z1]) (rc + 40) (rs + 2200) dL_law_1827 mi_X6_entries ml_L_250 rfl rfl (Nat.le_of_ble_eq_true rfl) ⟨by decide, by decide⟩ (by omega) (by omega) hbz2 rfl (c_X6_entries N _ _ _ _ hzz2) (x_K.some ?_) x_KX.none
  refine x_icmp_eq 2605 dL_law_1830 (by decide) hF (fun hF => ?_) (fun hF => ?_)
  · refine x_iinc (i + 3) (lv' := [(4, .int (i + 3)), (0, .ref b), (1, .ref x), (2, .ref m), (3, .ref o)]) dL_law_2605 4 rfl (by rfl) (by decide) rfl ?_
    refine x_goto 23 dL_law_2608 (by decide) ?_
    cases hF
    refine x_sub [1, 2, 3, 4, 0] rfl ?_
    exact x_less (rc' := rc) (rs' := rs) (by omega) (by omega) (hK _)
  · refine x_iconst 0 (by decide) dL_law_1833 ?_
    cases hF
def F_law_33 (N L : Nat) (xs : Nat → Int32) (x m o : Nat) (i : Int32) (h : XH) : Option XM :=
  (x_cv h.1 5 x (F_X5_leaves N h.1 x)).bind fun z1 =>
  (x_cv h.1 6 m (F_X6_leaves N h.1 m)).bind fun z2 =>
  if z1 = z2.1 then
    some z2.2
  else
    none
set_option maxRecDepth 20000 in
set_option maxHeartbeats 4000000 in
theorem w_law_33 (N : Nat) {b L : Nat} {xs : Nat → Int32} (x m o : Nat) (i : Int32) (h : XH) {rc rs : Nat} (r : XM) (hF : F_law_33 N L xs x m o i h = some r) (hK : ∀ n : Nat, X mL_law 11 398 x_lz (x_RO b L xs) rc rs 23 [(0, .ref b), (1, .ref x), (2, .ref m), (3, .ref o), (4, .int (i + 3))] [] (r, n)) : X mL_law 11 398 x_lz (x_RO b L xs) (rc + 40) (rs + 2200) 1835 [(0, .ref b), (1, .ref x), (2, .ref m), (3, .ref o), (4, .int i)] [] h := by
  unfold F_law_33 at hF
  refine x_aload_n 1 dL_law_1835 rfl rfl ?_
  obtain ⟨z1, hzz1, hF⟩ := x_bind hF
  obtain ⟨⟨fsz1, hbz1⟩, hzz1⟩ := x_cv_sp hzz1
  refine x_callv (As := []) (rest := []) (rc + 40) (rs + 2200) dL_law_1836 mi_X5_leaves ml_L_251 rfl rfl (Nat.le_of_ble_eq_true rfl) ⟨by decide, by decide⟩ (by omega) (by omega) hbz1 rfl (c_X5_leaves N _ _ _ _ hzz1) (x_K.some ?_) x_KX.none
  refine x_aload_n 2 dL_law_1839 rfl rfl ?_
  obtain ⟨z2, hzz2, hF⟩ := x_bind hF
  obtain ⟨⟨fsz2, hbz2⟩, hzz2⟩ := x_cv_sp hzz2
  refine x_callv (As := []) (rest := [.int z1]) (rc + 40) (rs + 2200) dL_law_1840 mi_X6_leaves ml_L_254 rfl rfl (Nat.le_of_ble_eq_true rfl) ⟨by decide, by decide⟩ (by omega) (by omega) hbz2 rfl (c_X6_leaves N _ _ _ _ hzz2) (x_K.some ?_) x_KX.none
  refine x_icmp_eq 2605 dL_law_1843 (by decide) hF (fun hF => ?_) (fun hF => ?_)
  · refine x_iinc (i + 3) (lv' := [(4, .int (i + 3)), (0, .ref b), (1, .ref x), (2, .ref m), (3, .ref o)]) dL_law_2605 4 rfl (by rfl) (by decide) rfl ?_
    refine x_goto 23 dL_law_2608 (by decide) ?_
    cases hF
    refine x_sub [1, 2, 3, 4, 0] rfl ?_
    exact x_less (rc' := rc) (rs' := rs) (by omega) (by omega) (hK _)
  · refine x_iconst 0 (by decide) dL_law_1846 ?_
    cases hF
def F_law_34 (N L : Nat) (xs : Nat → Int32) (x m o : Nat) (i : Int32) (h : XH) : Option XM :=
  (x_sld L xs (i + 1)).bind fun v1 =>
  (F_L_entriesOf N (h.1, h.2) x v1 o).bind fun z2 =>
  (x_sld L xs (i + 1)).bind fun v3 =>
  (x_cv z2.2 6 m (F_X6_entriesOf N z2.2 m v3)).bind fun z4 =>
  (x_cv z4.2 6 m (F_X6_thrown N z4.2 m)).bind fun z5 =>
  if z5 = z2.1 then
    if z2.1 = 0 then
      (x_aldl z4.2 o 0).bind fun v6 =>
      if (lg_cmp v6 ((z4.1 : Int32).toInt64)) = 0 then
        some z4.2
      else
        none
    else
      some z4.2
  else
    none
set_option maxRecDepth 20000 in
set_option maxHeartbeats 4000000 in
theorem w_law_34 (N : Nat) {b L : Nat} {xs : Nat → Int32} (x m o : Nat) (i : Int32) (h : XH) {rc rs : Nat} (r : XM) (hF : F_law_34 N L xs x m o i h = some r) (hK : ∀ n : Nat, X mL_law 11 398 x_lz (x_RO b L xs) rc rs 23 [(0, .ref b), (1, .ref x), (2, .ref m), (3, .ref o), (4, .int (i + 3))] [] (r, n)) : X mL_law 11 398 x_lz (x_RO b L xs) (rc + 40) (rs + 2200) 1848 [(0, .ref b), (1, .ref x), (2, .ref m), (3, .ref o), (4, .int i)] [] h := by
  unfold F_law_34 at hF
  refine x_aload_n 1 dL_law_1848 rfl rfl ?_
  refine x_aload_n 0 dL_law_1849 rfl rfl ?_
  refine x_iload 4 dL_law_1850 rfl ?_
  refine x_iconst 1 (by decide) dL_law_1852 ?_
  refine x_iadd dL_law_1853 ?_
  refine x_sld_r dL_law_1854 hF (fun v1 hF => ?_)
  refine x_aload_n 3 dL_law_1855 rfl rfl ?_
  obtain ⟨z2, hzz2, hF⟩ := x_bind hF
  refine x_callsH (As := [.ref x, .int v1, .ref o]) (rest := []) (rc + 39) (rs + 2194) dL_law_1856 mi_L_entriesOf rfl ml_L_255 rfl rfl (Nat.le_of_ble_eq_true rfl) ⟨by decide, by decide⟩ (by omega) (by omega) (c_L_entriesOf N _ _ _ _ _ hzz2) (fun n9 => ?_)
  refine x_istore (i := 5) (lv' := [(5, .int z2.1), (0, .ref b), (1, .ref x), (2, .ref m), (3, .ref o), (4, .int i)]) dL_law_1859 (by decide) rfl ?_
  refine x_aload_n 3 dL_law_1861 rfl rfl ?_
  refine x_aload_n 1 dL_law_1862 rfl rfl ?_
  refine x_iload 5 dL_law_1863 rfl ?_
  refine x_iconst 1 (by decide) dL_law_1865 ?_
  refine x_iadd dL_law_1866 ?_
  refine x_sld_r dL_law_1867 hF (fun v3 hF => ?_)
  obtain ⟨z4, hzz4, hF⟩ := x_bind hF
  obtain ⟨⟨fsz4, hbz4⟩, hzz4⟩ := x_cv_sp hzz4
  refine x_callv (As := [.int v3]) (rest := []) (rc + 39) (rs + 2194) dL_law_1868 mi_X6_entriesOf ml_L_257 rfl rfl (Nat.le_of_ble_eq_true rfl) ⟨by decide, by decide⟩ (by omega) (by omega) hbz4 rfl (c_X6_entriesOf N _ _ _ _ _ hzz4) (x_K.some ?_) x_KX.none
  refine x_istore (i := 6) (lv' := [(6, .int z4.1), (5, .int z2.1), (0, .ref b), (1, .ref x), (2, .ref m), (3, .ref o), (4, .int i)]) dL_law_1871 (by decide) rfl ?_
  refine x_aload_n 4 dL_law_1873 rfl rfl ?_
  obtain ⟨z5, hzz5, hF⟩ := x_bind hF
  obtain ⟨⟨fsz5, hbz5⟩, hzz5⟩ := x_cv_sp hzz5
  refine x_callv (As := []) (rest := []) (rc + 39) (rs + 2194) dL_law_1874 mi_X6_thrown ml_L_142 rfl rfl (Nat.le_of_ble_eq_true rfl) ⟨by decide, by decide⟩ (by omega) (by omega) hbz5 rfl (c_X6_thrown N _ _ _ _ hzz5) (x_K.some ?_) x_KX.none
  refine x_iload 1 dL_law_1877 rfl ?_
  refine x_icmp_eq 1884 dL_law_1879 (by decide) hF (fun hF => ?_) (fun hF => ?_)
  · refine x_iload 1 dL_law_1884 rfl ?_
    refine x_if_ne 1901 dL_law_1886 (by decide) hF (fun hF => ?_) (fun hF => ?_)
    · refine x_goto 2605 dL_law_1901 (by decide) ?_
      refine x_iinc (i + 3) (lv' := [(4, .int (i + 3)), (6, .int z4.1), (5, .int z2.1), (0, .ref b), (1, .ref x), (2, .ref m), (3, .ref o)]) dL_law_2605 6 rfl (by rfl) (by decide) rfl ?_
      refine x_goto 23 dL_law_2608 (by decide) ?_
      cases hF
      refine x_sub [3, 4, 5, 6, 0] rfl ?_
      exact x_less (rc' := rc) (rs' := rs) (by omega) (by omega) (hK _)
    · refine x_aload_n 5 dL_law_1889 rfl rfl ?_
      refine x_iconst 0 (by decide) dL_law_1890 ?_
      refine x_aldl_r dL_law_1891 hF (fun v6 hF => ?_)
      refine x_iload 0 dL_law_1892 rfl ?_
      refine x_i2l dL_law_1894 ?_
      refine x_lcmp dL_law_1895 ?_
      refine x_if_eq 1901 dL_law_1896 (by decide) hF (fun hF => ?_) (fun hF => ?_)
      · refine x_goto 2605 dL_law_1901 (by decide) ?_
        refine x_iinc (i + 3) (lv' := [(4, .int (i + 3)), (6, .int z4.1), (5, .int z2.1), (0, .ref b), (1, .ref x), (2, .ref m), (3, .ref o)]) dL_law_2605 6 rfl (by rfl) (by decide) rfl ?_
        refine x_goto 23 dL_law_2608 (by decide) ?_
        cases hF
        refine x_sub [3, 4, 5, 6, 0] rfl ?_
        exact x_less (rc' := rc) (rs' := rs) (by omega) (by omega) (hK _)
      · refine x_iconst 0 (by decide) dL_law_1899 ?_
        cases hF
  · refine x_iconst 0 (by decide) dL_law_1882 ?_
    cases hF
def F_law_35 (N L : Nat) (xs : Nat → Int32) (x m o : Nat) (i : Int32) (h : XH) : Option XM :=
  (x_sld L xs (i + 1)).bind fun v1 =>
  (x_sld L xs (i + 2)).bind fun v2 =>
  (F_L_leafKey N (h.1, h.2) x v1 v2 o).bind fun z3 =>
  (x_sld L xs (i + 1)).bind fun v4 =>
  (x_sld L xs (i + 2)).bind fun v5 =>
  (x_cv z3.2 6 m (F_X6_leafKey N z3.2 m v4 v5)).bind fun z6 =>
  (x_cv z6.2 6 m (F_X6_thrown N z6.2 m)).bind fun z7 =>
  if z7 = z3.1 then
    if z3.1 = 0 then
      (x_aldl z6.2 o 0).bind fun v8 =>
      if (lg_cmp v8 ((z6.1 : Int32).toInt64)) = 0 then
        some z6.2
      else
        none
    else
      some z6.2
  else
    none
set_option maxRecDepth 20000 in
set_option maxHeartbeats 4000000 in
theorem w_law_35 (N : Nat) {b L : Nat} {xs : Nat → Int32} (x m o : Nat) (i : Int32) (h : XH) {rc rs : Nat} (r : XM) (hF : F_law_35 N L xs x m o i h = some r) (hK : ∀ n : Nat, X mL_law 11 398 x_lz (x_RO b L xs) rc rs 23 [(0, .ref b), (1, .ref x), (2, .ref m), (3, .ref o), (4, .int (i + 3))] [] (r, n)) : X mL_law 11 398 x_lz (x_RO b L xs) (rc + 40) (rs + 2200) 1904 [(0, .ref b), (1, .ref x), (2, .ref m), (3, .ref o), (4, .int i)] [] h := by
  unfold F_law_35 at hF
  refine x_aload_n 1 dL_law_1904 rfl rfl ?_
  refine x_aload_n 0 dL_law_1905 rfl rfl ?_
  refine x_iload 4 dL_law_1906 rfl ?_
  refine x_iconst 1 (by decide) dL_law_1908 ?_
  refine x_iadd dL_law_1909 ?_
  refine x_sld_r dL_law_1910 hF (fun v1 hF => ?_)
  refine x_aload_n 0 dL_law_1911 rfl rfl ?_
  refine x_iload 4 dL_law_1912 rfl ?_
  refine x_iconst 2 (by decide) dL_law_1914 ?_
  refine x_iadd dL_law_1915 ?_
  refine x_sld_r dL_law_1916 hF (fun v2 hF => ?_)
  refine x_aload_n 3 dL_law_1917 rfl rfl ?_
  obtain ⟨z3, hzz3, hF⟩ := x_bind hF
  refine x_callsH (As := [.ref x, .int v1, .int v2, .ref o]) (rest := []) (rc + 38) (rs + 2188) dL_law_1918 mi_L_leafKey rfl ml_L_258 rfl rfl (Nat.le_of_ble_eq_true rfl) ⟨by decide, by decide⟩ (by omega) (by omega) (c_L_leafKey N _ _ _ _ _ _ hzz3) (fun n9 => ?_)
  refine x_istore (i := 5) (lv' := [(5, .int z3.1), (0, .ref b), (1, .ref x), (2, .ref m), (3, .ref o), (4, .int i)]) dL_law_1921 (by decide) rfl ?_
  refine x_aload_n 3 dL_law_1923 rfl rfl ?_
  refine x_aload_n 1 dL_law_1924 rfl rfl ?_
  refine x_iload 5 dL_law_1925 rfl ?_
  refine x_iconst 1 (by decide) dL_law_1927 ?_
  refine x_iadd dL_law_1928 ?_
  refine x_sld_r dL_law_1929 hF (fun v4 hF => ?_)
  refine x_aload_n 1 dL_law_1930 rfl rfl ?_
  refine x_iload 5 dL_law_1931 rfl ?_
  refine x_iconst 2 (by decide) dL_law_1933 ?_
  refine x_iadd dL_law_1934 ?_
  refine x_sld_r dL_law_1935 hF (fun v5 hF => ?_)
  obtain ⟨z6, hzz6, hF⟩ := x_bind hF
  obtain ⟨⟨fsz6, hbz6⟩, hzz6⟩ := x_cv_sp hzz6
  refine x_callv (As := [.int v4, .int v5]) (rest := []) (rc + 38) (rs + 2188) dL_law_1936 mi_X6_leafKey ml_L_260 rfl rfl (Nat.le_of_ble_eq_true rfl) ⟨by decide, by decide⟩ (by omega) (by omega) hbz6 rfl (c_X6_leafKey N _ _ _ _ _ _ hzz6) (x_K.some ?_) x_KX.none
  refine x_istore (i := 6) (lv' := [(6, .int z6.1), (5, .int z3.1), (0, .ref b), (1, .ref x), (2, .ref m), (3, .ref o), (4, .int i)]) dL_law_1939 (by decide) rfl ?_
  refine x_aload_n 4 dL_law_1941 rfl rfl ?_
  obtain ⟨z7, hzz7, hF⟩ := x_bind hF
  obtain ⟨⟨fsz7, hbz7⟩, hzz7⟩ := x_cv_sp hzz7
  refine x_callv (As := []) (rest := []) (rc + 38) (rs + 2188) dL_law_1942 mi_X6_thrown ml_L_142 rfl rfl (Nat.le_of_ble_eq_true rfl) ⟨by decide, by decide⟩ (by omega) (by omega) hbz7 rfl (c_X6_thrown N _ _ _ _ hzz7) (x_K.some ?_) x_KX.none
  refine x_iload 1 dL_law_1945 rfl ?_
  refine x_icmp_eq 1952 dL_law_1947 (by decide) hF (fun hF => ?_) (fun hF => ?_)
  · refine x_iload 1 dL_law_1952 rfl ?_
    refine x_if_ne 1969 dL_law_1954 (by decide) hF (fun hF => ?_) (fun hF => ?_)
    · refine x_goto 2605 dL_law_1969 (by decide) ?_
      refine x_iinc (i + 3) (lv' := [(4, .int (i + 3)), (6, .int z6.1), (5, .int z3.1), (0, .ref b), (1, .ref x), (2, .ref m), (3, .ref o)]) dL_law_2605 6 rfl (by rfl) (by decide) rfl ?_
      refine x_goto 23 dL_law_2608 (by decide) ?_
      cases hF
      refine x_sub [3, 4, 5, 6, 0] rfl ?_
      exact x_less (rc' := rc) (rs' := rs) (by omega) (by omega) (hK _)
    · refine x_aload_n 5 dL_law_1957 rfl rfl ?_
      refine x_iconst 0 (by decide) dL_law_1958 ?_
      refine x_aldl_r dL_law_1959 hF (fun v8 hF => ?_)
      refine x_iload 0 dL_law_1960 rfl ?_
      refine x_i2l dL_law_1962 ?_
      refine x_lcmp dL_law_1963 ?_
      refine x_if_eq 1969 dL_law_1964 (by decide) hF (fun hF => ?_) (fun hF => ?_)
      · refine x_goto 2605 dL_law_1969 (by decide) ?_
        refine x_iinc (i + 3) (lv' := [(4, .int (i + 3)), (6, .int z6.1), (5, .int z3.1), (0, .ref b), (1, .ref x), (2, .ref m), (3, .ref o)]) dL_law_2605 6 rfl (by rfl) (by decide) rfl ?_
        refine x_goto 23 dL_law_2608 (by decide) ?_
        cases hF
        refine x_sub [3, 4, 5, 6, 0] rfl ?_
        exact x_less (rc' := rc) (rs' := rs) (by omega) (by omega) (hK _)
      · refine x_iconst 0 (by decide) dL_law_1967 ?_
        cases hF
  · refine x_iconst 0 (by decide) dL_law_1950 ?_
    cases hF
def F_law_36 (N L : Nat) (xs : Nat → Int32) (x m o : Nat) (i : Int32) (h : XH) : Option XM :=
  (x_sld L xs (i + 1)).bind fun v1 =>
  (F_L_overflowOf N (h.1, h.2) x v1 o).bind fun z2 =>
  (x_sld L xs (i + 1)).bind fun v3 =>
  (x_cv z2.2 6 m (F_X6_overflowOf N z2.2 m v3)).bind fun z4 =>
  (x_cv z4.2 6 m (F_X6_thrown N z4.2 m)).bind fun z5 =>
  if z5 = z2.1 then
    if z2.1 = 0 then
      (x_aldl z4.2 o 0).bind fun v6 =>
      if (lg_cmp v6 ((z4.1 : Int32).toInt64)) = 0 then
        some z4.2
      else
        none
    else
      some z4.2
  else
    none
set_option maxRecDepth 20000 in
set_option maxHeartbeats 4000000 in
theorem w_law_36 (N : Nat) {b L : Nat} {xs : Nat → Int32} (x m o : Nat) (i : Int32) (h : XH) {rc rs : Nat} (r : XM) (hF : F_law_36 N L xs x m o i h = some r) (hK : ∀ n : Nat, X mL_law 11 398 x_lz (x_RO b L xs) rc rs 23 [(0, .ref b), (1, .ref x), (2, .ref m), (3, .ref o), (4, .int (i + 3))] [] (r, n)) : X mL_law 11 398 x_lz (x_RO b L xs) (rc + 40) (rs + 2200) 1972 [(0, .ref b), (1, .ref x), (2, .ref m), (3, .ref o), (4, .int i)] [] h := by
  unfold F_law_36 at hF
  refine x_aload_n 1 dL_law_1972 rfl rfl ?_
  refine x_aload_n 0 dL_law_1973 rfl rfl ?_
  refine x_iload 4 dL_law_1974 rfl ?_
  refine x_iconst 1 (by decide) dL_law_1976 ?_
  refine x_iadd dL_law_1977 ?_
  refine x_sld_r dL_law_1978 hF (fun v1 hF => ?_)
  refine x_aload_n 3 dL_law_1979 rfl rfl ?_
  obtain ⟨z2, hzz2, hF⟩ := x_bind hF
  refine x_callsH (As := [.ref x, .int v1, .ref o]) (rest := []) (rc + 39) (rs + 2194) dL_law_1980 mi_L_overflowOf rfl ml_L_261 rfl rfl (Nat.le_of_ble_eq_true rfl) ⟨by decide, by decide⟩ (by omega) (by omega) (c_L_overflowOf N _ _ _ _ _ hzz2) (fun n9 => ?_)
  refine x_istore (i := 5) (lv' := [(5, .int z2.1), (0, .ref b), (1, .ref x), (2, .ref m), (3, .ref o), (4, .int i)]) dL_law_1983 (by decide) rfl ?_
  refine x_aload_n 3 dL_law_1985 rfl rfl ?_
  refine x_aload_n 1 dL_law_1986 rfl rfl ?_
  refine x_iload 5 dL_law_1987 rfl ?_
  refine x_iconst 1 (by decide) dL_law_1989 ?_
  refine x_iadd dL_law_1990 ?_
  refine x_sld_r dL_law_1991 hF (fun v3 hF => ?_)
  obtain ⟨z4, hzz4, hF⟩ := x_bind hF
  obtain ⟨⟨fsz4, hbz4⟩, hzz4⟩ := x_cv_sp hzz4
  refine x_callv (As := [.int v3]) (rest := []) (rc + 39) (rs + 2194) dL_law_1992 mi_X6_overflowOf ml_L_263 rfl rfl (Nat.le_of_ble_eq_true rfl) ⟨by decide, by decide⟩ (by omega) (by omega) hbz4 rfl (c_X6_overflowOf N _ _ _ _ _ hzz4) (x_K.some ?_) x_KX.none
  refine x_istore (i := 6) (lv' := [(6, .int z4.1), (5, .int z2.1), (0, .ref b), (1, .ref x), (2, .ref m), (3, .ref o), (4, .int i)]) dL_law_1995 (by decide) rfl ?_
  refine x_aload_n 4 dL_law_1997 rfl rfl ?_
  obtain ⟨z5, hzz5, hF⟩ := x_bind hF
  obtain ⟨⟨fsz5, hbz5⟩, hzz5⟩ := x_cv_sp hzz5
  refine x_callv (As := []) (rest := []) (rc + 39) (rs + 2194) dL_law_1998 mi_X6_thrown ml_L_142 rfl rfl (Nat.le_of_ble_eq_true rfl) ⟨by decide, by decide⟩ (by omega) (by omega) hbz5 rfl (c_X6_thrown N _ _ _ _ hzz5) (x_K.some ?_) x_KX.none
  refine x_iload 1 dL_law_2001 rfl ?_
  refine x_icmp_eq 2008 dL_law_2003 (by decide) hF (fun hF => ?_) (fun hF => ?_)
  · refine x_iload 1 dL_law_2008 rfl ?_
    refine x_if_ne 2025 dL_law_2010 (by decide) hF (fun hF => ?_) (fun hF => ?_)
    · refine x_goto 2605 dL_law_2025 (by decide) ?_
      refine x_iinc (i + 3) (lv' := [(4, .int (i + 3)), (6, .int z4.1), (5, .int z2.1), (0, .ref b), (1, .ref x), (2, .ref m), (3, .ref o)]) dL_law_2605 6 rfl (by rfl) (by decide) rfl ?_
      refine x_goto 23 dL_law_2608 (by decide) ?_
      cases hF
      refine x_sub [3, 4, 5, 6, 0] rfl ?_
      exact x_less (rc' := rc) (rs' := rs) (by omega) (by omega) (hK _)
    · refine x_aload_n 5 dL_law_2013 rfl rfl ?_
      refine x_iconst 0 (by decide) dL_law_2014 ?_
      refine x_aldl_r dL_law_2015 hF (fun v6 hF => ?_)
      refine x_iload 0 dL_law_2016 rfl ?_
      refine x_i2l dL_law_2018 ?_
      refine x_lcmp dL_law_2019 ?_
      refine x_if_eq 2025 dL_law_2020 (by decide) hF (fun hF => ?_) (fun hF => ?_)
      · refine x_goto 2605 dL_law_2025 (by decide) ?_
        refine x_iinc (i + 3) (lv' := [(4, .int (i + 3)), (6, .int z4.1), (5, .int z2.1), (0, .ref b), (1, .ref x), (2, .ref m), (3, .ref o)]) dL_law_2605 6 rfl (by rfl) (by decide) rfl ?_
        refine x_goto 23 dL_law_2608 (by decide) ?_
        cases hF
        refine x_sub [3, 4, 5, 6, 0] rfl ?_
        exact x_less (rc' := rc) (rs' := rs) (by omega) (by omega) (hK _)
      · refine x_iconst 0 (by decide) dL_law_2023 ?_
        cases hF
  · refine x_iconst 0 (by decide) dL_law_2006 ?_
    cases hF
def F_law_37 (N L : Nat) (xs : Nat → Int32) (x m o : Nat) (i : Int32) (h : XH) : Option XM :=
  (x_sld L xs (i + 1)).bind fun v1 =>
  (F_L_overflowLeaves N (h.1, h.2) x v1 o).bind fun z2 =>
  (x_sld L xs (i + 1)).bind fun v3 =>
  (x_cv z2.2 6 m (F_X6_overflowLeaves N z2.2 m v3)).bind fun z4 =>
  (x_cv z4.2 6 m (F_X6_thrown N z4.2 m)).bind fun z5 =>
  if z5 = z2.1 then
    if z2.1 = 0 then
      (x_aldl z4.2 o 0).bind fun v6 =>
      if (lg_cmp v6 ((z4.1 : Int32).toInt64)) = 0 then
        some z4.2
      else
        none
    else
      some z4.2
  else
    none
set_option maxRecDepth 20000 in
set_option maxHeartbeats 4000000 in
theorem w_law_37 (N : Nat) {b L : Nat} {xs : Nat → Int32} (x m o : Nat) (i : Int32) (h : XH) {rc rs : Nat} (r : XM) (hF : F_law_37 N L xs x m o i h = some r) (hK : ∀ n : Nat, X mL_law 11 398 x_lz (x_RO b L xs) rc rs 23 [(0, .ref b), (1, .ref x), (2, .ref m), (3, .ref o), (4, .int (i + 3))] [] (r, n)) : X mL_law 11 398 x_lz (x_RO b L xs) (rc + 40) (rs + 2200) 2028 [(0, .ref b), (1, .ref x), (2, .ref m), (3, .ref o), (4, .int i)] [] h := by
  unfold F_law_37 at hF
  refine x_aload_n 1 dL_law_2028 rfl rfl ?_
  refine x_aload_n 0 dL_law_2029 rfl rfl ?_
  refine x_iload 4 dL_law_2030 rfl ?_
  refine x_iconst 1 (by decide) dL_law_2032 ?_
  refine x_iadd dL_law_2033 ?_
  refine x_sld_r dL_law_2034 hF (fun v1 hF => ?_)
  refine x_aload_n 3 dL_law_2035 rfl rfl ?_
  obtain ⟨z2, hzz2, hF⟩ := x_bind hF
  refine x_callsH (As := [.ref x, .int v1, .ref o]) (rest := []) (rc + 39) (rs + 2194) dL_law_2036 mi_L_overflowLeaves rfl ml_L_264 rfl rfl (Nat.le_of_ble_eq_true rfl) ⟨by decide, by decide⟩ (by omega) (by omega) (c_L_overflowLeaves N _ _ _ _ _ hzz2) (fun n9 => ?_)
  refine x_istore (i := 5) (lv' := [(5, .int z2.1), (0, .ref b), (1, .ref x), (2, .ref m), (3, .ref o), (4, .int i)]) dL_law_2039 (by decide) rfl ?_
  refine x_aload_n 3 dL_law_2041 rfl rfl ?_
  refine x_aload_n 1 dL_law_2042 rfl rfl ?_
  refine x_iload 5 dL_law_2043 rfl ?_
  refine x_iconst 1 (by decide) dL_law_2045 ?_
  refine x_iadd dL_law_2046 ?_
  refine x_sld_r dL_law_2047 hF (fun v3 hF => ?_)
  obtain ⟨z4, hzz4, hF⟩ := x_bind hF
  obtain ⟨⟨fsz4, hbz4⟩, hzz4⟩ := x_cv_sp hzz4
  refine x_callv (As := [.int v3]) (rest := []) (rc + 39) (rs + 2194) dL_law_2048 mi_X6_overflowLeaves ml_L_266 rfl rfl (Nat.le_of_ble_eq_true rfl) ⟨by decide, by decide⟩ (by omega) (by omega) hbz4 rfl (c_X6_overflowLeaves N _ _ _ _ _ hzz4) (x_K.some ?_) x_KX.none
  refine x_istore (i := 6) (lv' := [(6, .int z4.1), (5, .int z2.1), (0, .ref b), (1, .ref x), (2, .ref m), (3, .ref o), (4, .int i)]) dL_law_2051 (by decide) rfl ?_
  refine x_aload_n 4 dL_law_2053 rfl rfl ?_
  obtain ⟨z5, hzz5, hF⟩ := x_bind hF
  obtain ⟨⟨fsz5, hbz5⟩, hzz5⟩ := x_cv_sp hzz5
  refine x_callv (As := []) (rest := []) (rc + 39) (rs + 2194) dL_law_2054 mi_X6_thrown ml_L_142 rfl rfl (Nat.le_of_ble_eq_true rfl) ⟨by decide, by decide⟩ (by omega) (by omega) hbz5 rfl (c_X6_thrown N _ _ _ _ hzz5) (x_K.some ?_) x_KX.none
  refine x_iload 1 dL_law_2057 rfl ?_
  refine x_icmp_eq 2064 dL_law_2059 (by decide) hF (fun hF => ?_) (fun hF => ?_)
  · refine x_iload 1 dL_law_2064 rfl ?_
    refine x_if_ne 2081 dL_law_2066 (by decide) hF (fun hF => ?_) (fun hF => ?_)
    · refine x_goto 2605 dL_law_2081 (by decide) ?_
      refine x_iinc (i + 3) (lv' := [(4, .int (i + 3)), (6, .int z4.1), (5, .int z2.1), (0, .ref b), (1, .ref x), (2, .ref m), (3, .ref o)]) dL_law_2605 6 rfl (by rfl) (by decide) rfl ?_
      refine x_goto 23 dL_law_2608 (by decide) ?_
      cases hF
      refine x_sub [3, 4, 5, 6, 0] rfl ?_
      exact x_less (rc' := rc) (rs' := rs) (by omega) (by omega) (hK _)
    · refine x_aload_n 5 dL_law_2069 rfl rfl ?_
      refine x_iconst 0 (by decide) dL_law_2070 ?_
      refine x_aldl_r dL_law_2071 hF (fun v6 hF => ?_)
      refine x_iload 0 dL_law_2072 rfl ?_
      refine x_i2l dL_law_2074 ?_
      refine x_lcmp dL_law_2075 ?_
      refine x_if_eq 2081 dL_law_2076 (by decide) hF (fun hF => ?_) (fun hF => ?_)
      · refine x_goto 2605 dL_law_2081 (by decide) ?_
        refine x_iinc (i + 3) (lv' := [(4, .int (i + 3)), (6, .int z4.1), (5, .int z2.1), (0, .ref b), (1, .ref x), (2, .ref m), (3, .ref o)]) dL_law_2605 6 rfl (by rfl) (by decide) rfl ?_
        refine x_goto 23 dL_law_2608 (by decide) ?_
        cases hF
        refine x_sub [3, 4, 5, 6, 0] rfl ?_
        exact x_less (rc' := rc) (rs' := rs) (by omega) (by omega) (hK _)
      · refine x_iconst 0 (by decide) dL_law_2079 ?_
        cases hF
  · refine x_iconst 0 (by decide) dL_law_2062 ?_
    cases hF
def F_law_38 (N L : Nat) (xs : Nat → Int32) (x m o : Nat) (i : Int32) (h : XH) : Option XM :=
  (x_cv h.1 5 x (F_X5_levels N h.1 x)).bind fun z1 =>
  (x_cv h.1 6 m (F_X6_levels N h.1 m)).bind fun z2 =>
  if z1 = z2.1 then
    some z2.2
  else
    none
set_option maxRecDepth 20000 in
set_option maxHeartbeats 4000000 in
theorem w_law_38 (N : Nat) {b L : Nat} {xs : Nat → Int32} (x m o : Nat) (i : Int32) (h : XH) {rc rs : Nat} (r : XM) (hF : F_law_38 N L xs x m o i h = some r) (hK : ∀ n : Nat, X mL_law 11 398 x_lz (x_RO b L xs) rc rs 23 [(0, .ref b), (1, .ref x), (2, .ref m), (3, .ref o), (4, .int (i + 3))] [] (r, n)) : X mL_law 11 398 x_lz (x_RO b L xs) (rc + 40) (rs + 2200) 2084 [(0, .ref b), (1, .ref x), (2, .ref m), (3, .ref o), (4, .int i)] [] h := by
  unfold F_law_38 at hF
  refine x_aload_n 1 dL_law_2084 rfl rfl ?_
  obtain ⟨z1, hzz1, hF⟩ := x_bind hF
  obtain ⟨⟨fsz1, hbz1⟩, hzz1⟩ := x_cv_sp hzz1
  refine x_callv (As := []) (rest := []) (rc + 40) (rs + 2200) dL_law_2085 mi_X5_levels ml_L_267 rfl rfl (Nat.le_of_ble_eq_true rfl) ⟨by decide, by decide⟩ (by omega) (by omega) hbz1 rfl (c_X5_levels N _ _ _ _ hzz1) (x_K.some ?_) x_KX.none
  refine x_aload_n 2 dL_law_2088 rfl rfl ?_
  obtain ⟨z2, hzz2, hF⟩ := x_bind hF
  obtain ⟨⟨fsz2, hbz2⟩, hzz2⟩ := x_cv_sp hzz2
  refine x_callv (As := []) (rest := [.int z1]) (rc + 40) (rs + 2200) dL_law_2089 mi_X6_levels ml_L_270 rfl rfl (Nat.le_of_ble_eq_true rfl) ⟨by decide, by decide⟩ (by omega) (by omega) hbz2 rfl (c_X6_levels N _ _ _ _ hzz2) (x_K.some ?_) x_KX.none
  refine x_icmp_eq 2605 dL_law_2092 (by decide) hF (fun hF => ?_) (fun hF => ?_)
  · refine x_iinc (i + 3) (lv' := [(4, .int (i + 3)), (0, .ref b), (1, .ref x), (2, .ref m), (3, .ref o)]) dL_law_2605 4 rfl (by rfl) (by decide) rfl ?_
    refine x_goto 23 dL_law_2608 (by decide) ?_
    cases hF
    refine x_sub [1, 2, 3, 4, 0] rfl ?_
    exact x_less (rc' := rc) (rs' := rs) (by omega) (by omega) (hK _)
  · refine x_iconst 0 (by decide) dL_law_2095 ?_
    cases hF
def F_law_39 (N L : Nat) (xs : Nat → Int32) (x m o : Nat) (i : Int32) (h : XH) : Option XM :=
  (x_sld L xs (i + 1)).bind fun v1 =>
  (F_L_nodesAt N (h.1, h.2) x v1 o).bind fun z2 =>
  (x_sld L xs (i + 1)).bind fun v3 =>
  (x_cv z2.2 6 m (F_X6_nodesAt N z2.2 m v3)).bind fun z4 =>
  (x_cv z4.2 6 m (F_X6_thrown N z4.2 m)).bind fun z5 =>
  if z5 = z2.1 then
    if z2.1 = 0 then
      (x_aldl z4.2 o 0).bind fun v6 =>
      if (lg_cmp v6 ((z4.1 : Int32).toInt64)) = 0 then
        some z4.2
      else
        none
    else
      some z4.2
  else
    none
set_option maxRecDepth 20000 in
set_option maxHeartbeats 4000000 in
theorem w_law_39 (N : Nat) {b L : Nat} {xs : Nat → Int32} (x m o : Nat) (i : Int32) (h : XH) {rc rs : Nat} (r : XM) (hF : F_law_39 N L xs x m o i h = some r) (hK : ∀ n : Nat, X mL_law 11 398 x_lz (x_RO b L xs) rc rs 23 [(0, .ref b), (1, .ref x), (2, .ref m), (3, .ref o), (4, .int (i + 3))] [] (r, n)) : X mL_law 11 398 x_lz (x_RO b L xs) (rc + 40) (rs + 2200) 2097 [(0, .ref b), (1, .ref x), (2, .ref m), (3, .ref o), (4, .int i)] [] h := by
  unfold F_law_39 at hF
  refine x_aload_n 1 dL_law_2097 rfl rfl ?_
  refine x_aload_n 0 dL_law_2098 rfl rfl ?_
  refine x_iload 4 dL_law_2099 rfl ?_
  refine x_iconst 1 (by decide) dL_law_2101 ?_
  refine x_iadd dL_law_2102 ?_
  refine x_sld_r dL_law_2103 hF (fun v1 hF => ?_)
  refine x_aload_n 3 dL_law_2104 rfl rfl ?_
  obtain ⟨z2, hzz2, hF⟩ := x_bind hF
  refine x_callsH (As := [.ref x, .int v1, .ref o]) (rest := []) (rc + 39) (rs + 2194) dL_law_2105 mi_L_nodesAt rfl ml_L_271 rfl rfl (Nat.le_of_ble_eq_true rfl) ⟨by decide, by decide⟩ (by omega) (by omega) (c_L_nodesAt N _ _ _ _ _ hzz2) (fun n9 => ?_)
  refine x_istore (i := 5) (lv' := [(5, .int z2.1), (0, .ref b), (1, .ref x), (2, .ref m), (3, .ref o), (4, .int i)]) dL_law_2108 (by decide) rfl ?_
  refine x_aload_n 3 dL_law_2110 rfl rfl ?_
  refine x_aload_n 1 dL_law_2111 rfl rfl ?_
  refine x_iload 5 dL_law_2112 rfl ?_
  refine x_iconst 1 (by decide) dL_law_2114 ?_
  refine x_iadd dL_law_2115 ?_
  refine x_sld_r dL_law_2116 hF (fun v3 hF => ?_)
  obtain ⟨z4, hzz4, hF⟩ := x_bind hF
  obtain ⟨⟨fsz4, hbz4⟩, hzz4⟩ := x_cv_sp hzz4
  refine x_callv (As := [.int v3]) (rest := []) (rc + 39) (rs + 2194) dL_law_2117 mi_X6_nodesAt ml_L_273 rfl rfl (Nat.le_of_ble_eq_true rfl) ⟨by decide, by decide⟩ (by omega) (by omega) hbz4 rfl (c_X6_nodesAt N _ _ _ _ _ hzz4) (x_K.some ?_) x_KX.none
  refine x_istore (i := 6) (lv' := [(6, .int z4.1), (5, .int z2.1), (0, .ref b), (1, .ref x), (2, .ref m), (3, .ref o), (4, .int i)]) dL_law_2120 (by decide) rfl ?_
  refine x_aload_n 4 dL_law_2122 rfl rfl ?_
  obtain ⟨z5, hzz5, hF⟩ := x_bind hF
  obtain ⟨⟨fsz5, hbz5⟩, hzz5⟩ := x_cv_sp hzz5
  refine x_callv (As := []) (rest := []) (rc + 39) (rs + 2194) dL_law_2123 mi_X6_thrown ml_L_142 rfl rfl (Nat.le_of_ble_eq_true rfl) ⟨by decide, by decide⟩ (by omega) (by omega) hbz5 rfl (c_X6_thrown N _ _ _ _ hzz5) (x_K.some ?_) x_KX.none
  refine x_iload 1 dL_law_2126 rfl ?_
  refine x_icmp_eq 2133 dL_law_2128 (by decide) hF (fun hF => ?_) (fun hF => ?_)
  · refine x_iload 1 dL_law_2133 rfl ?_
    refine x_if_ne 2150 dL_law_2135 (by decide) hF (fun hF => ?_) (fun hF => ?_)
    · refine x_goto 2605 dL_law_2150 (by decide) ?_
      refine x_iinc (i + 3) (lv' := [(4, .int (i + 3)), (6, .int z4.1), (5, .int z2.1), (0, .ref b), (1, .ref x), (2, .ref m), (3, .ref o)]) dL_law_2605 6 rfl (by rfl) (by decide) rfl ?_
      refine x_goto 23 dL_law_2608 (by decide) ?_
      cases hF
      refine x_sub [3, 4, 5, 6, 0] rfl ?_
      exact x_less (rc' := rc) (rs' := rs) (by omega) (by omega) (hK _)
    · refine x_aload_n 5 dL_law_2138 rfl rfl ?_
      refine x_iconst 0 (by decide) dL_law_2139 ?_
      refine x_aldl_r dL_law_2140 hF (fun v6 hF => ?_)
      refine x_iload 0 dL_law_2141 rfl ?_
      refine x_i2l dL_law_2143 ?_
      refine x_lcmp dL_law_2144 ?_
      refine x_if_eq 2150 dL_law_2145 (by decide) hF (fun hF => ?_) (fun hF => ?_)
      · refine x_goto 2605 dL_law_2150 (by decide) ?_
        refine x_iinc (i + 3) (lv' := [(4, .int (i + 3)), (6, .int z4.1), (5, .int z2.1), (0, .ref b), (1, .ref x), (2, .ref m), (3, .ref o)]) dL_law_2605 6 rfl (by rfl) (by decide) rfl ?_
        refine x_goto 23 dL_law_2608 (by decide) ?_
        cases hF
        refine x_sub [3, 4, 5, 6, 0] rfl ?_
        exact x_less (rc' := rc) (rs' := rs) (by omega) (by omega) (hK _)
      · refine x_iconst 0 (by decide) dL_law_2148 ?_
        cases hF
  · refine x_iconst 0 (by decide) dL_law_2131 ?_
    cases hF
def F_law_40 (N L : Nat) (xs : Nat → Int32) (x m o : Nat) (i : Int32) (h : XH) : Option XM :=
  (x_sld L xs (i + 1)).bind fun v1 =>
  (x_sld L xs (i + 2)).bind fun v2 =>
  (F_L_childrenOf N (h.1, h.2) x v1 v2 o).bind fun z3 =>
  (x_sld L xs (i + 1)).bind fun v4 =>
  (x_sld L xs (i + 2)).bind fun v5 =>
  (x_cv z3.2 6 m (F_X6_childrenOf N z3.2 m v4 v5)).bind fun z6 =>
  (x_cv z6.2 6 m (F_X6_thrown N z6.2 m)).bind fun z7 =>
  if z7 = z3.1 then
    if z3.1 = 0 then
      (x_aldl z6.2 o 0).bind fun v8 =>
      if (lg_cmp v8 ((z6.1 : Int32).toInt64)) = 0 then
        some z6.2
      else
        none
    else
      some z6.2
  else
    none
set_option maxRecDepth 20000 in
set_option maxHeartbeats 4000000 in
theorem w_law_40 (N : Nat) {b L : Nat} {xs : Nat → Int32} (x m o : Nat) (i : Int32) (h : XH) {rc rs : Nat} (r : XM) (hF : F_law_40 N L xs x m o i h = some r) (hK : ∀ n : Nat, X mL_law 11 398 x_lz (x_RO b L xs) rc rs 23 [(0, .ref b), (1, .ref x), (2, .ref m), (3, .ref o), (4, .int (i + 3))] [] (r, n)) : X mL_law 11 398 x_lz (x_RO b L xs) (rc + 40) (rs + 2200) 2153 [(0, .ref b), (1, .ref x), (2, .ref m), (3, .ref o), (4, .int i)] [] h := by
  unfold F_law_40 at hF
  refine x_aload_n 1 dL_law_2153 rfl rfl ?_
  refine x_aload_n 0 dL_law_2154 rfl rfl ?_
  refine x_iload 4 dL_law_2155 rfl ?_
  refine x_iconst 1 (by decide) dL_law_2157 ?_
  refine x_iadd dL_law_2158 ?_
  refine x_sld_r dL_law_2159 hF (fun v1 hF => ?_)
  refine x_aload_n 0 dL_law_2160 rfl rfl ?_
  refine x_iload 4 dL_law_2161 rfl ?_
  refine x_iconst 2 (by decide) dL_law_2163 ?_
  refine x_iadd dL_law_2164 ?_
  refine x_sld_r dL_law_2165 hF (fun v2 hF => ?_)
  refine x_aload_n 3 dL_law_2166 rfl rfl ?_
  obtain ⟨z3, hzz3, hF⟩ := x_bind hF
  refine x_callsH (As := [.ref x, .int v1, .int v2, .ref o]) (rest := []) (rc + 38) (rs + 2188) dL_law_2167 mi_L_childrenOf rfl ml_L_274 rfl rfl (Nat.le_of_ble_eq_true rfl) ⟨by decide, by decide⟩ (by omega) (by omega) (c_L_childrenOf N _ _ _ _ _ _ hzz3) (fun n9 => ?_)
  refine x_istore (i := 5) (lv' := [(5, .int z3.1), (0, .ref b), (1, .ref x), (2, .ref m), (3, .ref o), (4, .int i)]) dL_law_2170 (by decide) rfl ?_
  refine x_aload_n 3 dL_law_2172 rfl rfl ?_
  refine x_aload_n 1 dL_law_2173 rfl rfl ?_
  refine x_iload 5 dL_law_2174 rfl ?_
  refine x_iconst 1 (by decide) dL_law_2176 ?_
  refine x_iadd dL_law_2177 ?_
  refine x_sld_r dL_law_2178 hF (fun v4 hF => ?_)
  refine x_aload_n 1 dL_law_2179 rfl rfl ?_
  refine x_iload 5 dL_law_2180 rfl ?_
  refine x_iconst 2 (by decide) dL_law_2182 ?_
  refine x_iadd dL_law_2183 ?_
  refine x_sld_r dL_law_2184 hF (fun v5 hF => ?_)
  obtain ⟨z6, hzz6, hF⟩ := x_bind hF
  obtain ⟨⟨fsz6, hbz6⟩, hzz6⟩ := x_cv_sp hzz6
  refine x_callv (As := [.int v4, .int v5]) (rest := []) (rc + 38) (rs + 2188) dL_law_2185 mi_X6_childrenOf ml_L_276 rfl rfl (Nat.le_of_ble_eq_true rfl) ⟨by decide, by decide⟩ (by omega) (by omega) hbz6 rfl (c_X6_childrenOf N _ _ _ _ _ _ hzz6) (x_K.some ?_) x_KX.none
  refine x_istore (i := 6) (lv' := [(6, .int z6.1), (5, .int z3.1), (0, .ref b), (1, .ref x), (2, .ref m), (3, .ref o), (4, .int i)]) dL_law_2188 (by decide) rfl ?_
  refine x_aload_n 4 dL_law_2190 rfl rfl ?_
  obtain ⟨z7, hzz7, hF⟩ := x_bind hF
  obtain ⟨⟨fsz7, hbz7⟩, hzz7⟩ := x_cv_sp hzz7
  refine x_callv (As := []) (rest := []) (rc + 38) (rs + 2188) dL_law_2191 mi_X6_thrown ml_L_142 rfl rfl (Nat.le_of_ble_eq_true rfl) ⟨by decide, by decide⟩ (by omega) (by omega) hbz7 rfl (c_X6_thrown N _ _ _ _ hzz7) (x_K.some ?_) x_KX.none
  refine x_iload 1 dL_law_2194 rfl ?_
  refine x_icmp_eq 2201 dL_law_2196 (by decide) hF (fun hF => ?_) (fun hF => ?_)
  · refine x_iload 1 dL_law_2201 rfl ?_
    refine x_if_ne 2218 dL_law_2203 (by decide) hF (fun hF => ?_) (fun hF => ?_)
    · refine x_goto 2605 dL_law_2218 (by decide) ?_
      refine x_iinc (i + 3) (lv' := [(4, .int (i + 3)), (6, .int z6.1), (5, .int z3.1), (0, .ref b), (1, .ref x), (2, .ref m), (3, .ref o)]) dL_law_2605 6 rfl (by rfl) (by decide) rfl ?_
      refine x_goto 23 dL_law_2608 (by decide) ?_
      cases hF
      refine x_sub [3, 4, 5, 6, 0] rfl ?_
      exact x_less (rc' := rc) (rs' := rs) (by omega) (by omega) (hK _)
    · refine x_aload_n 5 dL_law_2206 rfl rfl ?_
      refine x_iconst 0 (by decide) dL_law_2207 ?_
      refine x_aldl_r dL_law_2208 hF (fun v8 hF => ?_)
      refine x_iload 0 dL_law_2209 rfl ?_
      refine x_i2l dL_law_2211 ?_
      refine x_lcmp dL_law_2212 ?_
      refine x_if_eq 2218 dL_law_2213 (by decide) hF (fun hF => ?_) (fun hF => ?_)
      · refine x_goto 2605 dL_law_2218 (by decide) ?_
        refine x_iinc (i + 3) (lv' := [(4, .int (i + 3)), (6, .int z6.1), (5, .int z3.1), (0, .ref b), (1, .ref x), (2, .ref m), (3, .ref o)]) dL_law_2605 6 rfl (by rfl) (by decide) rfl ?_
        refine x_goto 23 dL_law_2608 (by decide) ?_
        cases hF
        refine x_sub [3, 4, 5, 6, 0] rfl ?_
        exact x_less (rc' := rc) (rs' := rs) (by omega) (by omega) (hK _)
      · refine x_iconst 0 (by decide) dL_law_2216 ?_
        cases hF
  · refine x_iconst 0 (by decide) dL_law_2199 ?_
    cases hF
def F_law_41 (N L : Nat) (xs : Nat → Int32) (x m o : Nat) (i : Int32) (h : XH) : Option XM :=
  (x_sld L xs (i + 1)).bind fun v1 =>
  (x_sld L xs (i + 2)).bind fun v2 =>
  (F_L_boundOf N (h.1, h.2) x v1 v2 o).bind fun z3 =>
  (x_sld L xs (i + 1)).bind fun v4 =>
  (x_sld L xs (i + 2)).bind fun v5 =>
  (x_cv z3.2 6 m (F_X6_boundOf N z3.2 m v4 v5)).bind fun z6 =>
  (x_cv z6.2 6 m (F_X6_thrown N z6.2 m)).bind fun z7 =>
  if z7 = z3.1 then
    if z3.1 = 0 then
      (x_aldl z6.2 o 0).bind fun v8 =>
      if (lg_cmp v8 ((z6.1 : Int32).toInt64)) = 0 then
        some z6.2
      else
        none
    else
      some z6.2
  else
    none
set_option maxRecDepth 20000 in
set_option maxHeartbeats 4000000 in
theorem w_law_41 (N : Nat) {b L : Nat} {xs : Nat → Int32} (x m o : Nat) (i : Int32) (h : XH) {rc rs : Nat} (r : XM) (hF : F_law_41 N L xs x m o i h = some r) (hK : ∀ n : Nat, X mL_law 11 398 x_lz (x_RO b L xs) rc rs 23 [(0, .ref b), (1, .ref x), (2, .ref m), (3, .ref o), (4, .int (i + 3))] [] (r, n)) : X mL_law 11 398 x_lz (x_RO b L xs) (rc + 40) (rs + 2200) 2221 [(0, .ref b), (1, .ref x), (2, .ref m), (3, .ref o), (4, .int i)] [] h := by
  unfold F_law_41 at hF
  refine x_aload_n 1 dL_law_2221 rfl rfl ?_
  refine x_aload_n 0 dL_law_2222 rfl rfl ?_
  refine x_iload 4 dL_law_2223 rfl ?_
  refine x_iconst 1 (by decide) dL_law_2225 ?_
  refine x_iadd dL_law_2226 ?_
  refine x_sld_r dL_law_2227 hF (fun v1 hF => ?_)
  refine x_aload_n 0 dL_law_2228 rfl rfl ?_
  refine x_iload 4 dL_law_2229 rfl ?_
  refine x_iconst 2 (by decide) dL_law_2231 ?_
  refine x_iadd dL_law_2232 ?_
  refine x_sld_r dL_law_2233 hF (fun v2 hF => ?_)
  refine x_aload_n 3 dL_law_2234 rfl rfl ?_
  obtain ⟨z3, hzz3, hF⟩ := x_bind hF
  refine x_callsH (As := [.ref x, .int v1, .int v2, .ref o]) (rest := []) (rc + 38) (rs + 2188) dL_law_2235 mi_L_boundOf rfl ml_L_277 rfl rfl (Nat.le_of_ble_eq_true rfl) ⟨by decide, by decide⟩ (by omega) (by omega) (c_L_boundOf N _ _ _ _ _ _ hzz3) (fun n9 => ?_)
  refine x_istore (i := 5) (lv' := [(5, .int z3.1), (0, .ref b), (1, .ref x), (2, .ref m), (3, .ref o), (4, .int i)]) dL_law_2238 (by decide) rfl ?_
  refine x_aload_n 3 dL_law_2240 rfl rfl ?_
  refine x_aload_n 1 dL_law_2241 rfl rfl ?_
  refine x_iload 5 dL_law_2242 rfl ?_
  refine x_iconst 1 (by decide) dL_law_2244 ?_
  refine x_iadd dL_law_2245 ?_
  refine x_sld_r dL_law_2246 hF (fun v4 hF => ?_)
  refine x_aload_n 1 dL_law_2247 rfl rfl ?_
  refine x_iload 5 dL_law_2248 rfl ?_
  refine x_iconst 2 (by decide) dL_law_2250 ?_
  refine x_iadd dL_law_2251 ?_
  refine x_sld_r dL_law_2252 hF (fun v5 hF => ?_)
  obtain ⟨z6, hzz6, hF⟩ := x_bind hF
  obtain ⟨⟨fsz6, hbz6⟩, hzz6⟩ := x_cv_sp hzz6
  refine x_callv (As := [.int v4, .int v5]) (rest := []) (rc + 38) (rs + 2188) dL_law_2253 mi_X6_boundOf ml_L_279 rfl rfl (Nat.le_of_ble_eq_true rfl) ⟨by decide, by decide⟩ (by omega) (by omega) hbz6 rfl (c_X6_boundOf N _ _ _ _ _ _ hzz6) (x_K.some ?_) x_KX.none
  refine x_istore (i := 6) (lv' := [(6, .int z6.1), (5, .int z3.1), (0, .ref b), (1, .ref x), (2, .ref m), (3, .ref o), (4, .int i)]) dL_law_2256 (by decide) rfl ?_
  refine x_aload_n 4 dL_law_2258 rfl rfl ?_
  obtain ⟨z7, hzz7, hF⟩ := x_bind hF
  obtain ⟨⟨fsz7, hbz7⟩, hzz7⟩ := x_cv_sp hzz7
  refine x_callv (As := []) (rest := []) (rc + 38) (rs + 2188) dL_law_2259 mi_X6_thrown ml_L_142 rfl rfl (Nat.le_of_ble_eq_true rfl) ⟨by decide, by decide⟩ (by omega) (by omega) hbz7 rfl (c_X6_thrown N _ _ _ _ hzz7) (x_K.some ?_) x_KX.none
  refine x_iload 1 dL_law_2262 rfl ?_
  refine x_icmp_eq 2269 dL_law_2264 (by decide) hF (fun hF => ?_) (fun hF => ?_)
  · refine x_iload 1 dL_law_2269 rfl ?_
    refine x_if_ne 2286 dL_law_2271 (by decide) hF (fun hF => ?_) (fun hF => ?_)
    · refine x_goto 2605 dL_law_2286 (by decide) ?_
      refine x_iinc (i + 3) (lv' := [(4, .int (i + 3)), (6, .int z6.1), (5, .int z3.1), (0, .ref b), (1, .ref x), (2, .ref m), (3, .ref o)]) dL_law_2605 6 rfl (by rfl) (by decide) rfl ?_
      refine x_goto 23 dL_law_2608 (by decide) ?_
      cases hF
      refine x_sub [3, 4, 5, 6, 0] rfl ?_
      exact x_less (rc' := rc) (rs' := rs) (by omega) (by omega) (hK _)
    · refine x_aload_n 5 dL_law_2274 rfl rfl ?_
      refine x_iconst 0 (by decide) dL_law_2275 ?_
      refine x_aldl_r dL_law_2276 hF (fun v8 hF => ?_)
      refine x_iload 0 dL_law_2277 rfl ?_
      refine x_i2l dL_law_2279 ?_
      refine x_lcmp dL_law_2280 ?_
      refine x_if_eq 2286 dL_law_2281 (by decide) hF (fun hF => ?_) (fun hF => ?_)
      · refine x_goto 2605 dL_law_2286 (by decide) ?_
        refine x_iinc (i + 3) (lv' := [(4, .int (i + 3)), (6, .int z6.1), (5, .int z3.1), (0, .ref b), (1, .ref x), (2, .ref m), (3, .ref o)]) dL_law_2605 6 rfl (by rfl) (by decide) rfl ?_
        refine x_goto 23 dL_law_2608 (by decide) ?_
        cases hF
        refine x_sub [3, 4, 5, 6, 0] rfl ?_
        exact x_less (rc' := rc) (rs' := rs) (by omega) (by omega) (hK _)
      · refine x_iconst 0 (by decide) dL_law_2284 ?_
        cases hF
  · refine x_iconst 0 (by decide) dL_law_2267 ?_
    cases hF
def F_law_42 (N L : Nat) (xs : Nat → Int32) (x m o : Nat) (i : Int32) (h : XH) : Option XM :=
  (x_sld L xs (i + 1)).bind fun v1 =>
  (F_L_leafFor N (h.1, h.2) x v1 o).bind fun z2 =>
  (x_sld L xs (i + 1)).bind fun v3 =>
  (x_cv z2.2 6 m (F_X6_leafFor N z2.2 m v3)).bind fun z4 =>
  (x_cv z4.2 6 m (F_X6_thrown N z4.2 m)).bind fun z5 =>
  if z5 = z2.1 then
    if z2.1 = 0 then
      (x_aldl z4.2 o 0).bind fun v6 =>
      if (lg_cmp v6 ((z4.1 : Int32).toInt64)) = 0 then
        some z4.2
      else
        none
    else
      some z4.2
  else
    none
set_option maxRecDepth 20000 in
set_option maxHeartbeats 4000000 in
theorem w_law_42 (N : Nat) {b L : Nat} {xs : Nat → Int32} (x m o : Nat) (i : Int32) (h : XH) {rc rs : Nat} (r : XM) (hF : F_law_42 N L xs x m o i h = some r) (hK : ∀ n : Nat, X mL_law 11 398 x_lz (x_RO b L xs) rc rs 23 [(0, .ref b), (1, .ref x), (2, .ref m), (3, .ref o), (4, .int (i + 3))] [] (r, n)) : X mL_law 11 398 x_lz (x_RO b L xs) (rc + 40) (rs + 2200) 2289 [(0, .ref b), (1, .ref x), (2, .ref m), (3, .ref o), (4, .int i)] [] h := by
  unfold F_law_42 at hF
  refine x_aload_n 1 dL_law_2289 rfl rfl ?_
  refine x_aload_n 0 dL_law_2290 rfl rfl ?_
  refine x_iload 4 dL_law_2291 rfl ?_
  refine x_iconst 1 (by decide) dL_law_2293 ?_
  refine x_iadd dL_law_2294 ?_
  refine x_sld_r dL_law_2295 hF (fun v1 hF => ?_)
  refine x_aload_n 3 dL_law_2296 rfl rfl ?_
  obtain ⟨z2, hzz2, hF⟩ := x_bind hF
  refine x_callsH (As := [.ref x, .int v1, .ref o]) (rest := []) (rc + 38) (rs + 2188) dL_law_2297 mi_L_leafFor rfl ml_L_280 rfl rfl (Nat.le_of_ble_eq_true rfl) ⟨by decide, by decide⟩ (by omega) (by omega) (c_L_leafFor N _ _ _ _ _ hzz2) (fun n9 => ?_)
  refine x_istore (i := 5) (lv' := [(5, .int z2.1), (0, .ref b), (1, .ref x), (2, .ref m), (3, .ref o), (4, .int i)]) dL_law_2300 (by decide) rfl ?_
  refine x_aload_n 3 dL_law_2302 rfl rfl ?_
  refine x_aload_n 1 dL_law_2303 rfl rfl ?_
  refine x_iload 5 dL_law_2304 rfl ?_
  refine x_iconst 1 (by decide) dL_law_2306 ?_
  refine x_iadd dL_law_2307 ?_
  refine x_sld_r dL_law_2308 hF (fun v3 hF => ?_)
  obtain ⟨z4, hzz4, hF⟩ := x_bind hF
  obtain ⟨⟨fsz4, hbz4⟩, hzz4⟩ := x_cv_sp hzz4
  refine x_callv (As := [.int v3]) (rest := []) (rc + 38) (rs + 2188) dL_law_2309 mi_X6_leafFor ml_L_282 rfl rfl (Nat.le_of_ble_eq_true rfl) ⟨by decide, by decide⟩ (by omega) (by omega) hbz4 rfl (c_X6_leafFor N _ _ _ _ _ hzz4) (x_K.some ?_) x_KX.none
  refine x_istore (i := 6) (lv' := [(6, .int z4.1), (5, .int z2.1), (0, .ref b), (1, .ref x), (2, .ref m), (3, .ref o), (4, .int i)]) dL_law_2312 (by decide) rfl ?_
  refine x_aload_n 4 dL_law_2314 rfl rfl ?_
  obtain ⟨z5, hzz5, hF⟩ := x_bind hF
  obtain ⟨⟨fsz5, hbz5⟩, hzz5⟩ := x_cv_sp hzz5
  refine x_callv (As := []) (rest := []) (rc + 38) (rs + 2188) dL_law_2315 mi_X6_thrown ml_L_142 rfl rfl (Nat.le_of_ble_eq_true rfl) ⟨by decide, by decide⟩ (by omega) (by omega) hbz5 rfl (c_X6_thrown N _ _ _ _ hzz5) (x_K.some ?_) x_KX.none
  refine x_iload 1 dL_law_2318 rfl ?_
  refine x_icmp_eq 2325 dL_law_2320 (by decide) hF (fun hF => ?_) (fun hF => ?_)
  · refine x_iload 1 dL_law_2325 rfl ?_
    refine x_if_ne 2342 dL_law_2327 (by decide) hF (fun hF => ?_) (fun hF => ?_)
    · refine x_goto 2605 dL_law_2342 (by decide) ?_
      refine x_iinc (i + 3) (lv' := [(4, .int (i + 3)), (6, .int z4.1), (5, .int z2.1), (0, .ref b), (1, .ref x), (2, .ref m), (3, .ref o)]) dL_law_2605 6 rfl (by rfl) (by decide) rfl ?_
      refine x_goto 23 dL_law_2608 (by decide) ?_
      cases hF
      refine x_sub [3, 4, 5, 6, 0] rfl ?_
      exact x_less (rc' := rc) (rs' := rs) (by omega) (by omega) (hK _)
    · refine x_aload_n 5 dL_law_2330 rfl rfl ?_
      refine x_iconst 0 (by decide) dL_law_2331 ?_
      refine x_aldl_r dL_law_2332 hF (fun v6 hF => ?_)
      refine x_iload 0 dL_law_2333 rfl ?_
      refine x_i2l dL_law_2335 ?_
      refine x_lcmp dL_law_2336 ?_
      refine x_if_eq 2342 dL_law_2337 (by decide) hF (fun hF => ?_) (fun hF => ?_)
      · refine x_goto 2605 dL_law_2342 (by decide) ?_
        refine x_iinc (i + 3) (lv' := [(4, .int (i + 3)), (6, .int z4.1), (5, .int z2.1), (0, .ref b), (1, .ref x), (2, .ref m), (3, .ref o)]) dL_law_2605 6 rfl (by rfl) (by decide) rfl ?_
        refine x_goto 23 dL_law_2608 (by decide) ?_
        cases hF
        refine x_sub [3, 4, 5, 6, 0] rfl ?_
        exact x_less (rc' := rc) (rs' := rs) (by omega) (by omega) (hK _)
      · refine x_iconst 0 (by decide) dL_law_2340 ?_
        cases hF
  · refine x_iconst 0 (by decide) dL_law_2323 ?_
    cases hF
def F_law_43 (N L : Nat) (xs : Nat → Int32) (x m o : Nat) (i : Int32) (h : XH) : Option XM :=
  (x_cv h.1 5 x (F_X5_builds N h.1 x)).bind fun z1 =>
  (x_cv h.1 6 m (F_X6_builds N h.1 m)).bind fun z2 =>
  if z1 = z2.1 then
    some z2.2
  else
    none
set_option maxRecDepth 20000 in
set_option maxHeartbeats 4000000 in
theorem w_law_43 (N : Nat) {b L : Nat} {xs : Nat → Int32} (x m o : Nat) (i : Int32) (h : XH) {rc rs : Nat} (r : XM) (hF : F_law_43 N L xs x m o i h = some r) (hK : ∀ n : Nat, X mL_law 11 398 x_lz (x_RO b L xs) rc rs 23 [(0, .ref b), (1, .ref x), (2, .ref m), (3, .ref o), (4, .int (i + 3))] [] (r, n)) : X mL_law 11 398 x_lz (x_RO b L xs) (rc + 40) (rs + 2200) 2345 [(0, .ref b), (1, .ref x), (2, .ref m), (3, .ref o), (4, .int i)] [] h := by
  unfold F_law_43 at hF
  refine x_aload_n 1 dL_law_2345 rfl rfl ?_
  obtain ⟨z1, hzz1, hF⟩ := x_bind hF
  obtain ⟨⟨fsz1, hbz1⟩, hzz1⟩ := x_cv_sp hzz1
  refine x_callv (As := []) (rest := []) (rc + 40) (rs + 2200) dL_law_2346 mi_X5_builds ml_L_283 rfl rfl (Nat.le_of_ble_eq_true rfl) ⟨by decide, by decide⟩ (by omega) (by omega) hbz1 rfl (c_X5_builds N _ _ _ _ hzz1) (x_K.some ?_) x_KX.none
  refine x_aload_n 2 dL_law_2349 rfl rfl ?_
  obtain ⟨z2, hzz2, hF⟩ := x_bind hF
  obtain ⟨⟨fsz2, hbz2⟩, hzz2⟩ := x_cv_sp hzz2
  refine x_callv (As := []) (rest := [.int z1]) (rc + 40) (rs + 2200) dL_law_2350 mi_X6_builds ml_L_286 rfl rfl (Nat.le_of_ble_eq_true rfl) ⟨by decide, by decide⟩ (by omega) (by omega) hbz2 rfl (c_X6_builds N _ _ _ _ hzz2) (x_K.some ?_) x_KX.none
  refine x_icmp_eq 2605 dL_law_2353 (by decide) hF (fun hF => ?_) (fun hF => ?_)
  · refine x_iinc (i + 3) (lv' := [(4, .int (i + 3)), (0, .ref b), (1, .ref x), (2, .ref m), (3, .ref o)]) dL_law_2605 4 rfl (by rfl) (by decide) rfl ?_
    refine x_goto 23 dL_law_2608 (by decide) ?_
    cases hF
    refine x_sub [1, 2, 3, 4, 0] rfl ?_
    exact x_less (rc' := rc) (rs' := rs) (by omega) (by omega) (hK _)
  · refine x_iconst 0 (by decide) dL_law_2356 ?_
    cases hF
def F_law_44 (N L : Nat) (xs : Nat → Int32) (x m o : Nat) (i : Int32) (h : XH) : Option XM :=
  (x_cv h.1 5 x (F_X5_written N h.1 x)).bind fun z1 =>
  (x_cv h.1 6 m (F_X6_written N h.1 m)).bind fun z2 =>
  if z1 = z2.1 then
    some z2.2
  else
    none
set_option maxRecDepth 20000 in
set_option maxHeartbeats 4000000 in
theorem w_law_44 (N : Nat) {b L : Nat} {xs : Nat → Int32} (x m o : Nat) (i : Int32) (h : XH) {rc rs : Nat} (r : XM) (hF : F_law_44 N L xs x m o i h = some r) (hK : ∀ n : Nat, X mL_law 11 398 x_lz (x_RO b L xs) rc rs 23 [(0, .ref b), (1, .ref x), (2, .ref m), (3, .ref o), (4, .int (i + 3))] [] (r, n)) : X mL_law 11 398 x_lz (x_RO b L xs) (rc + 40) (rs + 2200) 2358 [(0, .ref b), (1, .ref x), (2, .ref m), (3, .ref o), (4, .int i)] [] h := by
  unfold F_law_44 at hF
  refine x_aload_n 1 dL_law_2358 rfl rfl ?_
  obtain ⟨z1, hzz1, hF⟩ := x_bind hF
  obtain ⟨⟨fsz1, hbz1⟩, hzz1⟩ := x_cv_sp hzz1
  refine x_callv (As := []) (rest := []) (rc + 40) (rs + 2200) dL_law_2359 mi_X5_written ml_L_287 rfl rfl (Nat.le_of_ble_eq_true rfl) ⟨by decide, by decide⟩ (by omega) (by omega) hbz1 rfl (c_X5_written N _ _ _ _ hzz1) (x_K.some ?_) x_KX.none
  refine x_aload_n 2 dL_law_2362 rfl rfl ?_
  obtain ⟨z2, hzz2, hF⟩ := x_bind hF
  obtain ⟨⟨fsz2, hbz2⟩, hzz2⟩ := x_cv_sp hzz2
  refine x_callv (As := []) (rest := [.int z1]) (rc + 40) (rs + 2200) dL_law_2363 mi_X6_written ml_L_290 rfl rfl (Nat.le_of_ble_eq_true rfl) ⟨by decide, by decide⟩ (by omega) (by omega) hbz2 rfl (c_X6_written N _ _ _ _ hzz2) (x_K.some ?_) x_KX.none
  refine x_icmp_eq 2605 dL_law_2366 (by decide) hF (fun hF => ?_) (fun hF => ?_)
  · refine x_iinc (i + 3) (lv' := [(4, .int (i + 3)), (0, .ref b), (1, .ref x), (2, .ref m), (3, .ref o)]) dL_law_2605 4 rfl (by rfl) (by decide) rfl ?_
    refine x_goto 23 dL_law_2608 (by decide) ?_
    cases hF
    refine x_sub [1, 2, 3, 4, 0] rfl ?_
    exact x_less (rc' := rc) (rs' := rs) (by omega) (by omega) (hK _)
  · refine x_iconst 0 (by decide) dL_law_2369 ?_
    cases hF
def F_law_45 (N L : Nat) (xs : Nat → Int32) (x m o : Nat) (i : Int32) (h : XH) : Option XM :=
  (x_cv h.1 5 x (F_X5_told N h.1 x)).bind fun z1 =>
  (x_cv h.1 6 m (F_X6_told N h.1 m)).bind fun z2 =>
  if z1 = z2.1 then
    some z2.2
  else
    none
set_option maxRecDepth 20000 in
set_option maxHeartbeats 4000000 in
theorem w_law_45 (N : Nat) {b L : Nat} {xs : Nat → Int32} (x m o : Nat) (i : Int32) (h : XH) {rc rs : Nat} (r : XM) (hF : F_law_45 N L xs x m o i h = some r) (hK : ∀ n : Nat, X mL_law 11 398 x_lz (x_RO b L xs) rc rs 23 [(0, .ref b), (1, .ref x), (2, .ref m), (3, .ref o), (4, .int (i + 3))] [] (r, n)) : X mL_law 11 398 x_lz (x_RO b L xs) (rc + 40) (rs + 2200) 2371 [(0, .ref b), (1, .ref x), (2, .ref m), (3, .ref o), (4, .int i)] [] h := by
  unfold F_law_45 at hF
  refine x_aload_n 1 dL_law_2371 rfl rfl ?_
  obtain ⟨z1, hzz1, hF⟩ := x_bind hF
  obtain ⟨⟨fsz1, hbz1⟩, hzz1⟩ := x_cv_sp hzz1
  refine x_callv (As := []) (rest := []) (rc + 40) (rs + 2200) dL_law_2372 mi_X5_told ml_L_291 rfl rfl (Nat.le_of_ble_eq_true rfl) ⟨by decide, by decide⟩ (by omega) (by omega) hbz1 rfl (c_X5_told N _ _ _ _ hzz1) (x_K.some ?_) x_KX.none
  refine x_aload_n 2 dL_law_2375 rfl rfl ?_
  obtain ⟨z2, hzz2, hF⟩ := x_bind hF
  obtain ⟨⟨fsz2, hbz2⟩, hzz2⟩ := x_cv_sp hzz2
  refine x_callv (As := []) (rest := [.int z1]) (rc + 40) (rs + 2200) dL_law_2376 mi_X6_told ml_L_294 rfl rfl (Nat.le_of_ble_eq_true rfl) ⟨by decide, by decide⟩ (by omega) (by omega) hbz2 rfl (c_X6_told N _ _ _ _ hzz2) (x_K.some ?_) x_KX.none
  refine x_icmp_eq 2605 dL_law_2379 (by decide) hF (fun hF => ?_) (fun hF => ?_)
  · refine x_iinc (i + 3) (lv' := [(4, .int (i + 3)), (0, .ref b), (1, .ref x), (2, .ref m), (3, .ref o)]) dL_law_2605 4 rfl (by rfl) (by decide) rfl ?_
    refine x_goto 23 dL_law_2608 (by decide) ?_
    cases hF
    refine x_sub [1, 2, 3, 4, 0] rfl ?_
    exact x_less (rc' := rc) (rs' := rs) (by omega) (by omega) (hK _)
  · refine x_iconst 0 (by decide) dL_law_2382 ?_
    cases hF
def F_law_46 (N L : Nat) (xs : Nat → Int32) (x m o : Nat) (i : Int32) (h : XH) : Option XM :=
  (x_cv h.1 5 x (F_X5_overflowShare N h.1 x)).bind fun z1 =>
  (x_cv h.1 6 m (F_X6_overflowShare N h.1 m)).bind fun z2 =>
  if (Op.cmpValue (FP.dcmp z1 z2.1) CmpOp.l) = 0 then
    some z2.2
  else
    if (Op.cmpValue (FP.dcmp z1 z1) CmpOp.l) = 0 then
      none
    else
      if (Op.cmpValue (FP.dcmp z2.1 z2.1) CmpOp.l) = 0 then
        none
      else
        some z2.2
set_option maxRecDepth 20000 in
set_option maxHeartbeats 4000000 in
theorem w_law_46 (N : Nat) {b L : Nat} {xs : Nat → Int32} (x m o : Nat) (i : Int32) (h : XH) {rc rs : Nat} (r : XM) (hF : F_law_46 N L xs x m o i h = some r) (hK : ∀ n : Nat, X mL_law 11 398 x_lz (x_RO b L xs) rc rs 23 [(0, .ref b), (1, .ref x), (2, .ref m), (3, .ref o), (4, .int (i + 3))] [] (r, n)) : X mL_law 11 398 x_lz (x_RO b L xs) (rc + 40) (rs + 2200) 2384 [(0, .ref b), (1, .ref x), (2, .ref m), (3, .ref o), (4, .int i)] [] h := by
  unfold F_law_46 at hF
  refine x_aload_n 1 dL_law_2384 rfl rfl ?_
  obtain ⟨z1, hzz1, hF⟩ := x_bind hF
  obtain ⟨⟨fsz1, hbz1⟩, hzz1⟩ := x_cv_sp hzz1
  refine x_callv (As := []) (rest := []) (rc + 40) (rs + 2200) dL_law_2385 mi_X5_overflowShare ml_L_295 rfl rfl (Nat.le_of_ble_eq_true rfl) ⟨by decide, by decide⟩ (by omega) (by omega) hbz1 rfl (c_X5_overflowShare N _ _ _ _ hzz1) (x_K.some ?_) x_KX.none
  refine x_dstore (i := 5) (lv' := [(5, .double z1), (0, .ref b), (1, .ref x), (2, .ref m), (3, .ref o), (4, .int i)]) dL_law_2388 (by decide) rfl ?_
  refine x_aload_n 3 dL_law_2390 rfl rfl ?_
  obtain ⟨z2, hzz2, hF⟩ := x_bind hF
  obtain ⟨⟨fsz2, hbz2⟩, hzz2⟩ := x_cv_sp hzz2
  refine x_callv (As := []) (rest := []) (rc + 40) (rs + 2200) dL_law_2391 mi_X6_overflowShare ml_L_299 rfl rfl (Nat.le_of_ble_eq_true rfl) ⟨by decide, by decide⟩ (by omega) (by omega) hbz2 rfl (c_X6_overflowShare N _ _ _ _ hzz2) (x_K.some ?_) x_KX.none
  refine x_dstore (i := 7) (lv' := [(7, .double z2.1), (5, .double z1), (0, .ref b), (1, .ref x), (2, .ref m), (3, .ref o), (4, .int i)]) dL_law_2394 (by decide) rfl ?_
  refine x_dload 1 dL_law_2396 rfl ?_
  refine x_dload 0 dL_law_2398 rfl ?_
  refine x_dcmp dL_law_2400 ?_
  refine x_if_eq 2422 dL_law_2401 (by decide) hF (fun hF => ?_) (fun hF => ?_)
  · refine x_goto 2605 dL_law_2422 (by decide) ?_
    refine x_iinc (i + 3) (lv' := [(4, .int (i + 3)), (7, .double z2.1), (5, .double z1), (0, .ref b), (1, .ref x), (2, .ref m), (3, .ref o)]) dL_law_2605 6 rfl (by rfl) (by decide) rfl ?_
    refine x_goto 23 dL_law_2608 (by decide) ?_
    cases hF
    refine x_sub [3, 4, 5, 6, 0] rfl ?_
    exact x_less (rc' := rc) (rs' := rs) (by omega) (by omega) (hK _)
  · refine x_dload 1 dL_law_2404 rfl ?_
    refine x_dload 1 dL_law_2406 rfl ?_
    refine x_dcmp dL_law_2408 ?_
    refine x_if_eq 2420 dL_law_2409 (by decide) hF (fun hF => ?_) (fun hF => ?_)
    · refine x_iconst 0 (by decide) dL_law_2420 ?_
      cases hF
    · refine x_dload 0 dL_law_2412 rfl ?_
      refine x_dload 0 dL_law_2414 rfl ?_
      refine x_dcmp dL_law_2416 ?_
      refine x_if_ne 2422 dL_law_2417 (by decide) hF (fun hF => ?_) (fun hF => ?_)
      · refine x_goto 2605 dL_law_2422 (by decide) ?_
        refine x_iinc (i + 3) (lv' := [(4, .int (i + 3)), (7, .double z2.1), (5, .double z1), (0, .ref b), (1, .ref x), (2, .ref m), (3, .ref o)]) dL_law_2605 6 rfl (by rfl) (by decide) rfl ?_
        refine x_goto 23 dL_law_2608 (by decide) ?_
        cases hF
        refine x_sub [3, 4, 5, 6, 0] rfl ?_
        exact x_less (rc' := rc) (rs' := rs) (by omega) (by omega) (hK _)
      · refine x_iconst 0 (by decide) dL_law_2420 ?_
        cases hF
def F_law_47 (N L : Nat) (xs : Nat → Int32) (x m o : Nat) (i : Int32) (h : XH) : Option XM :=
  (x_cv h.1 5 x (F_X5_meanPages N h.1 x)).bind fun z1 =>
  (x_cv z1.2 6 m (F_X6_meanPages N z1.2 m)).bind fun z2 =>
  if (Op.cmpValue (FP.dcmp z1.1 z2.1) CmpOp.l) = 0 then
    some z2.2
  else
    if (Op.cmpValue (FP.dcmp z1.1 z1.1) CmpOp.l) = 0 then
      none
    else
      if (Op.cmpValue (FP.dcmp z2.1 z2.1) CmpOp.l) = 0 then
        none
      else
        some z2.2
set_option maxRecDepth 20000 in
set_option maxHeartbeats 4000000 in
theorem w_law_47 (N : Nat) {b L : Nat} {xs : Nat → Int32} (x m o : Nat) (i : Int32) (h : XH) {rc rs : Nat} (r : XM) (hF : F_law_47 N L xs x m o i h = some r) (hK : ∀ n : Nat, X mL_law 11 398 x_lz (x_RO b L xs) rc rs 23 [(0, .ref b), (1, .ref x), (2, .ref m), (3, .ref o), (4, .int (i + 3))] [] (r, n)) : X mL_law 11 398 x_lz (x_RO b L xs) (rc + 40) (rs + 2200) 2425 [(0, .ref b), (1, .ref x), (2, .ref m), (3, .ref o), (4, .int i)] [] h := by
  unfold F_law_47 at hF
  refine x_aload_n 1 dL_law_2425 rfl rfl ?_
  obtain ⟨z1, hzz1, hF⟩ := x_bind hF
  obtain ⟨⟨fsz1, hbz1⟩, hzz1⟩ := x_cv_sp hzz1
  refine x_callv (As := []) (rest := []) (rc + 40) (rs + 2200) dL_law_2426 mi_X5_meanPages ml_L_300 rfl rfl (Nat.le_of_ble_eq_true rfl) ⟨by decide, by decide⟩ (by omega) (by omega) hbz1 rfl (c_X5_meanPages N _ _ _ _ hzz1) (x_K.some ?_) x_KX.none
  refine x_dstore (i := 5) (lv' := [(5, .double z1.1), (0, .ref b), (1, .ref x), (2, .ref m), (3, .ref o), (4, .int i)]) dL_law_2429 (by decide) rfl ?_
  refine x_aload_n 3 dL_law_2431 rfl rfl ?_
  obtain ⟨z2, hzz2, hF⟩ := x_bind hF
  obtain ⟨⟨fsz2, hbz2⟩, hzz2⟩ := x_cv_sp hzz2
  refine x_callv (As := []) (rest := []) (rc + 40) (rs + 2200) dL_law_2432 mi_X6_meanPages ml_L_303 rfl rfl (Nat.le_of_ble_eq_true rfl) ⟨by decide, by decide⟩ (by omega) (by omega) hbz2 rfl (c_X6_meanPages N _ _ _ _ hzz2) (x_K.some ?_) x_KX.none
  refine x_dstore (i := 7) (lv' := [(7, .double z2.1), (5, .double z1.1), (0, .ref b), (1, .ref x), (2, .ref m), (3, .ref o), (4, .int i)]) dL_law_2435 (by decide) rfl ?_
  refine x_dload 1 dL_law_2437 rfl ?_
  refine x_dload 0 dL_law_2439 rfl ?_
  refine x_dcmp dL_law_2441 ?_
  refine x_if_eq 2463 dL_law_2442 (by decide) hF (fun hF => ?_) (fun hF => ?_)
  · refine x_goto 2605 dL_law_2463 (by decide) ?_
    refine x_iinc (i + 3) (lv' := [(4, .int (i + 3)), (7, .double z2.1), (5, .double z1.1), (0, .ref b), (1, .ref x), (2, .ref m), (3, .ref o)]) dL_law_2605 6 rfl (by rfl) (by decide) rfl ?_
    refine x_goto 23 dL_law_2608 (by decide) ?_
    cases hF
    refine x_sub [3, 4, 5, 6, 0] rfl ?_
    exact x_less (rc' := rc) (rs' := rs) (by omega) (by omega) (hK _)
  · refine x_dload 1 dL_law_2445 rfl ?_
    refine x_dload 1 dL_law_2447 rfl ?_
    refine x_dcmp dL_law_2449 ?_
    refine x_if_eq 2461 dL_law_2450 (by decide) hF (fun hF => ?_) (fun hF => ?_)
    · refine x_iconst 0 (by decide) dL_law_2461 ?_
      cases hF
    · refine x_dload 0 dL_law_2453 rfl ?_
      refine x_dload 0 dL_law_2455 rfl ?_
      refine x_dcmp dL_law_2457 ?_
      refine x_if_ne 2463 dL_law_2458 (by decide) hF (fun hF => ?_) (fun hF => ?_)
      · refine x_goto 2605 dL_law_2463 (by decide) ?_
        refine x_iinc (i + 3) (lv' := [(4, .int (i + 3)), (7, .double z2.1), (5, .double z1.1), (0, .ref b), (1, .ref x), (2, .ref m), (3, .ref o)]) dL_law_2605 6 rfl (by rfl) (by decide) rfl ?_
        refine x_goto 23 dL_law_2608 (by decide) ?_
        cases hF
        refine x_sub [3, 4, 5, 6, 0] rfl ?_
        exact x_less (rc' := rc) (rs' := rs) (by omega) (by omega) (hK _)
      · refine x_iconst 0 (by decide) dL_law_2461 ?_
        cases hF
def F_law_48 (N L : Nat) (xs : Nat → Int32) (x m o : Nat) (i : Int32) (h : XH) : Option XM :=
  (x_cv h.1 5 x (F_X5_worstPages N h.1 x)).bind fun z1 =>
  (x_cv z1.2 6 m (F_X6_worstPages N z1.2 m)).bind fun z2 =>
  if z1.1 = z2.1 then
    some z2.2
  else
    none
set_option maxRecDepth 20000 in
set_option maxHeartbeats 4000000 in
theorem w_law_48 (N : Nat) {b L : Nat} {xs : Nat → Int32} (x m o : Nat) (i : Int32) (h : XH) {rc rs : Nat} (r : XM) (hF : F_law_48 N L xs x m o i h = some r) (hK : ∀ n : Nat, X mL_law 11 398 x_lz (x_RO b L xs) rc rs 23 [(0, .ref b), (1, .ref x), (2, .ref m), (3, .ref o), (4, .int (i + 3))] [] (r, n)) : X mL_law 11 398 x_lz (x_RO b L xs) (rc + 40) (rs + 2200) 2466 [(0, .ref b), (1, .ref x), (2, .ref m), (3, .ref o), (4, .int i)] [] h := by
  unfold F_law_48 at hF
  refine x_aload_n 1 dL_law_2466 rfl rfl ?_
  obtain ⟨z1, hzz1, hF⟩ := x_bind hF
  obtain ⟨⟨fsz1, hbz1⟩, hzz1⟩ := x_cv_sp hzz1
  refine x_callv (As := []) (rest := []) (rc + 40) (rs + 2200) dL_law_2467 mi_X5_worstPages ml_L_304 rfl rfl (Nat.le_of_ble_eq_true rfl) ⟨by decide, by decide⟩ (by omega) (by omega) hbz1 rfl (c_X5_worstPages N _ _ _ _ hzz1) (x_K.some ?_) x_KX.none
  refine x_aload_n 2 dL_law_2470 rfl rfl ?_
  obtain ⟨z2, hzz2, hF⟩ := x_bind hF
  obtain ⟨⟨fsz2, hbz2⟩, hzz2⟩ := x_cv_sp hzz2
  refine x_callv (As := []) (rest := [.int z1.1]) (rc + 40) (rs + 2200) dL_law_2471 mi_X6_worstPages ml_L_307 rfl rfl (Nat.le_of_ble_eq_true rfl) ⟨by decide, by decide⟩ (by omega) (by omega) hbz2 rfl (c_X6_worstPages N _ _ _ _ hzz2) (x_K.some ?_) x_KX.none
  refine x_icmp_eq 2605 dL_law_2474 (by decide) hF (fun hF => ?_) (fun hF => ?_)
  · refine x_iinc (i + 3) (lv' := [(4, .int (i + 3)), (0, .ref b), (1, .ref x), (2, .ref m), (3, .ref o)]) dL_law_2605 4 rfl (by rfl) (by decide) rfl ?_
    refine x_goto 23 dL_law_2608 (by decide) ?_
    cases hF
    refine x_sub [1, 2, 3, 4, 0] rfl ?_
    exact x_less (rc' := rc) (rs' := rs) (by omega) (by omega) (hK _)
  · refine x_iconst 0 (by decide) dL_law_2477 ?_
    cases hF
def F_law_49 (N L : Nat) (xs : Nat → Int32) (x m o : Nat) (i : Int32) (h : XH) : Option XM :=
  (x_sld L xs (i + 1)).bind fun v1 =>
  (F_L_leavesIfBuilt N (h.1, h.2) x v1 o).bind fun z2 =>
  (x_sld L xs (i + 1)).bind fun v3 =>
  (x_cv z2.2 6 m (F_X6_leavesIfBuilt N z2.2 m v3)).bind fun z4 =>
  (x_cv z4.2 6 m (F_X6_thrown N z4.2 m)).bind fun z5 =>
  if z5 = z2.1 then
    if z2.1 = 0 then
      (x_aldl z4.2 o 0).bind fun v6 =>
      if (lg_cmp v6 ((z4.1 : Int32).toInt64)) = 0 then
        some z4.2
      else
        none
    else
      some z4.2
  else
    none
set_option maxRecDepth 20000 in
set_option maxHeartbeats 4000000 in
theorem w_law_49 (N : Nat) {b L : Nat} {xs : Nat → Int32} (x m o : Nat) (i : Int32) (h : XH) {rc rs : Nat} (r : XM) (hF : F_law_49 N L xs x m o i h = some r) (hK : ∀ n : Nat, X mL_law 11 398 x_lz (x_RO b L xs) rc rs 23 [(0, .ref b), (1, .ref x), (2, .ref m), (3, .ref o), (4, .int (i + 3))] [] (r, n)) : X mL_law 11 398 x_lz (x_RO b L xs) (rc + 40) (rs + 2200) 2479 [(0, .ref b), (1, .ref x), (2, .ref m), (3, .ref o), (4, .int i)] [] h := by
  unfold F_law_49 at hF
  refine x_aload_n 1 dL_law_2479 rfl rfl ?_
  refine x_aload_n 0 dL_law_2480 rfl rfl ?_
  refine x_iload 4 dL_law_2481 rfl ?_
  refine x_iconst 1 (by decide) dL_law_2483 ?_
  refine x_iadd dL_law_2484 ?_
  refine x_sld_r dL_law_2485 hF (fun v1 hF => ?_)
  refine x_aload_n 3 dL_law_2486 rfl rfl ?_
  obtain ⟨z2, hzz2, hF⟩ := x_bind hF
  refine x_callsH (As := [.ref x, .int v1, .ref o]) (rest := []) (rc + 39) (rs + 2194) dL_law_2487 mi_L_leavesIfBuilt rfl ml_L_308 rfl rfl (Nat.le_of_ble_eq_true rfl) ⟨by decide, by decide⟩ (by omega) (by omega) (c_L_leavesIfBuilt N _ _ _ _ _ hzz2) (fun n9 => ?_)
  refine x_istore (i := 5) (lv' := [(5, .int z2.1), (0, .ref b), (1, .ref x), (2, .ref m), (3, .ref o), (4, .int i)]) dL_law_2490 (by decide) rfl ?_
  refine x_aload_n 3 dL_law_2492 rfl rfl ?_
  refine x_aload_n 1 dL_law_2493 rfl rfl ?_
  refine x_iload 5 dL_law_2494 rfl ?_
  refine x_iconst 1 (by decide) dL_law_2496 ?_
  refine x_iadd dL_law_2497 ?_
  refine x_sld_r dL_law_2498 hF (fun v3 hF => ?_)
  obtain ⟨z4, hzz4, hF⟩ := x_bind hF
  obtain ⟨⟨fsz4, hbz4⟩, hzz4⟩ := x_cv_sp hzz4
  refine x_callv (As := [.int v3]) (rest := []) (rc + 39) (rs + 2194) dL_law_2499 mi_X6_leavesIfBuilt ml_L_310 rfl rfl (Nat.le_of_ble_eq_true rfl) ⟨by decide, by decide⟩ (by omega) (by omega) hbz4 rfl (c_X6_leavesIfBuilt N _ _ _ _ _ hzz4) (x_K.some ?_) x_KX.none
  refine x_istore (i := 6) (lv' := [(6, .int z4.1), (5, .int z2.1), (0, .ref b), (1, .ref x), (2, .ref m), (3, .ref o), (4, .int i)]) dL_law_2502 (by decide) rfl ?_
  refine x_aload_n 4 dL_law_2504 rfl rfl ?_
  obtain ⟨z5, hzz5, hF⟩ := x_bind hF
  obtain ⟨⟨fsz5, hbz5⟩, hzz5⟩ := x_cv_sp hzz5
  refine x_callv (As := []) (rest := []) (rc + 39) (rs + 2194) dL_law_2505 mi_X6_thrown ml_L_142 rfl rfl (Nat.le_of_ble_eq_true rfl) ⟨by decide, by decide⟩ (by omega) (by omega) hbz5 rfl (c_X6_thrown N _ _ _ _ hzz5) (x_K.some ?_) x_KX.none
  refine x_iload 1 dL_law_2508 rfl ?_
  refine x_icmp_eq 2515 dL_law_2510 (by decide) hF (fun hF => ?_) (fun hF => ?_)
  · refine x_iload 1 dL_law_2515 rfl ?_
    refine x_if_ne 2532 dL_law_2517 (by decide) hF (fun hF => ?_) (fun hF => ?_)
    · refine x_goto 2605 dL_law_2532 (by decide) ?_
      refine x_iinc (i + 3) (lv' := [(4, .int (i + 3)), (6, .int z4.1), (5, .int z2.1), (0, .ref b), (1, .ref x), (2, .ref m), (3, .ref o)]) dL_law_2605 6 rfl (by rfl) (by decide) rfl ?_
      refine x_goto 23 dL_law_2608 (by decide) ?_
      cases hF
      refine x_sub [3, 4, 5, 6, 0] rfl ?_
      exact x_less (rc' := rc) (rs' := rs) (by omega) (by omega) (hK _)
    · refine x_aload_n 5 dL_law_2520 rfl rfl ?_
      refine x_iconst 0 (by decide) dL_law_2521 ?_
      refine x_aldl_r dL_law_2522 hF (fun v6 hF => ?_)
      refine x_iload 0 dL_law_2523 rfl ?_
      refine x_i2l dL_law_2525 ?_
      refine x_lcmp dL_law_2526 ?_
      refine x_if_eq 2532 dL_law_2527 (by decide) hF (fun hF => ?_) (fun hF => ?_)
      · refine x_goto 2605 dL_law_2532 (by decide) ?_
        refine x_iinc (i + 3) (lv' := [(4, .int (i + 3)), (6, .int z4.1), (5, .int z2.1), (0, .ref b), (1, .ref x), (2, .ref m), (3, .ref o)]) dL_law_2605 6 rfl (by rfl) (by decide) rfl ?_
        refine x_goto 23 dL_law_2608 (by decide) ?_
        cases hF
        refine x_sub [3, 4, 5, 6, 0] rfl ?_
        exact x_less (rc' := rc) (rs' := rs) (by omega) (by omega) (hK _)
      · refine x_iconst 0 (by decide) dL_law_2530 ?_
        cases hF
  · refine x_iconst 0 (by decide) dL_law_2513 ?_
    cases hF
def F_law_50 (N L : Nat) (xs : Nat → Int32) (x m o : Nat) (i : Int32) (h : XH) : Option XM :=
  (x_sld L xs (i + 1)).bind fun v1 =>
  (F_L_levelsIfBuilt N (h.1, h.2) x v1 o).bind fun z2 =>
  (x_sld L xs (i + 1)).bind fun v3 =>
  (x_cv z2.2 6 m (F_X6_levelsIfBuilt N z2.2 m v3)).bind fun z4 =>
  (x_cv z4.2 6 m (F_X6_thrown N z4.2 m)).bind fun z5 =>
  if z5 = z2.1 then
    if z2.1 = 0 then
      (x_aldl z4.2 o 0).bind fun v6 =>
      if (lg_cmp v6 ((z4.1 : Int32).toInt64)) = 0 then
        some z4.2
      else
        none
    else
      some z4.2
  else
    none
set_option maxRecDepth 20000 in
set_option maxHeartbeats 4000000 in
theorem w_law_50 (N : Nat) {b L : Nat} {xs : Nat → Int32} (x m o : Nat) (i : Int32) (h : XH) {rc rs : Nat} (r : XM) (hF : F_law_50 N L xs x m o i h = some r) (hK : ∀ n : Nat, X mL_law 11 398 x_lz (x_RO b L xs) rc rs 23 [(0, .ref b), (1, .ref x), (2, .ref m), (3, .ref o), (4, .int (i + 3))] [] (r, n)) : X mL_law 11 398 x_lz (x_RO b L xs) (rc + 40) (rs + 2200) 2535 [(0, .ref b), (1, .ref x), (2, .ref m), (3, .ref o), (4, .int i)] [] h := by
  unfold F_law_50 at hF
  refine x_aload_n 1 dL_law_2535 rfl rfl ?_
  refine x_aload_n 0 dL_law_2536 rfl rfl ?_
  refine x_iload 4 dL_law_2537 rfl ?_
  refine x_iconst 1 (by decide) dL_law_2539 ?_
  refine x_iadd dL_law_2540 ?_
  refine x_sld_r dL_law_2541 hF (fun v1 hF => ?_)
  refine x_aload_n 3 dL_law_2542 rfl rfl ?_
  obtain ⟨z2, hzz2, hF⟩ := x_bind hF
  refine x_callsH (As := [.ref x, .int v1, .ref o]) (rest := []) (rc + 39) (rs + 2194) dL_law_2543 mi_L_levelsIfBuilt rfl ml_L_311 rfl rfl (Nat.le_of_ble_eq_true rfl) ⟨by decide, by decide⟩ (by omega) (by omega) (c_L_levelsIfBuilt N _ _ _ _ _ hzz2) (fun n9 => ?_)
  refine x_istore (i := 5) (lv' := [(5, .int z2.1), (0, .ref b), (1, .ref x), (2, .ref m), (3, .ref o), (4, .int i)]) dL_law_2546 (by decide) rfl ?_
  refine x_aload_n 3 dL_law_2548 rfl rfl ?_
  refine x_aload_n 1 dL_law_2549 rfl rfl ?_
  refine x_iload 5 dL_law_2550 rfl ?_
  refine x_iconst 1 (by decide) dL_law_2552 ?_
  refine x_iadd dL_law_2553 ?_
  refine x_sld_r dL_law_2554 hF (fun v3 hF => ?_)
  obtain ⟨z4, hzz4, hF⟩ := x_bind hF
  obtain ⟨⟨fsz4, hbz4⟩, hzz4⟩ := x_cv_sp hzz4
  refine x_callv (As := [.int v3]) (rest := []) (rc + 39) (rs + 2194) dL_law_2555 mi_X6_levelsIfBuilt ml_L_313 rfl rfl (Nat.le_of_ble_eq_true rfl) ⟨by decide, by decide⟩ (by omega) (by omega) hbz4 rfl (c_X6_levelsIfBuilt N _ _ _ _ _ hzz4) (x_K.some ?_) x_KX.none
  refine x_istore (i := 6) (lv' := [(6, .int z4.1), (5, .int z2.1), (0, .ref b), (1, .ref x), (2, .ref m), (3, .ref o), (4, .int i)]) dL_law_2558 (by decide) rfl ?_
  refine x_aload_n 4 dL_law_2560 rfl rfl ?_
  obtain ⟨z5, hzz5, hF⟩ := x_bind hF
  obtain ⟨⟨fsz5, hbz5⟩, hzz5⟩ := x_cv_sp hzz5
  refine x_callv (As := []) (rest := []) (rc + 39) (rs + 2194) dL_law_2561 mi_X6_thrown ml_L_142 rfl rfl (Nat.le_of_ble_eq_true rfl) ⟨by decide, by decide⟩ (by omega) (by omega) hbz5 rfl (c_X6_thrown N _ _ _ _ hzz5) (x_K.some ?_) x_KX.none
  refine x_iload 1 dL_law_2564 rfl ?_
  refine x_icmp_eq 2571 dL_law_2566 (by decide) hF (fun hF => ?_) (fun hF => ?_)
  · refine x_iload 1 dL_law_2571 rfl ?_
    refine x_if_ne 2588 dL_law_2573 (by decide) hF (fun hF => ?_) (fun hF => ?_)
    · refine x_goto 2605 dL_law_2588 (by decide) ?_
      refine x_iinc (i + 3) (lv' := [(4, .int (i + 3)), (6, .int z4.1), (5, .int z2.1), (0, .ref b), (1, .ref x), (2, .ref m), (3, .ref o)]) dL_law_2605 6 rfl (by rfl) (by decide) rfl ?_
      refine x_goto 23 dL_law_2608 (by decide) ?_
      cases hF
      refine x_sub [3, 4, 5, 6, 0] rfl ?_
      exact x_less (rc' := rc) (rs' := rs) (by omega) (by omega) (hK _)
    · refine x_aload_n 5 dL_law_2576 rfl rfl ?_
      refine x_iconst 0 (by decide) dL_law_2577 ?_
      refine x_aldl_r dL_law_2578 hF (fun v6 hF => ?_)
      refine x_iload 0 dL_law_2579 rfl ?_
      refine x_i2l dL_law_2581 ?_
      refine x_lcmp dL_law_2582 ?_
      refine x_if_eq 2588 dL_law_2583 (by decide) hF (fun hF => ?_) (fun hF => ?_)
      · refine x_goto 2605 dL_law_2588 (by decide) ?_
        refine x_iinc (i + 3) (lv' := [(4, .int (i + 3)), (6, .int z4.1), (5, .int z2.1), (0, .ref b), (1, .ref x), (2, .ref m), (3, .ref o)]) dL_law_2605 6 rfl (by rfl) (by decide) rfl ?_
        refine x_goto 23 dL_law_2608 (by decide) ?_
        cases hF
        refine x_sub [3, 4, 5, 6, 0] rfl ?_
        exact x_less (rc' := rc) (rs' := rs) (by omega) (by omega) (hK _)
      · refine x_iconst 0 (by decide) dL_law_2586 ?_
        cases hF
  · refine x_iconst 0 (by decide) dL_law_2569 ?_
    cases hF
def F_law_51 (N L : Nat) (xs : Nat → Int32) (x m o : Nat) (i : Int32) (h : XH) : Option XM :=
  (x_cv h.1 5 x (F_X5_digest N h.1 x)).bind fun z1 =>
  (x_cv z1.2 6 m (F_X6_digest N z1.2 m)).bind fun z2 =>
  if (lg_cmp z1.1 z2.1) = 0 then
    some z2.2
  else
    none
set_option maxRecDepth 20000 in
set_option maxHeartbeats 4000000 in
theorem w_law_51 (N : Nat) {b L : Nat} {xs : Nat → Int32} (x m o : Nat) (i : Int32) (h : XH) {rc rs : Nat} (r : XM) (hF : F_law_51 N L xs x m o i h = some r) (hK : ∀ n : Nat, X mL_law 11 398 x_lz (x_RO b L xs) rc rs 23 [(0, .ref b), (1, .ref x), (2, .ref m), (3, .ref o), (4, .int (i + 3))] [] (r, n)) : X mL_law 11 398 x_lz (x_RO b L xs) (rc + 40) (rs + 2200) 2591 [(0, .ref b), (1, .ref x), (2, .ref m), (3, .ref o), (4, .int i)] [] h := by
  unfold F_law_51 at hF
  refine x_aload_n 1 dL_law_2591 rfl rfl ?_
  obtain ⟨z1, hzz1, hF⟩ := x_bind hF
  obtain ⟨⟨fsz1, hbz1⟩, hzz1⟩ := x_cv_sp hzz1
  refine x_callv (As := []) (rest := []) (rc + 40) (rs + 2200) dL_law_2592 mi_X5_digest ml_L_314 rfl rfl (Nat.le_of_ble_eq_true rfl) ⟨by decide, by decide⟩ (by omega) (by omega) hbz1 rfl (c_X5_digest N _ _ _ _ hzz1) (x_K.some ?_) x_KX.none
  refine x_aload_n 2 dL_law_2595 rfl rfl ?_
  obtain ⟨z2, hzz2, hF⟩ := x_bind hF
  obtain ⟨⟨fsz2, hbz2⟩, hzz2⟩ := x_cv_sp hzz2
  refine x_callv (As := []) (rest := [.long z1.1]) (rc + 40) (rs + 2200) dL_law_2596 mi_X6_digest ml_L_318 rfl rfl (Nat.le_of_ble_eq_true rfl) ⟨by decide, by decide⟩ (by omega) (by omega) hbz2 rfl (c_X6_digest N _ _ _ _ hzz2) (x_K.some ?_) x_KX.none
  refine x_lcmp dL_law_2599 ?_
  refine x_if_eq 2605 dL_law_2600 (by decide) hF (fun hF => ?_) (fun hF => ?_)
  · refine x_iinc (i + 3) (lv' := [(4, .int (i + 3)), (0, .ref b), (1, .ref x), (2, .ref m), (3, .ref o)]) dL_law_2605 4 rfl (by rfl) (by decide) rfl ?_
    refine x_goto 23 dL_law_2608 (by decide) ?_
    cases hF
    refine x_sub [1, 2, 3, 4, 0] rfl ?_
    exact x_less (rc' := rc) (rs' := rs) (by omega) (by omega) (hK _)
  · refine x_iconst 0 (by decide) dL_law_2603 ?_
    cases hF
/-- one turn: the call whose number is k -/
def F_law_k (N L : Nat) (xs : Nat → Int32) (x m o : Nat) (i : Int32) (h : XH) (k : Int32) : Option XM :=
  if k = 0 then F_law_0 N L xs x m o i h else if k = 1 then F_law_1 N L xs x m o i h else if k = 2 then F_law_2 N L xs x m o i h else if k = 3 then F_law_3 N L xs x m o i h else if k = 4 then F_law_4 N L xs x m o i h else if k = 5 then F_law_5 N L xs x m o i h else if k = 6 then F_law_6 N L xs x m o i h else if k = 7 then F_law_7 N L xs x m o i h else if k = 8 then F_law_8 N L xs x m o i h else if k = 9 then F_law_9 N L xs x m o i h else if k = 10 then F_law_10 N L xs x m o i h else if k = 11 then F_law_11 N L xs x m o i h else if k = 12 then F_law_12 N L xs x m o i h else if k = 13 then F_law_13 N L xs x m o i h else if k = 14 then F_law_14 N L xs x m o i h else if k = 15 then F_law_15 N L xs x m o i h else if k = 16 then F_law_16 N L xs x m o i h else if k = 17 then F_law_17 N L xs x m o i h else if k = 18 then F_law_18 N L xs x m o i h else if k = 19 then F_law_19 N L xs x m o i h else if k = 20 then F_law_20 N L xs x m o i h else if k = 21 then F_law_21 N L xs x m o i h else if k = 22 then F_law_22 N L xs x m o i h else if k = 23 then F_law_23 N L xs x m o i h else if k = 24 then F_law_24 N L xs x m o i h else if k = 25 then F_law_25 N L xs x m o i h else if k = 26 then F_law_26 N L xs x m o i h else if k = 27 then F_law_27 N L xs x m o i h else if k = 28 then F_law_28 N L xs x m o i h else if k = 29 then F_law_29 N L xs x m o i h else if k = 30 then F_law_30 N L xs x m o i h else if k = 31 then F_law_31 N L xs x m o i h else if k = 32 then F_law_32 N L xs x m o i h else if k = 33 then F_law_33 N L xs x m o i h else if k = 34 then F_law_34 N L xs x m o i h else if k = 35 then F_law_35 N L xs x m o i h else if k = 36 then F_law_36 N L xs x m o i h else if k = 37 then F_law_37 N L xs x m o i h else if k = 38 then F_law_38 N L xs x m o i h else if k = 39 then F_law_39 N L xs x m o i h else if k = 40 then F_law_40 N L xs x m o i h else if k = 41 then F_law_41 N L xs x m o i h else if k = 42 then F_law_42 N L xs x m o i h else if k = 43 then F_law_43 N L xs x m o i h else if k = 44 then F_law_44 N L xs x m o i h else if k = 45 then F_law_45 N L xs x m o i h else if k = 46 then F_law_46 N L xs x m o i h else if k = 47 then F_law_47 N L xs x m o i h else if k = 48 then F_law_48 N L xs x m o i h else if k = 49 then F_law_49 N L xs x m o i h else if k = 50 then F_law_50 N L xs x m o i h else if k = 51 then F_law_51 N L xs x m o i h else some h.1
set_option maxRecDepth 20000 in
set_option maxHeartbeats 4000000 in
theorem w_law_k (N : Nat) {b L : Nat} {xs : Nat → Int32} (x m o : Nat) (i : Int32) (h : XH) (k : Int32) {rc rs : Nat} (r : XM) (hF : F_law_k N L xs x m o i h k = some r) (hK : ∀ n : Nat, X mL_law 11 398 x_lz (x_RO b L xs) rc rs 23 [(0, .ref b), (1, .ref x), (2, .ref m), (3, .ref o), (4, .int (i + 3))] [] (r, n)) : X mL_law 11 398 x_lz (x_RO b L xs) (rc + 40) (rs + 2200) 39 [(0, .ref b), (1, .ref x), (2, .ref m), (3, .ref o), (4, .int i)] [.int k] h := by
  unfold F_law_k at hF
  refine x_swc 0 260 dL_law_39 (by decide) rfl (by decide) hF (fun hF => w_law_0 N x m o i h r hF hK) (fun e0 hF => ?_)
  refine x_swc 1 328 dL_law_39 (by decide) rfl (by decide) hF (fun hF => w_law_1 N x m o i h r hF hK) (fun e1 hF => ?_)
  refine x_swc 2 384 dL_law_39 (by decide) rfl (by decide) hF (fun hF => w_law_2 N x m o i h r hF hK) (fun e2 hF => ?_)
  refine x_swc 3 428 dL_law_39 (by decide) rfl (by decide) hF (fun hF => w_law_3 N x m o i h r hF hK) (fun e3 hF => ?_)
  refine x_swc 4 472 dL_law_39 (by decide) rfl (by decide) hF (fun hF => w_law_4 N x m o i h r hF hK) (fun e4 hF => ?_)
  refine x_swc 5 528 dL_law_39 (by decide) rfl (by decide) hF (fun hF => w_law_5 N x m o i h r hF hK) (fun e5 hF => ?_)
  refine x_swc 6 596 dL_law_39 (by decide) rfl (by decide) hF (fun hF => w_law_6 N x m o i h r hF hK) (fun e6 hF => ?_)
  refine x_swc 7 652 dL_law_39 (by decide) rfl (by decide) hF (fun hF => w_law_7 N x m o i h r hF hK) (fun e7 hF => ?_)
  refine x_swc 8 708 dL_law_39 (by decide) rfl (by decide) hF (fun hF => w_law_8 N x m o i h r hF hK) (fun e8 hF => ?_)
  refine x_swc 9 764 dL_law_39 (by decide) rfl (by decide) hF (fun hF => w_law_9 N x m o i h r hF hK) (fun e9 hF => ?_)
  refine x_swc 10 820 dL_law_39 (by decide) rfl (by decide) hF (fun hF => w_law_10 N x m o i h r hF hK) (fun e10 hF => ?_)
  refine x_swc 11 833 dL_law_39 (by decide) rfl (by decide) hF (fun hF => w_law_11 N x m o i h r hF hK) (fun e11 hF => ?_)
  refine x_swc 12 846 dL_law_39 (by decide) rfl (by decide) hF (fun hF => w_law_12 N x m o i h r hF hK) (fun e12 hF => ?_)
  refine x_swc 13 890 dL_law_39 (by decide) rfl (by decide) hF (fun hF => w_law_13 N x m o i h r hF hK) (fun e13 hF => ?_)
  refine x_swc 14 926 dL_law_39 (by decide) rfl (by decide) hF (fun hF => w_law_14 N x m o i h r hF hK) (fun e14 hF => ?_)
  refine x_swc 15 962 dL_law_39 (by decide) rfl (by decide) hF (fun hF => w_law_15 N x m o i h r hF hK) (fun e15 hF => ?_)
  refine x_swc 16 986 dL_law_39 (by decide) rfl (by decide) hF (fun hF => w_law_16 N x m o i h r hF hK) (fun e16 hF => ?_)
  refine x_swc 17 999 dL_law_39 (by decide) rfl (by decide) hF (fun hF => w_law_17 N x m o i h r hF hK) (fun e17 hF => ?_)
  refine x_swc 18 1062 dL_law_39 (by decide) rfl (by decide) hF (fun hF => w_law_18 N x m o i h r hF hK) (fun e18 hF => ?_)
  refine x_swc 19 1125 dL_law_39 (by decide) rfl (by decide) hF (fun hF => w_law_19 N x m o i h r hF hK) (fun e19 hF => ?_)
  refine x_swc 20 1181 dL_law_39 (by decide) rfl (by decide) hF (fun hF => w_law_20 N x m o i h r hF hK) (fun e20 hF => ?_)
  refine x_swc 21 1237 dL_law_39 (by decide) rfl (by decide) hF (fun hF => w_law_21 N x m o i h r hF hK) (fun e21 hF => ?_)
  refine x_swc 22 1305 dL_law_39 (by decide) rfl (by decide) hF (fun hF => w_law_22 N x m o i h r hF hK) (fun e22 hF => ?_)
  refine x_swc 23 1373 dL_law_39 (by decide) rfl (by decide) hF (fun hF => w_law_23 N x m o i h r hF hK) (fun e23 hF => ?_)
  refine x_swc 24 1429 dL_law_39 (by decide) rfl (by decide) hF (fun hF => w_law_24 N x m o i h r hF hK) (fun e24 hF => ?_)
  refine x_swc 25 1485 dL_law_39 (by decide) rfl (by decide) hF (fun hF => w_law_25 N x m o i h r hF hK) (fun e25 hF => ?_)
  refine x_swc 26 1498 dL_law_39 (by decide) rfl (by decide) hF (fun hF => w_law_26 N x m o i h r hF hK) (fun e26 hF => ?_)
  refine x_swc 27 1554 dL_law_39 (by decide) rfl (by decide) hF (fun hF => w_law_27 N x m o i h r hF hK) (fun e27 hF => ?_)
  refine x_swc 28 1567 dL_law_39 (by decide) rfl (by decide) hF (fun hF => w_law_28 N x m o i h r hF hK) (fun e28 hF => ?_)
  refine x_swc 29 1623 dL_law_39 (by decide) rfl (by decide) hF (fun hF => w_law_29 N x m o i h r hF hK) (fun e29 hF => ?_)
  refine x_swc 30 1691 dL_law_39 (by decide) rfl (by decide) hF (fun hF => w_law_30 N x m o i h r hF hK) (fun e30 hF => ?_)
  refine x_swc 31 1766 dL_law_39 (by decide) rfl (by decide) hF (fun hF => w_law_31 N x m o i h r hF hK) (fun e31 hF => ?_)
  refine x_swc 32 1822 dL_law_39 (by decide) rfl (by decide) hF (fun hF => w_law_32 N x m o i h r hF hK) (fun e32 hF => ?_)
  refine x_swc 33 1835 dL_law_39 (by decide) rfl (by decide) hF (fun hF => w_law_33 N x m o i h r hF hK) (fun e33 hF => ?_)
  refine x_swc 34 1848 dL_law_39 (by decide) rfl (by decide) hF (fun hF => w_law_34 N x m o i h r hF hK) (fun e34 hF => ?_)
  refine x_swc 35 1904 dL_law_39 (by decide) rfl (by decide) hF (fun hF => w_law_35 N x m o i h r hF hK) (fun e35 hF => ?_)
  refine x_swc 36 1972 dL_law_39 (by decide) rfl (by decide) hF (fun hF => w_law_36 N x m o i h r hF hK) (fun e36 hF => ?_)
  refine x_swc 37 2028 dL_law_39 (by decide) rfl (by decide) hF (fun hF => w_law_37 N x m o i h r hF hK) (fun e37 hF => ?_)
  refine x_swc 38 2084 dL_law_39 (by decide) rfl (by decide) hF (fun hF => w_law_38 N x m o i h r hF hK) (fun e38 hF => ?_)
  refine x_swc 39 2097 dL_law_39 (by decide) rfl (by decide) hF (fun hF => w_law_39 N x m o i h r hF hK) (fun e39 hF => ?_)
  refine x_swc 40 2153 dL_law_39 (by decide) rfl (by decide) hF (fun hF => w_law_40 N x m o i h r hF hK) (fun e40 hF => ?_)
  refine x_swc 41 2221 dL_law_39 (by decide) rfl (by decide) hF (fun hF => w_law_41 N x m o i h r hF hK) (fun e41 hF => ?_)
  refine x_swc 42 2289 dL_law_39 (by decide) rfl (by decide) hF (fun hF => w_law_42 N x m o i h r hF hK) (fun e42 hF => ?_)
  refine x_swc 43 2345 dL_law_39 (by decide) rfl (by decide) hF (fun hF => w_law_43 N x m o i h r hF hK) (fun e43 hF => ?_)
  refine x_swc 44 2358 dL_law_39 (by decide) rfl (by decide) hF (fun hF => w_law_44 N x m o i h r hF hK) (fun e44 hF => ?_)
  refine x_swc 45 2371 dL_law_39 (by decide) rfl (by decide) hF (fun hF => w_law_45 N x m o i h r hF hK) (fun e45 hF => ?_)
  refine x_swc 46 2384 dL_law_39 (by decide) rfl (by decide) hF (fun hF => w_law_46 N x m o i h r hF hK) (fun e46 hF => ?_)
  refine x_swc 47 2425 dL_law_39 (by decide) rfl (by decide) hF (fun hF => w_law_47 N x m o i h r hF hK) (fun e47 hF => ?_)
  refine x_swc 48 2466 dL_law_39 (by decide) rfl (by decide) hF (fun hF => w_law_48 N x m o i h r hF hK) (fun e48 hF => ?_)
  refine x_swc 49 2479 dL_law_39 (by decide) rfl (by decide) hF (fun hF => w_law_49 N x m o i h r hF hK) (fun e49 hF => ?_)
  refine x_swc 50 2535 dL_law_39 (by decide) rfl (by decide) hF (fun hF => w_law_50 N x m o i h r hF hK) (fun e50 hF => ?_)
  refine x_swc 51 2591 dL_law_39 (by decide) rfl (by decide) hF (fun hF => w_law_51 N x m o i h r hF hK) (fun e51 hF => ?_)
  refine x_swd 2605 dL_law_39 (by decide) ?_ ?_
  · intro i hi
    match i, hi with
    | 0, _ => exact Or.inr (fun h9 => e0 (x_toInt h9))
    | 1, _ => exact Or.inr (fun h9 => e1 (x_toInt h9))
    | 2, _ => exact Or.inr (fun h9 => e2 (x_toInt h9))
    | 3, _ => exact Or.inr (fun h9 => e3 (x_toInt h9))
    | 4, _ => exact Or.inr (fun h9 => e4 (x_toInt h9))
    | 5, _ => exact Or.inr (fun h9 => e5 (x_toInt h9))
    | 6, _ => exact Or.inr (fun h9 => e6 (x_toInt h9))
    | 7, _ => exact Or.inr (fun h9 => e7 (x_toInt h9))
    | 8, _ => exact Or.inr (fun h9 => e8 (x_toInt h9))
    | 9, _ => exact Or.inr (fun h9 => e9 (x_toInt h9))
    | 10, _ => exact Or.inr (fun h9 => e10 (x_toInt h9))
    | 11, _ => exact Or.inr (fun h9 => e11 (x_toInt h9))
    | 12, _ => exact Or.inr (fun h9 => e12 (x_toInt h9))
    | 13, _ => exact Or.inr (fun h9 => e13 (x_toInt h9))
    | 14, _ => exact Or.inr (fun h9 => e14 (x_toInt h9))
    | 15, _ => exact Or.inr (fun h9 => e15 (x_toInt h9))
    | 16, _ => exact Or.inr (fun h9 => e16 (x_toInt h9))
    | 17, _ => exact Or.inr (fun h9 => e17 (x_toInt h9))
    | 18, _ => exact Or.inr (fun h9 => e18 (x_toInt h9))
    | 19, _ => exact Or.inr (fun h9 => e19 (x_toInt h9))
    | 20, _ => exact Or.inr (fun h9 => e20 (x_toInt h9))
    | 21, _ => exact Or.inr (fun h9 => e21 (x_toInt h9))
    | 22, _ => exact Or.inr (fun h9 => e22 (x_toInt h9))
    | 23, _ => exact Or.inr (fun h9 => e23 (x_toInt h9))
    | 24, _ => exact Or.inr (fun h9 => e24 (x_toInt h9))
    | 25, _ => exact Or.inr (fun h9 => e25 (x_toInt h9))
    | 26, _ => exact Or.inr (fun h9 => e26 (x_toInt h9))
    | 27, _ => exact Or.inr (fun h9 => e27 (x_toInt h9))
    | 28, _ => exact Or.inr (fun h9 => e28 (x_toInt h9))
    | 29, _ => exact Or.inr (fun h9 => e29 (x_toInt h9))
    | 30, _ => exact Or.inr (fun h9 => e30 (x_toInt h9))
    | 31, _ => exact Or.inr (fun h9 => e31 (x_toInt h9))
    | 32, _ => exact Or.inr (fun h9 => e32 (x_toInt h9))
    | 33, _ => exact Or.inr (fun h9 => e33 (x_toInt h9))
    | 34, _ => exact Or.inr (fun h9 => e34 (x_toInt h9))
    | 35, _ => exact Or.inr (fun h9 => e35 (x_toInt h9))
    | 36, _ => exact Or.inr (fun h9 => e36 (x_toInt h9))
    | 37, _ => exact Or.inr (fun h9 => e37 (x_toInt h9))
    | 38, _ => exact Or.inr (fun h9 => e38 (x_toInt h9))
    | 39, _ => exact Or.inr (fun h9 => e39 (x_toInt h9))
    | 40, _ => exact Or.inr (fun h9 => e40 (x_toInt h9))
    | 41, _ => exact Or.inr (fun h9 => e41 (x_toInt h9))
    | 42, _ => exact Or.inr (fun h9 => e42 (x_toInt h9))
    | 43, _ => exact Or.inr (fun h9 => e43 (x_toInt h9))
    | 44, _ => exact Or.inr (fun h9 => e44 (x_toInt h9))
    | 45, _ => exact Or.inr (fun h9 => e45 (x_toInt h9))
    | 46, _ => exact Or.inr (fun h9 => e46 (x_toInt h9))
    | 47, _ => exact Or.inr (fun h9 => e47 (x_toInt h9))
    | 48, _ => exact Or.inr (fun h9 => e48 (x_toInt h9))
    | 49, _ => exact Or.inr (fun h9 => e49 (x_toInt h9))
    | 50, _ => exact Or.inr (fun h9 => e50 (x_toInt h9))
    | 51, _ => exact Or.inr (fun h9 => e51 (x_toInt h9))
    | i + 52, hi => exact absurd hi (by show ¬ i + 52 < 52; omega)
  · refine ⟨by decide, ?_⟩
    cases hF
    refine x_iinc (i + 3) (lv' := [(4, .int (i + 3)), (0, .ref b), (1, .ref x), (2, .ref m), (3, .ref o)]) dL_law_2605 4 rfl (by rfl) (by decide) rfl ?_
    refine x_goto 23 dL_law_2608 (by decide) ?_
    refine x_sub [1, 2, 3, 4, 0] rfl ?_
    exact x_less (rc' := rc) (rs' := rs) (by omega) (by omega) (hK _)
