/-! X's rules: stack, numbers, locals, branches. Laid by wip/whole/gen_rules.py. -/
section XR1
variable {M : XMD} {fr lo : Nat} {Tg : XT} {RO : Nat → State → Prop} {rc rs pc : Nat} {lv : List (Nat × Value)} {rest st st' : List Value} {h : XH}
/-- an instruction that the machine's context doesn't concern -/
theorem x_op {pc' : Nat} (H : ∀ {p : Program} {l : Launch} {e : Env} {R : Room} {s : State} {m : MethodId} {args : Array Value} {below : List Frame} {meth : Method} {c : Code} {H : Heap} {locs : List Loc} {cells slots : Nat} {Q : State → Prop} {ls : Array Slot}, p.tables.exec = Jvm.exec → c.code = M.2.1 → lv_has ls M.2.2.1 lv → W p l e R s m args below meth c H locs cells slots Q (F0 m pc' ls st') → W p l e R s m args below meth c H locs cells slots Q (F0 m pc ls st))
    (k : X M fr lo Tg RO rc rs pc' lv st' h) : X M fr lo Tg RO rc rs pc lv st h := by
  intro l B p e s m args below meth c H0 locs cells slots mc ms ls hC hRO hl hR hS h1 h2
  exact H hC.1 hC.2.1 hl (k l B p e s m args below meth c H0 locs cells slots mc ms ls hC hRO hl hR hS h1 h2)
/-- a store -/
theorem x_sto {pc' : Nat} {lv' : List (Nat × Value)} (H : ∀ {p : Program} {l : Launch} {e : Env} {R : Room} {s : State} {m : MethodId} {args : Array Value} {below : List Frame} {meth : Method} {c : Code} {H : Heap} {locs : List Loc} {cells slots : Nat} {Q : State → Prop} {ls : Array Slot}, p.tables.exec = Jvm.exec → c.code = M.2.1 → lv_has ls M.2.2.1 lv → (∀ ls' : Array Slot, lv_has ls' M.2.2.1 lv' → W p l e R s m args below meth c H locs cells slots Q (F0 m pc' ls' st')) → W p l e R s m args below meth c H locs cells slots Q (F0 m pc ls st))
    (k : X M fr lo Tg RO rc rs pc' lv' st' h) : X M fr lo Tg RO rc rs pc lv st h := by
  intro l B p e s m args below meth c H0 locs cells slots mc ms ls hC hRO hl hR hS h1 h2
  exact H hC.1 hC.2.1 hl (fun ls' hl' => k l B p e s m args below meth c H0 locs cells slots mc ms ls' hC hRO hl' hR hS h1 h2)
/-- a branch -/
theorem x_br {pc1 pc2 : Nat} {cnd : Prop} {st1 st2 : List Value} (H : ∀ {p : Program} {l : Launch} {e : Env} {R : Room} {s : State} {m : MethodId} {args : Array Value} {below : List Frame} {meth : Method} {c : Code} {H : Heap} {locs : List Loc} {cells slots : Nat} {Q : State → Prop} {ls : Array Slot}, p.tables.exec = Jvm.exec → c.code = M.2.1 → (cnd → W p l e R s m args below meth c H locs cells slots Q (F0 m pc1 ls st1)) → (¬ cnd → W p l e R s m args below meth c H locs cells slots Q (F0 m pc2 ls st2)) → W p l e R s m args below meth c H locs cells slots Q (F0 m pc ls st))
    (k1 : cnd → X M fr lo Tg RO rc rs pc1 lv st1 h) (k2 : ¬ cnd → X M fr lo Tg RO rc rs pc2 lv st2 h) : X M fr lo Tg RO rc rs pc lv st h := by
  intro l B p e s m args below meth c H0 locs cells slots mc ms ls hC hRO hl hR hS h1 h2
  exact H hC.1 hC.2.1 (fun z => k1 z l B p e s m args below meth c H0 locs cells slots mc ms ls hC hRO hl hR hS h1 h2) (fun z => k2 z l B p e s m args below meth c H0 locs cells slots mc ms ls hC hRO hl hR hS h1 h2)
/-- fewer locals are known -/
theorem x_sub {lv' : List (Nat × Value)} (ks : List Nat) (hk : lv_pick lv ks = lv') (k : X M fr lo Tg RO rc rs pc lv' st h) : X M fr lo Tg RO rc rs pc lv st h := by
  intro l B p e s m args below meth c H0 locs cells slots mc ms ls hC hRO hl hR hS h1 h2
  exact k l B p e s m args below meth c H0 locs cells slots mc ms ls hC hRO (lv_sub hl ks hk) hR hS h1 h2
/-- less room is left -/
theorem x_less {rc' rs' : Nat} (g1 : rc' ≤ rc) (g2 : rs' ≤ rs) (k : X M fr lo Tg RO rc' rs' pc lv st h) : X M fr lo Tg RO rc rs pc lv st h := by
  intro l B p e s m args below meth c H0 locs cells slots mc ms ls hC hRO hl hR hS h1 h2
  exact k l B p e s m args below meth c H0 locs cells slots mc ms ls hC hRO hl hR hS (by omega) (by omega)

theorem x_iadd {x y : Int32} (hd : decode M.2.1 pc = .ok (.iadd, 1)) (k : X M fr lo Tg RO rc rs (pc + 1) lv (.int (x + y) :: rest) h) : X M fr lo Tg RO rc rs pc lv (.int y :: .int x :: rest) h := x_op (fun hx hb _ k => lv_iadd hx hb hd k) k
theorem x_isub {x y : Int32} (hd : decode M.2.1 pc = .ok (.isub, 1)) (k : X M fr lo Tg RO rc rs (pc + 1) lv (.int (x - y) :: rest) h) : X M fr lo Tg RO rc rs pc lv (.int y :: .int x :: rest) h := x_op (fun hx hb _ k => lv_isub hx hb hd k) k
theorem x_imul {x y : Int32} (hd : decode M.2.1 pc = .ok (.imul, 1)) (k : X M fr lo Tg RO rc rs (pc + 1) lv (.int (x * y) :: rest) h) : X M fr lo Tg RO rc rs pc lv (.int y :: .int x :: rest) h := x_op (fun hx hb _ k => lv_imul hx hb hd k) k
theorem x_iand {x y : Int32} (hd : decode M.2.1 pc = .ok (.iand, 1)) (k : X M fr lo Tg RO rc rs (pc + 1) lv (.int (x &&& y) :: rest) h) : X M fr lo Tg RO rc rs pc lv (.int y :: .int x :: rest) h := x_op (fun hx hb _ k => lv_iand hx hb hd k) k
theorem x_iushr {x y : Int32} (hd : decode M.2.1 pc = .ok (.iushr, 1)) (k : X M fr lo Tg RO rc rs (pc + 1) lv (.int ((x.toUInt32 >>> (y.toUInt32 &&& Int32.toUInt32 31)).toInt32) :: rest) h) : X M fr lo Tg RO rc rs pc lv (.int y :: .int x :: rest) h := x_op (fun hx hb _ k => lv_iushr hx hb hd rfl k) k
theorem x_ladd {x y : Int64} (hd : decode M.2.1 pc = .ok (.ladd, 1)) (k : X M fr lo Tg RO rc rs (pc + 1) lv (.long (x + y) :: rest) h) : X M fr lo Tg RO rc rs pc lv (.long y :: .long x :: rest) h := x_op (fun hx hb _ k => lv_ladd hx hb hd k) k
theorem x_lsub {x y : Int64} (hd : decode M.2.1 pc = .ok (.lsub, 1)) (k : X M fr lo Tg RO rc rs (pc + 1) lv (.long (x - y) :: rest) h) : X M fr lo Tg RO rc rs pc lv (.long y :: .long x :: rest) h := x_op (fun hx hb _ k => lv_lsub hx hb hd k) k
theorem x_lmul {x y : Int64} (hd : decode M.2.1 pc = .ok (.lmul, 1)) (k : X M fr lo Tg RO rc rs (pc + 1) lv (.long (x * y) :: rest) h) : X M fr lo Tg RO rc rs pc lv (.long y :: .long x :: rest) h := x_op (fun hx hb _ k => lv_lmul hx hb hd k) k
theorem x_lshl {x : Int64} {y : Int32} (hd : decode M.2.1 pc = .ok (.lshl, 1)) (k : X M fr lo Tg RO rc rs (pc + 1) lv (.long (x <<< (y.toInt64 &&& 63)) :: rest) h) : X M fr lo Tg RO rc rs pc lv (.int y :: .long x :: rest) h := x_op (fun hx hb _ k => lv_lshl hx hb hd rfl k) k
theorem x_i2l {x : Int32} (hd : decode M.2.1 pc = .ok (.i2l, 1)) (k : X M fr lo Tg RO rc rs (pc + 1) lv (.long x.toInt64 :: rest) h) : X M fr lo Tg RO rc rs pc lv (.int x :: rest) h := x_op (fun hx hb _ k => lv_i2l hx hb hd rfl k) k
theorem x_i2d {x : Int32} (hd : decode M.2.1 pc = .ok (.i2d, 1)) (k : X M fr lo Tg RO rc rs (pc + 1) lv (.double (FP.i2d x) :: rest) h) : X M fr lo Tg RO rc rs pc lv (.int x :: rest) h := x_op (fun hx hb _ k => lv_i2d hx hb hd k) k
theorem x_d2l {x : UInt64} (hd : decode M.2.1 pc = .ok (.d2l, 1)) (k : X M fr lo Tg RO rc rs (pc + 1) lv (.long (FP.d2l x) :: rest) h) : X M fr lo Tg RO rc rs pc lv (.double x :: rest) h := x_op (fun hx hb _ k => lv_d2l hx hb hd k) k
theorem x_lcmp {x y : Int64} (hd : decode M.2.1 pc = .ok (.lcmp, 1)) (k : X M fr lo Tg RO rc rs (pc + 1) lv (.int (lg_cmp x y) :: rest) h) : X M fr lo Tg RO rc rs pc lv (.long y :: .long x :: rest) h := x_op (fun hx hb _ k => W.lcmp hx hb hd k) k
theorem x_dcmp {x y : UInt64} {op : CmpOp} (hd : decode M.2.1 pc = .ok (.dcmp op, 1)) (k : X M fr lo Tg RO rc rs (pc + 1) lv (.int (Op.cmpValue (FP.dcmp x y) op) :: rest) h) : X M fr lo Tg RO rc rs pc lv (.double y :: .double x :: rest) h := x_op (fun hx hb _ k => lv_dcmp hx hb hd k) k
theorem x_iconst {n : Int} (v : Int32) (hv : Int32.ofInt n = v) (hd : decode M.2.1 pc = .ok (.iconst n, 1)) (k : X M fr lo Tg RO rc rs (pc + 1) lv (.int v :: rest) h) : X M fr lo Tg RO rc rs pc lv (rest) h := x_op (fun hx hb _ k => lv_iconst hx hb hd hv k) k
theorem x_bipush {n : Int} (v : Int32) (hv : (Int8.ofInt n).toInt32 = v) (hd : decode M.2.1 pc = .ok (.bipush n, 2)) (k : X M fr lo Tg RO rc rs (pc + 2) lv (.int v :: rest) h) : X M fr lo Tg RO rc rs pc lv (rest) h := x_op (fun hx hb _ k => lv_bipush hx hb hd hv k) k
theorem x_sipush {n : Int} (v : Int32) (hv : (Int16.ofInt n).toInt32 = v) (hd : decode M.2.1 pc = .ok (.sipush n, 3)) (k : X M fr lo Tg RO rc rs (pc + 3) lv (.int v :: rest) h) : X M fr lo Tg RO rc rs pc lv (rest) h := x_op (fun hx hb _ k => lv_sipush hx hb hd hv k) k
theorem x_lconst {n : Fin 2} (v : Int64) (hv : Int64.ofNat (n : Nat) = v) (hd : decode M.2.1 pc = .ok (.lconst n, 1)) (k : X M fr lo Tg RO rc rs (pc + 1) lv (.long v :: rest) h) : X M fr lo Tg RO rc rs pc lv (rest) h := x_op (fun hx hb _ k => lv_lconst hx hb hd hv k) k
theorem x_dconst0  (hd : decode M.2.1 pc = .ok (.dconst 0, 1)) (k : X M fr lo Tg RO rc rs (pc + 1) lv (.double FP.dconst0 :: rest) h) : X M fr lo Tg RO rc rs pc lv (rest) h := x_op (fun hx hb _ k => lv_dconst0 hx hb hd k) k
theorem x_dconst1  (hd : decode M.2.1 pc = .ok (.dconst 1, 1)) (k : X M fr lo Tg RO rc rs (pc + 1) lv (.double FP.dconst1 :: rest) h) : X M fr lo Tg RO rc rs pc lv (rest) h := x_op (fun hx hb _ k => lv_dconst1 hx hb hd k) k
theorem x_null  (hd : decode M.2.1 pc = .ok (.aconst_null, 1)) (k : X M fr lo Tg RO rc rs (pc + 1) lv (va_rf none :: rest) h) : X M fr lo Tg RO rc rs pc lv (rest) h := x_op (fun hx hb _ k => lv_null hx hb hd k) k
theorem x_dupr {a : Nat} (hd : decode M.2.1 pc = .ok (.dup, 1)) (k : X M fr lo Tg RO rc rs (pc + 1) lv (.ref a :: .ref a :: rest) h) : X M fr lo Tg RO rc rs pc lv (.ref a :: rest) h := x_op (fun hx hb _ k => lv_dup hx hb hd rfl k) k
theorem x_dupi {x : Int32} (hd : decode M.2.1 pc = .ok (.dup, 1)) (k : X M fr lo Tg RO rc rs (pc + 1) lv (.int x :: .int x :: rest) h) : X M fr lo Tg RO rc rs pc lv (.int x :: rest) h := x_op (fun hx hb _ k => lv_dup hx hb hd rfl k) k
theorem x_dup2ri {x : Int32} {a : Nat} (hd : decode M.2.1 pc = .ok (.dup2, 1)) (k : X M fr lo Tg RO rc rs (pc + 1) lv (.int x :: .ref a :: .int x :: .ref a :: rest) h) : X M fr lo Tg RO rc rs pc lv (.int x :: .ref a :: rest) h := x_op (fun hx hb _ k => lv_dup2_11 hx hb hd rfl rfl k) k
theorem x_dup2l {x : Int64} (hd : decode M.2.1 pc = .ok (.dup2, 1)) (k : X M fr lo Tg RO rc rs (pc + 1) lv (.long x :: .long x :: rest) h) : X M fr lo Tg RO rc rs pc lv (.long x :: rest) h := x_op (fun hx hb _ k => lv_dup2_2 hx hb hd rfl k) k
theorem x_popi {x : Int32} (hd : decode M.2.1 pc = .ok (.pop, 1)) (k : X M fr lo Tg RO rc rs (pc + 1) lv (rest) h) : X M fr lo Tg RO rc rs pc lv (.int x :: rest) h := x_op (fun hx hb _ k => lv_pop hx hb hd rfl k) k
theorem x_popr {a : Nat} (hd : decode M.2.1 pc = .ok (.pop, 1)) (k : X M fr lo Tg RO rc rs (pc + 1) lv (rest) h) : X M fr lo Tg RO rc rs pc lv (.ref a :: rest) h := x_op (fun hx hb _ k => lv_pop hx hb hd rfl k) k
theorem x_iload_n {n : Fin 4} {i : Nat} {x : Int32} (j : Nat) (hd : decode M.2.1 pc = .ok (.iload_n n, 1)) (hi : (n : Nat) = i) (hj : lv[j]? = some (i, .int x)) (k : X M fr lo Tg RO rc rs (pc + 1) lv (.int x :: rest) h) : X M fr lo Tg RO rc rs pc lv (rest) h := x_op (fun hx hb hl k => lv_iload_n hx hb hd hi (lv_at hl j hj) k) k
theorem x_iload {i : Nat} {x : Int32} (j : Nat) (hd : decode M.2.1 pc = .ok (.iload i, 2)) (hj : lv[j]? = some (i, .int x)) (k : X M fr lo Tg RO rc rs (pc + 2) lv (.int x :: rest) h) : X M fr lo Tg RO rc rs pc lv (rest) h := x_op (fun hx hb hl k => lv_iload hx hb hd (lv_at hl j hj) k) k
theorem x_lload_n {n : Fin 4} {i : Nat} {x : Int64} (j : Nat) (hd : decode M.2.1 pc = .ok (.lload_n n, 1)) (hi : (n : Nat) = i) (hj : lv[j]? = some (i, .long x)) (k : X M fr lo Tg RO rc rs (pc + 1) lv (.long x :: rest) h) : X M fr lo Tg RO rc rs pc lv (rest) h := x_op (fun hx hb hl k => lv_lload_n hx hb hd hi (lv_at hl j hj) k) k
theorem x_lload {i : Nat} {x : Int64} (j : Nat) (hd : decode M.2.1 pc = .ok (.lload i, 2)) (hj : lv[j]? = some (i, .long x)) (k : X M fr lo Tg RO rc rs (pc + 2) lv (.long x :: rest) h) : X M fr lo Tg RO rc rs pc lv (rest) h := x_op (fun hx hb hl k => lv_lload hx hb hd (lv_at hl j hj) k) k
theorem x_dload_n {n : Fin 4} {i : Nat} {x : UInt64} (j : Nat) (hd : decode M.2.1 pc = .ok (.dload_n n, 1)) (hi : (n : Nat) = i) (hj : lv[j]? = some (i, .double x)) (k : X M fr lo Tg RO rc rs (pc + 1) lv (.double x :: rest) h) : X M fr lo Tg RO rc rs pc lv (rest) h := x_op (fun hx hb hl k => lv_dload_n hx hb hd hi (lv_at hl j hj) k) k
theorem x_dload {i : Nat} {x : UInt64} (j : Nat) (hd : decode M.2.1 pc = .ok (.dload i, 2)) (hj : lv[j]? = some (i, .double x)) (k : X M fr lo Tg RO rc rs (pc + 2) lv (.double x :: rest) h) : X M fr lo Tg RO rc rs pc lv (rest) h := x_op (fun hx hb hl k => lv_dload hx hb hd (lv_at hl j hj) k) k
theorem x_aload_n {n : Fin 4} {i : Nat} {x : Nat} (j : Nat) (hd : decode M.2.1 pc = .ok (.aload_n n, 1)) (hi : (n : Nat) = i) (hj : lv[j]? = some (i, .ref x)) (k : X M fr lo Tg RO rc rs (pc + 1) lv (.ref x :: rest) h) : X M fr lo Tg RO rc rs pc lv (rest) h := x_op (fun hx hb hl k => lv_aload_n hx hb hd hi (lv_at hl j hj) k) k
theorem x_aload {i : Nat} {x : Nat} (j : Nat) (hd : decode M.2.1 pc = .ok (.aload i, 2)) (hj : lv[j]? = some (i, .ref x)) (k : X M fr lo Tg RO rc rs (pc + 2) lv (.ref x :: rest) h) : X M fr lo Tg RO rc rs pc lv (rest) h := x_op (fun hx hb hl k => lv_aload hx hb hd (lv_at hl j hj) k) k
theorem x_aload_nq {n : Fin 4} {i : Nat} {r : Option Nat} (j : Nat) (hd : decode M.2.1 pc = .ok (.aload_n n, 1)) (hi : (n : Nat) = i) (hj : lv[j]? = some (i, va_rf r)) (k : X M fr lo Tg RO rc rs (pc + 1) lv (va_rf r :: rest) h) : X M fr lo Tg RO rc rs pc lv (rest) h := by
  cases r with
  | none => exact x_op (fun hx hb hl k => lv_aload_nN hx hb hd hi (lv_at hl j hj) k) k
  | some a => exact x_op (fun hx hb hl k => lv_aload_n hx hb hd hi (lv_at hl j hj) k) k
theorem x_aloadq {i : Nat} {r : Option Nat} (j : Nat) (hd : decode M.2.1 pc = .ok (.aload i, 2)) (hj : lv[j]? = some (i, va_rf r)) (k : X M fr lo Tg RO rc rs (pc + 2) lv (va_rf r :: rest) h) : X M fr lo Tg RO rc rs pc lv (rest) h := by
  cases r with
  | none => exact x_op (fun hx hb hl k => lv_aloadN hx hb hd (lv_at hl j hj) k) k
  | some a => exact x_op (fun hx hb hl k => lv_aload hx hb hd (lv_at hl j hj) k) k
theorem x_istore_n {n : Fin 4} {i : Nat} {x : Int32} {lv' : List (Nat × Value)} (hd : decode M.2.1 pc = .ok (.istore_n n, 1)) (hi : (n : Nat) = i) (hn : i < M.2.2.1) (hv : (i, Value.int x) :: lv.filter (fun q => !(q.1 == i) && !(q.1 + 1 == i && q.2.category == 2)) = lv') (k : X M fr lo Tg RO rc rs (pc + 1) lv' rest h) : X M fr lo Tg RO rc rs pc lv (.int x :: rest) h := x_sto (fun hx hb hl k => lv_istore_n hx hb hd hi hl hn hv k) k
theorem x_istore {i : Nat} {x : Int32} {lv' : List (Nat × Value)} (hd : decode M.2.1 pc = .ok (.istore i, 2)) (hn : i < M.2.2.1) (hv : (i, Value.int x) :: lv.filter (fun q => !(q.1 == i) && !(q.1 + 1 == i && q.2.category == 2)) = lv') (k : X M fr lo Tg RO rc rs (pc + 2) lv' rest h) : X M fr lo Tg RO rc rs pc lv (.int x :: rest) h := x_sto (fun hx hb hl k => lv_istore hx hb hd hl hn hv k) k
theorem x_lstore_n {n : Fin 4} {i : Nat} {x : Int64} {lv' : List (Nat × Value)} (hd : decode M.2.1 pc = .ok (.lstore_n n, 1)) (hi : (n : Nat) = i) (hn : i + 1 < M.2.2.1) (hv : (i, Value.long x) :: lv.filter (fun q => !(q.1 == i) && (!(q.1 == i + 1) && !(q.1 + 1 == i && q.2.category == 2))) = lv') (k : X M fr lo Tg RO rc rs (pc + 1) lv' rest h) : X M fr lo Tg RO rc rs pc lv (.long x :: rest) h := x_sto (fun hx hb hl k => lv_lstore_n hx hb hd hi hl hn hv k) k
theorem x_lstore {i : Nat} {x : Int64} {lv' : List (Nat × Value)} (hd : decode M.2.1 pc = .ok (.lstore i, 2)) (hn : i + 1 < M.2.2.1) (hv : (i, Value.long x) :: lv.filter (fun q => !(q.1 == i) && (!(q.1 == i + 1) && !(q.1 + 1 == i && q.2.category == 2))) = lv') (k : X M fr lo Tg RO rc rs (pc + 2) lv' rest h) : X M fr lo Tg RO rc rs pc lv (.long x :: rest) h := x_sto (fun hx hb hl k => lv_lstore hx hb hd hl hn hv k) k
theorem x_dstore_n {n : Fin 4} {i : Nat} {x : UInt64} {lv' : List (Nat × Value)} (hd : decode M.2.1 pc = .ok (.dstore_n n, 1)) (hi : (n : Nat) = i) (hn : i + 1 < M.2.2.1) (hv : (i, Value.double x) :: lv.filter (fun q => !(q.1 == i) && (!(q.1 == i + 1) && !(q.1 + 1 == i && q.2.category == 2))) = lv') (k : X M fr lo Tg RO rc rs (pc + 1) lv' rest h) : X M fr lo Tg RO rc rs pc lv (.double x :: rest) h := x_sto (fun hx hb hl k => lv_dstore_n hx hb hd hi hl hn hv k) k
theorem x_dstore {i : Nat} {x : UInt64} {lv' : List (Nat × Value)} (hd : decode M.2.1 pc = .ok (.dstore i, 2)) (hn : i + 1 < M.2.2.1) (hv : (i, Value.double x) :: lv.filter (fun q => !(q.1 == i) && (!(q.1 == i + 1) && !(q.1 + 1 == i && q.2.category == 2))) = lv') (k : X M fr lo Tg RO rc rs (pc + 2) lv' rest h) : X M fr lo Tg RO rc rs pc lv (.double x :: rest) h := x_sto (fun hx hb hl k => lv_dstore hx hb hd hl hn hv k) k
theorem x_astore_n {n : Fin 4} {i : Nat} {x : Nat} {lv' : List (Nat × Value)} (hd : decode M.2.1 pc = .ok (.astore_n n, 1)) (hi : (n : Nat) = i) (hn : i < M.2.2.1) (hv : (i, Value.ref x) :: lv.filter (fun q => !(q.1 == i) && !(q.1 + 1 == i && q.2.category == 2)) = lv') (k : X M fr lo Tg RO rc rs (pc + 1) lv' rest h) : X M fr lo Tg RO rc rs pc lv (.ref x :: rest) h := x_sto (fun hx hb hl k => lv_astore_n hx hb hd hi hl hn hv k) k
theorem x_astore {i : Nat} {x : Nat} {lv' : List (Nat × Value)} (hd : decode M.2.1 pc = .ok (.astore i, 2)) (hn : i < M.2.2.1) (hv : (i, Value.ref x) :: lv.filter (fun q => !(q.1 == i) && !(q.1 + 1 == i && q.2.category == 2)) = lv') (k : X M fr lo Tg RO rc rs (pc + 2) lv' rest h) : X M fr lo Tg RO rc rs pc lv (.ref x :: rest) h := x_sto (fun hx hb hl k => lv_astore hx hb hd hl hn hv k) k
theorem x_astore_nq {n : Fin 4} {i : Nat} {r : Option Nat} {lv' : List (Nat × Value)} (hd : decode M.2.1 pc = .ok (.astore_n n, 1)) (hi : (n : Nat) = i) (hn : i < M.2.2.1) (hv : (i, va_rf r) :: lv.filter (fun q => !(q.1 == i) && !(q.1 + 1 == i && q.2.category == 2)) = lv') (k : X M fr lo Tg RO rc rs (pc + 1) lv' rest h) : X M fr lo Tg RO rc rs pc lv (va_rf r :: rest) h := by
  cases r with
  | none => exact x_sto (fun hx hb hl k => lv_astore_nN hx hb hd hi hl hn hv k) k
  | some a => exact x_sto (fun hx hb hl k => lv_astore_n hx hb hd hi hl hn hv k) k
theorem x_astoreq {i : Nat} {r : Option Nat} {lv' : List (Nat × Value)} (hd : decode M.2.1 pc = .ok (.astore i, 2)) (hn : i < M.2.2.1) (hv : (i, va_rf r) :: lv.filter (fun q => !(q.1 == i) && !(q.1 + 1 == i && q.2.category == 2)) = lv') (k : X M fr lo Tg RO rc rs (pc + 2) lv' rest h) : X M fr lo Tg RO rc rs pc lv (va_rf r :: rest) h := by
  cases r with
  | none => exact x_sto (fun hx hb hl k => lv_astoreN hx hb hd hl hn hv k) k
  | some a => exact x_sto (fun hx hb hl k => lv_astore hx hb hd hl hn hv k) k
theorem x_iinc {i : Nat} {n : Int} {x : Int32} (v : Int32) {lv' : List (Nat × Value)} (hd : decode M.2.1 pc = .ok (.iinc i n, 3)) (j : Nat) (hj : lv[j]? = some (i, .int x)) (hw : x + Int32.ofInt n = v) (hn : i < M.2.2.1) (hv : (i, Value.int v) :: lv.filter (fun q => !(q.1 == i) && !(q.1 + 1 == i && q.2.category == 2)) = lv') (k : X M fr lo Tg RO rc rs (pc + 3) lv' st h) : X M fr lo Tg RO rc rs pc lv (st) h := x_sto (fun hx hb hl k => lv_iinc hx hb hd hl hj hw hn hv k) k
theorem x_goto {off : Int} (t : Nat) (hd : decode M.2.1 pc = .ok (.goto off, 3)) (ht : (pc : Int) + off = (t : Int)) (k : X M fr lo Tg RO rc rs t lv st h) : X M fr lo Tg RO rc rs pc lv st h := x_op (fun hx hb _ k => lv_goto hx hb hd ht k) k
theorem x_if_eq {α : Type} {A B : Option α} {r : α} {x : Int32} {off : Int} (t : Nat) (hd : decode M.2.1 pc = .ok (.ifCond .eq off, 3)) (ht : (pc : Int) + off = (t : Int)) (hF : (if x = 0 then A else B) = some r) (k1 : A = some r → X M fr lo Tg RO rc rs t lv rest h) (k2 : B = some r → X M fr lo Tg RO rc rs (pc + 3) lv rest h) : X M fr lo Tg RO rc rs pc lv (.int x :: rest) h := x_br (cnd := x = 0) (fun hx hb k1 k2 => lv_if_eq hx hb hd ht k1 k2) (fun z => k1 (by rw [if_pos z] at hF; exact hF)) (fun z => k2 (by rw [if_neg z] at hF; exact hF))
theorem x_icmp_eq {α : Type} {A B : Option α} {r : α} {x y : Int32} {off : Int} (t : Nat) (hd : decode M.2.1 pc = .ok (.if_icmp .eq off, 3)) (ht : (pc : Int) + off = (t : Int)) (hF : (if x = y then A else B) = some r) (k1 : A = some r → X M fr lo Tg RO rc rs t lv rest h) (k2 : B = some r → X M fr lo Tg RO rc rs (pc + 3) lv rest h) : X M fr lo Tg RO rc rs pc lv (.int y :: .int x :: rest) h := x_br (cnd := x = y) (fun hx hb k1 k2 => lv_icmp_eq hx hb hd ht k1 k2) (fun z => k1 (by rw [if_pos z] at hF; exact hF)) (fun z => k2 (by rw [if_neg z] at hF; exact hF))
theorem x_if_ne {α : Type} {A B : Option α} {r : α} {x : Int32} {off : Int} (t : Nat) (hd : decode M.2.1 pc = .ok (.ifCond .ne off, 3)) (ht : (pc : Int) + off = (t : Int)) (hF : (if x = 0 then B else A) = some r) (k1 : A = some r → X M fr lo Tg RO rc rs t lv rest h) (k2 : B = some r → X M fr lo Tg RO rc rs (pc + 3) lv rest h) : X M fr lo Tg RO rc rs pc lv (.int x :: rest) h := x_br (cnd := ¬ x = 0) (fun hx hb k1 k2 => lv_if_ne hx hb hd ht k1 (fun z => k2 (fun w => w z))) (fun z => k1 (by rw [if_neg z] at hF; exact hF)) (fun z => k2 (by rw [if_pos (Decidable.byContradiction (fun w => z w))] at hF; exact hF))
theorem x_icmp_ne {α : Type} {A B : Option α} {r : α} {x y : Int32} {off : Int} (t : Nat) (hd : decode M.2.1 pc = .ok (.if_icmp .ne off, 3)) (ht : (pc : Int) + off = (t : Int)) (hF : (if x = y then B else A) = some r) (k1 : A = some r → X M fr lo Tg RO rc rs t lv rest h) (k2 : B = some r → X M fr lo Tg RO rc rs (pc + 3) lv rest h) : X M fr lo Tg RO rc rs pc lv (.int y :: .int x :: rest) h := x_br (cnd := ¬ x = y) (fun hx hb k1 k2 => lv_icmp_ne hx hb hd ht k1 (fun z => k2 (fun w => w z))) (fun z => k1 (by rw [if_neg z] at hF; exact hF)) (fun z => k2 (by rw [if_pos (Decidable.byContradiction (fun w => z w))] at hF; exact hF))
theorem x_if_lt {α : Type} {A B : Option α} {r : α} {x : Int32} {off : Int} (t : Nat) (hd : decode M.2.1 pc = .ok (.ifCond .lt off, 3)) (ht : (pc : Int) + off = (t : Int)) (hF : (if x < 0 then A else B) = some r) (k1 : A = some r → X M fr lo Tg RO rc rs t lv rest h) (k2 : B = some r → X M fr lo Tg RO rc rs (pc + 3) lv rest h) : X M fr lo Tg RO rc rs pc lv (.int x :: rest) h := x_br (cnd := x < 0) (fun hx hb k1 k2 => lv_if_lt hx hb hd ht k1 k2) (fun z => k1 (by rw [if_pos z] at hF; exact hF)) (fun z => k2 (by rw [if_neg z] at hF; exact hF))
theorem x_icmp_lt {α : Type} {A B : Option α} {r : α} {x y : Int32} {off : Int} (t : Nat) (hd : decode M.2.1 pc = .ok (.if_icmp .lt off, 3)) (ht : (pc : Int) + off = (t : Int)) (hF : (if x < y then A else B) = some r) (k1 : A = some r → X M fr lo Tg RO rc rs t lv rest h) (k2 : B = some r → X M fr lo Tg RO rc rs (pc + 3) lv rest h) : X M fr lo Tg RO rc rs pc lv (.int y :: .int x :: rest) h := x_br (cnd := x < y) (fun hx hb k1 k2 => lv_icmp_lt hx hb hd ht k1 k2) (fun z => k1 (by rw [if_pos z] at hF; exact hF)) (fun z => k2 (by rw [if_neg z] at hF; exact hF))
theorem x_if_ge {α : Type} {A B : Option α} {r : α} {x : Int32} {off : Int} (t : Nat) (hd : decode M.2.1 pc = .ok (.ifCond .ge off, 3)) (ht : (pc : Int) + off = (t : Int)) (hF : (if 0 ≤ x then A else B) = some r) (k1 : A = some r → X M fr lo Tg RO rc rs t lv rest h) (k2 : B = some r → X M fr lo Tg RO rc rs (pc + 3) lv rest h) : X M fr lo Tg RO rc rs pc lv (.int x :: rest) h := x_br (cnd := 0 ≤ x) (fun hx hb k1 k2 => lv_if_ge hx hb hd ht k1 k2) (fun z => k1 (by rw [if_pos z] at hF; exact hF)) (fun z => k2 (by rw [if_neg z] at hF; exact hF))
theorem x_icmp_ge {α : Type} {A B : Option α} {r : α} {x y : Int32} {off : Int} (t : Nat) (hd : decode M.2.1 pc = .ok (.if_icmp .ge off, 3)) (ht : (pc : Int) + off = (t : Int)) (hF : (if y ≤ x then A else B) = some r) (k1 : A = some r → X M fr lo Tg RO rc rs t lv rest h) (k2 : B = some r → X M fr lo Tg RO rc rs (pc + 3) lv rest h) : X M fr lo Tg RO rc rs pc lv (.int y :: .int x :: rest) h := x_br (cnd := y ≤ x) (fun hx hb k1 k2 => lv_icmp_ge hx hb hd ht k1 k2) (fun z => k1 (by rw [if_pos z] at hF; exact hF)) (fun z => k2 (by rw [if_neg z] at hF; exact hF))
theorem x_if_gt {α : Type} {A B : Option α} {r : α} {x : Int32} {off : Int} (t : Nat) (hd : decode M.2.1 pc = .ok (.ifCond .gt off, 3)) (ht : (pc : Int) + off = (t : Int)) (hF : (if 0 < x then A else B) = some r) (k1 : A = some r → X M fr lo Tg RO rc rs t lv rest h) (k2 : B = some r → X M fr lo Tg RO rc rs (pc + 3) lv rest h) : X M fr lo Tg RO rc rs pc lv (.int x :: rest) h := x_br (cnd := 0 < x) (fun hx hb k1 k2 => lv_if_gt hx hb hd ht k1 k2) (fun z => k1 (by rw [if_pos z] at hF; exact hF)) (fun z => k2 (by rw [if_neg z] at hF; exact hF))
theorem x_icmp_gt {α : Type} {A B : Option α} {r : α} {x y : Int32} {off : Int} (t : Nat) (hd : decode M.2.1 pc = .ok (.if_icmp .gt off, 3)) (ht : (pc : Int) + off = (t : Int)) (hF : (if y < x then A else B) = some r) (k1 : A = some r → X M fr lo Tg RO rc rs t lv rest h) (k2 : B = some r → X M fr lo Tg RO rc rs (pc + 3) lv rest h) : X M fr lo Tg RO rc rs pc lv (.int y :: .int x :: rest) h := x_br (cnd := y < x) (fun hx hb k1 k2 => lv_icmp_gt hx hb hd ht k1 k2) (fun z => k1 (by rw [if_pos z] at hF; exact hF)) (fun z => k2 (by rw [if_neg z] at hF; exact hF))
theorem x_if_le {α : Type} {A B : Option α} {r : α} {x : Int32} {off : Int} (t : Nat) (hd : decode M.2.1 pc = .ok (.ifCond .le off, 3)) (ht : (pc : Int) + off = (t : Int)) (hF : (if x ≤ 0 then A else B) = some r) (k1 : A = some r → X M fr lo Tg RO rc rs t lv rest h) (k2 : B = some r → X M fr lo Tg RO rc rs (pc + 3) lv rest h) : X M fr lo Tg RO rc rs pc lv (.int x :: rest) h := x_br (cnd := x ≤ 0) (fun hx hb k1 k2 => lv_if_le hx hb hd ht k1 k2) (fun z => k1 (by rw [if_pos z] at hF; exact hF)) (fun z => k2 (by rw [if_neg z] at hF; exact hF))
theorem x_icmp_le {α : Type} {A B : Option α} {r : α} {x y : Int32} {off : Int} (t : Nat) (hd : decode M.2.1 pc = .ok (.if_icmp .le off, 3)) (ht : (pc : Int) + off = (t : Int)) (hF : (if x ≤ y then A else B) = some r) (k1 : A = some r → X M fr lo Tg RO rc rs t lv rest h) (k2 : B = some r → X M fr lo Tg RO rc rs (pc + 3) lv rest h) : X M fr lo Tg RO rc rs pc lv (.int y :: .int x :: rest) h := x_br (cnd := x ≤ y) (fun hx hb k1 k2 => lv_icmp_le hx hb hd ht k1 k2) (fun z => k1 (by rw [if_pos z] at hF; exact hF)) (fun z => k2 (by rw [if_neg z] at hF; exact hF))
theorem x_ifnull {α : Type} {A : Option α} {Bf : Nat → Option α} {w : α} {r : Option Nat} {off : Int} (t : Nat) (hd : decode M.2.1 pc = .ok (.ifnull off, 3)) (ht : (pc : Int) + off = (t : Int)) (hF : r.elim A Bf = some w) (k1 : r = none → A = some w → X M fr lo Tg RO rc rs t lv rest h) (k2 : ∀ a : Nat, r = some a → Bf a = some w → X M fr lo Tg RO rc rs (pc + 3) lv rest h) : X M fr lo Tg RO rc rs pc lv (va_rf r :: rest) h := by
  cases r with
  | none => exact x_op (fun hx hb _ k => lv_ifnullN hx hb hd ht k) (k1 rfl hF)
  | some a => exact x_op (fun hx hb _ k => lv_ifnull hx hb hd k) (k2 a rfl hF)
theorem x_ifnonnull {α : Type} {A : Option α} {Bf : Nat → Option α} {w : α} {r : Option Nat} {off : Int} (t : Nat) (hd : decode M.2.1 pc = .ok (.ifnonnull off, 3)) (ht : (pc : Int) + off = (t : Int)) (hF : r.elim A Bf = some w) (k1 : r = none → A = some w → X M fr lo Tg RO rc rs (pc + 3) lv rest h) (k2 : ∀ a : Nat, r = some a → Bf a = some w → X M fr lo Tg RO rc rs t lv rest h) : X M fr lo Tg RO rc rs pc lv (va_rf r :: rest) h := by
  cases r with
  | none => exact x_op (fun hx hb _ k => lv_ifnonnullN hx hb hd k) (k1 rfl hF)
  | some a => exact x_op (fun hx hb _ k => lv_ifnonnull hx hb hd ht k) (k2 a rfl hF)
/-- a switch, one label after the other: first 'is it this label', at the end the default -/
theorem x_swc {α : Type} {A B : Option α} {w : α} {x : Int32} {dflt lo' hi : Int} {offs : Array Int} {len : Nat} {off : Int} (v : Int32) (t : Nat) (hd : decode M.2.1 pc = .ok (.tableswitch dflt lo' hi offs, len)) (hv : (decide (v.toInt < lo') || decide (hi < v.toInt)) = false) (ho : offs[(v.toInt - lo').toNat]? = some off) (ht : (pc : Int) + off = (t : Int)) (hF : (if x = v then A else B) = some w)
    (k1 : A = some w → X M fr lo Tg RO rc rs t lv rest h) (k2 : ¬ x = v → B = some w → X M fr lo Tg RO rc rs pc lv (.int x :: rest) h) : X M fr lo Tg RO rc rs pc lv (.int x :: rest) h := by
  by_cases e : x = v
  · rw [if_pos e] at hF
    subst e
    simp only [Bool.or_eq_false_iff, decide_eq_false_iff_not] at hv
    exact x_op (fun hx hb _ k => lv_tableIn hx hb hd hv.1 hv.2 ho ht k) (k1 hF)
  · rw [if_neg e] at hF
    exact k2 e hF
theorem x_swo {x : Int32} {dflt lo' hi : Int} {offs : Array Int} {len : Nat} (t : Nat) (hd : decode M.2.1 pc = .ok (.tableswitch dflt lo' hi offs, len)) (ho : x.toInt < lo' ∨ hi < x.toInt) (ht : (pc : Int) + dflt = (t : Int)) (k : X M fr lo Tg RO rc rs t lv rest h) : X M fr lo Tg RO rc rs pc lv (.int x :: rest) h := x_op (fun hx hb _ k => lv_tableOut hx hb hd ho ht k) k

def x_div (x y : Int32) : Option Int32 := if y = 0 then none else some (x / y)
def x_rem (x y : Int32) : Option Int32 := if y = 0 then none else some (x - x / y * y)
/-- a double that is a number -/
def x_dn (r : UInt64) : Option UInt64 := if r &&& 0x7fffffffffffffff ≤ 0x7ff0000000000000 then some r else none
theorem x_div_sp {x y v : Int32} (h : x_div x y = some v) : ¬ y = 0 ∧ v = x / y := by
  unfold x_div at h
  split at h
  · cases h
  · rename_i hy
    cases h
    exact ⟨hy, rfl⟩
theorem x_rem_sp {x y v : Int32} (h : x_rem x y = some v) : ¬ y = 0 ∧ v = x - x / y * y := by
  unfold x_rem at h
  split at h
  · cases h
  · rename_i hy
    cases h
    exact ⟨hy, rfl⟩
theorem x_dn_sp {r v : UInt64} (h : x_dn r = some v) : vf_n64 r ∧ v = r := by
  unfold x_dn at h
  split at h
  · rename_i hy
    cases h
    exact ⟨hy, rfl⟩
  · cases h
theorem x_idiv {α : Type} {f : Int32 → Option α} {w : α} {x y : Int32} (hd : decode M.2.1 pc = .ok (.idiv, 1)) (hF : (x_div x y).bind f = some w) (k : ∀ v : Int32, f v = some w → X M fr lo Tg RO rc rs (pc + 1) lv (.int v :: rest) h) : X M fr lo Tg RO rc rs pc lv (.int y :: .int x :: rest) h := by
  obtain ⟨v, hv, hF⟩ := x_bind hF
  obtain ⟨hy, rfl⟩ := x_div_sp hv
  exact x_op (fun hx hb _ k => lv_idiv hx hb hd hy k) (k _ hF)
theorem x_irem {α : Type} {f : Int32 → Option α} {w : α} {x y : Int32} (hd : decode M.2.1 pc = .ok (.irem, 1)) (hF : (x_rem x y).bind f = some w) (k : ∀ v : Int32, f v = some w → X M fr lo Tg RO rc rs (pc + 1) lv (.int v :: rest) h) : X M fr lo Tg RO rc rs pc lv (.int y :: .int x :: rest) h := by
  obtain ⟨v, hv, hF⟩ := x_bind hF
  obtain ⟨hy, rfl⟩ := x_rem_sp hv
  exact x_op (fun hx hb _ k => lv_irem hx hb hd hy k) (k _ hF)

theorem x_dadd {α : Type} {f : UInt64 → Option α} {w : α} {x y : UInt64} (hd : decode M.2.1 pc = .ok (.dadd, 1)) (hF : (x_dn (FP.dadd x y)).bind f = some w) (k : ∀ v : UInt64, f v = some w → X M fr lo Tg RO rc rs (pc + 1) lv (.double v :: rest) h) : X M fr lo Tg RO rc rs pc lv (.double y :: .double x :: rest) h := by
  obtain ⟨v, hv, hF⟩ := x_bind hF
  obtain ⟨hy, rfl⟩ := x_dn_sp hv
  exact x_op (fun hx hb _ k => lv_dadd hx hb hd hy k) (k _ hF)
theorem x_dsub {α : Type} {f : UInt64 → Option α} {w : α} {x y : UInt64} (hd : decode M.2.1 pc = .ok (.dsub, 1)) (hF : (x_dn (FP.dsub x y)).bind f = some w) (k : ∀ v : UInt64, f v = some w → X M fr lo Tg RO rc rs (pc + 1) lv (.double v :: rest) h) : X M fr lo Tg RO rc rs pc lv (.double y :: .double x :: rest) h := by
  obtain ⟨v, hv, hF⟩ := x_bind hF
  obtain ⟨hy, rfl⟩ := x_dn_sp hv
  exact x_op (fun hx hb _ k => lv_dsub hx hb hd hy k) (k _ hF)
theorem x_dmul {α : Type} {f : UInt64 → Option α} {w : α} {x y : UInt64} (hd : decode M.2.1 pc = .ok (.dmul, 1)) (hF : (x_dn (FP.dmul x y)).bind f = some w) (k : ∀ v : UInt64, f v = some w → X M fr lo Tg RO rc rs (pc + 1) lv (.double v :: rest) h) : X M fr lo Tg RO rc rs pc lv (.double y :: .double x :: rest) h := by
  obtain ⟨v, hv, hF⟩ := x_bind hF
  obtain ⟨hy, rfl⟩ := x_dn_sp hv
  exact x_op (fun hx hb _ k => lv_dmul hx hb hd hy k) (k _ hF)
theorem x_ddiv {α : Type} {f : UInt64 → Option α} {w : α} {x y : UInt64} (hd : decode M.2.1 pc = .ok (.ddiv, 1)) (hF : (x_dn (FP.ddiv x y)).bind f = some w) (k : ∀ v : UInt64, f v = some w → X M fr lo Tg RO rc rs (pc + 1) lv (.double v :: rest) h) : X M fr lo Tg RO rc rs pc lv (.double y :: .double x :: rest) h := by
  obtain ⟨v, hv, hF⟩ := x_bind hF
  obtain ⟨hy, rfl⟩ := x_dn_sp hv
  exact x_op (fun hx hb _ k => lv_ddiv hx hb hd hy k) (k _ hF)
end XR1
