section ZOps
variable {d : Nat} {M : ZM} {pc : Nat} {lv : List (Option ZV)} {st : List ZV} {h : ZH} {Q : Option ZV → ZH → Prop}
theorem zX_hts {M : ZM} {G : ZG} {p : Program} {s : State} {m : MethodId} {args : Array Value} {meth : Method} {c : Code} (B : zCtx M G p s m args meth c) {w : Cond} (hw : w ∈ WS) : w.before args s = true := B.2.2.2.2.1 w (List.mem_cons_of_mem _ hw)
theorem zo_iconst {n : Int} {v : Int32} (hd : decode M.2.1 pc = .ok (.iconst n, 1)) (hv : Int32.ofInt n = v) (k : EvAt d M (pc + 1) lv (vI v :: st) h Q) : EvAt d M pc lv st h Q := fun G p l e s m args below meth c H locs ls B hR hS hl => lv_iconst B.1 B.2.1 hd hv (k G p l e s m args below meth c H locs ls B hR hS hl)
theorem zo_bipush {n : Int} {v : Int32} (hd : decode M.2.1 pc = .ok (.bipush n, 2)) (hv : (Int8.ofInt n).toInt32 = v) (k : EvAt d M (pc + 2) lv (vI v :: st) h Q) : EvAt d M pc lv st h Q := fun G p l e s m args below meth c H locs ls B hR hS hl => lv_bipush B.1 B.2.1 hd hv (k G p l e s m args below meth c H locs ls B hR hS hl)
theorem zo_sipush {n : Int} {v : Int32} (hd : decode M.2.1 pc = .ok (.sipush n, 3)) (hv : (Int16.ofInt n).toInt32 = v) (k : EvAt d M (pc + 3) lv (vI v :: st) h Q) : EvAt d M pc lv st h Q := fun G p l e s m args below meth c H locs ls B hR hS hl => lv_sipush B.1 B.2.1 hd hv (k G p l e s m args below meth c H locs ls B hR hS hl)
theorem zo_lconst {n : Fin 2} {v : Int64} (hd : decode M.2.1 pc = .ok (.lconst n, 1)) (hv : Int64.ofNat n = v) (k : EvAt d M (pc + 1) lv (vL v :: st) h Q) : EvAt d M pc lv st h Q := fun G p l e s m args below meth c H locs ls B hR hS hl => lv_lconst B.1 B.2.1 hd hv (k G p l e s m args below meth c H locs ls B hR hS hl)
theorem zo_ldc {idx : Nat} {v : Int32} (hw : Cond.constant M.1.cls idx v ∈ WS) (hd : decode M.2.1 pc = .ok (.ldc idx, 2)) (k : EvAt d M (pc + 2) lv (vI v :: st) h Q) : EvAt d M pc lv st h Q := fun G p l e s m args below meth c H locs ls B hR hS hl => lv_ldc B.1 B.2.1 B.2.2.2.2.2.1 (zX_hts B hw) hd (k G p l e s m args below meth c H locs ls B hR hS hl)
theorem zo_ldc2 {idx : Nat} {v : Int64} (hw : Cond.constantLong M.1.cls idx v ∈ WS) (hd : decode M.2.1 pc = .ok (.ldc2_w idx, 3)) (k : EvAt d M (pc + 3) lv (vL v :: st) h Q) : EvAt d M pc lv st h Q := fun G p l e s m args below meth c H locs ls B hR hS hl => lv_ldc2 B.1 B.2.1 B.2.2.2.2.2.1 (zX_hts B hw) hd (k G p l e s m args below meth c H locs ls B hR hS hl)
theorem zo_null (hd : decode M.2.1 pc = .ok (.aconst_null, 1)) (k : EvAt d M (pc + 1) lv (vQ none :: st) h Q) : EvAt d M pc lv st h Q := fun G p l e s m args below meth c H locs ls B hR hS hl => lv_null B.1 B.2.1 hd (k G p l e s m args below meth c H locs ls B hR hS hl)
theorem zo_iload_n {k : Fin 4} {i : Nat} {x : Int32} (hd : decode M.2.1 pc = .ok (.iload_n k, 1)) (hi : (k : Nat) = i) (hx : lv[i]? = some (some (vI x))) (k : EvAt d M (pc + 1) lv (vI x :: st) h Q) : EvAt d M pc lv st h Q := fun G p l e s m args below meth c H locs ls B hR hS hl => lv_iload_n B.1 B.2.1 hd hi (zLv_at hl hx) (k G p l e s m args below meth c H locs ls B hR hS hl)
theorem zo_iload {i : Nat} {x : Int32} (hd : decode M.2.1 pc = .ok (.iload i, 2)) (hx : lv[i]? = some (some (vI x))) (k : EvAt d M (pc + 2) lv (vI x :: st) h Q) : EvAt d M pc lv st h Q := fun G p l e s m args below meth c H locs ls B hR hS hl => lv_iload B.1 B.2.1 hd (zLv_at hl hx) (k G p l e s m args below meth c H locs ls B hR hS hl)
theorem zo_lload_n {k : Fin 4} {i : Nat} {x : Int64} (hd : decode M.2.1 pc = .ok (.lload_n k, 1)) (hi : (k : Nat) = i) (hx : lv[i]? = some (some (vL x))) (k : EvAt d M (pc + 1) lv (vL x :: st) h Q) : EvAt d M pc lv st h Q := fun G p l e s m args below meth c H locs ls B hR hS hl => lv_lload_n B.1 B.2.1 hd hi (zLv_at hl hx) (k G p l e s m args below meth c H locs ls B hR hS hl)
theorem zo_lload {i : Nat} {x : Int64} (hd : decode M.2.1 pc = .ok (.lload i, 2)) (hx : lv[i]? = some (some (vL x))) (k : EvAt d M (pc + 2) lv (vL x :: st) h Q) : EvAt d M pc lv st h Q := fun G p l e s m args below meth c H locs ls B hR hS hl => lv_lload B.1 B.2.1 hd (zLv_at hl hx) (k G p l e s m args below meth c H locs ls B hR hS hl)
theorem zo_aload_n {k : Fin 4} {i : Nat} {o : Option (Nat × Nat)} (hd : decode M.2.1 pc = .ok (.aload_n k, 1)) (hi : (k : Nat) = i) (hx : lv[i]? = some (some (vQ o))) (k : EvAt d M (pc + 1) lv (vQ o :: st) h Q) : EvAt d M pc lv st h Q := by
  intro G p l e s m args below meth c H locs ls B hR hS hl
  cases o with
  | none => exact lv_aload_nN B.1 B.2.1 hd hi (zLv_at hl hx) (k G p l e s m args below meth c H locs ls B hR hS hl)
  | some q => exact lv_aload_n B.1 B.2.1 hd hi (zLv_at hl hx) (k G p l e s m args below meth c H locs ls B hR hS hl)
theorem zo_aload {i : Nat} {o : Option (Nat × Nat)} (hd : decode M.2.1 pc = .ok (.aload i, 2)) (hx : lv[i]? = some (some (vQ o))) (k : EvAt d M (pc + 2) lv (vQ o :: st) h Q) : EvAt d M pc lv st h Q := by
  intro G p l e s m args below meth c H locs ls B hR hS hl
  cases o with
  | none => exact lv_aloadN B.1 B.2.1 hd (zLv_at hl hx) (k G p l e s m args below meth c H locs ls B hR hS hl)
  | some q => exact lv_aload B.1 B.2.1 hd (zLv_at hl hx) (k G p l e s m args below meth c H locs ls B hR hS hl)
theorem zo_istore_n {k : Fin 4} {i : Nat} {x : Int32} (hd : decode M.2.1 pc = .ok (.istore_n k, 1)) (hi : (k : Nat) = i) (hn : i < M.2.2.1) (hz : zst lv i = true) (k : EvAt d M (pc + 1) (lv.set i (some (vI x))) st h Q) : EvAt d M pc lv (vI x :: st) h Q := fun G p l e s m args below meth c H locs ls B hR hS hl => lv_istore_n B.1 B.2.1 hd hi hl hn rfl (fun ls' hl' => k G p l e s m args below meth c H locs ls' B hR hS (zLv_set hz hl'))
theorem zo_istore {i : Nat} {x : Int32} (hd : decode M.2.1 pc = .ok (.istore i, 2)) (hn : i < M.2.2.1) (hz : zst lv i = true) (k : EvAt d M (pc + 2) (lv.set i (some (vI x))) st h Q) : EvAt d M pc lv (vI x :: st) h Q := fun G p l e s m args below meth c H locs ls B hR hS hl => lv_istore B.1 B.2.1 hd hl hn rfl (fun ls' hl' => k G p l e s m args below meth c H locs ls' B hR hS (zLv_set hz hl'))
theorem zo_astore_n {k : Fin 4} {i : Nat} {o : Option (Nat × Nat)} (hd : decode M.2.1 pc = .ok (.astore_n k, 1)) (hi : (k : Nat) = i) (hn : i < M.2.2.1) (hz : zst lv i = true) (k : EvAt d M (pc + 1) (lv.set i (some (vQ o))) st h Q) : EvAt d M pc lv (vQ o :: st) h Q := by
  intro G p l e s m args below meth c H locs ls B hR hS hl
  cases o with
  | none => exact lv_astore_nN B.1 B.2.1 hd hi hl hn rfl (fun ls' hl' => k G p l e s m args below meth c H locs ls' B hR hS (zLv_set hz hl'))
  | some q => exact lv_astore_n B.1 B.2.1 hd hi hl hn rfl (fun ls' hl' => k G p l e s m args below meth c H locs ls' B hR hS (zLv_set hz hl'))
theorem zo_astore {i : Nat} {o : Option (Nat × Nat)} (hd : decode M.2.1 pc = .ok (.astore i, 2)) (hn : i < M.2.2.1) (hz : zst lv i = true) (k : EvAt d M (pc + 2) (lv.set i (some (vQ o))) st h Q) : EvAt d M pc lv (vQ o :: st) h Q := by
  intro G p l e s m args below meth c H locs ls B hR hS hl
  cases o with
  | none => exact lv_astoreN B.1 B.2.1 hd hl hn rfl (fun ls' hl' => k G p l e s m args below meth c H locs ls' B hR hS (zLv_set hz hl'))
  | some q => exact lv_astore B.1 B.2.1 hd hl hn rfl (fun ls' hl' => k G p l e s m args below meth c H locs ls' B hR hS (zLv_set hz hl'))
theorem zo_iinc {i : Nat} {n : Int} {x v : Int32} (hd : decode M.2.1 pc = .ok (.iinc i n, 3)) (hx : lv[i]? = some (some (vI x))) (hv : x + Int32.ofInt n = v) (hn : i < M.2.2.1) (hz : zst lv i = true) (k : EvAt d M (pc + 3) (lv.set i (some (vI v))) st h Q) : EvAt d M pc lv st h Q := by
  intro G p l e s m args below meth c H locs ls B hR hS hl
  obtain ⟨kk, hkk⟩ := List.getElem?_of_mem ((zpairs_mem (G := G) lv 0).mpr ⟨i, vI x, hx, rfl⟩)
  rw [Nat.zero_add] at hkk
  exact lv_iinc B.1 B.2.1 hd hl hkk hv hn rfl (fun ls' hl' => k G p l e s m args below meth c H locs ls' B hR hS (zLv_set hz hl'))
theorem zo_iadd {x y : Int32} (hd : decode M.2.1 pc = .ok (.iadd, 1)) (k : EvAt d M (pc + 1) lv (vI (x + y) :: st) h Q) : EvAt d M pc lv (vI y :: vI x :: st) h Q := fun G p l e s m args below meth c H locs ls B hR hS hl => lv_iadd B.1 B.2.1 hd (k G p l e s m args below meth c H locs ls B hR hS hl)
theorem zo_isub {x y : Int32} (hd : decode M.2.1 pc = .ok (.isub, 1)) (k : EvAt d M (pc + 1) lv (vI (x - y) :: st) h Q) : EvAt d M pc lv (vI y :: vI x :: st) h Q := fun G p l e s m args below meth c H locs ls B hR hS hl => lv_isub B.1 B.2.1 hd (k G p l e s m args below meth c H locs ls B hR hS hl)
theorem zo_imul {x y : Int32} (hd : decode M.2.1 pc = .ok (.imul, 1)) (k : EvAt d M (pc + 1) lv (vI (x * y) :: st) h Q) : EvAt d M pc lv (vI y :: vI x :: st) h Q := fun G p l e s m args below meth c H locs ls B hR hS hl => lv_imul B.1 B.2.1 hd (k G p l e s m args below meth c H locs ls B hR hS hl)
theorem zo_iand {x y : Int32} (hd : decode M.2.1 pc = .ok (.iand, 1)) (k : EvAt d M (pc + 1) lv (vI (x &&& y) :: st) h Q) : EvAt d M pc lv (vI y :: vI x :: st) h Q := fun G p l e s m args below meth c H locs ls B hR hS hl => lv_iand B.1 B.2.1 hd (k G p l e s m args below meth c H locs ls B hR hS hl)
theorem zo_ior {x y : Int32} (hd : decode M.2.1 pc = .ok (.ior, 1)) (k : EvAt d M (pc + 1) lv (vI (x ||| y) :: st) h Q) : EvAt d M pc lv (vI y :: vI x :: st) h Q := fun G p l e s m args below meth c H locs ls B hR hS hl => lv_ior B.1 B.2.1 hd (k G p l e s m args below meth c H locs ls B hR hS hl)
theorem zo_ishl {x y : Int32} (hd : decode M.2.1 pc = .ok (.ishl, 1)) (k : EvAt d M (pc + 1) lv (vI (x <<< (y &&& 31)) :: st) h Q) : EvAt d M pc lv (vI y :: vI x :: st) h Q := fun G p l e s m args below meth c H locs ls B hR hS hl => lv_ishl B.1 B.2.1 hd (k G p l e s m args below meth c H locs ls B hR hS hl)
theorem zo_ishr {x y : Int32} (hd : decode M.2.1 pc = .ok (.ishr, 1)) (k : EvAt d M (pc + 1) lv (vI (x >>> (y &&& 31)) :: st) h Q) : EvAt d M pc lv (vI y :: vI x :: st) h Q := fun G p l e s m args below meth c H locs ls B hR hS hl => lv_ishr B.1 B.2.1 hd (k G p l e s m args below meth c H locs ls B hR hS hl)
theorem zo_idiv {x y : Int32} (hd : decode M.2.1 pc = .ok (.idiv, 1)) (hne : ¬ y = 0) (k : EvAt d M (pc + 1) lv (vI (x / y) :: st) h Q) : EvAt d M pc lv (vI y :: vI x :: st) h Q := fun G p l e s m args below meth c H locs ls B hR hS hl => lv_idiv B.1 B.2.1 hd hne (k G p l e s m args below meth c H locs ls B hR hS hl)
theorem zo_irem {x y : Int32} (hd : decode M.2.1 pc = .ok (.irem, 1)) (hne : ¬ y = 0) (k : EvAt d M (pc + 1) lv (vI (x - x / y * y) :: st) h Q) : EvAt d M pc lv (vI y :: vI x :: st) h Q := fun G p l e s m args below meth c H locs ls B hR hS hl => lv_irem B.1 B.2.1 hd hne (k G p l e s m args below meth c H locs ls B hR hS hl)
theorem zo_land {x y : Int64} (hd : decode M.2.1 pc = .ok (.land, 1)) (k : EvAt d M (pc + 1) lv (vL (x &&& y) :: st) h Q) : EvAt d M pc lv (vL y :: vL x :: st) h Q := fun G p l e s m args below meth c H locs ls B hR hS hl => lv_land B.1 B.2.1 hd (k G p l e s m args below meth c H locs ls B hR hS hl)
theorem zo_lor {x y : Int64} (hd : decode M.2.1 pc = .ok (.lor, 1)) (k : EvAt d M (pc + 1) lv (vL (x ||| y) :: st) h Q) : EvAt d M pc lv (vL y :: vL x :: st) h Q := fun G p l e s m args below meth c H locs ls B hR hS hl => lv_lor B.1 B.2.1 hd (k G p l e s m args below meth c H locs ls B hR hS hl)
theorem zo_lshl {x : Int64} {y : Int32} (hd : decode M.2.1 pc = .ok (.lshl, 1)) (k : EvAt d M (pc + 1) lv (vL (x <<< (y.toInt64 &&& 63)) :: st) h Q) : EvAt d M pc lv (vI y :: vL x :: st) h Q := fun G p l e s m args below meth c H locs ls B hR hS hl => lv_lshl B.1 B.2.1 hd rfl (k G p l e s m args below meth c H locs ls B hR hS hl)
theorem zo_lshr {x : Int64} {y : Int32} (hd : decode M.2.1 pc = .ok (.lshr, 1)) (k : EvAt d M (pc + 1) lv (vL (x >>> (y.toInt64 &&& 63)) :: st) h Q) : EvAt d M pc lv (vI y :: vL x :: st) h Q := fun G p l e s m args below meth c H locs ls B hR hS hl => lv_lshr B.1 B.2.1 hd rfl (k G p l e s m args below meth c H locs ls B hR hS hl)
theorem zo_lushr {x : Int64} {y : Int32} (hd : decode M.2.1 pc = .ok (.lushr, 1)) (k : EvAt d M (pc + 1) lv (vL ((x.toUInt64 >>> (y.toInt64.toUInt64 &&& Int64.toUInt64 63)).toInt64) :: st) h Q) : EvAt d M pc lv (vI y :: vL x :: st) h Q := fun G p l e s m args below meth c H locs ls B hR hS hl => lv_lushr B.1 B.2.1 hd rfl (k G p l e s m args below meth c H locs ls B hR hS hl)
theorem zo_i2l {x : Int32} (hd : decode M.2.1 pc = .ok (.i2l, 1)) (k : EvAt d M (pc + 1) lv (vL x.toInt64 :: st) h Q) : EvAt d M pc lv (vI x :: st) h Q := fun G p l e s m args below meth c H locs ls B hR hS hl => lv_i2l B.1 B.2.1 hd rfl (k G p l e s m args below meth c H locs ls B hR hS hl)
theorem zo_l2i {x : Int64} (hd : decode M.2.1 pc = .ok (.l2i, 1)) (k : EvAt d M (pc + 1) lv (vI x.toInt32 :: st) h Q) : EvAt d M pc lv (vL x :: st) h Q := fun G p l e s m args below meth c H locs ls B hR hS hl => lv_l2i B.1 B.2.1 hd rfl (k G p l e s m args below meth c H locs ls B hR hS hl)
theorem zo_i2c {x : Int32} (hd : decode M.2.1 pc = .ok (.i2c, 1)) (k : EvAt d M (pc + 1) lv (vI (x.toUInt32 % 65536).toInt32 :: st) h Q) : EvAt d M pc lv (vI x :: st) h Q := fun G p l e s m args below meth c H locs ls B hR hS hl => lv_i2c B.1 B.2.1 hd rfl (k G p l e s m args below meth c H locs ls B hR hS hl)
theorem zo_lcmp {x y : Int64} (hd : decode M.2.1 pc = .ok (.lcmp, 1)) (k : EvAt d M (pc + 1) lv (vI (lg_cmp x y) :: st) h Q) : EvAt d M pc lv (vL y :: vL x :: st) h Q := fun G p l e s m args below meth c H locs ls B hR hS hl => W.lcmp B.1 B.2.1 hd (k G p l e s m args below meth c H locs ls B hR hS hl)
theorem zo_dup {a : ZV} (ha : zcat a = 1) (hd : decode M.2.1 pc = .ok (.dup, 1)) (k : EvAt d M (pc + 1) lv (a :: a :: st) h Q) : EvAt d M pc lv (a :: st) h Q := fun G p l e s m args below meth c H locs ls B hR hS hl => lv_dup B.1 B.2.1 hd (by rw [zcat_zv]; exact ha) (k G p l e s m args below meth c H locs ls B hR hS hl)
theorem zo_pop {a : ZV} (ha : zcat a = 1) (hd : decode M.2.1 pc = .ok (.pop, 1)) (k : EvAt d M (pc + 1) lv st h Q) : EvAt d M pc lv (a :: st) h Q := fun G p l e s m args below meth c H locs ls B hR hS hl => lv_pop B.1 B.2.1 hd (by rw [zcat_zv]; exact ha) (k G p l e s m args below meth c H locs ls B hR hS hl)
theorem zo_dup_x1 {a b : ZV} (ha : zcat a = 1) (hb : zcat b = 1) (hd : decode M.2.1 pc = .ok (.dup_x1, 1)) (k : EvAt d M (pc + 1) lv (a :: b :: a :: st) h Q) : EvAt d M pc lv (a :: b :: st) h Q := fun G p l e s m args below meth c H locs ls B hR hS hl => lv_dup_x1 B.1 B.2.1 hd (by rw [zcat_zv]; exact ha) (by rw [zcat_zv]; exact hb) (k G p l e s m args below meth c H locs ls B hR hS hl)
theorem zo_dup2 {a b : ZV} (ha : zcat a = 1) (hb : zcat b = 1) (hd : decode M.2.1 pc = .ok (.dup2, 1)) (k : EvAt d M (pc + 1) lv (a :: b :: a :: b :: st) h Q) : EvAt d M pc lv (a :: b :: st) h Q := fun G p l e s m args below meth c H locs ls B hR hS hl => lv_dup2_11 B.1 B.2.1 hd (by rw [zcat_zv]; exact ha) (by rw [zcat_zv]; exact hb) (k G p l e s m args below meth c H locs ls B hR hS hl)
theorem zo_if_eq {x : Int32} {off : Int} {tgt : Nat} (hd : decode M.2.1 pc = .ok (.ifCond .eq off, 3)) (ht : (pc : Int) + off = (tgt : Int)) (kt : x = 0 → EvAt d M tgt lv st h Q) (kf : ¬ x = 0 → EvAt d M (pc + 3) lv st h Q) : EvAt d M pc lv (vI x :: st) h Q := fun G p l e s m args below meth c H locs ls B hR hS hl => lv_if_eq B.1 B.2.1 hd ht (fun z => kt z G p l e s m args below meth c H locs ls B hR hS hl) (fun z => kf z G p l e s m args below meth c H locs ls B hR hS hl)
theorem zo_icmp_eq {x y : Int32} {off : Int} {tgt : Nat} (hd : decode M.2.1 pc = .ok (.if_icmp .eq off, 3)) (ht : (pc : Int) + off = (tgt : Int)) (kt : x = y → EvAt d M tgt lv st h Q) (kf : ¬ x = y → EvAt d M (pc + 3) lv st h Q) : EvAt d M pc lv (vI y :: vI x :: st) h Q := fun G p l e s m args below meth c H locs ls B hR hS hl => lv_icmp_eq B.1 B.2.1 hd ht (fun z => kt z G p l e s m args below meth c H locs ls B hR hS hl) (fun z => kf z G p l e s m args below meth c H locs ls B hR hS hl)
theorem zo_if_ne {x : Int32} {off : Int} {tgt : Nat} (hd : decode M.2.1 pc = .ok (.ifCond .ne off, 3)) (ht : (pc : Int) + off = (tgt : Int)) (kt : ¬ x = 0 → EvAt d M tgt lv st h Q) (kf : x = 0 → EvAt d M (pc + 3) lv st h Q) : EvAt d M pc lv (vI x :: st) h Q := fun G p l e s m args below meth c H locs ls B hR hS hl => lv_if_ne B.1 B.2.1 hd ht (fun z => kt z G p l e s m args below meth c H locs ls B hR hS hl) (fun z => kf z G p l e s m args below meth c H locs ls B hR hS hl)
theorem zo_icmp_ne {x y : Int32} {off : Int} {tgt : Nat} (hd : decode M.2.1 pc = .ok (.if_icmp .ne off, 3)) (ht : (pc : Int) + off = (tgt : Int)) (kt : ¬ x = y → EvAt d M tgt lv st h Q) (kf : x = y → EvAt d M (pc + 3) lv st h Q) : EvAt d M pc lv (vI y :: vI x :: st) h Q := fun G p l e s m args below meth c H locs ls B hR hS hl => lv_icmp_ne B.1 B.2.1 hd ht (fun z => kt z G p l e s m args below meth c H locs ls B hR hS hl) (fun z => kf z G p l e s m args below meth c H locs ls B hR hS hl)
theorem zo_if_lt {x : Int32} {off : Int} {tgt : Nat} (hd : decode M.2.1 pc = .ok (.ifCond .lt off, 3)) (ht : (pc : Int) + off = (tgt : Int)) (kt : x < 0 → EvAt d M tgt lv st h Q) (kf : ¬ x < 0 → EvAt d M (pc + 3) lv st h Q) : EvAt d M pc lv (vI x :: st) h Q := fun G p l e s m args below meth c H locs ls B hR hS hl => lv_if_lt B.1 B.2.1 hd ht (fun z => kt z G p l e s m args below meth c H locs ls B hR hS hl) (fun z => kf z G p l e s m args below meth c H locs ls B hR hS hl)
theorem zo_icmp_lt {x y : Int32} {off : Int} {tgt : Nat} (hd : decode M.2.1 pc = .ok (.if_icmp .lt off, 3)) (ht : (pc : Int) + off = (tgt : Int)) (kt : x < y → EvAt d M tgt lv st h Q) (kf : ¬ x < y → EvAt d M (pc + 3) lv st h Q) : EvAt d M pc lv (vI y :: vI x :: st) h Q := fun G p l e s m args below meth c H locs ls B hR hS hl => lv_icmp_lt B.1 B.2.1 hd ht (fun z => kt z G p l e s m args below meth c H locs ls B hR hS hl) (fun z => kf z G p l e s m args below meth c H locs ls B hR hS hl)
theorem zo_if_ge {x : Int32} {off : Int} {tgt : Nat} (hd : decode M.2.1 pc = .ok (.ifCond .ge off, 3)) (ht : (pc : Int) + off = (tgt : Int)) (kt : 0 ≤ x → EvAt d M tgt lv st h Q) (kf : ¬ 0 ≤ x → EvAt d M (pc + 3) lv st h Q) : EvAt d M pc lv (vI x :: st) h Q := fun G p l e s m args below meth c H locs ls B hR hS hl => lv_if_ge B.1 B.2.1 hd ht (fun z => kt z G p l e s m args below meth c H locs ls B hR hS hl) (fun z => kf z G p l e s m args below meth c H locs ls B hR hS hl)
theorem zo_icmp_ge {x y : Int32} {off : Int} {tgt : Nat} (hd : decode M.2.1 pc = .ok (.if_icmp .ge off, 3)) (ht : (pc : Int) + off = (tgt : Int)) (kt : y ≤ x → EvAt d M tgt lv st h Q) (kf : ¬ y ≤ x → EvAt d M (pc + 3) lv st h Q) : EvAt d M pc lv (vI y :: vI x :: st) h Q := fun G p l e s m args below meth c H locs ls B hR hS hl => lv_icmp_ge B.1 B.2.1 hd ht (fun z => kt z G p l e s m args below meth c H locs ls B hR hS hl) (fun z => kf z G p l e s m args below meth c H locs ls B hR hS hl)
theorem zo_if_gt {x : Int32} {off : Int} {tgt : Nat} (hd : decode M.2.1 pc = .ok (.ifCond .gt off, 3)) (ht : (pc : Int) + off = (tgt : Int)) (kt : 0 < x → EvAt d M tgt lv st h Q) (kf : ¬ 0 < x → EvAt d M (pc + 3) lv st h Q) : EvAt d M pc lv (vI x :: st) h Q := fun G p l e s m args below meth c H locs ls B hR hS hl => lv_if_gt B.1 B.2.1 hd ht (fun z => kt z G p l e s m args below meth c H locs ls B hR hS hl) (fun z => kf z G p l e s m args below meth c H locs ls B hR hS hl)
theorem zo_icmp_gt {x y : Int32} {off : Int} {tgt : Nat} (hd : decode M.2.1 pc = .ok (.if_icmp .gt off, 3)) (ht : (pc : Int) + off = (tgt : Int)) (kt : y < x → EvAt d M tgt lv st h Q) (kf : ¬ y < x → EvAt d M (pc + 3) lv st h Q) : EvAt d M pc lv (vI y :: vI x :: st) h Q := fun G p l e s m args below meth c H locs ls B hR hS hl => lv_icmp_gt B.1 B.2.1 hd ht (fun z => kt z G p l e s m args below meth c H locs ls B hR hS hl) (fun z => kf z G p l e s m args below meth c H locs ls B hR hS hl)
theorem zo_if_le {x : Int32} {off : Int} {tgt : Nat} (hd : decode M.2.1 pc = .ok (.ifCond .le off, 3)) (ht : (pc : Int) + off = (tgt : Int)) (kt : x ≤ 0 → EvAt d M tgt lv st h Q) (kf : ¬ x ≤ 0 → EvAt d M (pc + 3) lv st h Q) : EvAt d M pc lv (vI x :: st) h Q := fun G p l e s m args below meth c H locs ls B hR hS hl => lv_if_le B.1 B.2.1 hd ht (fun z => kt z G p l e s m args below meth c H locs ls B hR hS hl) (fun z => kf z G p l e s m args below meth c H locs ls B hR hS hl)
theorem zo_icmp_le {x y : Int32} {off : Int} {tgt : Nat} (hd : decode M.2.1 pc = .ok (.if_icmp .le off, 3)) (ht : (pc : Int) + off = (tgt : Int)) (kt : x ≤ y → EvAt d M tgt lv st h Q) (kf : ¬ x ≤ y → EvAt d M (pc + 3) lv st h Q) : EvAt d M pc lv (vI y :: vI x :: st) h Q := fun G p l e s m args below meth c H locs ls B hR hS hl => lv_icmp_le B.1 B.2.1 hd ht (fun z => kt z G p l e s m args below meth c H locs ls B hR hS hl) (fun z => kf z G p l e s m args below meth c H locs ls B hR hS hl)
theorem zo_goto {off : Int} {tgt : Nat} (hd : decode M.2.1 pc = .ok (.goto off, 3)) (ht : (pc : Int) + off = (tgt : Int)) (k : EvAt d M tgt lv st h Q) : EvAt d M pc lv st h Q := fun G p l e s m args below meth c H locs ls B hR hS hl => lv_goto B.1 B.2.1 hd ht (k G p l e s m args below meth c H locs ls B hR hS hl)
theorem zo_ifnull {o : Option (Nat × Nat)} {off : Int} {tgt : Nat} (hd : decode M.2.1 pc = .ok (.ifnull off, 3)) (ht : (pc : Int) + off = (tgt : Int)) (kt : o = none → EvAt d M tgt lv st h Q) (kf : ∀ q, o = some q → EvAt d M (pc + 3) lv st h Q) : EvAt d M pc lv (vQ o :: st) h Q := by
  intro G p l e s m args below meth c H locs ls B hR hS hl
  cases o with
  | none => exact lv_ifnullN B.1 B.2.1 hd ht (kt rfl G p l e s m args below meth c H locs ls B hR hS hl)
  | some q => exact lv_ifnull B.1 B.2.1 hd (kf q rfl G p l e s m args below meth c H locs ls B hR hS hl)
theorem zo_ifnonnull {o : Option (Nat × Nat)} {off : Int} {tgt : Nat} (hd : decode M.2.1 pc = .ok (.ifnonnull off, 3)) (ht : (pc : Int) + off = (tgt : Int)) (kt : ∀ q, o = some q → EvAt d M tgt lv st h Q) (kf : o = none → EvAt d M (pc + 3) lv st h Q) : EvAt d M pc lv (vQ o :: st) h Q := by
  intro G p l e s m args below meth c H locs ls B hR hS hl
  cases o with
  | none => exact lv_ifnonnullN B.1 B.2.1 hd (kf rfl G p l e s m args below meth c H locs ls B hR hS hl)
  | some q => exact lv_ifnonnull B.1 B.2.1 hd ht (kt q rfl G p l e s m args below meth c H locs ls B hR hS hl)
theorem zv_rf (G : ZG) (o : Option (Nat × Nat)) : zv G (vQ o) = va_rf (o.map (fun q => G.1 q.1 q.2)) := by
  cases o <;> rfl
theorem zv_inj {G : ZG} (hO : zOK G) {o1 o2 : Option (Nat × Nat)} (h1 : ∀ q, o1 = some q → q ∈ zall) (h2 : ∀ q, o2 = some q → q ∈ zall) : o1.map (fun q => G.1 q.1 q.2) = o2.map (fun q => G.1 q.1 q.2) ↔ o1 = o2 := by
  constructor
  · intro hh
    cases o1 with
    | none => cases o2 with
      | none => rfl
      | some b => cases hh
    | some a => cases o2 with
      | none => cases hh
      | some b =>
        obtain ⟨i, hi⟩ := List.getElem?_of_mem (h1 a rfl)
        obtain ⟨j, hj⟩ := List.getElem?_of_mem (h2 b rfl)
        have e := hO.1 i j a b hi hj (Option.some.inj hh)
        subst e
        rw [hi] at hj
        exact hj
  · intro hh; rw [hh]
theorem zo_acmp_eq {o1 o2 : Option (Nat × Nat)} {off : Int} {tgt : Nat} (h1 : ∀ q, o1 = some q → q ∈ zall) (h2 : ∀ q, o2 = some q → q ∈ zall) (hd : decode M.2.1 pc = .ok (.if_acmp .eq off, 3)) (ht : (pc : Int) + off = (tgt : Int)) (kt : o1 = o2 → EvAt d M tgt lv st h Q) (kf : ¬ o1 = o2 → EvAt d M (pc + 3) lv st h Q) : EvAt d M pc lv (vQ o2 :: vQ o1 :: st) h Q := by
  intro G p l e s m args below meth c H locs ls B hR hS hl
  show W p l e (rmD d) s m args below meth c H locs 0 0 _ (F0 m pc ls (zv G (vQ o2) :: zv G (vQ o1) :: st.map (zv G)))
  rw [zv_rf, zv_rf]
  exact lv_acmp_eq B.1 B.2.1 hd ht (fun z => kt ((zv_inj B.2.2.2.2.2.2.2.2.1 h1 h2).mp z) G p l e s m args below meth c H locs ls B hR hS hl) (fun z => kf (fun y => z ((zv_inj B.2.2.2.2.2.2.2.2.1 h1 h2).mpr y)) G p l e s m args below meth c H locs ls B hR hS hl)
theorem zo_acmp_ne {o1 o2 : Option (Nat × Nat)} {off : Int} {tgt : Nat} (h1 : ∀ q, o1 = some q → q ∈ zall) (h2 : ∀ q, o2 = some q → q ∈ zall) (hd : decode M.2.1 pc = .ok (.if_acmp .ne off, 3)) (ht : (pc : Int) + off = (tgt : Int)) (kt : ¬ o1 = o2 → EvAt d M tgt lv st h Q) (kf : o1 = o2 → EvAt d M (pc + 3) lv st h Q) : EvAt d M pc lv (vQ o2 :: vQ o1 :: st) h Q := by
  intro G p l e s m args below meth c H locs ls B hR hS hl
  show W p l e (rmD d) s m args below meth c H locs 0 0 _ (F0 m pc ls (zv G (vQ o2) :: zv G (vQ o1) :: st.map (zv G)))
  rw [zv_rf, zv_rf]
  exact lv_acmp_ne B.1 B.2.1 hd ht (fun z => kt (fun y => z ((zv_inj B.2.2.2.2.2.2.2.2.1 h1 h2).mpr y)) G p l e s m args below meth c H locs ls B hR hS hl) (fun z => kf ((zv_inj B.2.2.2.2.2.2.2.2.1 h1 h2).mp z) G p l e s m args below meth c H locs ls B hR hS hl)
theorem zo_table {dflt lo hi : Int} {offs : Array Int} {len : Nat} {x : Int32} (hd : decode M.2.1 pc = .ok (.tableswitch dflt lo hi offs, len)) {td : Nat} (hdf : (pc : Int) + dflt = (td : Int)) (f : Nat → Nat) (hf : ∀ i : Nat, i < (hi - lo + 1).toNat → ∃ off, offs[i]? = some off ∧ (pc : Int) + off = (f i : Int))
    (ko : x.toInt < lo ∨ hi < x.toInt → EvAt d M td lv st h Q) (ki : ∀ i : Nat, i < (hi - lo + 1).toNat → x.toInt = lo + i → EvAt d M (f i) lv st h Q) : EvAt d M pc lv (vI x :: st) h Q := by
  intro G p l e s m args below meth c H locs ls B hR hS hl
  by_cases h1 : x.toInt < lo
  · exact lv_tableOut B.1 B.2.1 hd (Or.inl h1) hdf (ko (Or.inl h1) G p l e s m args below meth c H locs ls B hR hS hl)
  · by_cases h2 : hi < x.toInt
    · exact lv_tableOut B.1 B.2.1 hd (Or.inr h2) hdf (ko (Or.inr h2) G p l e s m args below meth c H locs ls B hR hS hl)
    · obtain ⟨off, ho, ht⟩ := hf (x.toInt - lo).toNat (by omega)
      exact lv_tableIn B.1 B.2.1 hd h1 h2 ho ht (ki _ (by omega) (by omega) G p l e s m args below meth c H locs ls B hR hS hl)
theorem zo_lookup {dflt : Int} {ps : Array (Int × Int)} {len : Nat} {x : Int32} {off : Int} {tgt : Nat} (hd : decode M.2.1 pc = .ok (.lookupswitch dflt ps, len)) (hp : (ps.toList.zip (ps.toList.drop 1)).all (fun (a, next) => a.1 < next.1) = true) (ho : Op.lookupswitch.offset ps.toList dflt x.toInt = off) (ht : (pc : Int) + off = (tgt : Int)) (k : EvAt d M tgt lv st h Q) : EvAt d M pc lv (vI x :: st) h Q := fun G p l e s m args below meth c H locs ls B hR hS hl => lv_lookup B.1 B.2.1 hd hp ho ht (k G p l e s m args below meth c H locs ls B hR hS hl)
theorem zo_iret {x : Int32} (hr : M.2.2.2 = some .int) (hd : decode M.2.1 pc = .ok (.ireturn, 1)) (hq : Q (some (vI x)) h) : EvAt d M pc lv (vI x :: []) h Q := fun G p l e s m args below meth c H locs ls B hR hS hl => W.iret B.1 B.2.1 (B.2.2.1.trans hr) (fun t ht hW => ⟨_, h, rfl, hq, by rw [ht]; exact hR, hS.F ht⟩) hS.2.2 hd (hlocks := B.2.2.2.2.2.2.1)
theorem zo_zret {x : Int32} {ty : FieldType} (hr : M.2.2.2 = some ty) (hn : narrow ty (.int x) = .int x) (hd : decode M.2.1 pc = .ok (.ireturn, 1)) (hq : Q (some (vI x)) h) : EvAt d M pc lv (vI x :: []) h Q := fun G p l e s m args below meth c H locs ls B hR hS hl => W.zret B.1 B.2.1 (B.2.2.1.trans hr) hn (fun t ht hW => ⟨_, h, rfl, hq, by rw [ht]; exact hR, hS.F ht⟩) hS.2.2 hd (hlocks := B.2.2.2.2.2.2.1)
theorem zo_vret (hr : M.2.2.2 = none) (hd : decode M.2.1 pc = .ok (.return_, 1)) (hq : Q (none) h) : EvAt d M pc lv [] h Q := fun G p l e s m args below meth c H locs ls B hR hS hl => W.vret B.1 B.2.1 (B.2.2.1.trans hr) (fun t ht hW => ⟨_, h, rfl, hq, by rw [ht]; exact hR, hS.F ht⟩) hS.2.2 hd (hlocks := B.2.2.2.2.2.2.1)
theorem zo_aret {o : Option (Nat × Nat)} {rt : FieldType} (hr : M.2.2.2 = some rt) (hrt : (∃ n, rt = .object n) ∨ ∃ t, rt = .array t) (hd : decode M.2.1 pc = .ok (.areturn, 1)) (hq : Q (some (vQ o)) h) : EvAt d M pc lv (vQ o :: []) h Q := by
  intro G p l e s m args below meth c H locs ls B hR hS hl
  refine W.aret B.1 B.2.1 (B.2.2.1.trans hr) hrt ?_ (fun t ht hW => ⟨_, h, rfl, hq, by rw [ht]; exact hR, hS.F ht⟩) hS.2.2 hd (hlocks := B.2.2.2.2.2.2.1)
  cases o with
  | none => exact Or.inl rfl
  | some q => exact Or.inr ⟨_, rfl⟩
theorem zo_get {k i j idx ci N : Nat} {C : String} {T : u_T} (hk : (k, i) ∈ zall) (ho : zobj k = some (ci, N)) (hc : vwCl[ci]? = some (C, T, N)) (hin : ∀ w ∈ u_ws C T N, w ∈ WS) (hj : j < N) (hlk : Cond.fieldLink M.1.cls idx (T j).1 (T j).2.1 (T j).2.2.1 ∈ WS) {v : ZV} (hv : ∀ G, zfld G h k i j = zv G v) (hd : decode M.2.1 pc = .ok (.getfield idx, 3)) (kk : EvAt d M (pc + 3) lv (v :: st) h Q) : EvAt d M pc lv (vQ (some (k, i)) :: st) h Q := by
  intro G p l e s m args below meth c H locs ls B hR hS hl
  obtain ⟨q0, e1, -⟩ := zpos B.2.2.2.2.2.2.2.2.1 hk
  have he := e1 h
  unfold zE at he
  rw [ho] at he
  exact va_get B.1 B.2.1 (Ts := WS) (fun w hw => zX_hts B hw) hin B.2.2.2.2.2.1 B.2.2.2.2.2.2.2.1 hR q0 he hc j hj (zX_hts B hlk) (fun _ z => z) (v := zv G v) (by rw [List.getElem?_map, List.getElem?_range hj]; exact congrArg some (hv G)) hd (kk G p l e s m args below meth c H locs ls B hR hS hl)
theorem zmap_set {α : Type} (N j : Nat) (f g : Nat → α) (v : α) (h1 : g j = v) (h2 : ∀ a, a ≠ j → g a = f a) : (List.range N).map g = ((List.range N).map f).set j v := by
  apply List.ext_getElem?
  intro a
  rw [List.getElem?_map]
  by_cases hl : a < N
  · rw [List.getElem?_range hl]
    by_cases e : a = j
    · subst e
      rw [List.getElem?_set_self (by simpa using hl)]
      show some (g a) = some v
      rw [h1]
    · rw [List.getElem?_set_ne (Ne.symm e), List.getElem?_map, List.getElem?_range hl]
      show some (g a) = some (f a)
      rw [h2 a e]
  · rw [List.getElem?_eq_none (by simpa using hl), List.getElem?_eq_none (by simpa using hl)]
    rfl
theorem zw_1 (h : ZH) (k i j : Nat) (x : Int32) (a : Nat) : (zw h k i j x).1 k i a = if a = j then x else h.1 k i a := by
  show (if k = k ∧ i = i ∧ a = j then x else _) = _
  simp
theorem zwr_2 (h : ZH) (k i j : Nat) (x : Option Nat) (a : Nat) : (zwr h k i j x).2 k i a = if a = j then x else h.2 k i a := by
  show (if k = k ∧ i = i ∧ a = j then x else _) = _
  simp
theorem zE_put {G : ZG} {h : ZH} {k i j ci N : Nat} {x : Int32} (ho : zobj k = some (ci, N)) (hft : zft k j = 0) : zE G (zw h k i j x) k i = .inr (ci, ((List.range N).map (zfld G h k i)).set j (.int x)) := by
  unfold zE
  rw [ho]
  refine congrArg Sum.inr (congrArg (Prod.mk ci) (zmap_set N j _ _ _ ?_ (fun a e => ?_)))
  · unfold zfld
    rw [hft, zw_1, if_pos rfl]
    rfl
  · unfold zfld
    rw [zw_1, if_neg e]
    rfl
theorem zE_putR {G : ZG} {h : ZH} {k i j ci N : Nat} {q : Nat} (ho : zobj k = some (ci, N)) (hft : zft k j = 2) : zE G (zwr h k i j (some q)) k i = .inr (ci, ((List.range N).map (zfld G h k i)).set j (.ref (G.1 (ztk k j) q))) := by
  unfold zE
  rw [ho]
  refine congrArg Sum.inr (congrArg (Prod.mk ci) (zmap_set N j _ _ _ ?_ (fun a e => ?_)))
  · unfold zfld
    rw [hft, zwr_2, if_pos rfl]
    rfl
  · unfold zfld
    rw [zwr_2, if_neg e]
    rfl
theorem zo_putI {k i j idx ci N : Nat} {C : String} {T : u_T} {ty0 : Nat → FieldType} {ty : FieldType} {x : Int32} (hk : (k, i) ∈ zall) (ho : zobj k = some (ci, N)) (hc : vwCl[ci]? = some (C, T, N)) (hin : ∀ w ∈ u_ws C T N, w ∈ WS) (hty : ∀ k, k < N → parseFieldDescriptor (T k).2.2.1 = some (ty0 k)) (hnm : ∀ a, a < N → ∀ b, b < N → a ≠ b → (T a).2.1 ≠ (T b).2.1) (hj : j < N) (hlk : Cond.fieldLink M.1.cls idx (T j).1 (T j).2.1 (T j).2.2.1 ∈ WS) (hft : zft k j = 0) (hfin : (T j).2.2.2 = false) (htj : ty0 j = ty) (hn : narrow ty (.int x) = .int x) (hfit : fits ty (.int x) = true) (hd : decode M.2.1 pc = .ok (.putfield idx, 3)) (kk : EvAt d M (pc + 3) lv st (zw h k i j x) Q) : EvAt d M pc lv (vI x :: vQ (some (k, i)) :: st) h Q := by
  intro G p l e s m args below meth c H locs ls B hR hS hl
  obtain ⟨q0, e1, e2⟩ := zpos B.2.2.2.2.2.2.2.2.1 hk
  have he := e1 h
  have hset := e2 h (zw h k i j x) (zw_off h k i j x)
  rw [zE_put ho hft] at hset
  unfold zE at he
  rw [ho] at he
  refine va_put B.1 B.2.1 (Ts := WS) (fun w hw => zX_hts B hw) hin ty0 hty hnm B.2.2.2.2.2.1 B.2.2.2.2.2.2.2.1 hR (zD h B.2.2.2.2.2.2.2.2.1) hS q0 he hc j hj (zX_hts B hlk) (fun _ z => z) hfin (ty := ty) (v := .int x) (by rw [← htj]; exact hty j hj) hn hfit (by simpa using hj) hd (fun H1 locs1 hP1 hD1 hS1 => ?_)
  rw [hset] at hP1
  exact kk G p l e s m args below meth c H1 locs1 ls B hP1 hS1 hl
theorem zo_putR {k i j idx ci N q : Nat} {C : String} {T : u_T} {ty0 : Nat → FieldType} {ty : FieldType} (hk : (k, i) ∈ zall) (ho : zobj k = some (ci, N)) (hc : vwCl[ci]? = some (C, T, N)) (hin : ∀ w ∈ u_ws C T N, w ∈ WS) (hty : ∀ k, k < N → parseFieldDescriptor (T k).2.2.1 = some (ty0 k)) (hnm : ∀ a, a < N → ∀ b, b < N → a ≠ b → (T a).2.1 ≠ (T b).2.1) (hj : j < N) (hlk : Cond.fieldLink M.1.cls idx (T j).1 (T j).2.1 (T j).2.2.1 ∈ WS) (hft : zft k j = 2) (hfin : (T j).2.2.2 = false) (htj : ty0 j = ty) (hn : ∀ a, narrow ty (.ref a) = .ref a) (hfit : ∀ a, fits ty (.ref a) = true) (hd : decode M.2.1 pc = .ok (.putfield idx, 3)) (kk : EvAt d M (pc + 3) lv st (zwr h k i j (some q)) Q) : EvAt d M pc lv (vQ (some (ztk k j, q)) :: vQ (some (k, i)) :: st) h Q := by
  intro G p l e s m args below meth c H locs ls B hR hS hl
  obtain ⟨q0, e1, e2⟩ := zpos B.2.2.2.2.2.2.2.2.1 hk
  have he := e1 h
  have hset := e2 h (zwr h k i j (some q)) (zwr_off h k i j (some q))
  rw [zE_putR ho hft] at hset
  unfold zE at he
  rw [ho] at he
  refine va_put B.1 B.2.1 (Ts := WS) (fun w hw => zX_hts B hw) hin ty0 hty hnm B.2.2.2.2.2.1 B.2.2.2.2.2.2.2.1 hR (zD h B.2.2.2.2.2.2.2.2.1) hS q0 he hc j hj (zX_hts B hlk) (fun _ z => z) hfin (ty := ty) (v := .ref (G.1 (ztk k j) q)) (by rw [← htj]; exact hty j hj) (hn _) (hfit _) (by simpa using hj) hd (fun H1 locs1 hP1 hD1 hS1 => ?_)
  rw [hset] at hP1
  exact kk G p l e s m args below meth c H1 locs1 ls B hP1 hS1 hl
theorem ztys_at (G : ZG) {t : Nat} {ty : FieldType} (h : zarrT[t]? = some ty) : (ztys G)[t]? = some (G.2.2.1 t, ty) := by
  unfold ztys
  rw [List.getElem?_map, List.getElem?_zipIdx, h]
  simp
theorem zE_arr {G : ZG} {h : ZH} {k i : Nat} (ho : zobj k = none) (hra : zra k = 0) : zE G h k i = .inl (G.2.2.1 (zarr k), zLen k i, .inl (fun j => h.1 k i j)) := by
  unfold zE
  rw [ho, hra]
  rfl
theorem zE_arrQ {G : ZG} {h : ZH} {k i n : Nat} (ho : zobj k = none) (hra : zra k = n + 1) : zE G h k i = .inl (G.2.2.1 (zarr k), zLen k i, .inr (.inr (.inr (.inr (zav G h k i))))) := by
  unfold zE
  rw [ho, hra]
  rfl
theorem zE_ast {G : ZG} {h : ZH} {k i n : Nat} {x : Int32} (ho : zobj k = none) (hra : zra k = 0) : zE G (zw h k i n x) k i = .inl (G.2.2.1 (zarr k), zLen k i, .inl (upd (fun j => h.1 k i j) n x)) := by
  rw [zE_arr ho hra]
  refine congrArg Sum.inl (congrArg (Prod.mk _) (congrArg (Prod.mk _) (congrArg Sum.inl ?_)))
  funext a
  rw [zw_1]
  rfl
theorem zo_iald {k i : Nat} {x : Int32} (hk : (k, i) ∈ zall) (ho : zobj k = none) (hra : zra k = 0) (hat : zarrT[zarr k]? = some .int) (hin : vp_in x (zLen k i)) (hd : decode M.2.1 pc = .ok (.iaload, 1)) (kk : EvAt d M (pc + 1) lv (vI (zi h k i x.toNatClampNeg) :: st) h Q) : EvAt d M pc lv (vI x :: vQ (some (k, i)) :: st) h Q := by
  intro G p l e s m args below meth c H locs ls B hR hS hl
  obtain ⟨q0, e1, -⟩ := zpos B.2.2.2.2.2.2.2.2.1 hk
  have he := e1 h
  rw [zE_arr ho hra] at he
  exact va_iald B.1 B.2.1 B.2.2.2.2.2.2.2.1 hR q0 _ he (ztys_at G hat) hin hd (kk G p l e s m args below meth c H locs ls B hR hS hl)
theorem zo_cald {k i : Nat} {x : Int32} (hk : (k, i) ∈ zall) (ho : zobj k = none) (hra : zra k = 0) (hat : zarrT[zarr k]? = some .char) (hin : vp_in x (zLen k i)) (hd : decode M.2.1 pc = .ok (.caload, 1)) (kk : EvAt d M (pc + 1) lv (vI (zi h k i x.toNatClampNeg) :: st) h Q) : EvAt d M pc lv (vI x :: vQ (some (k, i)) :: st) h Q := by
  intro G p l e s m args below meth c H locs ls B hR hS hl
  obtain ⟨q0, e1, -⟩ := zpos B.2.2.2.2.2.2.2.2.1 hk
  have he := e1 h
  rw [zE_arr ho hra] at he
  exact va_cald B.1 B.2.1 B.2.2.2.2.2.2.2.1 hR q0 _ he (ztys_at G hat) hin hd (kk G p l e s m args below meth c H locs ls B hR hS hl)
theorem zo_zald {k i : Nat} {x : Int32} (hk : (k, i) ∈ zall) (ho : zobj k = none) (hra : zra k = 0) (hat : zarrT[zarr k]? = some .boolean) (hin : vp_in x (zLen k i)) (hd : decode M.2.1 pc = .ok (.baload, 1)) (kk : EvAt d M (pc + 1) lv (vI (zi h k i x.toNatClampNeg) :: st) h Q) : EvAt d M pc lv (vI x :: vQ (some (k, i)) :: st) h Q := by
  intro G p l e s m args below meth c H locs ls B hR hS hl
  obtain ⟨q0, e1, -⟩ := zpos B.2.2.2.2.2.2.2.2.1 hk
  have he := e1 h
  rw [zE_arr ho hra] at he
  exact va_zald B.1 B.2.1 B.2.2.2.2.2.2.2.1 hR q0 _ he (ztys_at G hat) hin hd (kk G p l e s m args below meth c H locs ls B hR hS hl)
theorem zo_iast {k i : Nat} {y x : Int32} (hk : (k, i) ∈ zall) (ho : zobj k = none) (hra : zra k = 0) (hat : zarrT[zarr k]? = some .int) (hin : vp_in y (zLen k i)) (hd : decode M.2.1 pc = .ok (.iastore, 1)) (kk : EvAt d M (pc + 1) lv st (zw h k i y.toNatClampNeg x) Q) : EvAt d M pc lv (vI x :: vI y :: vQ (some (k, i)) :: st) h Q := by
  intro G p l e s m args below meth c H locs ls B hR hS hl
  obtain ⟨q0, e1, e2⟩ := zpos B.2.2.2.2.2.2.2.2.1 hk
  have he := e1 h
  have hset := e2 h (zw h k i y.toNatClampNeg x) (zw_off h k i y.toNatClampNeg x)
  rw [zE_ast ho hra] at hset
  rw [zE_arr ho hra] at he
  refine va_iast B.1 B.2.1 B.2.2.2.2.2.2.2.1 hR (zD h B.2.2.2.2.2.2.2.2.1) hS q0 _ he (ztys_at G hat) hin hd (fun H1 locs1 hP1 hD1 hS1 => ?_)
  rw [hset] at hP1
  exact kk G p l e s m args below meth c H1 locs1 ls B hP1 hS1 hl
theorem zo_cast {k i : Nat} {y x : Int32} (hk : (k, i) ∈ zall) (ho : zobj k = none) (hra : zra k = 0) (hat : zarrT[zarr k]? = some .char) (hin : vp_in y (zLen k i)) (hd : decode M.2.1 pc = .ok (.castore, 1)) (kk : EvAt d M (pc + 1) lv st (zw h k i y.toNatClampNeg (vp_nar .char x)) Q) : EvAt d M pc lv (vI x :: vI y :: vQ (some (k, i)) :: st) h Q := by
  intro G p l e s m args below meth c H locs ls B hR hS hl
  obtain ⟨q0, e1, e2⟩ := zpos B.2.2.2.2.2.2.2.2.1 hk
  have he := e1 h
  have hset := e2 h (zw h k i y.toNatClampNeg (vp_nar .char x)) (zw_off h k i y.toNatClampNeg (vp_nar .char x))
  rw [zE_ast ho hra] at hset
  rw [zE_arr ho hra] at he
  refine va_cast B.1 B.2.1 B.2.2.2.2.2.2.2.1 hR (zD h B.2.2.2.2.2.2.2.2.1) hS q0 _ he (ztys_at G hat) hin hd (fun H1 locs1 hP1 hD1 hS1 => ?_)
  rw [hset] at hP1
  exact kk G p l e s m args below meth c H1 locs1 ls B hP1 hS1 hl
theorem zo_zast {k i : Nat} {y x : Int32} (hk : (k, i) ∈ zall) (ho : zobj k = none) (hra : zra k = 0) (hat : zarrT[zarr k]? = some .boolean) (hin : vp_in y (zLen k i)) (hd : decode M.2.1 pc = .ok (.bastore, 1)) (kk : EvAt d M (pc + 1) lv st (zw h k i y.toNatClampNeg (vp_nar .boolean x)) Q) : EvAt d M pc lv (vI x :: vI y :: vQ (some (k, i)) :: st) h Q := by
  intro G p l e s m args below meth c H locs ls B hR hS hl
  obtain ⟨q0, e1, e2⟩ := zpos B.2.2.2.2.2.2.2.2.1 hk
  have he := e1 h
  have hset := e2 h (zw h k i y.toNatClampNeg (vp_nar .boolean x)) (zw_off h k i y.toNatClampNeg (vp_nar .boolean x))
  rw [zE_ast ho hra] at hset
  rw [zE_arr ho hra] at he
  refine va_zast B.1 B.2.1 B.2.2.2.2.2.2.2.1 hR (zD h B.2.2.2.2.2.2.2.2.1) hS q0 _ he (ztys_at G hat) hin hd (fun H1 locs1 hP1 hD1 hS1 => ?_)
  rw [hset] at hP1
  exact kk G p l e s m args below meth c H1 locs1 ls B hP1 hS1 hl
theorem zo_alen {k i : Nat} {ty : FieldType} (hk : (k, i) ∈ zall) (ho : zobj k = none) (hat : zarrT[zarr k]? = some ty) (hd : decode M.2.1 pc = .ok (.arraylength, 1)) (kk : EvAt d M (pc + 1) lv (vI (nI (zLen k i)) :: st) h Q) : EvAt d M pc lv (vQ (some (k, i)) :: st) h Q := by
  intro G p l e s m args below meth c H locs ls B hR hS hl
  obtain ⟨q0, e1, -⟩ := zpos B.2.2.2.2.2.2.2.2.1 hk
  have he := e1 h
  unfold zE at he
  rw [ho] at he
  exact va_alen B.1 B.2.1 B.2.2.2.2.2.2.2.1 hR q0 _ he (ztys_at G hat) rfl hd (kk G p l e s m args below meth c H locs ls B hR hS hl)
theorem zo_aald1 {k i : Nat} {C : String} {x : Int32} (hk : (k, i) ∈ zall) (ho : zobj k = none) (hra : zra k = 1) (hat : zarrT[zarr k]? = some (.object C)) (hin : vp_in x (zLen k i)) (hd : decode M.2.1 pc = .ok (.aaload, 1)) (kk : EvAt d M (pc + 1) lv (vQ (some (zrf k i x.toNatClampNeg)) :: st) h Q) : EvAt d M pc lv (vI x :: vQ (some (k, i)) :: st) h Q := by
  intro G p l e s m args below meth c H locs ls B hR hS hl
  obtain ⟨q0, e1, -⟩ := zpos B.2.2.2.2.2.2.2.2.1 hk
  have he := e1 h
  rw [zE_arrQ ho hra] at he
  refine va_aldq B.1 B.2.1 B.2.2.2.2.2.2.2.1 hR q0 _ he (ztys_at G hat) hin hd ?_
  unfold zav
  rw [hra]
  exact kk G p l e s m args below meth c H locs ls B hR hS hl
theorem zo_aald2 {k i q : Nat} {C : String} {x : Int32} (hk : (k, i) ∈ zall) (ho : zobj k = none) (hra : zra k = 2) (hat : zarrT[zarr k]? = some (.object C)) (hin : vp_in x (zLen k i)) (hq : zr h k i x.toNatClampNeg = some q) (hd : decode M.2.1 pc = .ok (.aaload, 1)) (kk : EvAt d M (pc + 1) lv (vQ (some (ztk k 0, q)) :: st) h Q) : EvAt d M pc lv (vI x :: vQ (some (k, i)) :: st) h Q := by
  intro G p l e s m args below meth c H locs ls B hR hS hl
  obtain ⟨q0, e1, -⟩ := zpos B.2.2.2.2.2.2.2.2.1 hk
  have he := e1 h
  rw [zE_arrQ ho hra] at he
  refine va_aldq B.1 B.2.1 B.2.2.2.2.2.2.2.1 hR q0 _ he (ztys_at G hat) hin hd ?_
  unfold zav
  rw [hra]
  unfold zr at hq
  rw [hq]
  exact kk G p l e s m args below meth c H locs ls B hR hS hl
theorem zo_aast {k i q ci N : Nat} {r : vw_C} {y : Int32} (hk : (k, i) ∈ zall) (hkq : (ztk k 0, q) ∈ zall) (ho : zobj k = none) (hra : zra k = 2) (hoq : zobj (ztk k 0) = some (ci, N)) (hc : vwCl[ci]? = some r) (hat : zarrT[zarr k]? = some (.object r.1)) (hin : vp_in y (zLen k i)) (hd : decode M.2.1 pc = .ok (.aastore, 1)) (kk : EvAt d M (pc + 1) lv st (zwr h k i y.toNatClampNeg (some q)) Q) : EvAt d M pc lv (vQ (some (ztk k 0, q)) :: vI y :: vQ (some (k, i)) :: st) h Q := by
  intro G p l e s m args below meth c H locs ls B hR hS hl
  obtain ⟨q0, e1, e2⟩ := zpos B.2.2.2.2.2.2.2.2.1 hk
  obtain ⟨q1, f1, -⟩ := zpos B.2.2.2.2.2.2.2.2.1 hkq
  have he := e1 h
  have hf := f1 h
  have hset := e2 h (zwr h k i y.toNatClampNeg (some q)) (zwr_off h k i y.toNatClampNeg (some q))
  have hE : zE G (zwr h k i y.toNatClampNeg (some q)) k i = .inl (G.2.2.1 (zarr k), zLen k i, .inr (.inr (.inr (.inr (va_up (zav G h k i) y.toNatClampNeg (some (G.1 (ztk k 0) q))))))) := by
    rw [zE_arrQ ho hra]
    refine congrArg Sum.inl (congrArg (Prod.mk _) (congrArg (Prod.mk _) (congrArg (fun z => Sum.inr (Sum.inr (Sum.inr (Sum.inr z)))) ?_)))
    funext a
    unfold zav va_up
    rw [hra, zwr_2]
    by_cases e : a = y.toNatClampNeg
    · rw [if_pos e, if_pos e]; rfl
    · rw [if_neg e, if_neg e]
  rw [hE] at hset
  rw [zE_arrQ ho hra] at he
  unfold zE at hf
  rw [hoq] at hf
  refine va_astq B.1 B.2.1 B.2.2.2.2.2.2.2.1 hR (zD h B.2.2.2.2.2.2.2.2.1) hS q0 _ q1 ci he (ztys_at G hat) hf hc hin hd (fun H1 locs1 hP1 hD1 hS1 => ?_)
  rw [hset] at hP1
  exact kk G p l e s m args below meth c H1 locs1 ls B hP1 hS1 hl
theorem zS_call {G : ZG} {H0 H H1 : Heap} {locs L : List Loc} {st0 t : State} (hS : va_S (zA G) H0 H locs) (h0 : st0.heap = H) (e1 : H1 = t.heap) (hF : va_F (zA G) st0 t) (hL : ∀ q ∈ L, zA G q.base) : va_S (zA G) H0 H1 (locs ++ L) := by
  obtain ⟨f1, f2⟩ := hF
  rw [h0] at f1 f2
  refine ⟨by rw [e1]; exact Nat.le_trans hS.1 f1, fun q h1 h2 => ?_, fun q hq => ?_⟩
  · rw [e1, f2 q (Nat.lt_of_lt_of_le h1 hS.1) h2]
    exact hS.2.1 q h1 h2
  · rcases List.mem_append.mp hq with z | z
    · exact hS.2.2 q z
    · exact hL q z
def zCv (N : ZM) (C : String) (n : Nat) : Prop := Cond.code N.1 N.2.1 N.2.2.1 N.2.2.2 ∈ WS ∧ Cond.instanceMethod N.1 ∈ WS ∧ Cond.selects C N.1 N.1 ∈ WS ∧ Cond.initialized C ∈ WS ∧ (N.1.cls = C ∧ N.1.cls ≠ "java/lang/invoke/MethodHandle" ∧ N.1.cls ≠ "java/lang/invoke/VarHandle" ∧ (parseMethodDescriptor N.1.desc).map (fun d => d.parameters.length) = some n) ∧ N.2.2.1 ≤ 41
def zCs (N : ZM) (n : Nat) : Prop := Cond.code N.1 N.2.1 N.2.2.1 N.2.2.2 ∈ WS ∧ Cond.static N.1 ∈ WS ∧ Cond.initialized N.1.cls ∈ WS ∧ (N.1.cls ≠ "java/lang/invoke/MethodHandle" ∧ N.1.cls ≠ "java/lang/invoke/VarHandle" ∧ (parseMethodDescriptor N.1.desc).map (fun d => d.parameters.length) = some n) ∧ N.2.2.1 ≤ 41
theorem zgoodIn (M N : ZM) (hN : Cond.code N.1 N.2.1 N.2.2.1 N.2.2.2 ∈ WS) : GoodIn (zwsM M) (zwsM N) := by
  intro w hw
  rcases List.mem_cons.mp hw with rfl | hw
  · exact ⟨List.mem_cons_of_mem _ hN, Or.inl rfl⟩
  · exact ⟨List.mem_cons_of_mem _ hw, zgood w hw⟩
theorem zgoodIn2 {M N : ZM} {a : List Cond} (hN : Cond.code N.1 N.2.1 N.2.2.1 N.2.2.2 ∈ WS) (ha : ∀ w ∈ a, w ∈ WS) : GoodIn (zwsM M) (a ++ zwsM N) := by
  intro w hw
  rcases List.mem_append.mp hw with hw | hw
  · exact ⟨List.mem_cons_of_mem _ (ha w hw), zgood w (ha w hw)⟩
  · exact zgoodIn M N hN w hw
theorem zSum (G : ZG) : ∀ st : List ZV, ((st.map (zv G)).map fun v => v.category) = st.map zcat := by
  intro st
  rw [List.map_map]
  exact List.map_congr_left (fun v _ => zcat_zv G v)
theorem zo_callV {N : ZM} {Q0 : Option ZV → ZH → Prop} {as stk : List ZV} {k i idx ci Nf n : Nat} {C : String} {T : u_T} (hk : (k, i) ∈ zall) (ho : zobj k = some (ci, Nf)) (hc : vwCl[ci]? = some (C, T, Nf)) (hv : zCv N C n) (hlk : Cond.methodLink M.1.cls idx N.1 ∈ WS)
    (hn : as.length = n) (hst : stk = as.reverse ++ vQ (some (k, i)) :: st) (hcat : (st.map zcat).sum ≤ 8)
    (hd : decode M.2.1 pc = .ok (.invokevirtual idx, 3)) (kk : EvCall d N (vQ (some (k, i)) :: as) h Q0) (hq0 : ∀ r h', Q0 r h' → EvAt (d + 1) M (pc + 3) lv (r.toList ++ st) h' Q) : EvAt (d + 1) M pc lv stk h Q := by
  intro G p l e s m args below meth c H locs ls B hR hS hl
  obtain ⟨q0, e1, -⟩ := zpos B.2.2.2.2.2.2.2.2.1 hk
  have he := e1 h
  unfold zE at he
  rw [ho] at he
  obtain ⟨hN, hw2, hw3, hw4, hds, hnl⟩ := hv
  have hw : ∀ w ∈ ([.methodLink M.1.cls idx N.1, .instanceMethod N.1, .selects C N.1 N.1, .initialized C] : List Cond), w ∈ WS := by
    intro w hw
    simp only [List.mem_cons, List.not_mem_nil, or_false] at hw
    rcases hw with rfl | rfl | rfl | rfl
    · exact hlk
    · exact hw2
    · exact hw3
    · exact hw4
  have cw : CallW (rmD (d + 1)) s args M.1.cls C idx N.1 N.2.1 N.2.2.1 N.2.2.2 (zwsM N) (rmD d) 0 0 n := cwV n (Ts := zwsM M) B.2.2.2.2.1 (zgoodIn2 hN hw) rfl rfl rfl hds ⟨Nat.le_refl _, by show 8 + (N.2.2.1 + 11) + 60 * d ≤ 60 * (d + 1); omega⟩
  have hrun := va_runV (p := p) (e := e) (below := below) (meth := meth) (locs := locs) (cells := 0) (slots := 0) (b := G.1 k i) (As := as.map (zv G)) (rest := st.map (zv G)) (g := F0 m pc ls (stk.map (zv G))) ⟨B.1, B.2.1, B.2.2.2.1, B.2.2.2.2.2.1, B.2.2.2.2.1⟩ (kk l G B.2.2.2.2.2.2.2.2.1) cw ⟨zPc_blind G _ h, va_recv B.2.2.2.2.2.2.2.1 hR hc he, fun U hU hW => zPc_of (as := vQ (some (k, i)) :: as) hU hW hR B.2.2.2.2.2.2.2.1 B.2.2.2.2.2.2.2.2.2 hS⟩ rfl (by simpa using hn) hl.1 (by rw [hst]; simp; rfl) (lv_room (by rw [zSum]; exact hcat)) hd ⟨Nat.le_refl _, Nat.le_refl _⟩
  intro T hT X
  obtain ⟨v, st₀, t, T', L, h0, X', hL, e1, e2, ⟨r, h', ho, hQ, hrep, hF⟩, stp⟩ := hrun T hT X
  cases ho
  obtain ⟨t2, a1, b1⟩ := hq0 r h' hQ G p l e s m args below meth c T'.heap (locs ++ L) ls B (by rw [e1]; exact hrep) (zS_call hS h0 e1 hF hL) hl T' rfl X'
  refine ⟨t2, stp t2 ?_, b1⟩
  have hfr : (F0 m (pc + 3) ls ((r.toList ++ st).map (zv G))) = { F0 m pc ls (stk.map (zv G)) with pc := (F0 m pc ls (stk.map (zv G))).pc + 3, stack := (r.map (zv G)).toList ++ st.map (zv G) } := by
    cases r <;> simp
  rw [← hfr]
  exact a1
theorem zo_callS {N : ZM} {Q0 : Option ZV → ZH → Prop} {as stk : List ZV} {idx n : Nat} (hv : zCs N n) (hlk : Cond.methodLink M.1.cls idx N.1 ∈ WS)
    (hn : as.length = n) (hst : stk = as.reverse ++ st) (hcat : (st.map zcat).sum ≤ 8)
    (hd : decode M.2.1 pc = .ok (.invokestatic idx, 3)) (kk : EvCall d N as h Q0) (hq0 : ∀ r h', Q0 r h' → EvAt (d + 1) M (pc + 3) lv (r.toList ++ st) h' Q) : EvAt (d + 1) M pc lv stk h Q := by
  intro G p l e s m args below meth c H locs ls B hR hS hl
  obtain ⟨hN, hw2, hw3, hds, hnl⟩ := hv
  have hmem : ∀ w ∈ zwsM N, ∀ (a' : Array Value) (U : State), s.WarmedH U.vm → w.before a' U = true := fun w hw' a' U hW => by
    obtain ⟨g1, g2⟩ := zgoodIn M N hN w hw'
    exact word_at hW g2 (B.2.2.2.2.1 w g1)
  have cw : CallB (rmD (d + 1)) s args M.1.cls idx N.1 N.2.1 N.2.2.1 N.2.2.2 (zwsM N) (rmD d) 0 0 n ∧ (Cond.static N.1).before args s = true := ⟨⟨rfl, rfl, Nat.le_refl _, by show 8 + (N.2.2.1 + 11) + 60 * d ≤ 60 * (d + 1); omega, hmem, List.mem_cons_self, zX_hts B hN, zX_hts B hw3, ⟨hds.1, hds.2.1⟩, fun sig hs => by
      have h3 := hds.2.2
      rw [hs] at h3
      exact (Option.some.inj h3).symm, zX_hts B hlk⟩, zX_hts B hw2⟩
  have hrun := va_runS (p := p) (e := e) (below := below) (meth := meth) (locs := locs) (cells := 0) (slots := 0) (As := as.map (zv G)) (rest := st.map (zv G)) (g := F0 m pc ls (stk.map (zv G))) ⟨B.1, B.2.1, B.2.2.2.1, B.2.2.2.2.2.1, B.2.2.2.2.1⟩ (kk l G B.2.2.2.2.2.2.2.2.1) cw ⟨zPc_blind G _ h, fun U hU hW => zPc_of (as := as) hU hW hR B.2.2.2.2.2.2.2.1 B.2.2.2.2.2.2.2.2.2 hS⟩ rfl (by simpa using hn) hl.1 (by rw [hst]; simp) (lv_room (by rw [zSum]; exact hcat)) hd ⟨Nat.le_refl _, Nat.le_refl _⟩
  intro T hT X
  obtain ⟨v, st₀, t, T', L, h0, X', hL, e1, e2, ⟨r, h', ho, hQ, hrep, hF⟩, stp⟩ := hrun T hT X
  cases ho
  obtain ⟨t2, a1, b1⟩ := hq0 r h' hQ G p l e s m args below meth c T'.heap (locs ++ L) ls B (by rw [e1]; exact hrep) (zS_call hS h0 e1 hF hL) hl T' rfl X'
  refine ⟨t2, stp t2 ?_, b1⟩
  have hfr : (F0 m (pc + 3) ls ((r.toList ++ st).map (zv G))) = { F0 m pc ls (stk.map (zv G)) with pc := (F0 m pc ls (stk.map (zv G))).pc + 3, stack := (r.map (zv G)).toList ++ st.map (zv G) } := by
    cases r <;> simp
  rw [← hfr]
  exact a1
theorem zo_callK {N : ZM} {Q0 : Option ZV → ZH → Prop} {as stk : List ZV} {k i idx n : Nat} {C : String} (hrc : ∀ (G : ZG) (s : State) (H : Heap) (locs : List Loc), zConst G s s.heap → va_S (zA G) s.heap H locs → ∃ cell : Cell, H[G.1 k i]? = some cell ∧ cell.vm.isStatics = false ∧ s.vm.findClass C = some cell.cls) (hv : zCv N C n) (hlk : Cond.methodLink M.1.cls idx N.1 ∈ WS)
    (hn : as.length = n) (hst : stk = as.reverse ++ vQ (some (k, i)) :: st) (hcat : (st.map zcat).sum ≤ 8)
    (hd : decode M.2.1 pc = .ok (.invokevirtual idx, 3)) (kk : EvCall d N (vQ (some (k, i)) :: as) h Q0) (hq0 : ∀ r h', Q0 r h' → EvAt (d + 1) M (pc + 3) lv (r.toList ++ st) h' Q) : EvAt (d + 1) M pc lv stk h Q := by
  intro G p l e s m args below meth c H locs ls B hR hS hl
  obtain ⟨hN, hw2, hw3, hw4, hds, hnl⟩ := hv
  have hw : ∀ w ∈ ([.methodLink M.1.cls idx N.1, .instanceMethod N.1, .selects C N.1 N.1, .initialized C] : List Cond), w ∈ WS := by
    intro w hw
    simp only [List.mem_cons, List.not_mem_nil, or_false] at hw
    rcases hw with rfl | rfl | rfl | rfl
    · exact hlk
    · exact hw2
    · exact hw3
    · exact hw4
  have cw : CallW (rmD (d + 1)) s args M.1.cls C idx N.1 N.2.1 N.2.2.1 N.2.2.2 (zwsM N) (rmD d) 0 0 n := cwV n (Ts := zwsM M) B.2.2.2.2.1 (zgoodIn2 hN hw) rfl rfl rfl hds ⟨Nat.le_refl _, by show 8 + (N.2.2.1 + 11) + 60 * d ≤ 60 * (d + 1); omega⟩
  have hrun := va_runV (p := p) (e := e) (below := below) (meth := meth) (locs := locs) (cells := 0) (slots := 0) (b := G.1 k i) (As := as.map (zv G)) (rest := st.map (zv G)) (g := F0 m pc ls (stk.map (zv G))) ⟨B.1, B.2.1, B.2.2.2.1, B.2.2.2.2.2.1, B.2.2.2.2.1⟩ (kk l G B.2.2.2.2.2.2.2.2.1) cw ⟨zPc_blind G _ h, hrc G s H locs B.2.2.2.2.2.2.2.2.2 hS, fun U hU hW => zPc_of (as := vQ (some (k, i)) :: as) hU hW hR B.2.2.2.2.2.2.2.1 B.2.2.2.2.2.2.2.2.2 hS⟩ rfl (by simpa using hn) hl.1 (by rw [hst]; simp; rfl) (lv_room (by rw [zSum]; exact hcat)) hd ⟨Nat.le_refl _, Nat.le_refl _⟩
  intro T hT X
  obtain ⟨v, st₀, t, T', L, h0, X', hL, e1, e2, ⟨r, h', ho, hQ, hrep, hF⟩, stp⟩ := hrun T hT X
  cases ho
  obtain ⟨t2, a1, b1⟩ := hq0 r h' hQ G p l e s m args below meth c T'.heap (locs ++ L) ls B (by rw [e1]; exact hrep) (zS_call hS h0 e1 hF hL) hl T' rfl X'
  refine ⟨t2, stp t2 ?_, b1⟩
  have hfr : (F0 m (pc + 3) ls ((r.toList ++ st).map (zv G))) = { F0 m pc ls (stk.map (zv G)) with pc := (F0 m pc ls (stk.map (zv G))).pc + 3, stack := (r.map (zv G)).toList ++ st.map (zv G) } := by
    cases r <;> simp
  rw [← hfr]
  exact a1
theorem zo_callVI {N : ZM} {Q0 : Int32 → ZH → Prop} {as stk : List ZV} {k i idx ci Nf n : Nat} {C : String} {T : u_T} (hk : (k, i) ∈ zall) (ho : zobj k = some (ci, Nf)) (hc : vwCl[ci]? = some (C, T, Nf)) (hv : zCv N C n) (hlk : Cond.methodLink M.1.cls idx N.1 ∈ WS) (hn : as.length = n) (hst : stk = as.reverse ++ vQ (some (k, i)) :: st) (hcat : (st.map zcat).sum ≤ 8) (hd : decode M.2.1 pc = .ok (.invokevirtual idx, 3)) (kk : EvI d N (vQ (some (k, i)) :: as) h Q0) (hq0 : ∀ x h', Q0 x h' → EvAt (d + 1) M (pc + 3) lv (vI x :: st) h' Q) : EvAt (d + 1) M pc lv stk h Q := zo_callV hk ho hc hv hlk hn hst hcat hd kk (fun r h' ⟨x, e, hq⟩ => by subst e; exact hq0 x h' hq)
theorem zo_callVV {N : ZM} {Q0 : ZH → Prop} {as stk : List ZV} {k i idx ci Nf n : Nat} {C : String} {T : u_T} (hk : (k, i) ∈ zall) (ho : zobj k = some (ci, Nf)) (hc : vwCl[ci]? = some (C, T, Nf)) (hv : zCv N C n) (hlk : Cond.methodLink M.1.cls idx N.1 ∈ WS) (hn : as.length = n) (hst : stk = as.reverse ++ vQ (some (k, i)) :: st) (hcat : (st.map zcat).sum ≤ 8) (hd : decode M.2.1 pc = .ok (.invokevirtual idx, 3)) (kk : EvV d N (vQ (some (k, i)) :: as) h Q0) (hq0 : ∀ h', Q0 h' → EvAt (d + 1) M (pc + 3) lv st h' Q) : EvAt (d + 1) M pc lv stk h Q := zo_callV hk ho hc hv hlk hn hst hcat hd kk (fun r h' ⟨e, hq⟩ => by subst e; exact hq0 h' hq)
theorem zo_callVR {N : ZM} {kq : Nat} {Q0 : Option Nat → ZH → Prop} {as stk : List ZV} {k i idx ci Nf n : Nat} {C : String} {T : u_T} (hk : (k, i) ∈ zall) (ho : zobj k = some (ci, Nf)) (hc : vwCl[ci]? = some (C, T, Nf)) (hv : zCv N C n) (hlk : Cond.methodLink M.1.cls idx N.1 ∈ WS) (hn : as.length = n) (hst : stk = as.reverse ++ vQ (some (k, i)) :: st) (hcat : (st.map zcat).sum ≤ 8) (hd : decode M.2.1 pc = .ok (.invokevirtual idx, 3)) (kk : EvR kq d N (vQ (some (k, i)) :: as) h Q0) (hq0 : ∀ o h', (∀ i, o = some i → i < zcnt kq) → Q0 o h' → EvAt (d + 1) M (pc + 3) lv (vQ (o.map (Prod.mk kq)) :: st) h' Q) : EvAt (d + 1) M pc lv stk h Q := zo_callV hk ho hc hv hlk hn hst hcat hd kk (fun r h' ⟨o, e, hv, hq⟩ => by subst e; exact hq0 o h' hv hq)
theorem zo_callSI {N : ZM} {Q0 : Int32 → ZH → Prop} {as stk : List ZV} {idx n : Nat} (hv : zCs N n) (hlk : Cond.methodLink M.1.cls idx N.1 ∈ WS) (hn : as.length = n) (hst : stk = as.reverse ++ st) (hcat : (st.map zcat).sum ≤ 8) (hd : decode M.2.1 pc = .ok (.invokestatic idx, 3)) (kk : EvI d N as h Q0) (hq0 : ∀ x h', Q0 x h' → EvAt (d + 1) M (pc + 3) lv (vI x :: st) h' Q) : EvAt (d + 1) M pc lv stk h Q := zo_callS hv hlk hn hst hcat hd kk (fun r h' ⟨x, e, hq⟩ => by subst e; exact hq0 x h' hq)
theorem zo_callSV {N : ZM} {Q0 : ZH → Prop} {as stk : List ZV} {idx n : Nat} (hv : zCs N n) (hlk : Cond.methodLink M.1.cls idx N.1 ∈ WS) (hn : as.length = n) (hst : stk = as.reverse ++ st) (hcat : (st.map zcat).sum ≤ 8) (hd : decode M.2.1 pc = .ok (.invokestatic idx, 3)) (kk : EvV d N as h Q0) (hq0 : ∀ h', Q0 h' → EvAt (d + 1) M (pc + 3) lv st h' Q) : EvAt (d + 1) M pc lv stk h Q := zo_callS hv hlk hn hst hcat hd kk (fun r h' ⟨e, hq⟩ => by subst e; exact hq0 h' hq)
theorem zo_callSR {N : ZM} {kq : Nat} {Q0 : Option Nat → ZH → Prop} {as stk : List ZV} {idx n : Nat} (hv : zCs N n) (hlk : Cond.methodLink M.1.cls idx N.1 ∈ WS) (hn : as.length = n) (hst : stk = as.reverse ++ st) (hcat : (st.map zcat).sum ≤ 8) (hd : decode M.2.1 pc = .ok (.invokestatic idx, 3)) (kk : EvR kq d N as h Q0) (hq0 : ∀ o h', (∀ i, o = some i → i < zcnt kq) → Q0 o h' → EvAt (d + 1) M (pc + 3) lv (vQ (o.map (Prod.mk kq)) :: st) h' Q) : EvAt (d + 1) M pc lv stk h Q := zo_callS hv hlk hn hst hcat hd kk (fun r h' ⟨o, e, hv, hq⟩ => by subst e; exact hq0 o h' hv hq)
theorem zo_iretI {x : Int32} {Q : Int32 → ZH → Prop} (hr : M.2.2.2 = some .int) (hd : decode M.2.1 pc = .ok (.ireturn, 1)) (hq : Q x h) : EvAt d M pc lv (vI x :: []) h (zQI Q) := zo_iret hr hd ⟨x, rfl, hq⟩
theorem zo_zretI {x : Int32} {ty : FieldType} {Q : Int32 → ZH → Prop} (hr : M.2.2.2 = some ty) (hn : narrow ty (.int x) = .int x) (hd : decode M.2.1 pc = .ok (.ireturn, 1)) (hq : Q x h) : EvAt d M pc lv (vI x :: []) h (zQI Q) := zo_zret hr hn hd ⟨x, rfl, hq⟩
theorem zo_vretV {Q : ZH → Prop} (hr : M.2.2.2 = none) (hd : decode M.2.1 pc = .ok (.return_, 1)) (hq : Q h) : EvAt d M pc lv [] h (zQV Q) := zo_vret hr hd ⟨rfl, hq⟩
theorem zo_aretO {k : Nat} {o : Option Nat} {Q : Option Nat → ZH → Prop} {C : String} (hr : M.2.2.2 = some (.object C)) (hv : ∀ i, o = some i → i < zcnt k) (hd : decode M.2.1 pc = .ok (.areturn, 1)) (hq : Q o h) : EvAt d M pc lv (vQ (o.map (Prod.mk k)) :: []) h (zQR k Q) := zo_aret hr (Or.inl ⟨_, rfl⟩) hd ⟨o, rfl, hv, hq⟩
theorem zo_ifnullK {k : Nat} {o : Option Nat} {off : Int} {tgt : Nat} (hd : decode M.2.1 pc = .ok (.ifnull off, 3)) (ht : (pc : Int) + off = (tgt : Int)) (kt : o = none → EvAt d M tgt lv st h Q) (kf : ∀ i, o = some i → EvAt d M (pc + 3) lv st h Q) : EvAt d M pc lv (vQ (o.map (Prod.mk k)) :: st) h Q := zo_ifnull hd ht (fun e => kt (by cases o with | none => rfl | some i => cases e)) (fun q e => by cases o with | none => cases e | some i => exact kf i rfl)
theorem zo_ifnonnullK {k : Nat} {o : Option Nat} {off : Int} {tgt : Nat} (hd : decode M.2.1 pc = .ok (.ifnonnull off, 3)) (ht : (pc : Int) + off = (tgt : Int)) (kt : ∀ i, o = some i → EvAt d M tgt lv st h Q) (kf : o = none → EvAt d M (pc + 3) lv st h Q) : EvAt d M pc lv (vQ (o.map (Prod.mk k)) :: st) h Q := zo_ifnonnull hd ht (fun q e => by cases o with | none => cases e | some i => exact kt i rfl) (fun e => kf (by cases o with | none => rfl | some i => cases e))
theorem zo_acmpK_eq {k a b : Nat} {off : Int} {tgt : Nat} (hk : k < zkinds) (ha : a < zcnt k) (hb : b < zcnt k) (hd : decode M.2.1 pc = .ok (.if_acmp .eq off, 3)) (ht : (pc : Int) + off = (tgt : Int)) (kt : a = b → EvAt d M tgt lv st h Q) (kf : ¬ a = b → EvAt d M (pc + 3) lv st h Q) : EvAt d M pc lv (vQ (some (k, b)) :: vQ (some (k, a)) :: st) h Q := zo_acmp_eq (fun q e => by cases e; exact zin hk ha) (fun q e => by cases e; exact zin hk hb) hd ht (fun e => kt (by cases e; rfl)) (fun e => kf (fun z => e (by rw [z])))
theorem zo_acmpK_ne {k a b : Nat} {off : Int} {tgt : Nat} (hk : k < zkinds) (ha : a < zcnt k) (hb : b < zcnt k) (hd : decode M.2.1 pc = .ok (.if_acmp .ne off, 3)) (ht : (pc : Int) + off = (tgt : Int)) (kt : ¬ a = b → EvAt d M tgt lv st h Q) (kf : a = b → EvAt d M (pc + 3) lv st h Q) : EvAt d M pc lv (vQ (some (k, b)) :: vQ (some (k, a)) :: st) h Q := zo_acmp_ne (fun q e => by cases e; exact zin hk ha) (fun q e => by cases e; exact zin hk hb) hd ht (fun e => kt (fun z => e (by rw [z]))) (fun e => kf (by cases e; rfl))
theorem zo_entryF {d : Nat} {M : ZM} {as : List ZV} {h : ZH} {Q : Option ZV → ZH → Prop} (hy : plainFor M.1 = true) (hlen : (zloc as).length ≤ M.2.2.1)
    (k : EvAt d M 0 (zloc as ++ List.replicate (M.2.2.1 - (zloc as).length) none) [] h Q) : EvCall d M as h Q := by
  intro l G hO
  refine va_MetF (cc := M.2.1) (maxL := M.2.2.1) (ret := M.2.2.2) hy rfl ?_
  intro p e s m args below meth c s₁ B hml hv
  obtain ⟨rfl, hrep, hK, hC⟩ := hv
  have hts := atoms_spec (ws := zwsM M) B.pre
  have hown : s.vm.findClass M.1.cls = some m.cls := findClass_of_methodNamed B.named
  have hl := lv_entry (as.map (zv G)) (n := M.2.2.1) (by rw [zloc_len]; exact hlen)
  rw [lg_entry_eq]
  refine k G p l e s m _ below meth c s.heap [] _ ⟨B.exec, B.bytes, B.returns, hml, hts, hown, B.notSynchronized, hK, hO, hC⟩ hrep va_S.rf ?_
  unfold zLv
  rw [zloc_args]
  exact hl
end ZOps
