/-! THE CLAIM OUT OF ONE WALK OF THE LAW'S BODY. Your part is whole_start (and what it stands on); all else here is the same for every law, but numbers. -/
def R_law : String := "SpooledPostLaw"
def lw_P (b : Addr) (xs : List Int32) (args : Array Value) (s : State) : Prop := args = #[.ref b] ∧ s.IntsAt b xs ∧ xs.length ≤ 2048 ∧ (Jvm.Cond.and given_1 narrow_1).before args s = true
def lw_Q (_ : Array Value) (s : State) (o : Outcome) (t : State) : Prop := o = .returned (some (.int 1)) ∧ Framed s o t [] 600000 7302249
def lw_Z (below : List Frame) (a : Array Value) (s : State) : State → Prop := fun t => ∃ o, t.status = .running ∧ Ended t below o ∧ lw_Q a s o t
/-- the law's own end, with 1 on the stack, nothing written that was there before, its room as the claim has it -/
theorem lw_ret {p : Program} {l : Launch} {e : Env} {s : State} {m : MethodId} {below : List Frame} {meth : Method} {c : Code} {b : Nat} (hx : p.tables.exec = Jvm.exec) (hb : c.code = code) (hr : meth.sig.returnType = ret) (hlocks : meth.locks = false) {pc : Nat} {H : Heap} {ls : Array Slot} (hdg : decode code pc = .ok (.ireturn, 1)) : W p l e room_1 s m #[Value.ref b] below meth c H [] 600000 7302249 (lw_Z below #[Value.ref b] s) (F0 m pc ls [.int 1]) := by
  intro T hT X
  obtain ⟨fs, hret, hrun, hended, hW, hframe⟩ := X.leave (v := some (.int 1)) (hlocks := hlocks) (fun h => by rw [hr] at h; cases h)
  have hmeth' : T.vm.method? m = some meth := X.method'
  refine ⟨T.setFrames fs, ?_, .returned (some (.int 1)), hrun, hended, rfl, ⟨_, rfl⟩, hW, hframe⟩
  jvm_step X.here [X.here.top, hx, hb, hdg, hmeth', hr, ret, narrow_b1]
  (try refine ⟨rfl, ?_⟩); (try refine ⟨rfl, ?_⟩)
  first | (intro acts; rw [hret _ acts rfl rfl rfl]) | rw [hret _ _ rfl rfl rfl]
  exact Steps.refl _
/-- what holds at the law's entry: the machine, the code, the tables' words (any of lw_tbl by 'hts w (by decide +kernel)'), the script of L ints xs at the cell b, what the Statement gives of the start (any of its parts by flat_of_before) -/
def lw_At (p : Program) (s : State) (m : MethodId) (meth : Method) (c : Code) (b L : Nat) (xs : Nat → Int32) : Prop :=
  p.tables.exec = Jvm.exec ∧ c.code = code ∧ meth.sig.returnType = ret ∧ c.maxLocals = 4 ∧ s.vm.findClass R_law = some m.cls ∧ (∀ w ∈ lw_tbl, w.before #[Value.ref b] s = true) ∧ va_X b L xs s s.heap ∧ b < s.heap.size ∧ meth.locks = false ∧ (Jvm.Cond.and given_1 narrow_1).before #[Value.ref b] s = true
/-! THE LAW'S LOOP -/
def lCx (p : Program) (s : State) (m : MethodId) (meth : Method) (c : Code) (b L : Nat) (xs : Nat → Int32) (G : ZG) : Prop := lw_At p s m meth c b L xs ∧ va_K G.2.1 vwCl (ztys G) s ∧ zOK G ∧ zConst G s s.heap ∧ G.2.2.2 = s.heap.size ∧ L ≤ 2048
def lvL (G : ZG) (b i : Nat) : List (Nat × Value) := [(0, .ref b), (1, .ref (G.1 0 0)), (2, .ref (G.1 12 0)), (3, .int (nI i))]
def LAt (p : Program) (l : Launch) (e : Env) (s : State) (m : MethodId) (below : List Frame) (meth : Method) (c : Code) (b : Nat) (G : ZG) (i pc : Nat) (st : List Value) (h : ZH) : Prop :=
  ∀ (H : Heap) (locs : List Loc) (ls : Array Slot), zRep G h H → va_S (zA G) s.heap H locs → lv_has ls 4 (lvL G b i) → W p l e room_1 s m #[Value.ref b] below meth c H locs 149 16020 (lw_Z below #[Value.ref b] s) (F0 m pc ls st)
section LAW
variable {p : Program} {l : Launch} {e : Env} {s : State} {m : MethodId} {below : List Frame} {meth : Method} {c : Code} {b L : Nat} {xs : Nat → Int32} {G : ZG} {i pc : Nat} {st : List Value} {h : ZH}
theorem la_aload {k : Fin 4} {a : Nat} (X : lCx p s m meth c b L xs G) (j : Nat) (hd : decode code pc = .ok (.aload_n k, 1)) (hi : (k : Nat) = j) (hj : (lvL G b i)[j]? = some (j, .ref a)) (kk : LAt p l e s m below meth c b G i (pc + 1) (.ref a :: st) h) : LAt p l e s m below meth c b G i pc st h := fun H locs ls hR hS hl => lv_aload_n X.1.1 X.1.2.1 hd hi (lv_at hl j hj) (kk H locs ls hR hS hl)
theorem la_arg {j : Int} {jn : Nat} (X : lCx p s m meth c b L xs G) (h0 : decode code pc = .ok (.aload_n 0, 1)) (h1 : decode code (pc + 1) = .ok (.iload_n 3, 1)) (h2 : decode code (pc + 2) = .ok (.iconst j, 1)) (h3 : decode code (pc + 3) = .ok (.iadd, 1)) (h4 : decode code (pc + 4) = .ok (.iaload, 1)) (hj : Int32.ofInt j = nI jn) (hi : i + jn < L)
    (kk : LAt p l e s m below meth c b G i (pc + 5) (.int (xs (i + jn)) :: st) h) : LAt p l e s m below meth c b G i pc st h := fun H locs ls hR hS hl => by
  obtain ⟨⟨x1, x2, x3, x4, x5, x6, x7, x8, x9, x10⟩, y1, y2, y3, y4, y5⟩ := X
  refine lv_aload_n x1 x2 h0 rfl (lv_at hl 0 rfl) (lv_iload_n x1 x2 h1 rfl (lv_at hl 3 rfl) (lv_iconst x1 x2 h2 hj (lv_iadd x1 x2 h3 ?_)))
  rw [nI_add]
  refine va_sld x1 x2 x7 x8 (A := zA G) (fun z => ?_) hS (vp_in_nI hi (by omega)) h4 ?_
  · have z : G.2.2.2 ≤ b := z
    rw [y4] at z
    omega
  · rw [nI_clamp (by omega)]
    exact kk H locs ls hR hS hl
theorem la_i2l {x : Int32} (X : lCx p s m meth c b L xs G) (hd : decode code pc = .ok (.i2l, 1)) (kk : LAt p l e s m below meth c b G i (pc + 1) (.long x.toInt64 :: st) h) : LAt p l e s m below meth c b G i pc (.int x :: st) h := fun H locs ls hR hS hl => lv_i2l X.1.1 X.1.2.1 hd rfl (kk H locs ls hR hS hl)
theorem la_bipush {n : Int} {v : Int32} (X : lCx p s m meth c b L xs G) (hd : decode code pc = .ok (.bipush n, 2)) (hv : (Int8.ofInt n).toInt32 = v) (kk : LAt p l e s m below meth c b G i (pc + 2) (.int v :: st) h) : LAt p l e s m below meth c b G i pc st h := fun H locs ls hR hS hl => lv_bipush X.1.1 X.1.2.1 hd hv (kk H locs ls hR hS hl)
theorem la_lshl {x : Int64} {y : Int32} (X : lCx p s m meth c b L xs G) (hd : decode code pc = .ok (.lshl, 1)) (kk : LAt p l e s m below meth c b G i (pc + 1) (.long (x <<< (y.toInt64 &&& 63)) :: st) h) : LAt p l e s m below meth c b G i pc (.int y :: .long x :: st) h := fun H locs ls hR hS hl => lv_lshl X.1.1 X.1.2.1 hd rfl (kk H locs ls hR hS hl)
theorem la_land {x y : Int64} (X : lCx p s m meth c b L xs G) (hd : decode code pc = .ok (.land, 1)) (kk : LAt p l e s m below meth c b G i (pc + 1) (.long (x &&& y) :: st) h) : LAt p l e s m below meth c b G i pc (.long y :: .long x :: st) h := fun H locs ls hR hS hl => lv_land X.1.1 X.1.2.1 hd (kk H locs ls hR hS hl)
theorem la_lor {x y : Int64} (X : lCx p s m meth c b L xs G) (hd : decode code pc = .ok (.lor, 1)) (kk : LAt p l e s m below meth c b G i (pc + 1) (.long (x ||| y) :: st) h) : LAt p l e s m below meth c b G i pc (.long y :: .long x :: st) h := fun H locs ls hR hS hl => lv_lor X.1.1 X.1.2.1 hd (kk H locs ls hR hS hl)
theorem la_ldc2 {idx : Nat} {v : Int64} (X : lCx p s m meth c b L xs G) (hw : Cond.constantLong R_law idx v ∈ lw_tbl) (hd : decode code pc = .ok (.ldc2_w idx, 3)) (kk : LAt p l e s m below meth c b G i (pc + 3) (.long v :: st) h) : LAt p l e s m below meth c b G i pc st h := fun H locs ls hR hS hl => lv_ldc2 X.1.1 X.1.2.1 X.1.2.2.2.2.1 (X.1.2.2.2.2.2.1 _ hw) hd (kk H locs ls hR hS hl)
theorem la_eq {x y : Int32} {off : Int} (tgt : Nat) (X : lCx p s m meth c b L xs G) (hd : decode code pc = .ok (.if_icmp .eq off, 3)) (ht : (pc : Int) + off = (tgt : Int)) (hxy : x = y) (kk : LAt p l e s m below meth c b G i tgt st h) : LAt p l e s m below meth c b G i pc (.int y :: .int x :: st) h := fun H locs ls hR hS hl => lv_icmp_eq X.1.1 X.1.2.1 hd ht (fun _ => kk H locs ls hR hS hl) (fun z => absurd hxy z)
theorem la_call {N : ZM} {Q0 : Option ZV → ZH → Prop} {as : List ZV} {stk : List Value} {idx ci Nf n d : Nat} {C : String} {T : u_T} (k q : Nat) (X : lCx p s m meth c b L xs G) (hk : (k, q) ∈ zall) (ho : zobj k = some (ci, Nf)) (hc : vwCl[ci]? = some (C, T, Nf)) (hv : zCv N C n) (hlk : Cond.methodLink R_law idx N.1 ∈ WS) (hn : as.length = n) (hst : stk = (as.map (zv G)).reverse ++ .ref (G.1 k q) :: st) (hcat : (st.map fun v => v.category).sum ≤ 8) (hd : decode code pc = .ok (.invokevirtual idx, 3)) (hdd : d ≤ 100) (kk : EvCall d N (vQ (some (k, q)) :: as) h Q0)
    (hq0 : ∀ r h', Q0 r h' → LAt p l e s m below meth c b G i (pc + 3) ((r.map (zv G)).toList ++ st) h') : LAt p l e s m below meth c b G i pc stk h := by
  intro H locs ls hR hS hl
  obtain ⟨⟨x1, x2, x3, x4, x5, x6, x7, x8, x9, x10⟩, y1, y2, y3, y4, y5⟩ := X
  obtain ⟨q0, e1, -⟩ := zpos y2 hk
  have he := e1 h
  unfold zE at he
  rw [ho] at he
  obtain ⟨hN, hw2, hw3, hw4, hds, hnl⟩ := hv
  have hw : ∀ w ∈ ([.methodLink R_law idx N.1, .instanceMethod N.1, .selects C N.1 N.1, .initialized C] : List Cond), w ∈ WS := by
    intro w hw
    simp only [List.mem_cons, List.not_mem_nil, or_false] at hw
    rcases hw with rfl | rfl | rfl | rfl
    · exact hlk
    · exact hw2
    · exact hw3
    · exact hw4
  have hG : GoodIn lw_tbl ([.methodLink R_law idx N.1, .instanceMethod N.1, .selects C N.1 N.1, .initialized C] ++ zwsM N) := by
    intro w hw'
    rcases List.mem_append.mp hw' with z | z
    · exact ⟨WStbl w (hw w z), zgood w (hw w z)⟩
    · rcases List.mem_cons.mp z with rfl | z
      · exact ⟨WStbl _ hN, Or.inl rfl⟩
      · exact ⟨WStbl w z, zgood w z⟩
  have cw : CallW room_1 s #[Value.ref b] R_law C idx N.1 N.2.1 N.2.2.1 N.2.2.2 (zwsM N) (rmD d) 0 0 n := cwV n (Ts := lw_tbl) x6 hG rfl rfl rfl hds ⟨by show d + 1 ≤ 2048; omega, by show 8 + (N.2.2.1 + 11) + 60 * d ≤ 84000; omega⟩
  have hrun := va_runV (p := p) (e := e) (below := below) (meth := meth) (locs := locs) (cells := 149) (slots := 16020) (b := G.1 k q) (As := as.map (zv G)) (rest := st) (g := F0 m pc ls stk) ⟨x1, x2, x4, x5, x6⟩ (kk l G y2) cw ⟨zPc_blind G _ h, va_recv y1 hR hc he, fun U hU hW => zPc_of (as := vQ (some (k, q)) :: as) hU hW hR y1 y3 hS⟩ rfl (by simpa using hn) hl.1 hst (lv_room hcat) hd ⟨Nat.le_of_ble_eq_true rfl, Nat.le_of_ble_eq_true rfl⟩
  intro T hT X
  obtain ⟨v, st₀, t, T', L', h0, X', hL, e1, e2, ⟨r, h', ho, hQ, hrep, hF⟩, stp⟩ := hrun T hT X
  cases ho
  obtain ⟨t2, a1, b1⟩ := hq0 r h' hQ T'.heap (locs ++ L') ls (by rw [e1]; exact hrep) (zS_call hS h0 e1 hF hL) hl T' rfl X'
  exact ⟨t2, stp t2 a1, b1⟩
end LAW
