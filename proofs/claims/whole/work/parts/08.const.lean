theorem zo_drop {d : Nat} {M : ZM} {pc : Nat} {lv : List (Option ZV)} {st : List ZV} {h : ZH} {Q : Option ZV → ZH → Prop} (i : Nat) (k : EvAt d M pc (lv.set i none) st h Q) : EvAt d M pc lv st h Q := by
  intro G p l e s m args below meth c H locs ls B hR hS hl
  refine k G p l e s m args below meth c H locs ls B hR hS ⟨hl.1, hl.2.1, fun q hq => hl.2.2 q ?_⟩
  obtain ⟨j, v, h1, h2⟩ := (zpairs_mem _ 0).mp hq
  refine (zpairs_mem _ 0).mpr ⟨j, v, ?_, h2⟩
  by_cases e : j = i
  · subst e
    rw [List.getElem?_set_self (by have := (List.getElem?_eq_some_iff.mp h1).1; simpa using this)] at h1
    cases h1
  · rw [List.getElem?_set_ne (Ne.symm e)] at h1
    exact h1
theorem zgetD_mem {α : Type} {l : List α} {n : Nat} {a : α} (h : n < l.length) : l.getD n a ∈ l := by
  rw [List.getD_eq_getElem?_getD, List.getElem?_eq_getElem h]
  exact List.getElem_mem h
def yOrd : MethodName := ⟨"java/lang/Enum", "ordinal", "()I"⟩
theorem d_ord0 : decode prog_13_method_2_code 0 = .ok (.aload_n 0, 1) := by decide +kernel
theorem d_ord1 : decode prog_13_method_2_code 1 = .ok (.getfield 7, 3) := by decide +kernel
theorem d_ord4 : decode prog_13_method_2_code 4 = .ok (.ireturn, 1) := by decide +kernel
theorem ord_back {p : Program} {l : Launch} {e : Env} {R : Room} {below : List Frame} {s : State} {sargs : Array Value} (hexec : p.tables.exec = Jvm.exec) (hR1 : 1 ≤ R.frames) (hR2 : 20 ≤ R.locals) (hinst : (Cond.instanceMethod yOrd).before sargs s = true) (hcode : (Cond.code yOrd prog_13_method_2_code 1 (some .int)).before sargs s = true) (hlink : (Cond.fieldLink "java/lang/Enum" 7 "java/lang/Enum" "ordinal" "I").before sargs s = true) {b : Addr} {x : Int32} {Af : Nat → Prop} :
    Back l R p e below s sargs yOrd 3 8 (fun A a => a = #[Value.ref b] ∧ va_OF "java/lang/Enum" "ordinal" "I" (.int x) b Af s A.U.heap) (fun A a v B => v = some (.int x) ∧ ∃ vm', B = (A.U.setVm vm', A.locs, A.cells, A.slots)) := by
  intro m meth c A g ig mk a X hg hsize hdg hW hnamed hpre
  obtain ⟨rfl, cf, k, fi, f, cell, hff, hst, hcell, hkn, hslot, -⟩ := hpre
  obtain ⟨mk0, methM, hn0, hm0, -, -⟩ := Cond.instanceMethod_spec hinst
  cases hnamed.symm.trans (X.named hn0)
  obtain ⟨methO, cO, hmO, hcO, hbO, hlO, hrO, hlkO, -, -⟩ := Cond.code_spec hn0 hcode
  have hmT : A.U.vm.method? mk = some methO := by rw [X.warmed.alike.method?]; exact hmO
  have hroom := X.notFull (g := g) (vars := cO.maxLocals) hsize hR1 (by rw [hlO]; omega)
  have hownE : s.vm.findClass "java/lang/Enum" = some mk.cls := findClass_of_methodNamed hn0
  have hplat : e.platform.magicAccessors = ({} : Platform).magicAccessors := by rw [X.admits.platform]
  obtain ⟨ci', cfl, k', i', f', hi', hlinks, hright⟩ := Cond.fieldLink_spec hownE hlink e.platform hplat
  cases hff.symm.trans hi'
  obtain ⟨hk, hf⟩ := State.fieldFound?_spec hff
  obtain ⟨vm', hgives, hW', hready, hfi⟩ := State.fieldEntry (e := e) X.warmed hlinks hright hk hf
  refine ⟨some (.int x), (A.U.setVm vm', A.locs, A.cells, A.slots), X.noted hW', ⟨rfl, vm', rfl⟩, ?_⟩
  subst hg
  have hpl : A.U.plainMethod mk := State.plainMethod.of_named (x := yOrd) (by decide) hnamed hmT
  have hAt := At.enter (g := g) X.here #[Value.ref b] hmT hcO hpl
  rw [doInvoke_enter X.here.top [] hmT hcO hlkO hroom]
  have hf1 := frames_entered (g := g) X.here.top (.java (entryFrame mk #[Value.ref b] cO.maxLocals))
  have hent : entryFrame mk #[Value.ref b] cO.maxLocals = F0 mk 0 #[.val (.ref b)] [] := by rw [hlO]; rfl
  rw [hent] at hAt hf1 ⊢
  obtain ⟨U1, hU1⟩ : ∃ U1, U1 = (A.U.setTop g).pushFrame (.java (F0 mk 0 #[.val (.ref b)] [])) := ⟨_, rfl⟩
  have hvm1 : U1.vm = A.U.vm := by rw [hU1]; rfl
  have hhp1 : U1.heap = A.U.heap := by rw [hU1]; rfl
  rw [← hU1] at hAt hf1 ⊢
  have s1 : ∀ tg, Steps p.tables e below (U1.setTop (F0 mk 1 #[.val (.ref b)] [.ref b])) tg → Steps p.tables e below (U1.setTop (F0 mk 0 #[.val (.ref b)] [])) tg := by
    intro tg hrest
    jvm_step hAt [hAt.top, hexec, hbO, d_ord0, Value.isRef]
    exact hrest
  refine s1 _ ?_
  have hg1 : (resolveField mk.cls 7).Gives e.toSetting U1.vm (.ok (cf, fi)) vm' := by rw [hvm1]; exact hgives
  have hsz : vm'.classes.size ≤ U1.vm.classes.size := by
    rw [hvm1, (X.warmed.alike.symm.trans hW'.alike).2.1]
    exact Nat.le_refl _
  have s2 : ∀ tg, Steps p.tables e below ((U1.setVm vm').setTop (F0 mk 4 #[.val (.ref b)] [.int x])) tg → Steps p.tables e below (U1.setTop (F0 mk 1 #[.val (.ref b)] [.ref b])) tg := by
    intro tg hrest
    jvm_step hAt [hexec, hbO, d_ord1, getfield.wp_cold (e := e) (s := U1) (f := F0 mk 1 #[.val (.ref b)] [.ref b]) hAt.top hg1 hready hfi hsz,
      getfield.wp_ready (e := e) (s := U1.setVm vm') (f := F0 mk 1 #[.val (.ref b)] [.ref b]) hAt.top hready hst rfl (show (U1.setVm vm').heap[b]? = some cell from by show U1.heap[b]? = some cell; rw [hhp1]; exact hcell) hkn hslot]
    exact hrest
  refine s2 _ ?_
  obtain ⟨U2, hU2⟩ : ∃ U2, U2 = U1.setVm vm' := ⟨_, rfl⟩
  rw [← hU2]
  have hAt2 : At U2 mk cO below := by
    rw [hU2]
    exact hAt.setVm (by rw [hvm1]; exact X.warmed.alike.symm.trans hW'.alike)
  have hmT2 : U2.vm.method? mk = some methO := by
    rw [hU2]
    show vm'.method? mk = some methO
    rw [hW'.alike.method?]
    exact hmO
  have hcg : U2.code? g.method = some c := by
    have := (X.noted hW').here.code
    rw [hU2]
    rw [State.code?_eq] at this ⊢
    exact this
  have hret : ∀ acts, (doReturn e (U2.setTop (F0 mk 4 #[.val (.ref b)] [])) acts (some (.int x))).1 = (U2.setFrames (.java g :: A.U.frames.tail)).setTop { g with pc := g.pc + 3, stack := (some (Value.int x)).toList ++ g.stack } := by
    intro acts
    exact doReturn_leave (g := g) (f := F0 mk 4 #[.val (.ref b)] []) (meth := methO) (cg := c) (ig := ig) (len := 3) acts (by rw [hU2]; exact hf1) hmT2 hlkO rfl rfl hcg hdg
  have hfin : (U2.setFrames (.java g :: A.U.frames.tail)).setTop { g with pc := g.pc + 3, stack := (some (Value.int x)).toList ++ g.stack } = (A.U.setVm vm').setTop { g with pc := g.pc + 3, stack := (some (Value.int x)).toList ++ g.stack } := by
    have := setFrames_entered (s := A.U) (g := g) X.here.top (.java (F0 mk 0 #[.val (.ref b)] []))
    rw [← hU1] at this
    have h2 : U2.setFrames (.java g :: A.U.frames.tail) = (A.U.setVm vm').setTop g := by
      rw [hU2]
      show (U1.setFrames (.java g :: A.U.frames.tail)).setVm vm' = _
      rw [this]
      rfl
    rw [h2, State.setTop_setTop]
  jvm_step hAt2 [hAt2.top, hexec, hbO, d_ord4, hmT2, hrO, narrow]
  (try refine ⟨rfl, ?_⟩); (try refine ⟨rfl, ?_⟩)
  first | (intro acts; rw [hret acts, hfin]) | rw [hret _, hfin]
  exact Steps.refl _
section ZConsts
variable {d : Nat} {M : ZM} {pc idx : Nat} {lv : List (Option ZV)} {st : List ZV} {h : ZH} {Q : Option ZV → ZH → Prop}
theorem zc_COMMANDS (hlk : Cond.fieldLink M.1.cls idx "SpooledPost" "COMMANDS" "[LSpooledPost$Command;" ∈ WS) (hd : decode M.2.1 pc = .ok (.getstatic idx, 3)) (kk : EvAt d M (pc + 3) lv (vQ (some (21, 0)) :: st) h Q) : EvAt d M pc lv st h Q :=
  fun G p l e s m args below meth c H locs ls B hR hS hl => va_gets B.1 B.2.1 B.2.2.2.2.2.2.2.2.2.1 hS B.2.2.2.2.2.1 (zX_hts B hlk) (fun _ z => z) hd (kk G p l e s m args below meth c H locs ls B hR hS hl)
theorem zc_SW (hlk : Cond.fieldLink M.1.cls idx "SpooledPost$1" "$SwitchMap$SpooledPost$Command" "[I" ∈ WS) (hd : decode M.2.1 pc = .ok (.getstatic idx, 3)) (kk : EvAt d M (pc + 3) lv (vQ (some (23, 0)) :: st) h Q) : EvAt d M pc lv st h Q :=
  fun G p l e s m args below meth c H locs ls B hR hS hl => va_gets B.1 B.2.1 B.2.2.2.2.2.2.2.2.2.2.2.1 hS B.2.2.2.2.2.1 (zX_hts B hlk) (fun _ z => z) hd (kk G p l e s m args below meth c H locs ls B hR hS hl)
theorem zc_compact (hlk : Cond.fieldLink M.1.cls idx "java/lang/String" "COMPACT_STRINGS" "Z" ∈ WS) (hd : decode M.2.1 pc = .ok (.getstatic idx, 3)) (kk : EvAt d M (pc + 3) lv (vI 1 :: st) h Q) : EvAt d M pc lv st h Q :=
  fun G p l e s m args below meth c H locs ls B hR hS hl => va_gets B.1 B.2.1 B.2.2.2.2.2.2.2.2.2.2.2.2.2.1 hS B.2.2.2.2.2.1 (zX_hts B hlk) (fun _ z => z) hd (kk G p l e s m args below meth c H locs ls B hR hS hl)
theorem zc_clen (hd : decode M.2.1 pc = .ok (.arraylength, 1)) (kk : EvAt d M (pc + 1) lv (vI 8 :: st) h Q) : EvAt d M pc lv (vQ (some (21, 0)) :: st) h Q :=
  fun G p l e s m args below meth c H locs ls B hR hS hl => va_tlen B.1 B.2.1 B.2.2.2.2.2.2.2.2.2.2.1 hS rfl hd (kk G p l e s m args below meth c H locs ls B hR hS hl)
theorem zc_cald {x : Int32} (hin : vp_in x 8) (hd : decode M.2.1 pc = .ok (.aaload, 1)) (kk : EvAt d M (pc + 1) lv (vQ (some (20, x.toNatClampNeg)) :: st) h Q) : EvAt d M pc lv (vI x :: vQ (some (21, 0)) :: st) h Q :=
  fun G p l e s m args below meth c H locs ls B hR hS hl => vb_tq B.1 B.2.1 B.2.2.2.2.2.2.2.2.2.2.1 hS hin rfl hd (kk G p l e s m args below meth c H locs ls B hR hS hl)
theorem zc_swald {x : Int32} (hin : vp_in x 8) (hd : decode M.2.1 pc = .ok (.iaload, 1)) (kk : EvAt d M (pc + 1) lv (vI (zSw.getD x.toNatClampNeg 0) :: st) h Q) : EvAt d M pc lv (vI x :: vQ (some (23, 0)) :: st) h Q :=
  fun G p l e s m args below meth c H locs ls B hR hS hl => va_ti B.1 B.2.1 B.2.2.2.2.2.2.2.2.2.2.2.2.1 hS hin rfl hd (kk G p l e s m args below meth c H locs ls B hR hS hl)
theorem zc_word {i : Nat} (hlk : Cond.fieldLink M.1.cls idx "SpooledPost$Command" "word" "Ljava/lang/String;" ∈ WS) (hi : i < 8) (hd : decode M.2.1 pc = .ok (.getfield idx, 3)) (kk : EvAt d M (pc + 3) lv (vQ (some (22, i)) :: st) h Q) : EvAt d M pc lv (vQ (some (20, i)) :: st) h Q :=
  fun G p l e s m args below meth c H locs ls B hR hS hl => vk_getf B.1 B.2.1 (B.2.2.2.2.2.2.2.2.2.2.2.2.2.2.2.1 i hi).2.1 hS B.2.2.2.2.2.1 (zX_hts B hlk) (fun _ z => z) hd (kk G p l e s m args below meth c H locs ls B hR hS hl)
theorem zc_S {G : ZG} {U : State} {H : Heap} (h : zConst G U H) : vk_S 14 zSL zSB (G.1 22) (G.1 24) (zA G) U H := h.2.2.2.2.2.1
theorem zc_value {i : Nat} (hlk : Cond.fieldLink M.1.cls idx "java/lang/String" "value" "[B" ∈ WS) (hi : i < 14) (hd : decode M.2.1 pc = .ok (.getfield idx, 3)) (kk : EvAt d M (pc + 3) lv (vQ (some (24, i)) :: st) h Q) : EvAt d M pc lv (vQ (some (22, i)) :: st) h Q :=
  fun G p l e s m args below meth c H locs ls B hR hS hl => vk_getf B.1 B.2.1 ((zc_S B.2.2.2.2.2.2.2.2.2).1 i hi).2.2.1 hS B.2.2.2.2.2.1 (zX_hts B hlk) (fun _ z => z) hd (kk G p l e s m args below meth c H locs ls B hR hS hl)
theorem zc_coderF {i : Nat} (hlk : Cond.fieldLink M.1.cls idx "java/lang/String" "coder" "B" ∈ WS) (hi : i < 14) (hd : decode M.2.1 pc = .ok (.getfield idx, 3)) (kk : EvAt d M (pc + 3) lv (vI 0 :: st) h Q) : EvAt d M pc lv (vQ (some (22, i)) :: st) h Q :=
  fun G p l e s m args below meth c H locs ls B hR hS hl => vk_getf B.1 B.2.1 ((zc_S B.2.2.2.2.2.2.2.2.2).1 i hi).2.1 hS B.2.2.2.2.2.1 (zX_hts B hlk) (fun _ z => z) hd (kk G p l e s m args below meth c H locs ls B hR hS hl)
theorem zc_vlen {i : Nat} (hi : i < 14) (hd : decode M.2.1 pc = .ok (.arraylength, 1)) (kk : EvAt d M (pc + 1) lv (vI (nI (zSL.getD i 0)) :: st) h Q) : EvAt d M pc lv (vQ (some (24, i)) :: st) h Q :=
  fun G p l e s m args below meth c H locs ls B hR hS hl => va_tlen B.1 B.2.1 ((zc_S B.2.2.2.2.2.2.2.2.2).1 i hi).2.2.2 hS rfl hd (kk G p l e s m args below meth c H locs ls B hR hS hl)
theorem zc_vald {i : Nat} {x : Int32} (hi : i < 14) (hin : vp_in x (zSL.getD i 0)) (hd : decode M.2.1 pc = .ok (.baload, 1)) (kk : EvAt d M (pc + 1) lv (vI ((zSB.getD i []).getD x.toNatClampNeg 0) :: st) h Q) : EvAt d M pc lv (vI x :: vQ (some (24, i)) :: st) h Q :=
  fun G p l e s m args below meth c H locs ls B hR hS hl => va_tb B.1 B.2.1 ((zc_S B.2.2.2.2.2.2.2.2.2).1 i hi).2.2.2 hS hin rfl hd (kk G p l e s m args below meth c H locs ls B hR hS hl)
theorem zc_min (hlk : Cond.methodLink M.1.cls idx Lib.Math.min.name ∈ WS) {x y : Int32} (hcat : (st.map zcat).sum ≤ 8) (hd : decode M.2.1 pc = .ok (.invokestatic idx, 3)) (kk : EvAt (d + 1) M (pc + 3) lv (vI (if y < x then y else x) :: st) h Q) : EvAt (d + 1) M pc lv (vI y :: vI x :: st) h Q := by
  intro G p l e s m args below meth c H locs ls B hR hS hl
  refine va_mmin B.1 B.2.1 (B.2.2.2.1.trans hl.1.symm) B.2.2.2.2.2.1 (zX_hts B hlk) (zX_hts B wd_341) (zX_hts B wd_75) (zX_hts B wd_342) ?_ ?_ (Nat.zero_le _) (Nat.zero_le _) hd (kk G p l e s m args below meth c H locs ls B hR hS hl)
  · show 1 ≤ d + 1
    omega
  · rw [zSum]
    show (st.map zcat).sum + 13 ≤ 60 * (d + 1)
    omega
theorem zc_copy {a b : Nat} {sp dp n : Int32} (hlk : Cond.methodLink M.1.cls idx arraycopyName ∈ WS) (ha : a < 43) (hb : b < 43) (hp : ¬ sp < 0 ∧ ¬ dp < 0 ∧ ¬ n < 0 ∧ sp.toNatClampNeg + n.toNatClampNeg ≤ zLen 2 a ∧ dp.toNatClampNeg + n.toNatClampNeg ≤ zLen 2 b ∧ ∀ i, i < n.toNatClampNeg → fits .char (.int (zi h 2 a (sp.toNatClampNeg + i))) = true) (hcat : (st.map zcat).sum ≤ 8)
    (hd : decode M.2.1 pc = .ok (.invokestatic idx, 3)) (kk : EvAt (d + 1) M (pc + 3) lv st (zcp h 2 a b sp.toNatClampNeg dp.toNatClampNeg n.toNatClampNeg) Q) : EvAt (d + 1) M pc lv (vI n :: vI dp :: vQ (some (2, b)) :: vI sp :: vQ (some (2, a)) :: st) h Q := by
  intro G p l e s m args below meth c H locs ls B hR hS hl
  obtain ⟨h1, h2, h3, h4, h5, h6⟩ := hp
  obtain ⟨q0, e1, -⟩ := zpos B.2.2.2.2.2.2.2.2.1 (zin (k := 2) (by decide) ha)
  obtain ⟨q1, f1, f2⟩ := zpos B.2.2.2.2.2.2.2.2.1 (zin (k := 2) (by decide) hb)
  have he := e1 h
  have hf := f1 h
  have hset := f2 h (zcp h 2 a b sp.toNatClampNeg dp.toNatClampNeg n.toNatClampNeg) (zcp_off h 2 a b _ _ _)
  have hE : zE G (zcp h 2 a b sp.toNatClampNeg dp.toNatClampNeg n.toNatClampNeg) 2 b = .inl (G.2.2.1 (zarr 2), zLen 2 b, .inl (va_cpy (fun j => h.1 2 a j) (fun j => h.1 2 b j) sp.toNatClampNeg dp.toNatClampNeg n.toNatClampNeg)) := by
    rw [zE_arr rfl rfl]
    refine congrArg Sum.inl (congrArg (Prod.mk _) (congrArg (Prod.mk _) (congrArg Sum.inl ?_)))
    funext j
    show (if 2 = 2 ∧ b = b ∧ dp.toNatClampNeg ≤ j ∧ j < dp.toNatClampNeg + n.toNatClampNeg then _ else _) = _
    unfold va_cpy
    by_cases hc : dp.toNatClampNeg ≤ j ∧ j < dp.toNatClampNeg + n.toNatClampNeg
    · rw [if_pos ⟨rfl, rfl, hc⟩, if_pos hc]
    · rw [if_neg (fun z => hc z.2.2), if_neg hc]
  rw [hE] at hset
  rw [zE_arr rfl rfl] at he hf
  refine va_copyi B.1 B.2.1 (B.2.2.2.1.trans hl.1.symm) B.2.2.2.2.2.1 (zX_hts B hlk) (zX_hts B wd_345) (zX_hts B wd_344) (zX_hts B wd_76) B.2.2.2.2.2.2.2.1 hR (zD h B.2.2.2.2.2.2.2.2.1) hS q0 q1 1 1 he hf (ztys_at G (t := 1) (ty := .char) rfl) (ztys_at G (t := 1) (ty := .char) rfl) rfl h1 h2 h3 h4 h5 h6 ?_ ?_ hd (fun H1 locs1 hP1 hD1 hS1 => ?_)
  · show 1 ≤ d + 1
    omega
  · rw [zSum]
    show (st.map zcat).sum + (nativeFrameWords "java/lang/System" "arraycopy" 5 + 11) ≤ 60 * (d + 1)
    have : nativeFrameWords "java/lang/System" "arraycopy" 5 ≤ 41 := by decide +kernel
    omega
  · rw [hset] at hP1
    exact kk G p l e s m args below meth c H1 locs1 ls B hP1 hS1 hl
theorem zc_ldc8 (hM : M.1.cls = "SpooledPost") (hd : decode M.2.1 pc = .ok (.ldc 225, 2)) (kk : EvAt d M (pc + 2) lv (vQ (some (22, 8)) :: st) h Q) : EvAt d M pc lv st h Q :=
  fun G p l e s m args below meth c H locs ls B hR hS hl => va_ldcS B.1 B.2.1 (own := "SpooledPost") (by rw [← hM]; exact B.2.2.2.2.2.1) B.2.2.2.2.2.2.2.2.2.2.2.2.2.2.2.2.2.1 hd (kk G p l e s m args below meth c H locs ls B hR hS hl)
theorem zc_ldc9 (hM : M.1.cls = "SpooledPost") (hd : decode M.2.1 pc = .ok (.ldc 237, 2)) (kk : EvAt d M (pc + 2) lv (vQ (some (22, 9)) :: st) h Q) : EvAt d M pc lv st h Q :=
  fun G p l e s m args below meth c H locs ls B hR hS hl => va_ldcS B.1 B.2.1 (own := "SpooledPost") (by rw [← hM]; exact B.2.2.2.2.2.1) B.2.2.2.2.2.2.2.2.2.2.2.2.2.2.2.2.2.2.1 hd (kk G p l e s m args below meth c H locs ls B hR hS hl)
theorem zc_ldc11 (hM : M.1.cls = "SpooledPost$PartReader") (hd : decode M.2.1 pc = .ok (.ldc 90, 2)) (kk : EvAt d M (pc + 2) lv (vQ (some (22, 11)) :: st) h Q) : EvAt d M pc lv st h Q :=
  fun G p l e s m args below meth c H locs ls B hR hS hl => va_ldcS B.1 B.2.1 (own := "SpooledPost$PartReader") (by rw [← hM]; exact B.2.2.2.2.2.1) B.2.2.2.2.2.2.2.2.2.2.2.2.2.2.2.2.2.2.2.2.1 hd (kk G p l e s m args below meth c H locs ls B hR hS hl)
theorem zc_ldc12 (hM : M.1.cls = "SpooledPost$PartReader") (hd : decode M.2.1 pc = .ok (.ldc 104, 2)) (kk : EvAt d M (pc + 2) lv (vQ (some (22, 12)) :: st) h Q) : EvAt d M pc lv st h Q :=
  fun G p l e s m args below meth c H locs ls B hR hS hl => va_ldcS B.1 B.2.1 (own := "SpooledPost$PartReader") (by rw [← hM]; exact B.2.2.2.2.2.1) B.2.2.2.2.2.2.2.2.2.2.2.2.2.2.2.2.2.2.2.2.2.1 hd (kk G p l e s m args below meth c H locs ls B hR hS hl)
theorem zc_ldc13 (hM : M.1.cls = "SpooledPost$PartReader") (hd : decode M.2.1 pc = .ok (.ldc 106, 2)) (kk : EvAt d M (pc + 2) lv (vQ (some (22, 13)) :: st) h Q) : EvAt d M pc lv st h Q :=
  fun G p l e s m args below meth c H locs ls B hR hS hl => va_ldcS B.1 B.2.1 (own := "SpooledPost$PartReader") (by rw [← hM]; exact B.2.2.2.2.2.1) B.2.2.2.2.2.2.2.2.2.2.2.2.2.2.2.2.2.2.2.2.2.2 hd (kk G p l e s m args below meth c H locs ls B hR hS hl)
theorem zc_fmt (hlk : Cond.fieldLink M.1.cls idx "jdk/internal/util/Preconditions" "SIOOBE_FORMATTER" "Ljava/util/function/BiFunction;" ∈ WS) (hd : decode M.2.1 pc = .ok (.getstatic idx, 3)) (k1 : EvAt d M (pc + 3) lv (vQ none :: st) h Q) (k2 : EvAt d M (pc + 3) lv (vQ (some (25, 0)) :: st) h Q) : EvAt d M pc lv st h Q := by
  intro G p l e s m args below meth c H locs ls B hR hS hl
  rcases B.2.2.2.2.2.2.2.2.2.2.2.2.2.2.2.2.1 with z | z
  · exact va_gets B.1 B.2.1 z hS B.2.2.2.2.2.1 (zX_hts B hlk) (fun _ z => z) hd (k1 G p l e s m args below meth c H locs ls B hR hS hl)
  · exact va_gets B.1 B.2.1 z hS B.2.2.2.2.2.1 (zX_hts B hlk) (fun _ z => z) hd (k2 G p l e s m args below meth c H locs ls B hR hS hl)
theorem zc_recS {i : Nat} (hi : i < 14) : ∀ (G : ZG) (s : State) (H : Heap) (locs : List Loc), zConst G s s.heap → va_S (zA G) s.heap H locs → ∃ cell : Cell, H[G.1 22 i]? = some cell ∧ cell.vm.isStatics = false ∧ s.vm.findClass "java/lang/String" = some cell.cls :=
  fun G s H locs hC hS => vk_recv (zc_S hC) hi hS
theorem e_JS_coder {i : Nat} (hi : i < 14) {h : ZH} {Q : Int32 → ZH → Prop} (hq : Q 0 h) : EvI d m_JS_coder [vQ (some (22, i))] h Q := by
  refine zo_entryF (by decide +kernel) (Nat.le_of_ble_eq_true rfl) ?_
  refine zc_compact wd_392 d_JS_coder_0 ?_
  refine zo_if_eq (tgt := 13) d_JS_coder_3 (by decide) (fun c => absurd c (by decide)) (fun c => ?_)
  refine zo_aload_n d_JS_coder_6 rfl rfl ?_
  refine zc_coderF wd_1031 hi d_JS_coder_7 ?_
  refine zo_goto (tgt := 14) d_JS_coder_10 (by decide) ?_
  exact zo_zretI (ty := .byte) rfl rfl d_JS_coder_14 hq
theorem e_JS_isLatin1 {i : Nat} (hi : i < 14) {h : ZH} {Q : Int32 → ZH → Prop} (hq : Q 1 h) : EvI d m_JS_isLatin1 [vQ (some (22, i))] h Q := by
  refine zo_entryF (by decide +kernel) (Nat.le_of_ble_eq_true rfl) ?_
  refine zc_compact wd_392 d_JS_isLatin1_0 ?_
  refine zo_if_eq (tgt := 17) d_JS_isLatin1_3 (by decide) (fun c => absurd c (by decide)) (fun c => ?_)
  refine zo_aload_n d_JS_isLatin1_6 rfl rfl ?_
  refine zc_coderF wd_1031 hi d_JS_isLatin1_7 ?_
  refine zo_if_ne (tgt := 17) d_JS_isLatin1_10 (by decide) (fun c => absurd rfl c) (fun c => ?_)
  refine zo_iconst (v := 1) d_JS_isLatin1_13 (by decide) ?_
  refine zo_goto (tgt := 18) d_JS_isLatin1_14 (by decide) ?_
  exact zo_zretI (ty := .boolean) rfl rfl d_JS_isLatin1_18 hq
theorem zSL_lt : ∀ i, i < 14 → zSL.getD i 0 < 2 ^ 31 := by decide +kernel
theorem e_JS_length {i : Nat} (hi : i < 14) {h : ZH} {Q : Int32 → ZH → Prop} (hq : Q (nI (zSL.getD i 0)) h) : EvI (d + 1) m_JS_length [vQ (some (22, i))] h Q := by
  refine zo_entryF (by decide +kernel) (Nat.le_of_ble_eq_true rfl) ?_
  refine zo_aload_n d_JS_length_0 rfl rfl ?_
  refine zc_value wd_1030 hi d_JS_length_1 ?_
  refine zc_vlen hi d_JS_length_4 ?_
  refine zo_aload_n d_JS_length_5 rfl rfl ?_
  refine zo_callK (d := d) (N := m_JS_coder) (as := []) (n := 0) (zc_recS hi) cv_JS_coder wd_388 rfl rfl (Nat.le_of_ble_eq_true rfl) d_JS_length_6 (e_JS_coder hi (Q := fun x h' => x = 0 ∧ h' = h) ⟨rfl, rfl⟩) ?_
  rintro r h' ⟨x, rfl, rfl, rfl⟩
  refine zo_ishr d_JS_length_9 ?_
  rw [sc_shr0 (zSL_lt i hi)]
  exact zo_iretI rfl d_JS_length_10 hq
theorem zc_slen {i : Nat} (hlk : Cond.methodLink M.1.cls idx m_JS_length.1 ∈ WS) (hi : i < 14) (hd : decode M.2.1 pc = .ok (.invokevirtual idx, 3)) (hcat : (st.map zcat).sum ≤ 8) (kk : EvAt (d + 2) M (pc + 3) lv (vI (nI (zSL.getD i 0)) :: st) h Q) : EvAt (d + 2) M pc lv (vQ (some (22, i)) :: st) h Q := by
  refine zo_callK (d := d + 1) (N := m_JS_length) (as := []) (n := 0) (zc_recS hi) cv_JS_length hlk rfl rfl hcat hd (e_JS_length hi (Q := fun x h' => x = nI (zSL.getD i 0) ∧ h' = h) ⟨rfl, rfl⟩) ?_
  rintro r h' ⟨x, rfl, rfl, rfl⟩
  exact kk
theorem e_JP_checkIndex {x n : Int32} {o : Option (Nat × Nat)} (h0 : ¬ x < 0) (h1 : x < n) {h : ZH} {Q : Int32 → ZH → Prop} (hq : Q x h) : EvI d m_JP_checkIndex [vI x, vI n, vQ o] h Q := by
  refine zo_entryF (by decide +kernel) (Nat.le_of_ble_eq_true rfl) ?_
  refine zo_iload_n d_JP_checkIndex_0 rfl rfl ?_
  refine zo_if_lt (tgt := 9) d_JP_checkIndex_1 (by decide) (fun c => absurd c h0) (fun c => ?_)
  refine zo_iload_n d_JP_checkIndex_4 rfl rfl ?_
  refine zo_iload_n d_JP_checkIndex_5 rfl rfl ?_
  refine zo_icmp_lt (tgt := 16) d_JP_checkIndex_6 (by decide) (fun c => ?_) (fun c => absurd h1 c)
  refine zo_iload_n d_JP_checkIndex_16 rfl rfl ?_
  exact zo_iretI rfl d_JP_checkIndex_17 hq
theorem e_JS_checkIndex {x n : Int32} (h0 : ¬ x < 0) (h1 : x < n) {h : ZH} {Q : ZH → Prop} (hq : Q h) : EvV (d + 1) m_JS_checkIndex [vI x, vI n] h Q := by
  refine zo_entryF (by decide +kernel) (Nat.le_of_ble_eq_true rfl) ?_
  refine zo_iload_n d_JS_checkIndex_0 rfl rfl ?_
  refine zo_iload_n d_JS_checkIndex_1 rfl rfl ?_
  have key : ∀ o : Option (Nat × Nat), EvAt (d + 1) m_JS_checkIndex 5 [some (vI x), some (vI n)] [vQ o, vI n, vI x] h (zQV Q) := by
    intro o
    refine zo_callSI (d := d) (N := m_JP_checkIndex) (as := [vI x, vI n, vQ o]) (n := 3) cs_JP_checkIndex wd_413 rfl rfl (Nat.le_of_ble_eq_true rfl) d_JS_checkIndex_5 (e_JP_checkIndex h0 h1 (Q := fun y h' => y = x ∧ h' = h) ⟨rfl, rfl⟩) ?_
    rintro y h' ⟨rfl, rfl⟩
    refine zo_pop rfl d_JS_checkIndex_8 ?_
    exact zo_vretV rfl d_JS_checkIndex_9 hq
  exact zc_fmt wd_411 d_JS_checkIndex_2 (key none) (key (some (25, 0)))
theorem zSB_ok : ∀ i, i < 14 → zSL.getD i 0 = (zSB.getD i []).length ∧ ∀ b ∈ zSB.getD i [], ((b &&& 255).toUInt32 % 65536).toInt32 = b ∧ narrow .char (.int b) = .int b := by decide +kernel
theorem zSB_get {i n : Nat} (hi : i < 14) (hn : n < zSL.getD i 0) : (((zSB.getD i []).getD n 0 &&& 255).toUInt32 % 65536).toInt32 = (zSB.getD i []).getD n 0 ∧ narrow .char (.int ((zSB.getD i []).getD n 0)) = .int ((zSB.getD i []).getD n 0) := by
  obtain ⟨h1, h2⟩ := zSB_ok i hi
  refine h2 _ ?_
  exact zgetD_mem (by omega)
theorem e_JL_charAt {i : Nat} {x : Int32} (hi : i < 14) (hx : vp_in x (zSL.getD i 0)) {h : ZH} {Q : Int32 → ZH → Prop} (hq : Q ((zSB.getD i []).getD x.toNatClampNeg 0) h) : EvI (d + 2) m_JL_charAt [vQ (some (24, i)), vI x] h Q := by
  have hL := zSL_lt i hi
  obtain ⟨j, hj, rfl⟩ := vp_in_of hx hL
  refine zo_entryF (by decide +kernel) (Nat.le_of_ble_eq_true rfl) ?_
  refine zo_iload_n d_JL_charAt_0 rfl rfl ?_
  refine zo_aload_n d_JL_charAt_1 rfl rfl ?_
  refine zc_vlen hi d_JL_charAt_2 ?_
  refine zo_callSV (d := d + 1) (N := m_JS_checkIndex) (as := [vI (nI j), vI (nI (zSL.getD i 0))]) (n := 2) cs_JS_checkIndex wd_408 rfl rfl (Nat.le_of_ble_eq_true rfl) d_JL_charAt_3 (e_JS_checkIndex (nI_pos (by omega)) (nI_lt hj hL) (Q := fun h' => h' = h) rfl) ?_
  rintro h' rfl
  refine zo_aload_n d_JL_charAt_6 rfl rfl ?_
  refine zo_iload_n d_JL_charAt_7 rfl rfl ?_
  refine zc_vald hi hx d_JL_charAt_8 ?_
  refine zo_sipush (v := 255) d_JL_charAt_9 (by decide) ?_
  refine zo_iand d_JL_charAt_12 ?_
  refine zo_i2c d_JL_charAt_13 ?_
  have e := zSB_get hi (n := (nI j).toNatClampNeg) (by rw [nI_clamp (by omega)]; exact hj)
  rw [e.1]
  exact zo_zretI (ty := .char) rfl e.2 d_JL_charAt_14 hq
theorem e_JS_charAt {i : Nat} {x : Int32} (hi : i < 14) (hx : vp_in x (zSL.getD i 0)) {h : ZH} {Q : Int32 → ZH → Prop} (hq : Q ((zSB.getD i []).getD x.toNatClampNeg 0) h) : EvI (d + 3) m_JS_charAt [vQ (some (22, i)), vI x] h Q := by
  have hL := zSL_lt i hi
  refine zo_entryF (by decide +kernel) (Nat.le_of_ble_eq_true rfl) ?_
  refine zo_aload_n d_JS_charAt_0 rfl rfl ?_
  refine zo_callK (d := d + 2) (N := m_JS_isLatin1) (as := []) (n := 0) (zc_recS hi) cv_JS_isLatin1 wd_401 rfl rfl (Nat.le_of_ble_eq_true rfl) d_JS_charAt_1 (e_JS_isLatin1 hi (Q := fun y h' => y = 1 ∧ h' = h) ⟨rfl, rfl⟩) ?_
  rintro r h' ⟨y, rfl, rfl, rfl⟩
  refine zo_if_eq (tgt := 16) d_JS_charAt_4 (by decide) (fun c => absurd c (by decide)) (fun c => ?_)
  refine zo_aload_n d_JS_charAt_7 rfl rfl ?_
  refine zc_value wd_1030 hi d_JS_charAt_8 ?_
  refine zo_iload_n d_JS_charAt_11 rfl rfl ?_
  refine zo_callSI (d := d + 2) (N := m_JL_charAt) (as := [vQ (some (24, i)), vI x]) (n := 2) cs_JL_charAt wd_405 rfl rfl (Nat.le_of_ble_eq_true rfl) d_JS_charAt_12 (e_JL_charAt hi hx (Q := fun y h'' => y = (zSB.getD i []).getD x.toNatClampNeg 0 ∧ h'' = h') ⟨rfl, rfl⟩) ?_
  rintro y h'' ⟨rfl, rfl⟩
  obtain ⟨j, hj, e⟩ := vp_in_of hx hL
  exact zo_zretI (ty := .char) rfl (zSB_get hi (by rw [e, nI_clamp (by omega)]; exact hj)).2 d_JS_charAt_15 hq
theorem zc_charAt {i : Nat} {x : Int32} (hlk : Cond.methodLink M.1.cls idx m_JS_charAt.1 ∈ WS) (hi : i < 14) (hx : vp_in x (zSL.getD i 0)) (hcat : (st.map zcat).sum ≤ 8) (hd : decode M.2.1 pc = .ok (.invokevirtual idx, 3)) (kk : EvAt (d + 4) M (pc + 3) lv (vI ((zSB.getD i []).getD x.toNatClampNeg 0) :: st) h Q) : EvAt (d + 4) M pc lv (vI x :: vQ (some (22, i)) :: st) h Q := by
  refine zo_callK (d := d + 3) (N := m_JS_charAt) (as := [vI x]) (n := 1) (zc_recS hi) cv_JS_charAt hlk rfl rfl hcat hd (e_JS_charAt hi hx (Q := fun y h' => y = (zSB.getD i []).getD x.toNatClampNeg 0 ∧ h' = h) ⟨rfl, rfl⟩) ?_
  rintro r h' ⟨y, rfl, rfl, rfl⟩
  exact kk
theorem zc_ord {i : Nat} (hlk : Cond.methodLink M.1.cls idx ⟨"SpooledPost$Command", "ordinal", "()I"⟩ ∈ WS) (hi : i < 8) (hd : decode M.2.1 pc = .ok (.invokevirtual idx, 3)) (hcat : (st.map zcat).sum ≤ 8) (kk : EvAt (d + 1) M (pc + 3) lv (vI (nI i) :: st) h Q) : EvAt (d + 1) M pc lv (vQ (some (20, i)) :: st) h Q := by
  intro G p l e s m args below meth c H locs ls B hR hS hl
  obtain ⟨hC, -, hO⟩ := B.2.2.2.2.2.2.2.2.2.2.2.2.2.2.2.1 i hi
  have hC' := hC.kept hS.2.1
  have hO' := hO.kept hS.2.1
  obtain ⟨cellB, hcell, hobj, hcls, -⟩ := hC'
  intro T hT X
  have hx := zX_hts B hlk
  have w1 := zX_hts B (w := .sameMethod "SpooledPost$Command" "java/lang/Enum" "ordinal" "()I") (by decide +kernel)
  have w2 := zX_hts B (w := .selects "SpooledPost$Command" ⟨"SpooledPost$Command", "ordinal", "()I"⟩ ⟨"java/lang/Enum", "ordinal", "()I"⟩) (by decide +kernel)
  have w3 := zX_hts B (w := .instanceMethod yOrd) (by decide +kernel)
  have w4 := zX_hts B (w := .code yOrd prog_13_method_2_code 1 (some .int)) (by decide +kernel)
  have w5 := zX_hts B (w := .fieldLink "java/lang/Enum" 7 "java/lang/Enum" "ordinal" "I") (by decide +kernel)
  obtain ⟨v, vm1, B', hW1, X', ⟨hv, vm2, hB⟩, stp⟩ := va_callVU (C := "SpooledPost$Command") (owner := "java/lang/Enum") (x := ⟨"SpooledPost$Command", "ordinal", "()I"⟩) (y := yOrd) X B.1 B.2.2.2.2.2.1 hx w1 (va_Decl.of w3 w4) (by decide) w2 w3 w4 (ord_back (b := G.1 20 i) (x := nI i) (Af := zA G) B.1 (by show 1 ≤ d + 1; omega) (by show 20 ≤ 60 * (d + 1); omega) w3 w4 w5) (b := G.1 20 i) (by rw [hT]; exact hcell) hobj hcls (g := F0 m pc ls (.ref (G.1 20 i) :: st.map (zv G))) rfl (by rw [B.2.2.2.1]; exact hl.1) (argsL := []) (rest := st.map (zv G)) (by decide) rfl (lv_room (by rw [zSum]; exact hcat)) (by rw [B.2.1]; exact hd) (fun vm1 hw => ⟨rfl, by show va_OF _ _ _ _ _ _ s T.heap; rw [hT]; exact hO'⟩)
  subst hv
  subst hB
  obtain ⟨t2, a1, b1⟩ := kk G p l e s m args below meth c H locs ls B hR hS hl _ (by exact hT) X'
  exact ⟨t2, stp t2 a1, b1⟩
theorem va_ldcwS {p : Program} {l : Launch} {e : Env} {R : Room} {s : State} {m : MethodId} {args : Array Value} {below : List Frame} {meth : Method} {c : Code} {T : State} {locs : List Loc} {cells slots : Nat} (X : Stand p l e R s m args below meth c T locs cells slots) (hexec : p.tables.exec = Jvm.exec) {own text : String} {index : Nat} {a : Addr} (hown : s.vm.findClass own = some m.cls)
    (hconst : (Cond.stringRef own index text).before args s = true) (hev : (Term.string own index).eval args s none [] s = some (.ref a)) {g : JFrame} (hg : g.method = m) (hdg : decode c.code g.pc = .ok (.ldc_w index, 3)) :
    ∀ target, Steps p.tables e below (T.setTop { g with pc := g.pc + 3, stack := .ref a :: g.stack }) target → Steps p.tables e below (T.setTop g) target := by
  obtain ⟨k, cf, i, a', hk, hcf, hcp, -, hr, hev'⟩ := Cond.stringRef_spec hown hconst
  cases hev.symm.trans hev'
  obtain ⟨k', hk', he⟩ := X.warmed.alike.2.2 _ _ hk
  have hr' : k'.resolved[index]? = some (some (.string a)) := by
    rcases X.warmed.entry hk hk' index with h | ⟨h, -⟩
    · rw [h]; exact hr
    · rw [hr] at h; cases h
  intro target hrest
  subst hg
  jvm_step X.here [hexec, hdg, ldc_w.wp_string (e := e) (s := T) (f := g) X.here.top hk' (by rw [he]; exact hcf) hcp hr']
  exact hrest
theorem zc_ldc10 (hM : M.1.cls = "SpooledPost") (hd : decode M.2.1 pc = .ok (.ldc_w 308, 3)) (kk : EvAt d M (pc + 3) lv (vQ (some (22, 10)) :: st) h Q) : EvAt d M pc lv st h Q := by
  intro G p l e s m args below meth c H locs ls B hR hS hl T hT X
  have hZ := B.2.2.2.2.2.2.2.2.2.2.2.2.2.2.2.2.2.2.2.1
  obtain ⟨t, a1, b1⟩ := kk G p l e s m args below meth c H locs ls B hR hS hl T hT X
  exact ⟨t, va_ldcwS X B.1 (own := "SpooledPost") (text := "Returned: ") (a := G.1 22 10) (by rw [← hM]; exact B.2.2.2.2.2.1) hZ.1 hZ.2 (g := F0 m pc ls (st.map (zv G))) rfl (by rw [B.2.1]; exact hd) t a1, b1⟩
end ZConsts
