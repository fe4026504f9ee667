theorem zo_drop {d : Nat} {M : ZM} {pc : Nat} {lv : List (Option ZV)} {st : List ZV} {h : ZH} {Q : Option ZV → ZH → Prop} (i : Nat) (k : EvAt d M pc (lv.set i none) st h Q) : EvAt d M pc lv st h Q := by
  intro G p l e s m args below meth c H locs ls B hR hS hl
  refine k G p l e s m args below meth c H locs ls B hR hS ⟨hl.1, hl.2.1, fun q hq => hl.2.2 q ?_⟩
  obtain ⟨j, v, h1, h2⟩ := (zpairs_mem _ 0).mp hq
  refine (zpairs_mem _ 0).mpr ⟨j, v, ?_, h2⟩
  by_cases e : j = i
  · subst e
    rw [List.getElem?_set_self (by have := (List.getElem?_eq_some_iff.mp h1).1; simpa using this)] at h1
    cases h1
  · rw [List.getElem?_set_ne (Ne.symm e)] at h1
    exact h1
theorem zgetD_mem {α : Type} {l : List α} {n : Nat} {a : α} (h : n < l.length) : l.getD n a ∈ l := by
  rw [List.getD_eq_getElem?_getD, List.getElem?_eq_getElem h]
  exact List.getElem_mem h
section ZConsts
variable {d : Nat} {M : ZM} {pc idx : Nat} {lv : List (Option ZV)} {st : List ZV} {h : ZH} {Q : Option ZV → ZH → Prop}
theorem zc_COMMANDS (hlk : Cond.fieldLink M.1.cls idx "SpooledPost" "COMMANDS" "[LSpooledPost$Command;" ∈ WS) (hd : decode M.2.1 pc = .ok (.getstatic idx, 3)) (kk : EvAt d M (pc + 3) lv (vQ (some (21, 0)) :: st) h Q) : EvAt d M pc lv st h Q :=
  fun G p l e s m args below meth c H locs ls B hR hS hl => va_gets B.1 B.2.1 B.2.2.2.2.2.2.2.2.2.1 hS B.2.2.2.2.2.1 (zX_hts B hlk) (fun _ z => z) hd (kk G p l e s m args below meth c H locs ls B hR hS hl)
theorem zc_SW (hlk : Cond.fieldLink M.1.cls idx "SpooledPost$1" "$SwitchMap$SpooledPost$Command" "[I" ∈ WS) (hd : decode M.2.1 pc = .ok (.getstatic idx, 3)) (kk : EvAt d M (pc + 3) lv (vQ (some (23, 0)) :: st) h Q) : EvAt d M pc lv st h Q :=
  fun G p l e s m args below meth c H locs ls B hR hS hl => va_gets B.1 B.2.1 B.2.2.2.2.2.2.2.2.2.2.2.1 hS B.2.2.2.2.2.1 (zX_hts B hlk) (fun _ z => z) hd (kk G p l e s m args below meth c H locs ls B hR hS hl)
theorem zc_compact (hlk : Cond.fieldLink M.1.cls idx "java/lang/String" "COMPACT_STRINGS" "Z" ∈ WS) (hd : decode M.2.1 pc = .ok (.getstatic idx, 3)) (kk : EvAt d M (pc + 3) lv (vI 1 :: st) h Q) : EvAt d M pc lv st h Q :=
  fun G p l e s m args below meth c H locs ls B hR hS hl => va_gets B.1 B.2.1 B.2.2.2.2.2.2.2.2.2.2.2.2.2.1 hS B.2.2.2.2.2.1 (zX_hts B hlk) (fun _ z => z) hd (kk G p l e s m args below meth c H locs ls B hR hS hl)
theorem zc_clen (hd : decode M.2.1 pc = .ok (.arraylength, 1)) (kk : EvAt d M (pc + 1) lv (vI 8 :: st) h Q) : EvAt d M pc lv (vQ (some (21, 0)) :: st) h Q :=
  fun G p l e s m args below meth c H locs ls B hR hS hl => va_tlen B.1 B.2.1 B.2.2.2.2.2.2.2.2.2.2.1 hS rfl hd (kk G p l e s m args below meth c H locs ls B hR hS hl)
theorem zc_cald {x : Int32} (hin : vp_in x 8) (hd : decode M.2.1 pc = .ok (.aaload, 1)) (kk : EvAt d M (pc + 1) lv (vQ (some (20, x.toNatClampNeg)) :: st) h Q) : EvAt d M pc lv (vI x :: vQ (some (21, 0)) :: st) h Q :=
  fun G p l e s m args below meth c H locs ls B hR hS hl => vb_tq B.1 B.2.1 B.2.2.2.2.2.2.2.2.2.2.1 hS hin rfl hd (kk G p l e s m args below meth c H locs ls B hR hS hl)
theorem zc_swald {x : Int32} (hin : vp_in x 8) (hd : decode M.2.1 pc = .ok (.iaload, 1)) (kk : EvAt d M (pc + 1) lv (vI (zSw.getD x.toNatClampNeg 0) :: st) h Q) : EvAt d M pc lv (vI x :: vQ (some (23, 0)) :: st) h Q :=
  fun G p l e s m args below meth c H locs ls B hR hS hl => va_ti B.1 B.2.1 B.2.2.2.2.2.2.2.2.2.2.2.2.1 hS hin rfl hd (kk G p l e s m args below meth c H locs ls B hR hS hl)
theorem zc_word {i : Nat} (hlk : Cond.fieldLink M.1.cls idx "SpooledPost$Command" "word" "Ljava/lang/String;" ∈ WS) (hi : i < 8) (hd : decode M.2.1 pc = .ok (.getfield idx, 3)) (kk : EvAt d M (pc + 3) lv (vQ (some (22, i)) :: st) h Q) : EvAt d M pc lv (vQ (some (20, i)) :: st) h Q :=
  fun G p l e s m args below meth c H locs ls B hR hS hl => vk_getf B.1 B.2.1 (B.2.2.2.2.2.2.2.2.2.2.2.2.2.2.2.1 i hi).2.1 hS B.2.2.2.2.2.1 (zX_hts B hlk) (fun _ z => z) hd (kk G p l e s m args below meth c H locs ls B hR hS hl)
theorem zc_S {G : ZG} {U : State} {H : Heap} (h : zConst G U H) : vk_S 14 zSL zSB (G.1 22) (G.1 24) (zA G) U H := h.2.2.2.2.2.1
theorem zc_value {i : Nat} (hlk : Cond.fieldLink M.1.cls idx "java/lang/String" "value" "[B" ∈ WS) (hi : i < 14) (hd : decode M.2.1 pc = .ok (.getfield idx, 3)) (kk : EvAt d M (pc + 3) lv (vQ (some (24, i)) :: st) h Q) : EvAt d M pc lv (vQ (some (22, i)) :: st) h Q :=
  fun G p l e s m args below meth c H locs ls B hR hS hl => vk_getf B.1 B.2.1 ((zc_S B.2.2.2.2.2.2.2.2.2).1 i hi).2.2.1 hS B.2.2.2.2.2.1 (zX_hts B hlk) (fun _ z => z) hd (kk G p l e s m args below meth c H locs ls B hR hS hl)
theorem zc_coderF {i : Nat} (hlk : Cond.fieldLink M.1.cls idx "java/lang/String" "coder" "B" ∈ WS) (hi : i < 14) (hd : decode M.2.1 pc = .ok (.getfield idx, 3)) (kk : EvAt d M (pc + 3) lv (vI 0 :: st) h Q) : EvAt d M pc lv (vQ (some (22, i)) :: st) h Q :=
  fun G p l e s m args below meth c H locs ls B hR hS hl => vk_getf B.1 B.2.1 ((zc_S B.2.2.2.2.2.2.2.2.2).1 i hi).2.1 hS B.2.2.2.2.2.1 (zX_hts B hlk) (fun _ z => z) hd (kk G p l e s m args below meth c H locs ls B hR hS hl)
theorem zc_vlen {i : Nat} (hi : i < 14) (hd : decode M.2.1 pc = .ok (.arraylength, 1)) (kk : EvAt d M (pc + 1) lv (vI (nI (zSL.getD i 0)) :: st) h Q) : EvAt d M pc lv (vQ (some (24, i)) :: st) h Q :=
  fun G p l e s m args below meth c H locs ls B hR hS hl => va_tlen B.1 B.2.1 ((zc_S B.2.2.2.2.2.2.2.2.2).1 i hi).2.2.2 hS rfl hd (kk G p l e s m args below meth c H locs ls B hR hS hl)
theorem zc_vald {i : Nat} {x : Int32} (hi : i < 14) (hin : vp_in x (zSL.getD i 0)) (hd : decode M.2.1 pc = .ok (.baload, 1)) (kk : EvAt d M (pc + 1) lv (vI ((zSB.getD i []).getD x.toNatClampNeg 0) :: st) h Q) : EvAt d M pc lv (vI x :: vQ (some (24, i)) :: st) h Q :=
  fun G p l e s m args below meth c H locs ls B hR hS hl => va_tb B.1 B.2.1 ((zc_S B.2.2.2.2.2.2.2.2.2).1 i hi).2.2.2 hS hin rfl hd (kk G p l e s m args below meth c H locs ls B hR hS hl)
theorem zc_min (hlk : Cond.methodLink M.1.cls idx Lib.Math.min.name ∈ WS) {x y : Int32} (hcat : (st.map zcat).sum ≤ 8) (hd : decode M.2.1 pc = .ok (.invokestatic idx, 3)) (kk : EvAt (d + 1) M (pc + 3) lv (vI (if y < x then y else x) :: st) h Q) : EvAt (d + 1) M pc lv (vI y :: vI x :: st) h Q := by
  intro G p l e s m args below meth c H locs ls B hR hS hl
  refine va_mmin B.1 B.2.1 (B.2.2.2.1.trans hl.1.symm) B.2.2.2.2.2.1 (zX_hts B hlk) (zX_hts B wd_341) (zX_hts B wd_75) (zX_hts B wd_342) ?_ ?_ (Nat.zero_le _) (Nat.zero_le _) hd (kk G p l e s m args below meth c H locs ls B hR hS hl)
  · show 1 ≤ d + 1
    omega
  · rw [zSum]
    show (st.map zcat).sum + 13 ≤ 60 * (d + 1)
    omega
theorem zc_copy {a b : Nat} {sp dp n : Int32} (hlk : Cond.methodLink M.1.cls idx arraycopyName ∈ WS) (ha : a < 43) (hb : b < 43) (hp : ¬ sp < 0 ∧ ¬ dp < 0 ∧ ¬ n < 0 ∧ sp.toNatClampNeg + n.toNatClampNeg ≤ zLen 2 a ∧ dp.toNatClampNeg + n.toNatClampNeg ≤ zLen 2 b ∧ ∀ i, i < n.toNatClampNeg → fits .char (.int (zi h 2 a (sp.toNatClampNeg + i))) = true) (hcat : (st.map zcat).sum ≤ 8)
    (hd : decode M.2.1 pc = .ok (.invokestatic idx, 3)) (kk : EvAt (d + 1) M (pc + 3) lv st (zcp h 2 a b sp.toNatClampNeg dp.toNatClampNeg n.toNatClampNeg) Q) : EvAt (d + 1) M pc lv (vI n :: vI dp :: vQ (some (2, b)) :: vI sp :: vQ (some (2, a)) :: st) h Q := by
  intro G p l e s m args below meth c H locs ls B hR hS hl
  obtain ⟨h1, h2, h3, h4, h5, h6⟩ := hp
  obtain ⟨q0, e1, -⟩ := zpos B.2.2.2.2.2.2.2.2.1 (zin (k := 2) (by decide) ha)
  obtain ⟨q1, f1, f2⟩ := zpos B.2.2.2.2.2.2.2.2.1 (zin (k := 2) (by decide) hb)
  have he := e1 h
  have hf := f1 h
  have hset := f2 h (zcp h 2 a b sp.toNatClampNeg dp.toNatClampNeg n.toNatClampNeg) (zcp_off h 2 a b _ _ _)
  have hE : zE G (zcp h 2 a b sp.toNatClampNeg dp.toNatClampNeg n.toNatClampNeg) 2 b = .inl (G.2.2.1 (zarr 2), zLen 2 b, .inl (va_cpy (fun j => h.1 2 a j) (fun j => h.1 2 b j) sp.toNatClampNeg dp.toNatClampNeg n.toNatClampNeg)) := by
    rw [zE_arr rfl rfl]
    refine congrArg Sum.inl (congrArg (Prod.mk _) (congrArg (Prod.mk _) (congrArg Sum.inl ?_)))
    funext j
    show (if 2 = 2 ∧ b = b ∧ dp.toNatClampNeg ≤ j ∧ j < dp.toNatClampNeg + n.toNatClampNeg then _ else _) = _
    unfold va_cpy
    by_cases hc : dp.toNatClampNeg ≤ j ∧ j < dp.toNatClampNeg + n.toNatClampNeg
    · rw [if_pos ⟨rfl, rfl, hc⟩, if_pos hc]
    · rw [if_neg (fun z => hc z.2.2), if_neg hc]
  rw [hE] at hset
  rw [zE_arr rfl rfl] at he hf
  refine va_copyi B.1 B.2.1 (B.2.2.2.1.trans hl.1.symm) B.2.2.2.2.2.1 (zX_hts B hlk) (zX_hts B wd_345) (zX_hts B wd_344) (zX_hts B wd_76) B.2.2.2.2.2.2.2.1 hR (zD h B.2.2.2.2.2.2.2.2.1) hS q0 q1 1 1 he hf (ztys_at G (t := 1) (ty := .char) rfl) (ztys_at G (t := 1) (ty := .char) rfl) rfl h1 h2 h3 h4 h5 h6 ?_ ?_ hd (fun H1 locs1 hP1 hD1 hS1 => ?_)
  · show 1 ≤ d + 1
    omega
  · rw [zSum]
    show (st.map zcat).sum + (nativeFrameWords "java/lang/System" "arraycopy" 5 + 11) ≤ 60 * (d + 1)
    have : nativeFrameWords "java/lang/System" "arraycopy" 5 ≤ 41 := by decide +kernel
    omega
  · rw [hset] at hP1
    exact kk G p l e s m args below meth c H1 locs1 ls B hP1 hS1 hl
theorem zc_ldc8 (hM : M.1.cls = "SpooledPost") (hd : decode M.2.1 pc = .ok (.ldc 225, 2)) (kk : EvAt d M (pc + 2) lv (vQ (some (22, 8)) :: st) h Q) : EvAt d M pc lv st h Q :=
  fun G p l e s m args below meth c H locs ls B hR hS hl => va_ldcS B.1 B.2.1 (own := "SpooledPost") (by rw [← hM]; exact B.2.2.2.2.2.1) B.2.2.2.2.2.2.2.2.2.2.2.2.2.2.2.2.2.1 hd (kk G p l e s m args below meth c H locs ls B hR hS hl)
theorem zc_ldc9 (hM : M.1.cls = "SpooledPost") (hd : decode M.2.1 pc = .ok (.ldc 237, 2)) (kk : EvAt d M (pc + 2) lv (vQ (some (22, 9)) :: st) h Q) : EvAt d M pc lv st h Q :=
  fun G p l e s m args below meth c H locs ls B hR hS hl => va_ldcS B.1 B.2.1 (own := "SpooledPost") (by rw [← hM]; exact B.2.2.2.2.2.1) B.2.2.2.2.2.2.2.2.2.2.2.2.2.2.2.2.2.2.1 hd (kk G p l e s m args below meth c H locs ls B hR hS hl)
theorem zc_ldc11 (hM : M.1.cls = "SpooledPost$PartReader") (hd : decode M.2.1 pc = .ok (.ldc 90, 2)) (kk : EvAt d M (pc + 2) lv (vQ (some (22, 11)) :: st) h Q) : EvAt d M pc lv st h Q :=
  fun G p l e s m args below meth c H locs ls B hR hS hl => va_ldcS B.1 B.2.1 (own := "SpooledPost$PartReader") (by rw [← hM]; exact B.2.2.2.2.2.1) B.2.2.2.2.2.2.2.2.2.2.2.2.2.2.2.2.2.2.2.2.1 hd (kk G p l e s m args below meth c H locs ls B hR hS hl)
theorem zc_ldc12 (hM : M.1.cls = "SpooledPost$PartReader") (hd : decode M.2.1 pc = .ok (.ldc 104, 2)) (kk : EvAt d M (pc + 2) lv (vQ (some (22, 12)) :: st) h Q) : EvAt d M pc lv st h Q :=
  fun G p l e s m args below meth c H locs ls B hR hS hl => va_ldcS B.1 B.2.1 (own := "SpooledPost$PartReader") (by rw [← hM]; exact B.2.2.2.2.2.1) B.2.2.2.2.2.2.2.2.2.2.2.2.2.2.2.2.2.2.2.2.2.1 hd (kk G p l e s m args below meth c H locs ls B hR hS hl)
theorem zc_ldc13 (hM : M.1.cls = "SpooledPost$PartReader") (hd : decode M.2.1 pc = .ok (.ldc 106, 2)) (kk : EvAt d M (pc + 2) lv (vQ (some (22, 13)) :: st) h Q) : EvAt d M pc lv st h Q :=
  fun G p l e s m args below meth c H locs ls B hR hS hl => va_ldcS B.1 B.2.1 (own := "SpooledPost$PartReader") (by rw [← hM]; exact B.2.2.2.2.2.1) B.2.2.2.2.2.2.2.2.2.2.2.2.2.2.2.2.2.2.2.2.2.2 hd (kk G p l e s m args below meth c H locs ls B hR hS hl)
theorem zc_fmt (hlk : Cond.fieldLink M.1.cls idx "jdk/internal/util/Preconditions" "SIOOBE_FORMATTER" "Ljava/util/function/BiFunction;" ∈ WS) (hd : decode M.2.1 pc = .ok (.getstatic idx, 3)) (k1 : EvAt d M (pc + 3) lv (vQ none :: st) h Q) (k2 : EvAt d M (pc + 3) lv (vQ (some (25, 0)) :: st) h Q) : EvAt d M pc lv st h Q := by
  intro G p l e s m args below meth c H locs ls B hR hS hl
  rcases B.2.2.2.2.2.2.2.2.2.2.2.2.2.2.2.2.1 with z | z
  · exact va_gets B.1 B.2.1 z hS B.2.2.2.2.2.1 (zX_hts B hlk) (fun _ z => z) hd (k1 G p l e s m args below meth c H locs ls B hR hS hl)
  · exact va_gets B.1 B.2.1 z hS B.2.2.2.2.2.1 (zX_hts B hlk) (fun _ z => z) hd (k2 G p l e s m args below meth c H locs ls B hR hS hl)
theorem zc_recS {i : Nat} (hi : i < 14) : ∀ (G : ZG) (s : State) (H : Heap) (locs : List Loc), zConst G s s.heap → va_S (zA G) s.heap H locs → ∃ cell : Cell, H[G.1 22 i]? = some cell ∧ cell.vm.isStatics = false ∧ s.vm.findClass "java/lang/String" = some cell.cls :=
  fun G s H locs hC hS => vk_recv (zc_S hC) hi hS
theorem e_JS_coder {i : Nat} (hi : i < 14) {h : ZH} {Q : Int32 → ZH → Prop} (hq : Q 0 h) : EvI d m_JS_coder [vQ (some (22, i))] h Q := by
  refine zo_entryF (by decide +kernel) (Nat.le_of_ble_eq_true rfl) ?_
  refine zc_compact wd_392 d_JS_coder_0 ?_
  refine zo_if_eq (tgt := 13) d_JS_coder_3 (by decide) (fun c => absurd c (by decide)) (fun c => ?_)
  refine zo_aload_n d_JS_coder_6 rfl rfl ?_
  refine zc_coderF wd_1031 hi d_JS_coder_7 ?_
  refine zo_goto (tgt := 14) d_JS_coder_10 (by decide) ?_
  exact zo_zretI (ty := .byte) rfl rfl d_JS_coder_14 hq
theorem e_JS_isLatin1 {i : Nat} (hi : i < 14) {h : ZH} {Q : Int32 → ZH → Prop} (hq : Q 1 h) : EvI d m_JS_isLatin1 [vQ (some (22, i))] h Q := by
  refine zo_entryF (by decide +kernel) (Nat.le_of_ble_eq_true rfl) ?_
  refine zc_compact wd_392 d_JS_isLatin1_0 ?_
  refine zo_if_eq (tgt := 17) d_JS_isLatin1_3 (by decide) (fun c => absurd c (by decide)) (fun c => ?_)
  refine zo_aload_n d_JS_isLatin1_6 rfl rfl ?_
  refine zc_coderF wd_1031 hi d_JS_isLatin1_7 ?_
  refine zo_if_ne (tgt := 17) d_JS_isLatin1_10 (by decide) (fun c => absurd rfl c) (fun c => ?_)
  refine zo_iconst (v := 1) d_JS_isLatin1_13 (by decide) ?_
  refine zo_goto (tgt := 18) d_JS_isLatin1_14 (by decide) ?_
  exact zo_zretI (ty := .boolean) rfl rfl d_JS_isLatin1_18 hq
theorem zSL_lt : ∀ i, i < 14 → zSL.getD i 0 < 2 ^ 31 := by decide +kernel
theorem e_JS_length {i : Nat} (hi : i < 14) {h : ZH} {Q : Int32 → ZH → Prop} (hq : Q (nI (zSL.getD i 0)) h) : EvI (d + 1) m_JS_length [vQ (some (22, i))] h Q := by
  refine zo_entryF (by decide +kernel) (Nat.le_of_ble_eq_true rfl) ?_
  refine zo_aload_n d_JS_length_0 rfl rfl ?_
  refine zc_value wd_1030 hi d_JS_length_1 ?_
  refine zc_vlen hi d_JS_length_4 ?_
  refine zo_aload_n d_JS_length_5 rfl rfl ?_
  refine zo_callK (d := d) (N := m_JS_coder) (as := []) (n := 0) (zc_recS hi) cv_JS_coder wd_388 rfl rfl (Nat.le_of_ble_eq_true rfl) d_JS_length_6 (e_JS_coder hi (Q := fun x h' => x = 0 ∧ h' = h) ⟨rfl, rfl⟩) ?_
  rintro r h' ⟨x, rfl, rfl, rfl⟩
  refine zo_ishr d_JS_length_9 ?_
  rw [sc_shr0 (zSL_lt i hi)]
  exact zo_iretI rfl d_JS_length_10 hq
theorem zc_slen {i : Nat} (hlk : Cond.methodLink M.1.cls idx m_JS_length.1 ∈ WS) (hi : i < 14) (hd : decode M.2.1 pc = .ok (.invokevirtual idx, 3)) (hcat : (st.map zcat).sum ≤ 8) (kk : EvAt (d + 2) M (pc + 3) lv (vI (nI (zSL.getD i 0)) :: st) h Q) : EvAt (d + 2) M pc lv (vQ (some (22, i)) :: st) h Q := by
  refine zo_callK (d := d + 1) (N := m_JS_length) (as := []) (n := 0) (zc_recS hi) cv_JS_length hlk rfl rfl hcat hd (e_JS_length hi (Q := fun x h' => x = nI (zSL.getD i 0) ∧ h' = h) ⟨rfl, rfl⟩) ?_
  rintro r h' ⟨x, rfl, rfl, rfl⟩
  exact kk
theorem e_JP_checkIndex {x n : Int32} {o : Option (Nat × Nat)} (h0 : ¬ x < 0) (h1 : x < n) {h : ZH} {Q : Int32 → ZH → Prop} (hq : Q x h) : EvI d m_JP_checkIndex [vI x, vI n, vQ o] h Q := by
  refine zo_entryF (by decide +kernel) (Nat.le_of_ble_eq_true rfl) ?_
  refine zo_iload_n d_JP_checkIndex_0 rfl rfl ?_
  refine zo_if_lt (tgt := 9) d_JP_checkIndex_1 (by decide) (fun c => absurd c h0) (fun c => ?_)
  refine zo_iload_n d_JP_checkIndex_4 rfl rfl ?_
  refine zo_iload_n d_JP_checkIndex_5 rfl rfl ?_
  refine zo_icmp_lt (tgt := 16) d_JP_checkIndex_6 (by decide) (fun c => ?_) (fun c => absurd h1 c)
  refine zo_iload_n d_JP_checkIndex_16 rfl rfl ?_
  exact zo_iretI rfl d_JP_checkIndex_17 hq
theorem e_JS_checkIndex {x n : Int32} (h0 : ¬ x < 0) (h1 : x < n) {h : ZH} {Q : ZH → Prop} (hq : Q h) : EvV (d + 1) m_JS_checkIndex [vI x, vI n] h Q := by
  refine zo_entryF (by decide +kernel) (Nat.le_of_ble_eq_true rfl) ?_
  refine zo_iload_n d_JS_checkIndex_0 rfl rfl ?_
  refine zo_iload_n d_JS_checkIndex_1 rfl rfl ?_
  have key : ∀ o : Option (Nat × Nat), EvAt (d + 1) m_JS_checkIndex 5 [some (vI x), some (vI n)] [vQ o, vI n, vI x] h (zQV Q) := by
    intro o
    refine zo_callSI (d := d) (N := m_JP_checkIndex) (as := [vI x, vI n, vQ o]) (n := 3) cs_JP_checkIndex wd_413 rfl rfl (Nat.le_of_ble_eq_true rfl) d_JS_checkIndex_5 (e_JP_checkIndex h0 h1 (Q := fun y h' => y = x ∧ h' = h) ⟨rfl, rfl⟩) ?_
    rintro y h' ⟨rfl, rfl⟩
    refine zo_pop rfl d_JS_checkIndex_8 ?_
    exact zo_vretV rfl d_JS_checkIndex_9 hq
  exact zc_fmt wd_411 d_JS_checkIndex_2 (key none) (key (some (25, 0)))
theorem zSB_ok : ∀ i, i < 14 → zSL.getD i 0 = (zSB.getD i []).length ∧ ∀ b ∈ zSB.getD i [], ((b &&& 255).toUInt32 % 65536).toInt32 = b ∧ narrow .char (.int b) = .int b := by decide +kernel
theorem zSB_get {i n : Nat} (hi : i < 14) (hn : n < zSL.getD i 0) : (((zSB.getD i []).getD n 0 &&& 255).toUInt32 % 65536).toInt32 = (zSB.getD i []).getD n 0 ∧ narrow .char (.int ((zSB.getD i []).getD n 0)) = .int ((zSB.getD i []).getD n 0) := by
  obtain ⟨h1, h2⟩ := zSB_ok i hi
  refine h2 _ ?_
  exact zgetD_mem (by omega)
theorem e_JL_charAt {i : Nat} {x : Int32} (hi : i < 14) (hx : vp_in x (zSL.getD i 0)) {h : ZH} {Q : Int32 → ZH → Prop} (hq : Q ((zSB.getD i []).getD x.toNatClampNeg 0) h) : EvI (d + 2) m_JL_charAt [vQ (some (24, i)), vI x] h Q := by
  have hL := zSL_lt i hi
  obtain ⟨j, hj, rfl⟩ := vp_in_of hx hL
  refine zo_entryF (by decide +kernel) (Nat.le_of_ble_eq_true rfl) ?_
  refine zo_iload_n d_JL_charAt_0 rfl rfl ?_
  refine zo_aload_n d_JL_charAt_1 rfl rfl ?_
  refine zc_vlen hi d_JL_charAt_2 ?_
  refine zo_callSV (d := d + 1) (N := m_JS_checkIndex) (as := [vI (nI j), vI (nI (zSL.getD i 0))]) (n := 2) cs_JS_checkIndex wd_408 rfl rfl (Nat.le_of_ble_eq_true rfl) d_JL_charAt_3 (e_JS_checkIndex (nI_pos (by omega)) (nI_lt hj hL) (Q := fun h' => h' = h) rfl) ?_
  rintro h' rfl
  refine zo_aload_n d_JL_charAt_6 rfl rfl ?_
  refine zo_iload_n d_JL_charAt_7 rfl rfl ?_
  refine zc_vald hi hx d_JL_charAt_8 ?_
  refine zo_sipush (v := 255) d_JL_charAt_9 (by decide) ?_
  refine zo_iand d_JL_charAt_12 ?_
  refine zo_i2c d_JL_charAt_13 ?_
  have e := zSB_get hi (n := (nI j).toNatClampNeg) (by rw [nI_clamp (by omega)]; exact hj)
  rw [e.1]
  exact zo_zretI (ty := .char) rfl e.2 d_JL_charAt_14 hq
theorem e_JS_charAt {i : Nat} {x : Int32} (hi : i < 14) (hx : vp_in x (zSL.getD i 0)) {h : ZH} {Q : Int32 → ZH → Prop} (hq : Q ((zSB.getD i []).getD x.toNatClampNeg 0) h) : EvI (d + 3) m_JS_charAt [vQ (some (22, i)), vI x] h Q := by
  have hL := zSL_lt i hi
  refine zo_entryF (by decide +kernel) (Nat.le_of_ble_eq_true rfl) ?_
  refine zo_aload_n d_JS_charAt_0 rfl rfl ?_
  refine zo_callK (d := d + 2) (N := m_JS_isLatin1) (as := []) (n := 0) (zc_recS hi) cv_JS_isLatin1 wd_401 rfl rfl (Nat.le_of_ble_eq_true rfl) d_JS_charAt_1 (e_JS_isLatin1 hi (Q := fun y h' => y = 1 ∧ h' = h) ⟨rfl, rfl⟩) ?_
  rintro r h' ⟨y, rfl, rfl, rfl⟩
  refine zo_if_eq (tgt := 16) d_JS_charAt_4 (by decide) (fun c => absurd c (by decide)) (fun c => ?_)
  refine zo_aload_n d_JS_charAt_7 rfl rfl ?_
  refine zc_value wd_1030 hi d_JS_charAt_8 ?_
  refine zo_iload_n d_JS_charAt_11 rfl rfl ?_
  refine zo_callSI (d := d + 2) (N := m_JL_charAt) (as := [vQ (some (24, i)), vI x]) (n := 2) cs_JL_charAt wd_405 rfl rfl (Nat.le_of_ble_eq_true rfl) d_JS_charAt_12 (e_JL_charAt hi hx (Q := fun y h'' => y = (zSB.getD i []).getD x.toNatClampNeg 0 ∧ h'' = h') ⟨rfl, rfl⟩) ?_
  rintro y h'' ⟨rfl, rfl⟩
  obtain ⟨j, hj, e⟩ := vp_in_of hx hL
  exact zo_zretI (ty := .char) rfl (zSB_get hi (by rw [e, nI_clamp (by omega)]; exact hj)).2 d_JS_charAt_15 hq
theorem zc_charAt {i : Nat} {x : Int32} (hlk : Cond.methodLink M.1.cls idx m_JS_charAt.1 ∈ WS) (hi : i < 14) (hx : vp_in x (zSL.getD i 0)) (hcat : (st.map zcat).sum ≤ 8) (hd : decode M.2.1 pc = .ok (.invokevirtual idx, 3)) (kk : EvAt (d + 4) M (pc + 3) lv (vI ((zSB.getD i []).getD x.toNatClampNeg 0) :: st) h Q) : EvAt (d + 4) M pc lv (vI x :: vQ (some (22, i)) :: st) h Q := by
  refine zo_callK (d := d + 3) (N := m_JS_charAt) (as := [vI x]) (n := 1) (zc_recS hi) cv_JS_charAt hlk rfl rfl hcat hd (e_JS_charAt hi hx (Q := fun y h' => y = (zSB.getD i []).getD x.toNatClampNeg 0 ∧ h' = h) ⟨rfl, rfl⟩) ?_
  rintro r h' ⟨y, rfl, rfl, rfl⟩
  exact kk
theorem zc_ord {i : Nat} (hlk : Cond.methodLink M.1.cls idx ⟨"SpooledPost$Command", "ordinal", "()I"⟩ ∈ WS) (hi : i < 8) (hd : decode M.2.1 pc = .ok (.invokevirtual idx, 3)) (kk : EvAt (d + 1) M (pc + 3) lv (vI (nI i) :: st) h Q) : EvAt (d + 1) M pc lv (vQ (some (20, i)) :: st) h Q := sorry
theorem zc_ldc10 (hM : M.1.cls = "SpooledPost") (hd : decode M.2.1 pc = .ok (.ldc_w 308, 3)) (kk : EvAt d M (pc + 3) lv (vQ (some (22, 10)) :: st) h Q) : EvAt d M pc lv st h Q := sorry
end ZConsts
