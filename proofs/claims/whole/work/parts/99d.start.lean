/-! THE LAW, from its entry -/
theorem lw_ctor {p : Program} {l : Launch} {e : Env} {s : State} {m : MethodId} {below : List Frame} {meth : Method} {c : Code} {b L : Nat} {xs : Nat → Int32} {D : va_G} {K : Nat → ClassId} {N : ZM} {idx dc mcc msc cl sl q pc : Nat} {wr : va_W} {e0 : va_E} {Q0 : (Nat → ClassId) → Nat → va_W → Prop} {Q : State → Prop} {H : Heap} {locs : List Loc} {ls : Array Slot} {st : List Value} (C0 : lw_At p s m meth c b L xs) (hv : nCv N 0) (hlk : Cond.methodLink R_law idx N.1 ∈ WS) (hK : nK D K s) (hP : va_P D vwCl (wr ++ [(q, e0)]) H) (hD : va_D (fun q : Nat => s.heap.size ≤ q) (wr ++ [(q, e0)])) (hS : va_S (fun q : Nat => s.heap.size ≤ q) s.heap H locs) (hls : ls.size = 4) (hcat : (st.map fun v => v.category).sum ≤ 8) (hdc : dc ≤ 100) (h1 : cl + mcc ≤ 600000) (h2 : sl + msc ≤ 7302249) (hd : decode code pc = .ok (.invokespecial idx, 3)) (C : NvCall dc mcc msc N [] e0 Q0)
    (kk : ∀ w1 H1 locs1, Q0 K q w1 → va_P D vwCl (wr ++ w1) H1 → va_D (fun q : Nat => s.heap.size ≤ q) (wr ++ w1) → va_S (fun q : Nat => s.heap.size ≤ q) s.heap H1 locs1 → W p l e room_1 s m #[Value.ref b] below meth c H1 locs1 (cl + mcc) (sl + msc) Q (F0 m (pc + 3) ls st)) : W p l e room_1 s m #[Value.ref b] below meth c H locs cl sl Q (F0 m pc ls (.ref q :: st)) := by
  obtain ⟨x1, x2, x3, x4, x5, x6, x7, x8, x9, x10⟩ := C0
  obtain ⟨hN, hw2, hw3, hnm, hret, hds, hnl⟩ := hv
  have hmem : ∀ w ∈ zwsM N, ∀ (a' : Array Value) (U : State), s.WarmedH U.vm → w.before a' U = true := fun w hw' a' U hW => by
    rcases List.mem_cons.mp hw' with rfl | z
    · exact word_at hW (Or.inl rfl) (x6 _ (WStbl _ hN))
    · exact word_at hW (zgood w z) (x6 _ (WStbl w z))
  have cw : CallB room_1 s #[Value.ref b] R_law idx N.1 N.2.1 N.2.2.1 none (zwsM N) (rmN dc mcc msc) mcc msc 0 ∧ N.1.name = "<init>" ∧ (Cond.instanceMethod N.1).before #[Value.ref b] s = true := ⟨⟨rfl, rfl, by show dc + 1 ≤ 2048; omega, by show 8 + (N.2.2.1 + 11) + 60 * dc ≤ 84000; omega, hmem, by have := List.mem_cons_self (a := Cond.code N.1 N.2.1 N.2.2.1 N.2.2.2) (l := WS); rw [hret] at this; unfold zwsM; rw [hret]; exact this, by have := x6 _ (WStbl _ hN); rw [hret] at this; exact this, x6 _ (WStbl _ hw3), ⟨hds.1, hds.2.1⟩, fun sig hs => by
      have h3 := hds.2.2
      rw [hs] at h3
      exact (Option.some.inj h3).symm, x6 _ (WStbl _ hlk)⟩, hnm, x6 _ (WStbl _ hw2)⟩
  have hb : (wr ++ [(q, e0)])[wr.length]? = some (q, e0) := by
    rw [List.getElem?_append_right (Nat.le_refl _), Nat.sub_self]
    rfl
  have hPc : va_P D vwCl [(q, e0)] H := fun k x hq => by
    have h9 : k < 1 := (List.getElem?_eq_some_iff.mp hq).1
    rw [show k = 0 by omega] at hq
    exact hP wr.length x (hb.trans hq)
  have hF : ∀ x, va_A [(q, e0)] H.size x → (fun q : Nat => s.heap.size ≤ q) x := by
    rintro x (⟨k2, e2, z⟩ | z)
    · have h9 : k2 < 1 := (List.getElem?_eq_some_iff.mp z).1
      rw [show k2 = 0 by omega] at z
      have z : (q, e0) = (x, e2) := Option.some.inj z
      rw [show x = q from (congrArg Prod.fst z).symm]
      exact hD.2 wr.length (q, e0) hb
    · exact Nat.le_trans hS.1 z
  refine va_callv (va_runI (p := p) (e := e) (below := below) (meth := meth) (locs := locs) (cells := cl) (slots := sl) (As := []) (rest := st) (g := F0 m pc ls (.ref q :: st)) ⟨x1, x2, x4, x5, x6⟩ (C l D K q H.size) cw ⟨fun a U g mk q => by obtain ⟨q0, q1, qP, qK⟩ := q; exact ⟨q0, q1, qP, nK.moved (u := U) (U := U.calling g mk a) (Vm.Alike.refl U.vm) qK⟩, fun U hU hW => ⟨rfl, by rw [hU], by rw [hU]; exact hPc, nK.moved hW.alike hK⟩⟩ rfl rfl hls rfl (lv_room hcat) hd ⟨h1, h2⟩) hS (fun q _ z => hF q z) hF (fun u t H1 locs1 ht hvm hpost hB hsz hk hS1 => ?_)
  obtain ⟨hP1, hD1⟩ := hB
  rw [ht] at hP1
  obtain ⟨hP2, hD2⟩ := nv_join hP hD hk hF hP1 hD1
  exact kk u H1 locs1 hpost hP2 hD2 hS1
theorem tblI {w : Cond} (h : w ∈ WS) : w ∈ lw_tbl := WStbl w h
set_option maxRecDepth 100000 in
theorem whole_start {p : Program} {e : Env} {s : State} {m : MethodId} {below : List Frame} {meth : Method} {c : Code} (l : Launch) {b L : Nat} {xs : Nat → Int32} (hL : L ≤ 2048) (C0 : lw_At p s m meth c b L xs) : W p l e room_1 s m #[Value.ref b] below meth c s.heap [] 0 0 (lw_Z below #[Value.ref b] s) (entryFrame m ([Value.ref b] : List Value).toArray 4) := by
  obtain ⟨hx, hb, hr, hml, hown, hts, hX, hbl, hlocks, hgv⟩ := id C0
  have hA : ∀ q : Nat, s.heap.size ≤ q → (fun q : Nat => s.heap.size ≤ q) q := fun _ h => h
  obtain ⟨c0, i0, k0⟩ := u_known (n := 5) hts (fun w hw => tblI (kI_P w hw)) (hts (.instantiable "SpooledPost" 5) (by decide +kernel))
  obtain ⟨c1, i1, k1⟩ := u_known (n := 2) hts (fun w hw => tblI (kI_R w hw)) (hts (.instantiable "SpooledPost$Row" 2) (by decide +kernel))
  obtain ⟨c2, i2, k2⟩ := u_known (n := 8) hts (fun w hw => tblI (kI_S w hw)) (hts (.instantiable "SpooledPost$Session" 8) (by decide +kernel))
  obtain ⟨c3, i3, k3⟩ := u_known (n := 5) hts (fun w hw => tblI (kI_O w hw)) (hts (.instantiable "SpooledPost$Spool" 5) (by decide +kernel))
  obtain ⟨c4, i4, k4⟩ := u_known (n := 6) hts (fun w hw => tblI (kI_L w hw)) (hts (.instantiable "SpooledPost$Letter" 6) (by decide +kernel))
  obtain ⟨c5, i5, k5⟩ := u_known (n := 4) hts (fun w hw => tblI (kI_C w hw)) (hts (.instantiable "SpooledPost$Recipient" 4) (by decide +kernel))
  obtain ⟨c6, i6, k6⟩ := u_known (n := 6) hts (fun w hw => tblI (kI_D w hw)) (hts (.instantiable "SpooledPost$PartReader" 6) (by decide +kernel))
  obtain ⟨c7, i7, k7⟩ := u_known (n := 31) hts (fun w hw => tblI (kI_M w hw)) (hts (.instantiable "SpooledPostModel" 31) (by decide +kernel))
  obtain ⟨D, hKc⟩ : ∃ D : va_G, ∀ (k : Nat) (q : vw_C), vwCl[k]? = some q → u_Kn s q.1 q.2.1 q.2.2 (D.1 k) (D.2 k) := by
    refine ⟨(fun k => [c0, c1, c2, c3, c4, c5, c6, c7].getD k c0, fun k => [i0, i1, i2, i3, i4, i5, i6, i7].getD k i0), ?_⟩
    intro k q hq
    match k, hq with
    | 0, hq => cases hq; exact k0
    | 1, hq => cases hq; exact k1
    | 2, hq => cases hq; exact k2
    | 3, hq => cases hq; exact k3
    | 4, hq => cases hq; exact k4
    | 5, hq => cases hq; exact k5
    | 6, hq => cases hq; exact k6
    | 7, hq => cases hq; exact k7
    | k + 8, hq => cases hq
  have ao : nAO s := ⟨va_AO.of (hts (.arrayOver (.object "SpooledPost$Row")) (by decide +kernel)), va_AO.of (hts (.arrayOver (.object "SpooledPost$Letter")) (by decide +kernel)), va_AO.of (hts (.arrayOver (.object "SpooledPost$Recipient")) (by decide +kernel))⟩
  obtain ⟨a0, r0⟩ := arr_prim (Or.inl rfl) (hts (.arrayClass .int) (by decide +kernel))
  obtain ⟨a1, r1⟩ := arr_prim (Or.inr (Or.inl rfl)) (hts (.arrayClass .char) (by decide +kernel))
  obtain ⟨a2, r2⟩ := arr_prim (Or.inr (Or.inr rfl)) (hts (.arrayClass .boolean) (by decide +kernel))
  obtain ⟨a3, r3⟩ := arr_obj ao.1
  obtain ⟨a4, r4⟩ := arr_obj ao.2.1
  obtain ⟨a5, r5⟩ := arr_obj ao.2.2
  obtain ⟨K, hKa⟩ : ∃ K : Nat → ClassId, ∀ (k : Nat) (q : ClassId × FieldType), (ztyK K)[k]? = some q → ArrOfT s q.1 q.2 ∧ va_RA s q.1 q.2 := by
    refine ⟨fun k => [a0, a1, a2, a3, a4, a5].getD k a0, ?_⟩
    intro k q hq
    match k, hq with
    | 0, hq => cases hq; exact r0
    | 1, hq => cases hq; exact r1
    | 2, hq => cases hq; exact r2
    | 3, hq => cases hq; exact r3
    | 4, hq => cases hq; exact r4
    | 5, hq => cases hq; exact r5
    | k + 6, hq => cases hq
  have hK0 : va_K D vwCl (ztyK K) s := ⟨hKc, hKa⟩
  have hK : nK D K s := ⟨hK0, ao⟩
  obtain ⟨cs, hcs⟩ := const_of hts hgv
  have hS : va_S (fun q : Nat => s.heap.size ≤ q) s.heap s.heap [] := va_S.rf
  have hP : va_P D vwCl [] s.heap := fun k q h => by simp at h
  have hD : va_D (fun q : Nat => s.heap.size ≤ q) [] := ⟨fun i j p q h => by simp at h, fun k q h => by simp at h⟩
  have hl := lv_entry ([.ref b]) (n := 4) (Nat.le_of_ble_eq_true rfl)
  rw [lg_entry_eq]
  generalize (lg_sl ([.ref b]) ++ List.replicate (4 - (lg_sl ([.ref b])).length) Slot.unset).toArray = ls at hl ⊢
  have hl : lv_has ls 4 [(0, .ref b)] := hl
  refine va_new (ci := 0) (fs := [.null, .null, .null, .null, .int 0]) (C := "SpooledPost") (T := kT_P) (N := 5) (own := R_law) (index := 7) hx hb hts (fun w hw => tblI (kI_P w hw)) kY_P kO_P hown (hts _ (by decide +kernel)) (hts _ (by decide +kernel)) (hts _ (by decide +kernel)) hK0 hP hD hS hA rfl (by decide +kernel) (Nat.le_of_ble_eq_true rfl) (Nat.le_of_ble_eq_true rfl) (show decode code 0 = .ok (.new 7, 3) by decide +kernel) (fun b1 H hP hD hS => ?_)
  refine lv_dup hx hb (show decode code 3 = .ok (.dup, 1) by decide +kernel) rfl ?_
  refine lw_ctor (idx := 9) (wr := []) C0 cv_P (by decide +kernel) hK hP hD hS hl.1 (Nat.le_of_ble_eq_true rfl) (show 5 ≤ 100 by decide) (by decide) (by decide) (show decode code 4 = .ok (.invokespecial 9, 3) by decide +kernel) (ct_P 0) ?_
  rintro _ H locs ⟨x0, x1, sA, fs, o, oq, oa, of, pp, pq, pr, rfl⟩ hP hD hS
  refine lv_astore_n (lv' := [(1, .ref b1), (0, .ref b)]) hx hb (show decode code 7 = .ok (.astore_n 1, 1) by decide +kernel) rfl hl (by decide) rfl (fun ls hl => ?_)
  refine va_new (ci := 7) (fs := [.int 0, .int 0, .int 0, .int 0, .null, .int 0, .int 0, .int 0, .int 0, .null, .null, .null, .null, .null, .null, .null, .null, .null, .int 0, .null, .int 0, .null, .null, .null, .null, .int 0, .null, .null, .null, .int 0, .int 0]) (C := "SpooledPostModel") (T := kT_M) (N := 31) (own := R_law) (index := 10) hx hb hts (fun w hw => tblI (kI_M w hw)) kY_M kO_M hown (hts _ (by decide +kernel)) (hts _ (by decide +kernel)) (hts _ (by decide +kernel)) hK0 hP hD hS hA rfl (by decide +kernel) (Nat.le_of_ble_eq_true rfl) (Nat.le_of_ble_eq_true rfl) (show decode code 8 = .ok (.new 10, 3) by decide +kernel) (fun b2 H hP hD hS => ?_)
  refine lv_dup hx hb (show decode code 11 = .ok (.dup, 1) by decide +kernel) rfl ?_
  refine lw_ctor (idx := 12) C0 cv_M (by decide +kernel) hK hP hD hS hl.1 (Nat.le_of_ble_eq_true rfl) (show 1 ≤ 100 by decide) (by decide) (by decide) (show decode code 12 = .ok (.invokespecial 12, 3) by decide +kernel) (ct_M 0) ?_
  rintro _ H locs ⟨fm, rfl⟩ hP hD hS
  refine lv_astore_n (lv' := [(2, .ref b2), (1, .ref b1), (0, .ref b)]) hx hb (show decode code 15 = .ok (.astore_n 2, 1) by decide +kernel) rfl hl (by decide) rfl (fun ls hl => ?_)
  refine lv_iconst (v := 0) hx hb (show decode code 16 = .ok (.iconst 0, 1) by decide +kernel) rfl ?_
  refine lv_istore_n (lv' := [(3, .int 0), (2, .ref b2), (1, .ref b1), (0, .ref b)]) hx hb (show decode code 17 = .ok (.istore_n 3, 1) by decide +kernel) rfl hl (by decide) rfl (fun ls hl => ?_)
  refine W.widen (k := 149) (n := 16020) (by decide) (by decide) ?_
  obtain ⟨rep, ok⟩ := rep_of (D := D) (G := (gAd b1 x0 x1 sA fs o oq oa of pp pq pr b2 fm cs, D, K, s.heap.size)) (A := fun q : Nat => s.heap.size ≤ q) rfl (fun q z => z) ok_all hP hD
  have X : lCx p s m meth c b L xs (gAd b1 x0 x1 sA fs o oq oa of pp pq pr b2 fm cs, D, K, s.heap.size) := ⟨C0, hK0, ok, hcs b1 x0 x1 sA fs o oq oa of pp pq pr b2 fm D K, rfl, hL⟩
  exact law_loop X 512 0 h00 S00 (by decide) (by omega) inv00 (by decide) (by decide) H locs ls rep hS (lv_sub hl [3, 2, 1, 0] rfl)
