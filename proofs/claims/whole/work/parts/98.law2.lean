/-! THE LAW'S LOOP, from its head -/
def lawPc : List Nat := [112, 165, 178, 201, 214, 237, 250, 273, 286, 299, 322, 355, 398, 431, 464, 487]
def lawOff : Array Int := #[80, 133, 146, 169, 182, 205, 218, 241, 254, 267, 290, 323, 366, 399, 432, 455]
theorem law_off : ∀ j, j < 16 → lawOff[j]? = some ((lawPc.getD j 0 : Int) - 32) := by decide
theorem law_in {p : Program} {l : Launch} {e : Env} {s : State} {m : MethodId} {below : List Frame} {meth : Method} {c : Code} {b L : Nat} {xs : Nat → Int32} {G : ZG} {i : Nat} {h : ZH} {S : ZS} (X : lCx p s m meth c b L xs G) (hi : i + 3 < L) (a : Inv h S) (hb : bnd S) (K : ∀ h' S', Inv h' S' → stp S S' → LAt p l e s m below meth c b G i 530 [] h') : ∀ j, j < 16 → LAt p l e s m below meth c b G i (lawPc.getD j 0) [] h := by
  intro j hj
  match j, hj with
  | 0, _ => exact lo_type X hi a hb K
  | 1, _ => exact lo_enter X hi a hb K
  | 2, _ => exact lo_breakAfter X hi a hb K
  | 3, _ => exact lo_restart X hi a hb K
  | 4, _ => exact lo_pass X hi a hb K
  | 5, _ => exact lo_next X hi a hb K
  | 6, _ => exact lo_reply X hi a hb K
  | 7, _ => exact lo_state X hi a hb K
  | 8, _ => exact lo_letters X hi a hb K
  | 9, _ => exact lo_letter X hi a hb K
  | 10, _ => exact lo_text X hi a hb K
  | 11, _ => exact lo_path X hi a hb K
  | 12, _ => exact lo_recipient X hi a hb K
  | 13, _ => exact lo_due X hi a hb K
  | 14, _ => exact lo_parts X hi a hb K
  | 15, _ => exact lo_part X hi a hb K
  | j + 16, hj => omega
theorem law_loop {p : Program} {l : Launch} {e : Env} {s : State} {m : MethodId} {below : List Frame} {meth : Method} {c : Code} {b L : Nat} {xs : Nat → Int32} {G : ZG} (X : lCx p s m meth c b L xs G) : ∀ (n k : Nat) (h : ZH) (S : ZS), k ≤ 513 → L ≤ 4 * k + 4 * n → Inv h S → sNow S ≤ 1000 * k → sGiv S ≤ k → LAt p l e s m below meth c b G (4 * k) 18 [] h := by
  obtain ⟨⟨x1, x2, x3, x4, x5, x6, x7, x8, x9, x10⟩, y1, y2, y3, y4, y5⟩ := id X
  have hbA : ¬ zA G b := fun z => by
    have z : G.2.2.2 ≤ b := z
    rw [y4] at z
    omega
  have head : ∀ (k : Nat) (h : ZH), k ≤ 513 → (4 * k + 3 < L → LAt p l e s m below meth c b G (4 * k) 26 [] h) → LAt p l e s m below meth c b G (4 * k) 18 [] h := by
    intro k h hk kk H locs ls hR hS hl
    refine lv_iload_n x1 x2 (show decode code 18 = .ok (.iload_n 3, 1) by decide +kernel) rfl (lv_at hl 3 rfl) ?_
    refine lv_aload_n x1 x2 (show decode code 19 = .ok (.aload_n 0, 1) by decide +kernel) rfl (lv_at hl 0 rfl) ?_
    refine va_slen x1 x2 x7 x8 hbA hS (show decode code 20 = .ok (.arraylength, 1) by decide +kernel) ?_
    refine lv_iconst (v := 4) x1 x2 (show decode code 21 = .ok (.iconst 4, 1) by decide +kernel) rfl ?_
    refine lv_isub x1 x2 (show decode code 22 = .ok (.isub, 1) by decide +kernel) ?_
    refine lv_icmp_gt (tgt := 536) x1 x2 (show decode code 23 = .ok (.if_icmp .gt 513, 3) by decide +kernel) rfl (fun z => ?_) (fun z => ?_)
    · refine lv_iconst (v := 1) x1 x2 (show decode code 536 = .ok (.iconst 1, 1) by decide +kernel) rfl ?_
      refine va_forget (fun q hq => ?_) ?_
      · have := hS.2.2 q hq
        have this : G.2.2.2 ≤ q.base := this
        rw [y4] at this
        exact this
      · refine W.widen (k := 600000) (n := 7302249) (by decide) (by decide) ?_
        exact lw_ret x1 x2 x3 x9 (show decode code 537 = .ok (.ireturn, 1) by decide +kernel)
    · refine kk ?_ H locs ls hR hS hl
      have z := Int32.not_lt.mp z
      rw [Int32.le_iff_toInt_le, show (Int32.ofNat L - 4 : Int32) = nI L - nI 4 from rfl, pk_sub_toInt (by omega) (by omega), nI_toInt (by omega)] at z
      omega
  intro n
  induction n with
  | zero =>
    intro k h S hk hL a h1 h2
    exact head k h hk (fun z => by omega)
  | succ n ih =>
    intro k h S hk hL a h1 h2
    refine head k h hk (fun hi => ?_)
    have hb : bnd S := ⟨by omega, by omega⟩
    have K : ∀ h' S', Inv h' S' → stp S S' → LAt p l e s m below meth c b G (4 * k) 530 [] h' := by
      intro h' S' iv t H locs ls hR hS hl
      refine lv_iinc (v := nI (4 * (k + 1))) (lv' := [(3, .int (nI (4 * (k + 1)))), (0, .ref b), (1, .ref (G.1 0 0)), (2, .ref (G.1 12 0))]) x1 x2 (show decode code 530 = .ok (.iinc 3 4, 3) by decide +kernel) hl (k := 3) rfl (by show nI (4 * k) + nI 4 = _; rw [nI_add]; rfl) (by decide) rfl (fun ls' hl' => ?_)
      refine lv_goto (tgt := 18) x1 x2 (show decode code 533 = .ok (.goto (-515), 3) by decide +kernel) rfl ?_
      exact ih (k + 1) h' S' (by omega) (by omega) iv (by have := t.1; omega) (by have := t.2.1; omega) H locs ls' hR hS (lv_sub hl' [1, 2, 3, 0] rfl)
    have J := law_in (l := l) (e := e) (below := below) X hi a hb K
    intro H locs ls hR hS hl
    refine lv_aload_n x1 x2 (show decode code 26 = .ok (.aload_n 0, 1) by decide +kernel) rfl (lv_at hl 0 rfl) ?_
    refine lv_iload_n x1 x2 (show decode code 27 = .ok (.iload_n 3, 1) by decide +kernel) rfl (lv_at hl 3 rfl) ?_
    refine va_sld x1 x2 x7 x8 hbA hS (vp_in_nI (show 4 * k < L by omega) (by omega)) (show decode code 28 = .ok (.iaload, 1) by decide +kernel) ?_
    refine lv_bipush (v := 15) x1 x2 (show decode code 29 = .ok (.bipush 15, 2) by decide +kernel) rfl ?_
    refine lv_iand x1 x2 (show decode code 31 = .ok (.iand, 1) by decide +kernel) ?_
    generalize (xs (nI (4 * k)).toNatClampNeg &&& 15) = x
    have dt : decode code 32 = .ok (.tableswitch 498 0 15 lawOff, 80) := by decide +kernel
    by_cases c1 : x.toInt < 0
    · exact lv_tableOut x1 x2 dt (Or.inl c1) (tgt := 530) rfl (K h S a stp.rfl' H locs ls hR hS hl)
    · by_cases c2 : 15 < x.toInt
      · exact lv_tableOut x1 x2 dt (Or.inr c2) (tgt := 530) rfl (K h S a stp.rfl' H locs ls hR hS hl)
      · have hj : x.toInt.toNat < 16 := by omega
        exact lv_tableIn x1 x2 dt c1 c2 (off := (lawPc.getD x.toInt.toNat 0 : Int) - 32) (tgt := lawPc.getD x.toInt.toNat 0) (by rw [Int.sub_zero]; exact law_off _ hj) (by omega) (J _ hj H locs ls hR hS hl)
