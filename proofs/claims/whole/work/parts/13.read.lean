set_option maxRecDepth 100000 in
set_option maxHeartbeats 4000000 in
theorem w_D_read_0 {d : Nat} (i1 : Nat) (hi1 : i1 < 6) {h : ZH} {Q : ZH → Prop}
    (hf : ((¬ (zi h 7 i1 4) = (zi h 10 0 5) → EvV d m_D_splitLines [vQ (some (10, 0))] (zwr (zw h 10 0 5 (zi h 7 i1 4)) 10 0 2 (some (13 + i1))) (fun g1 => EvI d m_D_takePart [vQ (some (10, 0)), vI (0 : Int32), vI (zi (zw g1 10 0 4 (0 : Int32)) 10 0 3), vI (0 : Int32)] (zw g1 10 0 4 (0 : Int32)) (fun y3 g2 => ((¬ y3 = 0 → Q g2) ∧ (y3 = 0 → Q (zw g2 10 0 4 (0 : Int32))))))) ∧ ((zi h 7 i1 4) = (zi h 10 0 5) → Q h))) :
    EvAt (d + 1) m_D_read 0 [some (vQ (some (10, 0))), some (vQ (some (7, i1)))] [] h (zQV Q) := by
  refine zo_aload_n d_D_read_0 rfl rfl ?_
  refine gf_L_number wd_200 hi1 d_D_read_1 ?_
  refine zo_aload_n d_D_read_4 rfl rfl ?_
  refine gf_D_readNumber wd_249 d_D_read_5 ?_
  refine zo_icmp_ne (tgt := 12) d_D_read_8 (by decide) (fun c5 => ?_) (fun c5 => ?_)
  · replace hf := hf.1 c5
    refine zo_aload_n d_D_read_12 rfl rfl ?_
    refine zo_aload_n d_D_read_13 rfl rfl ?_
    refine gf_L_number wd_200 hi1 d_D_read_14 ?_
    refine pf_D_readNumber wd_249 d_D_read_17 ?_
    refine zo_aload_n d_D_read_20 rfl rfl ?_
    refine zo_aload_n d_D_read_21 rfl rfl ?_
    refine gf_L_text wd_197 hi1 d_D_read_22 ?_
    refine pf_D_text wd_245 d_D_read_25 ?_
    refine zo_aload_n d_D_read_28 rfl rfl ?_
    refine zo_callVV (d := d) (N := m_D_splitLines) (as := []) (n := 0) (zin (by decide) (by decide)) rfl rfl cv_D_splitLines wd_626 rfl rfl (Nat.le_of_ble_eq_true rfl) d_D_read_29 hf (fun g1 hf => ?_)
    refine zo_aload_n d_D_read_32 rfl rfl ?_
    refine zo_iconst (v := 0) d_D_read_33 (by decide) ?_
    refine pf_D_count wd_247 d_D_read_34 ?_
    refine zo_aload_n d_D_read_37 rfl rfl ?_
    refine zo_iconst (v := 0) d_D_read_38 (by decide) ?_
    refine zo_aload_n d_D_read_39 rfl rfl ?_
    refine gf_D_lineCount wd_246 d_D_read_40 ?_
    refine zo_iconst (v := 0) d_D_read_43 (by decide) ?_
    refine zo_callVI (d := d) (N := m_D_takePart) (as := [vI (0 : Int32), vI (zi (zw g1 10 0 4 (0 : Int32)) 10 0 3), vI (0 : Int32)]) (n := 3) (zin (by decide) (by decide)) rfl rfl cv_D_takePart wd_631 rfl rfl (Nat.le_of_ble_eq_true rfl) d_D_read_44 hf (fun y3 g2 hf => ?_)
    refine zo_if_ne (tgt := 55) d_D_read_47 (by decide) (fun c4 => ?_) (fun c4 => ?_)
    · replace hf := hf.1 c4
      exact zo_vretV rfl d_D_read_55 hf
    · replace hf := hf.2 c4
      refine zo_aload_n d_D_read_50 rfl rfl ?_
      refine zo_iconst (v := 0) d_D_read_51 (by decide) ?_
      refine pf_D_count wd_247 d_D_read_52 ?_
      exact zo_vretV rfl d_D_read_55 hf
  · replace hf := hf.2 c5
    exact zo_vretV rfl d_D_read_11 hf
theorem e_D_read {d : Nat} (i1 : Nat) (hi1 : i1 < 6) {h : ZH} {Q : ZH → Prop}
    (hf : ((¬ (zi h 7 i1 4) = (zi h 10 0 5) → EvV d m_D_splitLines [vQ (some (10, 0))] (zwr (zw h 10 0 5 (zi h 7 i1 4)) 10 0 2 (some (13 + i1))) (fun g1 => EvI d m_D_takePart [vQ (some (10, 0)), vI (0 : Int32), vI (zi (zw g1 10 0 4 (0 : Int32)) 10 0 3), vI (0 : Int32)] (zw g1 10 0 4 (0 : Int32)) (fun y3 g2 => ((¬ y3 = 0 → Q g2) ∧ (y3 = 0 → Q (zw g2 10 0 4 (0 : Int32))))))) ∧ ((zi h 7 i1 4) = (zi h 10 0 5) → Q h))) :
    EvV (d + 1) m_D_read [vQ (some (10, 0)), vQ (some (7, i1))] h Q := zo_entry (by decide) (Nat.le_of_ble_eq_true rfl) (w_D_read_0 i1 hi1 hf)
set_option maxRecDepth 100000 in
set_option maxHeartbeats 4000000 in
theorem w_D_splitLines_0 {d : Nat}   {h : ZH} {Q : ZH → Prop}
    (hf : (vp_in (0 : Int32) (zLen 11 0) ∧ EvAt (d + 1) m_D_splitLines 14 [some (vQ (some (10, 0))), some (vI (0 : Int32))] [] (zw (zw h 10 0 3 (0 : Int32)) 11 0 (0 : Int32).toNatClampNeg (0 : Int32)) (zQV Q))) :
    EvAt (d + 1) m_D_splitLines 0 [some (vQ (some (10, 0))), none] [] h (zQV Q) := by
  refine zo_aload_n d_D_splitLines_0 rfl rfl ?_
  refine zo_iconst (v := 0) d_D_splitLines_1 (by decide) ?_
  refine pf_D_lineCount wd_246 d_D_splitLines_2 ?_
  refine zo_aload_n d_D_splitLines_5 rfl rfl ?_
  refine gf_D_lineStarts wd_243 d_D_splitLines_6 ?_
  refine zo_iconst (v := 0) d_D_splitLines_9 (by decide) ?_
  refine zo_iconst (v := 0) d_D_splitLines_10 (by decide) ?_
  obtain ⟨hp, hf⟩ := hf
  refine zo_iast (zin (by decide) (by decide)) rfl rfl rfl hp d_D_splitLines_11 ?_
  refine zo_iconst (v := 0) d_D_splitLines_12 (by decide) ?_
  refine zo_istore_n d_D_splitLines_13 rfl (Nat.le_of_ble_eq_true rfl) rfl ?_
  exact hf
theorem e_D_splitLines {d : Nat}   {h : ZH} {Q : ZH → Prop}
    (hf : (vp_in (0 : Int32) (zLen 11 0) ∧ EvAt (d + 1) m_D_splitLines 14 [some (vQ (some (10, 0))), some (vI (0 : Int32))] [] (zw (zw h 10 0 3 (0 : Int32)) 11 0 (0 : Int32).toNatClampNeg (0 : Int32)) (zQV Q))) :
    EvV (d + 1) m_D_splitLines [vQ (some (10, 0))] h Q := zo_entry (by decide) (Nat.le_of_ble_eq_true rfl) (w_D_splitLines_0   hf)
set_option maxRecDepth 100000 in
set_option maxHeartbeats 4000000 in
theorem w_D_splitLines_14 {d : Nat} (x1 : Int32)  {h : ZH} {Q : ZH → Prop}
    (hf : (∃ q1, zr h 10 0 2 = some q1 ∧ q1 < 43 ∧ (((zi h 1 q1 1) ≤ x1 → Q h) ∧ (¬ (zi h 1 q1 1) ≤ x1 → (∃ q2, zr h 10 0 2 = some q2 ∧ q2 < 43 ∧ EvI d m_R_at [vQ (some (1, q2)), vI x1] h (fun y4 g3 => ((¬ y4 = (10 : Int32) → EvAt (d + 1) m_D_splitLines 60 [some (vQ (some (10, 0))), some (vI x1)] [] g3 (zQV Q)) ∧ (y4 = (10 : Int32) → (vp_in (zi (zw g3 10 0 3 ((zi g3 10 0 3) + (1 : Int32))) 10 0 3) (zLen 11 0) ∧ EvAt (d + 1) m_D_splitLines 60 [some (vQ (some (10, 0))), some (vI x1)] [] (zw (zw g3 10 0 3 ((zi g3 10 0 3) + (1 : Int32))) 11 0 (zi (zw g3 10 0 3 ((zi g3 10 0 3) + (1 : Int32))) 10 0 3).toNatClampNeg (x1 + (1 : Int32))) (zQV Q)))))))))) :
    EvAt (d + 1) m_D_splitLines 14 [some (vQ (some (10, 0))), some (vI x1)] [] h (zQV Q) := by
  refine zo_iload_n d_D_splitLines_14 rfl rfl ?_
  refine zo_aload_n d_D_splitLines_15 rfl rfl ?_
  obtain ⟨q1, hr_q1, hv_q1, hf⟩ := hf
  refine gf_D_text wd_245 hr_q1 d_D_splitLines_16 ?_
  refine gf_R_length wd_101 hv_q1 d_D_splitLines_19 ?_
  refine zo_icmp_ge (tgt := 66) d_D_splitLines_22 (by decide) (fun c6 => ?_) (fun c6 => ?_)
  · replace hf := hf.1 c6
    exact zo_vretV rfl d_D_splitLines_66 hf
  · replace hf := hf.2 c6
    refine zo_aload_n d_D_splitLines_25 rfl rfl ?_
    obtain ⟨q2, hr_q2, hv_q2, hf⟩ := hf
    refine gf_D_text wd_245 hr_q2 d_D_splitLines_26 ?_
    refine zo_iload_n d_D_splitLines_29 rfl rfl ?_
    refine zo_callVI (d := d) (N := m_R_at) (as := [vI x1]) (n := 1) (zin (by decide) hv_q2) rfl rfl cv_R_at wd_630 rfl rfl (Nat.le_of_ble_eq_true rfl) d_D_splitLines_30 hf (fun y4 g3 hf => ?_)
    refine zo_bipush (v := 10) d_D_splitLines_33 (by decide) ?_
    refine zo_icmp_ne (tgt := 60) d_D_splitLines_35 (by decide) (fun c5 => ?_) (fun c5 => ?_)
    · replace hf := hf.1 c5
      exact hf
    · replace hf := hf.2 c5
      refine zo_aload_n d_D_splitLines_38 rfl rfl ?_
      refine zo_dup rfl d_D_splitLines_39 ?_
      refine gf_D_lineCount wd_246 d_D_splitLines_40 ?_
      refine zo_iconst (v := 1) d_D_splitLines_43 (by decide) ?_
      refine zo_iadd d_D_splitLines_44 ?_
      refine pf_D_lineCount wd_246 d_D_splitLines_45 ?_
      refine zo_aload_n d_D_splitLines_48 rfl rfl ?_
      refine gf_D_lineStarts wd_243 d_D_splitLines_49 ?_
      refine zo_aload_n d_D_splitLines_52 rfl rfl ?_
      refine gf_D_lineCount wd_246 d_D_splitLines_53 ?_
      refine zo_iload_n d_D_splitLines_56 rfl rfl ?_
      refine zo_iconst (v := 1) d_D_splitLines_57 (by decide) ?_
      refine zo_iadd d_D_splitLines_58 ?_
      obtain ⟨hp, hf⟩ := hf
      refine zo_iast (zin (by decide) (by decide)) rfl rfl rfl hp d_D_splitLines_59 ?_
      exact hf
set_option maxRecDepth 100000 in
set_option maxHeartbeats 4000000 in
theorem w_D_splitLines_60 {d : Nat} (x1 : Int32)  {h : ZH} {Q : ZH → Prop}
    (hf : EvAt (d + 1) m_D_splitLines 14 [some (vQ (some (10, 0))), some (vI (x1 + 1))] [] h (zQV Q)) :
    EvAt (d + 1) m_D_splitLines 60 [some (vQ (some (10, 0))), some (vI x1)] [] h (zQV Q) := by
  refine zo_iinc (v := x1 + 1) d_D_splitLines_60 rfl rfl (Nat.le_of_ble_eq_true rfl) rfl ?_
  refine zo_goto (tgt := 14) d_D_splitLines_63 (by decide) ?_
  exact hf
set_option maxRecDepth 100000 in
set_option maxHeartbeats 4000000 in
theorem w_D_takePart_0 {d : Nat} (x1 : Int32) (x2 : Int32) (x3 : Int32)  {h : ZH} {Q : Int32 → ZH → Prop}
    (hf : (((4 : Int32) < x3 → Q (0 : Int32) h) ∧ (¬ (4 : Int32) < x3 → (((zi h 10 0 4) < (16 : Int32) → EvI d m_D_findHeadEnd [vQ (some (10, 0)), vI x1, vI x2] (zw h 10 0 4 ((zi h 10 0 4) + (1 : Int32))) (fun y2 g1 => EvI d m_D_isHeadRight [vQ (some (10, 0)), vI x1, vI y2] g1 (fun y4 g3 => ((¬ y4 = 0 → EvI d m_D_findBoundary [vQ (some (10, 0)), vI x1, vI y2] g3 (fun y6 g5 => (vp_in (((zi h 10 0 4) * (4 : Int32)) + (0 : Int32)) (zLen 11 1) ∧ ((¬ y6 = (-1 : Int32) → EvAt (d + 1) m_D_takePart 92 [some (vQ (some (10, 0))), some (vI x1), some (vI x2), some (vI x3), some (vI ((zi h 10 0 4) * (4 : Int32))), some (vI y2), some (vI y6)] [vI (1 : Int32), vI (((zi h 10 0 4) * (4 : Int32)) + (1 : Int32)), vQ (some (11, 1))] (zw g5 11 1 (((zi h 10 0 4) * (4 : Int32)) + (0 : Int32)).toNatClampNeg x3) (zQI Q)) ∧ (y6 = (-1 : Int32) → EvAt (d + 1) m_D_takePart 92 [some (vQ (some (10, 0))), some (vI x1), some (vI x2), some (vI x3), some (vI ((zi h 10 0 4) * (4 : Int32))), some (vI y2), some (vI y6)] [vI (0 : Int32), vI (((zi h 10 0 4) * (4 : Int32)) + (1 : Int32)), vQ (some (11, 1))] (zw g5 11 1 (((zi h 10 0 4) * (4 : Int32)) + (0 : Int32)).toNatClampNeg x3) (zQI Q)))))) ∧ (y4 = 0 → Q (0 : Int32) g3))))) ∧ (¬ (zi h 10 0 4) < (16 : Int32) → Q (0 : Int32) h))))) :
    EvAt (d + 1) m_D_takePart 0 [some (vQ (some (10, 0))), some (vI x1), some (vI x2), some (vI x3), none, none, none] [] h (zQI Q) := by
  refine zo_iload_n d_D_takePart_0 rfl rfl ?_
  refine zo_iconst (v := 4) d_D_takePart_1 (by decide) ?_
  refine zo_icmp_gt (tgt := 14) d_D_takePart_2 (by decide) (fun c10 => ?_) (fun c10 => ?_)
  · replace hf := hf.1 c10
    refine zo_iconst (v := 0) d_D_takePart_14 (by decide) ?_
    exact zo_zretI (ty := .boolean) rfl rfl d_D_takePart_15 hf
  · replace hf := hf.2 c10
    refine zo_aload_n d_D_takePart_5 rfl rfl ?_
    refine gf_D_count wd_247 d_D_takePart_6 ?_
    refine zo_bipush (v := 16) d_D_takePart_9 (by decide) ?_
    refine zo_icmp_lt (tgt := 16) d_D_takePart_11 (by decide) (fun c9 => ?_) (fun c9 => ?_)
    · replace hf := hf.1 c9
      refine zo_aload_n d_D_takePart_16 rfl rfl ?_
      refine gf_D_count wd_247 d_D_takePart_17 ?_
      refine zo_iconst (v := 4) d_D_takePart_20 (by decide) ?_
      refine zo_imul d_D_takePart_21 ?_
      refine zo_istore d_D_takePart_22 (Nat.le_of_ble_eq_true rfl) rfl ?_
      refine zo_aload_n d_D_takePart_24 rfl rfl ?_
      refine zo_dup rfl d_D_takePart_25 ?_
      refine gf_D_count wd_247 d_D_takePart_26 ?_
      refine zo_iconst (v := 1) d_D_takePart_29 (by decide) ?_
      refine zo_iadd d_D_takePart_30 ?_
      refine pf_D_count wd_247 d_D_takePart_31 ?_
      refine zo_aload_n d_D_takePart_34 rfl rfl ?_
      refine zo_iload_n d_D_takePart_35 rfl rfl ?_
      refine zo_iload_n d_D_takePart_36 rfl rfl ?_
      refine zo_callVI (d := d) (N := m_D_findHeadEnd) (as := [vI x1, vI x2]) (n := 2) (zin (by decide) (by decide)) rfl rfl cv_D_findHeadEnd wd_635 rfl rfl (Nat.le_of_ble_eq_true rfl) d_D_takePart_37 hf (fun y2 g1 hf => ?_)
      refine zo_istore d_D_takePart_40 (Nat.le_of_ble_eq_true rfl) rfl ?_
      refine zo_aload_n d_D_takePart_42 rfl rfl ?_
      refine zo_iload_n d_D_takePart_43 rfl rfl ?_
      refine zo_iload d_D_takePart_44 rfl ?_
      refine zo_callVI (d := d) (N := m_D_isHeadRight) (as := [vI x1, vI y2]) (n := 2) (zin (by decide) (by decide)) rfl rfl cv_D_isHeadRight wd_643 rfl rfl (Nat.le_of_ble_eq_true rfl) d_D_takePart_46 hf (fun y4 g3 hf => ?_)
      refine zo_if_ne (tgt := 54) d_D_takePart_49 (by decide) (fun c8 => ?_) (fun c8 => ?_)
      · replace hf := hf.1 c8
        refine zo_aload_n d_D_takePart_54 rfl rfl ?_
        refine zo_iload_n d_D_takePart_55 rfl rfl ?_
        refine zo_iload d_D_takePart_56 rfl ?_
        refine zo_callVI (d := d) (N := m_D_findBoundary) (as := [vI x1, vI y2]) (n := 2) (zin (by decide) (by decide)) rfl rfl cv_D_findBoundary wd_652 rfl rfl (Nat.le_of_ble_eq_true rfl) d_D_takePart_58 hf (fun y6 g5 hf => ?_)
        refine zo_istore d_D_takePart_61 (Nat.le_of_ble_eq_true rfl) rfl ?_
        refine zo_aload_n d_D_takePart_63 rfl rfl ?_
        refine gf_D_facts wd_244 d_D_takePart_64 ?_
        refine zo_iload d_D_takePart_67 rfl ?_
        refine zo_iconst (v := 0) d_D_takePart_69 (by decide) ?_
        refine zo_iadd d_D_takePart_70 ?_
        refine zo_iload_n d_D_takePart_71 rfl rfl ?_
        obtain ⟨hp, hf⟩ := hf
        refine zo_iast (zin (by decide) (by decide)) rfl rfl rfl hp d_D_takePart_72 ?_
        refine zo_aload_n d_D_takePart_73 rfl rfl ?_
        refine gf_D_facts wd_244 d_D_takePart_74 ?_
        refine zo_iload d_D_takePart_77 rfl ?_
        refine zo_iconst (v := 1) d_D_takePart_79 (by decide) ?_
        refine zo_iadd d_D_takePart_80 ?_
        refine zo_iload d_D_takePart_81 rfl ?_
        refine zo_iconst (v := (-1)) d_D_takePart_83 (by decide) ?_
        refine zo_icmp_ne (tgt := 91) d_D_takePart_84 (by decide) (fun c7 => ?_) (fun c7 => ?_)
        · replace hf := hf.1 c7
          refine zo_iconst (v := 1) d_D_takePart_91 (by decide) ?_
          exact hf
        · replace hf := hf.2 c7
          refine zo_iconst (v := 0) d_D_takePart_87 (by decide) ?_
          refine zo_goto (tgt := 92) d_D_takePart_88 (by decide) ?_
          exact hf
      · replace hf := hf.2 c8
        refine zo_iconst (v := 0) d_D_takePart_52 (by decide) ?_
        exact zo_zretI (ty := .boolean) rfl rfl d_D_takePart_53 hf
    · replace hf := hf.2 c9
      refine zo_iconst (v := 0) d_D_takePart_14 (by decide) ?_
      exact zo_zretI (ty := .boolean) rfl rfl d_D_takePart_15 hf
theorem e_D_takePart {d : Nat} (x1 : Int32) (x2 : Int32) (x3 : Int32)  {h : ZH} {Q : Int32 → ZH → Prop}
    (hf : (((4 : Int32) < x3 → Q (0 : Int32) h) ∧ (¬ (4 : Int32) < x3 → (((zi h 10 0 4) < (16 : Int32) → EvI d m_D_findHeadEnd [vQ (some (10, 0)), vI x1, vI x2] (zw h 10 0 4 ((zi h 10 0 4) + (1 : Int32))) (fun y2 g1 => EvI d m_D_isHeadRight [vQ (some (10, 0)), vI x1, vI y2] g1 (fun y4 g3 => ((¬ y4 = 0 → EvI d m_D_findBoundary [vQ (some (10, 0)), vI x1, vI y2] g3 (fun y6 g5 => (vp_in (((zi h 10 0 4) * (4 : Int32)) + (0 : Int32)) (zLen 11 1) ∧ ((¬ y6 = (-1 : Int32) → EvAt (d + 1) m_D_takePart 92 [some (vQ (some (10, 0))), some (vI x1), some (vI x2), some (vI x3), some (vI ((zi h 10 0 4) * (4 : Int32))), some (vI y2), some (vI y6)] [vI (1 : Int32), vI (((zi h 10 0 4) * (4 : Int32)) + (1 : Int32)), vQ (some (11, 1))] (zw g5 11 1 (((zi h 10 0 4) * (4 : Int32)) + (0 : Int32)).toNatClampNeg x3) (zQI Q)) ∧ (y6 = (-1 : Int32) → EvAt (d + 1) m_D_takePart 92 [some (vQ (some (10, 0))), some (vI x1), some (vI x2), some (vI x3), some (vI ((zi h 10 0 4) * (4 : Int32))), some (vI y2), some (vI y6)] [vI (0 : Int32), vI (((zi h 10 0 4) * (4 : Int32)) + (1 : Int32)), vQ (some (11, 1))] (zw g5 11 1 (((zi h 10 0 4) * (4 : Int32)) + (0 : Int32)).toNatClampNeg x3) (zQI Q)))))) ∧ (y4 = 0 → Q (0 : Int32) g3))))) ∧ (¬ (zi h 10 0 4) < (16 : Int32) → Q (0 : Int32) h))))) :
    EvI (d + 1) m_D_takePart [vQ (some (10, 0)), vI x1, vI x2, vI x3] h Q := zo_entry (by decide) (Nat.le_of_ble_eq_true rfl) (w_D_takePart_0 x1 x2 x3  hf)
set_option maxRecDepth 100000 in
set_option maxHeartbeats 4000000 in
theorem w_D_takePart_92 {d : Nat} (x1 : Int32) (x2 : Int32) (x3 : Int32) (x4 : Int32) (x5 : Int32) (x6 : Int32) (xs1 : Int32) (xs2 : Int32)  {h : ZH} {Q : Int32 → ZH → Prop}
    (hf : (vp_in xs1 (zLen 11 1) ∧ (vp_in (x4 + (2 : Int32)) (zLen 11 1) ∧ (vp_in (x4 + (3 : Int32)) (zLen 11 1) ∧ ((x6 = (-1 : Int32) → Q (1 : Int32) (zw (zw (zw h 11 1 xs1.toNatClampNeg xs2) 11 1 (x4 + (2 : Int32)).toNatClampNeg x1) 11 1 (x4 + (3 : Int32)).toNatClampNeg (x2 - x1))) ∧ (¬ x6 = (-1 : Int32) → EvI d m_D_takeBody [vQ (some (10, 0)), vI (x5 + (1 : Int32)), vI x2, vI x6, vI x3] (zw (zw (zw h 11 1 xs1.toNatClampNeg xs2) 11 1 (x4 + (2 : Int32)).toNatClampNeg x1) 11 1 (x4 + (3 : Int32)).toNatClampNeg (x2 - x1)) (fun y2 g1 => ((y2 = 0 → Q (0 : Int32) g1) ∧ (¬ y2 = 0 → Q (1 : Int32) g1))))))))) :
    EvAt (d + 1) m_D_takePart 92 [some (vQ (some (10, 0))), some (vI x1), some (vI x2), some (vI x3), some (vI x4), some (vI x5), some (vI x6)] [vI xs2, vI xs1, vQ (some (11, 1))] h (zQI Q) := by
  obtain ⟨hp, hf⟩ := hf
  refine zo_iast (zin (by decide) (by decide)) rfl rfl rfl hp d_D_takePart_92 ?_
  refine zo_aload_n d_D_takePart_93 rfl rfl ?_
  refine gf_D_facts wd_244 d_D_takePart_94 ?_
  refine zo_iload d_D_takePart_97 rfl ?_
  refine zo_iconst (v := 2) d_D_takePart_99 (by decide) ?_
  refine zo_iadd d_D_takePart_100 ?_
  refine zo_iload_n d_D_takePart_101 rfl rfl ?_
  obtain ⟨hp, hf⟩ := hf
  refine zo_iast (zin (by decide) (by decide)) rfl rfl rfl hp d_D_takePart_102 ?_
  refine zo_aload_n d_D_takePart_103 rfl rfl ?_
  refine gf_D_facts wd_244 d_D_takePart_104 ?_
  refine zo_iload d_D_takePart_107 rfl ?_
  refine zo_iconst (v := 3) d_D_takePart_109 (by decide) ?_
  refine zo_iadd d_D_takePart_110 ?_
  refine zo_iload_n d_D_takePart_111 rfl rfl ?_
  refine zo_iload_n d_D_takePart_112 rfl rfl ?_
  refine zo_isub d_D_takePart_113 ?_
  obtain ⟨hp, hf⟩ := hf
  refine zo_iast (zin (by decide) (by decide)) rfl rfl rfl hp d_D_takePart_114 ?_
  refine zo_iload d_D_takePart_115 rfl ?_
  refine zo_iconst (v := (-1)) d_D_takePart_117 (by decide) ?_
  refine zo_icmp_eq (tgt := 136) d_D_takePart_118 (by decide) (fun c4 => ?_) (fun c4 => ?_)
  · replace hf := hf.1 c4
    refine zo_iconst (v := 1) d_D_takePart_136 (by decide) ?_
    refine zo_goto (tgt := 141) d_D_takePart_137 (by decide) ?_
    exact zo_zretI (ty := .boolean) rfl rfl d_D_takePart_141 hf
  · replace hf := hf.2 c4
    refine zo_aload_n d_D_takePart_121 rfl rfl ?_
    refine zo_iload d_D_takePart_122 rfl ?_
    refine zo_iconst (v := 1) d_D_takePart_124 (by decide) ?_
    refine zo_iadd d_D_takePart_125 ?_
    refine zo_iload_n d_D_takePart_126 rfl rfl ?_
    refine zo_iload d_D_takePart_127 rfl ?_
    refine zo_iload_n d_D_takePart_129 rfl rfl ?_
    refine zo_callVI (d := d) (N := m_D_takeBody) (as := [vI (x5 + (1 : Int32)), vI x2, vI x6, vI x3]) (n := 4) (zin (by decide) (by decide)) rfl rfl cv_D_takeBody wd_669 rfl rfl (Nat.le_of_ble_eq_true rfl) d_D_takePart_130 hf (fun y2 g1 hf => ?_)
    refine zo_if_eq (tgt := 140) d_D_takePart_133 (by decide) (fun c3 => ?_) (fun c3 => ?_)
    · replace hf := hf.1 c3
      refine zo_iconst (v := 0) d_D_takePart_140 (by decide) ?_
      exact zo_zretI (ty := .boolean) rfl rfl d_D_takePart_141 hf
    · replace hf := hf.2 c3
      refine zo_iconst (v := 1) d_D_takePart_136 (by decide) ?_
      refine zo_goto (tgt := 141) d_D_takePart_137 (by decide) ?_
      exact zo_zretI (ty := .boolean) rfl rfl d_D_takePart_141 hf
set_option maxRecDepth 100000 in
set_option maxHeartbeats 4000000 in
theorem w_D_findHeadEnd_0 {d : Nat} (x1 : Int32) (x2 : Int32)  {h : ZH} {Q : Int32 → ZH → Prop}
    (hf : EvAt (d + 1) m_D_findHeadEnd 2 [some (vQ (some (10, 0))), none, some (vI x2), some (vI x1)] [] h (zQI Q)) :
    EvAt (d + 1) m_D_findHeadEnd 0 [some (vQ (some (10, 0))), some (vI x1), some (vI x2), none] [] h (zQI Q) := by
  refine zo_iload_n d_D_findHeadEnd_0 rfl rfl ?_
  refine zo_istore_n d_D_findHeadEnd_1 rfl (Nat.le_of_ble_eq_true rfl) rfl ?_
  refine zo_drop 1 ?_
  exact hf
theorem e_D_findHeadEnd {d : Nat} (x1 : Int32) (x2 : Int32)  {h : ZH} {Q : Int32 → ZH → Prop}
    (hf : EvAt (d + 1) m_D_findHeadEnd 2 [some (vQ (some (10, 0))), none, some (vI x2), some (vI x1)] [] h (zQI Q)) :
    EvI (d + 1) m_D_findHeadEnd [vQ (some (10, 0)), vI x1, vI x2] h Q := zo_entry (by decide) (Nat.le_of_ble_eq_true rfl) (w_D_findHeadEnd_0 x1 x2  hf)
set_option maxRecDepth 100000 in
set_option maxHeartbeats 4000000 in
theorem w_D_findHeadEnd_2 {d : Nat} (x2 : Int32) (x3 : Int32)  {h : ZH} {Q : Int32 → ZH → Prop}
    (hf : ((x2 ≤ x3 → Q x2 h) ∧ (¬ x2 ≤ x3 → (vp_in x3 (zLen 11 0) ∧ EvI d m_D_lineEnd [vQ (some (10, 0)), vI x3] h (fun y2 g1 => ((¬ (zi h 11 0 x3.toNatClampNeg) = y2 → EvAt (d + 1) m_D_findHeadEnd 2 [some (vQ (some (10, 0))), none, some (vI x2), some (vI (x3 + 1))] [] g1 (zQI Q)) ∧ ((zi h 11 0 x3.toNatClampNeg) = y2 → Q x3 g1))))))) :
    EvAt (d + 1) m_D_findHeadEnd 2 [some (vQ (some (10, 0))), none, some (vI x2), some (vI x3)] [] h (zQI Q) := by
  refine zo_iload_n d_D_findHeadEnd_2 rfl rfl ?_
  refine zo_iload_n d_D_findHeadEnd_3 rfl rfl ?_
  refine zo_icmp_ge (tgt := 29) d_D_findHeadEnd_4 (by decide) (fun c4 => ?_) (fun c4 => ?_)
  · replace hf := hf.1 c4
    refine zo_iload_n d_D_findHeadEnd_29 rfl rfl ?_
    exact zo_iretI rfl d_D_findHeadEnd_30 hf
  · replace hf := hf.2 c4
    refine zo_aload_n d_D_findHeadEnd_7 rfl rfl ?_
    refine gf_D_lineStarts wd_243 d_D_findHeadEnd_8 ?_
    refine zo_iload_n d_D_findHeadEnd_11 rfl rfl ?_
    obtain ⟨hp, hf⟩ := hf
    refine zo_iald (zin (by decide) (by decide)) rfl rfl rfl hp d_D_findHeadEnd_12 ?_
    refine zo_aload_n d_D_findHeadEnd_13 rfl rfl ?_
    refine zo_iload_n d_D_findHeadEnd_14 rfl rfl ?_
    refine zo_callVI (d := d) (N := m_D_lineEnd) (as := [vI x3]) (n := 1) (zin (by decide) (by decide)) rfl rfl cv_D_lineEnd wd_639 rfl rfl (Nat.le_of_ble_eq_true rfl) d_D_findHeadEnd_15 hf (fun y2 g1 hf => ?_)
    refine zo_icmp_ne (tgt := 23) d_D_findHeadEnd_18 (by decide) (fun c3 => ?_) (fun c3 => ?_)
    · replace hf := hf.1 c3
      refine zo_iinc (v := x3 + 1) d_D_findHeadEnd_23 rfl rfl (Nat.le_of_ble_eq_true rfl) rfl ?_
      refine zo_goto (tgt := 2) d_D_findHeadEnd_26 (by decide) ?_
      exact hf
    · replace hf := hf.2 c3
      refine zo_iload_n d_D_findHeadEnd_21 rfl rfl ?_
      exact zo_iretI rfl d_D_findHeadEnd_22 hf
set_option maxRecDepth 100000 in
set_option maxHeartbeats 4000000 in
theorem w_D_lineEnd_0 {d : Nat} (x1 : Int32)  {h : ZH} {Q : Int32 → ZH → Prop}
    (hf : (vp_in (x1 + (1 : Int32)) (zLen 11 0) ∧ Q ((zi h 11 0 (x1 + (1 : Int32)).toNatClampNeg) - (1 : Int32)) h)) :
    EvAt d m_D_lineEnd 0 [some (vQ (some (10, 0))), some (vI x1)] [] h (zQI Q) := by
  refine zo_aload_n d_D_lineEnd_0 rfl rfl ?_
  refine gf_D_lineStarts wd_243 d_D_lineEnd_1 ?_
  refine zo_iload_n d_D_lineEnd_4 rfl rfl ?_
  refine zo_iconst (v := 1) d_D_lineEnd_5 (by decide) ?_
  refine zo_iadd d_D_lineEnd_6 ?_
  obtain ⟨hp, hf⟩ := hf
  refine zo_iald (zin (by decide) (by decide)) rfl rfl rfl hp d_D_lineEnd_7 ?_
  refine zo_iconst (v := 1) d_D_lineEnd_8 (by decide) ?_
  refine zo_isub d_D_lineEnd_9 ?_
  exact zo_iretI rfl d_D_lineEnd_10 hf
theorem e_D_lineEnd {d : Nat} (x1 : Int32)  {h : ZH} {Q : Int32 → ZH → Prop}
    (hf : (vp_in (x1 + (1 : Int32)) (zLen 11 0) ∧ Q ((zi h 11 0 (x1 + (1 : Int32)).toNatClampNeg) - (1 : Int32)) h)) :
    EvI d m_D_lineEnd [vQ (some (10, 0)), vI x1] h Q := zo_entry (by decide) (Nat.le_of_ble_eq_true rfl) (w_D_lineEnd_0 x1  hf)
set_option maxRecDepth 100000 in
set_option maxHeartbeats 4000000 in
theorem w_D_isHeadRight_0 {d : Nat} (x1 : Int32) (x2 : Int32)  {h : ZH} {Q : Int32 → ZH → Prop}
    (hf : EvAt (d + 1) m_D_isHeadRight 2 [some (vQ (some (10, 0))), some (vI x1), some (vI x2), some (vI x1), none] [] h (zQI Q)) :
    EvAt (d + 1) m_D_isHeadRight 0 [some (vQ (some (10, 0))), some (vI x1), some (vI x2), none, none] [] h (zQI Q) := by
  refine zo_iload_n d_D_isHeadRight_0 rfl rfl ?_
  refine zo_istore_n d_D_isHeadRight_1 rfl (Nat.le_of_ble_eq_true rfl) rfl ?_
  exact hf
theorem e_D_isHeadRight {d : Nat} (x1 : Int32) (x2 : Int32)  {h : ZH} {Q : Int32 → ZH → Prop}
    (hf : EvAt (d + 1) m_D_isHeadRight 2 [some (vQ (some (10, 0))), some (vI x1), some (vI x2), some (vI x1), none] [] h (zQI Q)) :
    EvI (d + 1) m_D_isHeadRight [vQ (some (10, 0)), vI x1, vI x2] h Q := zo_entry (by decide) (Nat.le_of_ble_eq_true rfl) (w_D_isHeadRight_0 x1 x2  hf)
set_option maxRecDepth 100000 in
set_option maxHeartbeats 4000000 in
theorem w_D_isHeadRight_2 {d : Nat} (x1 : Int32) (x2 : Int32) (x3 : Int32)  {h : ZH} {Q : Int32 → ZH → Prop}
    (hf : ((x2 ≤ x3 → Q (1 : Int32) h) ∧ (¬ x2 ≤ x3 → ((x3 ≤ x1 → EvAt (d + 1) m_D_isHeadRight 34 [some (vQ (some (10, 0))), some (vI x1), some (vI x2), some (vI x3), none] [] h (zQI Q)) ∧ (¬ x3 ≤ x1 → (∃ q1, zr h 10 0 2 = some q1 ∧ q1 < 43 ∧ (vp_in x3 (zLen 11 0) ∧ EvI d m_R_at [vQ (some (1, q1)), vI (zi h 11 0 x3.toNatClampNeg)] h (fun y3 g2 => ((¬ y3 = (32 : Int32) → EvAt (d + 1) m_D_isHeadRight 34 [some (vQ (some (10, 0))), some (vI x1), some (vI x2), some (vI x3), none] [] g2 (zQI Q)) ∧ (y3 = (32 : Int32) → EvAt (d + 1) m_D_isHeadRight 35 [some (vQ (some (10, 0))), some (vI x1), some (vI x2), some (vI x3), none] [vI (1 : Int32)] g2 (zQI Q))))))))))) :
    EvAt (d + 1) m_D_isHeadRight 2 [some (vQ (some (10, 0))), some (vI x1), some (vI x2), some (vI x3), none] [] h (zQI Q) := by
  refine zo_iload_n d_D_isHeadRight_2 rfl rfl ?_
  refine zo_iload_n d_D_isHeadRight_3 rfl rfl ?_
  refine zo_icmp_ge (tgt := 58) d_D_isHeadRight_4 (by decide) (fun c6 => ?_) (fun c6 => ?_)
  · replace hf := hf.1 c6
    refine zo_iconst (v := 1) d_D_isHeadRight_58 (by decide) ?_
    exact zo_zretI (ty := .boolean) rfl rfl d_D_isHeadRight_59 hf
  · replace hf := hf.2 c6
    refine zo_iload_n d_D_isHeadRight_7 rfl rfl ?_
    refine zo_iload_n d_D_isHeadRight_8 rfl rfl ?_
    refine zo_icmp_le (tgt := 34) d_D_isHeadRight_9 (by decide) (fun c5 => ?_) (fun c5 => ?_)
    · replace hf := hf.1 c5
      exact hf
    · replace hf := hf.2 c5
      refine zo_aload_n d_D_isHeadRight_12 rfl rfl ?_
      obtain ⟨q1, hr_q1, hv_q1, hf⟩ := hf
      refine gf_D_text wd_245 hr_q1 d_D_isHeadRight_13 ?_
      refine zo_aload_n d_D_isHeadRight_16 rfl rfl ?_
      refine gf_D_lineStarts wd_243 d_D_isHeadRight_17 ?_
      refine zo_iload_n d_D_isHeadRight_20 rfl rfl ?_
      obtain ⟨hp, hf⟩ := hf
      refine zo_iald (zin (by decide) (by decide)) rfl rfl rfl hp d_D_isHeadRight_21 ?_
      refine zo_callVI (d := d) (N := m_R_at) (as := [vI (zi h 11 0 x3.toNatClampNeg)]) (n := 1) (zin (by decide) hv_q1) rfl rfl cv_R_at wd_630 rfl rfl (Nat.le_of_ble_eq_true rfl) d_D_isHeadRight_22 hf (fun y3 g2 hf => ?_)
      refine zo_bipush (v := 32) d_D_isHeadRight_25 (by decide) ?_
      refine zo_icmp_ne (tgt := 34) d_D_isHeadRight_27 (by decide) (fun c4 => ?_) (fun c4 => ?_)
      · replace hf := hf.1 c4
        exact hf
      · replace hf := hf.2 c4
        refine zo_iconst (v := 1) d_D_isHeadRight_30 (by decide) ?_
        refine zo_goto (tgt := 35) d_D_isHeadRight_31 (by decide) ?_
        exact hf
set_option maxRecDepth 100000 in
set_option maxHeartbeats 4000000 in
theorem w_D_isHeadRight_34 {d : Nat} (x1 : Int32) (x2 : Int32) (x3 : Int32)  {h : ZH} {Q : Int32 → ZH → Prop}
    (hf : EvAt (d + 1) m_D_isHeadRight 35 [some (vQ (some (10, 0))), some (vI x1), some (vI x2), some (vI x3), none] [vI (0 : Int32)] h (zQI Q)) :
    EvAt (d + 1) m_D_isHeadRight 34 [some (vQ (some (10, 0))), some (vI x1), some (vI x2), some (vI x3), none] [] h (zQI Q) := by
  refine zo_iconst (v := 0) d_D_isHeadRight_34 (by decide) ?_
  exact hf
set_option maxRecDepth 100000 in
set_option maxHeartbeats 4000000 in
theorem w_D_isHeadRight_35 {d : Nat} (x1 : Int32) (x2 : Int32) (x3 : Int32) (xs0 : Int32)  {h : ZH} {Q : Int32 → ZH → Prop}
    (hf : ((¬ xs0 = 0 → EvAt (d + 1) m_D_isHeadRight 52 [some (vQ (some (10, 0))), some (vI x1), some (vI x2), some (vI x3), none] [] h (zQI Q)) ∧ (xs0 = 0 → EvI d m_D_isField [vQ (some (10, 0)), vI x3] h (fun y2 g1 => ((¬ y2 = 0 → EvAt (d + 1) m_D_isHeadRight 52 [some (vQ (some (10, 0))), some (vI x1), some (vI x2), some (vI x3), none] [] g1 (zQI Q)) ∧ (y2 = 0 → Q (0 : Int32) g1)))))) :
    EvAt (d + 1) m_D_isHeadRight 35 [some (vQ (some (10, 0))), some (vI x1), some (vI x2), some (vI x3), none] [vI xs0] h (zQI Q) := by
  refine zo_istore d_D_isHeadRight_35 (Nat.le_of_ble_eq_true rfl) rfl ?_
  refine zo_iload d_D_isHeadRight_37 rfl ?_
  refine zo_if_ne (tgt := 52) d_D_isHeadRight_39 (by decide) (fun c4 => ?_) (fun c4 => ?_)
  · replace hf := hf.1 c4
    refine zo_drop 4 ?_
    exact hf
  · replace hf := hf.2 c4
    refine zo_aload_n d_D_isHeadRight_42 rfl rfl ?_
    refine zo_iload_n d_D_isHeadRight_43 rfl rfl ?_
    refine zo_callVI (d := d) (N := m_D_isField) (as := [vI x3]) (n := 1) (zin (by decide) (by decide)) rfl rfl cv_D_isField wd_647 rfl rfl (Nat.le_of_ble_eq_true rfl) d_D_isHeadRight_44 hf (fun y2 g1 hf => ?_)
    refine zo_if_ne (tgt := 52) d_D_isHeadRight_47 (by decide) (fun c3 => ?_) (fun c3 => ?_)
    · replace hf := hf.1 c3
      refine zo_drop 4 ?_
      exact hf
    · replace hf := hf.2 c3
      refine zo_iconst (v := 0) d_D_isHeadRight_50 (by decide) ?_
      exact zo_zretI (ty := .boolean) rfl rfl d_D_isHeadRight_51 hf
set_option maxRecDepth 100000 in
set_option maxHeartbeats 4000000 in
theorem w_D_isHeadRight_52 {d : Nat} (x1 : Int32) (x2 : Int32) (x3 : Int32)  {h : ZH} {Q : Int32 → ZH → Prop}
    (hf : EvAt (d + 1) m_D_isHeadRight 2 [some (vQ (some (10, 0))), some (vI x1), some (vI x2), some (vI (x3 + 1)), none] [] h (zQI Q)) :
    EvAt (d + 1) m_D_isHeadRight 52 [some (vQ (some (10, 0))), some (vI x1), some (vI x2), some (vI x3), none] [] h (zQI Q) := by
  refine zo_iinc (v := x3 + 1) d_D_isHeadRight_52 rfl rfl (Nat.le_of_ble_eq_true rfl) rfl ?_
  refine zo_goto (tgt := 2) d_D_isHeadRight_55 (by decide) ?_
  exact hf
set_option maxRecDepth 100000 in
set_option maxHeartbeats 4000000 in
theorem w_D_isField_0 {d : Nat} (x1 : Int32)  {h : ZH} {Q : Int32 → ZH → Prop}
    (hf : (vp_in x1 (zLen 11 0) ∧ EvI d m_D_lineEnd [vQ (some (10, 0)), vI x1] h (fun y2 g1 => EvAt (d + 1) m_D_isField 16 [some (vQ (some (10, 0))), none, some (vI (zi h 11 0 x1.toNatClampNeg)), some (vI y2), some (vI (zi h 11 0 x1.toNatClampNeg)), none] [] g1 (zQI Q)))) :
    EvAt (d + 1) m_D_isField 0 [some (vQ (some (10, 0))), some (vI x1), none, none, none, none] [] h (zQI Q) := by
  refine zo_aload_n d_D_isField_0 rfl rfl ?_
  refine gf_D_lineStarts wd_243 d_D_isField_1 ?_
  refine zo_iload_n d_D_isField_4 rfl rfl ?_
  obtain ⟨hp, hf⟩ := hf
  refine zo_iald (zin (by decide) (by decide)) rfl rfl rfl hp d_D_isField_5 ?_
  refine zo_istore_n d_D_isField_6 rfl (Nat.le_of_ble_eq_true rfl) rfl ?_
  refine zo_aload_n d_D_isField_7 rfl rfl ?_
  refine zo_iload_n d_D_isField_8 rfl rfl ?_
  refine zo_callVI (d := d) (N := m_D_lineEnd) (as := [vI x1]) (n := 1) (zin (by decide) (by decide)) rfl rfl cv_D_lineEnd wd_639 rfl rfl (Nat.le_of_ble_eq_true rfl) d_D_isField_9 hf (fun y2 g1 hf => ?_)
  refine zo_istore_n d_D_isField_12 rfl (Nat.le_of_ble_eq_true rfl) rfl ?_
  refine zo_iload_n d_D_isField_13 rfl rfl ?_
  refine zo_istore d_D_isField_14 (Nat.le_of_ble_eq_true rfl) rfl ?_
  refine zo_drop 1 ?_
  exact hf
theorem e_D_isField {d : Nat} (x1 : Int32)  {h : ZH} {Q : Int32 → ZH → Prop}
    (hf : (vp_in x1 (zLen 11 0) ∧ EvI d m_D_lineEnd [vQ (some (10, 0)), vI x1] h (fun y2 g1 => EvAt (d + 1) m_D_isField 16 [some (vQ (some (10, 0))), none, some (vI (zi h 11 0 x1.toNatClampNeg)), some (vI y2), some (vI (zi h 11 0 x1.toNatClampNeg)), none] [] g1 (zQI Q)))) :
    EvI (d + 1) m_D_isField [vQ (some (10, 0)), vI x1] h Q := zo_entry (by decide) (Nat.le_of_ble_eq_true rfl) (w_D_isField_0 x1  hf)
set_option maxRecDepth 100000 in
set_option maxHeartbeats 4000000 in
theorem w_D_isField_16 {d : Nat} (x2 : Int32) (x3 : Int32) (x4 : Int32)  {h : ZH} {Q : Int32 → ZH → Prop}
    (hf : ((x3 ≤ x4 → Q (0 : Int32) h) ∧ (¬ x3 ≤ x4 → (∃ q1, zr h 10 0 2 = some q1 ∧ q1 < 43 ∧ EvI d m_R_at [vQ (some (1, q1)), vI x4] h (fun y3 g2 => ((¬ y3 = (58 : Int32) → EvI d m_G_isLetterOrDigit [vI y3] g2 (fun y5 g4 => ((¬ y5 = 0 → EvAt (d + 1) m_D_isField 69 [some (vQ (some (10, 0))), none, some (vI x2), some (vI x3), some (vI x4), none] [] g4 (zQI Q)) ∧ (y5 = 0 → ((y3 = (45 : Int32) → EvAt (d + 1) m_D_isField 69 [some (vQ (some (10, 0))), none, some (vI x2), some (vI x3), some (vI x4), none] [] g4 (zQI Q)) ∧ (¬ y3 = (45 : Int32) → Q (0 : Int32) g4)))))) ∧ (y3 = (58 : Int32) → ((x4 ≤ x2 → Q (0 : Int32) g2) ∧ (¬ x4 ≤ x2 → Q (1 : Int32) g2))))))))) :
    EvAt (d + 1) m_D_isField 16 [some (vQ (some (10, 0))), none, some (vI x2), some (vI x3), some (vI x4), none] [] h (zQI Q) := by
  refine zo_iload d_D_isField_16 rfl ?_
  refine zo_iload_n d_D_isField_18 rfl rfl ?_
  refine zo_icmp_ge (tgt := 75) d_D_isField_19 (by decide) (fun c10 => ?_) (fun c10 => ?_)
  · replace hf := hf.1 c10
    refine zo_iconst (v := 0) d_D_isField_75 (by decide) ?_
    exact zo_zretI (ty := .boolean) rfl rfl d_D_isField_76 hf
  · replace hf := hf.2 c10
    refine zo_aload_n d_D_isField_22 rfl rfl ?_
    obtain ⟨q1, hr_q1, hv_q1, hf⟩ := hf
    refine gf_D_text wd_245 hr_q1 d_D_isField_23 ?_
    refine zo_iload d_D_isField_26 rfl ?_
    refine zo_callVI (d := d) (N := m_R_at) (as := [vI x4]) (n := 1) (zin (by decide) hv_q1) rfl rfl cv_R_at wd_630 rfl rfl (Nat.le_of_ble_eq_true rfl) d_D_isField_28 hf (fun y3 g2 hf => ?_)
    refine zo_istore d_D_isField_31 (Nat.le_of_ble_eq_true rfl) rfl ?_
    refine zo_iload d_D_isField_33 rfl ?_
    refine zo_bipush (v := 58) d_D_isField_35 (by decide) ?_
    refine zo_icmp_ne (tgt := 52) d_D_isField_37 (by decide) (fun c9 => ?_) (fun c9 => ?_)
    · replace hf := hf.1 c9
      refine zo_iload d_D_isField_52 rfl ?_
      refine zo_callSI (d := d) (N := m_G_isLetterOrDigit) (as := [vI y3]) (n := 1) cs_G_isLetterOrDigit wd_651 rfl rfl (Nat.le_of_ble_eq_true rfl) d_D_isField_54 hf (fun y5 g4 hf => ?_)
      refine zo_if_ne (tgt := 69) d_D_isField_57 (by decide) (fun c7 => ?_) (fun c7 => ?_)
      · replace hf := hf.1 c7
        refine zo_drop 5 ?_
        exact hf
      · replace hf := hf.2 c7
        refine zo_iload d_D_isField_60 rfl ?_
        refine zo_bipush (v := 45) d_D_isField_62 (by decide) ?_
        refine zo_icmp_eq (tgt := 69) d_D_isField_64 (by decide) (fun c6 => ?_) (fun c6 => ?_)
        · replace hf := hf.1 c6
          refine zo_drop 5 ?_
          exact hf
        · replace hf := hf.2 c6
          refine zo_iconst (v := 0) d_D_isField_67 (by decide) ?_
          exact zo_zretI (ty := .boolean) rfl rfl d_D_isField_68 hf
    · replace hf := hf.2 c9
      refine zo_iload d_D_isField_40 rfl ?_
      refine zo_iload_n d_D_isField_42 rfl rfl ?_
      refine zo_icmp_le (tgt := 50) d_D_isField_43 (by decide) (fun c8 => ?_) (fun c8 => ?_)
      · replace hf := hf.1 c8
        refine zo_iconst (v := 0) d_D_isField_50 (by decide) ?_
        exact zo_zretI (ty := .boolean) rfl rfl d_D_isField_51 hf
      · replace hf := hf.2 c8
        refine zo_iconst (v := 1) d_D_isField_46 (by decide) ?_
        refine zo_goto (tgt := 51) d_D_isField_47 (by decide) ?_
        exact zo_zretI (ty := .boolean) rfl rfl d_D_isField_51 hf
set_option maxRecDepth 100000 in
set_option maxHeartbeats 4000000 in
theorem w_D_isField_69 {d : Nat} (x2 : Int32) (x3 : Int32) (x4 : Int32)  {h : ZH} {Q : Int32 → ZH → Prop}
    (hf : EvAt (d + 1) m_D_isField 16 [some (vQ (some (10, 0))), none, some (vI x2), some (vI x3), some (vI (x4 + 1)), none] [] h (zQI Q)) :
    EvAt (d + 1) m_D_isField 69 [some (vQ (some (10, 0))), none, some (vI x2), some (vI x3), some (vI x4), none] [] h (zQI Q) := by
  refine zo_iinc (v := x4 + 1) d_D_isField_69 rfl rfl (Nat.le_of_ble_eq_true rfl) rfl ?_
  refine zo_goto (tgt := 16) d_D_isField_72 (by decide) ?_
  exact hf
set_option maxRecDepth 100000 in
set_option maxHeartbeats 4000000 in
theorem w_D_findBoundary_0 {d : Nat} (x1 : Int32) (x2 : Int32)  {h : ZH} {Q : Int32 → ZH → Prop}
    (hf : EvAt (d + 2) m_D_findBoundary 2 [some (vQ (some (10, 0))), none, some (vI x2), some (vI x1)] [] h (zQI Q)) :
    EvAt (d + 2) m_D_findBoundary 0 [some (vQ (some (10, 0))), some (vI x1), some (vI x2), none] [] h (zQI Q) := by
  refine zo_iload_n d_D_findBoundary_0 rfl rfl ?_
  refine zo_istore_n d_D_findBoundary_1 rfl (Nat.le_of_ble_eq_true rfl) rfl ?_
  refine zo_drop 1 ?_
  exact hf
theorem e_D_findBoundary {d : Nat} (x1 : Int32) (x2 : Int32)  {h : ZH} {Q : Int32 → ZH → Prop}
    (hf : EvAt (d + 2) m_D_findBoundary 2 [some (vQ (some (10, 0))), none, some (vI x2), some (vI x1)] [] h (zQI Q)) :
    EvI (d + 2) m_D_findBoundary [vQ (some (10, 0)), vI x1, vI x2] h Q := zo_entry (by decide) (Nat.le_of_ble_eq_true rfl) (w_D_findBoundary_0 x1 x2  hf)
set_option maxRecDepth 100000 in
set_option maxHeartbeats 4000000 in
theorem w_D_findBoundary_2 {d : Nat} (x2 : Int32) (x3 : Int32)  {h : ZH} {Q : Int32 → ZH → Prop}
    (hf : ((x2 ≤ x3 → Q (-1 : Int32) h) ∧ (¬ x2 ≤ x3 → (∃ q1, zr h 10 0 2 = some q1 ∧ q1 < 43 ∧ (vp_in x3 (zLen 11 0) ∧ EvI (d + 1) m_R_matches [vQ (some (1, q1)), vI (zi h 11 0 x3.toNatClampNeg), vQ (some (22, 11))] h (fun y3 g2 => ((y3 = 0 → EvAt (d + 2) m_D_findBoundary 2 [some (vQ (some (10, 0))), none, some (vI x2), some (vI (x3 + 1))] [] g2 (zQI Q)) ∧ (¬ y3 = 0 → (vp_in x3 (zLen 11 0) ∧ EvI (d + 1) m_D_lineEnd [vQ (some (10, 0)), vI x3] g2 (fun y5 g4 => EvI (d + 1) m_D_findBoundaryBetween [vQ (some (10, 0)), vI ((zi g2 11 0 x3.toNatClampNeg) + (nI (zSL.getD 11 0))), vI y5] g4 (fun y7 g6 => Q y7 g6))))))))))) :
    EvAt (d + 2) m_D_findBoundary 2 [some (vQ (some (10, 0))), none, some (vI x2), some (vI x3)] [] h (zQI Q) := by
  refine zo_iload_n d_D_findBoundary_2 rfl rfl ?_
  refine zo_iload_n d_D_findBoundary_3 rfl rfl ?_
  refine zo_icmp_ge (tgt := 53) d_D_findBoundary_4 (by decide) (fun c9 => ?_) (fun c9 => ?_)
  · replace hf := hf.1 c9
    refine zo_iconst (v := (-1)) d_D_findBoundary_53 (by decide) ?_
    exact zo_iretI rfl d_D_findBoundary_54 hf
  · replace hf := hf.2 c9
    refine zo_aload_n d_D_findBoundary_7 rfl rfl ?_
    obtain ⟨q1, hr_q1, hv_q1, hf⟩ := hf
    refine gf_D_text wd_245 hr_q1 d_D_findBoundary_8 ?_
    refine zo_aload_n d_D_findBoundary_11 rfl rfl ?_
    refine gf_D_lineStarts wd_243 d_D_findBoundary_12 ?_
    refine zo_iload_n d_D_findBoundary_15 rfl rfl ?_
    obtain ⟨hp, hf⟩ := hf
    refine zo_iald (zin (by decide) (by decide)) rfl rfl rfl hp d_D_findBoundary_16 ?_
    refine zc_ldc11 rfl d_D_findBoundary_17 ?_
    refine zo_callVI (d := (d + 1)) (N := m_R_matches) (as := [vI (zi h 11 0 x3.toNatClampNeg), vQ (some (22, 11))]) (n := 2) (zin (by decide) hv_q1) rfl rfl cv_R_matches wd_657 rfl rfl (Nat.le_of_ble_eq_true rfl) d_D_findBoundary_19 hf (fun y3 g2 hf => ?_)
    refine zo_if_eq (tgt := 47) d_D_findBoundary_22 (by decide) (fun c8 => ?_) (fun c8 => ?_)
    · replace hf := hf.1 c8
      refine zo_iinc (v := x3 + 1) d_D_findBoundary_47 rfl rfl (Nat.le_of_ble_eq_true rfl) rfl ?_
      refine zo_goto (tgt := 2) d_D_findBoundary_50 (by decide) ?_
      exact hf
    · replace hf := hf.2 c8
      refine zo_aload_n d_D_findBoundary_25 rfl rfl ?_
      refine zo_aload_n d_D_findBoundary_26 rfl rfl ?_
      refine gf_D_lineStarts wd_243 d_D_findBoundary_27 ?_
      refine zo_iload_n d_D_findBoundary_30 rfl rfl ?_
      obtain ⟨hp, hf⟩ := hf
      refine zo_iald (zin (by decide) (by decide)) rfl rfl rfl hp d_D_findBoundary_31 ?_
      refine zc_ldc11 rfl d_D_findBoundary_32 ?_
      refine zc_slen wd_658 (by decide) d_D_findBoundary_34 (Nat.le_of_ble_eq_true rfl) ?_
      refine zo_iadd d_D_findBoundary_37 ?_
      refine zo_aload_n d_D_findBoundary_38 rfl rfl ?_
      refine zo_iload_n d_D_findBoundary_39 rfl rfl ?_
      refine zo_callVI (d := (d + 1)) (N := m_D_lineEnd) (as := [vI x3]) (n := 1) (zin (by decide) (by decide)) rfl rfl cv_D_lineEnd wd_639 rfl rfl (Nat.le_of_ble_eq_true rfl) d_D_findBoundary_40 hf (fun y5 g4 hf => ?_)
      refine zo_callVI (d := (d + 1)) (N := m_D_findBoundaryBetween) (as := [vI ((zi g2 11 0 x3.toNatClampNeg) + (nI (zSL.getD 11 0))), vI y5]) (n := 2) (zin (by decide) (by decide)) rfl rfl cv_D_findBoundaryBetween wd_659 rfl rfl (Nat.le_of_ble_eq_true rfl) d_D_findBoundary_43 hf (fun y7 g6 hf => ?_)
      exact zo_iretI rfl d_D_findBoundary_46 hf
set_option maxRecDepth 100000 in
set_option maxHeartbeats 4000000 in
theorem w_D_findBoundaryBetween_0 {d : Nat} (x1 : Int32) (x2 : Int32)  {h : ZH} {Q : Int32 → ZH → Prop}
    (hf : EvAt (d + 2) m_D_findBoundaryBetween 2 [some (vQ (some (10, 0))), none, some (vI x2), some (vI x1), none, none, none] [] h (zQI Q)) :
    EvAt (d + 2) m_D_findBoundaryBetween 0 [some (vQ (some (10, 0))), some (vI x1), some (vI x2), none, none, none, none] [] h (zQI Q) := by
  refine zo_iload_n d_D_findBoundaryBetween_0 rfl rfl ?_
  refine zo_istore_n d_D_findBoundaryBetween_1 rfl (Nat.le_of_ble_eq_true rfl) rfl ?_
  refine zo_drop 1 ?_
  exact hf
theorem e_D_findBoundaryBetween {d : Nat} (x1 : Int32) (x2 : Int32)  {h : ZH} {Q : Int32 → ZH → Prop}
    (hf : EvAt (d + 2) m_D_findBoundaryBetween 2 [some (vQ (some (10, 0))), none, some (vI x2), some (vI x1), none, none, none] [] h (zQI Q)) :
    EvI (d + 2) m_D_findBoundaryBetween [vQ (some (10, 0)), vI x1, vI x2] h Q := zo_entry (by decide) (Nat.le_of_ble_eq_true rfl) (w_D_findBoundaryBetween_0 x1 x2  hf)
set_option maxRecDepth 100000 in
set_option maxHeartbeats 4000000 in
theorem w_D_findBoundaryBetween_2 {d : Nat} (x2 : Int32) (x3 : Int32)  {h : ZH} {Q : Int32 → ZH → Prop}
    (hf : ((x2 ≤ x3 → EvAt (d + 2) m_D_findBoundaryBetween 26 [some (vQ (some (10, 0))), none, some (vI x2), some (vI x3), none, none, none] [] h (zQI Q)) ∧ (¬ x2 ≤ x3 → (∃ q1, zr h 10 0 2 = some q1 ∧ q1 < 43 ∧ EvI (d + 1) m_R_at [vQ (some (1, q1)), vI x3] h (fun y3 g2 => ((¬ y3 = (32 : Int32) → EvAt (d + 2) m_D_findBoundaryBetween 26 [some (vQ (some (10, 0))), none, some (vI x2), some (vI x3), none, none, none] [] g2 (zQI Q)) ∧ (y3 = (32 : Int32) → EvAt (d + 2) m_D_findBoundaryBetween 2 [some (vQ (some (10, 0))), none, some (vI x2), some (vI (x3 + 1)), none, none, none] [] g2 (zQI Q)))))))) :
    EvAt (d + 2) m_D_findBoundaryBetween 2 [some (vQ (some (10, 0))), none, some (vI x2), some (vI x3), none, none, none] [] h (zQI Q) := by
  refine zo_iload_n d_D_findBoundaryBetween_2 rfl rfl ?_
  refine zo_iload_n d_D_findBoundaryBetween_3 rfl rfl ?_
  refine zo_icmp_ge (tgt := 26) d_D_findBoundaryBetween_4 (by decide) (fun c5 => ?_) (fun c5 => ?_)
  · replace hf := hf.1 c5
    exact hf
  · replace hf := hf.2 c5
    refine zo_aload_n d_D_findBoundaryBetween_7 rfl rfl ?_
    obtain ⟨q1, hr_q1, hv_q1, hf⟩ := hf
    refine gf_D_text wd_245 hr_q1 d_D_findBoundaryBetween_8 ?_
    refine zo_iload_n d_D_findBoundaryBetween_11 rfl rfl ?_
    refine zo_callVI (d := (d + 1)) (N := m_R_at) (as := [vI x3]) (n := 1) (zin (by decide) hv_q1) rfl rfl cv_R_at wd_630 rfl rfl (Nat.le_of_ble_eq_true rfl) d_D_findBoundaryBetween_12 hf (fun y3 g2 hf => ?_)
    refine zo_bipush (v := 32) d_D_findBoundaryBetween_15 (by decide) ?_
    refine zo_icmp_ne (tgt := 26) d_D_findBoundaryBetween_17 (by decide) (fun c4 => ?_) (fun c4 => ?_)
    · replace hf := hf.1 c4
      exact hf
    · replace hf := hf.2 c4
      refine zo_iinc (v := x3 + 1) d_D_findBoundaryBetween_20 rfl rfl (Nat.le_of_ble_eq_true rfl) rfl ?_
      refine zo_goto (tgt := 2) d_D_findBoundaryBetween_23 (by decide) ?_
      exact hf
set_option maxRecDepth 100000 in
set_option maxHeartbeats 4000000 in
theorem w_D_findBoundaryBetween_26 {d : Nat} (x2 : Int32) (x3 : Int32)  {h : ZH} {Q : Int32 → ZH → Prop}
    (hf : (∃ q1, zr h 10 0 2 = some q1 ∧ q1 < 43 ∧ EvI (d + 1) m_R_matches [vQ (some (1, q1)), vI x3, vQ (some (22, 12))] h (fun y3 g2 => ((¬ y3 = 0 → EvAt (d + 2) m_D_findBoundaryBetween 50 [some (vQ (some (10, 0))), none, some (vI x2), none, some (vI (x3 + (nI (zSL.getD 12 0)))), none, none] [] g2 (zQI Q)) ∧ (y3 = 0 → Q (-1 : Int32) g2))))) :
    EvAt (d + 2) m_D_findBoundaryBetween 26 [some (vQ (some (10, 0))), none, some (vI x2), some (vI x3), none, none, none] [] h (zQI Q) := by
  refine zo_aload_n d_D_findBoundaryBetween_26 rfl rfl ?_
  obtain ⟨q1, hr_q1, hv_q1, hf⟩ := hf
  refine gf_D_text wd_245 hr_q1 d_D_findBoundaryBetween_27 ?_
  refine zo_iload_n d_D_findBoundaryBetween_30 rfl rfl ?_
  refine zc_ldc12 rfl d_D_findBoundaryBetween_31 ?_
  refine zo_callVI (d := (d + 1)) (N := m_R_matches) (as := [vI x3, vQ (some (22, 12))]) (n := 2) (zin (by decide) hv_q1) rfl rfl cv_R_matches wd_657 rfl rfl (Nat.le_of_ble_eq_true rfl) d_D_findBoundaryBetween_33 hf (fun y3 g2 hf => ?_)
  refine zo_if_ne (tgt := 41) d_D_findBoundaryBetween_36 (by decide) (fun c4 => ?_) (fun c4 => ?_)
  · replace hf := hf.1 c4
    refine zo_iload_n d_D_findBoundaryBetween_41 rfl rfl ?_
    refine zc_ldc12 rfl d_D_findBoundaryBetween_42 ?_
    refine zc_slen wd_658 (by decide) d_D_findBoundaryBetween_44 (Nat.le_of_ble_eq_true rfl) ?_
    refine zo_iadd d_D_findBoundaryBetween_47 ?_
    refine zo_istore d_D_findBoundaryBetween_48 (Nat.le_of_ble_eq_true rfl) rfl ?_
    refine zo_drop 3 ?_
    exact hf
  · replace hf := hf.2 c4
    refine zo_iconst (v := (-1)) d_D_findBoundaryBetween_39 (by decide) ?_
    exact zo_iretI rfl d_D_findBoundaryBetween_40 hf
set_option maxRecDepth 100000 in
set_option maxHeartbeats 4000000 in
theorem w_D_findBoundaryBetween_50 {d : Nat} (x2 : Int32) (x4 : Int32)  {h : ZH} {Q : Int32 → ZH → Prop}
    (hf : ((x2 ≤ x4 → Q (-1 : Int32) h) ∧ (¬ x2 ≤ x4 → (∃ q1, zr h 10 0 2 = some q1 ∧ q1 < 43 ∧ EvI (d + 1) m_R_matches [vQ (some (1, q1)), vI x4, vQ (some (22, 13))] h (fun y3 g2 => ((y3 = 0 → EvAt (d + 2) m_D_findBoundaryBetween 50 [some (vQ (some (10, 0))), none, some (vI x2), none, some (vI (x4 + 1)), none, none] [] g2 (zQI Q)) ∧ (¬ y3 = 0 → EvI (d + 1) m_D_boundaryLength [vQ (some (10, 0)), vI (x4 + (nI (zSL.getD 13 0)))] g2 (fun y5 g4 => ((y5 < (1 : Int32) → Q (-1 : Int32) g4) ∧ (¬ y5 < (1 : Int32) → (((20 : Int32) < y5 → Q (-1 : Int32) g4) ∧ (¬ (20 : Int32) < y5 → Q (x4 + (nI (zSL.getD 13 0))) g4)))))))))))) :
    EvAt (d + 2) m_D_findBoundaryBetween 50 [some (vQ (some (10, 0))), none, some (vI x2), none, some (vI x4), none, none] [] h (zQI Q) := by
  refine zo_iload d_D_findBoundaryBetween_50 rfl ?_
  refine zo_iload_n d_D_findBoundaryBetween_52 rfl rfl ?_
  refine zo_icmp_ge (tgt := 114) d_D_findBoundaryBetween_53 (by decide) (fun c9 => ?_) (fun c9 => ?_)
  · replace hf := hf.1 c9
    refine zo_iconst (v := (-1)) d_D_findBoundaryBetween_114 (by decide) ?_
    exact zo_iretI rfl d_D_findBoundaryBetween_115 hf
  · replace hf := hf.2 c9
    refine zo_aload_n d_D_findBoundaryBetween_56 rfl rfl ?_
    obtain ⟨q1, hr_q1, hv_q1, hf⟩ := hf
    refine gf_D_text wd_245 hr_q1 d_D_findBoundaryBetween_57 ?_
    refine zo_iload d_D_findBoundaryBetween_60 rfl ?_
    refine zc_ldc13 rfl d_D_findBoundaryBetween_62 ?_
    refine zo_callVI (d := (d + 1)) (N := m_R_matches) (as := [vI x4, vQ (some (22, 13))]) (n := 2) (zin (by decide) hv_q1) rfl rfl cv_R_matches wd_657 rfl rfl (Nat.le_of_ble_eq_true rfl) d_D_findBoundaryBetween_64 hf (fun y3 g2 hf => ?_)
    refine zo_if_eq (tgt := 108) d_D_findBoundaryBetween_67 (by decide) (fun c8 => ?_) (fun c8 => ?_)
    · replace hf := hf.1 c8
      refine zo_iinc (v := x4 + 1) d_D_findBoundaryBetween_108 rfl rfl (Nat.le_of_ble_eq_true rfl) rfl ?_
      refine zo_goto (tgt := 50) d_D_findBoundaryBetween_111 (by decide) ?_
      exact hf
    · replace hf := hf.2 c8
      refine zo_iload d_D_findBoundaryBetween_70 rfl ?_
      refine zc_ldc13 rfl d_D_findBoundaryBetween_72 ?_
      refine zc_slen wd_658 (by decide) d_D_findBoundaryBetween_74 (Nat.le_of_ble_eq_true rfl) ?_
      refine zo_iadd d_D_findBoundaryBetween_77 ?_
      refine zo_istore d_D_findBoundaryBetween_78 (Nat.le_of_ble_eq_true rfl) rfl ?_
      refine zo_aload_n d_D_findBoundaryBetween_80 rfl rfl ?_
      refine zo_iload d_D_findBoundaryBetween_81 rfl ?_
      refine zo_callVI (d := (d + 1)) (N := m_D_boundaryLength) (as := [vI (x4 + (nI (zSL.getD 13 0)))]) (n := 1) (zin (by decide) (by decide)) rfl rfl cv_D_boundaryLength wd_665 rfl rfl (Nat.le_of_ble_eq_true rfl) d_D_findBoundaryBetween_83 hf (fun y5 g4 hf => ?_)
      refine zo_istore d_D_findBoundaryBetween_86 (Nat.le_of_ble_eq_true rfl) rfl ?_
      refine zo_iload d_D_findBoundaryBetween_88 rfl ?_
      refine zo_iconst (v := 1) d_D_findBoundaryBetween_90 (by decide) ?_
      refine zo_icmp_lt (tgt := 106) d_D_findBoundaryBetween_91 (by decide) (fun c7 => ?_) (fun c7 => ?_)
      · replace hf := hf.1 c7
        refine zo_iconst (v := (-1)) d_D_findBoundaryBetween_106 (by decide) ?_
        exact zo_iretI rfl d_D_findBoundaryBetween_107 hf
      · replace hf := hf.2 c7
        refine zo_iload d_D_findBoundaryBetween_94 rfl ?_
        refine zo_bipush (v := 20) d_D_findBoundaryBetween_96 (by decide) ?_
        refine zo_icmp_gt (tgt := 106) d_D_findBoundaryBetween_98 (by decide) (fun c6 => ?_) (fun c6 => ?_)
        · replace hf := hf.1 c6
          refine zo_iconst (v := (-1)) d_D_findBoundaryBetween_106 (by decide) ?_
          exact zo_iretI rfl d_D_findBoundaryBetween_107 hf
        · replace hf := hf.2 c6
          refine zo_iload d_D_findBoundaryBetween_101 rfl ?_
          refine zo_goto (tgt := 107) d_D_findBoundaryBetween_103 (by decide) ?_
          exact zo_iretI rfl d_D_findBoundaryBetween_107 hf
set_option maxRecDepth 100000 in
set_option maxHeartbeats 4000000 in
theorem w_D_boundaryLength_0 {d : Nat} (x1 : Int32)  {h : ZH} {Q : Int32 → ZH → Prop}
    (hf : EvAt (d + 1) m_D_boundaryLength 2 [some (vQ (some (10, 0))), some (vI x1), some (vI x1)] [] h (zQI Q)) :
    EvAt (d + 1) m_D_boundaryLength 0 [some (vQ (some (10, 0))), some (vI x1), none] [] h (zQI Q) := by
  refine zo_iload_n d_D_boundaryLength_0 rfl rfl ?_
  refine zo_istore_n d_D_boundaryLength_1 rfl (Nat.le_of_ble_eq_true rfl) rfl ?_
  exact hf
theorem e_D_boundaryLength {d : Nat} (x1 : Int32)  {h : ZH} {Q : Int32 → ZH → Prop}
    (hf : EvAt (d + 1) m_D_boundaryLength 2 [some (vQ (some (10, 0))), some (vI x1), some (vI x1)] [] h (zQI Q)) :
    EvI (d + 1) m_D_boundaryLength [vQ (some (10, 0)), vI x1] h Q := zo_entry (by decide) (Nat.le_of_ble_eq_true rfl) (w_D_boundaryLength_0 x1  hf)
set_option maxRecDepth 100000 in
set_option maxHeartbeats 4000000 in
theorem w_D_boundaryLength_2 {d : Nat} (x1 : Int32) (x2 : Int32)  {h : ZH} {Q : Int32 → ZH → Prop}
    (hf : (∃ q1, zr h 10 0 2 = some q1 ∧ q1 < 43 ∧ (((zi h 1 q1 1) ≤ x2 → Q (x2 - x1) h) ∧ (¬ (zi h 1 q1 1) ≤ x2 → (∃ q2, zr h 10 0 2 = some q2 ∧ q2 < 43 ∧ EvI d m_R_at [vQ (some (1, q2)), vI x2] h (fun y4 g3 => EvI d m_G_isLetterOrDigit [vI y4] g3 (fun y6 g5 => ((y6 = 0 → Q (x2 - x1) g5) ∧ (¬ y6 = 0 → EvAt (d + 1) m_D_boundaryLength 2 [some (vQ (some (10, 0))), some (vI x1), some (vI (x2 + 1))] [] g5 (zQI Q)))))))))) :
    EvAt (d + 1) m_D_boundaryLength 2 [some (vQ (some (10, 0))), some (vI x1), some (vI x2)] [] h (zQI Q) := by
  refine zo_iload_n d_D_boundaryLength_2 rfl rfl ?_
  refine zo_aload_n d_D_boundaryLength_3 rfl rfl ?_
  obtain ⟨q1, hr_q1, hv_q1, hf⟩ := hf
  refine gf_D_text wd_245 hr_q1 d_D_boundaryLength_4 ?_
  refine gf_R_length wd_101 hv_q1 d_D_boundaryLength_7 ?_
  refine zo_icmp_ge (tgt := 33) d_D_boundaryLength_10 (by decide) (fun c8 => ?_) (fun c8 => ?_)
  · replace hf := hf.1 c8
    refine zo_iload_n d_D_boundaryLength_33 rfl rfl ?_
    refine zo_iload_n d_D_boundaryLength_34 rfl rfl ?_
    refine zo_isub d_D_boundaryLength_35 ?_
    exact zo_iretI rfl d_D_boundaryLength_36 hf
  · replace hf := hf.2 c8
    refine zo_aload_n d_D_boundaryLength_13 rfl rfl ?_
    obtain ⟨q2, hr_q2, hv_q2, hf⟩ := hf
    refine gf_D_text wd_245 hr_q2 d_D_boundaryLength_14 ?_
    refine zo_iload_n d_D_boundaryLength_17 rfl rfl ?_
    refine zo_callVI (d := d) (N := m_R_at) (as := [vI x2]) (n := 1) (zin (by decide) hv_q2) rfl rfl cv_R_at wd_630 rfl rfl (Nat.le_of_ble_eq_true rfl) d_D_boundaryLength_18 hf (fun y4 g3 hf => ?_)
    refine zo_callSI (d := d) (N := m_G_isLetterOrDigit) (as := [vI y4]) (n := 1) cs_G_isLetterOrDigit wd_651 rfl rfl (Nat.le_of_ble_eq_true rfl) d_D_boundaryLength_21 hf (fun y6 g5 hf => ?_)
    refine zo_if_eq (tgt := 33) d_D_boundaryLength_24 (by decide) (fun c7 => ?_) (fun c7 => ?_)
    · replace hf := hf.1 c7
      refine zo_iload_n d_D_boundaryLength_33 rfl rfl ?_
      refine zo_iload_n d_D_boundaryLength_34 rfl rfl ?_
      refine zo_isub d_D_boundaryLength_35 ?_
      exact zo_iretI rfl d_D_boundaryLength_36 hf
    · replace hf := hf.2 c7
      refine zo_iinc (v := x2 + 1) d_D_boundaryLength_27 rfl rfl (Nat.le_of_ble_eq_true rfl) rfl ?_
      refine zo_goto (tgt := 2) d_D_boundaryLength_30 (by decide) ?_
      exact hf
set_option maxRecDepth 100000 in
set_option maxHeartbeats 4000000 in
theorem w_D_takeBody_0 {d : Nat} (x1 : Int32) (x2 : Int32) (x3 : Int32) (x4 : Int32)  {h : ZH} {Q : Int32 → ZH → Prop}
    (hf : EvI d m_D_boundaryLength [vQ (some (10, 0)), vI x3] h (fun y2 g1 => EvAt (d + 1) m_D_takeBody 13 [some (vQ (some (10, 0))), none, some (vI x2), some (vI x3), some (vI x4), some (vI y2), some (vI (-1 : Int32)), some (vI x1), none] [] g1 (zQI Q))) :
    EvAt (d + 1) m_D_takeBody 0 [some (vQ (some (10, 0))), some (vI x1), some (vI x2), some (vI x3), some (vI x4), none, none, none, none] [] h (zQI Q) := by
  refine zo_aload_n d_D_takeBody_0 rfl rfl ?_
  refine zo_iload_n d_D_takeBody_1 rfl rfl ?_
  refine zo_callVI (d := d) (N := m_D_boundaryLength) (as := [vI x3]) (n := 1) (zin (by decide) (by decide)) rfl rfl cv_D_boundaryLength wd_665 rfl rfl (Nat.le_of_ble_eq_true rfl) d_D_takeBody_2 hf (fun y2 g1 hf => ?_)
  refine zo_istore d_D_takeBody_5 (Nat.le_of_ble_eq_true rfl) rfl ?_
  refine zo_iconst (v := (-1)) d_D_takeBody_7 (by decide) ?_
  refine zo_istore d_D_takeBody_8 (Nat.le_of_ble_eq_true rfl) rfl ?_
  refine zo_iload_n d_D_takeBody_10 rfl rfl ?_
  refine zo_istore d_D_takeBody_11 (Nat.le_of_ble_eq_true rfl) rfl ?_
  refine zo_drop 1 ?_
  exact hf
theorem e_D_takeBody {d : Nat} (x1 : Int32) (x2 : Int32) (x3 : Int32) (x4 : Int32)  {h : ZH} {Q : Int32 → ZH → Prop}
    (hf : EvI d m_D_boundaryLength [vQ (some (10, 0)), vI x3] h (fun y2 g1 => EvAt (d + 1) m_D_takeBody 13 [some (vQ (some (10, 0))), none, some (vI x2), some (vI x3), some (vI x4), some (vI y2), some (vI (-1 : Int32)), some (vI x1), none] [] g1 (zQI Q))) :
    EvI (d + 1) m_D_takeBody [vQ (some (10, 0)), vI x1, vI x2, vI x3, vI x4] h Q := zo_entry (by decide) (Nat.le_of_ble_eq_true rfl) (w_D_takeBody_0 x1 x2 x3 x4  hf)
set_option maxRecDepth 100000 in
set_option maxHeartbeats 4000000 in
theorem w_D_takeBody_13 {d : Nat} (x2 : Int32) (x3 : Int32) (x4 : Int32) (x5 : Int32) (x6 : Int32) (x7 : Int32)  {h : ZH} {Q : Int32 → ZH → Prop}
    (hf : ((x2 ≤ x7 → Q (0 : Int32) h) ∧ (¬ x2 ≤ x7 → EvI d m_D_borderKind [vQ (some (10, 0)), vI x7, vI x3, vI x5] h (fun y2 g1 => ((¬ y2 = 0 → ((x6 = (-1 : Int32) → EvAt (d + 1) m_D_takeBody 61 [some (vQ (some (10, 0))), none, some (vI x2), some (vI x3), some (vI x4), some (vI x5), some (vI x6), some (vI x7), some (vI y2)] [] g1 (zQI Q)) ∧ (¬ x6 = (-1 : Int32) → EvI d m_D_takePart [vQ (some (10, 0)), vI x6, vI x7, vI (x4 + (1 : Int32))] g1 (fun y4 g3 => ((¬ y4 = 0 → EvAt (d + 1) m_D_takeBody 61 [some (vQ (some (10, 0))), none, some (vI x2), some (vI x3), some (vI x4), some (vI x5), some (vI x6), some (vI x7), some (vI y2)] [] g3 (zQI Q)) ∧ (y4 = 0 → Q (0 : Int32) g3)))))) ∧ (y2 = 0 → EvAt (d + 1) m_D_takeBody 85 [some (vQ (some (10, 0))), none, some (vI x2), some (vI x3), some (vI x4), some (vI x5), some (vI x6), some (vI x7), none] [] g1 (zQI Q))))))) :
    EvAt (d + 1) m_D_takeBody 13 [some (vQ (some (10, 0))), none, some (vI x2), some (vI x3), some (vI x4), some (vI x5), some (vI x6), some (vI x7), none] [] h (zQI Q) := by
  refine zo_iload d_D_takeBody_13 rfl ?_
  refine zo_iload_n d_D_takeBody_15 rfl rfl ?_
  refine zo_icmp_ge (tgt := 91) d_D_takeBody_16 (by decide) (fun c8 => ?_) (fun c8 => ?_)
  · replace hf := hf.1 c8
    refine zo_iconst (v := 0) d_D_takeBody_91 (by decide) ?_
    exact zo_zretI (ty := .boolean) rfl rfl d_D_takeBody_92 hf
  · replace hf := hf.2 c8
    refine zo_aload_n d_D_takeBody_19 rfl rfl ?_
    refine zo_iload d_D_takeBody_20 rfl ?_
    refine zo_iload_n d_D_takeBody_22 rfl rfl ?_
    refine zo_iload d_D_takeBody_23 rfl ?_
    refine zo_callVI (d := d) (N := m_D_borderKind) (as := [vI x7, vI x3, vI x5]) (n := 3) (zin (by decide) (by decide)) rfl rfl cv_D_borderKind wd_673 rfl rfl (Nat.le_of_ble_eq_true rfl) d_D_takeBody_25 hf (fun y2 g1 hf => ?_)
    refine zo_istore d_D_takeBody_28 (Nat.le_of_ble_eq_true rfl) rfl ?_
    refine zo_iload d_D_takeBody_30 rfl ?_
    refine zo_if_ne (tgt := 38) d_D_takeBody_32 (by decide) (fun c7 => ?_) (fun c7 => ?_)
    · replace hf := hf.1 c7
      refine zo_iload d_D_takeBody_38 rfl ?_
      refine zo_iconst (v := (-1)) d_D_takeBody_40 (by decide) ?_
      refine zo_icmp_eq (tgt := 61) d_D_takeBody_41 (by decide) (fun c6 => ?_) (fun c6 => ?_)
      · replace hf := hf.1 c6
        exact hf
      · replace hf := hf.2 c6
        refine zo_aload_n d_D_takeBody_44 rfl rfl ?_
        refine zo_iload d_D_takeBody_45 rfl ?_
        refine zo_iload d_D_takeBody_47 rfl ?_
        refine zo_iload d_D_takeBody_49 rfl ?_
        refine zo_iconst (v := 1) d_D_takeBody_51 (by decide) ?_
        refine zo_iadd d_D_takeBody_52 ?_
        refine zo_callVI (d := d) (N := m_D_takePart) (as := [vI x6, vI x7, vI (x4 + (1 : Int32))]) (n := 3) (zin (by decide) (by decide)) rfl rfl cv_D_takePart wd_631 rfl rfl (Nat.le_of_ble_eq_true rfl) d_D_takeBody_53 hf (fun y4 g3 hf => ?_)
        refine zo_if_ne (tgt := 61) d_D_takeBody_56 (by decide) (fun c5 => ?_) (fun c5 => ?_)
        · replace hf := hf.1 c5
          exact hf
        · replace hf := hf.2 c5
          refine zo_iconst (v := 0) d_D_takeBody_59 (by decide) ?_
          exact zo_zretI (ty := .boolean) rfl rfl d_D_takeBody_60 hf
    · replace hf := hf.2 c7
      refine zo_goto (tgt := 85) d_D_takeBody_35 (by decide) ?_
      refine zo_drop 8 ?_
      exact hf
set_option maxRecDepth 100000 in
set_option maxHeartbeats 4000000 in
theorem w_D_takeBody_61 {d : Nat} (x2 : Int32) (x3 : Int32) (x4 : Int32) (x5 : Int32) (x6 : Int32) (x7 : Int32) (x8 : Int32)  {h : ZH} {Q : Int32 → ZH → Prop}
    (hf : ((¬ x8 = (2 : Int32) → EvAt (d + 1) m_D_takeBody 85 [some (vQ (some (10, 0))), none, some (vI x2), some (vI x3), some (vI x4), some (vI x5), some (vI (x7 + (1 : Int32))), some (vI x7), none] [] h (zQI Q)) ∧ (x8 = (2 : Int32) → ((x6 = (-1 : Int32) → Q (0 : Int32) h) ∧ (¬ x6 = (-1 : Int32) → Q (1 : Int32) h))))) :
    EvAt (d + 1) m_D_takeBody 61 [some (vQ (some (10, 0))), none, some (vI x2), some (vI x3), some (vI x4), some (vI x5), some (vI x6), some (vI x7), some (vI x8)] [] h (zQI Q) := by
  refine zo_iload d_D_takeBody_61 rfl ?_
  refine zo_iconst (v := 2) d_D_takeBody_63 (by decide) ?_
  refine zo_icmp_ne (tgt := 79) d_D_takeBody_64 (by decide) (fun c2 => ?_) (fun c2 => ?_)
  · replace hf := hf.1 c2
    refine zo_iload d_D_takeBody_79 rfl ?_
    refine zo_iconst (v := 1) d_D_takeBody_81 (by decide) ?_
    refine zo_iadd d_D_takeBody_82 ?_
    refine zo_istore d_D_takeBody_83 (Nat.le_of_ble_eq_true rfl) rfl ?_
    refine zo_drop 8 ?_
    exact hf
  · replace hf := hf.2 c2
    refine zo_iload d_D_takeBody_67 rfl ?_
    refine zo_iconst (v := (-1)) d_D_takeBody_69 (by decide) ?_
    refine zo_icmp_eq (tgt := 77) d_D_takeBody_70 (by decide) (fun c1 => ?_) (fun c1 => ?_)
    · replace hf := hf.1 c1
      refine zo_iconst (v := 0) d_D_takeBody_77 (by decide) ?_
      exact zo_zretI (ty := .boolean) rfl rfl d_D_takeBody_78 hf
    · replace hf := hf.2 c1
      refine zo_iconst (v := 1) d_D_takeBody_73 (by decide) ?_
      refine zo_goto (tgt := 78) d_D_takeBody_74 (by decide) ?_
      exact zo_zretI (ty := .boolean) rfl rfl d_D_takeBody_78 hf
set_option maxRecDepth 100000 in
set_option maxHeartbeats 4000000 in
theorem w_D_takeBody_85 {d : Nat} (x2 : Int32) (x3 : Int32) (x4 : Int32) (x5 : Int32) (x6 : Int32) (x7 : Int32)  {h : ZH} {Q : Int32 → ZH → Prop}
    (hf : EvAt (d + 1) m_D_takeBody 13 [some (vQ (some (10, 0))), none, some (vI x2), some (vI x3), some (vI x4), some (vI x5), some (vI x6), some (vI (x7 + 1)), none] [] h (zQI Q)) :
    EvAt (d + 1) m_D_takeBody 85 [some (vQ (some (10, 0))), none, some (vI x2), some (vI x3), some (vI x4), some (vI x5), some (vI x6), some (vI x7), none] [] h (zQI Q) := by
  refine zo_iinc (v := x7 + 1) d_D_takeBody_85 rfl rfl (Nat.le_of_ble_eq_true rfl) rfl ?_
  refine zo_goto (tgt := 13) d_D_takeBody_88 (by decide) ?_
  exact hf
set_option maxRecDepth 100000 in
set_option maxHeartbeats 4000000 in
theorem w_D_borderKind_0 {d : Nat} (x1 : Int32) (x2 : Int32) (x3 : Int32)  {h : ZH} {Q : Int32 → ZH → Prop}
    (hf : (vp_in x1 (zLen 11 0) ∧ EvI d m_D_isDashed [vQ (some (10, 0)), vI (zi h 11 0 x1.toNatClampNeg)] h (fun y2 g1 => ((y2 = 0 → Q (0 : Int32) g1) ∧ (¬ y2 = 0 → EvI d m_D_repeats [vQ (some (10, 0)), vI ((zi h 11 0 x1.toNatClampNeg) + (2 : Int32)), vI x2, vI x3] g1 (fun y4 g3 => ((¬ y4 = 0 → EvI d m_D_lineEnd [vQ (some (10, 0)), vI x1] g3 (fun y6 g5 => ((¬ (((zi h 11 0 x1.toNatClampNeg) + (2 : Int32)) + x3) = y6 → EvI d m_D_lineEnd [vQ (some (10, 0)), vI x1] g5 (fun y8 g7 => ((¬ ((((zi h 11 0 x1.toNatClampNeg) + (2 : Int32)) + x3) + (2 : Int32)) = y8 → Q (0 : Int32) g7) ∧ (((((zi h 11 0 x1.toNatClampNeg) + (2 : Int32)) + x3) + (2 : Int32)) = y8 → EvI d m_D_isDashed [vQ (some (10, 0)), vI (((zi h 11 0 x1.toNatClampNeg) + (2 : Int32)) + x3)] g7 (fun y10 g9 => ((y10 = 0 → Q (0 : Int32) g9) ∧ (¬ y10 = 0 → Q (2 : Int32) g9))))))) ∧ ((((zi h 11 0 x1.toNatClampNeg) + (2 : Int32)) + x3) = y6 → Q (1 : Int32) g5)))) ∧ (y4 = 0 → Q (0 : Int32) g3)))))))) :
    EvAt (d + 1) m_D_borderKind 0 [some (vQ (some (10, 0))), some (vI x1), some (vI x2), some (vI x3), none, none] [] h (zQI Q) := by
  refine zo_aload_n d_D_borderKind_0 rfl rfl ?_
  refine gf_D_lineStarts wd_243 d_D_borderKind_1 ?_
  refine zo_iload_n d_D_borderKind_4 rfl rfl ?_
  obtain ⟨hp, hf⟩ := hf
  refine zo_iald (zin (by decide) (by decide)) rfl rfl rfl hp d_D_borderKind_5 ?_
  refine zo_istore d_D_borderKind_6 (Nat.le_of_ble_eq_true rfl) rfl ?_
  refine zo_iload d_D_borderKind_8 rfl ?_
  refine zo_iconst (v := 2) d_D_borderKind_10 (by decide) ?_
  refine zo_iadd d_D_borderKind_11 ?_
  refine zo_iload_n d_D_borderKind_12 rfl rfl ?_
  refine zo_iadd d_D_borderKind_13 ?_
  refine zo_istore d_D_borderKind_14 (Nat.le_of_ble_eq_true rfl) rfl ?_
  refine zo_aload_n d_D_borderKind_16 rfl rfl ?_
  refine zo_iload d_D_borderKind_17 rfl ?_
  refine zo_callVI (d := d) (N := m_D_isDashed) (as := [vI (zi h 11 0 x1.toNatClampNeg)]) (n := 1) (zin (by decide) (by decide)) rfl rfl cv_D_isDashed wd_677 rfl rfl (Nat.le_of_ble_eq_true rfl) d_D_borderKind_19 hf (fun y2 g1 hf => ?_)
  refine zo_if_eq (tgt := 38) d_D_borderKind_22 (by decide) (fun c15 => ?_) (fun c15 => ?_)
  · replace hf := hf.1 c15
    refine zo_iconst (v := 0) d_D_borderKind_38 (by decide) ?_
    exact zo_iretI rfl d_D_borderKind_39 hf
  · replace hf := hf.2 c15
    refine zo_aload_n d_D_borderKind_25 rfl rfl ?_
    refine zo_iload d_D_borderKind_26 rfl ?_
    refine zo_iconst (v := 2) d_D_borderKind_28 (by decide) ?_
    refine zo_iadd d_D_borderKind_29 ?_
    refine zo_iload_n d_D_borderKind_30 rfl rfl ?_
    refine zo_iload_n d_D_borderKind_31 rfl rfl ?_
    refine zo_callVI (d := d) (N := m_D_repeats) (as := [vI ((zi h 11 0 x1.toNatClampNeg) + (2 : Int32)), vI x2, vI x3]) (n := 3) (zin (by decide) (by decide)) rfl rfl cv_D_repeats wd_681 rfl rfl (Nat.le_of_ble_eq_true rfl) d_D_borderKind_32 hf (fun y4 g3 hf => ?_)
    refine zo_if_ne (tgt := 40) d_D_borderKind_35 (by decide) (fun c14 => ?_) (fun c14 => ?_)
    · replace hf := hf.1 c14
      refine zo_iload d_D_borderKind_40 rfl ?_
      refine zo_aload_n d_D_borderKind_42 rfl rfl ?_
      refine zo_iload_n d_D_borderKind_43 rfl rfl ?_
      refine zo_callVI (d := d) (N := m_D_lineEnd) (as := [vI x1]) (n := 1) (zin (by decide) (by decide)) rfl rfl cv_D_lineEnd wd_639 rfl rfl (Nat.le_of_ble_eq_true rfl) d_D_borderKind_44 hf (fun y6 g5 hf => ?_)
      refine zo_icmp_ne (tgt := 52) d_D_borderKind_47 (by decide) (fun c13 => ?_) (fun c13 => ?_)
      · replace hf := hf.1 c13
        refine zo_iload d_D_borderKind_52 rfl ?_
        refine zo_iconst (v := 2) d_D_borderKind_54 (by decide) ?_
        refine zo_iadd d_D_borderKind_55 ?_
        refine zo_aload_n d_D_borderKind_56 rfl rfl ?_
        refine zo_iload_n d_D_borderKind_57 rfl rfl ?_
        refine zo_callVI (d := d) (N := m_D_lineEnd) (as := [vI x1]) (n := 1) (zin (by decide) (by decide)) rfl rfl cv_D_lineEnd wd_639 rfl rfl (Nat.le_of_ble_eq_true rfl) d_D_borderKind_58 hf (fun y8 g7 hf => ?_)
        refine zo_icmp_ne (tgt := 77) d_D_borderKind_61 (by decide) (fun c12 => ?_) (fun c12 => ?_)
        · replace hf := hf.1 c12
          refine zo_iconst (v := 0) d_D_borderKind_77 (by decide) ?_
          exact zo_iretI rfl d_D_borderKind_78 hf
        · replace hf := hf.2 c12
          refine zo_aload_n d_D_borderKind_64 rfl rfl ?_
          refine zo_iload d_D_borderKind_65 rfl ?_
          refine zo_callVI (d := d) (N := m_D_isDashed) (as := [vI (((zi h 11 0 x1.toNatClampNeg) + (2 : Int32)) + x3)]) (n := 1) (zin (by decide) (by decide)) rfl rfl cv_D_isDashed wd_677 rfl rfl (Nat.le_of_ble_eq_true rfl) d_D_borderKind_67 hf (fun y10 g9 hf => ?_)
          refine zo_if_eq (tgt := 77) d_D_borderKind_70 (by decide) (fun c11 => ?_) (fun c11 => ?_)
          · replace hf := hf.1 c11
            refine zo_iconst (v := 0) d_D_borderKind_77 (by decide) ?_
            exact zo_iretI rfl d_D_borderKind_78 hf
          · replace hf := hf.2 c11
            refine zo_iconst (v := 2) d_D_borderKind_73 (by decide) ?_
            refine zo_goto (tgt := 78) d_D_borderKind_74 (by decide) ?_
            exact zo_iretI rfl d_D_borderKind_78 hf
      · replace hf := hf.2 c13
        refine zo_iconst (v := 1) d_D_borderKind_50 (by decide) ?_
        exact zo_iretI rfl d_D_borderKind_51 hf
    · replace hf := hf.2 c14
      refine zo_iconst (v := 0) d_D_borderKind_38 (by decide) ?_
      exact zo_iretI rfl d_D_borderKind_39 hf
theorem e_D_borderKind {d : Nat} (x1 : Int32) (x2 : Int32) (x3 : Int32)  {h : ZH} {Q : Int32 → ZH → Prop}
    (hf : (vp_in x1 (zLen 11 0) ∧ EvI d m_D_isDashed [vQ (some (10, 0)), vI (zi h 11 0 x1.toNatClampNeg)] h (fun y2 g1 => ((y2 = 0 → Q (0 : Int32) g1) ∧ (¬ y2 = 0 → EvI d m_D_repeats [vQ (some (10, 0)), vI ((zi h 11 0 x1.toNatClampNeg) + (2 : Int32)), vI x2, vI x3] g1 (fun y4 g3 => ((¬ y4 = 0 → EvI d m_D_lineEnd [vQ (some (10, 0)), vI x1] g3 (fun y6 g5 => ((¬ (((zi h 11 0 x1.toNatClampNeg) + (2 : Int32)) + x3) = y6 → EvI d m_D_lineEnd [vQ (some (10, 0)), vI x1] g5 (fun y8 g7 => ((¬ ((((zi h 11 0 x1.toNatClampNeg) + (2 : Int32)) + x3) + (2 : Int32)) = y8 → Q (0 : Int32) g7) ∧ (((((zi h 11 0 x1.toNatClampNeg) + (2 : Int32)) + x3) + (2 : Int32)) = y8 → EvI d m_D_isDashed [vQ (some (10, 0)), vI (((zi h 11 0 x1.toNatClampNeg) + (2 : Int32)) + x3)] g7 (fun y10 g9 => ((y10 = 0 → Q (0 : Int32) g9) ∧ (¬ y10 = 0 → Q (2 : Int32) g9))))))) ∧ ((((zi h 11 0 x1.toNatClampNeg) + (2 : Int32)) + x3) = y6 → Q (1 : Int32) g5)))) ∧ (y4 = 0 → Q (0 : Int32) g3)))))))) :
    EvI (d + 1) m_D_borderKind [vQ (some (10, 0)), vI x1, vI x2, vI x3] h Q := zo_entry (by decide) (Nat.le_of_ble_eq_true rfl) (w_D_borderKind_0 x1 x2 x3  hf)
set_option maxRecDepth 100000 in
set_option maxHeartbeats 4000000 in
theorem w_D_isDashed_0 {d : Nat} (x1 : Int32)  {h : ZH} {Q : Int32 → ZH → Prop}
    (hf : (∃ q1, zr h 10 0 2 = some q1 ∧ q1 < 43 ∧ EvI d m_R_at [vQ (some (1, q1)), vI x1] h (fun y3 g2 => ((¬ y3 = (45 : Int32) → Q (0 : Int32) g2) ∧ (y3 = (45 : Int32) → (∃ q4, zr g2 10 0 2 = some q4 ∧ q4 < 43 ∧ EvI d m_R_at [vQ (some (1, q4)), vI (x1 + (1 : Int32))] g2 (fun y6 g5 => ((¬ y6 = (45 : Int32) → Q (0 : Int32) g5) ∧ (y6 = (45 : Int32) → Q (1 : Int32) g5))))))))) :
    EvAt (d + 1) m_D_isDashed 0 [some (vQ (some (10, 0))), some (vI x1)] [] h (zQI Q) := by
  refine zo_aload_n d_D_isDashed_0 rfl rfl ?_
  obtain ⟨q1, hr_q1, hv_q1, hf⟩ := hf
  refine gf_D_text wd_245 hr_q1 d_D_isDashed_1 ?_
  refine zo_iload_n d_D_isDashed_4 rfl rfl ?_
  refine zo_callVI (d := d) (N := m_R_at) (as := [vI x1]) (n := 1) (zin (by decide) hv_q1) rfl rfl cv_R_at wd_630 rfl rfl (Nat.le_of_ble_eq_true rfl) d_D_isDashed_5 hf (fun y3 g2 hf => ?_)
  refine zo_bipush (v := 45) d_D_isDashed_8 (by decide) ?_
  refine zo_icmp_ne (tgt := 32) d_D_isDashed_10 (by decide) (fun c8 => ?_) (fun c8 => ?_)
  · replace hf := hf.1 c8
    refine zo_iconst (v := 0) d_D_isDashed_32 (by decide) ?_
    exact zo_zretI (ty := .boolean) rfl rfl d_D_isDashed_33 hf
  · replace hf := hf.2 c8
    refine zo_aload_n d_D_isDashed_13 rfl rfl ?_
    obtain ⟨q4, hr_q4, hv_q4, hf⟩ := hf
    refine gf_D_text wd_245 hr_q4 d_D_isDashed_14 ?_
    refine zo_iload_n d_D_isDashed_17 rfl rfl ?_
    refine zo_iconst (v := 1) d_D_isDashed_18 (by decide) ?_
    refine zo_iadd d_D_isDashed_19 ?_
    refine zo_callVI (d := d) (N := m_R_at) (as := [vI (x1 + (1 : Int32))]) (n := 1) (zin (by decide) hv_q4) rfl rfl cv_R_at wd_630 rfl rfl (Nat.le_of_ble_eq_true rfl) d_D_isDashed_20 hf (fun y6 g5 hf => ?_)
    refine zo_bipush (v := 45) d_D_isDashed_23 (by decide) ?_
    refine zo_icmp_ne (tgt := 32) d_D_isDashed_25 (by decide) (fun c7 => ?_) (fun c7 => ?_)
    · replace hf := hf.1 c7
      refine zo_iconst (v := 0) d_D_isDashed_32 (by decide) ?_
      exact zo_zretI (ty := .boolean) rfl rfl d_D_isDashed_33 hf
    · replace hf := hf.2 c7
      refine zo_iconst (v := 1) d_D_isDashed_28 (by decide) ?_
      refine zo_goto (tgt := 33) d_D_isDashed_29 (by decide) ?_
      exact zo_zretI (ty := .boolean) rfl rfl d_D_isDashed_33 hf
theorem e_D_isDashed {d : Nat} (x1 : Int32)  {h : ZH} {Q : Int32 → ZH → Prop}
    (hf : (∃ q1, zr h 10 0 2 = some q1 ∧ q1 < 43 ∧ EvI d m_R_at [vQ (some (1, q1)), vI x1] h (fun y3 g2 => ((¬ y3 = (45 : Int32) → Q (0 : Int32) g2) ∧ (y3 = (45 : Int32) → (∃ q4, zr g2 10 0 2 = some q4 ∧ q4 < 43 ∧ EvI d m_R_at [vQ (some (1, q4)), vI (x1 + (1 : Int32))] g2 (fun y6 g5 => ((¬ y6 = (45 : Int32) → Q (0 : Int32) g5) ∧ (y6 = (45 : Int32) → Q (1 : Int32) g5))))))))) :
    EvI (d + 1) m_D_isDashed [vQ (some (10, 0)), vI x1] h Q := zo_entry (by decide) (Nat.le_of_ble_eq_true rfl) (w_D_isDashed_0 x1  hf)
set_option maxRecDepth 100000 in
set_option maxHeartbeats 4000000 in
theorem w_D_repeats_0 {d : Nat} (x1 : Int32) (x2 : Int32) (x3 : Int32)  {h : ZH} {Q : Int32 → ZH → Prop}
    (hf : EvAt (d + 1) m_D_repeats 3 [some (vQ (some (10, 0))), some (vI x1), some (vI x2), some (vI x3), some (vI (0 : Int32))] [] h (zQI Q)) :
    EvAt (d + 1) m_D_repeats 0 [some (vQ (some (10, 0))), some (vI x1), some (vI x2), some (vI x3), none] [] h (zQI Q) := by
  refine zo_iconst (v := 0) d_D_repeats_0 (by decide) ?_
  refine zo_istore d_D_repeats_1 (Nat.le_of_ble_eq_true rfl) rfl ?_
  exact hf
theorem e_D_repeats {d : Nat} (x1 : Int32) (x2 : Int32) (x3 : Int32)  {h : ZH} {Q : Int32 → ZH → Prop}
    (hf : EvAt (d + 1) m_D_repeats 3 [some (vQ (some (10, 0))), some (vI x1), some (vI x2), some (vI x3), some (vI (0 : Int32))] [] h (zQI Q)) :
    EvI (d + 1) m_D_repeats [vQ (some (10, 0)), vI x1, vI x2, vI x3] h Q := zo_entry (by decide) (Nat.le_of_ble_eq_true rfl) (w_D_repeats_0 x1 x2 x3  hf)
set_option maxRecDepth 100000 in
set_option maxHeartbeats 4000000 in
theorem w_D_repeats_3 {d : Nat} (x1 : Int32) (x2 : Int32) (x3 : Int32) (x4 : Int32)  {h : ZH} {Q : Int32 → ZH → Prop}
    (hf : ((x3 ≤ x4 → Q (1 : Int32) h) ∧ (¬ x3 ≤ x4 → (∃ q1, zr h 10 0 2 = some q1 ∧ q1 < 43 ∧ EvI d m_R_at [vQ (some (1, q1)), vI (x1 + x4)] h (fun y3 g2 => (∃ q4, zr g2 10 0 2 = some q4 ∧ q4 < 43 ∧ EvI d m_R_at [vQ (some (1, q4)), vI (x2 + x4)] g2 (fun y6 g5 => ((y3 = y6 → EvAt (d + 1) m_D_repeats 3 [some (vQ (some (10, 0))), some (vI x1), some (vI x2), some (vI x3), some (vI (x4 + 1))] [] g5 (zQI Q)) ∧ (¬ y3 = y6 → Q (0 : Int32) g5))))))))) :
    EvAt (d + 1) m_D_repeats 3 [some (vQ (some (10, 0))), some (vI x1), some (vI x2), some (vI x3), some (vI x4)] [] h (zQI Q) := by
  refine zo_iload d_D_repeats_3 rfl ?_
  refine zo_iload_n d_D_repeats_5 rfl rfl ?_
  refine zo_icmp_ge (tgt := 42) d_D_repeats_6 (by decide) (fun c8 => ?_) (fun c8 => ?_)
  · replace hf := hf.1 c8
    refine zo_iconst (v := 1) d_D_repeats_42 (by decide) ?_
    exact zo_zretI (ty := .boolean) rfl rfl d_D_repeats_43 hf
  · replace hf := hf.2 c8
    refine zo_aload_n d_D_repeats_9 rfl rfl ?_
    obtain ⟨q1, hr_q1, hv_q1, hf⟩ := hf
    refine gf_D_text wd_245 hr_q1 d_D_repeats_10 ?_
    refine zo_iload_n d_D_repeats_13 rfl rfl ?_
    refine zo_iload d_D_repeats_14 rfl ?_
    refine zo_iadd d_D_repeats_16 ?_
    refine zo_callVI (d := d) (N := m_R_at) (as := [vI (x1 + x4)]) (n := 1) (zin (by decide) hv_q1) rfl rfl cv_R_at wd_630 rfl rfl (Nat.le_of_ble_eq_true rfl) d_D_repeats_17 hf (fun y3 g2 hf => ?_)
    refine zo_aload_n d_D_repeats_20 rfl rfl ?_
    obtain ⟨q4, hr_q4, hv_q4, hf⟩ := hf
    refine gf_D_text wd_245 hr_q4 d_D_repeats_21 ?_
    refine zo_iload_n d_D_repeats_24 rfl rfl ?_
    refine zo_iload d_D_repeats_25 rfl ?_
    refine zo_iadd d_D_repeats_27 ?_
    refine zo_callVI (d := d) (N := m_R_at) (as := [vI (x2 + x4)]) (n := 1) (zin (by decide) hv_q4) rfl rfl cv_R_at wd_630 rfl rfl (Nat.le_of_ble_eq_true rfl) d_D_repeats_28 hf (fun y6 g5 hf => ?_)
    refine zo_icmp_eq (tgt := 36) d_D_repeats_31 (by decide) (fun c7 => ?_) (fun c7 => ?_)
    · replace hf := hf.1 c7
      refine zo_iinc (v := x4 + 1) d_D_repeats_36 rfl rfl (Nat.le_of_ble_eq_true rfl) rfl ?_
      refine zo_goto (tgt := 3) d_D_repeats_39 (by decide) ?_
      exact hf
    · replace hf := hf.2 c7
      refine zo_iconst (v := 0) d_D_repeats_34 (by decide) ?_
      exact zo_zretI (ty := .boolean) rfl rfl d_D_repeats_35 hf
set_option maxRecDepth 100000 in
set_option maxHeartbeats 4000000 in
theorem w_D_fact_0 {d : Nat} (x1 : Int32) (x2 : Int32)  {h : ZH} {Q : Int32 → ZH → Prop}
    (hf : ((x1 < 0 → Q (-1 : Int32) h) ∧ (¬ x1 < 0 → (((zi h 10 0 4) ≤ x1 → Q (-1 : Int32) h) ∧ (¬ (zi h 10 0 4) ≤ x1 → ((x2 < 0 → Q (-1 : Int32) h) ∧ (¬ x2 < 0 → ((x2 < (4 : Int32) → (vp_in ((x1 * (4 : Int32)) + x2) (zLen 11 1) ∧ Q (zi h 11 1 ((x1 * (4 : Int32)) + x2).toNatClampNeg) h)) ∧ (¬ x2 < (4 : Int32) → Q (-1 : Int32) h))))))))) :
    EvAt d m_D_fact 0 [some (vQ (some (10, 0))), some (vI x1), some (vI x2)] [] h (zQI Q) := by
  refine zo_iload_n d_D_fact_0 rfl rfl ?_
  refine zo_if_lt (tgt := 21) d_D_fact_1 (by decide) (fun c4 => ?_) (fun c4 => ?_)
  · replace hf := hf.1 c4
    refine zo_iconst (v := (-1)) d_D_fact_21 (by decide) ?_
    exact zo_iretI rfl d_D_fact_22 hf
  · replace hf := hf.2 c4
    refine zo_iload_n d_D_fact_4 rfl rfl ?_
    refine zo_aload_n d_D_fact_5 rfl rfl ?_
    refine gf_D_count wd_247 d_D_fact_6 ?_
    refine zo_icmp_ge (tgt := 21) d_D_fact_9 (by decide) (fun c3 => ?_) (fun c3 => ?_)
    · replace hf := hf.1 c3
      refine zo_iconst (v := (-1)) d_D_fact_21 (by decide) ?_
      exact zo_iretI rfl d_D_fact_22 hf
    · replace hf := hf.2 c3
      refine zo_iload_n d_D_fact_12 rfl rfl ?_
      refine zo_if_lt (tgt := 21) d_D_fact_13 (by decide) (fun c2 => ?_) (fun c2 => ?_)
      · replace hf := hf.1 c2
        refine zo_iconst (v := (-1)) d_D_fact_21 (by decide) ?_
        exact zo_iretI rfl d_D_fact_22 hf
      · replace hf := hf.2 c2
        refine zo_iload_n d_D_fact_16 rfl rfl ?_
        refine zo_iconst (v := 4) d_D_fact_17 (by decide) ?_
        refine zo_icmp_lt (tgt := 23) d_D_fact_18 (by decide) (fun c1 => ?_) (fun c1 => ?_)
        · replace hf := hf.1 c1
          refine zo_aload_n d_D_fact_23 rfl rfl ?_
          refine gf_D_facts wd_244 d_D_fact_24 ?_
          refine zo_iload_n d_D_fact_27 rfl rfl ?_
          refine zo_iconst (v := 4) d_D_fact_28 (by decide) ?_
          refine zo_imul d_D_fact_29 ?_
          refine zo_iload_n d_D_fact_30 rfl rfl ?_
          refine zo_iadd d_D_fact_31 ?_
          obtain ⟨hp, hf⟩ := hf
          refine zo_iald (zin (by decide) (by decide)) rfl rfl rfl hp d_D_fact_32 ?_
          exact zo_iretI rfl d_D_fact_33 hf
        · replace hf := hf.2 c1
          refine zo_iconst (v := (-1)) d_D_fact_21 (by decide) ?_
          exact zo_iretI rfl d_D_fact_22 hf
theorem e_D_fact {d : Nat} (x1 : Int32) (x2 : Int32)  {h : ZH} {Q : Int32 → ZH → Prop}
    (hf : ((x1 < 0 → Q (-1 : Int32) h) ∧ (¬ x1 < 0 → (((zi h 10 0 4) ≤ x1 → Q (-1 : Int32) h) ∧ (¬ (zi h 10 0 4) ≤ x1 → ((x2 < 0 → Q (-1 : Int32) h) ∧ (¬ x2 < 0 → ((x2 < (4 : Int32) → (vp_in ((x1 * (4 : Int32)) + x2) (zLen 11 1) ∧ Q (zi h 11 1 ((x1 * (4 : Int32)) + x2).toNatClampNeg) h)) ∧ (¬ x2 < (4 : Int32) → Q (-1 : Int32) h))))))))) :
    EvI d m_D_fact [vQ (some (10, 0)), vI x1, vI x2] h Q := zo_entry (by decide) (Nat.le_of_ble_eq_true rfl) (w_D_fact_0 x1 x2  hf)
