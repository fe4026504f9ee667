set_option maxRecDepth 100000 in
set_option maxHeartbeats 4000000 in
theorem w_M_type_0 {d : Nat} (x1 : Int64)  {h : ZH} {Q : Int32 → ZH → Prop}
    (hf : EvAt d m_M_type 2 [some (vQ (some (12, 0))), some (vL x1), none, some (vI (0 : Int32)), none] [] h (zQI Q)) :
    EvAt d m_M_type 0 [some (vQ (some (12, 0))), some (vL x1), none, none, none] [] h (zQI Q) := by
  refine zo_iconst (v := 0) d_M_type_0 (by decide) ?_
  refine zo_istore_n d_M_type_1 rfl (Nat.le_of_ble_eq_true rfl) rfl ?_
  exact hf
theorem e_M_type {d : Nat} (x1 : Int64)  {h : ZH} {Q : Int32 → ZH → Prop}
    (hf : EvAt d m_M_type 2 [some (vQ (some (12, 0))), some (vL x1), none, some (vI (0 : Int32)), none] [] h (zQI Q)) :
    EvI d m_M_type [vQ (some (12, 0)), vL x1] h Q := zo_entry (by decide) (Nat.le_of_ble_eq_true rfl) (w_M_type_0 x1  hf)
set_option maxRecDepth 100000 in
set_option maxHeartbeats 4000000 in
theorem w_M_type_2 {d : Nat} (x1 : Int64) (x3 : Int32)  {h : ZH} {Q : Int32 → ZH → Prop}
    (hf : (((8 : Int32) ≤ x3 → EvAt d m_M_type 59 [some (vQ (some (12, 0))), some (vL x1), none, some (vI x3), none] [] h (zQI Q)) ∧ (¬ (8 : Int32) ≤ x3 → (((lg_cmp ((x1 >>> (((8 : Int32) * x3).toInt64 &&& 63)) &&& (255 : Int64)) (0 : Int64)) = 0 → EvAt d m_M_type 59 [some (vQ (some (12, 0))), some (vL x1), none, some (vI x3), none] [] h (zQI Q)) ∧ (¬ (lg_cmp ((x1 >>> (((8 : Int32) * x3).toInt64 &&& 63)) &&& (255 : Int64)) (0 : Int64)) = 0 → (((((x1 >>> (((8 : Int32) * x3).toInt64 &&& 63)) &&& (255 : Int64)).toInt32) < (32 : Int32) → Q (0 : Int32) h) ∧ (¬ (((x1 >>> (((8 : Int32) * x3).toInt64 &&& 63)) &&& (255 : Int64)).toInt32) < (32 : Int32) → (((((x1 >>> (((8 : Int32) * x3).toInt64 &&& 63)) &&& (255 : Int64)).toInt32) ≤ (126 : Int32) → EvAt d m_M_type 2 [some (vQ (some (12, 0))), some (vL x1), none, some (vI (x3 + (1 : Int32))), none] [] h (zQI Q)) ∧ (¬ (((x1 >>> (((8 : Int32) * x3).toInt64 &&& 63)) &&& (255 : Int64)).toInt32) ≤ (126 : Int32) → Q (0 : Int32) h))))))))) :
    EvAt d m_M_type 2 [some (vQ (some (12, 0))), some (vL x1), none, some (vI x3), none] [] h (zQI Q) := by
  refine zo_iload_n d_M_type_2 rfl rfl ?_
  refine zo_bipush (v := 8) d_M_type_3 (by decide) ?_
  refine zo_icmp_ge (tgt := 59) d_M_type_5 (by decide) (fun c4 => ?_) (fun c4 => ?_)
  · replace hf := hf.1 c4
    exact hf
  · replace hf := hf.2 c4
    refine zo_lload_n d_M_type_8 rfl rfl ?_
    refine zo_bipush (v := 8) d_M_type_9 (by decide) ?_
    refine zo_iload_n d_M_type_11 rfl rfl ?_
    refine zo_imul d_M_type_12 ?_
    refine zo_lshr d_M_type_13 ?_
    refine zo_ldc2 wd_798 d_M_type_14 ?_
    refine zo_land d_M_type_17 ?_
    refine zo_lconst (v := 0) d_M_type_18 (by decide) ?_
    refine zo_lcmp d_M_type_19 ?_
    refine zo_if_eq (tgt := 59) d_M_type_20 (by decide) (fun c3 => ?_) (fun c3 => ?_)
    · replace hf := hf.1 c3
      exact hf
    · replace hf := hf.2 c3
      refine zo_lload_n d_M_type_23 rfl rfl ?_
      refine zo_bipush (v := 8) d_M_type_24 (by decide) ?_
      refine zo_iload_n d_M_type_26 rfl rfl ?_
      refine zo_imul d_M_type_27 ?_
      refine zo_lshr d_M_type_28 ?_
      refine zo_ldc2 wd_798 d_M_type_29 ?_
      refine zo_land d_M_type_32 ?_
      refine zo_l2i d_M_type_33 ?_
      refine zo_istore d_M_type_34 (Nat.le_of_ble_eq_true rfl) rfl ?_
      refine zo_iload d_M_type_36 rfl ?_
      refine zo_bipush (v := 32) d_M_type_38 (by decide) ?_
      refine zo_icmp_lt (tgt := 50) d_M_type_40 (by decide) (fun c2 => ?_) (fun c2 => ?_)
      · replace hf := hf.1 c2
        refine zo_iconst (v := 0) d_M_type_50 (by decide) ?_
        exact zo_zretI (ty := .boolean) rfl rfl d_M_type_51 hf
      · replace hf := hf.2 c2
        refine zo_iload d_M_type_43 rfl ?_
        refine zo_bipush (v := 126) d_M_type_45 (by decide) ?_
        refine zo_icmp_le (tgt := 52) d_M_type_47 (by decide) (fun c1 => ?_) (fun c1 => ?_)
        · replace hf := hf.1 c1
          refine zo_iload_n d_M_type_52 rfl rfl ?_
          refine zo_iconst (v := 1) d_M_type_53 (by decide) ?_
          refine zo_iadd d_M_type_54 ?_
          refine zo_istore_n d_M_type_55 rfl (Nat.le_of_ble_eq_true rfl) rfl ?_
          refine zo_goto (tgt := 2) d_M_type_56 (by decide) ?_
          refine zo_drop 4 ?_
          exact hf
        · replace hf := hf.2 c1
          refine zo_iconst (v := 0) d_M_type_50 (by decide) ?_
          exact zo_zretI (ty := .boolean) rfl rfl d_M_type_51 hf
set_option maxRecDepth 100000 in
set_option maxHeartbeats 4000000 in
theorem w_M_type_59 {d : Nat} (x1 : Int64) (x3 : Int32)  {h : ZH} {Q : Int32 → ZH → Prop}
    (hf : (((zi h 12 0 0) = 0 → Q (0 : Int32) h) ∧ (¬ (zi h 12 0 0) = 0 → ((((zi h 12 0 5) + x3) ≤ (72 : Int32) → EvAt d m_M_type 82 [some (vQ (some (12, 0))), some (vL x1), none, some (vI x3), some (vI (0 : Int32))] [] h (zQI Q)) ∧ (¬ ((zi h 12 0 5) + x3) ≤ (72 : Int32) → Q (0 : Int32) h))))) :
    EvAt d m_M_type 59 [some (vQ (some (12, 0))), some (vL x1), none, some (vI x3), none] [] h (zQI Q) := by
  refine zo_aload_n d_M_type_59 rfl rfl ?_
  refine gf_M_up wd_699 d_M_type_60 ?_
  refine zo_if_eq (tgt := 77) d_M_type_63 (by decide) (fun c2 => ?_) (fun c2 => ?_)
  · replace hf := hf.1 c2
    refine zo_iconst (v := 0) d_M_type_77 (by decide) ?_
    exact zo_zretI (ty := .boolean) rfl rfl d_M_type_78 hf
  · replace hf := hf.2 c2
    refine zo_aload_n d_M_type_66 rfl rfl ?_
    refine gf_M_length wd_704 d_M_type_67 ?_
    refine zo_iload_n d_M_type_70 rfl rfl ?_
    refine zo_iadd d_M_type_71 ?_
    refine zo_bipush (v := 72) d_M_type_72 (by decide) ?_
    refine zo_icmp_le (tgt := 79) d_M_type_74 (by decide) (fun c1 => ?_) (fun c1 => ?_)
    · replace hf := hf.1 c1
      refine zo_iconst (v := 0) d_M_type_79 (by decide) ?_
      refine zo_istore d_M_type_80 (Nat.le_of_ble_eq_true rfl) rfl ?_
      exact hf
    · replace hf := hf.2 c1
      refine zo_iconst (v := 0) d_M_type_77 (by decide) ?_
      exact zo_zretI (ty := .boolean) rfl rfl d_M_type_78 hf
set_option maxRecDepth 100000 in
set_option maxHeartbeats 4000000 in
theorem w_M_type_82 {d : Nat} (x1 : Int64) (x3 : Int32) (x4 : Int32)  {h : ZH} {Q : Int32 → ZH → Prop}
    (hf : ((x3 ≤ x4 → Q (1 : Int32) h) ∧ (¬ x3 ≤ x4 → (vp_in (zi h 12 0 5) (zLen 13 0) ∧ EvAt d m_M_type 82 [some (vQ (some (12, 0))), some (vL x1), none, some (vI x3), some (vI (x4 + 1))] [] (zw (zw h 13 0 (zi h 12 0 5).toNatClampNeg (((x1 >>> (((8 : Int32) * x4).toInt64 &&& 63)) &&& (255 : Int64)).toInt32)) 12 0 5 ((zi (zw h 13 0 (zi h 12 0 5).toNatClampNeg (((x1 >>> (((8 : Int32) * x4).toInt64 &&& 63)) &&& (255 : Int64)).toInt32)) 12 0 5) + (1 : Int32))) (zQI Q))))) :
    EvAt d m_M_type 82 [some (vQ (some (12, 0))), some (vL x1), none, some (vI x3), some (vI x4)] [] h (zQI Q) := by
  refine zo_iload d_M_type_82 rfl ?_
  refine zo_iload_n d_M_type_84 rfl rfl ?_
  refine zo_icmp_ge (tgt := 125) d_M_type_85 (by decide) (fun c1 => ?_) (fun c1 => ?_)
  · replace hf := hf.1 c1
    refine zo_iconst (v := 1) d_M_type_125 (by decide) ?_
    exact zo_zretI (ty := .boolean) rfl rfl d_M_type_126 hf
  · replace hf := hf.2 c1
    refine zo_aload_n d_M_type_88 rfl rfl ?_
    refine gf_M_line wd_703 d_M_type_89 ?_
    refine zo_aload_n d_M_type_92 rfl rfl ?_
    refine gf_M_length wd_704 d_M_type_93 ?_
    refine zo_lload_n d_M_type_96 rfl rfl ?_
    refine zo_bipush (v := 8) d_M_type_97 (by decide) ?_
    refine zo_iload d_M_type_99 rfl ?_
    refine zo_imul d_M_type_101 ?_
    refine zo_lshr d_M_type_102 ?_
    refine zo_ldc2 wd_798 d_M_type_103 ?_
    refine zo_land d_M_type_106 ?_
    refine zo_l2i d_M_type_107 ?_
    obtain ⟨hp, hf⟩ := hf
    refine zo_iast (zin (by decide) (by decide)) rfl rfl rfl hp d_M_type_108 ?_
    refine zo_aload_n d_M_type_109 rfl rfl ?_
    refine zo_aload_n d_M_type_110 rfl rfl ?_
    refine gf_M_length wd_704 d_M_type_111 ?_
    refine zo_iconst (v := 1) d_M_type_114 (by decide) ?_
    refine zo_iadd d_M_type_115 ?_
    refine pf_M_length wd_704 d_M_type_116 ?_
    refine zo_iinc (v := x4 + 1) d_M_type_119 rfl rfl (Nat.le_of_ble_eq_true rfl) rfl ?_
    refine zo_goto (tgt := 82) d_M_type_122 (by decide) ?_
    exact hf
set_option maxRecDepth 100000 in
set_option maxHeartbeats 4000000 in
theorem w_M_enter_0 {d : Nat}   {h : ZH} {Q : Int32 → ZH → Prop}
    (hf : ((¬ (zi h 12 0 0) = 0 → (((zi h 12 0 8) = 0 → EvI d m_M_command [vQ (some (12, 0))] h (fun y2 g1 => Q y2 (zw g1 12 0 5 (0 : Int32)))) ∧ (¬ (zi h 12 0 8) = 0 → EvI d m_M_textLine [vQ (some (12, 0))] h (fun y4 g3 => Q y4 (zw g3 12 0 5 (0 : Int32)))))) ∧ ((zi h 12 0 0) = 0 → Q (-1 : Int32) h))) :
    EvAt (d + 1) m_M_enter 0 [some (vQ (some (12, 0))), none] [] h (zQI Q) := by
  refine zo_aload_n d_M_enter_0 rfl rfl ?_
  refine gf_M_up wd_699 d_M_enter_1 ?_
  refine zo_if_ne (tgt := 9) d_M_enter_4 (by decide) (fun c6 => ?_) (fun c6 => ?_)
  · replace hf := hf.1 c6
    refine zo_aload_n d_M_enter_9 rfl rfl ?_
    refine gf_M_taking wd_707 d_M_enter_10 ?_
    refine zo_if_eq (tgt := 23) d_M_enter_13 (by decide) (fun c5 => ?_) (fun c5 => ?_)
    · replace hf := hf.1 c5
      refine zo_aload_n d_M_enter_23 rfl rfl ?_
      refine zo_callVI (d := d) (N := m_M_command) (as := []) (n := 0) (zin (by decide) (by decide)) rfl rfl cv_M_command wd_831 rfl rfl (Nat.le_of_ble_eq_true rfl) d_M_enter_24 hf (fun y2 g1 hf => ?_)
      refine zo_istore_n d_M_enter_27 rfl (Nat.le_of_ble_eq_true rfl) rfl ?_
      refine zo_aload_n d_M_enter_28 rfl rfl ?_
      refine zo_iconst (v := 0) d_M_enter_29 (by decide) ?_
      refine pf_M_length wd_704 d_M_enter_30 ?_
      refine zo_iload_n d_M_enter_33 rfl rfl ?_
      exact zo_iretI rfl d_M_enter_34 hf
    · replace hf := hf.2 c5
      refine zo_aload_n d_M_enter_16 rfl rfl ?_
      refine zo_callVI (d := d) (N := m_M_textLine) (as := []) (n := 0) (zin (by decide) (by decide)) rfl rfl cv_M_textLine wd_803 rfl rfl (Nat.le_of_ble_eq_true rfl) d_M_enter_17 hf (fun y4 g3 hf => ?_)
      refine zo_goto (tgt := 27) d_M_enter_20 (by decide) ?_
      refine zo_istore_n d_M_enter_27 rfl (Nat.le_of_ble_eq_true rfl) rfl ?_
      refine zo_aload_n d_M_enter_28 rfl rfl ?_
      refine zo_iconst (v := 0) d_M_enter_29 (by decide) ?_
      refine pf_M_length wd_704 d_M_enter_30 ?_
      refine zo_iload_n d_M_enter_33 rfl rfl ?_
      exact zo_iretI rfl d_M_enter_34 hf
  · replace hf := hf.2 c6
    refine zo_iconst (v := (-1)) d_M_enter_7 (by decide) ?_
    exact zo_iretI rfl d_M_enter_8 hf
theorem e_M_enter {d : Nat}   {h : ZH} {Q : Int32 → ZH → Prop}
    (hf : ((¬ (zi h 12 0 0) = 0 → (((zi h 12 0 8) = 0 → EvI d m_M_command [vQ (some (12, 0))] h (fun y2 g1 => Q y2 (zw g1 12 0 5 (0 : Int32)))) ∧ (¬ (zi h 12 0 8) = 0 → EvI d m_M_textLine [vQ (some (12, 0))] h (fun y4 g3 => Q y4 (zw g3 12 0 5 (0 : Int32)))))) ∧ ((zi h 12 0 0) = 0 → Q (-1 : Int32) h))) :
    EvI (d + 1) m_M_enter [vQ (some (12, 0))] h Q := zo_entry (by decide) (Nat.le_of_ble_eq_true rfl) (w_M_enter_0   hf)
set_option maxRecDepth 100000 in
set_option maxHeartbeats 4000000 in
theorem w_M_textLine_0 {d : Nat}   {h : ZH} {Q : Int32 → ZH → Prop}
    (hf : ((¬ (zi h 12 0 5) = (1 : Int32) → EvAt (d + 1) m_M_textLine 19 [some (vQ (some (12, 0))), none] [] h (zQI Q)) ∧ ((zi h 12 0 5) = (1 : Int32) → (vp_in (0 : Int32) (zLen 13 0) ∧ (((zi h 13 0 (0 : Int32).toNatClampNeg) = (46 : Int32) → (vp_in (6 : Int32) (zLen 13 3) ∧ (((zi (zw (zw h 12 0 8 (0 : Int32)) 12 0 7 (0 : Int32)) 13 3 (6 : Int32).toNatClampNeg) ≤ (600 : Int32) → EvI d m_M_spooled [vQ (some (12, 0))] (zw (zw h 12 0 8 (0 : Int32)) 12 0 7 (0 : Int32)) (fun y2 g1 => ((¬ y2 = (6 : Int32) → EvI d m_M_spool [vQ (some (12, 0)), vI (6 : Int32)] g1 (fun y4 g3 => ((y4 = 0 → Q (0 : Int32) g3) ∧ (¬ y4 = 0 → Q (250 : Int32) g3)))) ∧ (y2 = (6 : Int32) → Q (452 : Int32) g1)))) ∧ (¬ (zi (zw (zw h 12 0 8 (0 : Int32)) 12 0 7 (0 : Int32)) 13 3 (6 : Int32).toNatClampNeg) ≤ (600 : Int32) → Q (552 : Int32) (zw (zw h 12 0 8 (0 : Int32)) 12 0 7 (0 : Int32)))))) ∧ (¬ (zi h 13 0 (0 : Int32).toNatClampNeg) = (46 : Int32) → EvAt (d + 1) m_M_textLine 19 [some (vQ (some (12, 0))), none] [] h (zQI Q))))))) :
    EvAt (d + 1) m_M_textLine 0 [some (vQ (some (12, 0))), none] [] h (zQI Q) := by
  refine zo_aload_n d_M_textLine_0 rfl rfl ?_
  refine gf_M_length wd_704 d_M_textLine_1 ?_
  refine zo_iconst (v := 1) d_M_textLine_4 (by decide) ?_
  refine zo_icmp_ne (tgt := 19) d_M_textLine_5 (by decide) (fun c9 => ?_) (fun c9 => ?_)
  · replace hf := hf.1 c9
    exact hf
  · replace hf := hf.2 c9
    refine zo_aload_n d_M_textLine_8 rfl rfl ?_
    refine gf_M_line wd_703 d_M_textLine_9 ?_
    refine zo_iconst (v := 0) d_M_textLine_12 (by decide) ?_
    obtain ⟨hp, hf⟩ := hf
    refine zo_iald (zin (by decide) (by decide)) rfl rfl rfl hp d_M_textLine_13 ?_
    refine zo_bipush (v := 46) d_M_textLine_14 (by decide) ?_
    refine zo_icmp_eq (tgt := 79) d_M_textLine_16 (by decide) (fun c8 => ?_) (fun c8 => ?_)
    · replace hf := hf.1 c8
      refine zo_aload_n d_M_textLine_79 rfl rfl ?_
      refine zo_iconst (v := 0) d_M_textLine_80 (by decide) ?_
      refine pf_M_taking wd_707 (by decide) d_M_textLine_81 ?_
      refine zo_aload_n d_M_textLine_84 rfl rfl ?_
      refine zo_iconst (v := 0) d_M_textLine_85 (by decide) ?_
      refine pf_M_begun wd_706 (by decide) d_M_textLine_86 ?_
      refine zo_aload_n d_M_textLine_89 rfl rfl ?_
      refine gf_M_textSize wd_711 d_M_textLine_90 ?_
      refine zo_bipush (v := 6) d_M_textLine_93 (by decide) ?_
      obtain ⟨hp, hf⟩ := hf
      refine zo_iald (zin (by decide) (by decide)) rfl rfl rfl hp d_M_textLine_95 ?_
      refine zo_sipush (v := 600) d_M_textLine_96 (by decide) ?_
      refine zo_icmp_le (tgt := 106) d_M_textLine_99 (by decide) (fun c7 => ?_) (fun c7 => ?_)
      · replace hf := hf.1 c7
        refine zo_aload_n d_M_textLine_106 rfl rfl ?_
        refine zo_callVI (d := d) (N := m_M_spooled) (as := []) (n := 0) (zin (by decide) (by decide)) rfl rfl cv_M_spooled wd_811 rfl rfl (Nat.le_of_ble_eq_true rfl) d_M_textLine_107 hf (fun y2 g1 hf => ?_)
        refine zo_bipush (v := 6) d_M_textLine_110 (by decide) ?_
        refine zo_icmp_ne (tgt := 119) d_M_textLine_112 (by decide) (fun c6 => ?_) (fun c6 => ?_)
        · replace hf := hf.1 c6
          refine zo_aload_n d_M_textLine_119 rfl rfl ?_
          refine zo_bipush (v := 6) d_M_textLine_120 (by decide) ?_
          refine zo_callVI (d := d) (N := m_M_spool) (as := [vI (6 : Int32)]) (n := 1) (zin (by decide) (by decide)) rfl rfl cv_M_spool wd_815 rfl rfl (Nat.le_of_ble_eq_true rfl) d_M_textLine_122 hf (fun y4 g3 hf => ?_)
          refine zo_if_eq (tgt := 134) d_M_textLine_125 (by decide) (fun c5 => ?_) (fun c5 => ?_)
          · replace hf := hf.1 c5
            refine zo_iconst (v := 0) d_M_textLine_134 (by decide) ?_
            exact zo_iretI rfl d_M_textLine_135 hf
          · replace hf := hf.2 c5
            refine zo_sipush (v := 250) d_M_textLine_128 (by decide) ?_
            refine zo_goto (tgt := 135) d_M_textLine_131 (by decide) ?_
            exact zo_iretI rfl d_M_textLine_135 hf
        · replace hf := hf.2 c6
          refine zo_sipush (v := 452) d_M_textLine_115 (by decide) ?_
          exact zo_iretI rfl d_M_textLine_118 hf
      · replace hf := hf.2 c7
        refine zo_sipush (v := 552) d_M_textLine_102 (by decide) ?_
        exact zo_iretI rfl d_M_textLine_105 hf
    · replace hf := hf.2 c8
      exact hf
theorem e_M_textLine {d : Nat}   {h : ZH} {Q : Int32 → ZH → Prop}
    (hf : ((¬ (zi h 12 0 5) = (1 : Int32) → EvAt (d + 1) m_M_textLine 19 [some (vQ (some (12, 0))), none] [] h (zQI Q)) ∧ ((zi h 12 0 5) = (1 : Int32) → (vp_in (0 : Int32) (zLen 13 0) ∧ (((zi h 13 0 (0 : Int32).toNatClampNeg) = (46 : Int32) → (vp_in (6 : Int32) (zLen 13 3) ∧ (((zi (zw (zw h 12 0 8 (0 : Int32)) 12 0 7 (0 : Int32)) 13 3 (6 : Int32).toNatClampNeg) ≤ (600 : Int32) → EvI d m_M_spooled [vQ (some (12, 0))] (zw (zw h 12 0 8 (0 : Int32)) 12 0 7 (0 : Int32)) (fun y2 g1 => ((¬ y2 = (6 : Int32) → EvI d m_M_spool [vQ (some (12, 0)), vI (6 : Int32)] g1 (fun y4 g3 => ((y4 = 0 → Q (0 : Int32) g3) ∧ (¬ y4 = 0 → Q (250 : Int32) g3)))) ∧ (y2 = (6 : Int32) → Q (452 : Int32) g1)))) ∧ (¬ (zi (zw (zw h 12 0 8 (0 : Int32)) 12 0 7 (0 : Int32)) 13 3 (6 : Int32).toNatClampNeg) ≤ (600 : Int32) → Q (552 : Int32) (zw (zw h 12 0 8 (0 : Int32)) 12 0 7 (0 : Int32)))))) ∧ (¬ (zi h 13 0 (0 : Int32).toNatClampNeg) = (46 : Int32) → EvAt (d + 1) m_M_textLine 19 [some (vQ (some (12, 0))), none] [] h (zQI Q))))))) :
    EvI (d + 1) m_M_textLine [vQ (some (12, 0))] h Q := zo_entry (by decide) (Nat.le_of_ble_eq_true rfl) (w_M_textLine_0   hf)
set_option maxRecDepth 100000 in
set_option maxHeartbeats 4000000 in
theorem w_M_textLine_19 {d : Nat}   {h : ZH} {Q : Int32 → ZH → Prop}
    (hf : (((zi h 12 0 5) ≤ 0 → EvAt (d + 1) m_M_textLine 41 [some (vQ (some (12, 0))), none] [] h (zQI Q)) ∧ (¬ (zi h 12 0 5) ≤ 0 → (vp_in (0 : Int32) (zLen 13 0) ∧ ((¬ (zi h 13 0 (0 : Int32).toNatClampNeg) = (46 : Int32) → EvAt (d + 1) m_M_textLine 41 [some (vQ (some (12, 0))), none] [] h (zQI Q)) ∧ ((zi h 13 0 (0 : Int32).toNatClampNeg) = (46 : Int32) → EvAt (d + 1) m_M_textLine 42 [some (vQ (some (12, 0))), none] [vI (1 : Int32)] h (zQI Q))))))) :
    EvAt (d + 1) m_M_textLine 19 [some (vQ (some (12, 0))), none] [] h (zQI Q) := by
  refine zo_aload_n d_M_textLine_19 rfl rfl ?_
  refine gf_M_length wd_704 d_M_textLine_20 ?_
  refine zo_if_le (tgt := 41) d_M_textLine_23 (by decide) (fun c2 => ?_) (fun c2 => ?_)
  · replace hf := hf.1 c2
    exact hf
  · replace hf := hf.2 c2
    refine zo_aload_n d_M_textLine_26 rfl rfl ?_
    refine gf_M_line wd_703 d_M_textLine_27 ?_
    refine zo_iconst (v := 0) d_M_textLine_30 (by decide) ?_
    obtain ⟨hp, hf⟩ := hf
    refine zo_iald (zin (by decide) (by decide)) rfl rfl rfl hp d_M_textLine_31 ?_
    refine zo_bipush (v := 46) d_M_textLine_32 (by decide) ?_
    refine zo_icmp_ne (tgt := 41) d_M_textLine_34 (by decide) (fun c1 => ?_) (fun c1 => ?_)
    · replace hf := hf.1 c1
      exact hf
    · replace hf := hf.2 c1
      refine zo_iconst (v := 1) d_M_textLine_37 (by decide) ?_
      refine zo_goto (tgt := 42) d_M_textLine_38 (by decide) ?_
      exact hf
set_option maxRecDepth 100000 in
set_option maxHeartbeats 4000000 in
theorem w_M_textLine_41 {d : Nat}   {h : ZH} {Q : Int32 → ZH → Prop}
    (hf : EvAt (d + 1) m_M_textLine 42 [some (vQ (some (12, 0))), none] [vI (0 : Int32)] h (zQI Q)) :
    EvAt (d + 1) m_M_textLine 41 [some (vQ (some (12, 0))), none] [] h (zQI Q) := by
  refine zo_iconst (v := 0) d_M_textLine_41 (by decide) ?_
  exact hf
set_option maxRecDepth 100000 in
set_option maxHeartbeats 4000000 in
theorem w_M_textLine_42 {d : Nat} (xs0 : Int32)  {h : ZH} {Q : Int32 → ZH → Prop}
    (hf : EvAt (d + 1) m_M_textLine 43 [some (vQ (some (12, 0))), some (vI xs0)] [] h (zQI Q)) :
    EvAt (d + 1) m_M_textLine 42 [some (vQ (some (12, 0))), none] [vI xs0] h (zQI Q) := by
  refine zo_istore_n d_M_textLine_42 rfl (Nat.le_of_ble_eq_true rfl) rfl ?_
  exact hf
set_option maxRecDepth 100000 in
set_option maxHeartbeats 4000000 in
theorem w_M_textLine_43 {d : Nat} (x1 : Int32)  {h : ZH} {Q : Int32 → ZH → Prop}
    (hf : (((zi h 12 0 5) ≤ x1 → EvV d m_M_put [vQ (some (12, 0)), vI (6 : Int32), vI (10 : Int32)] h (fun g1 => Q (0 : Int32) g1)) ∧ (¬ (zi h 12 0 5) ≤ x1 → (vp_in x1 (zLen 13 0) ∧ EvV d m_M_put [vQ (some (12, 0)), vI (6 : Int32), vI (zi h 13 0 x1.toNatClampNeg)] h (fun g2 => EvAt (d + 1) m_M_textLine 43 [some (vQ (some (12, 0))), some (vI (x1 + 1))] [] g2 (zQI Q)))))) :
    EvAt (d + 1) m_M_textLine 43 [some (vQ (some (12, 0))), some (vI x1)] [] h (zQI Q) := by
  refine zo_iload_n d_M_textLine_43 rfl rfl ?_
  refine zo_aload_n d_M_textLine_44 rfl rfl ?_
  refine gf_M_length wd_704 d_M_textLine_45 ?_
  refine zo_icmp_ge (tgt := 69) d_M_textLine_48 (by decide) (fun c3 => ?_) (fun c3 => ?_)
  · replace hf := hf.1 c3
    refine zo_aload_n d_M_textLine_69 rfl rfl ?_
    refine zo_bipush (v := 6) d_M_textLine_70 (by decide) ?_
    refine zo_bipush (v := 10) d_M_textLine_72 (by decide) ?_
    refine zo_callVV (d := d) (N := m_M_put) (as := [vI (6 : Int32), vI (10 : Int32)]) (n := 2) (zin (by decide) (by decide)) rfl rfl cv_M_put wd_807 rfl rfl (Nat.le_of_ble_eq_true rfl) d_M_textLine_74 hf (fun g1 hf => ?_)
    refine zo_iconst (v := 0) d_M_textLine_77 (by decide) ?_
    exact zo_iretI rfl d_M_textLine_78 hf
  · replace hf := hf.2 c3
    refine zo_aload_n d_M_textLine_51 rfl rfl ?_
    refine zo_bipush (v := 6) d_M_textLine_52 (by decide) ?_
    refine zo_aload_n d_M_textLine_54 rfl rfl ?_
    refine gf_M_line wd_703 d_M_textLine_55 ?_
    refine zo_iload_n d_M_textLine_58 rfl rfl ?_
    obtain ⟨hp, hf⟩ := hf
    refine zo_iald (zin (by decide) (by decide)) rfl rfl rfl hp d_M_textLine_59 ?_
    refine zo_callVV (d := d) (N := m_M_put) (as := [vI (6 : Int32), vI (zi h 13 0 x1.toNatClampNeg)]) (n := 2) (zin (by decide) (by decide)) rfl rfl cv_M_put wd_807 rfl rfl (Nat.le_of_ble_eq_true rfl) d_M_textLine_60 hf (fun g2 hf => ?_)
    refine zo_iinc (v := x1 + 1) d_M_textLine_63 rfl rfl (Nat.le_of_ble_eq_true rfl) rfl ?_
    refine zo_goto (tgt := 43) d_M_textLine_66 (by decide) ?_
    exact hf
set_option maxRecDepth 100000 in
set_option maxHeartbeats 4000000 in
theorem w_M_put_0 {d : Nat} (x1 : Int32) (x2 : Int32)  {h : ZH} {Q : ZH → Prop}
    (hf : (vp_in x1 (zLen 13 3) ∧ (((602 : Int32) ≤ (zi h 13 3 x1.toNatClampNeg) → Q h) ∧ (¬ (602 : Int32) ≤ (zi h 13 3 x1.toNatClampNeg) → (vp_in x1 (zLen 13 3) ∧ (vp_in (((602 : Int32) * x1) + (zi h 13 3 x1.toNatClampNeg)) (zLen 13 2) ∧ (vp_in x1 (zLen 13 3) ∧ (vp_in x1 (zLen 13 3) ∧ Q (zw (zw h 13 2 (((602 : Int32) * x1) + (zi h 13 3 x1.toNatClampNeg)).toNatClampNeg x2) 13 3 x1.toNatClampNeg ((zi (zw h 13 2 (((602 : Int32) * x1) + (zi h 13 3 x1.toNatClampNeg)).toNatClampNeg x2) 13 3 x1.toNatClampNeg) + (1 : Int32))))))))))) :
    EvAt d m_M_put 0 [some (vQ (some (12, 0))), some (vI x1), some (vI x2)] [] h (zQV Q) := by
  refine zo_aload_n d_M_put_0 rfl rfl ?_
  refine gf_M_textSize wd_711 d_M_put_1 ?_
  refine zo_iload_n d_M_put_4 rfl rfl ?_
  obtain ⟨hp, hf⟩ := hf
  refine zo_iald (zin (by decide) (by decide)) rfl rfl rfl hp d_M_put_5 ?_
  refine zo_sipush (v := 602) d_M_put_6 (by decide) ?_
  refine zo_icmp_ge (tgt := 44) d_M_put_9 (by decide) (fun c1 => ?_) (fun c1 => ?_)
  · replace hf := hf.1 c1
    exact zo_vretV rfl d_M_put_44 hf
  · replace hf := hf.2 c1
    refine zo_aload_n d_M_put_12 rfl rfl ?_
    refine gf_M_texts wd_710 d_M_put_13 ?_
    refine zo_sipush (v := 602) d_M_put_16 (by decide) ?_
    refine zo_iload_n d_M_put_19 rfl rfl ?_
    refine zo_imul d_M_put_20 ?_
    refine zo_aload_n d_M_put_21 rfl rfl ?_
    refine gf_M_textSize wd_711 d_M_put_22 ?_
    refine zo_iload_n d_M_put_25 rfl rfl ?_
    obtain ⟨hp, hf⟩ := hf
    refine zo_iald (zin (by decide) (by decide)) rfl rfl rfl hp d_M_put_26 ?_
    refine zo_iadd d_M_put_27 ?_
    refine zo_iload_n d_M_put_28 rfl rfl ?_
    obtain ⟨hp, hf⟩ := hf
    refine zo_iast (zin (by decide) (by decide)) rfl rfl rfl hp d_M_put_29 ?_
    refine zo_aload_n d_M_put_30 rfl rfl ?_
    refine gf_M_textSize wd_711 d_M_put_31 ?_
    refine zo_iload_n d_M_put_34 rfl rfl ?_
    refine zo_aload_n d_M_put_35 rfl rfl ?_
    refine gf_M_textSize wd_711 d_M_put_36 ?_
    refine zo_iload_n d_M_put_39 rfl rfl ?_
    obtain ⟨hp, hf⟩ := hf
    refine zo_iald (zin (by decide) (by decide)) rfl rfl rfl hp d_M_put_40 ?_
    refine zo_iconst (v := 1) d_M_put_41 (by decide) ?_
    refine zo_iadd d_M_put_42 ?_
    obtain ⟨hp, hf⟩ := hf
    refine zo_iast (zin (by decide) (by decide)) rfl rfl rfl hp d_M_put_43 ?_
    exact zo_vretV rfl d_M_put_44 hf
theorem e_M_put {d : Nat} (x1 : Int32) (x2 : Int32)  {h : ZH} {Q : ZH → Prop}
    (hf : (vp_in x1 (zLen 13 3) ∧ (((602 : Int32) ≤ (zi h 13 3 x1.toNatClampNeg) → Q h) ∧ (¬ (602 : Int32) ≤ (zi h 13 3 x1.toNatClampNeg) → (vp_in x1 (zLen 13 3) ∧ (vp_in (((602 : Int32) * x1) + (zi h 13 3 x1.toNatClampNeg)) (zLen 13 2) ∧ (vp_in x1 (zLen 13 3) ∧ (vp_in x1 (zLen 13 3) ∧ Q (zw (zw h 13 2 (((602 : Int32) * x1) + (zi h 13 3 x1.toNatClampNeg)).toNatClampNeg x2) 13 3 x1.toNatClampNeg ((zi (zw h 13 2 (((602 : Int32) * x1) + (zi h 13 3 x1.toNatClampNeg)).toNatClampNeg x2) 13 3 x1.toNatClampNeg) + (1 : Int32))))))))))) :
    EvV d m_M_put [vQ (some (12, 0)), vI x1, vI x2] h Q := zo_entry (by decide) (Nat.le_of_ble_eq_true rfl) (w_M_put_0 x1 x2  hf)
set_option maxRecDepth 100000 in
set_option maxHeartbeats 4000000 in
theorem w_M_spooled_0 {d : Nat}   {h : ZH} {Q : Int32 → ZH → Prop}
    (hf : EvAt d m_M_spooled 4 [some (vQ (some (12, 0))), some (vI (0 : Int32)), some (vI (0 : Int32))] [] h (zQI Q)) :
    EvAt d m_M_spooled 0 [some (vQ (some (12, 0))), none, none] [] h (zQI Q) := by
  refine zo_iconst (v := 0) d_M_spooled_0 (by decide) ?_
  refine zo_istore_n d_M_spooled_1 rfl (Nat.le_of_ble_eq_true rfl) rfl ?_
  refine zo_iconst (v := 0) d_M_spooled_2 (by decide) ?_
  refine zo_istore_n d_M_spooled_3 rfl (Nat.le_of_ble_eq_true rfl) rfl ?_
  exact hf
theorem e_M_spooled {d : Nat}   {h : ZH} {Q : Int32 → ZH → Prop}
    (hf : EvAt d m_M_spooled 4 [some (vQ (some (12, 0))), some (vI (0 : Int32)), some (vI (0 : Int32))] [] h (zQI Q)) :
    EvI d m_M_spooled [vQ (some (12, 0))] h Q := zo_entry (by decide) (Nat.le_of_ble_eq_true rfl) (w_M_spooled_0   hf)
set_option maxRecDepth 100000 in
set_option maxHeartbeats 4000000 in
theorem w_M_spooled_4 {d : Nat} (x1 : Int32) (x2 : Int32)  {h : ZH} {Q : Int32 → ZH → Prop}
    (hf : (((6 : Int32) ≤ x2 → Q x1 h) ∧ (¬ (6 : Int32) ≤ x2 → (vp_in x2 (zLen 13 1) ∧ (((zi h 13 1 x2.toNatClampNeg) < 0 → EvAt d m_M_spooled 26 [some (vQ (some (12, 0))), none, some (vI x2)] [vI x1] h (zQI Q)) ∧ (¬ (zi h 13 1 x2.toNatClampNeg) < 0 → EvAt d m_M_spooled 26 [some (vQ (some (12, 0))), none, some (vI x2)] [vI (x1 + (1 : Int32))] h (zQI Q))))))) :
    EvAt d m_M_spooled 4 [some (vQ (some (12, 0))), some (vI x1), some (vI x2)] [] h (zQI Q) := by
  refine zo_iload_n d_M_spooled_4 rfl rfl ?_
  refine zo_bipush (v := 6) d_M_spooled_5 (by decide) ?_
  refine zo_icmp_ge (tgt := 33) d_M_spooled_7 (by decide) (fun c2 => ?_) (fun c2 => ?_)
  · replace hf := hf.1 c2
    refine zo_iload_n d_M_spooled_33 rfl rfl ?_
    exact zo_iretI rfl d_M_spooled_34 hf
  · replace hf := hf.2 c2
    refine zo_aload_n d_M_spooled_10 rfl rfl ?_
    refine gf_M_number wd_708 d_M_spooled_11 ?_
    refine zo_iload_n d_M_spooled_14 rfl rfl ?_
    obtain ⟨hp, hf⟩ := hf
    refine zo_iald (zin (by decide) (by decide)) rfl rfl rfl hp d_M_spooled_15 ?_
    refine zo_if_lt (tgt := 25) d_M_spooled_16 (by decide) (fun c1 => ?_) (fun c1 => ?_)
    · replace hf := hf.1 c1
      refine zo_iload_n d_M_spooled_25 rfl rfl ?_
      refine zo_drop 1 ?_
      exact hf
    · replace hf := hf.2 c1
      refine zo_iload_n d_M_spooled_19 rfl rfl ?_
      refine zo_iconst (v := 1) d_M_spooled_20 (by decide) ?_
      refine zo_iadd d_M_spooled_21 ?_
      refine zo_goto (tgt := 26) d_M_spooled_22 (by decide) ?_
      refine zo_drop 1 ?_
      exact hf
set_option maxRecDepth 100000 in
set_option maxHeartbeats 4000000 in
theorem w_M_spooled_26 {d : Nat} (x2 : Int32) (xs0 : Int32)  {h : ZH} {Q : Int32 → ZH → Prop}
    (hf : EvAt d m_M_spooled 4 [some (vQ (some (12, 0))), some (vI xs0), some (vI (x2 + 1))] [] h (zQI Q)) :
    EvAt d m_M_spooled 26 [some (vQ (some (12, 0))), none, some (vI x2)] [vI xs0] h (zQI Q) := by
  refine zo_istore_n d_M_spooled_26 rfl (Nat.le_of_ble_eq_true rfl) rfl ?_
  refine zo_iinc (v := x2 + 1) d_M_spooled_27 rfl rfl (Nat.le_of_ble_eq_true rfl) rfl ?_
  refine zo_goto (tgt := 4) d_M_spooled_30 (by decide) ?_
  exact hf
set_option maxRecDepth 100000 in
set_option maxHeartbeats 4000000 in
theorem w_M_spool_0 {d : Nat} (x1 : Int32)  {h : ZH} {Q : Int32 → ZH → Prop}
    (hf : EvI d m_M_write [vQ (some (12, 0))] (zw h 12 0 2 ((zi h 12 0 2) + (1 : Int32))) (fun y2 g1 => ((¬ y2 = 0 → EvAt (d + 1) m_M_spool 26 [some (vQ (some (12, 0))), some (vI x1), some (vI (zi h 12 0 2)), some (vI (0 : Int32)), none] [] g1 (zQI Q)) ∧ (y2 = 0 → Q (0 : Int32) g1)))) :
    EvAt (d + 1) m_M_spool 0 [some (vQ (some (12, 0))), some (vI x1), none, none, none] [] h (zQI Q) := by
  refine zo_aload_n d_M_spool_0 rfl rfl ?_
  refine gf_M_given wd_701 d_M_spool_1 ?_
  refine zo_istore_n d_M_spool_4 rfl (Nat.le_of_ble_eq_true rfl) rfl ?_
  refine zo_aload_n d_M_spool_5 rfl rfl ?_
  refine zo_aload_n d_M_spool_6 rfl rfl ?_
  refine gf_M_given wd_701 d_M_spool_7 ?_
  refine zo_iconst (v := 1) d_M_spool_10 (by decide) ?_
  refine zo_iadd d_M_spool_11 ?_
  refine pf_M_given wd_701 d_M_spool_12 ?_
  refine zo_aload_n d_M_spool_15 rfl rfl ?_
  refine zo_callVI (d := d) (N := m_M_write) (as := []) (n := 0) (zin (by decide) (by decide)) rfl rfl cv_M_write wd_819 rfl rfl (Nat.le_of_ble_eq_true rfl) d_M_spool_16 hf (fun y2 g1 hf => ?_)
  refine zo_if_ne (tgt := 24) d_M_spool_19 (by decide) (fun c3 => ?_) (fun c3 => ?_)
  · replace hf := hf.1 c3
    refine zo_iconst (v := 0) d_M_spool_24 (by decide) ?_
    refine zo_istore_n d_M_spool_25 rfl (Nat.le_of_ble_eq_true rfl) rfl ?_
    exact hf
  · replace hf := hf.2 c3
    refine zo_iconst (v := 0) d_M_spool_22 (by decide) ?_
    exact zo_zretI (ty := .boolean) rfl rfl d_M_spool_23 hf
theorem e_M_spool {d : Nat} (x1 : Int32)  {h : ZH} {Q : Int32 → ZH → Prop}
    (hf : EvI d m_M_write [vQ (some (12, 0))] (zw h 12 0 2 ((zi h 12 0 2) + (1 : Int32))) (fun y2 g1 => ((¬ y2 = 0 → EvAt (d + 1) m_M_spool 26 [some (vQ (some (12, 0))), some (vI x1), some (vI (zi h 12 0 2)), some (vI (0 : Int32)), none] [] g1 (zQI Q)) ∧ (y2 = 0 → Q (0 : Int32) g1)))) :
    EvI (d + 1) m_M_spool [vQ (some (12, 0)), vI x1] h Q := zo_entry (by decide) (Nat.le_of_ble_eq_true rfl) (w_M_spool_0 x1  hf)
set_option maxRecDepth 100000 in
set_option maxHeartbeats 4000000 in
theorem w_M_spool_26 {d : Nat} (x1 : Int32) (x2 : Int32) (x3 : Int32)  {h : ZH} {Q : Int32 → ZH → Prop}
    (hf : (vp_in x3 (zLen 13 1) ∧ (((zi h 13 1 x3.toNatClampNeg) < 0 → (vp_in x3 (zLen 13 1) ∧ (vp_in x3 (zLen 14 0) ∧ (vp_in x1 (zLen 13 3) ∧ (vp_in x3 (zLen 13 3) ∧ EvAt (d + 1) m_M_spool 71 [some (vQ (some (12, 0))), some (vI x1), none, some (vI x3), some (vI (0 : Int32))] [] (zw (zw (zw h 13 1 x3.toNatClampNeg x2) 14 0 x3.toNatClampNeg (vp_nar .boolean (0 : Int32))) 13 3 x3.toNatClampNeg (zi (zw (zw h 13 1 x3.toNatClampNeg x2) 14 0 x3.toNatClampNeg (vp_nar .boolean (0 : Int32))) 13 3 x1.toNatClampNeg)) (zQI Q)))))) ∧ (¬ (zi h 13 1 x3.toNatClampNeg) < 0 → EvAt (d + 1) m_M_spool 26 [some (vQ (some (12, 0))), some (vI x1), some (vI x2), some (vI (x3 + (1 : Int32))), none] [] h (zQI Q))))) :
    EvAt (d + 1) m_M_spool 26 [some (vQ (some (12, 0))), some (vI x1), some (vI x2), some (vI x3), none] [] h (zQI Q) := by
  refine zo_aload_n d_M_spool_26 rfl rfl ?_
  refine gf_M_number wd_708 d_M_spool_27 ?_
  refine zo_iload_n d_M_spool_30 rfl rfl ?_
  obtain ⟨hp, hf⟩ := hf
  refine zo_iald (zin (by decide) (by decide)) rfl rfl rfl hp d_M_spool_31 ?_
  refine zo_if_lt (tgt := 42) d_M_spool_32 (by decide) (fun c1 => ?_) (fun c1 => ?_)
  · replace hf := hf.1 c1
    refine zo_aload_n d_M_spool_42 rfl rfl ?_
    refine gf_M_number wd_708 d_M_spool_43 ?_
    refine zo_iload_n d_M_spool_46 rfl rfl ?_
    refine zo_iload_n d_M_spool_47 rfl rfl ?_
    obtain ⟨hp, hf⟩ := hf
    refine zo_iast (zin (by decide) (by decide)) rfl rfl rfl hp d_M_spool_48 ?_
    refine zo_aload_n d_M_spool_49 rfl rfl ?_
    refine gf_M_sealed wd_709 d_M_spool_50 ?_
    refine zo_iload_n d_M_spool_53 rfl rfl ?_
    refine zo_iconst (v := 0) d_M_spool_54 (by decide) ?_
    obtain ⟨hp, hf⟩ := hf
    refine zo_zast (zin (by decide) (by decide)) rfl rfl rfl hp d_M_spool_55 ?_
    refine zo_aload_n d_M_spool_56 rfl rfl ?_
    refine gf_M_textSize wd_711 d_M_spool_57 ?_
    refine zo_iload_n d_M_spool_60 rfl rfl ?_
    refine zo_aload_n d_M_spool_61 rfl rfl ?_
    refine gf_M_textSize wd_711 d_M_spool_62 ?_
    refine zo_iload_n d_M_spool_65 rfl rfl ?_
    obtain ⟨hp, hf⟩ := hf
    refine zo_iald (zin (by decide) (by decide)) rfl rfl rfl hp d_M_spool_66 ?_
    obtain ⟨hp, hf⟩ := hf
    refine zo_iast (zin (by decide) (by decide)) rfl rfl rfl hp d_M_spool_67 ?_
    refine zo_iconst (v := 0) d_M_spool_68 (by decide) ?_
    refine zo_istore d_M_spool_69 (Nat.le_of_ble_eq_true rfl) rfl ?_
    refine zo_drop 2 ?_
    exact hf
  · replace hf := hf.2 c1
    refine zo_iload_n d_M_spool_35 rfl rfl ?_
    refine zo_iconst (v := 1) d_M_spool_36 (by decide) ?_
    refine zo_iadd d_M_spool_37 ?_
    refine zo_istore_n d_M_spool_38 rfl (Nat.le_of_ble_eq_true rfl) rfl ?_
    refine zo_goto (tgt := 26) d_M_spool_39 (by decide) ?_
    exact hf
set_option maxRecDepth 100000 in
set_option maxHeartbeats 4000000 in
theorem w_M_spool_71 {d : Nat} (x1 : Int32) (x3 : Int32) (x4 : Int32)  {h : ZH} {Q : Int32 → ZH → Prop}
    (hf : (((600 : Int32) ≤ x4 → (vp_in x1 (zLen 13 6) ∧ (vp_in x3 (zLen 13 6) ∧ EvAt (d + 1) m_M_spool 126 [some (vQ (some (12, 0))), some (vI x1), none, some (vI x3), some (vI (0 : Int32))] [] (zw h 13 6 x3.toNatClampNeg (zi h 13 6 x1.toNatClampNeg)) (zQI Q)))) ∧ (¬ (600 : Int32) ≤ x4 → (vp_in (((602 : Int32) * x1) + x4) (zLen 13 2) ∧ (vp_in (((602 : Int32) * x3) + x4) (zLen 13 2) ∧ EvAt (d + 1) m_M_spool 71 [some (vQ (some (12, 0))), some (vI x1), none, some (vI x3), some (vI (x4 + 1))] [] (zw h 13 2 (((602 : Int32) * x3) + x4).toNatClampNeg (zi h 13 2 (((602 : Int32) * x1) + x4).toNatClampNeg)) (zQI Q)))))) :
    EvAt (d + 1) m_M_spool 71 [some (vQ (some (12, 0))), some (vI x1), none, some (vI x3), some (vI x4)] [] h (zQI Q) := by
  refine zo_iload d_M_spool_71 rfl ?_
  refine zo_sipush (v := 600) d_M_spool_73 (by decide) ?_
  refine zo_icmp_ge (tgt := 111) d_M_spool_76 (by decide) (fun c1 => ?_) (fun c1 => ?_)
  · replace hf := hf.1 c1
    refine zo_aload_n d_M_spool_111 rfl rfl ?_
    refine gf_M_many wd_714 d_M_spool_112 ?_
    refine zo_iload_n d_M_spool_115 rfl rfl ?_
    refine zo_aload_n d_M_spool_116 rfl rfl ?_
    refine gf_M_many wd_714 d_M_spool_117 ?_
    refine zo_iload_n d_M_spool_120 rfl rfl ?_
    obtain ⟨hp, hf⟩ := hf
    refine zo_iald (zin (by decide) (by decide)) rfl rfl rfl hp d_M_spool_121 ?_
    obtain ⟨hp, hf⟩ := hf
    refine zo_iast (zin (by decide) (by decide)) rfl rfl rfl hp d_M_spool_122 ?_
    refine zo_iconst (v := 0) d_M_spool_123 (by decide) ?_
    refine zo_istore d_M_spool_124 (Nat.le_of_ble_eq_true rfl) rfl ?_
    exact hf
  · replace hf := hf.2 c1
    refine zo_aload_n d_M_spool_79 rfl rfl ?_
    refine gf_M_texts wd_710 d_M_spool_80 ?_
    refine zo_sipush (v := 602) d_M_spool_83 (by decide) ?_
    refine zo_iload_n d_M_spool_86 rfl rfl ?_
    refine zo_imul d_M_spool_87 ?_
    refine zo_iload d_M_spool_88 rfl ?_
    refine zo_iadd d_M_spool_90 ?_
    refine zo_aload_n d_M_spool_91 rfl rfl ?_
    refine gf_M_texts wd_710 d_M_spool_92 ?_
    refine zo_sipush (v := 602) d_M_spool_95 (by decide) ?_
    refine zo_iload_n d_M_spool_98 rfl rfl ?_
    refine zo_imul d_M_spool_99 ?_
    refine zo_iload d_M_spool_100 rfl ?_
    refine zo_iadd d_M_spool_102 ?_
    obtain ⟨hp, hf⟩ := hf
    refine zo_iald (zin (by decide) (by decide)) rfl rfl rfl hp d_M_spool_103 ?_
    obtain ⟨hp, hf⟩ := hf
    refine zo_iast (zin (by decide) (by decide)) rfl rfl rfl hp d_M_spool_104 ?_
    refine zo_iinc (v := x4 + 1) d_M_spool_105 rfl rfl (Nat.le_of_ble_eq_true rfl) rfl ?_
    refine zo_goto (tgt := 71) d_M_spool_108 (by decide) ?_
    exact hf
set_option maxRecDepth 100000 in
set_option maxHeartbeats 4000000 in
theorem w_M_spool_126 {d : Nat} (x1 : Int32) (x3 : Int32) (x4 : Int32)  {h : ZH} {Q : Int32 → ZH → Prop}
    (hf : (((5 : Int32) ≤ x4 → EvAt (d + 1) m_M_spool 157 [some (vQ (some (12, 0))), none, none, some (vI x3), some (vI (0 : Int32))] [] h (zQI Q)) ∧ (¬ (5 : Int32) ≤ x4 → EvV d m_M_copyPath [vQ (some (12, 0)), vI (((5 : Int32) * x1) + x4), vI (((5 : Int32) * x3) + x4)] h (fun g1 => EvAt (d + 1) m_M_spool 126 [some (vQ (some (12, 0))), some (vI x1), none, some (vI x3), some (vI (x4 + 1))] [] g1 (zQI Q))))) :
    EvAt (d + 1) m_M_spool 126 [some (vQ (some (12, 0))), some (vI x1), none, some (vI x3), some (vI x4)] [] h (zQI Q) := by
  refine zo_iload d_M_spool_126 rfl ?_
  refine zo_iconst (v := 5) d_M_spool_128 (by decide) ?_
  refine zo_icmp_ge (tgt := 154) d_M_spool_129 (by decide) (fun c2 => ?_) (fun c2 => ?_)
  · replace hf := hf.1 c2
    refine zo_iconst (v := 0) d_M_spool_154 (by decide) ?_
    refine zo_istore d_M_spool_155 (Nat.le_of_ble_eq_true rfl) rfl ?_
    refine zo_drop 1 ?_
    exact hf
  · replace hf := hf.2 c2
    refine zo_aload_n d_M_spool_132 rfl rfl ?_
    refine zo_iconst (v := 5) d_M_spool_133 (by decide) ?_
    refine zo_iload_n d_M_spool_134 rfl rfl ?_
    refine zo_imul d_M_spool_135 ?_
    refine zo_iload d_M_spool_136 rfl ?_
    refine zo_iadd d_M_spool_138 ?_
    refine zo_iconst (v := 5) d_M_spool_139 (by decide) ?_
    refine zo_iload_n d_M_spool_140 rfl rfl ?_
    refine zo_imul d_M_spool_141 ?_
    refine zo_iload d_M_spool_142 rfl ?_
    refine zo_iadd d_M_spool_144 ?_
    refine zo_callVV (d := d) (N := m_M_copyPath) (as := [vI (((5 : Int32) * x1) + x4), vI (((5 : Int32) * x3) + x4)]) (n := 2) (zin (by decide) (by decide)) rfl rfl cv_M_copyPath wd_827 rfl rfl (Nat.le_of_ble_eq_true rfl) d_M_spool_145 hf (fun g1 hf => ?_)
    refine zo_iinc (v := x4 + 1) d_M_spool_148 rfl rfl (Nat.le_of_ble_eq_true rfl) rfl ?_
    refine zo_goto (tgt := 126) d_M_spool_151 (by decide) ?_
    exact hf
set_option maxRecDepth 100000 in
set_option maxHeartbeats 4000000 in
theorem w_M_spool_157 {d : Nat} (x3 : Int32) (x4 : Int32)  {h : ZH} {Q : Int32 → ZH → Prop}
    (hf : (((4 : Int32) ≤ x4 → EvI d m_M_write [vQ (some (12, 0))] h (fun y2 g1 => (vp_in x3 (zLen 14 0) ∧ (vp_in x3 (zLen 14 0) ∧ (narrow .boolean (.int (zi (zw g1 14 0 x3.toNatClampNeg (vp_nar .boolean y2)) 14 0 x3.toNatClampNeg)) = .int (zi (zw g1 14 0 x3.toNatClampNeg (vp_nar .boolean y2)) 14 0 x3.toNatClampNeg) ∧ Q (zi (zw g1 14 0 x3.toNatClampNeg (vp_nar .boolean y2)) 14 0 x3.toNatClampNeg) (zw g1 14 0 x3.toNatClampNeg (vp_nar .boolean y2))))))) ∧ (¬ (4 : Int32) ≤ x4 → (vp_in (((4 : Int32) * x3) + x4) (zLen 13 7) ∧ (vp_in (((4 : Int32) * x3) + x4) (zLen 13 8) ∧ EvAt (d + 1) m_M_spool 157 [some (vQ (some (12, 0))), none, none, some (vI x3), some (vI (x4 + 1))] [] (zw (zw h 13 7 (((4 : Int32) * x3) + x4).toNatClampNeg (0 : Int32)) 13 8 (((4 : Int32) * x3) + x4).toNatClampNeg (zi (zw h 13 7 (((4 : Int32) * x3) + x4).toNatClampNeg (0 : Int32)) 12 0 1)) (zQI Q)))))) :
    EvAt (d + 1) m_M_spool 157 [some (vQ (some (12, 0))), none, none, some (vI x3), some (vI x4)] [] h (zQI Q) := by
  refine zo_iload d_M_spool_157 rfl ?_
  refine zo_iconst (v := 4) d_M_spool_159 (by decide) ?_
  refine zo_icmp_ge (tgt := 196) d_M_spool_160 (by decide) (fun c3 => ?_) (fun c3 => ?_)
  · replace hf := hf.1 c3
    refine zo_aload_n d_M_spool_196 rfl rfl ?_
    refine gf_M_sealed wd_709 d_M_spool_197 ?_
    refine zo_iload_n d_M_spool_200 rfl rfl ?_
    refine zo_aload_n d_M_spool_201 rfl rfl ?_
    refine zo_callVI (d := d) (N := m_M_write) (as := []) (n := 0) (zin (by decide) (by decide)) rfl rfl cv_M_write wd_819 rfl rfl (Nat.le_of_ble_eq_true rfl) d_M_spool_202 hf (fun y2 g1 hf => ?_)
    obtain ⟨hp, hf⟩ := hf
    refine zo_zast (zin (by decide) (by decide)) rfl rfl rfl hp d_M_spool_205 ?_
    refine zo_aload_n d_M_spool_206 rfl rfl ?_
    refine gf_M_sealed wd_709 d_M_spool_207 ?_
    refine zo_iload_n d_M_spool_210 rfl rfl ?_
    obtain ⟨hp, hf⟩ := hf
    refine zo_zald (zin (by decide) (by decide)) rfl rfl rfl hp d_M_spool_211 ?_
    exact zo_zretI (ty := .boolean) rfl hf.1 d_M_spool_212 hf.2
  · replace hf := hf.2 c3
    refine zo_aload_n d_M_spool_163 rfl rfl ?_
    refine gf_M_fate wd_715 d_M_spool_164 ?_
    refine zo_iconst (v := 4) d_M_spool_167 (by decide) ?_
    refine zo_iload_n d_M_spool_168 rfl rfl ?_
    refine zo_imul d_M_spool_169 ?_
    refine zo_iload d_M_spool_170 rfl ?_
    refine zo_iadd d_M_spool_172 ?_
    refine zo_iconst (v := 0) d_M_spool_173 (by decide) ?_
    obtain ⟨hp, hf⟩ := hf
    refine zo_iast (zin (by decide) (by decide)) rfl rfl rfl hp d_M_spool_174 ?_
    refine zo_aload_n d_M_spool_175 rfl rfl ?_
    refine gf_M_dueAt wd_716 d_M_spool_176 ?_
    refine zo_iconst (v := 4) d_M_spool_179 (by decide) ?_
    refine zo_iload_n d_M_spool_180 rfl rfl ?_
    refine zo_imul d_M_spool_181 ?_
    refine zo_iload d_M_spool_182 rfl ?_
    refine zo_iadd d_M_spool_184 ?_
    refine zo_aload_n d_M_spool_185 rfl rfl ?_
    refine gf_M_now wd_700 d_M_spool_186 ?_
    obtain ⟨hp, hf⟩ := hf
    refine zo_iast (zin (by decide) (by decide)) rfl rfl rfl hp d_M_spool_189 ?_
    refine zo_iinc (v := x4 + 1) d_M_spool_190 rfl rfl (Nat.le_of_ble_eq_true rfl) rfl ?_
    refine zo_goto (tgt := 157) d_M_spool_193 (by decide) ?_
    exact hf
set_option maxRecDepth 100000 in
set_option maxHeartbeats 4000000 in
theorem w_M_write_0 {d : Nat}   {h : ZH} {Q : Int32 → ZH → Prop}
    (hf : ((¬ (zi h 12 0 3) = 0 → (((zi h 12 0 3) ≤ 0 → Q (1 : Int32) (zw h 12 0 3 (zi h 12 0 3))) ∧ (¬ (zi h 12 0 3) ≤ 0 → Q (1 : Int32) (zw h 12 0 3 ((zi h 12 0 3) - (1 : Int32)))))) ∧ ((zi h 12 0 3) = 0 → EvV d m_M_breakDown [vQ (some (12, 0))] h (fun g2 => Q (0 : Int32) g2)))) :
    EvAt (d + 1) m_M_write 0 [some (vQ (some (12, 0)))] [] h (zQI Q) := by
  refine zo_aload_n d_M_write_0 rfl rfl ?_
  refine gf_M_writes wd_702 d_M_write_1 ?_
  refine zo_if_ne (tgt := 13) d_M_write_4 (by decide) (fun c3 => ?_) (fun c3 => ?_)
  · replace hf := hf.1 c3
    refine zo_aload_n d_M_write_13 rfl rfl ?_
    refine zo_aload_n d_M_write_14 rfl rfl ?_
    refine gf_M_writes wd_702 d_M_write_15 ?_
    refine zo_if_le (tgt := 30) d_M_write_18 (by decide) (fun c1 => ?_) (fun c1 => ?_)
    · replace hf := hf.1 c1
      refine zo_aload_n d_M_write_30 rfl rfl ?_
      refine gf_M_writes wd_702 d_M_write_31 ?_
      refine pf_M_writes wd_702 d_M_write_34 ?_
      refine zo_iconst (v := 1) d_M_write_37 (by decide) ?_
      exact zo_zretI (ty := .boolean) rfl rfl d_M_write_38 hf
    · replace hf := hf.2 c1
      refine zo_aload_n d_M_write_21 rfl rfl ?_
      refine gf_M_writes wd_702 d_M_write_22 ?_
      refine zo_iconst (v := 1) d_M_write_25 (by decide) ?_
      refine zo_isub d_M_write_26 ?_
      refine zo_goto (tgt := 34) d_M_write_27 (by decide) ?_
      refine pf_M_writes wd_702 d_M_write_34 ?_
      refine zo_iconst (v := 1) d_M_write_37 (by decide) ?_
      exact zo_zretI (ty := .boolean) rfl rfl d_M_write_38 hf
  · replace hf := hf.2 c3
    refine zo_aload_n d_M_write_7 rfl rfl ?_
    refine zo_callVV (d := d) (N := m_M_breakDown) (as := []) (n := 0) (zin (by decide) (by decide)) rfl rfl cv_M_breakDown wd_823 rfl rfl (Nat.le_of_ble_eq_true rfl) d_M_write_8 hf (fun g2 hf => ?_)
    refine zo_iconst (v := 0) d_M_write_11 (by decide) ?_
    exact zo_zretI (ty := .boolean) rfl rfl d_M_write_12 hf
theorem e_M_write {d : Nat}   {h : ZH} {Q : Int32 → ZH → Prop}
    (hf : ((¬ (zi h 12 0 3) = 0 → (((zi h 12 0 3) ≤ 0 → Q (1 : Int32) (zw h 12 0 3 (zi h 12 0 3))) ∧ (¬ (zi h 12 0 3) ≤ 0 → Q (1 : Int32) (zw h 12 0 3 ((zi h 12 0 3) - (1 : Int32)))))) ∧ ((zi h 12 0 3) = 0 → EvV d m_M_breakDown [vQ (some (12, 0))] h (fun g2 => Q (0 : Int32) g2)))) :
    EvI (d + 1) m_M_write [vQ (some (12, 0))] h Q := zo_entry (by decide) (Nat.le_of_ble_eq_true rfl) (w_M_write_0   hf)
set_option maxRecDepth 100000 in
set_option maxHeartbeats 4000000 in
theorem w_M_breakDown_0 {d : Nat}   {h : ZH} {Q : ZH → Prop}
    (hf : Q (zw (zw (zw (zw (zw h 12 0 0 (0 : Int32)) 12 0 6 (0 : Int32)) 12 0 7 (0 : Int32)) 12 0 8 (0 : Int32)) 12 0 3 (-1 : Int32))) :
    EvAt d m_M_breakDown 0 [some (vQ (some (12, 0)))] [] h (zQV Q) := by
  refine zo_aload_n d_M_breakDown_0 rfl rfl ?_
  refine zo_iconst (v := 0) d_M_breakDown_1 (by decide) ?_
  refine pf_M_up wd_699 (by decide) d_M_breakDown_2 ?_
  refine zo_aload_n d_M_breakDown_5 rfl rfl ?_
  refine zo_iconst (v := 0) d_M_breakDown_6 (by decide) ?_
  refine pf_M_greeted wd_705 (by decide) d_M_breakDown_7 ?_
  refine zo_aload_n d_M_breakDown_10 rfl rfl ?_
  refine zo_iconst (v := 0) d_M_breakDown_11 (by decide) ?_
  refine pf_M_begun wd_706 (by decide) d_M_breakDown_12 ?_
  refine zo_aload_n d_M_breakDown_15 rfl rfl ?_
  refine zo_iconst (v := 0) d_M_breakDown_16 (by decide) ?_
  refine pf_M_taking wd_707 (by decide) d_M_breakDown_17 ?_
  refine zo_aload_n d_M_breakDown_20 rfl rfl ?_
  refine zo_iconst (v := (-1)) d_M_breakDown_21 (by decide) ?_
  refine pf_M_writes wd_702 d_M_breakDown_22 ?_
  exact zo_vretV rfl d_M_breakDown_25 hf
theorem e_M_breakDown {d : Nat}   {h : ZH} {Q : ZH → Prop}
    (hf : Q (zw (zw (zw (zw (zw h 12 0 0 (0 : Int32)) 12 0 6 (0 : Int32)) 12 0 7 (0 : Int32)) 12 0 8 (0 : Int32)) 12 0 3 (-1 : Int32))) :
    EvV d m_M_breakDown [vQ (some (12, 0))] h Q := zo_entry (by decide) (Nat.le_of_ble_eq_true rfl) (w_M_breakDown_0   hf)
set_option maxRecDepth 100000 in
set_option maxHeartbeats 4000000 in
theorem w_M_copyPath_0 {d : Nat} (x1 : Int32) (x2 : Int32)  {h : ZH} {Q : ZH → Prop}
    (hf : (vp_in x1 (zLen 13 5) ∧ (vp_in x2 (zLen 13 5) ∧ EvAt d m_M_copyPath 14 [some (vQ (some (12, 0))), some (vI x1), some (vI x2), some (vI (0 : Int32))] [] (zw h 13 5 x2.toNatClampNeg (zi h 13 5 x1.toNatClampNeg)) (zQV Q)))) :
    EvAt d m_M_copyPath 0 [some (vQ (some (12, 0))), some (vI x1), some (vI x2), none] [] h (zQV Q) := by
  refine zo_aload_n d_M_copyPath_0 rfl rfl ?_
  refine gf_M_pathSize wd_713 d_M_copyPath_1 ?_
  refine zo_iload_n d_M_copyPath_4 rfl rfl ?_
  refine zo_aload_n d_M_copyPath_5 rfl rfl ?_
  refine gf_M_pathSize wd_713 d_M_copyPath_6 ?_
  refine zo_iload_n d_M_copyPath_9 rfl rfl ?_
  obtain ⟨hp, hf⟩ := hf
  refine zo_iald (zin (by decide) (by decide)) rfl rfl rfl hp d_M_copyPath_10 ?_
  obtain ⟨hp, hf⟩ := hf
  refine zo_iast (zin (by decide) (by decide)) rfl rfl rfl hp d_M_copyPath_11 ?_
  refine zo_iconst (v := 0) d_M_copyPath_12 (by decide) ?_
  refine zo_istore_n d_M_copyPath_13 rfl (Nat.le_of_ble_eq_true rfl) rfl ?_
  exact hf
theorem e_M_copyPath {d : Nat} (x1 : Int32) (x2 : Int32)  {h : ZH} {Q : ZH → Prop}
    (hf : (vp_in x1 (zLen 13 5) ∧ (vp_in x2 (zLen 13 5) ∧ EvAt d m_M_copyPath 14 [some (vQ (some (12, 0))), some (vI x1), some (vI x2), some (vI (0 : Int32))] [] (zw h 13 5 x2.toNatClampNeg (zi h 13 5 x1.toNatClampNeg)) (zQV Q)))) :
    EvV d m_M_copyPath [vQ (some (12, 0)), vI x1, vI x2] h Q := zo_entry (by decide) (Nat.le_of_ble_eq_true rfl) (w_M_copyPath_0 x1 x2  hf)
set_option maxRecDepth 100000 in
set_option maxHeartbeats 4000000 in
theorem w_M_copyPath_14 {d : Nat} (x1 : Int32) (x2 : Int32) (x3 : Int32)  {h : ZH} {Q : ZH → Prop}
    (hf : (((40 : Int32) ≤ x3 → Q h) ∧ (¬ (40 : Int32) ≤ x3 → (vp_in (((40 : Int32) * x1) + x3) (zLen 13 4) ∧ (vp_in (((40 : Int32) * x2) + x3) (zLen 13 4) ∧ EvAt d m_M_copyPath 14 [some (vQ (some (12, 0))), some (vI x1), some (vI x2), some (vI (x3 + 1))] [] (zw h 13 4 (((40 : Int32) * x2) + x3).toNatClampNeg (zi h 13 4 (((40 : Int32) * x1) + x3).toNatClampNeg)) (zQV Q)))))) :
    EvAt d m_M_copyPath 14 [some (vQ (some (12, 0))), some (vI x1), some (vI x2), some (vI x3)] [] h (zQV Q) := by
  refine zo_iload_n d_M_copyPath_14 rfl rfl ?_
  refine zo_bipush (v := 40) d_M_copyPath_15 (by decide) ?_
  refine zo_icmp_ge (tgt := 48) d_M_copyPath_17 (by decide) (fun c1 => ?_) (fun c1 => ?_)
  · replace hf := hf.1 c1
    exact zo_vretV rfl d_M_copyPath_48 hf
  · replace hf := hf.2 c1
    refine zo_aload_n d_M_copyPath_20 rfl rfl ?_
    refine gf_M_paths wd_712 d_M_copyPath_21 ?_
    refine zo_bipush (v := 40) d_M_copyPath_24 (by decide) ?_
    refine zo_iload_n d_M_copyPath_26 rfl rfl ?_
    refine zo_imul d_M_copyPath_27 ?_
    refine zo_iload_n d_M_copyPath_28 rfl rfl ?_
    refine zo_iadd d_M_copyPath_29 ?_
    refine zo_aload_n d_M_copyPath_30 rfl rfl ?_
    refine gf_M_paths wd_712 d_M_copyPath_31 ?_
    refine zo_bipush (v := 40) d_M_copyPath_34 (by decide) ?_
    refine zo_iload_n d_M_copyPath_36 rfl rfl ?_
    refine zo_imul d_M_copyPath_37 ?_
    refine zo_iload_n d_M_copyPath_38 rfl rfl ?_
    refine zo_iadd d_M_copyPath_39 ?_
    obtain ⟨hp, hf⟩ := hf
    refine zo_iald (zin (by decide) (by decide)) rfl rfl rfl hp d_M_copyPath_40 ?_
    obtain ⟨hp, hf⟩ := hf
    refine zo_iast (zin (by decide) (by decide)) rfl rfl rfl hp d_M_copyPath_41 ?_
    refine zo_iinc (v := x3 + 1) d_M_copyPath_42 rfl rfl (Nat.le_of_ble_eq_true rfl) rfl ?_
    refine zo_goto (tgt := 14) d_M_copyPath_45 (by decide) ?_
    exact hf
set_option maxRecDepth 100000 in
set_option maxHeartbeats 4000000 in
theorem w_M_command_0 {d : Nat}   {h : ZH} {Q : Int32 → ZH → Prop}
    (hf : EvI d m_M_wordCode [vQ (some (12, 0))] h (fun y2 g1 => ((y2 = (1751477359 : Int32) → EvAt (d + 1) m_M_command 53 [some (vQ (some (12, 0))), some (vI y2), none] [] g1 (zQI Q)) ∧ (¬ y2 = (1751477359 : Int32) → ((y2 = (1701342319 : Int32) → EvAt (d + 1) m_M_command 53 [some (vQ (some (12, 0))), some (vI y2), none] [] g1 (zQI Q)) ∧ (¬ y2 = (1701342319 : Int32) → ((y2 = (1835100524 : Int32) → EvAt (d + 1) m_M_command 53 [some (vQ (some (12, 0))), some (vI y2), none] [] g1 (zQI Q)) ∧ (¬ y2 = (1835100524 : Int32) → ((y2 = (1919119476 : Int32) → EvAt (d + 1) m_M_command 53 [some (vQ (some (12, 0))), some (vI y2), none] [] g1 (zQI Q)) ∧ (¬ y2 = (1919119476 : Int32) → ((y2 = (1684108385 : Int32) → EvAt (d + 1) m_M_command 53 [some (vQ (some (12, 0))), some (vI y2), none] [] g1 (zQI Q)) ∧ (¬ y2 = (1684108385 : Int32) → ((y2 = (1920165236 : Int32) → EvAt (d + 1) m_M_command 53 [some (vQ (some (12, 0))), some (vI y2), none] [] g1 (zQI Q)) ∧ (¬ y2 = (1920165236 : Int32) → ((y2 = (1852796784 : Int32) → EvAt (d + 1) m_M_command 53 [some (vQ (some (12, 0))), some (vI y2), none] [] g1 (zQI Q)) ∧ (¬ y2 = (1852796784 : Int32) → ((¬ y2 = (1903520116 : Int32) → EvAt (d + 1) m_M_command 58 [some (vQ (some (12, 0))), some (vI y2), none] [vI (0 : Int32)] g1 (zQI Q)) ∧ (y2 = (1903520116 : Int32) → EvAt (d + 1) m_M_command 53 [some (vQ (some (12, 0))), some (vI y2), none] [] g1 (zQI Q))))))))))))))))))) :
    EvAt (d + 1) m_M_command 0 [some (vQ (some (12, 0))), none, none] [] h (zQI Q) := by
  refine zo_aload_n d_M_command_0 rfl rfl ?_
  refine zo_callVI (d := d) (N := m_M_wordCode) (as := []) (n := 0) (zin (by decide) (by decide)) rfl rfl cv_M_wordCode wd_835 rfl rfl (Nat.le_of_ble_eq_true rfl) d_M_command_1 hf (fun y2 g1 hf => ?_)
  refine zo_istore_n d_M_command_4 rfl (Nat.le_of_ble_eq_true rfl) rfl ?_
  refine zo_iload_n d_M_command_5 rfl rfl ?_
  refine zo_ldc wd_846 d_M_command_6 ?_
  refine zo_icmp_eq (tgt := 53) d_M_command_8 (by decide) (fun c10 => ?_) (fun c10 => ?_)
  · replace hf := hf.1 c10
    exact hf
  · replace hf := hf.2 c10
    refine zo_iload_n d_M_command_11 rfl rfl ?_
    refine zo_ldc wd_847 d_M_command_12 ?_
    refine zo_icmp_eq (tgt := 53) d_M_command_14 (by decide) (fun c9 => ?_) (fun c9 => ?_)
    · replace hf := hf.1 c9
      exact hf
    · replace hf := hf.2 c9
      refine zo_iload_n d_M_command_17 rfl rfl ?_
      refine zo_ldc wd_848 d_M_command_18 ?_
      refine zo_icmp_eq (tgt := 53) d_M_command_20 (by decide) (fun c8 => ?_) (fun c8 => ?_)
      · replace hf := hf.1 c8
        exact hf
      · replace hf := hf.2 c8
        refine zo_iload_n d_M_command_23 rfl rfl ?_
        refine zo_ldc wd_849 d_M_command_24 ?_
        refine zo_icmp_eq (tgt := 53) d_M_command_26 (by decide) (fun c7 => ?_) (fun c7 => ?_)
        · replace hf := hf.1 c7
          exact hf
        · replace hf := hf.2 c7
          refine zo_iload_n d_M_command_29 rfl rfl ?_
          refine zo_ldc wd_850 d_M_command_30 ?_
          refine zo_icmp_eq (tgt := 53) d_M_command_32 (by decide) (fun c6 => ?_) (fun c6 => ?_)
          · replace hf := hf.1 c6
            exact hf
          · replace hf := hf.2 c6
            refine zo_iload_n d_M_command_35 rfl rfl ?_
            refine zo_ldc wd_851 d_M_command_36 ?_
            refine zo_icmp_eq (tgt := 53) d_M_command_38 (by decide) (fun c5 => ?_) (fun c5 => ?_)
            · replace hf := hf.1 c5
              exact hf
            · replace hf := hf.2 c5
              refine zo_iload_n d_M_command_41 rfl rfl ?_
              refine zo_ldc wd_852 d_M_command_42 ?_
              refine zo_icmp_eq (tgt := 53) d_M_command_44 (by decide) (fun c4 => ?_) (fun c4 => ?_)
              · replace hf := hf.1 c4
                exact hf
              · replace hf := hf.2 c4
                refine zo_iload_n d_M_command_47 rfl rfl ?_
                refine zo_ldc wd_853 d_M_command_48 ?_
                refine zo_icmp_ne (tgt := 57) d_M_command_50 (by decide) (fun c3 => ?_) (fun c3 => ?_)
                · replace hf := hf.1 c3
                  refine zo_iconst (v := 0) d_M_command_57 (by decide) ?_
                  exact hf
                · replace hf := hf.2 c3
                  exact hf
theorem e_M_command {d : Nat}   {h : ZH} {Q : Int32 → ZH → Prop}
    (hf : EvI d m_M_wordCode [vQ (some (12, 0))] h (fun y2 g1 => ((y2 = (1751477359 : Int32) → EvAt (d + 1) m_M_command 53 [some (vQ (some (12, 0))), some (vI y2), none] [] g1 (zQI Q)) ∧ (¬ y2 = (1751477359 : Int32) → ((y2 = (1701342319 : Int32) → EvAt (d + 1) m_M_command 53 [some (vQ (some (12, 0))), some (vI y2), none] [] g1 (zQI Q)) ∧ (¬ y2 = (1701342319 : Int32) → ((y2 = (1835100524 : Int32) → EvAt (d + 1) m_M_command 53 [some (vQ (some (12, 0))), some (vI y2), none] [] g1 (zQI Q)) ∧ (¬ y2 = (1835100524 : Int32) → ((y2 = (1919119476 : Int32) → EvAt (d + 1) m_M_command 53 [some (vQ (some (12, 0))), some (vI y2), none] [] g1 (zQI Q)) ∧ (¬ y2 = (1919119476 : Int32) → ((y2 = (1684108385 : Int32) → EvAt (d + 1) m_M_command 53 [some (vQ (some (12, 0))), some (vI y2), none] [] g1 (zQI Q)) ∧ (¬ y2 = (1684108385 : Int32) → ((y2 = (1920165236 : Int32) → EvAt (d + 1) m_M_command 53 [some (vQ (some (12, 0))), some (vI y2), none] [] g1 (zQI Q)) ∧ (¬ y2 = (1920165236 : Int32) → ((y2 = (1852796784 : Int32) → EvAt (d + 1) m_M_command 53 [some (vQ (some (12, 0))), some (vI y2), none] [] g1 (zQI Q)) ∧ (¬ y2 = (1852796784 : Int32) → ((¬ y2 = (1903520116 : Int32) → EvAt (d + 1) m_M_command 58 [some (vQ (some (12, 0))), some (vI y2), none] [vI (0 : Int32)] g1 (zQI Q)) ∧ (y2 = (1903520116 : Int32) → EvAt (d + 1) m_M_command 53 [some (vQ (some (12, 0))), some (vI y2), none] [] g1 (zQI Q))))))))))))))))))) :
    EvI (d + 1) m_M_command [vQ (some (12, 0))] h Q := zo_entry (by decide) (Nat.le_of_ble_eq_true rfl) (w_M_command_0   hf)
set_option maxRecDepth 100000 in
set_option maxHeartbeats 4000000 in
theorem w_M_command_53 {d : Nat} (x1 : Int32)  {h : ZH} {Q : Int32 → ZH → Prop}
    (hf : EvAt (d + 1) m_M_command 58 [some (vQ (some (12, 0))), some (vI x1), none] [vI (1 : Int32)] h (zQI Q)) :
    EvAt (d + 1) m_M_command 53 [some (vQ (some (12, 0))), some (vI x1), none] [] h (zQI Q) := by
  refine zo_iconst (v := 1) d_M_command_53 (by decide) ?_
  refine zo_goto (tgt := 58) d_M_command_54 (by decide) ?_
  exact hf
set_option maxRecDepth 100000 in
set_option maxHeartbeats 4000000 in
theorem w_M_command_58 {d : Nat} (x1 : Int32) (xs0 : Int32)  {h : ZH} {Q : Int32 → ZH → Prop}
    (hf : ((xs0 = 0 → EvAt (d + 1) m_M_command 71 [none, none, some (vI xs0)] [] h (zQI Q)) ∧ (¬ xs0 = 0 → EvI d m_M_fits [vQ (some (12, 0)), vI x1] h (fun y2 g1 => ((¬ y2 = 0 → ((x1 = (1751477359 : Int32) → EvAt (d + 1) m_M_command 97 [some (vQ (some (12, 0))), none, none] [] g1 (zQI Q)) ∧ (¬ x1 = (1751477359 : Int32) → ((¬ x1 = (1701342319 : Int32) → ((¬ x1 = (1835100524 : Int32) → ((¬ x1 = (1919119476 : Int32) → ((¬ x1 = (1684108385 : Int32) → ((¬ x1 = (1852796784 : Int32) → EvAt (d + 1) m_M_command 195 [some (vQ (some (12, 0))), some (vI x1), none] [vQ (some (12, 0))] g1 (zQI Q)) ∧ (x1 = (1852796784 : Int32) → (((zi g1 12 0 7) = 0 → EvAt (d + 1) m_M_command 195 [some (vQ (some (12, 0))), some (vI x1), none] [vQ (some (12, 0))] g1 (zQI Q)) ∧ (¬ (zi g1 12 0 7) = 0 → EvAt (d + 1) m_M_command 196 [some (vQ (some (12, 0))), some (vI x1), none] [vI (1 : Int32), vQ (some (12, 0))] g1 (zQI Q)))))) ∧ (x1 = (1684108385 : Int32) → (((zi g1 12 0 7) = 0 → Q (503 : Int32) g1) ∧ (¬ (zi g1 12 0 7) = 0 → (vp_in (6 : Int32) (zLen 13 6) ∧ ((¬ (zi g1 13 6 (6 : Int32).toNatClampNeg) = 0 → (vp_in (6 : Int32) (zLen 13 3) ∧ Q (354 : Int32) (zw (zw g1 12 0 8 (1 : Int32)) 13 3 (6 : Int32).toNatClampNeg (0 : Int32)))) ∧ ((zi g1 13 6 (6 : Int32).toNatClampNeg) = 0 → Q (503 : Int32) g1)))))))) ∧ (x1 = (1919119476 : Int32) → EvI d m_M_recipient0 [vQ (some (12, 0))] g1 (fun y9 g8 => Q y9 g8)))) ∧ (x1 = (1835100524 : Int32) → EvI d m_M_mail [vQ (some (12, 0))] g1 (fun y12 g11 => Q y12 g11)))) ∧ (x1 = (1701342319 : Int32) → EvAt (d + 1) m_M_command 97 [some (vQ (some (12, 0))), none, none] [] g1 (zQI Q)))))) ∧ (y2 = 0 → EvAt (d + 1) m_M_command 71 [none, none, some (vI xs0)] [] g1 (zQI Q))))))) :
    EvAt (d + 1) m_M_command 58 [some (vQ (some (12, 0))), some (vI x1), none] [vI xs0] h (zQI Q) := by
  refine zo_istore_n d_M_command_58 rfl (Nat.le_of_ble_eq_true rfl) rfl ?_
  refine zo_iload_n d_M_command_59 rfl rfl ?_
  refine zo_if_eq (tgt := 71) d_M_command_60 (by decide) (fun c17 => ?_) (fun c17 => ?_)
  · replace hf := hf.1 c17
    refine zo_drop 0 ?_
    refine zo_drop 1 ?_
    exact hf
  · replace hf := hf.2 c17
    refine zo_aload_n d_M_command_63 rfl rfl ?_
    refine zo_iload_n d_M_command_64 rfl rfl ?_
    refine zo_callVI (d := d) (N := m_M_fits) (as := [vI x1]) (n := 1) (zin (by decide) (by decide)) rfl rfl cv_M_fits wd_854 rfl rfl (Nat.le_of_ble_eq_true rfl) d_M_command_65 hf (fun y2 g1 hf => ?_)
    refine zo_if_ne (tgt := 85) d_M_command_68 (by decide) (fun c16 => ?_) (fun c16 => ?_)
    · replace hf := hf.1 c16
      refine zo_iload_n d_M_command_85 rfl rfl ?_
      refine zo_ldc wd_846 d_M_command_86 ?_
      refine zo_icmp_eq (tgt := 97) d_M_command_88 (by decide) (fun c15 => ?_) (fun c15 => ?_)
      · replace hf := hf.1 c15
        refine zo_drop 1 ?_
        refine zo_drop 2 ?_
        exact hf
      · replace hf := hf.2 c15
        refine zo_iload_n d_M_command_91 rfl rfl ?_
        refine zo_ldc wd_847 d_M_command_92 ?_
        refine zo_icmp_ne (tgt := 111) d_M_command_94 (by decide) (fun c14 => ?_) (fun c14 => ?_)
        · replace hf := hf.1 c14
          refine zo_iload_n d_M_command_111 rfl rfl ?_
          refine zo_ldc wd_848 d_M_command_112 ?_
          refine zo_icmp_ne (tgt := 122) d_M_command_114 (by decide) (fun c13 => ?_) (fun c13 => ?_)
          · replace hf := hf.1 c13
            refine zo_iload_n d_M_command_122 rfl rfl ?_
            refine zo_ldc wd_849 d_M_command_123 ?_
            refine zo_icmp_ne (tgt := 133) d_M_command_125 (by decide) (fun c10 => ?_) (fun c10 => ?_)
            · replace hf := hf.1 c10
              refine zo_iload_n d_M_command_133 rfl rfl ?_
              refine zo_ldc wd_850 d_M_command_134 ?_
              refine zo_icmp_ne (tgt := 177) d_M_command_136 (by decide) (fun c7 => ?_) (fun c7 => ?_)
              · replace hf := hf.1 c7
                refine zo_aload_n d_M_command_177 rfl rfl ?_
                refine zo_iload_n d_M_command_178 rfl rfl ?_
                refine zo_ldc wd_852 d_M_command_179 ?_
                refine zo_icmp_ne (tgt := 195) d_M_command_181 (by decide) (fun c4 => ?_) (fun c4 => ?_)
                · replace hf := hf.1 c4
                  refine zo_drop 2 ?_
                  exact hf
                · replace hf := hf.2 c4
                  refine zo_aload_n d_M_command_184 rfl rfl ?_
                  refine gf_M_begun wd_706 d_M_command_185 ?_
                  refine zo_if_eq (tgt := 195) d_M_command_188 (by decide) (fun c3 => ?_) (fun c3 => ?_)
                  · replace hf := hf.1 c3
                    refine zo_drop 2 ?_
                    exact hf
                  · replace hf := hf.2 c3
                    refine zo_iconst (v := 1) d_M_command_191 (by decide) ?_
                    refine zo_goto (tgt := 196) d_M_command_192 (by decide) ?_
                    refine zo_drop 2 ?_
                    exact hf
              · replace hf := hf.2 c7
                refine zo_aload_n d_M_command_139 rfl rfl ?_
                refine gf_M_begun wd_706 d_M_command_140 ?_
                refine zo_if_eq (tgt := 156) d_M_command_143 (by decide) (fun c6 => ?_) (fun c6 => ?_)
                · replace hf := hf.1 c6
                  refine zo_sipush (v := 503) d_M_command_156 (by decide) ?_
                  exact zo_iretI rfl d_M_command_159 hf
                · replace hf := hf.2 c6
                  refine zo_aload_n d_M_command_146 rfl rfl ?_
                  refine gf_M_many wd_714 d_M_command_147 ?_
                  refine zo_bipush (v := 6) d_M_command_150 (by decide) ?_
                  obtain ⟨hp, hf⟩ := hf
                  refine zo_iald (zin (by decide) (by decide)) rfl rfl rfl hp d_M_command_152 ?_
                  refine zo_if_ne (tgt := 160) d_M_command_153 (by decide) (fun c5 => ?_) (fun c5 => ?_)
                  · replace hf := hf.1 c5
                    refine zo_aload_n d_M_command_160 rfl rfl ?_
                    refine zo_iconst (v := 1) d_M_command_161 (by decide) ?_
                    refine pf_M_taking wd_707 (by decide) d_M_command_162 ?_
                    refine zo_aload_n d_M_command_165 rfl rfl ?_
                    refine gf_M_textSize wd_711 d_M_command_166 ?_
                    refine zo_bipush (v := 6) d_M_command_169 (by decide) ?_
                    refine zo_iconst (v := 0) d_M_command_171 (by decide) ?_
                    obtain ⟨hp, hf⟩ := hf
                    refine zo_iast (zin (by decide) (by decide)) rfl rfl rfl hp d_M_command_172 ?_
                    refine zo_sipush (v := 354) d_M_command_173 (by decide) ?_
                    exact zo_iretI rfl d_M_command_176 hf
                  · replace hf := hf.2 c5
                    refine zo_sipush (v := 503) d_M_command_156 (by decide) ?_
                    exact zo_iretI rfl d_M_command_159 hf
            · replace hf := hf.2 c10
              refine zo_aload_n d_M_command_128 rfl rfl ?_
              refine zo_callVI (d := d) (N := m_M_recipient0) (as := []) (n := 0) (zin (by decide) (by decide)) rfl rfl cv_M_recipient0 wd_888 rfl rfl (Nat.le_of_ble_eq_true rfl) d_M_command_129 hf (fun y9 g8 hf => ?_)
              exact zo_iretI rfl d_M_command_132 hf
          · replace hf := hf.2 c13
            refine zo_aload_n d_M_command_117 rfl rfl ?_
            refine zo_callVI (d := d) (N := m_M_mail) (as := []) (n := 0) (zin (by decide) (by decide)) rfl rfl cv_M_mail wd_880 rfl rfl (Nat.le_of_ble_eq_true rfl) d_M_command_118 hf (fun y12 g11 hf => ?_)
            exact zo_iretI rfl d_M_command_121 hf
        · replace hf := hf.2 c14
          refine zo_drop 1 ?_
          refine zo_drop 2 ?_
          exact hf
    · replace hf := hf.2 c16
      refine zo_drop 0 ?_
      refine zo_drop 1 ?_
      exact hf
set_option maxRecDepth 100000 in
set_option maxHeartbeats 4000000 in
theorem w_M_command_71 {d : Nat} (x2 : Int32)  {h : ZH} {Q : Int32 → ZH → Prop}
    (hf : ((x2 = 0 → Q (500 : Int32) h) ∧ (¬ x2 = 0 → Q (501 : Int32) h))) :
    EvAt (d + 1) m_M_command 71 [none, none, some (vI x2)] [] h (zQI Q) := by
  refine zo_iload_n d_M_command_71 rfl rfl ?_
  refine zo_if_eq (tgt := 81) d_M_command_72 (by decide) (fun c1 => ?_) (fun c1 => ?_)
  · replace hf := hf.1 c1
    refine zo_sipush (v := 500) d_M_command_81 (by decide) ?_
    exact zo_iretI rfl d_M_command_84 hf
  · replace hf := hf.2 c1
    refine zo_sipush (v := 501) d_M_command_75 (by decide) ?_
    refine zo_goto (tgt := 84) d_M_command_78 (by decide) ?_
    exact zo_iretI rfl d_M_command_84 hf
set_option maxRecDepth 100000 in
set_option maxHeartbeats 4000000 in
theorem w_M_command_97 {d : Nat}   {h : ZH} {Q : Int32 → ZH → Prop}
    (hf : Q (250 : Int32) (zw (zw h 12 0 6 (1 : Int32)) 12 0 7 (0 : Int32))) :
    EvAt (d + 1) m_M_command 97 [some (vQ (some (12, 0))), none, none] [] h (zQI Q) := by
  refine zo_aload_n d_M_command_97 rfl rfl ?_
  refine zo_iconst (v := 1) d_M_command_98 (by decide) ?_
  refine pf_M_greeted wd_705 (by decide) d_M_command_99 ?_
  refine zo_aload_n d_M_command_102 rfl rfl ?_
  refine zo_iconst (v := 0) d_M_command_103 (by decide) ?_
  refine pf_M_begun wd_706 (by decide) d_M_command_104 ?_
  refine zo_sipush (v := 250) d_M_command_107 (by decide) ?_
  exact zo_iretI rfl d_M_command_110 hf
set_option maxRecDepth 100000 in
set_option maxHeartbeats 4000000 in
theorem w_M_command_195 {d : Nat} (x1 : Int32)  {h : ZH} {Q : Int32 → ZH → Prop}
    (hf : EvAt (d + 1) m_M_command 196 [some (vQ (some (12, 0))), some (vI x1), none] [vI (0 : Int32), vQ (some (12, 0))] h (zQI Q)) :
    EvAt (d + 1) m_M_command 195 [some (vQ (some (12, 0))), some (vI x1), none] [vQ (some (12, 0))] h (zQI Q) := by
  refine zo_iconst (v := 0) d_M_command_195 (by decide) ?_
  exact hf
set_option maxRecDepth 100000 in
set_option maxHeartbeats 4000000 in
theorem w_M_command_196 {d : Nat} (x1 : Int32) (xs1 : Int32)  {h : ZH} {Q : Int32 → ZH → Prop}
    (hf : ((xs1 = 0 ∨ xs1 = 1) ∧ ((x1 = (1903520116 : Int32) → EvAt (d + 1) m_M_command 217 [none, some (vI x1), none] [vQ (some (12, 0))] (zw h 12 0 7 xs1) (zQI Q)) ∧ (¬ x1 = (1903520116 : Int32) → (((zi (zw h 12 0 7 xs1) 12 0 6) = 0 → EvAt (d + 1) m_M_command 217 [none, some (vI x1), none] [vQ (some (12, 0))] (zw h 12 0 7 xs1) (zQI Q)) ∧ (¬ (zi (zw h 12 0 7 xs1) 12 0 6) = 0 → EvAt (d + 1) m_M_command 218 [none, some (vI x1), none] [vI (1 : Int32), vQ (some (12, 0))] (zw h 12 0 7 xs1) (zQI Q))))))) :
    EvAt (d + 1) m_M_command 196 [some (vQ (some (12, 0))), some (vI x1), none] [vI xs1, vQ (some (12, 0))] h (zQI Q) := by
  obtain ⟨hb, hf⟩ := hf
  refine pf_M_begun wd_706 hb d_M_command_196 ?_
  refine zo_aload_n d_M_command_199 rfl rfl ?_
  refine zo_iload_n d_M_command_200 rfl rfl ?_
  refine zo_ldc wd_853 d_M_command_201 ?_
  refine zo_icmp_eq (tgt := 217) d_M_command_203 (by decide) (fun c2 => ?_) (fun c2 => ?_)
  · replace hf := hf.1 c2
    refine zo_drop 0 ?_
    exact hf
  · replace hf := hf.2 c2
    refine zo_aload_n d_M_command_206 rfl rfl ?_
    refine gf_M_greeted wd_705 d_M_command_207 ?_
    refine zo_if_eq (tgt := 217) d_M_command_210 (by decide) (fun c1 => ?_) (fun c1 => ?_)
    · replace hf := hf.1 c1
      refine zo_drop 0 ?_
      exact hf
    · replace hf := hf.2 c1
      refine zo_iconst (v := 1) d_M_command_213 (by decide) ?_
      refine zo_goto (tgt := 218) d_M_command_214 (by decide) ?_
      refine zo_drop 0 ?_
      exact hf
set_option maxRecDepth 100000 in
set_option maxHeartbeats 4000000 in
theorem w_M_command_217 {d : Nat} (x1 : Int32)  {h : ZH} {Q : Int32 → ZH → Prop}
    (hf : EvAt (d + 1) m_M_command 218 [none, some (vI x1), none] [vI (0 : Int32), vQ (some (12, 0))] h (zQI Q)) :
    EvAt (d + 1) m_M_command 217 [none, some (vI x1), none] [vQ (some (12, 0))] h (zQI Q) := by
  refine zo_iconst (v := 0) d_M_command_217 (by decide) ?_
  exact hf
set_option maxRecDepth 100000 in
set_option maxHeartbeats 4000000 in
theorem w_M_command_218 {d : Nat} (x1 : Int32) (xs1 : Int32)  {h : ZH} {Q : Int32 → ZH → Prop}
    (hf : ((xs1 = 0 ∨ xs1 = 1) ∧ ((¬ x1 = (1903520116 : Int32) → Q (250 : Int32) (zw h 12 0 6 xs1)) ∧ (x1 = (1903520116 : Int32) → Q (221 : Int32) (zw h 12 0 6 xs1))))) :
    EvAt (d + 1) m_M_command 218 [none, some (vI x1), none] [vI xs1, vQ (some (12, 0))] h (zQI Q) := by
  obtain ⟨hb, hf⟩ := hf
  refine pf_M_greeted wd_705 hb d_M_command_218 ?_
  refine zo_iload_n d_M_command_221 rfl rfl ?_
  refine zo_ldc wd_853 d_M_command_222 ?_
  refine zo_icmp_ne (tgt := 233) d_M_command_224 (by decide) (fun c1 => ?_) (fun c1 => ?_)
  · replace hf := hf.1 c1
    refine zo_sipush (v := 250) d_M_command_233 (by decide) ?_
    exact zo_iretI rfl d_M_command_236 hf
  · replace hf := hf.2 c1
    refine zo_sipush (v := 221) d_M_command_227 (by decide) ?_
    refine zo_goto (tgt := 236) d_M_command_230 (by decide) ?_
    exact zo_iretI rfl d_M_command_236 hf
set_option maxRecDepth 100000 in
set_option maxHeartbeats 4000000 in
theorem w_M_wordCode_0 {d : Nat}   {h : ZH} {Q : Int32 → ZH → Prop}
    (hf : EvAt (d + 1) m_M_wordCode 2 [some (vQ (some (12, 0))), some (vI (0 : Int32))] [] h (zQI Q)) :
    EvAt (d + 1) m_M_wordCode 0 [some (vQ (some (12, 0))), none] [] h (zQI Q) := by
  refine zo_iconst (v := 0) d_M_wordCode_0 (by decide) ?_
  refine zo_istore_n d_M_wordCode_1 rfl (Nat.le_of_ble_eq_true rfl) rfl ?_
  exact hf
theorem e_M_wordCode {d : Nat}   {h : ZH} {Q : Int32 → ZH → Prop}
    (hf : EvAt (d + 1) m_M_wordCode 2 [some (vQ (some (12, 0))), some (vI (0 : Int32))] [] h (zQI Q)) :
    EvI (d + 1) m_M_wordCode [vQ (some (12, 0))] h Q := zo_entry (by decide) (Nat.le_of_ble_eq_true rfl) (w_M_wordCode_0   hf)
set_option maxRecDepth 100000 in
set_option maxHeartbeats 4000000 in
theorem w_M_wordCode_2 {d : Nat} (x1 : Int32)  {h : ZH} {Q : Int32 → ZH → Prop}
    (hf : (((zi h 12 0 5) ≤ x1 → EvAt (d + 1) m_M_wordCode 28 [some (vQ (some (12, 0))), some (vI x1)] [] h (zQI Q)) ∧ (¬ (zi h 12 0 5) ≤ x1 → (vp_in x1 (zLen 13 0) ∧ (((zi h 13 0 x1.toNatClampNeg) = (32 : Int32) → EvAt (d + 1) m_M_wordCode 28 [some (vQ (some (12, 0))), some (vI x1)] [] h (zQI Q)) ∧ (¬ (zi h 13 0 x1.toNatClampNeg) = (32 : Int32) → EvAt (d + 1) m_M_wordCode 2 [some (vQ (some (12, 0))), some (vI (x1 + (1 : Int32)))] [] h (zQI Q))))))) :
    EvAt (d + 1) m_M_wordCode 2 [some (vQ (some (12, 0))), some (vI x1)] [] h (zQI Q) := by
  refine zo_iload_n d_M_wordCode_2 rfl rfl ?_
  refine zo_aload_n d_M_wordCode_3 rfl rfl ?_
  refine gf_M_length wd_704 d_M_wordCode_4 ?_
  refine zo_icmp_ge (tgt := 28) d_M_wordCode_7 (by decide) (fun c2 => ?_) (fun c2 => ?_)
  · replace hf := hf.1 c2
    exact hf
  · replace hf := hf.2 c2
    refine zo_aload_n d_M_wordCode_10 rfl rfl ?_
    refine gf_M_line wd_703 d_M_wordCode_11 ?_
    refine zo_iload_n d_M_wordCode_14 rfl rfl ?_
    obtain ⟨hp, hf⟩ := hf
    refine zo_iald (zin (by decide) (by decide)) rfl rfl rfl hp d_M_wordCode_15 ?_
    refine zo_bipush (v := 32) d_M_wordCode_16 (by decide) ?_
    refine zo_icmp_eq (tgt := 28) d_M_wordCode_18 (by decide) (fun c1 => ?_) (fun c1 => ?_)
    · replace hf := hf.1 c1
      exact hf
    · replace hf := hf.2 c1
      refine zo_iload_n d_M_wordCode_21 rfl rfl ?_
      refine zo_iconst (v := 1) d_M_wordCode_22 (by decide) ?_
      refine zo_iadd d_M_wordCode_23 ?_
      refine zo_istore_n d_M_wordCode_24 rfl (Nat.le_of_ble_eq_true rfl) rfl ?_
      refine zo_goto (tgt := 2) d_M_wordCode_25 (by decide) ?_
      exact hf
set_option maxRecDepth 100000 in
set_option maxHeartbeats 4000000 in
theorem w_M_wordCode_28 {d : Nat} (x1 : Int32)  {h : ZH} {Q : Int32 → ZH → Prop}
    (hf : ((¬ x1 = (4 : Int32) → Q (0 : Int32) h) ∧ (x1 = (4 : Int32) → EvI d m_M_charAt [vQ (some (12, 0)), vI (0 : Int32)] h (fun y2 g1 => EvI d m_M_charAt [vQ (some (12, 0)), vI (1 : Int32)] g1 (fun y4 g3 => EvI d m_M_charAt [vQ (some (12, 0)), vI (2 : Int32)] g3 (fun y6 g5 => EvI d m_M_charAt [vQ (some (12, 0)), vI (3 : Int32)] g5 (fun y8 g7 => Q ((((y2 <<< ((24 : Int32) &&& 31)) ||| (y4 <<< ((16 : Int32) &&& 31))) ||| (y6 <<< ((8 : Int32) &&& 31))) ||| y8) g7))))))) :
    EvAt (d + 1) m_M_wordCode 28 [some (vQ (some (12, 0))), some (vI x1)] [] h (zQI Q) := by
  refine zo_iload_n d_M_wordCode_28 rfl rfl ?_
  refine zo_iconst (v := 4) d_M_wordCode_29 (by decide) ?_
  refine zo_icmp_ne (tgt := 68) d_M_wordCode_30 (by decide) (fun c9 => ?_) (fun c9 => ?_)
  · replace hf := hf.1 c9
    refine zo_iconst (v := 0) d_M_wordCode_68 (by decide) ?_
    exact zo_iretI rfl d_M_wordCode_69 hf
  · replace hf := hf.2 c9
    refine zo_aload_n d_M_wordCode_33 rfl rfl ?_
    refine zo_iconst (v := 0) d_M_wordCode_34 (by decide) ?_
    refine zo_callVI (d := d) (N := m_M_charAt) (as := [vI (0 : Int32)]) (n := 1) (zin (by decide) (by decide)) rfl rfl cv_M_charAt wd_839 rfl rfl (Nat.le_of_ble_eq_true rfl) d_M_wordCode_35 hf (fun y2 g1 hf => ?_)
    refine zo_bipush (v := 24) d_M_wordCode_38 (by decide) ?_
    refine zo_ishl d_M_wordCode_40 ?_
    refine zo_aload_n d_M_wordCode_41 rfl rfl ?_
    refine zo_iconst (v := 1) d_M_wordCode_42 (by decide) ?_
    refine zo_callVI (d := d) (N := m_M_charAt) (as := [vI (1 : Int32)]) (n := 1) (zin (by decide) (by decide)) rfl rfl cv_M_charAt wd_839 rfl rfl (Nat.le_of_ble_eq_true rfl) d_M_wordCode_43 hf (fun y4 g3 hf => ?_)
    refine zo_bipush (v := 16) d_M_wordCode_46 (by decide) ?_
    refine zo_ishl d_M_wordCode_48 ?_
    refine zo_ior d_M_wordCode_49 ?_
    refine zo_aload_n d_M_wordCode_50 rfl rfl ?_
    refine zo_iconst (v := 2) d_M_wordCode_51 (by decide) ?_
    refine zo_callVI (d := d) (N := m_M_charAt) (as := [vI (2 : Int32)]) (n := 1) (zin (by decide) (by decide)) rfl rfl cv_M_charAt wd_839 rfl rfl (Nat.le_of_ble_eq_true rfl) d_M_wordCode_52 hf (fun y6 g5 hf => ?_)
    refine zo_bipush (v := 8) d_M_wordCode_55 (by decide) ?_
    refine zo_ishl d_M_wordCode_57 ?_
    refine zo_ior d_M_wordCode_58 ?_
    refine zo_aload_n d_M_wordCode_59 rfl rfl ?_
    refine zo_iconst (v := 3) d_M_wordCode_60 (by decide) ?_
    refine zo_callVI (d := d) (N := m_M_charAt) (as := [vI (3 : Int32)]) (n := 1) (zin (by decide) (by decide)) rfl rfl cv_M_charAt wd_839 rfl rfl (Nat.le_of_ble_eq_true rfl) d_M_wordCode_61 hf (fun y8 g7 hf => ?_)
    refine zo_ior d_M_wordCode_64 ?_
    refine zo_goto (tgt := 69) d_M_wordCode_65 (by decide) ?_
    exact zo_iretI rfl d_M_wordCode_69 hf
set_option maxRecDepth 100000 in
set_option maxHeartbeats 4000000 in
theorem w_M_charAt_0 {d : Nat} (x1 : Int32)  {h : ZH} {Q : Int32 → ZH → Prop}
    (hf : (((zi h 12 0 5) ≤ x1 → Q (0 : Int32) h) ∧ (¬ (zi h 12 0 5) ≤ x1 → (vp_in x1 (zLen 13 0) ∧ EvI d m_M_lower [vI (zi h 13 0 x1.toNatClampNeg)] h (fun y2 g1 => Q y2 g1))))) :
    EvAt (d + 1) m_M_charAt 0 [some (vQ (some (12, 0))), some (vI x1)] [] h (zQI Q) := by
  refine zo_iload_n d_M_charAt_0 rfl rfl ?_
  refine zo_aload_n d_M_charAt_1 rfl rfl ?_
  refine gf_M_length wd_704 d_M_charAt_2 ?_
  refine zo_icmp_ge (tgt := 20) d_M_charAt_5 (by decide) (fun c3 => ?_) (fun c3 => ?_)
  · replace hf := hf.1 c3
    refine zo_iconst (v := 0) d_M_charAt_20 (by decide) ?_
    exact zo_iretI rfl d_M_charAt_21 hf
  · replace hf := hf.2 c3
    refine zo_aload_n d_M_charAt_8 rfl rfl ?_
    refine gf_M_line wd_703 d_M_charAt_9 ?_
    refine zo_iload_n d_M_charAt_12 rfl rfl ?_
    obtain ⟨hp, hf⟩ := hf
    refine zo_iald (zin (by decide) (by decide)) rfl rfl rfl hp d_M_charAt_13 ?_
    refine zo_callSI (d := d) (N := m_M_lower) (as := [vI (zi h 13 0 x1.toNatClampNeg)]) (n := 1) cs_M_lower wd_843 rfl rfl (Nat.le_of_ble_eq_true rfl) d_M_charAt_14 hf (fun y2 g1 hf => ?_)
    refine zo_goto (tgt := 21) d_M_charAt_17 (by decide) ?_
    exact zo_iretI rfl d_M_charAt_21 hf
theorem e_M_charAt {d : Nat} (x1 : Int32)  {h : ZH} {Q : Int32 → ZH → Prop}
    (hf : (((zi h 12 0 5) ≤ x1 → Q (0 : Int32) h) ∧ (¬ (zi h 12 0 5) ≤ x1 → (vp_in x1 (zLen 13 0) ∧ EvI d m_M_lower [vI (zi h 13 0 x1.toNatClampNeg)] h (fun y2 g1 => Q y2 g1))))) :
    EvI (d + 1) m_M_charAt [vQ (some (12, 0)), vI x1] h Q := zo_entry (by decide) (Nat.le_of_ble_eq_true rfl) (w_M_charAt_0 x1  hf)
set_option maxRecDepth 100000 in
set_option maxHeartbeats 4000000 in
theorem w_M_lower_0 {d : Nat} (x0 : Int32)  {h : ZH} {Q : Int32 → ZH → Prop}
    (hf : ((x0 < (65 : Int32) → Q x0 h) ∧ (¬ x0 < (65 : Int32) → (((90 : Int32) < x0 → Q x0 h) ∧ (¬ (90 : Int32) < x0 → Q (x0 + (32 : Int32)) h))))) :
    EvAt d m_M_lower 0 [some (vI x0)] [] h (zQI Q) := by
  refine zo_iload_n d_M_lower_0 rfl rfl ?_
  refine zo_bipush (v := 65) d_M_lower_1 (by decide) ?_
  refine zo_icmp_lt (tgt := 19) d_M_lower_3 (by decide) (fun c2 => ?_) (fun c2 => ?_)
  · replace hf := hf.1 c2
    refine zo_iload_n d_M_lower_19 rfl rfl ?_
    exact zo_iretI rfl d_M_lower_20 hf
  · replace hf := hf.2 c2
    refine zo_iload_n d_M_lower_6 rfl rfl ?_
    refine zo_bipush (v := 90) d_M_lower_7 (by decide) ?_
    refine zo_icmp_gt (tgt := 19) d_M_lower_9 (by decide) (fun c1 => ?_) (fun c1 => ?_)
    · replace hf := hf.1 c1
      refine zo_iload_n d_M_lower_19 rfl rfl ?_
      exact zo_iretI rfl d_M_lower_20 hf
    · replace hf := hf.2 c1
      refine zo_iload_n d_M_lower_12 rfl rfl ?_
      refine zo_bipush (v := 32) d_M_lower_13 (by decide) ?_
      refine zo_iadd d_M_lower_15 ?_
      refine zo_goto (tgt := 20) d_M_lower_16 (by decide) ?_
      exact zo_iretI rfl d_M_lower_20 hf
theorem e_M_lower {d : Nat} (x0 : Int32)  {h : ZH} {Q : Int32 → ZH → Prop}
    (hf : ((x0 < (65 : Int32) → Q x0 h) ∧ (¬ x0 < (65 : Int32) → (((90 : Int32) < x0 → Q x0 h) ∧ (¬ (90 : Int32) < x0 → Q (x0 + (32 : Int32)) h))))) :
    EvI d m_M_lower [vI x0] h Q := zo_entry (by decide) (Nat.le_of_ble_eq_true rfl) (w_M_lower_0 x0  hf)
set_option maxRecDepth 100000 in
set_option maxHeartbeats 4000000 in
theorem w_M_fits_0 {d : Nat} (x1 : Int32)  {h : ZH} {Q : Int32 → ZH → Prop}
    (hf : ((x1 = (1751477359 : Int32) → EvAt (d + 1) m_M_fits 12 [some (vQ (some (12, 0))), none] [] h (zQI Q)) ∧ (¬ x1 = (1751477359 : Int32) → ((¬ x1 = (1701342319 : Int32) → ((¬ x1 = (1835100524 : Int32) → ((¬ x1 = (1919119476 : Int32) → ((¬ (zi h 12 0 5) = (4 : Int32) → Q (0 : Int32) h) ∧ ((zi h 12 0 5) = (4 : Int32) → Q (1 : Int32) h))) ∧ (x1 = (1919119476 : Int32) → EvI d m_M_bracketed [vQ (some (12, 0)), vI (0 : Int32)] h (fun y3 g2 => ((y3 = 0 → Q (0 : Int32) g2) ∧ (¬ y3 = 0 → EvI d m_M_isPath [vQ (some (12, 0)), vI (9 : Int32), vI ((zi g2 12 0 5) - (1 : Int32))] g2 (fun y5 g4 => ((y5 = 0 → Q (0 : Int32) g4) ∧ (¬ y5 = 0 → Q (1 : Int32) g4))))))))) ∧ (x1 = (1835100524 : Int32) → EvI d m_M_bracketed [vQ (some (12, 0)), vI (1 : Int32)] h (fun y10 g9 => ((y10 = 0 → Q (0 : Int32) g9) ∧ (¬ y10 = 0 → (((zi g9 12 0 5) = (12 : Int32) → Q (1 : Int32) g9) ∧ (¬ (zi g9 12 0 5) = (12 : Int32) → EvI d m_M_isPath [vQ (some (12, 0)), vI (11 : Int32), vI ((zi g9 12 0 5) - (1 : Int32))] g9 (fun y12 g11 => ((y12 = 0 → Q (0 : Int32) g11) ∧ (¬ y12 = 0 → Q (1 : Int32) g11))))))))))) ∧ (x1 = (1701342319 : Int32) → EvAt (d + 1) m_M_fits 12 [some (vQ (some (12, 0))), none] [] h (zQI Q)))))) :
    EvAt (d + 1) m_M_fits 0 [some (vQ (some (12, 0))), some (vI x1)] [] h (zQI Q) := by
  refine zo_iload_n d_M_fits_0 rfl rfl ?_
  refine zo_ldc wd_846 d_M_fits_1 ?_
  refine zo_icmp_eq (tgt := 12) d_M_fits_3 (by decide) (fun c18 => ?_) (fun c18 => ?_)
  · replace hf := hf.1 c18
    refine zo_drop 1 ?_
    exact hf
  · replace hf := hf.2 c18
    refine zo_iload_n d_M_fits_6 rfl rfl ?_
    refine zo_ldc wd_847 d_M_fits_7 ?_
    refine zo_icmp_ne (tgt := 38) d_M_fits_9 (by decide) (fun c17 => ?_) (fun c17 => ?_)
    · replace hf := hf.1 c17
      refine zo_iload_n d_M_fits_38 rfl rfl ?_
      refine zo_ldc wd_848 d_M_fits_39 ?_
      refine zo_icmp_ne (tgt := 82) d_M_fits_41 (by decide) (fun c16 => ?_) (fun c16 => ?_)
      · replace hf := hf.1 c16
        refine zo_iload_n d_M_fits_82 rfl rfl ?_
        refine zo_ldc wd_849 d_M_fits_83 ?_
        refine zo_icmp_ne (tgt := 117) d_M_fits_85 (by decide) (fun c8 => ?_) (fun c8 => ?_)
        · replace hf := hf.1 c8
          refine zo_aload_n d_M_fits_117 rfl rfl ?_
          refine gf_M_length wd_704 d_M_fits_118 ?_
          refine zo_iconst (v := 4) d_M_fits_121 (by decide) ?_
          refine zo_icmp_ne (tgt := 129) d_M_fits_122 (by decide) (fun c1 => ?_) (fun c1 => ?_)
          · replace hf := hf.1 c1
            refine zo_iconst (v := 0) d_M_fits_129 (by decide) ?_
            exact zo_zretI (ty := .boolean) rfl rfl d_M_fits_130 hf
          · replace hf := hf.2 c1
            refine zo_iconst (v := 1) d_M_fits_125 (by decide) ?_
            refine zo_goto (tgt := 130) d_M_fits_126 (by decide) ?_
            exact zo_zretI (ty := .boolean) rfl rfl d_M_fits_130 hf
        · replace hf := hf.2 c8
          refine zo_aload_n d_M_fits_88 rfl rfl ?_
          refine zo_iconst (v := 0) d_M_fits_89 (by decide) ?_
          refine zo_callVI (d := d) (N := m_M_bracketed) (as := [vI (0 : Int32)]) (n := 1) (zin (by decide) (by decide)) rfl rfl cv_M_bracketed wd_868 rfl rfl (Nat.le_of_ble_eq_true rfl) d_M_fits_90 hf (fun y3 g2 hf => ?_)
          refine zo_if_eq (tgt := 115) d_M_fits_93 (by decide) (fun c7 => ?_) (fun c7 => ?_)
          · replace hf := hf.1 c7
            refine zo_iconst (v := 0) d_M_fits_115 (by decide) ?_
            exact zo_zretI (ty := .boolean) rfl rfl d_M_fits_116 hf
          · replace hf := hf.2 c7
            refine zo_aload_n d_M_fits_96 rfl rfl ?_
            refine zo_bipush (v := 9) d_M_fits_97 (by decide) ?_
            refine zo_aload_n d_M_fits_99 rfl rfl ?_
            refine gf_M_length wd_704 d_M_fits_100 ?_
            refine zo_iconst (v := 1) d_M_fits_103 (by decide) ?_
            refine zo_isub d_M_fits_104 ?_
            refine zo_callVI (d := d) (N := m_M_isPath) (as := [vI (9 : Int32), vI ((zi g2 12 0 5) - (1 : Int32))]) (n := 2) (zin (by decide) (by decide)) rfl rfl cv_M_isPath wd_872 rfl rfl (Nat.le_of_ble_eq_true rfl) d_M_fits_105 hf (fun y5 g4 hf => ?_)
            refine zo_if_eq (tgt := 115) d_M_fits_108 (by decide) (fun c6 => ?_) (fun c6 => ?_)
            · replace hf := hf.1 c6
              refine zo_iconst (v := 0) d_M_fits_115 (by decide) ?_
              exact zo_zretI (ty := .boolean) rfl rfl d_M_fits_116 hf
            · replace hf := hf.2 c6
              refine zo_iconst (v := 1) d_M_fits_111 (by decide) ?_
              refine zo_goto (tgt := 116) d_M_fits_112 (by decide) ?_
              exact zo_zretI (ty := .boolean) rfl rfl d_M_fits_116 hf
      · replace hf := hf.2 c16
        refine zo_aload_n d_M_fits_44 rfl rfl ?_
        refine zo_iconst (v := 1) d_M_fits_45 (by decide) ?_
        refine zo_callVI (d := d) (N := m_M_bracketed) (as := [vI (1 : Int32)]) (n := 1) (zin (by decide) (by decide)) rfl rfl cv_M_bracketed wd_868 rfl rfl (Nat.le_of_ble_eq_true rfl) d_M_fits_46 hf (fun y10 g9 hf => ?_)
        refine zo_if_eq (tgt := 80) d_M_fits_49 (by decide) (fun c15 => ?_) (fun c15 => ?_)
        · replace hf := hf.1 c15
          refine zo_iconst (v := 0) d_M_fits_80 (by decide) ?_
          exact zo_zretI (ty := .boolean) rfl rfl d_M_fits_81 hf
        · replace hf := hf.2 c15
          refine zo_aload_n d_M_fits_52 rfl rfl ?_
          refine gf_M_length wd_704 d_M_fits_53 ?_
          refine zo_bipush (v := 12) d_M_fits_56 (by decide) ?_
          refine zo_icmp_eq (tgt := 76) d_M_fits_58 (by decide) (fun c14 => ?_) (fun c14 => ?_)
          · replace hf := hf.1 c14
            refine zo_iconst (v := 1) d_M_fits_76 (by decide) ?_
            refine zo_goto (tgt := 81) d_M_fits_77 (by decide) ?_
            exact zo_zretI (ty := .boolean) rfl rfl d_M_fits_81 hf
          · replace hf := hf.2 c14
            refine zo_aload_n d_M_fits_61 rfl rfl ?_
            refine zo_bipush (v := 11) d_M_fits_62 (by decide) ?_
            refine zo_aload_n d_M_fits_64 rfl rfl ?_
            refine gf_M_length wd_704 d_M_fits_65 ?_
            refine zo_iconst (v := 1) d_M_fits_68 (by decide) ?_
            refine zo_isub d_M_fits_69 ?_
            refine zo_callVI (d := d) (N := m_M_isPath) (as := [vI (11 : Int32), vI ((zi g9 12 0 5) - (1 : Int32))]) (n := 2) (zin (by decide) (by decide)) rfl rfl cv_M_isPath wd_872 rfl rfl (Nat.le_of_ble_eq_true rfl) d_M_fits_70 hf (fun y12 g11 hf => ?_)
            refine zo_if_eq (tgt := 80) d_M_fits_73 (by decide) (fun c13 => ?_) (fun c13 => ?_)
            · replace hf := hf.1 c13
              refine zo_iconst (v := 0) d_M_fits_80 (by decide) ?_
              exact zo_zretI (ty := .boolean) rfl rfl d_M_fits_81 hf
            · replace hf := hf.2 c13
              refine zo_iconst (v := 1) d_M_fits_76 (by decide) ?_
              refine zo_goto (tgt := 81) d_M_fits_77 (by decide) ?_
              exact zo_zretI (ty := .boolean) rfl rfl d_M_fits_81 hf
    · replace hf := hf.2 c17
      refine zo_drop 1 ?_
      exact hf
theorem e_M_fits {d : Nat} (x1 : Int32)  {h : ZH} {Q : Int32 → ZH → Prop}
    (hf : ((x1 = (1751477359 : Int32) → EvAt (d + 1) m_M_fits 12 [some (vQ (some (12, 0))), none] [] h (zQI Q)) ∧ (¬ x1 = (1751477359 : Int32) → ((¬ x1 = (1701342319 : Int32) → ((¬ x1 = (1835100524 : Int32) → ((¬ x1 = (1919119476 : Int32) → ((¬ (zi h 12 0 5) = (4 : Int32) → Q (0 : Int32) h) ∧ ((zi h 12 0 5) = (4 : Int32) → Q (1 : Int32) h))) ∧ (x1 = (1919119476 : Int32) → EvI d m_M_bracketed [vQ (some (12, 0)), vI (0 : Int32)] h (fun y3 g2 => ((y3 = 0 → Q (0 : Int32) g2) ∧ (¬ y3 = 0 → EvI d m_M_isPath [vQ (some (12, 0)), vI (9 : Int32), vI ((zi g2 12 0 5) - (1 : Int32))] g2 (fun y5 g4 => ((y5 = 0 → Q (0 : Int32) g4) ∧ (¬ y5 = 0 → Q (1 : Int32) g4))))))))) ∧ (x1 = (1835100524 : Int32) → EvI d m_M_bracketed [vQ (some (12, 0)), vI (1 : Int32)] h (fun y10 g9 => ((y10 = 0 → Q (0 : Int32) g9) ∧ (¬ y10 = 0 → (((zi g9 12 0 5) = (12 : Int32) → Q (1 : Int32) g9) ∧ (¬ (zi g9 12 0 5) = (12 : Int32) → EvI d m_M_isPath [vQ (some (12, 0)), vI (11 : Int32), vI ((zi g9 12 0 5) - (1 : Int32))] g9 (fun y12 g11 => ((y12 = 0 → Q (0 : Int32) g11) ∧ (¬ y12 = 0 → Q (1 : Int32) g11))))))))))) ∧ (x1 = (1701342319 : Int32) → EvAt (d + 1) m_M_fits 12 [some (vQ (some (12, 0))), none] [] h (zQI Q)))))) :
    EvI (d + 1) m_M_fits [vQ (some (12, 0)), vI x1] h Q := zo_entry (by decide) (Nat.le_of_ble_eq_true rfl) (w_M_fits_0 x1  hf)
set_option maxRecDepth 100000 in
set_option maxHeartbeats 4000000 in
theorem w_M_fits_12 {d : Nat}   {h : ZH} {Q : Int32 → ZH → Prop}
    (hf : (((zi h 12 0 5) ≤ (5 : Int32) → Q (0 : Int32) h) ∧ (¬ (zi h 12 0 5) ≤ (5 : Int32) → EvI d m_M_isDomain [vQ (some (12, 0)), vI (5 : Int32), vI (zi h 12 0 5)] h (fun y2 g1 => ((y2 = 0 → Q (0 : Int32) g1) ∧ (¬ y2 = 0 → Q (1 : Int32) g1)))))) :
    EvAt (d + 1) m_M_fits 12 [some (vQ (some (12, 0))), none] [] h (zQI Q) := by
  refine zo_aload_n d_M_fits_12 rfl rfl ?_
  refine gf_M_length wd_704 d_M_fits_13 ?_
  refine zo_iconst (v := 5) d_M_fits_16 (by decide) ?_
  refine zo_icmp_le (tgt := 36) d_M_fits_17 (by decide) (fun c4 => ?_) (fun c4 => ?_)
  · replace hf := hf.1 c4
    refine zo_iconst (v := 0) d_M_fits_36 (by decide) ?_
    exact zo_zretI (ty := .boolean) rfl rfl d_M_fits_37 hf
  · replace hf := hf.2 c4
    refine zo_aload_n d_M_fits_20 rfl rfl ?_
    refine zo_iconst (v := 5) d_M_fits_21 (by decide) ?_
    refine zo_aload_n d_M_fits_22 rfl rfl ?_
    refine gf_M_length wd_704 d_M_fits_23 ?_
    refine zo_callVI (d := d) (N := m_M_isDomain) (as := [vI (5 : Int32), vI (zi h 12 0 5)]) (n := 2) (zin (by decide) (by decide)) rfl rfl cv_M_isDomain wd_858 rfl rfl (Nat.le_of_ble_eq_true rfl) d_M_fits_26 hf (fun y2 g1 hf => ?_)
    refine zo_if_eq (tgt := 36) d_M_fits_29 (by decide) (fun c3 => ?_) (fun c3 => ?_)
    · replace hf := hf.1 c3
      refine zo_iconst (v := 0) d_M_fits_36 (by decide) ?_
      exact zo_zretI (ty := .boolean) rfl rfl d_M_fits_37 hf
    · replace hf := hf.2 c3
      refine zo_iconst (v := 1) d_M_fits_32 (by decide) ?_
      refine zo_goto (tgt := 37) d_M_fits_33 (by decide) ?_
      exact zo_zretI (ty := .boolean) rfl rfl d_M_fits_37 hf
set_option maxRecDepth 100000 in
set_option maxHeartbeats 4000000 in
theorem w_M_isDomain_0 {d : Nat} (x1 : Int32) (x2 : Int32)  {h : ZH} {Q : Int32 → ZH → Prop}
    (hf : (((x2 - x1) < (1 : Int32) → Q (0 : Int32) h) ∧ (¬ (x2 - x1) < (1 : Int32) → (((x2 - x1) ≤ (32 : Int32) → EvAt (d + 1) m_M_isDomain 26 [some (vQ (some (12, 0))), none, some (vI x2), some (vI (1 : Int32)), some (vI (46 : Int32)), some (vI x1), none] [] h (zQI Q)) ∧ (¬ (x2 - x1) ≤ (32 : Int32) → Q (0 : Int32) h))))) :
    EvAt (d + 1) m_M_isDomain 0 [some (vQ (some (12, 0))), some (vI x1), some (vI x2), none, none, none, none] [] h (zQI Q) := by
  refine zo_iload_n d_M_isDomain_0 rfl rfl ?_
  refine zo_iload_n d_M_isDomain_1 rfl rfl ?_
  refine zo_isub d_M_isDomain_2 ?_
  refine zo_iconst (v := 1) d_M_isDomain_3 (by decide) ?_
  refine zo_icmp_lt (tgt := 15) d_M_isDomain_4 (by decide) (fun c2 => ?_) (fun c2 => ?_)
  · replace hf := hf.1 c2
    refine zo_iconst (v := 0) d_M_isDomain_15 (by decide) ?_
    exact zo_zretI (ty := .boolean) rfl rfl d_M_isDomain_16 hf
  · replace hf := hf.2 c2
    refine zo_iload_n d_M_isDomain_7 rfl rfl ?_
    refine zo_iload_n d_M_isDomain_8 rfl rfl ?_
    refine zo_isub d_M_isDomain_9 ?_
    refine zo_bipush (v := 32) d_M_isDomain_10 (by decide) ?_
    refine zo_icmp_le (tgt := 17) d_M_isDomain_12 (by decide) (fun c1 => ?_) (fun c1 => ?_)
    · replace hf := hf.1 c1
      refine zo_iconst (v := 1) d_M_isDomain_17 (by decide) ?_
      refine zo_istore_n d_M_isDomain_18 rfl (Nat.le_of_ble_eq_true rfl) rfl ?_
      refine zo_bipush (v := 46) d_M_isDomain_19 (by decide) ?_
      refine zo_istore d_M_isDomain_21 (Nat.le_of_ble_eq_true rfl) rfl ?_
      refine zo_iload_n d_M_isDomain_23 rfl rfl ?_
      refine zo_istore d_M_isDomain_24 (Nat.le_of_ble_eq_true rfl) rfl ?_
      refine zo_drop 1 ?_
      exact hf
    · replace hf := hf.2 c1
      refine zo_iconst (v := 0) d_M_isDomain_15 (by decide) ?_
      exact zo_zretI (ty := .boolean) rfl rfl d_M_isDomain_16 hf
theorem e_M_isDomain {d : Nat} (x1 : Int32) (x2 : Int32)  {h : ZH} {Q : Int32 → ZH → Prop}
    (hf : (((x2 - x1) < (1 : Int32) → Q (0 : Int32) h) ∧ (¬ (x2 - x1) < (1 : Int32) → (((x2 - x1) ≤ (32 : Int32) → EvAt (d + 1) m_M_isDomain 26 [some (vQ (some (12, 0))), none, some (vI x2), some (vI (1 : Int32)), some (vI (46 : Int32)), some (vI x1), none] [] h (zQI Q)) ∧ (¬ (x2 - x1) ≤ (32 : Int32) → Q (0 : Int32) h))))) :
    EvI (d + 1) m_M_isDomain [vQ (some (12, 0)), vI x1, vI x2] h Q := zo_entry (by decide) (Nat.le_of_ble_eq_true rfl) (w_M_isDomain_0 x1 x2  hf)
set_option maxRecDepth 100000 in
set_option maxHeartbeats 4000000 in
theorem w_M_isDomain_26 {d : Nat} (x2 : Int32) (x3 : Int32) (x4 : Int32) (x5 : Int32)  {h : ZH} {Q : Int32 → ZH → Prop}
    (hf : ((x2 ≤ x5 → ((x3 = 0 → Q (0 : Int32) h) ∧ (¬ x3 = 0 → ((x4 = (46 : Int32) → Q (0 : Int32) h) ∧ (¬ x4 = (46 : Int32) → ((x4 = (45 : Int32) → Q (0 : Int32) h) ∧ (¬ x4 = (45 : Int32) → Q (1 : Int32) h))))))) ∧ (¬ x2 ≤ x5 → (vp_in x5 (zLen 13 0) ∧ ((x3 = 0 → EvAt (d + 1) m_M_isDomain 92 [some (vQ (some (12, 0))), none, some (vI x2), none, none, some (vI x5), some (vI (zi h 13 0 x5.toNatClampNeg))] [] h (zQI Q)) ∧ (¬ x3 = 0 → EvI d m_M_isAlnum [vI (zi h 13 0 x5.toNatClampNeg)] h (fun y5 g4 => ((¬ y5 = 0 → EvAt (d + 1) m_M_isDomain 88 [some (vQ (some (12, 0))), none, some (vI x2), none, none, some (vI x5), some (vI (zi h 13 0 x5.toNatClampNeg))] [] g4 (zQI Q)) ∧ (y5 = 0 → ((¬ (zi h 13 0 x5.toNatClampNeg) = (45 : Int32) → EvAt (d + 1) m_M_isDomain 67 [some (vQ (some (12, 0))), none, some (vI x2), none, some (vI x4), some (vI x5), some (vI (zi h 13 0 x5.toNatClampNeg))] [] g4 (zQI Q)) ∧ ((zi h 13 0 x5.toNatClampNeg) = (45 : Int32) → ((¬ x4 = (46 : Int32) → EvAt (d + 1) m_M_isDomain 88 [some (vQ (some (12, 0))), none, some (vI x2), none, none, some (vI x5), some (vI (zi h 13 0 x5.toNatClampNeg))] [] g4 (zQI Q)) ∧ (x4 = (46 : Int32) → EvAt (d + 1) m_M_isDomain 67 [some (vQ (some (12, 0))), none, some (vI x2), none, some (vI x4), some (vI x5), some (vI (zi h 13 0 x5.toNatClampNeg))] [] g4 (zQI Q)))))))))))))) :
    EvAt (d + 1) m_M_isDomain 26 [some (vQ (some (12, 0))), none, some (vI x2), some (vI x3), some (vI x4), some (vI x5), none] [] h (zQI Q) := by
  refine zo_iload d_M_isDomain_26 rfl ?_
  refine zo_iload_n d_M_isDomain_28 rfl rfl ?_
  refine zo_icmp_ge (tgt := 104) d_M_isDomain_29 (by decide) (fun c10 => ?_) (fun c10 => ?_)
  · replace hf := hf.1 c10
    refine zo_iload_n d_M_isDomain_104 rfl rfl ?_
    refine zo_if_eq (tgt := 126) d_M_isDomain_105 (by decide) (fun c3 => ?_) (fun c3 => ?_)
    · replace hf := hf.1 c3
      refine zo_iconst (v := 0) d_M_isDomain_126 (by decide) ?_
      exact zo_zretI (ty := .boolean) rfl rfl d_M_isDomain_127 hf
    · replace hf := hf.2 c3
      refine zo_iload d_M_isDomain_108 rfl ?_
      refine zo_bipush (v := 46) d_M_isDomain_110 (by decide) ?_
      refine zo_icmp_eq (tgt := 126) d_M_isDomain_112 (by decide) (fun c2 => ?_) (fun c2 => ?_)
      · replace hf := hf.1 c2
        refine zo_iconst (v := 0) d_M_isDomain_126 (by decide) ?_
        exact zo_zretI (ty := .boolean) rfl rfl d_M_isDomain_127 hf
      · replace hf := hf.2 c2
        refine zo_iload d_M_isDomain_115 rfl ?_
        refine zo_bipush (v := 45) d_M_isDomain_117 (by decide) ?_
        refine zo_icmp_eq (tgt := 126) d_M_isDomain_119 (by decide) (fun c1 => ?_) (fun c1 => ?_)
        · replace hf := hf.1 c1
          refine zo_iconst (v := 0) d_M_isDomain_126 (by decide) ?_
          exact zo_zretI (ty := .boolean) rfl rfl d_M_isDomain_127 hf
        · replace hf := hf.2 c1
          refine zo_iconst (v := 1) d_M_isDomain_122 (by decide) ?_
          refine zo_goto (tgt := 127) d_M_isDomain_123 (by decide) ?_
          exact zo_zretI (ty := .boolean) rfl rfl d_M_isDomain_127 hf
  · replace hf := hf.2 c10
    refine zo_aload_n d_M_isDomain_32 rfl rfl ?_
    refine gf_M_line wd_703 d_M_isDomain_33 ?_
    refine zo_iload d_M_isDomain_36 rfl ?_
    obtain ⟨hp, hf⟩ := hf
    refine zo_iald (zin (by decide) (by decide)) rfl rfl rfl hp d_M_isDomain_38 ?_
    refine zo_istore d_M_isDomain_39 (Nat.le_of_ble_eq_true rfl) rfl ?_
    refine zo_iload_n d_M_isDomain_41 rfl rfl ?_
    refine zo_if_eq (tgt := 92) d_M_isDomain_42 (by decide) (fun c9 => ?_) (fun c9 => ?_)
    · replace hf := hf.1 c9
      refine zo_drop 3 ?_
      refine zo_drop 4 ?_
      exact hf
    · replace hf := hf.2 c9
      refine zo_iload d_M_isDomain_45 rfl ?_
      refine zo_callSI (d := d) (N := m_M_isAlnum) (as := [vI (zi h 13 0 x5.toNatClampNeg)]) (n := 1) cs_M_isAlnum wd_862 rfl rfl (Nat.le_of_ble_eq_true rfl) d_M_isDomain_47 hf (fun y5 g4 hf => ?_)
      refine zo_if_ne (tgt := 88) d_M_isDomain_50 (by decide) (fun c8 => ?_) (fun c8 => ?_)
      · replace hf := hf.1 c8
        refine zo_drop 3 ?_
        refine zo_drop 4 ?_
        exact hf
      · replace hf := hf.2 c8
        refine zo_iload d_M_isDomain_53 rfl ?_
        refine zo_bipush (v := 45) d_M_isDomain_55 (by decide) ?_
        refine zo_icmp_ne (tgt := 67) d_M_isDomain_57 (by decide) (fun c7 => ?_) (fun c7 => ?_)
        · replace hf := hf.1 c7
          refine zo_drop 3 ?_
          exact hf
        · replace hf := hf.2 c7
          refine zo_iload d_M_isDomain_60 rfl ?_
          refine zo_bipush (v := 46) d_M_isDomain_62 (by decide) ?_
          refine zo_icmp_ne (tgt := 88) d_M_isDomain_64 (by decide) (fun c6 => ?_) (fun c6 => ?_)
          · replace hf := hf.1 c6
            refine zo_drop 3 ?_
            refine zo_drop 4 ?_
            exact hf
          · replace hf := hf.2 c6
            refine zo_drop 3 ?_
            exact hf
set_option maxRecDepth 100000 in
set_option maxHeartbeats 4000000 in
theorem w_M_isDomain_67 {d : Nat} (x2 : Int32) (x4 : Int32) (x5 : Int32) (x6 : Int32)  {h : ZH} {Q : Int32 → ZH → Prop}
    (hf : ((¬ x6 = (46 : Int32) → EvAt (d + 1) m_M_isDomain 92 [some (vQ (some (12, 0))), none, some (vI x2), none, none, some (vI x5), some (vI x6)] [] h (zQI Q)) ∧ (x6 = (46 : Int32) → ((x4 = (46 : Int32) → EvAt (d + 1) m_M_isDomain 92 [some (vQ (some (12, 0))), none, some (vI x2), none, none, some (vI x5), some (vI x6)] [] h (zQI Q)) ∧ (¬ x4 = (46 : Int32) → ((x4 = (45 : Int32) → EvAt (d + 1) m_M_isDomain 92 [some (vQ (some (12, 0))), none, some (vI x2), none, none, some (vI x5), some (vI x6)] [] h (zQI Q)) ∧ (¬ x4 = (45 : Int32) → EvAt (d + 1) m_M_isDomain 88 [some (vQ (some (12, 0))), none, some (vI x2), none, none, some (vI x5), some (vI x6)] [] h (zQI Q)))))))) :
    EvAt (d + 1) m_M_isDomain 67 [some (vQ (some (12, 0))), none, some (vI x2), none, some (vI x4), some (vI x5), some (vI x6)] [] h (zQI Q) := by
  refine zo_iload d_M_isDomain_67 rfl ?_
  refine zo_bipush (v := 46) d_M_isDomain_69 (by decide) ?_
  refine zo_icmp_ne (tgt := 92) d_M_isDomain_71 (by decide) (fun c3 => ?_) (fun c3 => ?_)
  · replace hf := hf.1 c3
    refine zo_drop 4 ?_
    exact hf
  · replace hf := hf.2 c3
    refine zo_iload d_M_isDomain_74 rfl ?_
    refine zo_bipush (v := 46) d_M_isDomain_76 (by decide) ?_
    refine zo_icmp_eq (tgt := 92) d_M_isDomain_78 (by decide) (fun c2 => ?_) (fun c2 => ?_)
    · replace hf := hf.1 c2
      refine zo_drop 4 ?_
      exact hf
    · replace hf := hf.2 c2
      refine zo_iload d_M_isDomain_81 rfl ?_
      refine zo_bipush (v := 45) d_M_isDomain_83 (by decide) ?_
      refine zo_icmp_eq (tgt := 92) d_M_isDomain_85 (by decide) (fun c1 => ?_) (fun c1 => ?_)
      · replace hf := hf.1 c1
        refine zo_drop 4 ?_
        exact hf
      · replace hf := hf.2 c1
        refine zo_drop 4 ?_
        exact hf
set_option maxRecDepth 100000 in
set_option maxHeartbeats 4000000 in
theorem w_M_isDomain_88 {d : Nat} (x2 : Int32) (x5 : Int32) (x6 : Int32)  {h : ZH} {Q : Int32 → ZH → Prop}
    (hf : EvAt (d + 1) m_M_isDomain 93 [some (vQ (some (12, 0))), none, some (vI x2), none, none, some (vI x5), some (vI x6)] [vI (1 : Int32)] h (zQI Q)) :
    EvAt (d + 1) m_M_isDomain 88 [some (vQ (some (12, 0))), none, some (vI x2), none, none, some (vI x5), some (vI x6)] [] h (zQI Q) := by
  refine zo_iconst (v := 1) d_M_isDomain_88 (by decide) ?_
  refine zo_goto (tgt := 93) d_M_isDomain_89 (by decide) ?_
  exact hf
set_option maxRecDepth 100000 in
set_option maxHeartbeats 4000000 in
theorem w_M_isDomain_92 {d : Nat} (x2 : Int32) (x5 : Int32) (x6 : Int32)  {h : ZH} {Q : Int32 → ZH → Prop}
    (hf : EvAt (d + 1) m_M_isDomain 93 [some (vQ (some (12, 0))), none, some (vI x2), none, none, some (vI x5), some (vI x6)] [vI (0 : Int32)] h (zQI Q)) :
    EvAt (d + 1) m_M_isDomain 92 [some (vQ (some (12, 0))), none, some (vI x2), none, none, some (vI x5), some (vI x6)] [] h (zQI Q) := by
  refine zo_iconst (v := 0) d_M_isDomain_92 (by decide) ?_
  exact hf
set_option maxRecDepth 100000 in
set_option maxHeartbeats 4000000 in
theorem w_M_isDomain_93 {d : Nat} (x2 : Int32) (x5 : Int32) (x6 : Int32) (xs0 : Int32)  {h : ZH} {Q : Int32 → ZH → Prop}
    (hf : EvAt (d + 1) m_M_isDomain 26 [some (vQ (some (12, 0))), none, some (vI x2), some (vI xs0), some (vI x6), some (vI (x5 + 1)), none] [] h (zQI Q)) :
    EvAt (d + 1) m_M_isDomain 93 [some (vQ (some (12, 0))), none, some (vI x2), none, none, some (vI x5), some (vI x6)] [vI xs0] h (zQI Q) := by
  refine zo_istore_n d_M_isDomain_93 rfl (Nat.le_of_ble_eq_true rfl) rfl ?_
  refine zo_iload d_M_isDomain_94 rfl ?_
  refine zo_istore d_M_isDomain_96 (Nat.le_of_ble_eq_true rfl) rfl ?_
  refine zo_iinc (v := x5 + 1) d_M_isDomain_98 rfl rfl (Nat.le_of_ble_eq_true rfl) rfl ?_
  refine zo_goto (tgt := 26) d_M_isDomain_101 (by decide) ?_
  refine zo_drop 6 ?_
  exact hf
set_option maxRecDepth 100000 in
set_option maxHeartbeats 4000000 in
theorem w_M_isAlnum_0 {d : Nat} (x0 : Int32)  {h : ZH} {Q : Int32 → ZH → Prop}
    (hf : EvI d m_M_isLetter [vI x0] h (fun y2 g1 => ((¬ y2 = 0 → Q (1 : Int32) g1) ∧ (y2 = 0 → ((x0 < (48 : Int32) → Q (0 : Int32) g1) ∧ (¬ x0 < (48 : Int32) → (((57 : Int32) < x0 → Q (0 : Int32) g1) ∧ (¬ (57 : Int32) < x0 → Q (1 : Int32) g1)))))))) :
    EvAt (d + 1) m_M_isAlnum 0 [some (vI x0)] [] h (zQI Q) := by
  refine zo_iload_n d_M_isAlnum_0 rfl rfl ?_
  refine zo_callSI (d := d) (N := m_M_isLetter) (as := [vI x0]) (n := 1) cs_M_isLetter wd_865 rfl rfl (Nat.le_of_ble_eq_true rfl) d_M_isAlnum_1 hf (fun y2 g1 hf => ?_)
  refine zo_if_ne (tgt := 19) d_M_isAlnum_4 (by decide) (fun c5 => ?_) (fun c5 => ?_)
  · replace hf := hf.1 c5
    refine zo_iconst (v := 1) d_M_isAlnum_19 (by decide) ?_
    refine zo_goto (tgt := 24) d_M_isAlnum_20 (by decide) ?_
    exact zo_zretI (ty := .boolean) rfl rfl d_M_isAlnum_24 hf
  · replace hf := hf.2 c5
    refine zo_iload_n d_M_isAlnum_7 rfl rfl ?_
    refine zo_bipush (v := 48) d_M_isAlnum_8 (by decide) ?_
    refine zo_icmp_lt (tgt := 23) d_M_isAlnum_10 (by decide) (fun c4 => ?_) (fun c4 => ?_)
    · replace hf := hf.1 c4
      refine zo_iconst (v := 0) d_M_isAlnum_23 (by decide) ?_
      exact zo_zretI (ty := .boolean) rfl rfl d_M_isAlnum_24 hf
    · replace hf := hf.2 c4
      refine zo_iload_n d_M_isAlnum_13 rfl rfl ?_
      refine zo_bipush (v := 57) d_M_isAlnum_14 (by decide) ?_
      refine zo_icmp_gt (tgt := 23) d_M_isAlnum_16 (by decide) (fun c3 => ?_) (fun c3 => ?_)
      · replace hf := hf.1 c3
        refine zo_iconst (v := 0) d_M_isAlnum_23 (by decide) ?_
        exact zo_zretI (ty := .boolean) rfl rfl d_M_isAlnum_24 hf
      · replace hf := hf.2 c3
        refine zo_iconst (v := 1) d_M_isAlnum_19 (by decide) ?_
        refine zo_goto (tgt := 24) d_M_isAlnum_20 (by decide) ?_
        exact zo_zretI (ty := .boolean) rfl rfl d_M_isAlnum_24 hf
theorem e_M_isAlnum {d : Nat} (x0 : Int32)  {h : ZH} {Q : Int32 → ZH → Prop}
    (hf : EvI d m_M_isLetter [vI x0] h (fun y2 g1 => ((¬ y2 = 0 → Q (1 : Int32) g1) ∧ (y2 = 0 → ((x0 < (48 : Int32) → Q (0 : Int32) g1) ∧ (¬ x0 < (48 : Int32) → (((57 : Int32) < x0 → Q (0 : Int32) g1) ∧ (¬ (57 : Int32) < x0 → Q (1 : Int32) g1)))))))) :
    EvI (d + 1) m_M_isAlnum [vI x0] h Q := zo_entry (by decide) (Nat.le_of_ble_eq_true rfl) (w_M_isAlnum_0 x0  hf)
set_option maxRecDepth 100000 in
set_option maxHeartbeats 4000000 in
theorem w_M_isLetter_0 {d : Nat} (x0 : Int32)  {h : ZH} {Q : Int32 → ZH → Prop}
    (hf : ((x0 < (97 : Int32) → EvAt d m_M_isLetter 12 [some (vI x0)] [] h (zQI Q)) ∧ (¬ x0 < (97 : Int32) → ((x0 ≤ (122 : Int32) → Q (1 : Int32) h) ∧ (¬ x0 ≤ (122 : Int32) → EvAt d m_M_isLetter 12 [some (vI x0)] [] h (zQI Q)))))) :
    EvAt d m_M_isLetter 0 [some (vI x0)] [] h (zQI Q) := by
  refine zo_iload_n d_M_isLetter_0 rfl rfl ?_
  refine zo_bipush (v := 97) d_M_isLetter_1 (by decide) ?_
  refine zo_icmp_lt (tgt := 12) d_M_isLetter_3 (by decide) (fun c2 => ?_) (fun c2 => ?_)
  · replace hf := hf.1 c2
    exact hf
  · replace hf := hf.2 c2
    refine zo_iload_n d_M_isLetter_6 rfl rfl ?_
    refine zo_bipush (v := 122) d_M_isLetter_7 (by decide) ?_
    refine zo_icmp_le (tgt := 24) d_M_isLetter_9 (by decide) (fun c1 => ?_) (fun c1 => ?_)
    · replace hf := hf.1 c1
      refine zo_iconst (v := 1) d_M_isLetter_24 (by decide) ?_
      refine zo_goto (tgt := 29) d_M_isLetter_25 (by decide) ?_
      exact zo_zretI (ty := .boolean) rfl rfl d_M_isLetter_29 hf
    · replace hf := hf.2 c1
      exact hf
theorem e_M_isLetter {d : Nat} (x0 : Int32)  {h : ZH} {Q : Int32 → ZH → Prop}
    (hf : ((x0 < (97 : Int32) → EvAt d m_M_isLetter 12 [some (vI x0)] [] h (zQI Q)) ∧ (¬ x0 < (97 : Int32) → ((x0 ≤ (122 : Int32) → Q (1 : Int32) h) ∧ (¬ x0 ≤ (122 : Int32) → EvAt d m_M_isLetter 12 [some (vI x0)] [] h (zQI Q)))))) :
    EvI d m_M_isLetter [vI x0] h Q := zo_entry (by decide) (Nat.le_of_ble_eq_true rfl) (w_M_isLetter_0 x0  hf)
set_option maxRecDepth 100000 in
set_option maxHeartbeats 4000000 in
theorem w_M_isLetter_12 {d : Nat} (x0 : Int32)  {h : ZH} {Q : Int32 → ZH → Prop}
    (hf : ((x0 < (65 : Int32) → Q (0 : Int32) h) ∧ (¬ x0 < (65 : Int32) → (((90 : Int32) < x0 → Q (0 : Int32) h) ∧ (¬ (90 : Int32) < x0 → Q (1 : Int32) h))))) :
    EvAt d m_M_isLetter 12 [some (vI x0)] [] h (zQI Q) := by
  refine zo_iload_n d_M_isLetter_12 rfl rfl ?_
  refine zo_bipush (v := 65) d_M_isLetter_13 (by decide) ?_
  refine zo_icmp_lt (tgt := 28) d_M_isLetter_15 (by decide) (fun c2 => ?_) (fun c2 => ?_)
  · replace hf := hf.1 c2
    refine zo_iconst (v := 0) d_M_isLetter_28 (by decide) ?_
    exact zo_zretI (ty := .boolean) rfl rfl d_M_isLetter_29 hf
  · replace hf := hf.2 c2
    refine zo_iload_n d_M_isLetter_18 rfl rfl ?_
    refine zo_bipush (v := 90) d_M_isLetter_19 (by decide) ?_
    refine zo_icmp_gt (tgt := 28) d_M_isLetter_21 (by decide) (fun c1 => ?_) (fun c1 => ?_)
    · replace hf := hf.1 c1
      refine zo_iconst (v := 0) d_M_isLetter_28 (by decide) ?_
      exact zo_zretI (ty := .boolean) rfl rfl d_M_isLetter_29 hf
    · replace hf := hf.2 c1
      refine zo_iconst (v := 1) d_M_isLetter_24 (by decide) ?_
      refine zo_goto (tgt := 29) d_M_isLetter_25 (by decide) ?_
      exact zo_zretI (ty := .boolean) rfl rfl d_M_isLetter_29 hf
set_option maxRecDepth 100000 in
set_option maxHeartbeats 4000000 in
theorem w_M_bracketed_0 {d : Nat} (x1 : Int32)  {h : ZH} {Q : Int32 → ZH → Prop}
    (hf : EvI d m_M_charAt [vQ (some (12, 0)), vI (5 : Int32)] h (fun y2 g1 => ((¬ y2 = (102 : Int32) → EvAt (d + 1) m_M_bracketed 78 [some (vQ (some (12, 0))), some (vI x1), none, none] [] g1 (zQI Q)) ∧ (y2 = (102 : Int32) → EvI d m_M_charAt [vQ (some (12, 0)), vI (6 : Int32)] g1 (fun y4 g3 => ((¬ y4 = (114 : Int32) → EvAt (d + 1) m_M_bracketed 78 [some (vQ (some (12, 0))), some (vI x1), none, none] [] g3 (zQI Q)) ∧ (y4 = (114 : Int32) → EvI d m_M_charAt [vQ (some (12, 0)), vI (7 : Int32)] g3 (fun y6 g5 => ((¬ y6 = (111 : Int32) → EvAt (d + 1) m_M_bracketed 78 [some (vQ (some (12, 0))), some (vI x1), none, none] [] g5 (zQI Q)) ∧ (y6 = (111 : Int32) → EvI d m_M_charAt [vQ (some (12, 0)), vI (8 : Int32)] g5 (fun y8 g7 => ((¬ y8 = (109 : Int32) → EvAt (d + 1) m_M_bracketed 78 [some (vQ (some (12, 0))), some (vI x1), none, none] [] g7 (zQI Q)) ∧ (y8 = (109 : Int32) → EvI d m_M_charAt [vQ (some (12, 0)), vI (9 : Int32)] g7 (fun y10 g9 => ((¬ y10 = (58 : Int32) → EvAt (d + 1) m_M_bracketed 78 [some (vQ (some (12, 0))), some (vI x1), none, none] [] g9 (zQI Q)) ∧ (y10 = (58 : Int32) → EvI d m_M_charAt [vQ (some (12, 0)), vI (10 : Int32)] g9 (fun y12 g11 => ((¬ y12 = (60 : Int32) → EvAt (d + 1) m_M_bracketed 78 [some (vQ (some (12, 0))), some (vI x1), none, none] [] g11 (zQI Q)) ∧ (y12 = (60 : Int32) → (((zi g11 12 0 5) ≤ (11 : Int32) → EvAt (d + 1) m_M_bracketed 78 [some (vQ (some (12, 0))), some (vI x1), none, none] [] g11 (zQI Q)) ∧ (¬ (zi g11 12 0 5) ≤ (11 : Int32) → EvAt (d + 1) m_M_bracketed 79 [some (vQ (some (12, 0))), some (vI x1), none, none] [vI (1 : Int32)] g11 (zQI Q)))))))))))))))))))))) :
    EvAt (d + 1) m_M_bracketed 0 [some (vQ (some (12, 0))), some (vI x1), none, none] [] h (zQI Q) := by
  refine zo_aload_n d_M_bracketed_0 rfl rfl ?_
  refine zo_iconst (v := 5) d_M_bracketed_1 (by decide) ?_
  refine zo_callVI (d := d) (N := m_M_charAt) (as := [vI (5 : Int32)]) (n := 1) (zin (by decide) (by decide)) rfl rfl cv_M_charAt wd_839 rfl rfl (Nat.le_of_ble_eq_true rfl) d_M_bracketed_2 hf (fun y2 g1 hf => ?_)
  refine zo_bipush (v := 102) d_M_bracketed_5 (by decide) ?_
  refine zo_icmp_ne (tgt := 78) d_M_bracketed_7 (by decide) (fun c19 => ?_) (fun c19 => ?_)
  · replace hf := hf.1 c19
    exact hf
  · replace hf := hf.2 c19
    refine zo_aload_n d_M_bracketed_10 rfl rfl ?_
    refine zo_bipush (v := 6) d_M_bracketed_11 (by decide) ?_
    refine zo_callVI (d := d) (N := m_M_charAt) (as := [vI (6 : Int32)]) (n := 1) (zin (by decide) (by decide)) rfl rfl cv_M_charAt wd_839 rfl rfl (Nat.le_of_ble_eq_true rfl) d_M_bracketed_13 hf (fun y4 g3 hf => ?_)
    refine zo_bipush (v := 114) d_M_bracketed_16 (by decide) ?_
    refine zo_icmp_ne (tgt := 78) d_M_bracketed_18 (by decide) (fun c18 => ?_) (fun c18 => ?_)
    · replace hf := hf.1 c18
      exact hf
    · replace hf := hf.2 c18
      refine zo_aload_n d_M_bracketed_21 rfl rfl ?_
      refine zo_bipush (v := 7) d_M_bracketed_22 (by decide) ?_
      refine zo_callVI (d := d) (N := m_M_charAt) (as := [vI (7 : Int32)]) (n := 1) (zin (by decide) (by decide)) rfl rfl cv_M_charAt wd_839 rfl rfl (Nat.le_of_ble_eq_true rfl) d_M_bracketed_24 hf (fun y6 g5 hf => ?_)
      refine zo_bipush (v := 111) d_M_bracketed_27 (by decide) ?_
      refine zo_icmp_ne (tgt := 78) d_M_bracketed_29 (by decide) (fun c17 => ?_) (fun c17 => ?_)
      · replace hf := hf.1 c17
        exact hf
      · replace hf := hf.2 c17
        refine zo_aload_n d_M_bracketed_32 rfl rfl ?_
        refine zo_bipush (v := 8) d_M_bracketed_33 (by decide) ?_
        refine zo_callVI (d := d) (N := m_M_charAt) (as := [vI (8 : Int32)]) (n := 1) (zin (by decide) (by decide)) rfl rfl cv_M_charAt wd_839 rfl rfl (Nat.le_of_ble_eq_true rfl) d_M_bracketed_35 hf (fun y8 g7 hf => ?_)
        refine zo_bipush (v := 109) d_M_bracketed_38 (by decide) ?_
        refine zo_icmp_ne (tgt := 78) d_M_bracketed_40 (by decide) (fun c16 => ?_) (fun c16 => ?_)
        · replace hf := hf.1 c16
          exact hf
        · replace hf := hf.2 c16
          refine zo_aload_n d_M_bracketed_43 rfl rfl ?_
          refine zo_bipush (v := 9) d_M_bracketed_44 (by decide) ?_
          refine zo_callVI (d := d) (N := m_M_charAt) (as := [vI (9 : Int32)]) (n := 1) (zin (by decide) (by decide)) rfl rfl cv_M_charAt wd_839 rfl rfl (Nat.le_of_ble_eq_true rfl) d_M_bracketed_46 hf (fun y10 g9 hf => ?_)
          refine zo_bipush (v := 58) d_M_bracketed_49 (by decide) ?_
          refine zo_icmp_ne (tgt := 78) d_M_bracketed_51 (by decide) (fun c15 => ?_) (fun c15 => ?_)
          · replace hf := hf.1 c15
            exact hf
          · replace hf := hf.2 c15
            refine zo_aload_n d_M_bracketed_54 rfl rfl ?_
            refine zo_bipush (v := 10) d_M_bracketed_55 (by decide) ?_
            refine zo_callVI (d := d) (N := m_M_charAt) (as := [vI (10 : Int32)]) (n := 1) (zin (by decide) (by decide)) rfl rfl cv_M_charAt wd_839 rfl rfl (Nat.le_of_ble_eq_true rfl) d_M_bracketed_57 hf (fun y12 g11 hf => ?_)
            refine zo_bipush (v := 60) d_M_bracketed_60 (by decide) ?_
            refine zo_icmp_ne (tgt := 78) d_M_bracketed_62 (by decide) (fun c14 => ?_) (fun c14 => ?_)
            · replace hf := hf.1 c14
              exact hf
            · replace hf := hf.2 c14
              refine zo_aload_n d_M_bracketed_65 rfl rfl ?_
              refine gf_M_length wd_704 d_M_bracketed_66 ?_
              refine zo_bipush (v := 11) d_M_bracketed_69 (by decide) ?_
              refine zo_icmp_le (tgt := 78) d_M_bracketed_71 (by decide) (fun c13 => ?_) (fun c13 => ?_)
              · replace hf := hf.1 c13
                exact hf
              · replace hf := hf.2 c13
                refine zo_iconst (v := 1) d_M_bracketed_74 (by decide) ?_
                refine zo_goto (tgt := 79) d_M_bracketed_75 (by decide) ?_
                exact hf
theorem e_M_bracketed {d : Nat} (x1 : Int32)  {h : ZH} {Q : Int32 → ZH → Prop}
    (hf : EvI d m_M_charAt [vQ (some (12, 0)), vI (5 : Int32)] h (fun y2 g1 => ((¬ y2 = (102 : Int32) → EvAt (d + 1) m_M_bracketed 78 [some (vQ (some (12, 0))), some (vI x1), none, none] [] g1 (zQI Q)) ∧ (y2 = (102 : Int32) → EvI d m_M_charAt [vQ (some (12, 0)), vI (6 : Int32)] g1 (fun y4 g3 => ((¬ y4 = (114 : Int32) → EvAt (d + 1) m_M_bracketed 78 [some (vQ (some (12, 0))), some (vI x1), none, none] [] g3 (zQI Q)) ∧ (y4 = (114 : Int32) → EvI d m_M_charAt [vQ (some (12, 0)), vI (7 : Int32)] g3 (fun y6 g5 => ((¬ y6 = (111 : Int32) → EvAt (d + 1) m_M_bracketed 78 [some (vQ (some (12, 0))), some (vI x1), none, none] [] g5 (zQI Q)) ∧ (y6 = (111 : Int32) → EvI d m_M_charAt [vQ (some (12, 0)), vI (8 : Int32)] g5 (fun y8 g7 => ((¬ y8 = (109 : Int32) → EvAt (d + 1) m_M_bracketed 78 [some (vQ (some (12, 0))), some (vI x1), none, none] [] g7 (zQI Q)) ∧ (y8 = (109 : Int32) → EvI d m_M_charAt [vQ (some (12, 0)), vI (9 : Int32)] g7 (fun y10 g9 => ((¬ y10 = (58 : Int32) → EvAt (d + 1) m_M_bracketed 78 [some (vQ (some (12, 0))), some (vI x1), none, none] [] g9 (zQI Q)) ∧ (y10 = (58 : Int32) → EvI d m_M_charAt [vQ (some (12, 0)), vI (10 : Int32)] g9 (fun y12 g11 => ((¬ y12 = (60 : Int32) → EvAt (d + 1) m_M_bracketed 78 [some (vQ (some (12, 0))), some (vI x1), none, none] [] g11 (zQI Q)) ∧ (y12 = (60 : Int32) → (((zi g11 12 0 5) ≤ (11 : Int32) → EvAt (d + 1) m_M_bracketed 78 [some (vQ (some (12, 0))), some (vI x1), none, none] [] g11 (zQI Q)) ∧ (¬ (zi g11 12 0 5) ≤ (11 : Int32) → EvAt (d + 1) m_M_bracketed 79 [some (vQ (some (12, 0))), some (vI x1), none, none] [vI (1 : Int32)] g11 (zQI Q)))))))))))))))))))))) :
    EvI (d + 1) m_M_bracketed [vQ (some (12, 0)), vI x1] h Q := zo_entry (by decide) (Nat.le_of_ble_eq_true rfl) (w_M_bracketed_0 x1  hf)
set_option maxRecDepth 100000 in
set_option maxHeartbeats 4000000 in
theorem w_M_bracketed_78 {d : Nat} (x1 : Int32)  {h : ZH} {Q : Int32 → ZH → Prop}
    (hf : EvAt (d + 1) m_M_bracketed 79 [some (vQ (some (12, 0))), some (vI x1), none, none] [vI (0 : Int32)] h (zQI Q)) :
    EvAt (d + 1) m_M_bracketed 78 [some (vQ (some (12, 0))), some (vI x1), none, none] [] h (zQI Q) := by
  refine zo_iconst (v := 0) d_M_bracketed_78 (by decide) ?_
  exact hf
set_option maxRecDepth 100000 in
set_option maxHeartbeats 4000000 in
theorem w_M_bracketed_79 {d : Nat} (x1 : Int32) (xs0 : Int32)  {h : ZH} {Q : Int32 → ZH → Prop}
    (hf : EvI d m_M_charAt [vQ (some (12, 0)), vI (5 : Int32)] h (fun y2 g1 => ((¬ y2 = (116 : Int32) → EvAt (d + 1) m_M_bracketed 136 [some (vQ (some (12, 0))), some (vI x1), some (vI xs0), none] [] g1 (zQI Q)) ∧ (y2 = (116 : Int32) → EvI d m_M_charAt [vQ (some (12, 0)), vI (6 : Int32)] g1 (fun y4 g3 => ((¬ y4 = (111 : Int32) → EvAt (d + 1) m_M_bracketed 136 [some (vQ (some (12, 0))), some (vI x1), some (vI xs0), none] [] g3 (zQI Q)) ∧ (y4 = (111 : Int32) → EvI d m_M_charAt [vQ (some (12, 0)), vI (7 : Int32)] g3 (fun y6 g5 => ((¬ y6 = (58 : Int32) → EvAt (d + 1) m_M_bracketed 136 [some (vQ (some (12, 0))), some (vI x1), some (vI xs0), none] [] g5 (zQI Q)) ∧ (y6 = (58 : Int32) → EvI d m_M_charAt [vQ (some (12, 0)), vI (8 : Int32)] g5 (fun y8 g7 => ((¬ y8 = (60 : Int32) → EvAt (d + 1) m_M_bracketed 136 [some (vQ (some (12, 0))), some (vI x1), some (vI xs0), none] [] g7 (zQI Q)) ∧ (y8 = (60 : Int32) → (((zi g7 12 0 5) ≤ (9 : Int32) → EvAt (d + 1) m_M_bracketed 136 [some (vQ (some (12, 0))), some (vI x1), some (vI xs0), none] [] g7 (zQI Q)) ∧ (¬ (zi g7 12 0 5) ≤ (9 : Int32) → EvAt (d + 1) m_M_bracketed 137 [some (vQ (some (12, 0))), some (vI x1), some (vI xs0), none] [vI (1 : Int32)] g7 (zQI Q)))))))))))))))) :
    EvAt (d + 1) m_M_bracketed 79 [some (vQ (some (12, 0))), some (vI x1), none, none] [vI xs0] h (zQI Q) := by
  refine zo_istore_n d_M_bracketed_79 rfl (Nat.le_of_ble_eq_true rfl) rfl ?_
  refine zo_aload_n d_M_bracketed_80 rfl rfl ?_
  refine zo_iconst (v := 5) d_M_bracketed_81 (by decide) ?_
  refine zo_callVI (d := d) (N := m_M_charAt) (as := [vI (5 : Int32)]) (n := 1) (zin (by decide) (by decide)) rfl rfl cv_M_charAt wd_839 rfl rfl (Nat.le_of_ble_eq_true rfl) d_M_bracketed_82 hf (fun y2 g1 hf => ?_)
  refine zo_bipush (v := 116) d_M_bracketed_85 (by decide) ?_
  refine zo_icmp_ne (tgt := 136) d_M_bracketed_87 (by decide) (fun c13 => ?_) (fun c13 => ?_)
  · replace hf := hf.1 c13
    exact hf
  · replace hf := hf.2 c13
    refine zo_aload_n d_M_bracketed_90 rfl rfl ?_
    refine zo_bipush (v := 6) d_M_bracketed_91 (by decide) ?_
    refine zo_callVI (d := d) (N := m_M_charAt) (as := [vI (6 : Int32)]) (n := 1) (zin (by decide) (by decide)) rfl rfl cv_M_charAt wd_839 rfl rfl (Nat.le_of_ble_eq_true rfl) d_M_bracketed_93 hf (fun y4 g3 hf => ?_)
    refine zo_bipush (v := 111) d_M_bracketed_96 (by decide) ?_
    refine zo_icmp_ne (tgt := 136) d_M_bracketed_98 (by decide) (fun c12 => ?_) (fun c12 => ?_)
    · replace hf := hf.1 c12
      exact hf
    · replace hf := hf.2 c12
      refine zo_aload_n d_M_bracketed_101 rfl rfl ?_
      refine zo_bipush (v := 7) d_M_bracketed_102 (by decide) ?_
      refine zo_callVI (d := d) (N := m_M_charAt) (as := [vI (7 : Int32)]) (n := 1) (zin (by decide) (by decide)) rfl rfl cv_M_charAt wd_839 rfl rfl (Nat.le_of_ble_eq_true rfl) d_M_bracketed_104 hf (fun y6 g5 hf => ?_)
      refine zo_bipush (v := 58) d_M_bracketed_107 (by decide) ?_
      refine zo_icmp_ne (tgt := 136) d_M_bracketed_109 (by decide) (fun c11 => ?_) (fun c11 => ?_)
      · replace hf := hf.1 c11
        exact hf
      · replace hf := hf.2 c11
        refine zo_aload_n d_M_bracketed_112 rfl rfl ?_
        refine zo_bipush (v := 8) d_M_bracketed_113 (by decide) ?_
        refine zo_callVI (d := d) (N := m_M_charAt) (as := [vI (8 : Int32)]) (n := 1) (zin (by decide) (by decide)) rfl rfl cv_M_charAt wd_839 rfl rfl (Nat.le_of_ble_eq_true rfl) d_M_bracketed_115 hf (fun y8 g7 hf => ?_)
        refine zo_bipush (v := 60) d_M_bracketed_118 (by decide) ?_
        refine zo_icmp_ne (tgt := 136) d_M_bracketed_120 (by decide) (fun c10 => ?_) (fun c10 => ?_)
        · replace hf := hf.1 c10
          exact hf
        · replace hf := hf.2 c10
          refine zo_aload_n d_M_bracketed_123 rfl rfl ?_
          refine gf_M_length wd_704 d_M_bracketed_124 ?_
          refine zo_bipush (v := 9) d_M_bracketed_127 (by decide) ?_
          refine zo_icmp_le (tgt := 136) d_M_bracketed_129 (by decide) (fun c9 => ?_) (fun c9 => ?_)
          · replace hf := hf.1 c9
            exact hf
          · replace hf := hf.2 c9
            refine zo_iconst (v := 1) d_M_bracketed_132 (by decide) ?_
            refine zo_goto (tgt := 137) d_M_bracketed_133 (by decide) ?_
            exact hf
set_option maxRecDepth 100000 in
set_option maxHeartbeats 4000000 in
theorem w_M_bracketed_136 {d : Nat} (x1 : Int32) (x2 : Int32)  {h : ZH} {Q : Int32 → ZH → Prop}
    (hf : EvAt (d + 1) m_M_bracketed 137 [some (vQ (some (12, 0))), some (vI x1), some (vI x2), none] [vI (0 : Int32)] h (zQI Q)) :
    EvAt (d + 1) m_M_bracketed 136 [some (vQ (some (12, 0))), some (vI x1), some (vI x2), none] [] h (zQI Q) := by
  refine zo_iconst (v := 0) d_M_bracketed_136 (by decide) ?_
  exact hf
set_option maxRecDepth 100000 in
set_option maxHeartbeats 4000000 in
theorem w_M_bracketed_137 {d : Nat} (x1 : Int32) (x2 : Int32) (xs0 : Int32)  {h : ZH} {Q : Int32 → ZH → Prop}
    (hf : ((x1 = 0 → ((xs0 = 0 → Q (0 : Int32) h) ∧ (¬ xs0 = 0 → EvAt (d + 1) m_M_bracketed 153 [some (vQ (some (12, 0))), none, none, none] [] h (zQI Q)))) ∧ (¬ x1 = 0 → ((x2 = 0 → Q (0 : Int32) h) ∧ (¬ x2 = 0 → EvAt (d + 1) m_M_bracketed 153 [some (vQ (some (12, 0))), none, none, none] [] h (zQI Q)))))) :
    EvAt (d + 1) m_M_bracketed 137 [some (vQ (some (12, 0))), some (vI x1), some (vI x2), none] [vI xs0] h (zQI Q) := by
  refine zo_istore_n d_M_bracketed_137 rfl (Nat.le_of_ble_eq_true rfl) rfl ?_
  refine zo_iload_n d_M_bracketed_138 rfl rfl ?_
  refine zo_if_eq (tgt := 149) d_M_bracketed_139 (by decide) (fun c3 => ?_) (fun c3 => ?_)
  · replace hf := hf.1 c3
    refine zo_iload_n d_M_bracketed_149 rfl rfl ?_
    refine zo_if_eq (tgt := 173) d_M_bracketed_150 (by decide) (fun c1 => ?_) (fun c1 => ?_)
    · replace hf := hf.1 c1
      refine zo_iconst (v := 0) d_M_bracketed_173 (by decide) ?_
      exact zo_zretI (ty := .boolean) rfl rfl d_M_bracketed_174 hf
    · replace hf := hf.2 c1
      refine zo_drop 1 ?_
      refine zo_drop 2 ?_
      refine zo_drop 3 ?_
      exact hf
  · replace hf := hf.2 c3
    refine zo_iload_n d_M_bracketed_142 rfl rfl ?_
    refine zo_if_eq (tgt := 173) d_M_bracketed_143 (by decide) (fun c2 => ?_) (fun c2 => ?_)
    · replace hf := hf.1 c2
      refine zo_iconst (v := 0) d_M_bracketed_173 (by decide) ?_
      exact zo_zretI (ty := .boolean) rfl rfl d_M_bracketed_174 hf
    · replace hf := hf.2 c2
      refine zo_goto (tgt := 153) d_M_bracketed_146 (by decide) ?_
      refine zo_drop 1 ?_
      refine zo_drop 2 ?_
      refine zo_drop 3 ?_
      exact hf
set_option maxRecDepth 100000 in
set_option maxHeartbeats 4000000 in
theorem w_M_bracketed_153 {d : Nat}   {h : ZH} {Q : Int32 → ZH → Prop}
    (hf : (vp_in ((zi h 12 0 5) - (1 : Int32)) (zLen 13 0) ∧ ((¬ (zi h 13 0 ((zi h 12 0 5) - (1 : Int32)).toNatClampNeg) = (62 : Int32) → Q (0 : Int32) h) ∧ ((zi h 13 0 ((zi h 12 0 5) - (1 : Int32)).toNatClampNeg) = (62 : Int32) → Q (1 : Int32) h)))) :
    EvAt (d + 1) m_M_bracketed 153 [some (vQ (some (12, 0))), none, none, none] [] h (zQI Q) := by
  refine zo_aload_n d_M_bracketed_153 rfl rfl ?_
  refine gf_M_line wd_703 d_M_bracketed_154 ?_
  refine zo_aload_n d_M_bracketed_157 rfl rfl ?_
  refine gf_M_length wd_704 d_M_bracketed_158 ?_
  refine zo_iconst (v := 1) d_M_bracketed_161 (by decide) ?_
  refine zo_isub d_M_bracketed_162 ?_
  obtain ⟨hp, hf⟩ := hf
  refine zo_iald (zin (by decide) (by decide)) rfl rfl rfl hp d_M_bracketed_163 ?_
  refine zo_bipush (v := 62) d_M_bracketed_164 (by decide) ?_
  refine zo_icmp_ne (tgt := 173) d_M_bracketed_166 (by decide) (fun c1 => ?_) (fun c1 => ?_)
  · replace hf := hf.1 c1
    refine zo_iconst (v := 0) d_M_bracketed_173 (by decide) ?_
    exact zo_zretI (ty := .boolean) rfl rfl d_M_bracketed_174 hf
  · replace hf := hf.2 c1
    refine zo_iconst (v := 1) d_M_bracketed_169 (by decide) ?_
    refine zo_goto (tgt := 174) d_M_bracketed_170 (by decide) ?_
    exact zo_zretI (ty := .boolean) rfl rfl d_M_bracketed_174 hf
