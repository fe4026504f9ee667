set_option maxRecDepth 100000 in
set_option maxHeartbeats 4000000 in
theorem w_P_type_0 {d : Nat} (x1 : Int64)  {h : ZH} {Q : Int32 → ZH → Prop}
    (hf : EvI d m_P_typedLength [vL x1] h (fun y2 g1 => ((¬ (zi g1 5 0 4) = 0 → Q (0 : Int32) g1) ∧ ((zi g1 5 0 4) = 0 → ((y2 = (-1 : Int32) → Q (0 : Int32) g1) ∧ (¬ y2 = (-1 : Int32) → ((((zi g1 1 0 1) + y2) ≤ (72 : Int32) → EvAt (d + 1) m_P_type 39 [some (vQ (some (0, 0))), some (vL x1), none, some (vI y2), some (vI (0 : Int32))] [] g1 (zQI Q)) ∧ (¬ ((zi g1 1 0 1) + y2) ≤ (72 : Int32) → Q (0 : Int32) g1)))))))) :
    EvAt (d + 1) m_P_type 0 [some (vQ (some (0, 0))), some (vL x1), none, none, none] [] h (zQI Q) := by
  refine zo_lload_n d_P_type_0 rfl rfl ?_
  refine zo_callSI (d := d) (N := m_P_typedLength) (as := [vL x1]) (n := 1) cs_P_typedLength wd_284 rfl rfl (Nat.le_of_ble_eq_true rfl) d_P_type_1 hf (fun y2 g1 hf => ?_)
  refine zo_istore_n d_P_type_4 rfl (Nat.le_of_ble_eq_true rfl) rfl ?_
  refine zo_aload_n d_P_type_5 rfl rfl ?_
  refine gf_P_spool wd_266 d_P_type_6 ?_
  refine gf_O_down wd_224 d_P_type_9 ?_
  refine zo_if_ne (tgt := 34) d_P_type_12 (by decide) (fun c5 => ?_) (fun c5 => ?_)
  · replace hf := hf.1 c5
    refine zo_iconst (v := 0) d_P_type_34 (by decide) ?_
    exact zo_zretI (ty := .boolean) rfl rfl d_P_type_35 hf
  · replace hf := hf.2 c5
    refine zo_iload_n d_P_type_15 rfl rfl ?_
    refine zo_iconst (v := (-1)) d_P_type_16 (by decide) ?_
    refine zo_icmp_eq (tgt := 34) d_P_type_17 (by decide) (fun c4 => ?_) (fun c4 => ?_)
    · replace hf := hf.1 c4
      refine zo_iconst (v := 0) d_P_type_34 (by decide) ?_
      exact zo_zretI (ty := .boolean) rfl rfl d_P_type_35 hf
    · replace hf := hf.2 c4
      refine zo_aload_n d_P_type_20 rfl rfl ?_
      refine gf_P_line wd_264 d_P_type_21 ?_
      refine gf_R_length wd_99 (by decide) d_P_type_24 ?_
      refine zo_iload_n d_P_type_27 rfl rfl ?_
      refine zo_iadd d_P_type_28 ?_
      refine zo_bipush (v := 72) d_P_type_29 (by decide) ?_
      refine zo_icmp_le (tgt := 36) d_P_type_31 (by decide) (fun c3 => ?_) (fun c3 => ?_)
      · replace hf := hf.1 c3
        refine zo_iconst (v := 0) d_P_type_36 (by decide) ?_
        refine zo_istore d_P_type_37 (Nat.le_of_ble_eq_true rfl) rfl ?_
        exact hf
      · replace hf := hf.2 c3
        refine zo_iconst (v := 0) d_P_type_34 (by decide) ?_
        exact zo_zretI (ty := .boolean) rfl rfl d_P_type_35 hf
theorem e_P_type {d : Nat} (x1 : Int64)  {h : ZH} {Q : Int32 → ZH → Prop}
    (hf : EvI d m_P_typedLength [vL x1] h (fun y2 g1 => ((¬ (zi g1 5 0 4) = 0 → Q (0 : Int32) g1) ∧ ((zi g1 5 0 4) = 0 → ((y2 = (-1 : Int32) → Q (0 : Int32) g1) ∧ (¬ y2 = (-1 : Int32) → ((((zi g1 1 0 1) + y2) ≤ (72 : Int32) → EvAt (d + 1) m_P_type 39 [some (vQ (some (0, 0))), some (vL x1), none, some (vI y2), some (vI (0 : Int32))] [] g1 (zQI Q)) ∧ (¬ ((zi g1 1 0 1) + y2) ≤ (72 : Int32) → Q (0 : Int32) g1)))))))) :
    EvI (d + 1) m_P_type [vQ (some (0, 0)), vL x1] h Q := zo_entry (by decide) (Nat.le_of_ble_eq_true rfl) (w_P_type_0 x1  hf)
set_option maxRecDepth 100000 in
set_option maxHeartbeats 4000000 in
theorem w_P_type_39 {d : Nat} (x1 : Int64) (x3 : Int32) (x4 : Int32)  {h : ZH} {Q : Int32 → ZH → Prop}
    (hf : ((x3 ≤ x4 → Q (1 : Int32) h) ∧ (¬ x3 ≤ x4 → EvI d m_P_typedCode [vL x1, vI x4] h (fun y2 g1 => EvV d m_R_add [vQ (some (1, 0)), vI ((y2.toUInt32 % 65536).toInt32)] g1 (fun g3 => EvAt (d + 1) m_P_type 39 [some (vQ (some (0, 0))), some (vL x1), none, some (vI x3), some (vI (x4 + 1))] [] g3 (zQI Q)))))) :
    EvAt (d + 1) m_P_type 39 [some (vQ (some (0, 0))), some (vL x1), none, some (vI x3), some (vI x4)] [] h (zQI Q) := by
  refine zo_iload d_P_type_39 rfl ?_
  refine zo_iload_n d_P_type_41 rfl rfl ?_
  refine zo_icmp_ge (tgt := 65) d_P_type_42 (by decide) (fun c4 => ?_) (fun c4 => ?_)
  · replace hf := hf.1 c4
    refine zo_iconst (v := 1) d_P_type_65 (by decide) ?_
    exact zo_zretI (ty := .boolean) rfl rfl d_P_type_66 hf
  · replace hf := hf.2 c4
    refine zo_aload_n d_P_type_45 rfl rfl ?_
    refine gf_P_line wd_264 d_P_type_46 ?_
    refine zo_lload_n d_P_type_49 rfl rfl ?_
    refine zo_iload d_P_type_50 rfl ?_
    refine zo_callSI (d := d) (N := m_P_typedCode) (as := [vL x1, vI x4]) (n := 2) cs_P_typedCode wd_287 rfl rfl (Nat.le_of_ble_eq_true rfl) d_P_type_52 hf (fun y2 g1 hf => ?_)
    refine zo_i2c d_P_type_55 ?_
    refine zo_callVV (d := d) (N := m_R_add) (as := [vI ((y2.toUInt32 % 65536).toInt32)]) (n := 1) (zin (by decide) (by decide)) rfl rfl cv_R_add wd_291 rfl rfl (Nat.le_of_ble_eq_true rfl) d_P_type_56 hf (fun g3 hf => ?_)
    refine zo_iinc (v := x4 + 1) d_P_type_59 rfl rfl (Nat.le_of_ble_eq_true rfl) rfl ?_
    refine zo_goto (tgt := 39) d_P_type_62 (by decide) ?_
    exact hf
set_option maxRecDepth 100000 in
set_option maxHeartbeats 4000000 in
theorem w_P_typedLength_0 {d : Nat} (x0 : Int64)  {h : ZH} {Q : Int32 → ZH → Prop}
    (hf : EvAt (d + 1) m_P_typedLength 2 [some (vL x0), none, some (vI (0 : Int32)), none] [] h (zQI Q)) :
    EvAt (d + 1) m_P_typedLength 0 [some (vL x0), none, none, none] [] h (zQI Q) := by
  refine zo_iconst (v := 0) d_P_typedLength_0 (by decide) ?_
  refine zo_istore_n d_P_typedLength_1 rfl (Nat.le_of_ble_eq_true rfl) rfl ?_
  exact hf
theorem e_P_typedLength {d : Nat} (x0 : Int64)  {h : ZH} {Q : Int32 → ZH → Prop}
    (hf : EvAt (d + 1) m_P_typedLength 2 [some (vL x0), none, some (vI (0 : Int32)), none] [] h (zQI Q)) :
    EvI (d + 1) m_P_typedLength [vL x0] h Q := zo_entry (by decide) (Nat.le_of_ble_eq_true rfl) (w_P_typedLength_0 x0  hf)
set_option maxRecDepth 100000 in
set_option maxHeartbeats 4000000 in
theorem w_P_typedLength_2 {d : Nat} (x0 : Int64) (x2 : Int32)  {h : ZH} {Q : Int32 → ZH → Prop}
    (hf : (((8 : Int32) ≤ x2 → Q (8 : Int32) h) ∧ (¬ (8 : Int32) ≤ x2 → EvI d m_P_typedCode [vL x0, vI x2] h (fun y2 g1 => ((¬ y2 = 0 → ((y2 < (32 : Int32) → Q (-1 : Int32) g1) ∧ (¬ y2 < (32 : Int32) → ((y2 ≤ (126 : Int32) → EvAt (d + 1) m_P_typedLength 2 [some (vL x0), none, some (vI (x2 + 1)), none] [] g1 (zQI Q)) ∧ (¬ y2 ≤ (126 : Int32) → Q (-1 : Int32) g1))))) ∧ (y2 = 0 → Q x2 g1)))))) :
    EvAt (d + 1) m_P_typedLength 2 [some (vL x0), none, some (vI x2), none] [] h (zQI Q) := by
  refine zo_iload_n d_P_typedLength_2 rfl rfl ?_
  refine zo_bipush (v := 8) d_P_typedLength_3 (by decide) ?_
  refine zo_icmp_ge (tgt := 40) d_P_typedLength_5 (by decide) (fun c6 => ?_) (fun c6 => ?_)
  · replace hf := hf.1 c6
    refine zo_bipush (v := 8) d_P_typedLength_40 (by decide) ?_
    exact zo_iretI rfl d_P_typedLength_42 hf
  · replace hf := hf.2 c6
    refine zo_lload_n d_P_typedLength_8 rfl rfl ?_
    refine zo_iload_n d_P_typedLength_9 rfl rfl ?_
    refine zo_callSI (d := d) (N := m_P_typedCode) (as := [vL x0, vI x2]) (n := 2) cs_P_typedCode wd_287 rfl rfl (Nat.le_of_ble_eq_true rfl) d_P_typedLength_10 hf (fun y2 g1 hf => ?_)
    refine zo_istore_n d_P_typedLength_13 rfl (Nat.le_of_ble_eq_true rfl) rfl ?_
    refine zo_iload_n d_P_typedLength_14 rfl rfl ?_
    refine zo_if_ne (tgt := 20) d_P_typedLength_15 (by decide) (fun c5 => ?_) (fun c5 => ?_)
    · replace hf := hf.1 c5
      refine zo_iload_n d_P_typedLength_20 rfl rfl ?_
      refine zo_bipush (v := 32) d_P_typedLength_21 (by decide) ?_
      refine zo_icmp_lt (tgt := 32) d_P_typedLength_23 (by decide) (fun c4 => ?_) (fun c4 => ?_)
      · replace hf := hf.1 c4
        refine zo_iconst (v := (-1)) d_P_typedLength_32 (by decide) ?_
        exact zo_iretI rfl d_P_typedLength_33 hf
      · replace hf := hf.2 c4
        refine zo_iload_n d_P_typedLength_26 rfl rfl ?_
        refine zo_bipush (v := 126) d_P_typedLength_27 (by decide) ?_
        refine zo_icmp_le (tgt := 34) d_P_typedLength_29 (by decide) (fun c3 => ?_) (fun c3 => ?_)
        · replace hf := hf.1 c3
          refine zo_iinc (v := x2 + 1) d_P_typedLength_34 rfl rfl (Nat.le_of_ble_eq_true rfl) rfl ?_
          refine zo_goto (tgt := 2) d_P_typedLength_37 (by decide) ?_
          refine zo_drop 3 ?_
          exact hf
        · replace hf := hf.2 c3
          refine zo_iconst (v := (-1)) d_P_typedLength_32 (by decide) ?_
          exact zo_iretI rfl d_P_typedLength_33 hf
    · replace hf := hf.2 c5
      refine zo_iload_n d_P_typedLength_18 rfl rfl ?_
      exact zo_iretI rfl d_P_typedLength_19 hf
set_option maxRecDepth 100000 in
set_option maxHeartbeats 4000000 in
theorem w_P_typedCode_0 {d : Nat} (x0 : Int64) (x2 : Int32)  {h : ZH} {Q : Int32 → ZH → Prop}
    (hf : Q ((((x0.toUInt64 >>> (((8 : Int32) * x2).toInt64.toUInt64 &&& Int64.toUInt64 63)).toInt64) &&& (255 : Int64)).toInt32) h) :
    EvAt d m_P_typedCode 0 [some (vL x0), none, some (vI x2)] [] h (zQI Q) := by
  refine zo_lload_n d_P_typedCode_0 rfl rfl ?_
  refine zo_bipush (v := 8) d_P_typedCode_1 (by decide) ?_
  refine zo_iload_n d_P_typedCode_3 rfl rfl ?_
  refine zo_imul d_P_typedCode_4 ?_
  refine zo_lushr d_P_typedCode_5 ?_
  refine zo_ldc2 wd_290 d_P_typedCode_6 ?_
  refine zo_land d_P_typedCode_9 ?_
  refine zo_l2i d_P_typedCode_10 ?_
  exact zo_iretI rfl d_P_typedCode_11 hf
theorem e_P_typedCode {d : Nat} (x0 : Int64) (x2 : Int32)  {h : ZH} {Q : Int32 → ZH → Prop}
    (hf : Q ((((x0.toUInt64 >>> (((8 : Int32) * x2).toInt64.toUInt64 &&& Int64.toUInt64 63)).toInt64) &&& (255 : Int64)).toInt32) h) :
    EvI d m_P_typedCode [vL x0, vI x2] h Q := zo_entry (by decide) (Nat.le_of_ble_eq_true rfl) (w_P_typedCode_0 x0 x2  hf)
set_option maxRecDepth 100000 in
set_option maxHeartbeats 4000000 in
theorem w_P_enter_0 {d : Nat}   {h : ZH} {Q : Int32 → ZH → Prop}
    (hf : (((zi h 5 0 4) = 0 → (((zi h 3 0 6) = 0 → EvI d m_P_obey [vQ (some (0, 0))] h (fun y2 g1 => EvV d m_R_clear [vQ (some (1, 0))] g1 (fun g3 => Q y2 g3))) ∧ (¬ (zi h 3 0 6) = 0 → EvI d m_P_takeTextLine [vQ (some (0, 0))] h (fun y5 g4 => EvV d m_R_clear [vQ (some (1, 0))] g4 (fun g6 => Q y5 g6))))) ∧ (¬ (zi h 5 0 4) = 0 → Q (-1 : Int32) h))) :
    EvAt (d + 1) m_P_enter 0 [some (vQ (some (0, 0))), none] [] h (zQI Q) := by
  refine zo_aload_n d_P_enter_0 rfl rfl ?_
  refine gf_P_spool wd_266 d_P_enter_1 ?_
  refine gf_O_down wd_224 d_P_enter_4 ?_
  refine zo_if_eq (tgt := 12) d_P_enter_7 (by decide) (fun c8 => ?_) (fun c8 => ?_)
  · replace hf := hf.1 c8
    refine zo_aload_n d_P_enter_12 rfl rfl ?_
    refine gf_P_session wd_265 d_P_enter_13 ?_
    refine gf_S_taking wd_130 d_P_enter_16 ?_
    refine zo_if_eq (tgt := 29) d_P_enter_19 (by decide) (fun c7 => ?_) (fun c7 => ?_)
    · replace hf := hf.1 c7
      refine zo_aload_n d_P_enter_29 rfl rfl ?_
      refine zo_callVI (d := d) (N := m_P_obey) (as := []) (n := 0) (zin (by decide) (by decide)) rfl rfl cv_P_obey wd_370 rfl rfl (Nat.le_of_ble_eq_true rfl) d_P_enter_30 hf (fun y2 g1 hf => ?_)
      refine zo_istore_n d_P_enter_33 rfl (Nat.le_of_ble_eq_true rfl) rfl ?_
      refine zo_aload_n d_P_enter_34 rfl rfl ?_
      refine gf_P_line wd_264 d_P_enter_35 ?_
      refine zo_callVV (d := d) (N := m_R_clear) (as := []) (n := 0) (zin (by decide) (by decide)) rfl rfl cv_R_clear wd_487 rfl rfl (Nat.le_of_ble_eq_true rfl) d_P_enter_38 hf (fun g3 hf => ?_)
      refine zo_iload_n d_P_enter_41 rfl rfl ?_
      exact zo_iretI rfl d_P_enter_42 hf
    · replace hf := hf.2 c7
      refine zo_aload_n d_P_enter_22 rfl rfl ?_
      refine zo_callVI (d := d) (N := m_P_takeTextLine) (as := []) (n := 0) (zin (by decide) (by decide)) rfl rfl cv_P_takeTextLine wd_299 rfl rfl (Nat.le_of_ble_eq_true rfl) d_P_enter_23 hf (fun y5 g4 hf => ?_)
      refine zo_goto (tgt := 33) d_P_enter_26 (by decide) ?_
      refine zo_istore_n d_P_enter_33 rfl (Nat.le_of_ble_eq_true rfl) rfl ?_
      refine zo_aload_n d_P_enter_34 rfl rfl ?_
      refine gf_P_line wd_264 d_P_enter_35 ?_
      refine zo_callVV (d := d) (N := m_R_clear) (as := []) (n := 0) (zin (by decide) (by decide)) rfl rfl cv_R_clear wd_487 rfl rfl (Nat.le_of_ble_eq_true rfl) d_P_enter_38 hf (fun g6 hf => ?_)
      refine zo_iload_n d_P_enter_41 rfl rfl ?_
      exact zo_iretI rfl d_P_enter_42 hf
  · replace hf := hf.2 c8
    refine zo_iconst (v := (-1)) d_P_enter_10 (by decide) ?_
    exact zo_iretI rfl d_P_enter_11 hf
theorem e_P_enter {d : Nat}   {h : ZH} {Q : Int32 → ZH → Prop}
    (hf : (((zi h 5 0 4) = 0 → (((zi h 3 0 6) = 0 → EvI d m_P_obey [vQ (some (0, 0))] h (fun y2 g1 => EvV d m_R_clear [vQ (some (1, 0))] g1 (fun g3 => Q y2 g3))) ∧ (¬ (zi h 3 0 6) = 0 → EvI d m_P_takeTextLine [vQ (some (0, 0))] h (fun y5 g4 => EvV d m_R_clear [vQ (some (1, 0))] g4 (fun g6 => Q y5 g6))))) ∧ (¬ (zi h 5 0 4) = 0 → Q (-1 : Int32) h))) :
    EvI (d + 1) m_P_enter [vQ (some (0, 0))] h Q := zo_entry (by decide) (Nat.le_of_ble_eq_true rfl) (w_P_enter_0   hf)
set_option maxRecDepth 100000 in
set_option maxHeartbeats 4000000 in
theorem w_P_takeTextLine_0 {d : Nat}   {h : ZH} {Q : Int32 → ZH → Prop}
    (hf : EvI d m_R_at [vQ (some (1, 0)), vI (0 : Int32)] h (fun y2 g1 => ((¬ y2 = (46 : Int32) → EvAt (d + 1) m_P_takeTextLine 18 [some (vQ (some (0, 0))), none] [vI (0 : Int32)] g1 (zQI Q)) ∧ (y2 = (46 : Int32) → EvAt (d + 1) m_P_takeTextLine 18 [some (vQ (some (0, 0))), none] [vI (1 : Int32)] g1 (zQI Q))))) :
    EvAt (d + 1) m_P_takeTextLine 0 [some (vQ (some (0, 0))), none] [] h (zQI Q) := by
  refine zo_aload_n d_P_takeTextLine_0 rfl rfl ?_
  refine gf_P_line wd_264 d_P_takeTextLine_1 ?_
  refine zo_iconst (v := 0) d_P_takeTextLine_4 (by decide) ?_
  refine zo_callVI (d := d) (N := m_R_at) (as := [vI (0 : Int32)]) (n := 1) (zin (by decide) (by decide)) rfl rfl cv_R_at wd_303 rfl rfl (Nat.le_of_ble_eq_true rfl) d_P_takeTextLine_5 hf (fun y2 g1 hf => ?_)
  refine zo_bipush (v := 46) d_P_takeTextLine_8 (by decide) ?_
  refine zo_icmp_ne (tgt := 17) d_P_takeTextLine_10 (by decide) (fun c3 => ?_) (fun c3 => ?_)
  · replace hf := hf.1 c3
    refine zo_iconst (v := 0) d_P_takeTextLine_17 (by decide) ?_
    exact hf
  · replace hf := hf.2 c3
    refine zo_iconst (v := 1) d_P_takeTextLine_13 (by decide) ?_
    refine zo_goto (tgt := 18) d_P_takeTextLine_14 (by decide) ?_
    exact hf
theorem e_P_takeTextLine {d : Nat}   {h : ZH} {Q : Int32 → ZH → Prop}
    (hf : EvI d m_R_at [vQ (some (1, 0)), vI (0 : Int32)] h (fun y2 g1 => ((¬ y2 = (46 : Int32) → EvAt (d + 1) m_P_takeTextLine 18 [some (vQ (some (0, 0))), none] [vI (0 : Int32)] g1 (zQI Q)) ∧ (y2 = (46 : Int32) → EvAt (d + 1) m_P_takeTextLine 18 [some (vQ (some (0, 0))), none] [vI (1 : Int32)] g1 (zQI Q))))) :
    EvI (d + 1) m_P_takeTextLine [vQ (some (0, 0))] h Q := zo_entry (by decide) (Nat.le_of_ble_eq_true rfl) (w_P_takeTextLine_0   hf)
set_option maxRecDepth 100000 in
set_option maxHeartbeats 4000000 in
theorem w_P_takeTextLine_18 {d : Nat} (xs0 : Int32)  {h : ZH} {Q : Int32 → ZH → Prop}
    (hf : ((xs0 = 0 → EvAt (d + 1) m_P_takeTextLine 39 [some (vQ (some (0, 0))), some (vI xs0)] [] h (zQI Q)) ∧ (¬ xs0 = 0 → ((¬ (zi h 1 0 1) = (1 : Int32) → EvAt (d + 1) m_P_takeTextLine 39 [some (vQ (some (0, 0))), some (vI xs0)] [] h (zQI Q)) ∧ ((zi h 1 0 1) = (1 : Int32) → EvI d m_P_endText [vQ (some (0, 0))] h (fun y2 g1 => Q y2 g1)))))) :
    EvAt (d + 1) m_P_takeTextLine 18 [some (vQ (some (0, 0))), none] [vI xs0] h (zQI Q) := by
  refine zo_istore_n d_P_takeTextLine_18 rfl (Nat.le_of_ble_eq_true rfl) rfl ?_
  refine zo_iload_n d_P_takeTextLine_19 rfl rfl ?_
  refine zo_if_eq (tgt := 39) d_P_takeTextLine_20 (by decide) (fun c4 => ?_) (fun c4 => ?_)
  · replace hf := hf.1 c4
    exact hf
  · replace hf := hf.2 c4
    refine zo_aload_n d_P_takeTextLine_23 rfl rfl ?_
    refine gf_P_line wd_264 d_P_takeTextLine_24 ?_
    refine gf_R_length wd_99 (by decide) d_P_takeTextLine_27 ?_
    refine zo_iconst (v := 1) d_P_takeTextLine_30 (by decide) ?_
    refine zo_icmp_ne (tgt := 39) d_P_takeTextLine_31 (by decide) (fun c3 => ?_) (fun c3 => ?_)
    · replace hf := hf.1 c3
      exact hf
    · replace hf := hf.2 c3
      refine zo_aload_n d_P_takeTextLine_34 rfl rfl ?_
      refine zo_callVI (d := d) (N := m_P_endText) (as := []) (n := 0) (zin (by decide) (by decide)) rfl rfl cv_P_endText wd_307 rfl rfl (Nat.le_of_ble_eq_true rfl) d_P_takeTextLine_35 hf (fun y2 g1 hf => ?_)
      exact zo_iretI rfl d_P_takeTextLine_38 hf
set_option maxRecDepth 100000 in
set_option maxHeartbeats 4000000 in
theorem w_P_takeTextLine_39 {d : Nat} (x1 : Int32)  {h : ZH} {Q : Int32 → ZH → Prop}
    (hf : ((x1 = 0 → EvV d m_S_addTextLine [vQ (some (3, 0)), vQ (some (1, 0)), vI (0 : Int32)] h (fun g1 => Q (0 : Int32) g1)) ∧ (¬ x1 = 0 → EvV d m_S_addTextLine [vQ (some (3, 0)), vQ (some (1, 0)), vI (1 : Int32)] h (fun g2 => Q (0 : Int32) g2)))) :
    EvAt (d + 1) m_P_takeTextLine 39 [some (vQ (some (0, 0))), some (vI x1)] [] h (zQI Q) := by
  refine zo_aload_n d_P_takeTextLine_39 rfl rfl ?_
  refine gf_P_session wd_265 d_P_takeTextLine_40 ?_
  refine zo_aload_n d_P_takeTextLine_43 rfl rfl ?_
  refine gf_P_line wd_264 d_P_takeTextLine_44 ?_
  refine zo_iload_n d_P_takeTextLine_47 rfl rfl ?_
  refine zo_if_eq (tgt := 55) d_P_takeTextLine_48 (by decide) (fun c3 => ?_) (fun c3 => ?_)
  · replace hf := hf.1 c3
    refine zo_iconst (v := 0) d_P_takeTextLine_55 (by decide) ?_
    refine zo_callVV (d := d) (N := m_S_addTextLine) (as := [vQ (some (1, 0)), vI (0 : Int32)]) (n := 2) (zin (by decide) (by decide)) rfl rfl cv_S_addTextLine wd_359 rfl rfl (Nat.le_of_ble_eq_true rfl) d_P_takeTextLine_56 hf (fun g1 hf => ?_)
    refine zo_iconst (v := 0) d_P_takeTextLine_59 (by decide) ?_
    exact zo_iretI rfl d_P_takeTextLine_60 hf
  · replace hf := hf.2 c3
    refine zo_iconst (v := 1) d_P_takeTextLine_51 (by decide) ?_
    refine zo_goto (tgt := 56) d_P_takeTextLine_52 (by decide) ?_
    refine zo_callVV (d := d) (N := m_S_addTextLine) (as := [vQ (some (1, 0)), vI (1 : Int32)]) (n := 2) (zin (by decide) (by decide)) rfl rfl cv_S_addTextLine wd_359 rfl rfl (Nat.le_of_ble_eq_true rfl) d_P_takeTextLine_56 hf (fun g2 hf => ?_)
    refine zo_iconst (v := 0) d_P_takeTextLine_59 (by decide) ?_
    exact zo_iretI rfl d_P_takeTextLine_60 hf
set_option maxRecDepth 100000 in
set_option maxHeartbeats 4000000 in
theorem w_P_endText_0 {d : Nat}   {h : ZH} {Q : Int32 → ZH → Prop}
    (hf : (((zi h 3 0 7) = 0 → EvI d m_O_isFull [vQ (some (5, 0))] h (fun y2 g1 => ((y2 = 0 → EvI d m_P_spoolSession [vQ (some (0, 0))] g1 (fun y4 g3 => EvV d m_S_endTransaction [vQ (some (3, 0))] g3 (fun g5 => Q y4 g5))) ∧ (¬ y2 = 0 → EvV d m_S_endTransaction [vQ (some (3, 0))] g1 (fun g6 => Q (452 : Int32) g6))))) ∧ (¬ (zi h 3 0 7) = 0 → EvV d m_S_endTransaction [vQ (some (3, 0))] h (fun g8 => Q (552 : Int32) g8)))) :
    EvAt (d + 1) m_P_endText 0 [some (vQ (some (0, 0))), none] [] h (zQI Q) := by
  refine zo_aload_n d_P_endText_0 rfl rfl ?_
  refine gf_P_session wd_265 d_P_endText_1 ?_
  refine gf_S_tooLong wd_132 d_P_endText_4 ?_
  refine zo_if_eq (tgt := 16) d_P_endText_7 (by decide) (fun c9 => ?_) (fun c9 => ?_)
  · replace hf := hf.1 c9
    refine zo_aload_n d_P_endText_16 rfl rfl ?_
    refine gf_P_spool wd_266 d_P_endText_17 ?_
    refine zo_callVI (d := d) (N := m_O_isFull) (as := []) (n := 0) (zin (by decide) (by decide)) rfl rfl cv_O_isFull wd_311 rfl rfl (Nat.le_of_ble_eq_true rfl) d_P_endText_20 hf (fun y2 g1 hf => ?_)
    refine zo_if_eq (tgt := 32) d_P_endText_23 (by decide) (fun c7 => ?_) (fun c7 => ?_)
    · replace hf := hf.1 c7
      refine zo_aload_n d_P_endText_32 rfl rfl ?_
      refine zo_callVI (d := d) (N := m_P_spoolSession) (as := []) (n := 0) (zin (by decide) (by decide)) rfl rfl cv_P_spoolSession wd_315 rfl rfl (Nat.le_of_ble_eq_true rfl) d_P_endText_33 hf (fun y4 g3 hf => ?_)
      refine zo_istore_n d_P_endText_36 rfl (Nat.le_of_ble_eq_true rfl) rfl ?_
      refine zo_aload_n d_P_endText_37 rfl rfl ?_
      refine gf_P_session wd_265 d_P_endText_38 ?_
      refine zo_callVV (d := d) (N := m_S_endTransaction) (as := []) (n := 0) (zin (by decide) (by decide)) rfl rfl cv_S_endTransaction wd_355 rfl rfl (Nat.le_of_ble_eq_true rfl) d_P_endText_41 hf (fun g5 hf => ?_)
      refine zo_iload_n d_P_endText_44 rfl rfl ?_
      exact zo_iretI rfl d_P_endText_45 hf
    · replace hf := hf.2 c7
      refine zo_sipush (v := 452) d_P_endText_26 (by decide) ?_
      refine zo_goto (tgt := 36) d_P_endText_29 (by decide) ?_
      refine zo_istore_n d_P_endText_36 rfl (Nat.le_of_ble_eq_true rfl) rfl ?_
      refine zo_aload_n d_P_endText_37 rfl rfl ?_
      refine gf_P_session wd_265 d_P_endText_38 ?_
      refine zo_callVV (d := d) (N := m_S_endTransaction) (as := []) (n := 0) (zin (by decide) (by decide)) rfl rfl cv_S_endTransaction wd_355 rfl rfl (Nat.le_of_ble_eq_true rfl) d_P_endText_41 hf (fun g6 hf => ?_)
      refine zo_iload_n d_P_endText_44 rfl rfl ?_
      exact zo_iretI rfl d_P_endText_45 hf
  · replace hf := hf.2 c9
    refine zo_sipush (v := 552) d_P_endText_10 (by decide) ?_
    refine zo_goto (tgt := 36) d_P_endText_13 (by decide) ?_
    refine zo_istore_n d_P_endText_36 rfl (Nat.le_of_ble_eq_true rfl) rfl ?_
    refine zo_aload_n d_P_endText_37 rfl rfl ?_
    refine gf_P_session wd_265 d_P_endText_38 ?_
    refine zo_callVV (d := d) (N := m_S_endTransaction) (as := []) (n := 0) (zin (by decide) (by decide)) rfl rfl cv_S_endTransaction wd_355 rfl rfl (Nat.le_of_ble_eq_true rfl) d_P_endText_41 hf (fun g8 hf => ?_)
    refine zo_iload_n d_P_endText_44 rfl rfl ?_
    exact zo_iretI rfl d_P_endText_45 hf
theorem e_P_endText {d : Nat}   {h : ZH} {Q : Int32 → ZH → Prop}
    (hf : (((zi h 3 0 7) = 0 → EvI d m_O_isFull [vQ (some (5, 0))] h (fun y2 g1 => ((y2 = 0 → EvI d m_P_spoolSession [vQ (some (0, 0))] g1 (fun y4 g3 => EvV d m_S_endTransaction [vQ (some (3, 0))] g3 (fun g5 => Q y4 g5))) ∧ (¬ y2 = 0 → EvV d m_S_endTransaction [vQ (some (3, 0))] g1 (fun g6 => Q (452 : Int32) g6))))) ∧ (¬ (zi h 3 0 7) = 0 → EvV d m_S_endTransaction [vQ (some (3, 0))] h (fun g8 => Q (552 : Int32) g8)))) :
    EvI (d + 1) m_P_endText [vQ (some (0, 0))] h Q := zo_entry (by decide) (Nat.le_of_ble_eq_true rfl) (w_P_endText_0   hf)
set_option maxRecDepth 100000 in
set_option maxHeartbeats 4000000 in
theorem w_P_spoolSession_0 {d : Nat}   {h : ZH} {Q : Int32 → ZH → Prop}
    (hf : EvR 7 d m_O_begin [vQ (some (5, 0))] h (fun r2 g1 => ((r2 = none → Q (0 : Int32) g1) ∧ (∀ n3, r2 = some n3 → n3 < 6 → EvV d m_R_addRow [vQ (some (1, 7 + n3)), vQ (some (1, 1))] g1 (fun g4 => EvAt (d + 1) m_P_spoolSession 30 [some (vQ (some (0, 0))), some (vQ (some (7, n3))), some (vI (0 : Int32))] [] g4 (zQI Q)))))) :
    EvAt (d + 1) m_P_spoolSession 0 [some (vQ (some (0, 0))), none, none] [] h (zQI Q) := by
  refine zo_aload_n d_P_spoolSession_0 rfl rfl ?_
  refine gf_P_spool wd_266 d_P_spoolSession_1 ?_
  refine zo_callVR (d := d) (N := m_O_begin) (as := []) (n := 0) (zin (by decide) (by decide)) rfl rfl cv_O_begin wd_319 rfl rfl (Nat.le_of_ble_eq_true rfl) d_P_spoolSession_4 hf (fun r2 g1 ho_r2 hf => ?_)
  refine zo_astore_n d_P_spoolSession_7 rfl (Nat.le_of_ble_eq_true rfl) rfl ?_
  refine zo_aload_n d_P_spoolSession_8 rfl rfl ?_
  refine zo_ifnonnullK (tgt := 14) d_P_spoolSession_9 (by decide) (fun n3 z => ?_) (fun z => ?_)
  · subst z
    have hv_n3 : n3 < 6 := ho_r2 n3 rfl
    replace hf := hf.2 n3 rfl hv_n3
    refine zo_aload_n d_P_spoolSession_14 rfl rfl ?_
    refine gf_L_sender wd_194 hv_n3 d_P_spoolSession_15 ?_
    refine zo_aload_n d_P_spoolSession_18 rfl rfl ?_
    refine gf_P_session wd_265 d_P_spoolSession_19 ?_
    refine gf_S_sender wd_118 d_P_spoolSession_22 ?_
    refine zo_callVV (d := d) (N := m_R_addRow) (as := [vQ (some (1, 1))]) (n := 1) (zin (by decide) (show 7 + n3 < 43 by omega)) rfl rfl cv_R_addRow wd_336 rfl rfl (Nat.le_of_ble_eq_true rfl) d_P_spoolSession_25 hf (fun g4 hf => ?_)
    refine zo_iconst (v := 0) d_P_spoolSession_28 (by decide) ?_
    refine zo_istore_n d_P_spoolSession_29 rfl (Nat.le_of_ble_eq_true rfl) rfl ?_
    exact hf
  · subst z
    replace hf := hf.1 rfl
    refine zo_iconst (v := 0) d_P_spoolSession_12 (by decide) ?_
    exact zo_iretI rfl d_P_spoolSession_13 hf
theorem e_P_spoolSession {d : Nat}   {h : ZH} {Q : Int32 → ZH → Prop}
    (hf : EvR 7 d m_O_begin [vQ (some (5, 0))] h (fun r2 g1 => ((r2 = none → Q (0 : Int32) g1) ∧ (∀ n3, r2 = some n3 → n3 < 6 → EvV d m_R_addRow [vQ (some (1, 7 + n3)), vQ (some (1, 1))] g1 (fun g4 => EvAt (d + 1) m_P_spoolSession 30 [some (vQ (some (0, 0))), some (vQ (some (7, n3))), some (vI (0 : Int32))] [] g4 (zQI Q)))))) :
    EvI (d + 1) m_P_spoolSession [vQ (some (0, 0))] h Q := zo_entry (by decide) (Nat.le_of_ble_eq_true rfl) (w_P_spoolSession_0   hf)
set_option maxRecDepth 100000 in
set_option maxHeartbeats 4000000 in
theorem w_P_spoolSession_30 {d : Nat} (i1 : Nat) (x2 : Int32) (hi1 : i1 < 6) {h : ZH} {Q : Int32 → ZH → Prop}
    (hf : (((zi h 3 0 3) ≤ x2 → EvV d m_R_addRow [vQ (some (1, 13 + i1)), vQ (some (1, 6))] h (fun g1 => EvI d m_O_seal [vQ (some (5, 0)), vQ (some (7, i1))] g1 (fun y3 g2 => ((y3 = 0 → Q (0 : Int32) g2) ∧ (¬ y3 = 0 → Q (250 : Int32) g2))))) ∧ (¬ (zi h 3 0 3) ≤ x2 → (vp_in x2 4 ∧ EvV d m_L_address [vQ (some (7, i1)), vQ (some (1, 2 + x2.toNatClampNeg)), vI (zi h 0 0 4)] h (fun g6 => EvAt (d + 1) m_P_spoolSession 30 [some (vQ (some (0, 0))), some (vQ (some (7, i1))), some (vI (x2 + 1))] [] g6 (zQI Q)))))) :
    EvAt (d + 1) m_P_spoolSession 30 [some (vQ (some (0, 0))), some (vQ (some (7, i1))), some (vI x2)] [] h (zQI Q) := by
  refine zo_iload_n d_P_spoolSession_30 rfl rfl ?_
  refine zo_aload_n d_P_spoolSession_31 rfl rfl ?_
  refine gf_P_session wd_265 d_P_spoolSession_32 ?_
  refine gf_S_recipientCount wd_124 d_P_spoolSession_35 ?_
  refine zo_icmp_ge (tgt := 64) d_P_spoolSession_38 (by decide) (fun c7 => ?_) (fun c7 => ?_)
  · replace hf := hf.1 c7
    refine zo_aload_n d_P_spoolSession_64 rfl rfl ?_
    refine gf_L_text wd_198 hi1 d_P_spoolSession_65 ?_
    refine zo_aload_n d_P_spoolSession_68 rfl rfl ?_
    refine gf_P_session wd_265 d_P_spoolSession_69 ?_
    refine gf_S_text wd_122 d_P_spoolSession_72 ?_
    refine zo_callVV (d := d) (N := m_R_addRow) (as := [vQ (some (1, 6))]) (n := 1) (zin (by decide) (show 13 + i1 < 43 by omega)) rfl rfl cv_R_addRow wd_336 rfl rfl (Nat.le_of_ble_eq_true rfl) d_P_spoolSession_75 hf (fun g1 hf => ?_)
    refine zo_aload_n d_P_spoolSession_78 rfl rfl ?_
    refine gf_P_spool wd_266 d_P_spoolSession_79 ?_
    refine zo_aload_n d_P_spoolSession_82 rfl rfl ?_
    refine zo_callVI (d := d) (N := m_O_seal) (as := [vQ (some (7, i1))]) (n := 1) (zin (by decide) (by decide)) rfl rfl cv_O_seal wd_351 rfl rfl (Nat.le_of_ble_eq_true rfl) d_P_spoolSession_83 hf (fun y3 g2 hf => ?_)
    refine zo_if_eq (tgt := 95) d_P_spoolSession_86 (by decide) (fun c4 => ?_) (fun c4 => ?_)
    · replace hf := hf.1 c4
      refine zo_iconst (v := 0) d_P_spoolSession_95 (by decide) ?_
      exact zo_iretI rfl d_P_spoolSession_96 hf
    · replace hf := hf.2 c4
      refine zo_sipush (v := 250) d_P_spoolSession_89 (by decide) ?_
      refine zo_goto (tgt := 96) d_P_spoolSession_92 (by decide) ?_
      exact zo_iretI rfl d_P_spoolSession_96 hf
  · replace hf := hf.2 c7
    refine zo_aload_n d_P_spoolSession_41 rfl rfl ?_
    refine zo_aload_n d_P_spoolSession_42 rfl rfl ?_
    refine gf_P_session wd_265 d_P_spoolSession_43 ?_
    refine gf_S_recipients wd_120 d_P_spoolSession_46 ?_
    refine zo_iload_n d_P_spoolSession_49 rfl rfl ?_
    obtain ⟨hp5, hf⟩ := hf
    refine zo_aald1 (C := "SpooledPost$Row") (zin (by decide) (by decide)) rfl rfl rfl hp5 d_P_spoolSession_50 ?_
    refine zo_aload_n d_P_spoolSession_51 rfl rfl ?_
    refine gf_P_now wd_268 d_P_spoolSession_52 ?_
    refine zo_callVV (d := d) (N := m_L_address) (as := [vQ (some (1, 2 + x2.toNatClampNeg)), vI (zi h 0 0 4)]) (n := 2) (zin (by decide) hi1) rfl rfl cv_L_address wd_346 rfl rfl (Nat.le_of_ble_eq_true rfl) d_P_spoolSession_55 hf (fun g6 hf => ?_)
    refine zo_iinc (v := x2 + 1) d_P_spoolSession_58 rfl rfl (Nat.le_of_ble_eq_true rfl) rfl ?_
    refine zo_goto (tgt := 30) d_P_spoolSession_61 (by decide) ?_
    exact hf
set_option maxRecDepth 100000 in
set_option maxHeartbeats 4000000 in
theorem w_P_obey_0 {d : Nat}   {h : ZH} {Q : Int32 → ZH → Prop}
    (hf : EvR 20 d m_P_commandOfLine [vQ (some (0, 0))] h (fun r2 g1 => ((r2 = none → Q (500 : Int32) g1) ∧ (∀ n3, r2 = some n3 → n3 < 8 → EvI d m_P_isWrittenRight [vQ (some (0, 0)), vQ (some (20, n3))] g1 (fun y5 g4 => ((¬ y5 = 0 → (vp_in (nI n3) 8 ∧ (((zSw.getD (nI n3).toNatClampNeg 0) = 1 → EvI d m_P_greet [vQ (some (0, 0))] g4 (fun y7 g6 => Q y7 g6)) ∧ ((zSw.getD (nI n3).toNatClampNeg 0) = 2 → EvI d m_P_greet [vQ (some (0, 0))] g4 (fun y9 g8 => Q y9 g8)) ∧ ((zSw.getD (nI n3).toNatClampNeg 0) = 3 → EvI d m_P_beginTransaction [vQ (some (0, 0))] g4 (fun y11 g10 => Q y11 g10)) ∧ ((zSw.getD (nI n3).toNatClampNeg 0) = 4 → EvI d m_P_addRecipient [vQ (some (0, 0))] g4 (fun y13 g12 => Q y13 g12)) ∧ ((zSw.getD (nI n3).toNatClampNeg 0) = 5 → EvI d m_P_beginText [vQ (some (0, 0))] g4 (fun y15 g14 => Q y15 g14)) ∧ ((zSw.getD (nI n3).toNatClampNeg 0) = 6 → EvV d m_S_endTransaction [vQ (some (3, 0))] g4 (fun g16 => Q (250 : Int32) g16)) ∧ ((zSw.getD (nI n3).toNatClampNeg 0) = 7 → EvV d m_S_forget [vQ (some (3, 0))] g4 (fun g17 => Q (221 : Int32) g17)) ∧ ((¬ (zSw.getD (nI n3).toNatClampNeg 0) = 1 ∧ ¬ (zSw.getD (nI n3).toNatClampNeg 0) = 2 ∧ ¬ (zSw.getD (nI n3).toNatClampNeg 0) = 3 ∧ ¬ (zSw.getD (nI n3).toNatClampNeg 0) = 4 ∧ ¬ (zSw.getD (nI n3).toNatClampNeg 0) = 5 ∧ ¬ (zSw.getD (nI n3).toNatClampNeg 0) = 6 ∧ ¬ (zSw.getD (nI n3).toNatClampNeg 0) = 7) → Q (250 : Int32) g4)))) ∧ (y5 = 0 → Q (501 : Int32) g4))))))) :
    EvAt (d + 1) m_P_obey 0 [some (vQ (some (0, 0))), none] [] h (zQI Q) := by
  refine zo_aload_n d_P_obey_0 rfl rfl ?_
  refine zo_callVR (d := d) (N := m_P_commandOfLine) (as := []) (n := 0) (zin (by decide) (by decide)) rfl rfl cv_P_commandOfLine wd_374 rfl rfl (Nat.le_of_ble_eq_true rfl) d_P_obey_1 hf (fun r2 g1 ho_r2 hf => ?_)
  refine zo_astore_n d_P_obey_4 rfl (Nat.le_of_ble_eq_true rfl) rfl ?_
  refine zo_aload_n d_P_obey_5 rfl rfl ?_
  refine zo_ifnonnullK (tgt := 13) d_P_obey_6 (by decide) (fun n3 z => ?_) (fun z => ?_)
  · subst z
    have hv_n3 : n3 < 8 := ho_r2 n3 rfl
    replace hf := hf.2 n3 rfl hv_n3
    refine zo_aload_n d_P_obey_13 rfl rfl ?_
    refine zo_aload_n d_P_obey_14 rfl rfl ?_
    refine zo_callVI (d := d) (N := m_P_isWrittenRight) (as := [vQ (some (20, n3))]) (n := 1) (zin (by decide) (by decide)) rfl rfl cv_P_isWrittenRight wd_435 rfl rfl (Nat.le_of_ble_eq_true rfl) d_P_obey_15 hf (fun y5 g4 hf => ?_)
    refine zo_if_ne (tgt := 25) d_P_obey_18 (by decide) (fun c18 => ?_) (fun c18 => ?_)
    · replace hf := hf.1 c18
      refine zc_SW wd_439 d_P_obey_25 ?_
      refine zo_aload_n d_P_obey_28 rfl rfl ?_
      refine zc_ord wd_441 hv_n3 d_P_obey_29 (Nat.le_of_ble_eq_true rfl) ?_
      obtain ⟨hp, hf⟩ := hf
      refine zc_swald hp d_P_obey_32 ?_
      refine zo_table (td := 118) d_P_obey_33 (by decide) (fun i => [76, 76, 81, 86, 91, 96, 107].getD i 0) (by decide) (fun hc => ?_) (fun i hi hx => ?_)
      · replace hf := hf.2.2.2.2.2.2.2 (by refine ⟨?_, ?_, ?_, ?_, ?_, ?_, ?_⟩ <;> (intro z; rw [z] at hc; revert hc; decide))
        refine zo_sipush (v := 250) d_P_obey_118 (by decide) ?_
        exact zo_iretI rfl d_P_obey_121 hf
      · have hx2 : (zSw.getD (nI n3).toNatClampNeg 0) = Int32.ofInt (1 + (i : Int)) := by rw [← hx]; exact (Int32.ofInt_toInt _).symm
        match i, hi, hx2 with
        | 0, _, hx2 =>
          replace hf := hf.1 (by rw [hx2]; decide)
          refine zo_aload_n d_P_obey_76 rfl rfl ?_
          refine zo_callVI (d := d) (N := m_P_greet) (as := []) (n := 0) (zin (by decide) (by decide)) rfl rfl cv_P_greet wd_479 rfl rfl (Nat.le_of_ble_eq_true rfl) d_P_obey_77 hf (fun y7 g6 hf => ?_)
          exact zo_iretI rfl d_P_obey_80 hf
        | 1, _, hx2 =>
          replace hf := hf.2.1 (by rw [hx2]; decide)
          refine zo_aload_n d_P_obey_76 rfl rfl ?_
          refine zo_callVI (d := d) (N := m_P_greet) (as := []) (n := 0) (zin (by decide) (by decide)) rfl rfl cv_P_greet wd_479 rfl rfl (Nat.le_of_ble_eq_true rfl) d_P_obey_77 hf (fun y9 g8 hf => ?_)
          exact zo_iretI rfl d_P_obey_80 hf
        | 2, _, hx2 =>
          replace hf := hf.2.2.1 (by rw [hx2]; decide)
          refine zo_aload_n d_P_obey_81 rfl rfl ?_
          refine zo_callVI (d := d) (N := m_P_beginTransaction) (as := []) (n := 0) (zin (by decide) (by decide)) rfl rfl cv_P_beginTransaction wd_483 rfl rfl (Nat.le_of_ble_eq_true rfl) d_P_obey_82 hf (fun y11 g10 hf => ?_)
          exact zo_iretI rfl d_P_obey_85 hf
        | 3, _, hx2 =>
          replace hf := hf.2.2.2.1 (by rw [hx2]; decide)
          refine zo_aload_n d_P_obey_86 rfl rfl ?_
          refine zo_callVI (d := d) (N := m_P_addRecipient) (as := []) (n := 0) (zin (by decide) (by decide)) rfl rfl cv_P_addRecipient wd_489 rfl rfl (Nat.le_of_ble_eq_true rfl) d_P_obey_87 hf (fun y13 g12 hf => ?_)
          exact zo_iretI rfl d_P_obey_90 hf
        | 4, _, hx2 =>
          replace hf := hf.2.2.2.2.1 (by rw [hx2]; decide)
          refine zo_aload_n d_P_obey_91 rfl rfl ?_
          refine zo_callVI (d := d) (N := m_P_beginText) (as := []) (n := 0) (zin (by decide) (by decide)) rfl rfl cv_P_beginText wd_493 rfl rfl (Nat.le_of_ble_eq_true rfl) d_P_obey_92 hf (fun y15 g14 hf => ?_)
          exact zo_iretI rfl d_P_obey_95 hf
        | 5, _, hx2 =>
          replace hf := hf.2.2.2.2.2.1 (by rw [hx2]; decide)
          refine zo_aload_n d_P_obey_96 rfl rfl ?_
          refine gf_P_session wd_265 d_P_obey_97 ?_
          refine zo_callVV (d := d) (N := m_S_endTransaction) (as := []) (n := 0) (zin (by decide) (by decide)) rfl rfl cv_S_endTransaction wd_355 rfl rfl (Nat.le_of_ble_eq_true rfl) d_P_obey_100 hf (fun g16 hf => ?_)
          refine zo_sipush (v := 250) d_P_obey_103 (by decide) ?_
          exact zo_iretI rfl d_P_obey_106 hf
        | 6, _, hx2 =>
          replace hf := hf.2.2.2.2.2.2.1 (by rw [hx2]; decide)
          refine zo_aload_n d_P_obey_107 rfl rfl ?_
          refine gf_P_session wd_265 d_P_obey_108 ?_
          refine zo_callVV (d := d) (N := m_S_forget) (as := []) (n := 0) (zin (by decide) (by decide)) rfl rfl cv_S_forget wd_497 rfl rfl (Nat.le_of_ble_eq_true rfl) d_P_obey_111 hf (fun g17 hf => ?_)
          refine zo_sipush (v := 221) d_P_obey_114 (by decide) ?_
          exact zo_iretI rfl d_P_obey_117 hf
    · replace hf := hf.2 c18
      refine zo_sipush (v := 501) d_P_obey_21 (by decide) ?_
      exact zo_iretI rfl d_P_obey_24 hf
  · subst z
    replace hf := hf.1 rfl
    refine zo_sipush (v := 500) d_P_obey_9 (by decide) ?_
    exact zo_iretI rfl d_P_obey_12 hf
theorem e_P_obey {d : Nat}   {h : ZH} {Q : Int32 → ZH → Prop}
    (hf : EvR 20 d m_P_commandOfLine [vQ (some (0, 0))] h (fun r2 g1 => ((r2 = none → Q (500 : Int32) g1) ∧ (∀ n3, r2 = some n3 → n3 < 8 → EvI d m_P_isWrittenRight [vQ (some (0, 0)), vQ (some (20, n3))] g1 (fun y5 g4 => ((¬ y5 = 0 → (vp_in (nI n3) 8 ∧ (((zSw.getD (nI n3).toNatClampNeg 0) = 1 → EvI d m_P_greet [vQ (some (0, 0))] g4 (fun y7 g6 => Q y7 g6)) ∧ ((zSw.getD (nI n3).toNatClampNeg 0) = 2 → EvI d m_P_greet [vQ (some (0, 0))] g4 (fun y9 g8 => Q y9 g8)) ∧ ((zSw.getD (nI n3).toNatClampNeg 0) = 3 → EvI d m_P_beginTransaction [vQ (some (0, 0))] g4 (fun y11 g10 => Q y11 g10)) ∧ ((zSw.getD (nI n3).toNatClampNeg 0) = 4 → EvI d m_P_addRecipient [vQ (some (0, 0))] g4 (fun y13 g12 => Q y13 g12)) ∧ ((zSw.getD (nI n3).toNatClampNeg 0) = 5 → EvI d m_P_beginText [vQ (some (0, 0))] g4 (fun y15 g14 => Q y15 g14)) ∧ ((zSw.getD (nI n3).toNatClampNeg 0) = 6 → EvV d m_S_endTransaction [vQ (some (3, 0))] g4 (fun g16 => Q (250 : Int32) g16)) ∧ ((zSw.getD (nI n3).toNatClampNeg 0) = 7 → EvV d m_S_forget [vQ (some (3, 0))] g4 (fun g17 => Q (221 : Int32) g17)) ∧ ((¬ (zSw.getD (nI n3).toNatClampNeg 0) = 1 ∧ ¬ (zSw.getD (nI n3).toNatClampNeg 0) = 2 ∧ ¬ (zSw.getD (nI n3).toNatClampNeg 0) = 3 ∧ ¬ (zSw.getD (nI n3).toNatClampNeg 0) = 4 ∧ ¬ (zSw.getD (nI n3).toNatClampNeg 0) = 5 ∧ ¬ (zSw.getD (nI n3).toNatClampNeg 0) = 6 ∧ ¬ (zSw.getD (nI n3).toNatClampNeg 0) = 7) → Q (250 : Int32) g4)))) ∧ (y5 = 0 → Q (501 : Int32) g4))))))) :
    EvI (d + 1) m_P_obey [vQ (some (0, 0))] h Q := zo_entry (by decide) (Nat.le_of_ble_eq_true rfl) (w_P_obey_0   hf)
set_option maxRecDepth 100000 in
set_option maxHeartbeats 4000000 in
theorem w_P_commandOfLine_0 {d : Nat}   {h : ZH} {Q : Option Nat → ZH → Prop}
    (hf : (((zi h 1 0 1) ≤ (4 : Int32) → EvAt (d + 1) m_P_commandOfLine 26 [some (vQ (some (0, 0))), none] [] h (zQR 20 Q)) ∧ (¬ (zi h 1 0 1) ≤ (4 : Int32) → EvI d m_R_at [vQ (some (1, 0)), vI (4 : Int32)] h (fun y2 g1 => ((y2 = (32 : Int32) → EvAt (d + 1) m_P_commandOfLine 26 [some (vQ (some (0, 0))), none] [] g1 (zQR 20 Q)) ∧ (¬ y2 = (32 : Int32) → Q none g1)))))) :
    EvAt (d + 1) m_P_commandOfLine 0 [some (vQ (some (0, 0))), none] [] h (zQR 20 Q) := by
  refine zo_aload_n d_P_commandOfLine_0 rfl rfl ?_
  refine gf_P_line wd_264 d_P_commandOfLine_1 ?_
  refine gf_R_length wd_99 (by decide) d_P_commandOfLine_4 ?_
  refine zo_iconst (v := 4) d_P_commandOfLine_7 (by decide) ?_
  refine zo_icmp_le (tgt := 26) d_P_commandOfLine_8 (by decide) (fun c4 => ?_) (fun c4 => ?_)
  · replace hf := hf.1 c4
    exact hf
  · replace hf := hf.2 c4
    refine zo_aload_n d_P_commandOfLine_11 rfl rfl ?_
    refine gf_P_line wd_264 d_P_commandOfLine_12 ?_
    refine zo_iconst (v := 4) d_P_commandOfLine_15 (by decide) ?_
    refine zo_callVI (d := d) (N := m_R_at) (as := [vI (4 : Int32)]) (n := 1) (zin (by decide) (by decide)) rfl rfl cv_R_at wd_303 rfl rfl (Nat.le_of_ble_eq_true rfl) d_P_commandOfLine_16 hf (fun y2 g1 hf => ?_)
    refine zo_bipush (v := 32) d_P_commandOfLine_19 (by decide) ?_
    refine zo_icmp_eq (tgt := 26) d_P_commandOfLine_21 (by decide) (fun c3 => ?_) (fun c3 => ?_)
    · replace hf := hf.1 c3
      exact hf
    · replace hf := hf.2 c3
      refine zo_null d_P_commandOfLine_24 ?_
      exact zo_aretO (k := 20) (o := none) (C := "SpooledPost$Command") rfl (fun _ z => by cases z) d_P_commandOfLine_25 hf
theorem e_P_commandOfLine {d : Nat}   {h : ZH} {Q : Option Nat → ZH → Prop}
    (hf : (((zi h 1 0 1) ≤ (4 : Int32) → EvAt (d + 1) m_P_commandOfLine 26 [some (vQ (some (0, 0))), none] [] h (zQR 20 Q)) ∧ (¬ (zi h 1 0 1) ≤ (4 : Int32) → EvI d m_R_at [vQ (some (1, 0)), vI (4 : Int32)] h (fun y2 g1 => ((y2 = (32 : Int32) → EvAt (d + 1) m_P_commandOfLine 26 [some (vQ (some (0, 0))), none] [] g1 (zQR 20 Q)) ∧ (¬ y2 = (32 : Int32) → Q none g1)))))) :
    EvR 20 (d + 1) m_P_commandOfLine [vQ (some (0, 0))] h Q := zo_entry (by decide) (Nat.le_of_ble_eq_true rfl) (w_P_commandOfLine_0   hf)
set_option maxRecDepth 100000 in
set_option maxHeartbeats 4000000 in
theorem w_P_commandOfLine_26 {d : Nat}   {h : ZH} {Q : Option Nat → ZH → Prop}
    (hf : EvAt (d + 1) m_P_commandOfLine 28 [some (vQ (some (0, 0))), some (vI (0 : Int32))] [] h (zQR 20 Q)) :
    EvAt (d + 1) m_P_commandOfLine 26 [some (vQ (some (0, 0))), none] [] h (zQR 20 Q) := by
  refine zo_iconst (v := 0) d_P_commandOfLine_26 (by decide) ?_
  refine zo_istore_n d_P_commandOfLine_27 rfl (Nat.le_of_ble_eq_true rfl) rfl ?_
  exact hf
set_option maxRecDepth 100000 in
set_option maxHeartbeats 4000000 in
theorem w_P_commandOfLine_28 {d : Nat} (x1 : Int32)  {h : ZH} {Q : Option Nat → ZH → Prop}
    (hf : (((8 : Int32) ≤ x1 → Q none h) ∧ (¬ (8 : Int32) ≤ x1 → (vp_in x1 8 ∧ EvI d m_R_matches [vQ (some (1, 0)), vI (0 : Int32), vQ (some (22, x1.toNatClampNeg))] h (fun y3 g2 => ((y3 = 0 → EvAt (d + 1) m_P_commandOfLine 28 [some (vQ (some (0, 0))), some (vI (x1 + 1))] [] g2 (zQR 20 Q)) ∧ (¬ y3 = 0 → (vp_in x1 8 ∧ Q (some (x1.toNatClampNeg)) g2)))))))) :
    EvAt (d + 1) m_P_commandOfLine 28 [some (vQ (some (0, 0))), some (vI x1)] [] h (zQR 20 Q) := by
  refine zo_iload_n d_P_commandOfLine_28 rfl rfl ?_
  refine zc_COMMANDS wd_378 d_P_commandOfLine_29 ?_
  refine zc_clen d_P_commandOfLine_32 ?_
  refine zo_icmp_ge (tgt := 67) d_P_commandOfLine_33 (by decide) (fun c6 => ?_) (fun c6 => ?_)
  · replace hf := hf.1 c6
    refine zo_null d_P_commandOfLine_67 ?_
    exact zo_aretO (k := 20) (o := none) (C := "SpooledPost$Command") rfl (fun _ z => by cases z) d_P_commandOfLine_68 hf
  · replace hf := hf.2 c6
    refine zo_aload_n d_P_commandOfLine_36 rfl rfl ?_
    refine gf_P_line wd_264 d_P_commandOfLine_37 ?_
    refine zo_iconst (v := 0) d_P_commandOfLine_40 (by decide) ?_
    refine zc_COMMANDS wd_378 d_P_commandOfLine_41 ?_
    refine zo_iload_n d_P_commandOfLine_44 rfl rfl ?_
    obtain ⟨hp1, hf⟩ := hf
    refine zc_cald hp1 d_P_commandOfLine_45 ?_
    refine zc_word wd_1029 (zin8 hp1) d_P_commandOfLine_46 ?_
    refine zo_callVI (d := d) (N := m_R_matches) (as := [vI (0 : Int32), vQ (some (22, x1.toNatClampNeg))]) (n := 2) (zin (by decide) (by decide)) rfl rfl cv_R_matches wd_380 rfl rfl (Nat.le_of_ble_eq_true rfl) d_P_commandOfLine_49 hf (fun y3 g2 hf => ?_)
    refine zo_if_eq (tgt := 61) d_P_commandOfLine_52 (by decide) (fun c5 => ?_) (fun c5 => ?_)
    · replace hf := hf.1 c5
      refine zo_iinc (v := x1 + 1) d_P_commandOfLine_61 rfl rfl (Nat.le_of_ble_eq_true rfl) rfl ?_
      refine zo_goto (tgt := 28) d_P_commandOfLine_64 (by decide) ?_
      exact hf
    · replace hf := hf.2 c5
      refine zc_COMMANDS wd_378 d_P_commandOfLine_55 ?_
      refine zo_iload_n d_P_commandOfLine_58 rfl rfl ?_
      obtain ⟨hp4, hf⟩ := hf
      refine zc_cald hp4 d_P_commandOfLine_59 ?_
      exact zo_aretO (k := 20) (o := some (x1.toNatClampNeg)) (C := "SpooledPost$Command") rfl (fun _ z => by cases z; exact (zin8 hp4)) d_P_commandOfLine_60 hf
set_option maxRecDepth 100000 in
set_option maxHeartbeats 4000000 in
theorem w_P_isWrittenRight_0 {d : Nat} (i1 : Nat) (hi1 : i1 < 8) {h : ZH} {Q : Int32 → ZH → Prop}
    (hf : (vp_in (nI i1) 8 ∧ (((zSw.getD (nI i1).toNatClampNeg 0) = 1 → EvI d m_G_isDomain [vQ (some (1, 0)), vI (5 : Int32), vI (zi h 1 0 1)] h (fun y2 g1 => (narrow .boolean (.int y2) = .int y2 ∧ Q y2 g1))) ∧ ((zSw.getD (nI i1).toNatClampNeg 0) = 2 → EvI d m_G_isDomain [vQ (some (1, 0)), vI (5 : Int32), vI (zi h 1 0 1)] h (fun y4 g3 => (narrow .boolean (.int y4) = .int y4 ∧ Q y4 g3))) ∧ ((zSw.getD (nI i1).toNatClampNeg 0) = 3 → EvI d m_P_isBracketed [vQ (some (0, 0)), vQ (some (22, 8))] h (fun y6 g5 => ((y6 = 0 → Q (0 : Int32) g5) ∧ (¬ y6 = 0 → EvI d m_P_isBracketEmpty [vQ (some (0, 0)), vQ (some (22, 8))] g5 (fun y8 g7 => ((¬ y8 = 0 → Q (1 : Int32) g7) ∧ (y8 = 0 → EvI d m_P_isPathIn [vQ (some (0, 0)), vQ (some (22, 8))] g7 (fun y10 g9 => ((y10 = 0 → Q (0 : Int32) g9) ∧ (¬ y10 = 0 → Q (1 : Int32) g9)))))))))) ∧ ((zSw.getD (nI i1).toNatClampNeg 0) = 4 → EvI d m_P_isBracketed [vQ (some (0, 0)), vQ (some (22, 9))] h (fun y15 g14 => ((y15 = 0 → Q (0 : Int32) g14) ∧ (¬ y15 = 0 → EvI d m_P_isPathIn [vQ (some (0, 0)), vQ (some (22, 9))] g14 (fun y17 g16 => ((y17 = 0 → Q (0 : Int32) g16) ∧ (¬ y17 = 0 → Q (1 : Int32) g16))))))) ∧ ((¬ (zSw.getD (nI i1).toNatClampNeg 0) = 1 ∧ ¬ (zSw.getD (nI i1).toNatClampNeg 0) = 2 ∧ ¬ (zSw.getD (nI i1).toNatClampNeg 0) = 3 ∧ ¬ (zSw.getD (nI i1).toNatClampNeg 0) = 4) → ((¬ (zi h 1 0 1) = (4 : Int32) → Q (0 : Int32) h) ∧ ((zi h 1 0 1) = (4 : Int32) → Q (1 : Int32) h)))))) :
    EvAt (d + 1) m_P_isWrittenRight 0 [some (vQ (some (0, 0))), some (vQ (some (20, i1)))] [] h (zQI Q) := by
  refine zc_SW wd_439 d_P_isWrittenRight_0 ?_
  refine zo_aload_n d_P_isWrittenRight_3 rfl rfl ?_
  refine zc_ord wd_441 hi1 d_P_isWrittenRight_4 (Nat.le_of_ble_eq_true rfl) ?_
  obtain ⟨hp, hf⟩ := hf
  refine zc_swald hp d_P_isWrittenRight_7 ?_
  refine zo_table (td := 113) d_P_isWrittenRight_8 (by decide) (fun i => [40, 40, 56, 89].getD i 0) (by decide) (fun hc => ?_) (fun i hi hx => ?_)
  · replace hf := hf.2.2.2.2 (by refine ⟨?_, ?_, ?_, ?_⟩ <;> (intro z; rw [z] at hc; revert hc; decide))
    refine zo_aload_n d_P_isWrittenRight_113 rfl rfl ?_
    refine gf_P_line wd_264 d_P_isWrittenRight_114 ?_
    refine gf_R_length wd_99 (by decide) d_P_isWrittenRight_117 ?_
    refine zo_iconst (v := 4) d_P_isWrittenRight_120 (by decide) ?_
    refine zo_icmp_ne (tgt := 128) d_P_isWrittenRight_121 (by decide) (fun c20 => ?_) (fun c20 => ?_)
    · replace hf := hf.1 c20
      refine zo_iconst (v := 0) d_P_isWrittenRight_128 (by decide) ?_
      exact zo_zretI (ty := .boolean) rfl rfl d_P_isWrittenRight_129 hf
    · replace hf := hf.2 c20
      refine zo_iconst (v := 1) d_P_isWrittenRight_124 (by decide) ?_
      refine zo_goto (tgt := 129) d_P_isWrittenRight_125 (by decide) ?_
      exact zo_zretI (ty := .boolean) rfl rfl d_P_isWrittenRight_129 hf
  · have hx2 : (zSw.getD (nI i1).toNatClampNeg 0) = Int32.ofInt (1 + (i : Int)) := by rw [← hx]; exact (Int32.ofInt_toInt _).symm
    match i, hi, hx2 with
    | 0, _, hx2 =>
      replace hf := hf.1 (by rw [hx2]; decide)
      refine zo_aload_n d_P_isWrittenRight_40 rfl rfl ?_
      refine gf_P_line wd_264 d_P_isWrittenRight_41 ?_
      refine zo_iconst (v := 5) d_P_isWrittenRight_44 (by decide) ?_
      refine zo_aload_n d_P_isWrittenRight_45 rfl rfl ?_
      refine gf_P_line wd_264 d_P_isWrittenRight_46 ?_
      refine gf_R_length wd_99 (by decide) d_P_isWrittenRight_49 ?_
      refine zo_callSI (d := d) (N := m_G_isDomain) (as := [vQ (some (1, 0)), vI (5 : Int32), vI (zi h 1 0 1)]) (n := 3) cs_G_isDomain wd_447 rfl rfl (Nat.le_of_ble_eq_true rfl) d_P_isWrittenRight_52 hf (fun y2 g1 hf => ?_)
      exact zo_zretI (ty := .boolean) rfl hf.1 d_P_isWrittenRight_55 hf.2
    | 1, _, hx2 =>
      replace hf := hf.2.1 (by rw [hx2]; decide)
      refine zo_aload_n d_P_isWrittenRight_40 rfl rfl ?_
      refine gf_P_line wd_264 d_P_isWrittenRight_41 ?_
      refine zo_iconst (v := 5) d_P_isWrittenRight_44 (by decide) ?_
      refine zo_aload_n d_P_isWrittenRight_45 rfl rfl ?_
      refine gf_P_line wd_264 d_P_isWrittenRight_46 ?_
      refine gf_R_length wd_99 (by decide) d_P_isWrittenRight_49 ?_
      refine zo_callSI (d := d) (N := m_G_isDomain) (as := [vQ (some (1, 0)), vI (5 : Int32), vI (zi h 1 0 1)]) (n := 3) cs_G_isDomain wd_447 rfl rfl (Nat.le_of_ble_eq_true rfl) d_P_isWrittenRight_52 hf (fun y4 g3 hf => ?_)
      exact zo_zretI (ty := .boolean) rfl hf.1 d_P_isWrittenRight_55 hf.2
    | 2, _, hx2 =>
      replace hf := hf.2.2.1 (by rw [hx2]; decide)
      refine zo_aload_n d_P_isWrittenRight_56 rfl rfl ?_
      refine zc_ldc8 rfl d_P_isWrittenRight_57 ?_
      refine zo_callVI (d := d) (N := m_P_isBracketed) (as := [vQ (some (22, 8))]) (n := 1) (zin (by decide) (by decide)) rfl rfl cv_P_isBracketed wd_455 rfl rfl (Nat.le_of_ble_eq_true rfl) d_P_isWrittenRight_59 hf (fun y6 g5 hf => ?_)
      refine zo_if_eq (tgt := 87) d_P_isWrittenRight_62 (by decide) (fun c13 => ?_) (fun c13 => ?_)
      · replace hf := hf.1 c13
        refine zo_iconst (v := 0) d_P_isWrittenRight_87 (by decide) ?_
        exact zo_zretI (ty := .boolean) rfl rfl d_P_isWrittenRight_88 hf
      · replace hf := hf.2 c13
        refine zo_aload_n d_P_isWrittenRight_65 rfl rfl ?_
        refine zc_ldc8 rfl d_P_isWrittenRight_66 ?_
        refine zo_callVI (d := d) (N := m_P_isBracketEmpty) (as := [vQ (some (22, 8))]) (n := 1) (zin (by decide) (by decide)) rfl rfl cv_P_isBracketEmpty wd_459 rfl rfl (Nat.le_of_ble_eq_true rfl) d_P_isWrittenRight_68 hf (fun y8 g7 hf => ?_)
        refine zo_if_ne (tgt := 83) d_P_isWrittenRight_71 (by decide) (fun c12 => ?_) (fun c12 => ?_)
        · replace hf := hf.1 c12
          refine zo_iconst (v := 1) d_P_isWrittenRight_83 (by decide) ?_
          refine zo_goto (tgt := 88) d_P_isWrittenRight_84 (by decide) ?_
          exact zo_zretI (ty := .boolean) rfl rfl d_P_isWrittenRight_88 hf
        · replace hf := hf.2 c12
          refine zo_aload_n d_P_isWrittenRight_74 rfl rfl ?_
          refine zc_ldc8 rfl d_P_isWrittenRight_75 ?_
          refine zo_callVI (d := d) (N := m_P_isPathIn) (as := [vQ (some (22, 8))]) (n := 1) (zin (by decide) (by decide)) rfl rfl cv_P_isPathIn wd_467 rfl rfl (Nat.le_of_ble_eq_true rfl) d_P_isWrittenRight_77 hf (fun y10 g9 hf => ?_)
          refine zo_if_eq (tgt := 87) d_P_isWrittenRight_80 (by decide) (fun c11 => ?_) (fun c11 => ?_)
          · replace hf := hf.1 c11
            refine zo_iconst (v := 0) d_P_isWrittenRight_87 (by decide) ?_
            exact zo_zretI (ty := .boolean) rfl rfl d_P_isWrittenRight_88 hf
          · replace hf := hf.2 c11
            refine zo_iconst (v := 1) d_P_isWrittenRight_83 (by decide) ?_
            refine zo_goto (tgt := 88) d_P_isWrittenRight_84 (by decide) ?_
            exact zo_zretI (ty := .boolean) rfl rfl d_P_isWrittenRight_88 hf
    | 3, _, hx2 =>
      replace hf := hf.2.2.2.1 (by rw [hx2]; decide)
      refine zo_aload_n d_P_isWrittenRight_89 rfl rfl ?_
      refine zc_ldc9 rfl d_P_isWrittenRight_90 ?_
      refine zo_callVI (d := d) (N := m_P_isBracketed) (as := [vQ (some (22, 9))]) (n := 1) (zin (by decide) (by decide)) rfl rfl cv_P_isBracketed wd_455 rfl rfl (Nat.le_of_ble_eq_true rfl) d_P_isWrittenRight_92 hf (fun y15 g14 hf => ?_)
      refine zo_if_eq (tgt := 111) d_P_isWrittenRight_95 (by decide) (fun c19 => ?_) (fun c19 => ?_)
      · replace hf := hf.1 c19
        refine zo_iconst (v := 0) d_P_isWrittenRight_111 (by decide) ?_
        exact zo_zretI (ty := .boolean) rfl rfl d_P_isWrittenRight_112 hf
      · replace hf := hf.2 c19
        refine zo_aload_n d_P_isWrittenRight_98 rfl rfl ?_
        refine zc_ldc9 rfl d_P_isWrittenRight_99 ?_
        refine zo_callVI (d := d) (N := m_P_isPathIn) (as := [vQ (some (22, 9))]) (n := 1) (zin (by decide) (by decide)) rfl rfl cv_P_isPathIn wd_467 rfl rfl (Nat.le_of_ble_eq_true rfl) d_P_isWrittenRight_101 hf (fun y17 g16 hf => ?_)
        refine zo_if_eq (tgt := 111) d_P_isWrittenRight_104 (by decide) (fun c18 => ?_) (fun c18 => ?_)
        · replace hf := hf.1 c18
          refine zo_iconst (v := 0) d_P_isWrittenRight_111 (by decide) ?_
          exact zo_zretI (ty := .boolean) rfl rfl d_P_isWrittenRight_112 hf
        · replace hf := hf.2 c18
          refine zo_iconst (v := 1) d_P_isWrittenRight_107 (by decide) ?_
          refine zo_goto (tgt := 112) d_P_isWrittenRight_108 (by decide) ?_
          exact zo_zretI (ty := .boolean) rfl rfl d_P_isWrittenRight_112 hf
theorem e_P_isWrittenRight {d : Nat} (i1 : Nat) (hi1 : i1 < 8) {h : ZH} {Q : Int32 → ZH → Prop}
    (hf : (vp_in (nI i1) 8 ∧ (((zSw.getD (nI i1).toNatClampNeg 0) = 1 → EvI d m_G_isDomain [vQ (some (1, 0)), vI (5 : Int32), vI (zi h 1 0 1)] h (fun y2 g1 => (narrow .boolean (.int y2) = .int y2 ∧ Q y2 g1))) ∧ ((zSw.getD (nI i1).toNatClampNeg 0) = 2 → EvI d m_G_isDomain [vQ (some (1, 0)), vI (5 : Int32), vI (zi h 1 0 1)] h (fun y4 g3 => (narrow .boolean (.int y4) = .int y4 ∧ Q y4 g3))) ∧ ((zSw.getD (nI i1).toNatClampNeg 0) = 3 → EvI d m_P_isBracketed [vQ (some (0, 0)), vQ (some (22, 8))] h (fun y6 g5 => ((y6 = 0 → Q (0 : Int32) g5) ∧ (¬ y6 = 0 → EvI d m_P_isBracketEmpty [vQ (some (0, 0)), vQ (some (22, 8))] g5 (fun y8 g7 => ((¬ y8 = 0 → Q (1 : Int32) g7) ∧ (y8 = 0 → EvI d m_P_isPathIn [vQ (some (0, 0)), vQ (some (22, 8))] g7 (fun y10 g9 => ((y10 = 0 → Q (0 : Int32) g9) ∧ (¬ y10 = 0 → Q (1 : Int32) g9)))))))))) ∧ ((zSw.getD (nI i1).toNatClampNeg 0) = 4 → EvI d m_P_isBracketed [vQ (some (0, 0)), vQ (some (22, 9))] h (fun y15 g14 => ((y15 = 0 → Q (0 : Int32) g14) ∧ (¬ y15 = 0 → EvI d m_P_isPathIn [vQ (some (0, 0)), vQ (some (22, 9))] g14 (fun y17 g16 => ((y17 = 0 → Q (0 : Int32) g16) ∧ (¬ y17 = 0 → Q (1 : Int32) g16))))))) ∧ ((¬ (zSw.getD (nI i1).toNatClampNeg 0) = 1 ∧ ¬ (zSw.getD (nI i1).toNatClampNeg 0) = 2 ∧ ¬ (zSw.getD (nI i1).toNatClampNeg 0) = 3 ∧ ¬ (zSw.getD (nI i1).toNatClampNeg 0) = 4) → ((¬ (zi h 1 0 1) = (4 : Int32) → Q (0 : Int32) h) ∧ ((zi h 1 0 1) = (4 : Int32) → Q (1 : Int32) h)))))) :
    EvI (d + 1) m_P_isWrittenRight [vQ (some (0, 0)), vQ (some (20, i1))] h Q := zo_entry (by decide) (Nat.le_of_ble_eq_true rfl) (w_P_isWrittenRight_0 i1 hi1 hf)
set_option maxRecDepth 100000 in
set_option maxHeartbeats 4000000 in
theorem w_P_isBracketed_0 {d : Nat} (i1 : Nat) (hi1 : i1 < 14) {h : ZH} {Q : Int32 → ZH → Prop}
    (hf : EvI d m_R_matches [vQ (some (1, 0)), vI (4 : Int32), vQ (some (22, i1))] h (fun y2 g1 => ((y2 = 0 → Q (0 : Int32) g1) ∧ (¬ y2 = 0 → EvI d m_R_at [vQ (some (1, 0)), vI ((zi g1 1 0 1) - (1 : Int32))] g1 (fun y4 g3 => ((¬ y4 = (62 : Int32) → Q (0 : Int32) g3) ∧ (y4 = (62 : Int32) → Q (1 : Int32) g3))))))) :
    EvAt (d + 1) m_P_isBracketed 0 [some (vQ (some (0, 0))), some (vQ (some (22, i1)))] [] h (zQI Q) := by
  refine zo_aload_n d_P_isBracketed_0 rfl rfl ?_
  refine gf_P_line wd_264 d_P_isBracketed_1 ?_
  refine zo_iconst (v := 4) d_P_isBracketed_4 (by decide) ?_
  refine zo_aload_n d_P_isBracketed_5 rfl rfl ?_
  refine zo_callVI (d := d) (N := m_R_matches) (as := [vI (4 : Int32), vQ (some (22, i1))]) (n := 2) (zin (by decide) (by decide)) rfl rfl cv_R_matches wd_380 rfl rfl (Nat.le_of_ble_eq_true rfl) d_P_isBracketed_6 hf (fun y2 g1 hf => ?_)
  refine zo_if_eq (tgt := 37) d_P_isBracketed_9 (by decide) (fun c6 => ?_) (fun c6 => ?_)
  · replace hf := hf.1 c6
    refine zo_iconst (v := 0) d_P_isBracketed_37 (by decide) ?_
    exact zo_zretI (ty := .boolean) rfl rfl d_P_isBracketed_38 hf
  · replace hf := hf.2 c6
    refine zo_aload_n d_P_isBracketed_12 rfl rfl ?_
    refine gf_P_line wd_264 d_P_isBracketed_13 ?_
    refine zo_aload_n d_P_isBracketed_16 rfl rfl ?_
    refine gf_P_line wd_264 d_P_isBracketed_17 ?_
    refine gf_R_length wd_99 (by decide) d_P_isBracketed_20 ?_
    refine zo_iconst (v := 1) d_P_isBracketed_23 (by decide) ?_
    refine zo_isub d_P_isBracketed_24 ?_
    refine zo_callVI (d := d) (N := m_R_at) (as := [vI ((zi g1 1 0 1) - (1 : Int32))]) (n := 1) (zin (by decide) (by decide)) rfl rfl cv_R_at wd_303 rfl rfl (Nat.le_of_ble_eq_true rfl) d_P_isBracketed_25 hf (fun y4 g3 hf => ?_)
    refine zo_bipush (v := 62) d_P_isBracketed_28 (by decide) ?_
    refine zo_icmp_ne (tgt := 37) d_P_isBracketed_30 (by decide) (fun c5 => ?_) (fun c5 => ?_)
    · replace hf := hf.1 c5
      refine zo_iconst (v := 0) d_P_isBracketed_37 (by decide) ?_
      exact zo_zretI (ty := .boolean) rfl rfl d_P_isBracketed_38 hf
    · replace hf := hf.2 c5
      refine zo_iconst (v := 1) d_P_isBracketed_33 (by decide) ?_
      refine zo_goto (tgt := 38) d_P_isBracketed_34 (by decide) ?_
      exact zo_zretI (ty := .boolean) rfl rfl d_P_isBracketed_38 hf
theorem e_P_isBracketed {d : Nat} (i1 : Nat) (hi1 : i1 < 14) {h : ZH} {Q : Int32 → ZH → Prop}
    (hf : EvI d m_R_matches [vQ (some (1, 0)), vI (4 : Int32), vQ (some (22, i1))] h (fun y2 g1 => ((y2 = 0 → Q (0 : Int32) g1) ∧ (¬ y2 = 0 → EvI d m_R_at [vQ (some (1, 0)), vI ((zi g1 1 0 1) - (1 : Int32))] g1 (fun y4 g3 => ((¬ y4 = (62 : Int32) → Q (0 : Int32) g3) ∧ (y4 = (62 : Int32) → Q (1 : Int32) g3))))))) :
    EvI (d + 1) m_P_isBracketed [vQ (some (0, 0)), vQ (some (22, i1))] h Q := zo_entry (by decide) (Nat.le_of_ble_eq_true rfl) (w_P_isBracketed_0 i1 hi1 hf)
set_option maxRecDepth 100000 in
set_option maxHeartbeats 4000000 in
theorem w_P_isBracketEmpty_0 {d : Nat} (i1 : Nat) (hi1 : i1 < 14) {h : ZH} {Q : Int32 → ZH → Prop}
    (hf : EvI d m_P_bracketStart [vQ (some (22, i1))] h (fun y2 g1 => ((¬ y2 = ((zi g1 1 0 1) - (1 : Int32)) → Q (0 : Int32) g1) ∧ (y2 = ((zi g1 1 0 1) - (1 : Int32)) → Q (1 : Int32) g1)))) :
    EvAt (d + 1) m_P_isBracketEmpty 0 [some (vQ (some (0, 0))), some (vQ (some (22, i1)))] [] h (zQI Q) := by
  refine zo_aload_n d_P_isBracketEmpty_0 rfl rfl ?_
  refine zo_callSI (d := d) (N := m_P_bracketStart) (as := [vQ (some (22, i1))]) (n := 1) cs_P_bracketStart wd_463 rfl rfl (Nat.le_of_ble_eq_true rfl) d_P_isBracketEmpty_1 hf (fun y2 g1 hf => ?_)
  refine zo_aload_n d_P_isBracketEmpty_4 rfl rfl ?_
  refine gf_P_line wd_264 d_P_isBracketEmpty_5 ?_
  refine gf_R_length wd_99 (by decide) d_P_isBracketEmpty_8 ?_
  refine zo_iconst (v := 1) d_P_isBracketEmpty_11 (by decide) ?_
  refine zo_isub d_P_isBracketEmpty_12 ?_
  refine zo_icmp_ne (tgt := 20) d_P_isBracketEmpty_13 (by decide) (fun c3 => ?_) (fun c3 => ?_)
  · replace hf := hf.1 c3
    refine zo_iconst (v := 0) d_P_isBracketEmpty_20 (by decide) ?_
    exact zo_zretI (ty := .boolean) rfl rfl d_P_isBracketEmpty_21 hf
  · replace hf := hf.2 c3
    refine zo_iconst (v := 1) d_P_isBracketEmpty_16 (by decide) ?_
    refine zo_goto (tgt := 21) d_P_isBracketEmpty_17 (by decide) ?_
    exact zo_zretI (ty := .boolean) rfl rfl d_P_isBracketEmpty_21 hf
theorem e_P_isBracketEmpty {d : Nat} (i1 : Nat) (hi1 : i1 < 14) {h : ZH} {Q : Int32 → ZH → Prop}
    (hf : EvI d m_P_bracketStart [vQ (some (22, i1))] h (fun y2 g1 => ((¬ y2 = ((zi g1 1 0 1) - (1 : Int32)) → Q (0 : Int32) g1) ∧ (y2 = ((zi g1 1 0 1) - (1 : Int32)) → Q (1 : Int32) g1)))) :
    EvI (d + 1) m_P_isBracketEmpty [vQ (some (0, 0)), vQ (some (22, i1))] h Q := zo_entry (by decide) (Nat.le_of_ble_eq_true rfl) (w_P_isBracketEmpty_0 i1 hi1 hf)
set_option maxRecDepth 100000 in
set_option maxHeartbeats 4000000 in
theorem w_P_bracketStart_0 {d : Nat} (i0 : Nat) (hi0 : i0 < 14) {h : ZH} {Q : Int32 → ZH → Prop}
    (hf : Q ((4 : Int32) + (nI (zSL.getD i0 0))) h) :
    EvAt (d + 2) m_P_bracketStart 0 [some (vQ (some (22, i0)))] [] h (zQI Q) := by
  refine zo_iconst (v := 4) d_P_bracketStart_0 (by decide) ?_
  refine zo_aload_n d_P_bracketStart_1 rfl rfl ?_
  refine zc_slen wd_466 hi0 d_P_bracketStart_2 (Nat.le_of_ble_eq_true rfl) ?_
  refine zo_iadd d_P_bracketStart_5 ?_
  exact zo_iretI rfl d_P_bracketStart_6 hf
theorem e_P_bracketStart {d : Nat} (i0 : Nat) (hi0 : i0 < 14) {h : ZH} {Q : Int32 → ZH → Prop}
    (hf : Q ((4 : Int32) + (nI (zSL.getD i0 0))) h) :
    EvI (d + 2) m_P_bracketStart [vQ (some (22, i0))] h Q := zo_entry (by decide) (Nat.le_of_ble_eq_true rfl) (w_P_bracketStart_0 i0 hi0 hf)
set_option maxRecDepth 100000 in
set_option maxHeartbeats 4000000 in
theorem w_P_isPathIn_0 {d : Nat} (i1 : Nat) (hi1 : i1 < 14) {h : ZH} {Q : Int32 → ZH → Prop}
    (hf : EvI d m_P_bracketStart [vQ (some (22, i1))] h (fun y2 g1 => EvI d m_G_isPath [vQ (some (1, 0)), vI y2, vI ((zi g1 1 0 1) - (1 : Int32))] g1 (fun y4 g3 => (narrow .boolean (.int y4) = .int y4 ∧ Q y4 g3)))) :
    EvAt (d + 1) m_P_isPathIn 0 [some (vQ (some (0, 0))), some (vQ (some (22, i1)))] [] h (zQI Q) := by
  refine zo_aload_n d_P_isPathIn_0 rfl rfl ?_
  refine gf_P_line wd_264 d_P_isPathIn_1 ?_
  refine zo_aload_n d_P_isPathIn_4 rfl rfl ?_
  refine zo_callSI (d := d) (N := m_P_bracketStart) (as := [vQ (some (22, i1))]) (n := 1) cs_P_bracketStart wd_463 rfl rfl (Nat.le_of_ble_eq_true rfl) d_P_isPathIn_5 hf (fun y2 g1 hf => ?_)
  refine zo_aload_n d_P_isPathIn_8 rfl rfl ?_
  refine gf_P_line wd_264 d_P_isPathIn_9 ?_
  refine gf_R_length wd_99 (by decide) d_P_isPathIn_12 ?_
  refine zo_iconst (v := 1) d_P_isPathIn_15 (by decide) ?_
  refine zo_isub d_P_isPathIn_16 ?_
  refine zo_callSI (d := d) (N := m_G_isPath) (as := [vQ (some (1, 0)), vI y2, vI ((zi g1 1 0 1) - (1 : Int32))]) (n := 3) cs_G_isPath wd_471 rfl rfl (Nat.le_of_ble_eq_true rfl) d_P_isPathIn_17 hf (fun y4 g3 hf => ?_)
  exact zo_zretI (ty := .boolean) rfl hf.1 d_P_isPathIn_20 hf.2
theorem e_P_isPathIn {d : Nat} (i1 : Nat) (hi1 : i1 < 14) {h : ZH} {Q : Int32 → ZH → Prop}
    (hf : EvI d m_P_bracketStart [vQ (some (22, i1))] h (fun y2 g1 => EvI d m_G_isPath [vQ (some (1, 0)), vI y2, vI ((zi g1 1 0 1) - (1 : Int32))] g1 (fun y4 g3 => (narrow .boolean (.int y4) = .int y4 ∧ Q y4 g3)))) :
    EvI (d + 1) m_P_isPathIn [vQ (some (0, 0)), vQ (some (22, i1))] h Q := zo_entry (by decide) (Nat.le_of_ble_eq_true rfl) (w_P_isPathIn_0 i1 hi1 hf)
set_option maxRecDepth 100000 in
set_option maxHeartbeats 4000000 in
theorem w_P_greet_0 {d : Nat}   {h : ZH} {Q : Int32 → ZH → Prop}
    (hf : EvV d m_S_endTransaction [vQ (some (3, 0))] (zw h 3 0 4 (1 : Int32)) (fun g1 => Q (250 : Int32) g1)) :
    EvAt (d + 1) m_P_greet 0 [some (vQ (some (0, 0)))] [] h (zQI Q) := by
  refine zo_aload_n d_P_greet_0 rfl rfl ?_
  refine gf_P_session wd_265 d_P_greet_1 ?_
  refine zo_iconst (v := 1) d_P_greet_4 (by decide) ?_
  refine pf_S_greeted wd_126 (by decide) d_P_greet_5 ?_
  refine zo_aload_n d_P_greet_8 rfl rfl ?_
  refine gf_P_session wd_265 d_P_greet_9 ?_
  refine zo_callVV (d := d) (N := m_S_endTransaction) (as := []) (n := 0) (zin (by decide) (by decide)) rfl rfl cv_S_endTransaction wd_355 rfl rfl (Nat.le_of_ble_eq_true rfl) d_P_greet_12 hf (fun g1 hf => ?_)
  refine zo_sipush (v := 250) d_P_greet_15 (by decide) ?_
  exact zo_iretI rfl d_P_greet_18 hf
theorem e_P_greet {d : Nat}   {h : ZH} {Q : Int32 → ZH → Prop}
    (hf : EvV d m_S_endTransaction [vQ (some (3, 0))] (zw h 3 0 4 (1 : Int32)) (fun g1 => Q (250 : Int32) g1)) :
    EvI (d + 1) m_P_greet [vQ (some (0, 0))] h Q := zo_entry (by decide) (Nat.le_of_ble_eq_true rfl) (w_P_greet_0   hf)
set_option maxRecDepth 100000 in
set_option maxHeartbeats 4000000 in
theorem w_P_beginTransaction_0 {d : Nat}   {h : ZH} {Q : Int32 → ZH → Prop}
    (hf : (((zi h 3 0 4) = 0 → Q (503 : Int32) h) ∧ (¬ (zi h 3 0 4) = 0 → (((zi h 3 0 5) = 0 → EvI d m_O_isFull [vQ (some (5, 0))] h (fun y2 g1 => ((y2 = 0 → EvV d m_R_clear [vQ (some (1, 1))] (zw g1 3 0 5 (1 : Int32)) (fun g3 => EvI d m_P_bracketStart [vQ (some (22, 8))] g3 (fun y5 g4 => EvV d m_R_addPiece [vQ (some (1, 1)), vQ (some (1, 0)), vI y5, vI ((zi g4 1 0 1) - (1 : Int32))] g4 (fun g6 => Q (250 : Int32) g6)))) ∧ (¬ y2 = 0 → Q (452 : Int32) g1)))) ∧ (¬ (zi h 3 0 5) = 0 → Q (503 : Int32) h))))) :
    EvAt (d + 1) m_P_beginTransaction 0 [some (vQ (some (0, 0)))] [] h (zQI Q) := by
  refine zo_aload_n d_P_beginTransaction_0 rfl rfl ?_
  refine gf_P_session wd_265 d_P_beginTransaction_1 ?_
  refine gf_S_greeted wd_126 d_P_beginTransaction_4 ?_
  refine zo_if_eq (tgt := 20) d_P_beginTransaction_7 (by decide) (fun c9 => ?_) (fun c9 => ?_)
  · replace hf := hf.1 c9
    refine zo_sipush (v := 503) d_P_beginTransaction_20 (by decide) ?_
    exact zo_iretI rfl d_P_beginTransaction_23 hf
  · replace hf := hf.2 c9
    refine zo_aload_n d_P_beginTransaction_10 rfl rfl ?_
    refine gf_P_session wd_265 d_P_beginTransaction_11 ?_
    refine gf_S_inTransaction wd_128 d_P_beginTransaction_14 ?_
    refine zo_if_eq (tgt := 24) d_P_beginTransaction_17 (by decide) (fun c8 => ?_) (fun c8 => ?_)
    · replace hf := hf.1 c8
      refine zo_aload_n d_P_beginTransaction_24 rfl rfl ?_
      refine gf_P_spool wd_266 d_P_beginTransaction_25 ?_
      refine zo_callVI (d := d) (N := m_O_isFull) (as := []) (n := 0) (zin (by decide) (by decide)) rfl rfl cv_O_isFull wd_311 rfl rfl (Nat.le_of_ble_eq_true rfl) d_P_beginTransaction_28 hf (fun y2 g1 hf => ?_)
      refine zo_if_eq (tgt := 38) d_P_beginTransaction_31 (by decide) (fun c7 => ?_) (fun c7 => ?_)
      · replace hf := hf.1 c7
        refine zo_aload_n d_P_beginTransaction_38 rfl rfl ?_
        refine gf_P_session wd_265 d_P_beginTransaction_39 ?_
        refine zo_iconst (v := 1) d_P_beginTransaction_42 (by decide) ?_
        refine pf_S_inTransaction wd_128 (by decide) d_P_beginTransaction_43 ?_
        refine zo_aload_n d_P_beginTransaction_46 rfl rfl ?_
        refine gf_P_session wd_265 d_P_beginTransaction_47 ?_
        refine gf_S_sender wd_118 d_P_beginTransaction_50 ?_
        refine zo_callVV (d := d) (N := m_R_clear) (as := []) (n := 0) (zin (by decide) (by decide)) rfl rfl cv_R_clear wd_487 rfl rfl (Nat.le_of_ble_eq_true rfl) d_P_beginTransaction_53 hf (fun g3 hf => ?_)
        refine zo_aload_n d_P_beginTransaction_56 rfl rfl ?_
        refine gf_P_session wd_265 d_P_beginTransaction_57 ?_
        refine gf_S_sender wd_118 d_P_beginTransaction_60 ?_
        refine zo_aload_n d_P_beginTransaction_63 rfl rfl ?_
        refine gf_P_line wd_264 d_P_beginTransaction_64 ?_
        refine zc_ldc8 rfl d_P_beginTransaction_67 ?_
        refine zo_callSI (d := d) (N := m_P_bracketStart) (as := [vQ (some (22, 8))]) (n := 1) cs_P_bracketStart wd_463 rfl rfl (Nat.le_of_ble_eq_true rfl) d_P_beginTransaction_69 hf (fun y5 g4 hf => ?_)
        refine zo_aload_n d_P_beginTransaction_72 rfl rfl ?_
        refine gf_P_line wd_264 d_P_beginTransaction_73 ?_
        refine gf_R_length wd_99 (by decide) d_P_beginTransaction_76 ?_
        refine zo_iconst (v := 1) d_P_beginTransaction_79 (by decide) ?_
        refine zo_isub d_P_beginTransaction_80 ?_
        refine zo_callVV (d := d) (N := m_R_addPiece) (as := [vQ (some (1, 0)), vI y5, vI ((zi g4 1 0 1) - (1 : Int32))]) (n := 3) (zin (by decide) (by decide)) rfl rfl cv_R_addPiece wd_488 rfl rfl (Nat.le_of_ble_eq_true rfl) d_P_beginTransaction_81 hf (fun g6 hf => ?_)
        refine zo_sipush (v := 250) d_P_beginTransaction_84 (by decide) ?_
        exact zo_iretI rfl d_P_beginTransaction_87 hf
      · replace hf := hf.2 c7
        refine zo_sipush (v := 452) d_P_beginTransaction_34 (by decide) ?_
        exact zo_iretI rfl d_P_beginTransaction_37 hf
    · replace hf := hf.2 c8
      refine zo_sipush (v := 503) d_P_beginTransaction_20 (by decide) ?_
      exact zo_iretI rfl d_P_beginTransaction_23 hf
theorem e_P_beginTransaction {d : Nat}   {h : ZH} {Q : Int32 → ZH → Prop}
    (hf : (((zi h 3 0 4) = 0 → Q (503 : Int32) h) ∧ (¬ (zi h 3 0 4) = 0 → (((zi h 3 0 5) = 0 → EvI d m_O_isFull [vQ (some (5, 0))] h (fun y2 g1 => ((y2 = 0 → EvV d m_R_clear [vQ (some (1, 1))] (zw g1 3 0 5 (1 : Int32)) (fun g3 => EvI d m_P_bracketStart [vQ (some (22, 8))] g3 (fun y5 g4 => EvV d m_R_addPiece [vQ (some (1, 1)), vQ (some (1, 0)), vI y5, vI ((zi g4 1 0 1) - (1 : Int32))] g4 (fun g6 => Q (250 : Int32) g6)))) ∧ (¬ y2 = 0 → Q (452 : Int32) g1)))) ∧ (¬ (zi h 3 0 5) = 0 → Q (503 : Int32) h))))) :
    EvI (d + 1) m_P_beginTransaction [vQ (some (0, 0))] h Q := zo_entry (by decide) (Nat.le_of_ble_eq_true rfl) (w_P_beginTransaction_0   hf)
set_option maxRecDepth 100000 in
set_option maxHeartbeats 4000000 in
theorem w_P_addRecipient_0 {d : Nat}   {h : ZH} {Q : Int32 → ZH → Prop}
    (hf : ((¬ (zi h 3 0 5) = 0 → (((zi h 3 0 3) < (4 : Int32) → (vp_in (zi h 3 0 3) 4 ∧ EvV d m_R_clear [vQ (some (1, 2 + (zi h 3 0 3).toNatClampNeg))] h (fun g2 => EvI d m_P_bracketStart [vQ (some (22, 9))] g2 (fun y4 g3 => EvV d m_R_addPiece [vQ (some (1, 2 + (zi h 3 0 3).toNatClampNeg)), vQ (some (1, 0)), vI y4, vI ((zi g3 1 0 1) - (1 : Int32))] g3 (fun g5 => Q (250 : Int32) (zw g5 3 0 3 ((zi g5 3 0 3) + (1 : Int32)))))))) ∧ (¬ (zi h 3 0 3) < (4 : Int32) → Q (452 : Int32) h))) ∧ ((zi h 3 0 5) = 0 → Q (503 : Int32) h))) :
    EvAt (d + 1) m_P_addRecipient 0 [some (vQ (some (0, 0))), none] [] h (zQI Q) := by
  refine zo_aload_n d_P_addRecipient_0 rfl rfl ?_
  refine gf_P_session wd_265 d_P_addRecipient_1 ?_
  refine gf_S_inTransaction wd_128 d_P_addRecipient_4 ?_
  refine zo_if_ne (tgt := 14) d_P_addRecipient_7 (by decide) (fun c7 => ?_) (fun c7 => ?_)
  · replace hf := hf.1 c7
    refine zo_aload_n d_P_addRecipient_14 rfl rfl ?_
    refine gf_P_session wd_265 d_P_addRecipient_15 ?_
    refine gf_S_recipientCount wd_124 d_P_addRecipient_18 ?_
    refine zo_iconst (v := 4) d_P_addRecipient_21 (by decide) ?_
    refine zo_icmp_lt (tgt := 29) d_P_addRecipient_22 (by decide) (fun c6 => ?_) (fun c6 => ?_)
    · replace hf := hf.1 c6
      refine zo_aload_n d_P_addRecipient_29 rfl rfl ?_
      refine gf_P_session wd_265 d_P_addRecipient_30 ?_
      refine gf_S_recipients wd_120 d_P_addRecipient_33 ?_
      refine zo_aload_n d_P_addRecipient_36 rfl rfl ?_
      refine gf_P_session wd_265 d_P_addRecipient_37 ?_
      refine gf_S_recipientCount wd_124 d_P_addRecipient_40 ?_
      obtain ⟨hp1, hf⟩ := hf
      refine zo_aald1 (C := "SpooledPost$Row") (zin (by decide) (by decide)) rfl rfl rfl hp1 d_P_addRecipient_43 ?_
      refine zo_astore_n d_P_addRecipient_44 rfl (Nat.le_of_ble_eq_true rfl) rfl ?_
      refine zo_aload_n d_P_addRecipient_45 rfl rfl ?_
      refine zo_callVV (d := d) (N := m_R_clear) (as := []) (n := 0) (zin (by decide) (zin4r hp1)) rfl rfl cv_R_clear wd_487 rfl rfl (Nat.le_of_ble_eq_true rfl) d_P_addRecipient_46 hf (fun g2 hf => ?_)
      refine zo_aload_n d_P_addRecipient_49 rfl rfl ?_
      refine zo_aload_n d_P_addRecipient_50 rfl rfl ?_
      refine gf_P_line wd_264 d_P_addRecipient_51 ?_
      refine zc_ldc9 rfl d_P_addRecipient_54 ?_
      refine zo_callSI (d := d) (N := m_P_bracketStart) (as := [vQ (some (22, 9))]) (n := 1) cs_P_bracketStart wd_463 rfl rfl (Nat.le_of_ble_eq_true rfl) d_P_addRecipient_56 hf (fun y4 g3 hf => ?_)
      refine zo_aload_n d_P_addRecipient_59 rfl rfl ?_
      refine gf_P_line wd_264 d_P_addRecipient_60 ?_
      refine gf_R_length wd_99 (by decide) d_P_addRecipient_63 ?_
      refine zo_iconst (v := 1) d_P_addRecipient_66 (by decide) ?_
      refine zo_isub d_P_addRecipient_67 ?_
      refine zo_callVV (d := d) (N := m_R_addPiece) (as := [vQ (some (1, 0)), vI y4, vI ((zi g3 1 0 1) - (1 : Int32))]) (n := 3) (zin (by decide) (zin4r hp1)) rfl rfl cv_R_addPiece wd_488 rfl rfl (Nat.le_of_ble_eq_true rfl) d_P_addRecipient_68 hf (fun g5 hf => ?_)
      refine zo_aload_n d_P_addRecipient_71 rfl rfl ?_
      refine gf_P_session wd_265 d_P_addRecipient_72 ?_
      refine zo_dup rfl d_P_addRecipient_75 ?_
      refine gf_S_recipientCount wd_124 d_P_addRecipient_76 ?_
      refine zo_iconst (v := 1) d_P_addRecipient_79 (by decide) ?_
      refine zo_iadd d_P_addRecipient_80 ?_
      refine pf_S_recipientCount wd_124 d_P_addRecipient_81 ?_
      refine zo_sipush (v := 250) d_P_addRecipient_84 (by decide) ?_
      exact zo_iretI rfl d_P_addRecipient_87 hf
    · replace hf := hf.2 c6
      refine zo_sipush (v := 452) d_P_addRecipient_25 (by decide) ?_
      exact zo_iretI rfl d_P_addRecipient_28 hf
  · replace hf := hf.2 c7
    refine zo_sipush (v := 503) d_P_addRecipient_10 (by decide) ?_
    exact zo_iretI rfl d_P_addRecipient_13 hf
theorem e_P_addRecipient {d : Nat}   {h : ZH} {Q : Int32 → ZH → Prop}
    (hf : ((¬ (zi h 3 0 5) = 0 → (((zi h 3 0 3) < (4 : Int32) → (vp_in (zi h 3 0 3) 4 ∧ EvV d m_R_clear [vQ (some (1, 2 + (zi h 3 0 3).toNatClampNeg))] h (fun g2 => EvI d m_P_bracketStart [vQ (some (22, 9))] g2 (fun y4 g3 => EvV d m_R_addPiece [vQ (some (1, 2 + (zi h 3 0 3).toNatClampNeg)), vQ (some (1, 0)), vI y4, vI ((zi g3 1 0 1) - (1 : Int32))] g3 (fun g5 => Q (250 : Int32) (zw g5 3 0 3 ((zi g5 3 0 3) + (1 : Int32)))))))) ∧ (¬ (zi h 3 0 3) < (4 : Int32) → Q (452 : Int32) h))) ∧ ((zi h 3 0 5) = 0 → Q (503 : Int32) h))) :
    EvI (d + 1) m_P_addRecipient [vQ (some (0, 0))] h Q := zo_entry (by decide) (Nat.le_of_ble_eq_true rfl) (w_P_addRecipient_0   hf)
set_option maxRecDepth 100000 in
set_option maxHeartbeats 4000000 in
theorem w_P_beginText_0 {d : Nat}   {h : ZH} {Q : Int32 → ZH → Prop}
    (hf : (((zi h 3 0 5) = 0 → Q (503 : Int32) h) ∧ (¬ (zi h 3 0 5) = 0 → ((¬ (zi h 3 0 3) = 0 → EvV d m_R_clear [vQ (some (1, 6))] (zw (zw h 3 0 6 (1 : Int32)) 3 0 7 (0 : Int32)) (fun g1 => Q (354 : Int32) g1)) ∧ ((zi h 3 0 3) = 0 → Q (503 : Int32) h))))) :
    EvAt (d + 1) m_P_beginText 0 [some (vQ (some (0, 0)))] [] h (zQI Q) := by
  refine zo_aload_n d_P_beginText_0 rfl rfl ?_
  refine gf_P_session wd_265 d_P_beginText_1 ?_
  refine gf_S_inTransaction wd_128 d_P_beginText_4 ?_
  refine zo_if_eq (tgt := 20) d_P_beginText_7 (by decide) (fun c3 => ?_) (fun c3 => ?_)
  · replace hf := hf.1 c3
    refine zo_sipush (v := 503) d_P_beginText_20 (by decide) ?_
    exact zo_iretI rfl d_P_beginText_23 hf
  · replace hf := hf.2 c3
    refine zo_aload_n d_P_beginText_10 rfl rfl ?_
    refine gf_P_session wd_265 d_P_beginText_11 ?_
    refine gf_S_recipientCount wd_124 d_P_beginText_14 ?_
    refine zo_if_ne (tgt := 24) d_P_beginText_17 (by decide) (fun c2 => ?_) (fun c2 => ?_)
    · replace hf := hf.1 c2
      refine zo_aload_n d_P_beginText_24 rfl rfl ?_
      refine gf_P_session wd_265 d_P_beginText_25 ?_
      refine zo_iconst (v := 1) d_P_beginText_28 (by decide) ?_
      refine pf_S_taking wd_130 (by decide) d_P_beginText_29 ?_
      refine zo_aload_n d_P_beginText_32 rfl rfl ?_
      refine gf_P_session wd_265 d_P_beginText_33 ?_
      refine zo_iconst (v := 0) d_P_beginText_36 (by decide) ?_
      refine pf_S_tooLong wd_132 (by decide) d_P_beginText_37 ?_
      refine zo_aload_n d_P_beginText_40 rfl rfl ?_
      refine gf_P_session wd_265 d_P_beginText_41 ?_
      refine gf_S_text wd_122 d_P_beginText_44 ?_
      refine zo_callVV (d := d) (N := m_R_clear) (as := []) (n := 0) (zin (by decide) (by decide)) rfl rfl cv_R_clear wd_487 rfl rfl (Nat.le_of_ble_eq_true rfl) d_P_beginText_47 hf (fun g1 hf => ?_)
      refine zo_sipush (v := 354) d_P_beginText_50 (by decide) ?_
      exact zo_iretI rfl d_P_beginText_53 hf
    · replace hf := hf.2 c2
      refine zo_sipush (v := 503) d_P_beginText_20 (by decide) ?_
      exact zo_iretI rfl d_P_beginText_23 hf
theorem e_P_beginText {d : Nat}   {h : ZH} {Q : Int32 → ZH → Prop}
    (hf : (((zi h 3 0 5) = 0 → Q (503 : Int32) h) ∧ (¬ (zi h 3 0 5) = 0 → ((¬ (zi h 3 0 3) = 0 → EvV d m_R_clear [vQ (some (1, 6))] (zw (zw h 3 0 6 (1 : Int32)) 3 0 7 (0 : Int32)) (fun g1 => Q (354 : Int32) g1)) ∧ ((zi h 3 0 3) = 0 → Q (503 : Int32) h))))) :
    EvI (d + 1) m_P_beginText [vQ (some (0, 0))] h Q := zo_entry (by decide) (Nat.le_of_ble_eq_true rfl) (w_P_beginText_0   hf)
set_option maxRecDepth 100000 in
set_option maxHeartbeats 4000000 in
theorem w_P_breakAfter_0 {d : Nat} (x1 : Int32)  {h : ZH} {Q : Int32 → ZH → Prop}
    (hf : ((¬ (zi h 5 0 4) = 0 → Q (0 : Int32) h) ∧ ((zi h 5 0 4) = 0 → ((x1 < 0 → Q (0 : Int32) h) ∧ (¬ x1 < 0 → ((x1 ≤ (20 : Int32) → Q (1 : Int32) (zw h 5 0 3 x1)) ∧ (¬ x1 ≤ (20 : Int32) → Q (0 : Int32) h))))))) :
    EvAt d m_P_breakAfter 0 [some (vQ (some (0, 0))), some (vI x1)] [] h (zQI Q) := by
  refine zo_aload_n d_P_breakAfter_0 rfl rfl ?_
  refine gf_P_spool wd_266 d_P_breakAfter_1 ?_
  refine gf_O_down wd_224 d_P_breakAfter_4 ?_
  refine zo_if_ne (tgt := 20) d_P_breakAfter_7 (by decide) (fun c3 => ?_) (fun c3 => ?_)
  · replace hf := hf.1 c3
    refine zo_iconst (v := 0) d_P_breakAfter_20 (by decide) ?_
    exact zo_zretI (ty := .boolean) rfl rfl d_P_breakAfter_21 hf
  · replace hf := hf.2 c3
    refine zo_iload_n d_P_breakAfter_10 rfl rfl ?_
    refine zo_if_lt (tgt := 20) d_P_breakAfter_11 (by decide) (fun c2 => ?_) (fun c2 => ?_)
    · replace hf := hf.1 c2
      refine zo_iconst (v := 0) d_P_breakAfter_20 (by decide) ?_
      exact zo_zretI (ty := .boolean) rfl rfl d_P_breakAfter_21 hf
    · replace hf := hf.2 c2
      refine zo_iload_n d_P_breakAfter_14 rfl rfl ?_
      refine zo_bipush (v := 20) d_P_breakAfter_15 (by decide) ?_
      refine zo_icmp_le (tgt := 22) d_P_breakAfter_17 (by decide) (fun c1 => ?_) (fun c1 => ?_)
      · replace hf := hf.1 c1
        refine zo_aload_n d_P_breakAfter_22 rfl rfl ?_
        refine gf_P_spool wd_266 d_P_breakAfter_23 ?_
        refine zo_iload_n d_P_breakAfter_26 rfl rfl ?_
        refine pf_O_writesLeft wd_223 d_P_breakAfter_27 ?_
        refine zo_iconst (v := 1) d_P_breakAfter_30 (by decide) ?_
        exact zo_zretI (ty := .boolean) rfl rfl d_P_breakAfter_31 hf
      · replace hf := hf.2 c1
        refine zo_iconst (v := 0) d_P_breakAfter_20 (by decide) ?_
        exact zo_zretI (ty := .boolean) rfl rfl d_P_breakAfter_21 hf
theorem e_P_breakAfter {d : Nat} (x1 : Int32)  {h : ZH} {Q : Int32 → ZH → Prop}
    (hf : ((¬ (zi h 5 0 4) = 0 → Q (0 : Int32) h) ∧ ((zi h 5 0 4) = 0 → ((x1 < 0 → Q (0 : Int32) h) ∧ (¬ x1 < 0 → ((x1 ≤ (20 : Int32) → Q (1 : Int32) (zw h 5 0 3 x1)) ∧ (¬ x1 ≤ (20 : Int32) → Q (0 : Int32) h))))))) :
    EvI d m_P_breakAfter [vQ (some (0, 0)), vI x1] h Q := zo_entry (by decide) (Nat.le_of_ble_eq_true rfl) (w_P_breakAfter_0 x1  hf)
set_option maxRecDepth 100000 in
set_option maxHeartbeats 4000000 in
theorem w_P_restart_0 {d : Nat}   {h : ZH} {Q : Int32 → ZH → Prop}
    (hf : ((¬ (zi h 5 0 4) = 0 → EvV d m_O_recover [vQ (some (5, 0))] h (fun g1 => EvV d m_S_forget [vQ (some (3, 0))] g1 (fun g2 => EvV d m_R_clear [vQ (some (1, 0))] g2 (fun g3 => EvI d m_O_sealedCount [vQ (some (5, 0))] g3 (fun y5 g4 => Q y5 g4))))) ∧ ((zi h 5 0 4) = 0 → Q (-1 : Int32) h))) :
    EvAt (d + 1) m_P_restart 0 [some (vQ (some (0, 0)))] [] h (zQI Q) := by
  refine zo_aload_n d_P_restart_0 rfl rfl ?_
  refine gf_P_spool wd_266 d_P_restart_1 ?_
  refine gf_O_down wd_224 d_P_restart_4 ?_
  refine zo_if_ne (tgt := 12) d_P_restart_7 (by decide) (fun c6 => ?_) (fun c6 => ?_)
  · replace hf := hf.1 c6
    refine zo_aload_n d_P_restart_12 rfl rfl ?_
    refine gf_P_spool wd_266 d_P_restart_13 ?_
    refine zo_callVV (d := d) (N := m_O_recover) (as := []) (n := 0) (zin (by decide) (by decide)) rfl rfl cv_O_recover wd_511 rfl rfl (Nat.le_of_ble_eq_true rfl) d_P_restart_16 hf (fun g1 hf => ?_)
    refine zo_aload_n d_P_restart_19 rfl rfl ?_
    refine gf_P_session wd_265 d_P_restart_20 ?_
    refine zo_callVV (d := d) (N := m_S_forget) (as := []) (n := 0) (zin (by decide) (by decide)) rfl rfl cv_S_forget wd_497 rfl rfl (Nat.le_of_ble_eq_true rfl) d_P_restart_23 hf (fun g2 hf => ?_)
    refine zo_aload_n d_P_restart_26 rfl rfl ?_
    refine gf_P_line wd_264 d_P_restart_27 ?_
    refine zo_callVV (d := d) (N := m_R_clear) (as := []) (n := 0) (zin (by decide) (by decide)) rfl rfl cv_R_clear wd_487 rfl rfl (Nat.le_of_ble_eq_true rfl) d_P_restart_30 hf (fun g3 hf => ?_)
    refine zo_aload_n d_P_restart_33 rfl rfl ?_
    refine gf_P_spool wd_266 d_P_restart_34 ?_
    refine zo_callVI (d := d) (N := m_O_sealedCount) (as := []) (n := 0) (zin (by decide) (by decide)) rfl rfl cv_O_sealedCount wd_519 rfl rfl (Nat.le_of_ble_eq_true rfl) d_P_restart_37 hf (fun y5 g4 hf => ?_)
    exact zo_iretI rfl d_P_restart_40 hf
  · replace hf := hf.2 c6
    refine zo_iconst (v := (-1)) d_P_restart_10 (by decide) ?_
    exact zo_iretI rfl d_P_restart_11 hf
theorem e_P_restart {d : Nat}   {h : ZH} {Q : Int32 → ZH → Prop}
    (hf : ((¬ (zi h 5 0 4) = 0 → EvV d m_O_recover [vQ (some (5, 0))] h (fun g1 => EvV d m_S_forget [vQ (some (3, 0))] g1 (fun g2 => EvV d m_R_clear [vQ (some (1, 0))] g2 (fun g3 => EvI d m_O_sealedCount [vQ (some (5, 0))] g3 (fun y5 g4 => Q y5 g4))))) ∧ ((zi h 5 0 4) = 0 → Q (-1 : Int32) h))) :
    EvI (d + 1) m_P_restart [vQ (some (0, 0))] h Q := zo_entry (by decide) (Nat.le_of_ble_eq_true rfl) (w_P_restart_0   hf)
set_option maxRecDepth 100000 in
set_option maxHeartbeats 4000000 in
theorem w_P_pass_0 {d : Nat} (x1 : Int32)  {h : ZH} {Q : Int32 → ZH → Prop}
    (hf : ((x1 < 0 → Q (-1 : Int32) h) ∧ (¬ x1 < 0 → ((x1 ≤ (1000 : Int32) → Q (zi (zw h 0 0 4 ((zi h 0 0 4) + x1)) 0 0 4) (zw h 0 0 4 ((zi h 0 0 4) + x1))) ∧ (¬ x1 ≤ (1000 : Int32) → Q (-1 : Int32) h))))) :
    EvAt d m_P_pass 0 [some (vQ (some (0, 0))), some (vI x1)] [] h (zQI Q) := by
  refine zo_iload_n d_P_pass_0 rfl rfl ?_
  refine zo_if_lt (tgt := 11) d_P_pass_1 (by decide) (fun c2 => ?_) (fun c2 => ?_)
  · replace hf := hf.1 c2
    refine zo_iconst (v := (-1)) d_P_pass_11 (by decide) ?_
    exact zo_iretI rfl d_P_pass_12 hf
  · replace hf := hf.2 c2
    refine zo_iload_n d_P_pass_4 rfl rfl ?_
    refine zo_sipush (v := 1000) d_P_pass_5 (by decide) ?_
    refine zo_icmp_le (tgt := 13) d_P_pass_8 (by decide) (fun c1 => ?_) (fun c1 => ?_)
    · replace hf := hf.1 c1
      refine zo_aload_n d_P_pass_13 rfl rfl ?_
      refine zo_dup rfl d_P_pass_14 ?_
      refine gf_P_now wd_268 d_P_pass_15 ?_
      refine zo_iload_n d_P_pass_18 rfl rfl ?_
      refine zo_iadd d_P_pass_19 ?_
      refine pf_P_now wd_268 d_P_pass_20 ?_
      refine zo_aload_n d_P_pass_23 rfl rfl ?_
      refine gf_P_now wd_268 d_P_pass_24 ?_
      exact zo_iretI rfl d_P_pass_27 hf
    · replace hf := hf.2 c1
      refine zo_iconst (v := (-1)) d_P_pass_11 (by decide) ?_
      exact zo_iretI rfl d_P_pass_12 hf
theorem e_P_pass {d : Nat} (x1 : Int32)  {h : ZH} {Q : Int32 → ZH → Prop}
    (hf : ((x1 < 0 → Q (-1 : Int32) h) ∧ (¬ x1 < 0 → ((x1 ≤ (1000 : Int32) → Q (zi (zw h 0 0 4 ((zi h 0 0 4) + x1)) 0 0 4) (zw h 0 0 4 ((zi h 0 0 4) + x1))) ∧ (¬ x1 ≤ (1000 : Int32) → Q (-1 : Int32) h))))) :
    EvI d m_P_pass [vQ (some (0, 0)), vI x1] h Q := zo_entry (by decide) (Nat.le_of_ble_eq_true rfl) (w_P_pass_0 x1  hf)
set_option maxRecDepth 100000 in
set_option maxHeartbeats 4000000 in
theorem w_P_next_0 {d : Nat}   {h : ZH} {Q : Int32 → ZH → Prop}
    (hf : (((zi h 5 0 4) = 0 → EvR 7 d m_O_holderOfNext [vQ (some (5, 0)), vI (zi h 0 0 4)] h (fun r2 g1 => EvAt (d + 1) m_P_next 25 [none, none] [vQ (r2.map (Prod.mk 7))] g1 (zQI Q))) ∧ (¬ (zi h 5 0 4) = 0 → EvAt (d + 1) m_P_next 25 [none, none] [vQ none] h (zQI Q)))) :
    EvAt (d + 1) m_P_next 0 [some (vQ (some (0, 0))), none] [] h (zQI Q) := by
  refine zo_aload_n d_P_next_0 rfl rfl ?_
  refine gf_P_spool wd_266 d_P_next_1 ?_
  refine gf_O_down wd_224 d_P_next_4 ?_
  refine zo_if_eq (tgt := 14) d_P_next_7 (by decide) (fun c3 => ?_) (fun c3 => ?_)
  · replace hf := hf.1 c3
    refine zo_aload_n d_P_next_14 rfl rfl ?_
    refine gf_P_spool wd_266 d_P_next_15 ?_
    refine zo_aload_n d_P_next_18 rfl rfl ?_
    refine gf_P_now wd_268 d_P_next_19 ?_
    refine zo_callVR (d := d) (N := m_O_holderOfNext) (as := [vI (zi h 0 0 4)]) (n := 1) (zin (by decide) (by decide)) rfl rfl cv_O_holderOfNext wd_531 rfl rfl (Nat.le_of_ble_eq_true rfl) d_P_next_22 hf (fun r2 g1 ho_r2 hf => ?_)
    refine zo_drop 0 ?_
    exact hf
  · replace hf := hf.2 c3
    refine zo_null d_P_next_10 ?_
    refine zo_goto (tgt := 25) d_P_next_11 (by decide) ?_
    refine zo_drop 0 ?_
    exact hf
theorem e_P_next {d : Nat}   {h : ZH} {Q : Int32 → ZH → Prop}
    (hf : (((zi h 5 0 4) = 0 → EvR 7 d m_O_holderOfNext [vQ (some (5, 0)), vI (zi h 0 0 4)] h (fun r2 g1 => EvAt (d + 1) m_P_next 25 [none, none] [vQ (r2.map (Prod.mk 7))] g1 (zQI Q))) ∧ (¬ (zi h 5 0 4) = 0 → EvAt (d + 1) m_P_next 25 [none, none] [vQ none] h (zQI Q)))) :
    EvI (d + 1) m_P_next [vQ (some (0, 0))] h Q := zo_entry (by decide) (Nat.le_of_ble_eq_true rfl) (w_P_next_0   hf)
set_option maxRecDepth 100000 in
set_option maxHeartbeats 4000000 in
theorem w_P_next_25 {d : Nat} (os0 : Option Nat) (hos0 : ∀ i, os0 = some i → i < 6) {h : ZH} {Q : Int32 → ZH → Prop}
    (hf : ((os0 = none → Q (-1 : Int32) h) ∧ (∀ n1, os0 = some n1 → n1 < 6 → Q (zi h 7 n1 4) h))) :
    EvAt (d + 1) m_P_next 25 [none, none] [vQ (os0.map (Prod.mk 7))] h (zQI Q) := by
  refine zo_astore_n d_P_next_25 rfl (Nat.le_of_ble_eq_true rfl) rfl ?_
  refine zo_aload_n d_P_next_26 rfl rfl ?_
  refine zo_ifnonnullK (tgt := 34) d_P_next_27 (by decide) (fun n1 z => ?_) (fun z => ?_)
  · subst z
    have hv_n1 : n1 < 6 := hos0 n1 rfl
    replace hf := hf.2 n1 rfl hv_n1
    refine zo_aload_n d_P_next_34 rfl rfl ?_
    refine gf_L_number wd_202 hv_n1 d_P_next_35 ?_
    exact zo_iretI rfl d_P_next_38 hf
  · subst z
    replace hf := hf.1 rfl
    refine zo_iconst (v := (-1)) d_P_next_30 (by decide) ?_
    refine zo_goto (tgt := 38) d_P_next_31 (by decide) ?_
    exact zo_iretI rfl d_P_next_38 hf
set_option maxRecDepth 100000 in
set_option maxHeartbeats 4000000 in
theorem w_P_reply_0 {d : Nat} (x1 : Int32)  {h : ZH} {Q : Int32 → ZH → Prop}
    (hf : (((zi h 5 0 4) = 0 → EvR 7 d m_O_holderOfNext [vQ (some (5, 0)), vI (zi h 0 0 4)] h (fun r2 g1 => EvAt (d + 1) m_P_reply 25 [some (vQ (some (0, 0))), some (vI x1), none, none] [vQ (r2.map (Prod.mk 7))] g1 (zQI Q))) ∧ (¬ (zi h 5 0 4) = 0 → EvAt (d + 1) m_P_reply 25 [some (vQ (some (0, 0))), some (vI x1), none, none] [vQ none] h (zQI Q)))) :
    EvAt (d + 1) m_P_reply 0 [some (vQ (some (0, 0))), some (vI x1), none, none] [] h (zQI Q) := by
  refine zo_aload_n d_P_reply_0 rfl rfl ?_
  refine gf_P_spool wd_266 d_P_reply_1 ?_
  refine gf_O_down wd_224 d_P_reply_4 ?_
  refine zo_if_eq (tgt := 14) d_P_reply_7 (by decide) (fun c3 => ?_) (fun c3 => ?_)
  · replace hf := hf.1 c3
    refine zo_aload_n d_P_reply_14 rfl rfl ?_
    refine gf_P_spool wd_266 d_P_reply_15 ?_
    refine zo_aload_n d_P_reply_18 rfl rfl ?_
    refine gf_P_now wd_268 d_P_reply_19 ?_
    refine zo_callVR (d := d) (N := m_O_holderOfNext) (as := [vI (zi h 0 0 4)]) (n := 1) (zin (by decide) (by decide)) rfl rfl cv_O_holderOfNext wd_531 rfl rfl (Nat.le_of_ble_eq_true rfl) d_P_reply_22 hf (fun r2 g1 ho_r2 hf => ?_)
    exact hf
  · replace hf := hf.2 c3
    refine zo_null d_P_reply_10 ?_
    refine zo_goto (tgt := 25) d_P_reply_11 (by decide) ?_
    exact hf
theorem e_P_reply {d : Nat} (x1 : Int32)  {h : ZH} {Q : Int32 → ZH → Prop}
    (hf : (((zi h 5 0 4) = 0 → EvR 7 d m_O_holderOfNext [vQ (some (5, 0)), vI (zi h 0 0 4)] h (fun r2 g1 => EvAt (d + 1) m_P_reply 25 [some (vQ (some (0, 0))), some (vI x1), none, none] [vQ (r2.map (Prod.mk 7))] g1 (zQI Q))) ∧ (¬ (zi h 5 0 4) = 0 → EvAt (d + 1) m_P_reply 25 [some (vQ (some (0, 0))), some (vI x1), none, none] [vQ none] h (zQI Q)))) :
    EvI (d + 1) m_P_reply [vQ (some (0, 0)), vI x1] h Q := zo_entry (by decide) (Nat.le_of_ble_eq_true rfl) (w_P_reply_0 x1  hf)
set_option maxRecDepth 100000 in
set_option maxHeartbeats 4000000 in
theorem w_P_reply_25 {d : Nat} (x1 : Int32) (os0 : Option Nat) (hos0 : ∀ i, os0 = some i → i < 6) {h : ZH} {Q : Int32 → ZH → Prop}
    (hf : ((os0 = none → Q (-1 : Int32) h) ∧ (∀ n1, os0 = some n1 → n1 < 6 → EvI d m_P_isReplyCode [vI x1] h (fun y3 g2 => ((¬ y3 = 0 → EvR 9 d m_L_firstDue [vQ (some (7, n1)), vI (zi g2 0 0 4)] g2 (fun r5 g4 => ((r5 = none → Q (-1 : Int32) g4) ∧ (∀ n6, r5 = some n6 → n6 < 24 → (((300 : Int32) ≤ x1 → (((500 : Int32) ≤ x1 → EvI d m_P_giveBack [vQ (some (0, 0)), vQ (some (7, n1)), vQ (some (9, n6))] g4 (fun y8 g7 => Q y8 g7)) ∧ (¬ (500 : Int32) ≤ x1 → (((3 : Int32) ≤ (zi g4 9 n6 2) → EvI d m_P_giveBack [vQ (some (0, 0)), vQ (some (7, n1)), vQ (some (9, n6))] g4 (fun y10 g9 => Q y10 g9)) ∧ (¬ (3 : Int32) ≤ (zi g4 9 n6 2) → EvI d m_P_postpone [vQ (some (0, 0)), vQ (some (9, n6))] g4 (fun y12 g11 => Q y12 g11)))))) ∧ (¬ (300 : Int32) ≤ x1 → EvI d m_P_settle [vQ (some (0, 0)), vQ (some (7, n1)), vQ (some (9, n6)), vI (1 : Int32)] g4 (fun y16 g15 => Q y16 g15))))))) ∧ (y3 = 0 → Q (-1 : Int32) g2)))))) :
    EvAt (d + 1) m_P_reply 25 [some (vQ (some (0, 0))), some (vI x1), none, none] [vQ (os0.map (Prod.mk 7))] h (zQI Q) := by
  refine zo_astore_n d_P_reply_25 rfl (Nat.le_of_ble_eq_true rfl) rfl ?_
  refine zo_aload_n d_P_reply_26 rfl rfl ?_
  refine zo_ifnullK (tgt := 37) d_P_reply_27 (by decide) (fun z => ?_) (fun n1 z => ?_)
  · subst z
    replace hf := hf.1 rfl
    refine zo_iconst (v := (-1)) d_P_reply_37 (by decide) ?_
    exact zo_iretI rfl d_P_reply_38 hf
  · subst z
    have hv_n1 : n1 < 6 := hos0 n1 rfl
    replace hf := hf.2 n1 rfl hv_n1
    refine zo_iload_n d_P_reply_30 rfl rfl ?_
    refine zo_callSI (d := d) (N := m_P_isReplyCode) (as := [vI x1]) (n := 1) cs_P_isReplyCode wd_543 rfl rfl (Nat.le_of_ble_eq_true rfl) d_P_reply_31 hf (fun y3 g2 hf => ?_)
    refine zo_if_ne (tgt := 39) d_P_reply_34 (by decide) (fun c18 => ?_) (fun c18 => ?_)
    · replace hf := hf.1 c18
      refine zo_aload_n d_P_reply_39 rfl rfl ?_
      refine zo_aload_n d_P_reply_40 rfl rfl ?_
      refine gf_P_now wd_268 d_P_reply_41 ?_
      refine zo_callVR (d := d) (N := m_L_firstDue) (as := [vI (zi g2 0 0 4)]) (n := 1) (zin (by decide) hv_n1) rfl rfl cv_L_firstDue wd_546 rfl rfl (Nat.le_of_ble_eq_true rfl) d_P_reply_44 hf (fun r5 g4 ho_r5 hf => ?_)
      refine zo_astore_n d_P_reply_47 rfl (Nat.le_of_ble_eq_true rfl) rfl ?_
      refine zo_aload_n d_P_reply_48 rfl rfl ?_
      refine zo_ifnonnullK (tgt := 54) d_P_reply_49 (by decide) (fun n6 z => ?_) (fun z => ?_)
      · subst z
        have hv_n6 : n6 < 24 := ho_r5 n6 rfl
        replace hf := hf.2 n6 rfl hv_n6
        refine zo_iload_n d_P_reply_54 rfl rfl ?_
        refine zo_sipush (v := 300) d_P_reply_55 (by decide) ?_
        refine zo_icmp_ge (tgt := 69) d_P_reply_58 (by decide) (fun c17 => ?_) (fun c17 => ?_)
        · replace hf := hf.1 c17
          refine zo_iload_n d_P_reply_69 rfl rfl ?_
          refine zo_sipush (v := 500) d_P_reply_70 (by decide) ?_
          refine zo_icmp_ge (tgt := 90) d_P_reply_73 (by decide) (fun c14 => ?_) (fun c14 => ?_)
          · replace hf := hf.1 c14
            refine zo_aload_n d_P_reply_90 rfl rfl ?_
            refine zo_aload_n d_P_reply_91 rfl rfl ?_
            refine zo_aload_n d_P_reply_92 rfl rfl ?_
            refine zo_callVI (d := d) (N := m_P_giveBack) (as := [vQ (some (7, n1)), vQ (some (9, n6))]) (n := 2) (zin (by decide) (by decide)) rfl rfl cv_P_giveBack wd_561 rfl rfl (Nat.le_of_ble_eq_true rfl) d_P_reply_93 hf (fun y8 g7 hf => ?_)
            exact zo_iretI rfl d_P_reply_96 hf
          · replace hf := hf.2 c14
            refine zo_aload_n d_P_reply_76 rfl rfl ?_
            refine gf_C_tries wd_180 hv_n6 d_P_reply_77 ?_
            refine zo_iconst (v := 3) d_P_reply_80 (by decide) ?_
            refine zo_icmp_ge (tgt := 90) d_P_reply_81 (by decide) (fun c13 => ?_) (fun c13 => ?_)
            · replace hf := hf.1 c13
              refine zo_aload_n d_P_reply_90 rfl rfl ?_
              refine zo_aload_n d_P_reply_91 rfl rfl ?_
              refine zo_aload_n d_P_reply_92 rfl rfl ?_
              refine zo_callVI (d := d) (N := m_P_giveBack) (as := [vQ (some (7, n1)), vQ (some (9, n6))]) (n := 2) (zin (by decide) (by decide)) rfl rfl cv_P_giveBack wd_561 rfl rfl (Nat.le_of_ble_eq_true rfl) d_P_reply_93 hf (fun y10 g9 hf => ?_)
              exact zo_iretI rfl d_P_reply_96 hf
            · replace hf := hf.2 c13
              refine zo_aload_n d_P_reply_84 rfl rfl ?_
              refine zo_aload_n d_P_reply_85 rfl rfl ?_
              refine zo_callVI (d := d) (N := m_P_postpone) (as := [vQ (some (9, n6))]) (n := 1) (zin (by decide) (by decide)) rfl rfl cv_P_postpone wd_557 rfl rfl (Nat.le_of_ble_eq_true rfl) d_P_reply_86 hf (fun y12 g11 hf => ?_)
              exact zo_iretI rfl d_P_reply_89 hf
        · replace hf := hf.2 c17
          refine zo_aload_n d_P_reply_61 rfl rfl ?_
          refine zo_aload_n d_P_reply_62 rfl rfl ?_
          refine zo_aload_n d_P_reply_63 rfl rfl ?_
          refine zo_iconst (v := 1) d_P_reply_64 (by decide) ?_
          refine zo_callVI (d := d) (N := m_P_settle) (as := [vQ (some (7, n1)), vQ (some (9, n6)), vI (1 : Int32)]) (n := 3) (zin (by decide) (by decide)) rfl rfl cv_P_settle wd_547 rfl rfl (Nat.le_of_ble_eq_true rfl) d_P_reply_65 hf (fun y16 g15 hf => ?_)
          exact zo_iretI rfl d_P_reply_68 hf
      · subst z
        replace hf := hf.1 rfl
        refine zo_iconst (v := (-1)) d_P_reply_52 (by decide) ?_
        exact zo_iretI rfl d_P_reply_53 hf
    · replace hf := hf.2 c18
      refine zo_iconst (v := (-1)) d_P_reply_37 (by decide) ?_
      exact zo_iretI rfl d_P_reply_38 hf
set_option maxRecDepth 100000 in
set_option maxHeartbeats 4000000 in
theorem w_P_isReplyCode_0 {d : Nat} (x0 : Int32)  {h : ZH} {Q : Int32 → ZH → Prop}
    (hf : ((x0 < (200 : Int32) → EvAt d m_P_isReplyCode 14 [some (vI x0)] [] h (zQI Q)) ∧ (¬ x0 < (200 : Int32) → ((x0 ≤ (299 : Int32) → Q (1 : Int32) h) ∧ (¬ x0 ≤ (299 : Int32) → EvAt d m_P_isReplyCode 14 [some (vI x0)] [] h (zQI Q)))))) :
    EvAt d m_P_isReplyCode 0 [some (vI x0)] [] h (zQI Q) := by
  refine zo_iload_n d_P_isReplyCode_0 rfl rfl ?_
  refine zo_sipush (v := 200) d_P_isReplyCode_1 (by decide) ?_
  refine zo_icmp_lt (tgt := 14) d_P_isReplyCode_4 (by decide) (fun c2 => ?_) (fun c2 => ?_)
  · replace hf := hf.1 c2
    exact hf
  · replace hf := hf.2 c2
    refine zo_iload_n d_P_isReplyCode_7 rfl rfl ?_
    refine zo_sipush (v := 299) d_P_isReplyCode_8 (by decide) ?_
    refine zo_icmp_le (tgt := 28) d_P_isReplyCode_11 (by decide) (fun c1 => ?_) (fun c1 => ?_)
    · replace hf := hf.1 c1
      refine zo_iconst (v := 1) d_P_isReplyCode_28 (by decide) ?_
      refine zo_goto (tgt := 33) d_P_isReplyCode_29 (by decide) ?_
      exact zo_zretI (ty := .boolean) rfl rfl d_P_isReplyCode_33 hf
    · replace hf := hf.2 c1
      exact hf
theorem e_P_isReplyCode {d : Nat} (x0 : Int32)  {h : ZH} {Q : Int32 → ZH → Prop}
    (hf : ((x0 < (200 : Int32) → EvAt d m_P_isReplyCode 14 [some (vI x0)] [] h (zQI Q)) ∧ (¬ x0 < (200 : Int32) → ((x0 ≤ (299 : Int32) → Q (1 : Int32) h) ∧ (¬ x0 ≤ (299 : Int32) → EvAt d m_P_isReplyCode 14 [some (vI x0)] [] h (zQI Q)))))) :
    EvI d m_P_isReplyCode [vI x0] h Q := zo_entry (by decide) (Nat.le_of_ble_eq_true rfl) (w_P_isReplyCode_0 x0  hf)
set_option maxRecDepth 100000 in
set_option maxHeartbeats 4000000 in
theorem w_P_isReplyCode_14 {d : Nat} (x0 : Int32)  {h : ZH} {Q : Int32 → ZH → Prop}
    (hf : ((x0 < (400 : Int32) → Q (0 : Int32) h) ∧ (¬ x0 < (400 : Int32) → (((599 : Int32) < x0 → Q (0 : Int32) h) ∧ (¬ (599 : Int32) < x0 → Q (1 : Int32) h))))) :
    EvAt d m_P_isReplyCode 14 [some (vI x0)] [] h (zQI Q) := by
  refine zo_iload_n d_P_isReplyCode_14 rfl rfl ?_
  refine zo_sipush (v := 400) d_P_isReplyCode_15 (by decide) ?_
  refine zo_icmp_lt (tgt := 32) d_P_isReplyCode_18 (by decide) (fun c2 => ?_) (fun c2 => ?_)
  · replace hf := hf.1 c2
    refine zo_iconst (v := 0) d_P_isReplyCode_32 (by decide) ?_
    exact zo_zretI (ty := .boolean) rfl rfl d_P_isReplyCode_33 hf
  · replace hf := hf.2 c2
    refine zo_iload_n d_P_isReplyCode_21 rfl rfl ?_
    refine zo_sipush (v := 599) d_P_isReplyCode_22 (by decide) ?_
    refine zo_icmp_gt (tgt := 32) d_P_isReplyCode_25 (by decide) (fun c1 => ?_) (fun c1 => ?_)
    · replace hf := hf.1 c1
      refine zo_iconst (v := 0) d_P_isReplyCode_32 (by decide) ?_
      exact zo_zretI (ty := .boolean) rfl rfl d_P_isReplyCode_33 hf
    · replace hf := hf.2 c1
      refine zo_iconst (v := 1) d_P_isReplyCode_28 (by decide) ?_
      refine zo_goto (tgt := 33) d_P_isReplyCode_29 (by decide) ?_
      exact zo_zretI (ty := .boolean) rfl rfl d_P_isReplyCode_33 hf
set_option maxRecDepth 100000 in
set_option maxHeartbeats 4000000 in
theorem w_P_settle_0 {d : Nat} (i1 : Nat) (i2 : Nat) (x3 : Int32) (hi1 : i1 < 6) (hi2 : i2 < 24) {h : ZH} {Q : Int32 → ZH → Prop}
    (hf : EvI d m_O_write [vQ (some (5, 0))] h (fun y2 g1 => ((¬ y2 = 0 → EvI d m_L_isAwaited [vQ (some (7, i1))] (zw g1 9 i2 1 x3) (fun y4 g3 => ((¬ y4 = 0 → Q x3 g3) ∧ (y4 = 0 → EvV d m_O_drop [vQ (some (5, 0)), vQ (some (7, i1))] g3 (fun g5 => Q x3 g5))))) ∧ (y2 = 0 → Q (0 : Int32) g1)))) :
    EvAt (d + 1) m_P_settle 0 [some (vQ (some (0, 0))), some (vQ (some (7, i1))), some (vQ (some (9, i2))), some (vI x3)] [] h (zQI Q) := by
  refine zo_aload_n d_P_settle_0 rfl rfl ?_
  refine gf_P_spool wd_266 d_P_settle_1 ?_
  refine zo_callVI (d := d) (N := m_O_write) (as := []) (n := 0) (zin (by decide) (by decide)) rfl rfl cv_O_write wd_551 rfl rfl (Nat.le_of_ble_eq_true rfl) d_P_settle_4 hf (fun y2 g1 hf => ?_)
  refine zo_if_ne (tgt := 12) d_P_settle_7 (by decide) (fun c7 => ?_) (fun c7 => ?_)
  · replace hf := hf.1 c7
    refine zo_aload_n d_P_settle_12 rfl rfl ?_
    refine zo_iload_n d_P_settle_13 rfl rfl ?_
    refine pf_C_fate wd_178 hi2 d_P_settle_14 ?_
    refine zo_aload_n d_P_settle_17 rfl rfl ?_
    refine zo_callVI (d := d) (N := m_L_isAwaited) (as := []) (n := 0) (zin (by decide) hi1) rfl rfl cv_L_isAwaited wd_552 rfl rfl (Nat.le_of_ble_eq_true rfl) d_P_settle_18 hf (fun y4 g3 hf => ?_)
    refine zo_if_ne (tgt := 32) d_P_settle_21 (by decide) (fun c6 => ?_) (fun c6 => ?_)
    · replace hf := hf.1 c6
      refine zo_iload_n d_P_settle_32 rfl rfl ?_
      exact zo_iretI rfl d_P_settle_33 hf
    · replace hf := hf.2 c6
      refine zo_aload_n d_P_settle_24 rfl rfl ?_
      refine gf_P_spool wd_266 d_P_settle_25 ?_
      refine zo_aload_n d_P_settle_28 rfl rfl ?_
      refine zo_callVV (d := d) (N := m_O_drop) (as := [vQ (some (7, i1))]) (n := 1) (zin (by decide) (by decide)) rfl rfl cv_O_drop wd_556 rfl rfl (Nat.le_of_ble_eq_true rfl) d_P_settle_29 hf (fun g5 hf => ?_)
      refine zo_iload_n d_P_settle_32 rfl rfl ?_
      exact zo_iretI rfl d_P_settle_33 hf
  · replace hf := hf.2 c7
    refine zo_iconst (v := 0) d_P_settle_10 (by decide) ?_
    exact zo_iretI rfl d_P_settle_11 hf
theorem e_P_settle {d : Nat} (i1 : Nat) (i2 : Nat) (x3 : Int32) (hi1 : i1 < 6) (hi2 : i2 < 24) {h : ZH} {Q : Int32 → ZH → Prop}
    (hf : EvI d m_O_write [vQ (some (5, 0))] h (fun y2 g1 => ((¬ y2 = 0 → EvI d m_L_isAwaited [vQ (some (7, i1))] (zw g1 9 i2 1 x3) (fun y4 g3 => ((¬ y4 = 0 → Q x3 g3) ∧ (y4 = 0 → EvV d m_O_drop [vQ (some (5, 0)), vQ (some (7, i1))] g3 (fun g5 => Q x3 g5))))) ∧ (y2 = 0 → Q (0 : Int32) g1)))) :
    EvI (d + 1) m_P_settle [vQ (some (0, 0)), vQ (some (7, i1)), vQ (some (9, i2)), vI x3] h Q := zo_entry (by decide) (Nat.le_of_ble_eq_true rfl) (w_P_settle_0 i1 i2 x3 hi1 hi2 hf)
set_option maxRecDepth 100000 in
set_option maxHeartbeats 4000000 in
theorem w_P_postpone_0 {d : Nat} (i1 : Nat) (hi1 : i1 < 24) {h : ZH} {Q : Int32 → ZH → Prop}
    (hf : EvI d m_O_write [vQ (some (5, 0))] h (fun y2 g1 => ((y2 = 0 → Q (0 : Int32) g1) ∧ (¬ y2 = 0 → Q (0 : Int32) (zw (zw g1 9 i1 2 ((zi g1 9 i1 2) + (1 : Int32))) 9 i1 3 ((zi (zw g1 9 i1 2 ((zi g1 9 i1 2) + (1 : Int32))) 0 0 4) + ((1 : Int32) <<< (((2 : Int32) * (zi (zw g1 9 i1 2 ((zi g1 9 i1 2) + (1 : Int32))) 9 i1 2)) &&& 31)))))))) :
    EvAt (d + 1) m_P_postpone 0 [some (vQ (some (0, 0))), some (vQ (some (9, i1)))] [] h (zQI Q) := by
  refine zo_aload_n d_P_postpone_0 rfl rfl ?_
  refine gf_P_spool wd_266 d_P_postpone_1 ?_
  refine zo_callVI (d := d) (N := m_O_write) (as := []) (n := 0) (zin (by decide) (by decide)) rfl rfl cv_O_write wd_551 rfl rfl (Nat.le_of_ble_eq_true rfl) d_P_postpone_4 hf (fun y2 g1 hf => ?_)
  refine zo_if_eq (tgt := 37) d_P_postpone_7 (by decide) (fun c3 => ?_) (fun c3 => ?_)
  · replace hf := hf.1 c3
    refine zo_iconst (v := 0) d_P_postpone_37 (by decide) ?_
    exact zo_iretI rfl d_P_postpone_38 hf
  · replace hf := hf.2 c3
    refine zo_aload_n d_P_postpone_10 rfl rfl ?_
    refine zo_dup rfl d_P_postpone_11 ?_
    refine gf_C_tries wd_180 hi1 d_P_postpone_12 ?_
    refine zo_iconst (v := 1) d_P_postpone_15 (by decide) ?_
    refine zo_iadd d_P_postpone_16 ?_
    refine pf_C_tries wd_180 hi1 d_P_postpone_17 ?_
    refine zo_aload_n d_P_postpone_20 rfl rfl ?_
    refine zo_aload_n d_P_postpone_21 rfl rfl ?_
    refine gf_P_now wd_268 d_P_postpone_22 ?_
    refine zo_iconst (v := 1) d_P_postpone_25 (by decide) ?_
    refine zo_iconst (v := 2) d_P_postpone_26 (by decide) ?_
    refine zo_aload_n d_P_postpone_27 rfl rfl ?_
    refine gf_C_tries wd_180 hi1 d_P_postpone_28 ?_
    refine zo_imul d_P_postpone_31 ?_
    refine zo_ishl d_P_postpone_32 ?_
    refine zo_iadd d_P_postpone_33 ?_
    refine pf_C_due wd_183 hi1 d_P_postpone_34 ?_
    refine zo_iconst (v := 0) d_P_postpone_37 (by decide) ?_
    exact zo_iretI rfl d_P_postpone_38 hf
theorem e_P_postpone {d : Nat} (i1 : Nat) (hi1 : i1 < 24) {h : ZH} {Q : Int32 → ZH → Prop}
    (hf : EvI d m_O_write [vQ (some (5, 0))] h (fun y2 g1 => ((y2 = 0 → Q (0 : Int32) g1) ∧ (¬ y2 = 0 → Q (0 : Int32) (zw (zw g1 9 i1 2 ((zi g1 9 i1 2) + (1 : Int32))) 9 i1 3 ((zi (zw g1 9 i1 2 ((zi g1 9 i1 2) + (1 : Int32))) 0 0 4) + ((1 : Int32) <<< (((2 : Int32) * (zi (zw g1 9 i1 2 ((zi g1 9 i1 2) + (1 : Int32))) 9 i1 2)) &&& 31)))))))) :
    EvI (d + 1) m_P_postpone [vQ (some (0, 0)), vQ (some (9, i1))] h Q := zo_entry (by decide) (Nat.le_of_ble_eq_true rfl) (w_P_postpone_0 i1 hi1 hf)
set_option maxRecDepth 100000 in
set_option maxHeartbeats 4000000 in
theorem w_P_giveBack_0 {d : Nat} (i1 : Nat) (i2 : Nat) (hi1 : i1 < 6) (hi2 : i2 < 24) {h : ZH} {Q : Int32 → ZH → Prop}
    (hf : (((zi h 1 (7 + i1) 1) ≤ 0 → EvAt (d + 1) m_P_giveBack 24 [some (vQ (some (0, 0))), some (vQ (some (7, i1))), some (vQ (some (9, i2))), none] [] h (zQI Q)) ∧ (¬ (zi h 1 (7 + i1) 1) ≤ 0 → EvI d m_O_isFull [vQ (some (5, 0))] h (fun y2 g1 => ((¬ y2 = 0 → EvAt (d + 1) m_P_giveBack 24 [some (vQ (some (0, 0))), some (vQ (some (7, i1))), some (vQ (some (9, i2))), none] [] g1 (zQI Q)) ∧ (y2 = 0 → EvAt (d + 1) m_P_giveBack 25 [some (vQ (some (0, 0))), some (vQ (some (7, i1))), some (vQ (some (9, i2))), none] [vI (1 : Int32)] g1 (zQI Q))))))) :
    EvAt (d + 1) m_P_giveBack 0 [some (vQ (some (0, 0))), some (vQ (some (7, i1))), some (vQ (some (9, i2))), none] [] h (zQI Q) := by
  refine zo_aload_n d_P_giveBack_0 rfl rfl ?_
  refine gf_L_sender wd_194 hi1 d_P_giveBack_1 ?_
  refine gf_R_length wd_99 (show 7 + i1 < 43 by omega) d_P_giveBack_4 ?_
  refine zo_if_le (tgt := 24) d_P_giveBack_7 (by decide) (fun c4 => ?_) (fun c4 => ?_)
  · replace hf := hf.1 c4
    exact hf
  · replace hf := hf.2 c4
    refine zo_aload_n d_P_giveBack_10 rfl rfl ?_
    refine gf_P_spool wd_266 d_P_giveBack_11 ?_
    refine zo_callVI (d := d) (N := m_O_isFull) (as := []) (n := 0) (zin (by decide) (by decide)) rfl rfl cv_O_isFull wd_311 rfl rfl (Nat.le_of_ble_eq_true rfl) d_P_giveBack_14 hf (fun y2 g1 hf => ?_)
    refine zo_if_ne (tgt := 24) d_P_giveBack_17 (by decide) (fun c3 => ?_) (fun c3 => ?_)
    · replace hf := hf.1 c3
      exact hf
    · replace hf := hf.2 c3
      refine zo_iconst (v := 1) d_P_giveBack_20 (by decide) ?_
      refine zo_goto (tgt := 25) d_P_giveBack_21 (by decide) ?_
      exact hf
theorem e_P_giveBack {d : Nat} (i1 : Nat) (i2 : Nat) (hi1 : i1 < 6) (hi2 : i2 < 24) {h : ZH} {Q : Int32 → ZH → Prop}
    (hf : (((zi h 1 (7 + i1) 1) ≤ 0 → EvAt (d + 1) m_P_giveBack 24 [some (vQ (some (0, 0))), some (vQ (some (7, i1))), some (vQ (some (9, i2))), none] [] h (zQI Q)) ∧ (¬ (zi h 1 (7 + i1) 1) ≤ 0 → EvI d m_O_isFull [vQ (some (5, 0))] h (fun y2 g1 => ((¬ y2 = 0 → EvAt (d + 1) m_P_giveBack 24 [some (vQ (some (0, 0))), some (vQ (some (7, i1))), some (vQ (some (9, i2))), none] [] g1 (zQI Q)) ∧ (y2 = 0 → EvAt (d + 1) m_P_giveBack 25 [some (vQ (some (0, 0))), some (vQ (some (7, i1))), some (vQ (some (9, i2))), none] [vI (1 : Int32)] g1 (zQI Q))))))) :
    EvI (d + 1) m_P_giveBack [vQ (some (0, 0)), vQ (some (7, i1)), vQ (some (9, i2))] h Q := zo_entry (by decide) (Nat.le_of_ble_eq_true rfl) (w_P_giveBack_0 i1 i2 hi1 hi2 hf)
set_option maxRecDepth 100000 in
set_option maxHeartbeats 4000000 in
theorem w_P_giveBack_24 {d : Nat} (i1 : Nat) (i2 : Nat) (hi1 : i1 < 6) (hi2 : i2 < 24) {h : ZH} {Q : Int32 → ZH → Prop}
    (hf : EvAt (d + 1) m_P_giveBack 25 [some (vQ (some (0, 0))), some (vQ (some (7, i1))), some (vQ (some (9, i2))), none] [vI (0 : Int32)] h (zQI Q)) :
    EvAt (d + 1) m_P_giveBack 24 [some (vQ (some (0, 0))), some (vQ (some (7, i1))), some (vQ (some (9, i2))), none] [] h (zQI Q) := by
  refine zo_iconst (v := 0) d_P_giveBack_24 (by decide) ?_
  exact hf
set_option maxRecDepth 100000 in
set_option maxHeartbeats 4000000 in
theorem w_P_giveBack_25 {d : Nat} (i1 : Nat) (i2 : Nat) (xs0 : Int32) (hi1 : i1 < 6) (hi2 : i2 < 24) {h : ZH} {Q : Int32 → ZH → Prop}
    (hf : ((xs0 = 0 → EvI d m_P_settle [vQ (some (0, 0)), vQ (some (7, i1)), vQ (some (9, i2)), vI (2 : Int32)] h (fun y2 g1 => Q y2 g1)) ∧ (¬ xs0 = 0 → EvI d m_P_spoolReturn [vQ (some (0, 0)), vQ (some (7, i1)), vQ (some (9, i2))] h (fun y4 g3 => ((¬ y4 = 0 → EvI d m_P_settle [vQ (some (0, 0)), vQ (some (7, i1)), vQ (some (9, i2)), vI (2 : Int32)] g3 (fun y6 g5 => Q y6 g5)) ∧ (y4 = 0 → Q (0 : Int32) g3)))))) :
    EvAt (d + 1) m_P_giveBack 25 [some (vQ (some (0, 0))), some (vQ (some (7, i1))), some (vQ (some (9, i2))), none] [vI xs0] h (zQI Q) := by
  refine zo_istore_n d_P_giveBack_25 rfl (Nat.le_of_ble_eq_true rfl) rfl ?_
  refine zo_iload_n d_P_giveBack_26 rfl rfl ?_
  refine zo_if_eq (tgt := 41) d_P_giveBack_27 (by decide) (fun c8 => ?_) (fun c8 => ?_)
  · replace hf := hf.1 c8
    refine zo_aload_n d_P_giveBack_41 rfl rfl ?_
    refine zo_aload_n d_P_giveBack_42 rfl rfl ?_
    refine zo_aload_n d_P_giveBack_43 rfl rfl ?_
    refine zo_iconst (v := 2) d_P_giveBack_44 (by decide) ?_
    refine zo_callVI (d := d) (N := m_P_settle) (as := [vQ (some (7, i1)), vQ (some (9, i2)), vI (2 : Int32)]) (n := 3) (zin (by decide) (by decide)) rfl rfl cv_P_settle wd_547 rfl rfl (Nat.le_of_ble_eq_true rfl) d_P_giveBack_45 hf (fun y2 g1 hf => ?_)
    exact zo_iretI rfl d_P_giveBack_48 hf
  · replace hf := hf.2 c8
    refine zo_aload_n d_P_giveBack_30 rfl rfl ?_
    refine zo_aload_n d_P_giveBack_31 rfl rfl ?_
    refine zo_aload_n d_P_giveBack_32 rfl rfl ?_
    refine zo_callVI (d := d) (N := m_P_spoolReturn) (as := [vQ (some (7, i1)), vQ (some (9, i2))]) (n := 2) (zin (by decide) (by decide)) rfl rfl cv_P_spoolReturn wd_565 rfl rfl (Nat.le_of_ble_eq_true rfl) d_P_giveBack_33 hf (fun y4 g3 hf => ?_)
    refine zo_if_ne (tgt := 41) d_P_giveBack_36 (by decide) (fun c7 => ?_) (fun c7 => ?_)
    · replace hf := hf.1 c7
      refine zo_aload_n d_P_giveBack_41 rfl rfl ?_
      refine zo_aload_n d_P_giveBack_42 rfl rfl ?_
      refine zo_aload_n d_P_giveBack_43 rfl rfl ?_
      refine zo_iconst (v := 2) d_P_giveBack_44 (by decide) ?_
      refine zo_callVI (d := d) (N := m_P_settle) (as := [vQ (some (7, i1)), vQ (some (9, i2)), vI (2 : Int32)]) (n := 3) (zin (by decide) (by decide)) rfl rfl cv_P_settle wd_547 rfl rfl (Nat.le_of_ble_eq_true rfl) d_P_giveBack_45 hf (fun y6 g5 hf => ?_)
      exact zo_iretI rfl d_P_giveBack_48 hf
    · replace hf := hf.2 c7
      refine zo_iconst (v := 0) d_P_giveBack_39 (by decide) ?_
      exact zo_iretI rfl d_P_giveBack_40 hf
set_option maxRecDepth 100000 in
set_option maxHeartbeats 4000000 in
theorem w_P_spoolReturn_0 {d : Nat} (i1 : Nat) (i2 : Nat) (hi1 : i1 < 6) (hi2 : i2 < 24) {h : ZH} {Q : Int32 → ZH → Prop}
    (hf : EvR 7 d m_O_begin [vQ (some (5, 0))] h (fun r2 g1 => ((r2 = none → Q (0 : Int32) g1) ∧ (∀ n3, r2 = some n3 → n3 < 6 → EvV d m_L_address [vQ (some (7, n3)), vQ (some (1, 7 + i1)), vI (zi g1 0 0 4)] g1 (fun g4 => EvV d m_R_add [vQ (some (1, 13 + n3)), vI (10 : Int32)] g4 (fun g5 => EvV d m_R_addWords [vQ (some (1, 13 + n3)), vQ (some (22, 10))] g5 (fun g6 => EvV d m_R_addRow [vQ (some (1, 13 + n3)), vQ (some (1, 19 + i2))] g6 (fun g7 => EvV d m_R_add [vQ (some (1, 13 + n3)), vI (10 : Int32)] g7 (fun g8 => EvI d m_O_seal [vQ (some (5, 0)), vQ (some (7, n3))] g8 (fun y10 g9 => (narrow .boolean (.int y10) = .int y10 ∧ Q y10 g9))))))))))) :
    EvAt (d + 1) m_P_spoolReturn 0 [some (vQ (some (0, 0))), some (vQ (some (7, i1))), some (vQ (some (9, i2))), none] [] h (zQI Q) := by
  refine zo_aload_n d_P_spoolReturn_0 rfl rfl ?_
  refine gf_P_spool wd_266 d_P_spoolReturn_1 ?_
  refine zo_callVR (d := d) (N := m_O_begin) (as := []) (n := 0) (zin (by decide) (by decide)) rfl rfl cv_O_begin wd_319 rfl rfl (Nat.le_of_ble_eq_true rfl) d_P_spoolReturn_4 hf (fun r2 g1 ho_r2 hf => ?_)
  refine zo_astore_n d_P_spoolReturn_7 rfl (Nat.le_of_ble_eq_true rfl) rfl ?_
  refine zo_aload_n d_P_spoolReturn_8 rfl rfl ?_
  refine zo_ifnonnullK (tgt := 14) d_P_spoolReturn_9 (by decide) (fun n3 z => ?_) (fun z => ?_)
  · subst z
    have hv_n3 : n3 < 6 := ho_r2 n3 rfl
    replace hf := hf.2 n3 rfl hv_n3
    refine zo_aload_n d_P_spoolReturn_14 rfl rfl ?_
    refine zo_aload_n d_P_spoolReturn_15 rfl rfl ?_
    refine gf_L_sender wd_194 hi1 d_P_spoolReturn_16 ?_
    refine zo_aload_n d_P_spoolReturn_19 rfl rfl ?_
    refine gf_P_now wd_268 d_P_spoolReturn_20 ?_
    refine zo_callVV (d := d) (N := m_L_address) (as := [vQ (some (1, 7 + i1)), vI (zi g1 0 0 4)]) (n := 2) (zin (by decide) hv_n3) rfl rfl cv_L_address wd_346 rfl rfl (Nat.le_of_ble_eq_true rfl) d_P_spoolReturn_23 hf (fun g4 hf => ?_)
    refine zo_aload_n d_P_spoolReturn_26 rfl rfl ?_
    refine gf_L_text wd_198 hv_n3 d_P_spoolReturn_27 ?_
    refine zo_bipush (v := 10) d_P_spoolReturn_30 (by decide) ?_
    refine zo_callVV (d := d) (N := m_R_add) (as := [vI (10 : Int32)]) (n := 1) (zin (by decide) (show 13 + n3 < 43 by omega)) rfl rfl cv_R_add wd_291 rfl rfl (Nat.le_of_ble_eq_true rfl) d_P_spoolReturn_32 hf (fun g5 hf => ?_)
    refine zo_aload_n d_P_spoolReturn_35 rfl rfl ?_
    refine gf_L_text wd_198 hv_n3 d_P_spoolReturn_36 ?_
    refine zc_ldc10 rfl d_P_spoolReturn_39 ?_
    refine zo_callVV (d := d) (N := m_R_addWords) (as := [vQ (some (22, 10))]) (n := 1) (zin (by decide) (show 13 + n3 < 43 by omega)) rfl rfl cv_R_addWords wd_570 rfl rfl (Nat.le_of_ble_eq_true rfl) d_P_spoolReturn_42 hf (fun g6 hf => ?_)
    refine zo_aload_n d_P_spoolReturn_45 rfl rfl ?_
    refine gf_L_text wd_198 hv_n3 d_P_spoolReturn_46 ?_
    refine zo_aload_n d_P_spoolReturn_49 rfl rfl ?_
    refine gf_C_path wd_176 hi2 d_P_spoolReturn_50 ?_
    refine zo_callVV (d := d) (N := m_R_addRow) (as := [vQ (some (1, 19 + i2))]) (n := 1) (zin (by decide) (show 13 + n3 < 43 by omega)) rfl rfl cv_R_addRow wd_336 rfl rfl (Nat.le_of_ble_eq_true rfl) d_P_spoolReturn_53 hf (fun g7 hf => ?_)
    refine zo_aload_n d_P_spoolReturn_56 rfl rfl ?_
    refine gf_L_text wd_198 hv_n3 d_P_spoolReturn_57 ?_
    refine zo_bipush (v := 10) d_P_spoolReturn_60 (by decide) ?_
    refine zo_callVV (d := d) (N := m_R_add) (as := [vI (10 : Int32)]) (n := 1) (zin (by decide) (show 13 + n3 < 43 by omega)) rfl rfl cv_R_add wd_291 rfl rfl (Nat.le_of_ble_eq_true rfl) d_P_spoolReturn_62 hf (fun g8 hf => ?_)
    refine zo_aload_n d_P_spoolReturn_65 rfl rfl ?_
    refine gf_P_spool wd_266 d_P_spoolReturn_66 ?_
    refine zo_aload_n d_P_spoolReturn_69 rfl rfl ?_
    refine zo_callVI (d := d) (N := m_O_seal) (as := [vQ (some (7, n3))]) (n := 1) (zin (by decide) (by decide)) rfl rfl cv_O_seal wd_351 rfl rfl (Nat.le_of_ble_eq_true rfl) d_P_spoolReturn_70 hf (fun y10 g9 hf => ?_)
    exact zo_zretI (ty := .boolean) rfl hf.1 d_P_spoolReturn_73 hf.2
  · subst z
    replace hf := hf.1 rfl
    refine zo_iconst (v := 0) d_P_spoolReturn_12 (by decide) ?_
    exact zo_zretI (ty := .boolean) rfl rfl d_P_spoolReturn_13 hf
theorem e_P_spoolReturn {d : Nat} (i1 : Nat) (i2 : Nat) (hi1 : i1 < 6) (hi2 : i2 < 24) {h : ZH} {Q : Int32 → ZH → Prop}
    (hf : EvR 7 d m_O_begin [vQ (some (5, 0))] h (fun r2 g1 => ((r2 = none → Q (0 : Int32) g1) ∧ (∀ n3, r2 = some n3 → n3 < 6 → EvV d m_L_address [vQ (some (7, n3)), vQ (some (1, 7 + i1)), vI (zi g1 0 0 4)] g1 (fun g4 => EvV d m_R_add [vQ (some (1, 13 + n3)), vI (10 : Int32)] g4 (fun g5 => EvV d m_R_addWords [vQ (some (1, 13 + n3)), vQ (some (22, 10))] g5 (fun g6 => EvV d m_R_addRow [vQ (some (1, 13 + n3)), vQ (some (1, 19 + i2))] g6 (fun g7 => EvV d m_R_add [vQ (some (1, 13 + n3)), vI (10 : Int32)] g7 (fun g8 => EvI d m_O_seal [vQ (some (5, 0)), vQ (some (7, n3))] g8 (fun y10 g9 => (narrow .boolean (.int y10) = .int y10 ∧ Q y10 g9))))))))))) :
    EvI (d + 1) m_P_spoolReturn [vQ (some (0, 0)), vQ (some (7, i1)), vQ (some (9, i2))] h Q := zo_entry (by decide) (Nat.le_of_ble_eq_true rfl) (w_P_spoolReturn_0 i1 i2 hi1 hi2 hf)
set_option maxRecDepth 100000 in
set_option maxHeartbeats 4000000 in
theorem w_P_state_0 {d : Nat}   {h : ZH} {Q : Int32 → ZH → Prop}
    (hf : (((zi h 5 0 4) = 0 → (((zi h 3 0 6) = 0 → (((zi h 3 0 5) = 0 → (((zi h 3 0 4) = 0 → Q (1 : Int32) h) ∧ (¬ (zi h 3 0 4) = 0 → Q (2 : Int32) h))) ∧ (¬ (zi h 3 0 5) = 0 → Q (3 : Int32) h))) ∧ (¬ (zi h 3 0 6) = 0 → Q (4 : Int32) h))) ∧ (¬ (zi h 5 0 4) = 0 → Q (0 : Int32) h))) :
    EvAt d m_P_state 0 [some (vQ (some (0, 0)))] [] h (zQI Q) := by
  refine zo_aload_n d_P_state_0 rfl rfl ?_
  refine gf_P_spool wd_266 d_P_state_1 ?_
  refine gf_O_down wd_224 d_P_state_4 ?_
  refine zo_if_eq (tgt := 12) d_P_state_7 (by decide) (fun c4 => ?_) (fun c4 => ?_)
  · replace hf := hf.1 c4
    refine zo_aload_n d_P_state_12 rfl rfl ?_
    refine gf_P_session wd_265 d_P_state_13 ?_
    refine gf_S_taking wd_130 d_P_state_16 ?_
    refine zo_if_eq (tgt := 24) d_P_state_19 (by decide) (fun c3 => ?_) (fun c3 => ?_)
    · replace hf := hf.1 c3
      refine zo_aload_n d_P_state_24 rfl rfl ?_
      refine gf_P_session wd_265 d_P_state_25 ?_
      refine gf_S_inTransaction wd_128 d_P_state_28 ?_
      refine zo_if_eq (tgt := 36) d_P_state_31 (by decide) (fun c2 => ?_) (fun c2 => ?_)
      · replace hf := hf.1 c2
        refine zo_aload_n d_P_state_36 rfl rfl ?_
        refine gf_P_session wd_265 d_P_state_37 ?_
        refine gf_S_greeted wd_126 d_P_state_40 ?_
        refine zo_if_eq (tgt := 50) d_P_state_43 (by decide) (fun c1 => ?_) (fun c1 => ?_)
        · replace hf := hf.1 c1
          refine zo_iconst (v := 1) d_P_state_50 (by decide) ?_
          exact zo_iretI rfl d_P_state_51 hf
        · replace hf := hf.2 c1
          refine zo_iconst (v := 2) d_P_state_46 (by decide) ?_
          refine zo_goto (tgt := 51) d_P_state_47 (by decide) ?_
          exact zo_iretI rfl d_P_state_51 hf
      · replace hf := hf.2 c2
        refine zo_iconst (v := 3) d_P_state_34 (by decide) ?_
        exact zo_iretI rfl d_P_state_35 hf
    · replace hf := hf.2 c3
      refine zo_iconst (v := 4) d_P_state_22 (by decide) ?_
      exact zo_iretI rfl d_P_state_23 hf
  · replace hf := hf.2 c4
    refine zo_iconst (v := 0) d_P_state_10 (by decide) ?_
    exact zo_iretI rfl d_P_state_11 hf
theorem e_P_state {d : Nat}   {h : ZH} {Q : Int32 → ZH → Prop}
    (hf : (((zi h 5 0 4) = 0 → (((zi h 3 0 6) = 0 → (((zi h 3 0 5) = 0 → (((zi h 3 0 4) = 0 → Q (1 : Int32) h) ∧ (¬ (zi h 3 0 4) = 0 → Q (2 : Int32) h))) ∧ (¬ (zi h 3 0 5) = 0 → Q (3 : Int32) h))) ∧ (¬ (zi h 3 0 6) = 0 → Q (4 : Int32) h))) ∧ (¬ (zi h 5 0 4) = 0 → Q (0 : Int32) h))) :
    EvI d m_P_state [vQ (some (0, 0))] h Q := zo_entry (by decide) (Nat.le_of_ble_eq_true rfl) (w_P_state_0   hf)
set_option maxRecDepth 100000 in
set_option maxHeartbeats 4000000 in
theorem w_P_letters_0 {d : Nat}   {h : ZH} {Q : Int32 → ZH → Prop}
    (hf : EvI d m_O_sealedCount [vQ (some (5, 0))] h (fun y2 g1 => Q y2 g1)) :
    EvAt (d + 1) m_P_letters 0 [some (vQ (some (0, 0)))] [] h (zQI Q) := by
  refine zo_aload_n d_P_letters_0 rfl rfl ?_
  refine gf_P_spool wd_266 d_P_letters_1 ?_
  refine zo_callVI (d := d) (N := m_O_sealedCount) (as := []) (n := 0) (zin (by decide) (by decide)) rfl rfl cv_O_sealedCount wd_519 rfl rfl (Nat.le_of_ble_eq_true rfl) d_P_letters_4 hf (fun y2 g1 hf => ?_)
  exact zo_iretI rfl d_P_letters_7 hf
theorem e_P_letters {d : Nat}   {h : ZH} {Q : Int32 → ZH → Prop}
    (hf : EvI d m_O_sealedCount [vQ (some (5, 0))] h (fun y2 g1 => Q y2 g1)) :
    EvI (d + 1) m_P_letters [vQ (some (0, 0))] h Q := zo_entry (by decide) (Nat.le_of_ble_eq_true rfl) (w_P_letters_0   hf)
set_option maxRecDepth 100000 in
set_option maxHeartbeats 4000000 in
theorem w_P_letter_0 {d : Nat} (x1 : Int32)  {h : ZH} {Q : Int32 → ZH → Prop}
    (hf : EvI d m_O_sealedNumber [vQ (some (5, 0)), vI x1] h (fun y2 g1 => Q y2 g1)) :
    EvAt (d + 1) m_P_letter 0 [some (vQ (some (0, 0))), some (vI x1)] [] h (zQI Q) := by
  refine zo_aload_n d_P_letter_0 rfl rfl ?_
  refine gf_P_spool wd_266 d_P_letter_1 ?_
  refine zo_iload_n d_P_letter_4 rfl rfl ?_
  refine zo_callVI (d := d) (N := m_O_sealedNumber) (as := [vI x1]) (n := 1) (zin (by decide) (by decide)) rfl rfl cv_O_sealedNumber wd_586 rfl rfl (Nat.le_of_ble_eq_true rfl) d_P_letter_5 hf (fun y2 g1 hf => ?_)
  exact zo_iretI rfl d_P_letter_8 hf
theorem e_P_letter {d : Nat} (x1 : Int32)  {h : ZH} {Q : Int32 → ZH → Prop}
    (hf : EvI d m_O_sealedNumber [vQ (some (5, 0)), vI x1] h (fun y2 g1 => Q y2 g1)) :
    EvI (d + 1) m_P_letter [vQ (some (0, 0)), vI x1] h Q := zo_entry (by decide) (Nat.le_of_ble_eq_true rfl) (w_P_letter_0 x1  hf)
set_option maxRecDepth 100000 in
set_option maxHeartbeats 4000000 in
theorem w_P_text_0 {d : Nat} (x1 : Int32) (x2 : Int32)  {h : ZH} {Q : Int32 → ZH → Prop}
    (hf : EvR 7 d m_O_find [vQ (some (5, 0)), vI x1] h (fun r2 g1 => ((r2 = none → Q (0 : Int32) g1) ∧ (∀ n3, r2 = some n3 → n3 < 6 → EvI d m_R_at [vQ (some (1, 13 + n3)), vI x2] g1 (fun y5 g4 => (narrow .char (.int y5) = .int y5 ∧ Q y5 g4)))))) :
    EvAt (d + 1) m_P_text 0 [some (vQ (some (0, 0))), some (vI x1), some (vI x2), none] [] h (zQI Q) := by
  refine zo_aload_n d_P_text_0 rfl rfl ?_
  refine gf_P_spool wd_266 d_P_text_1 ?_
  refine zo_iload_n d_P_text_4 rfl rfl ?_
  refine zo_callVR (d := d) (N := m_O_find) (as := [vI x1]) (n := 1) (zin (by decide) (by decide)) rfl rfl cv_O_find wd_594 rfl rfl (Nat.le_of_ble_eq_true rfl) d_P_text_5 hf (fun r2 g1 ho_r2 hf => ?_)
  refine zo_astore_n d_P_text_8 rfl (Nat.le_of_ble_eq_true rfl) rfl ?_
  refine zo_aload_n d_P_text_9 rfl rfl ?_
  refine zo_ifnonnullK (tgt := 17) d_P_text_10 (by decide) (fun n3 z => ?_) (fun z => ?_)
  · subst z
    have hv_n3 : n3 < 6 := ho_r2 n3 rfl
    replace hf := hf.2 n3 rfl hv_n3
    refine zo_aload_n d_P_text_17 rfl rfl ?_
    refine gf_L_text wd_198 hv_n3 d_P_text_18 ?_
    refine zo_iload_n d_P_text_21 rfl rfl ?_
    refine zo_callVI (d := d) (N := m_R_at) (as := [vI x2]) (n := 1) (zin (by decide) (show 13 + n3 < 43 by omega)) rfl rfl cv_R_at wd_303 rfl rfl (Nat.le_of_ble_eq_true rfl) d_P_text_22 hf (fun y5 g4 hf => ?_)
    exact zo_zretI (ty := .char) rfl hf.1 d_P_text_25 hf.2
  · subst z
    replace hf := hf.1 rfl
    refine zo_iconst (v := 0) d_P_text_13 (by decide) ?_
    refine zo_goto (tgt := 25) d_P_text_14 (by decide) ?_
    exact zo_zretI (ty := .char) rfl rfl d_P_text_25 hf
theorem e_P_text {d : Nat} (x1 : Int32) (x2 : Int32)  {h : ZH} {Q : Int32 → ZH → Prop}
    (hf : EvR 7 d m_O_find [vQ (some (5, 0)), vI x1] h (fun r2 g1 => ((r2 = none → Q (0 : Int32) g1) ∧ (∀ n3, r2 = some n3 → n3 < 6 → EvI d m_R_at [vQ (some (1, 13 + n3)), vI x2] g1 (fun y5 g4 => (narrow .char (.int y5) = .int y5 ∧ Q y5 g4)))))) :
    EvI (d + 1) m_P_text [vQ (some (0, 0)), vI x1, vI x2] h Q := zo_entry (by decide) (Nat.le_of_ble_eq_true rfl) (w_P_text_0 x1 x2  hf)
set_option maxRecDepth 100000 in
set_option maxHeartbeats 4000000 in
theorem w_P_path_0 {d : Nat} (x1 : Int32) (x2 : Int32) (x3 : Int32)  {h : ZH} {Q : Int32 → ZH → Prop}
    (hf : EvR 7 d m_O_find [vQ (some (5, 0)), vI x1] h (fun r2 g1 => ((r2 = none → Q (0 : Int32) g1) ∧ (∀ n3, r2 = some n3 → n3 < 6 → ((¬ x2 = (-1 : Int32) → EvR 9 d m_L_recipientAt [vQ (some (7, n3)), vI x2] g1 (fun r5 g4 => ((r5 = none → Q (0 : Int32) g4) ∧ (∀ n6, r5 = some n6 → n6 < 24 → EvI d m_R_at [vQ (some (1, 19 + n6)), vI x3] g4 (fun y8 g7 => (narrow .char (.int y8) = .int y8 ∧ Q y8 g7)))))) ∧ (x2 = (-1 : Int32) → EvI d m_R_at [vQ (some (1, 7 + n3)), vI x3] g1 (fun y10 g9 => (narrow .char (.int y10) = .int y10 ∧ Q y10 g9)))))))) :
    EvAt (d + 1) m_P_path 0 [some (vQ (some (0, 0))), some (vI x1), some (vI x2), some (vI x3), none, none] [] h (zQI Q) := by
  refine zo_aload_n d_P_path_0 rfl rfl ?_
  refine gf_P_spool wd_266 d_P_path_1 ?_
  refine zo_iload_n d_P_path_4 rfl rfl ?_
  refine zo_callVR (d := d) (N := m_O_find) (as := [vI x1]) (n := 1) (zin (by decide) (by decide)) rfl rfl cv_O_find wd_594 rfl rfl (Nat.le_of_ble_eq_true rfl) d_P_path_5 hf (fun r2 g1 ho_r2 hf => ?_)
  refine zo_astore d_P_path_8 (Nat.le_of_ble_eq_true rfl) rfl ?_
  refine zo_aload d_P_path_10 rfl ?_
  refine zo_ifnonnullK (tgt := 17) d_P_path_12 (by decide) (fun n3 z => ?_) (fun z => ?_)
  · subst z
    have hv_n3 : n3 < 6 := ho_r2 n3 rfl
    replace hf := hf.2 n3 rfl hv_n3
    refine zo_iload_n d_P_path_17 rfl rfl ?_
    refine zo_iconst (v := (-1)) d_P_path_18 (by decide) ?_
    refine zo_icmp_ne (tgt := 32) d_P_path_19 (by decide) (fun c11 => ?_) (fun c11 => ?_)
    · replace hf := hf.1 c11
      refine zo_aload d_P_path_32 rfl ?_
      refine zo_iload_n d_P_path_34 rfl rfl ?_
      refine zo_callVR (d := d) (N := m_L_recipientAt) (as := [vI x2]) (n := 1) (zin (by decide) hv_n3) rfl rfl cv_L_recipientAt wd_602 rfl rfl (Nat.le_of_ble_eq_true rfl) d_P_path_35 hf (fun r5 g4 ho_r5 hf => ?_)
      refine zo_astore d_P_path_38 (Nat.le_of_ble_eq_true rfl) rfl ?_
      refine zo_aload d_P_path_40 rfl ?_
      refine zo_ifnonnullK (tgt := 49) d_P_path_42 (by decide) (fun n6 z => ?_) (fun z => ?_)
      · subst z
        have hv_n6 : n6 < 24 := ho_r5 n6 rfl
        replace hf := hf.2 n6 rfl hv_n6
        refine zo_aload d_P_path_49 rfl ?_
        refine gf_C_path wd_176 hv_n6 d_P_path_51 ?_
        refine zo_iload_n d_P_path_54 rfl rfl ?_
        refine zo_callVI (d := d) (N := m_R_at) (as := [vI x3]) (n := 1) (zin (by decide) (show 19 + n6 < 43 by omega)) rfl rfl cv_R_at wd_303 rfl rfl (Nat.le_of_ble_eq_true rfl) d_P_path_55 hf (fun y8 g7 hf => ?_)
        exact zo_zretI (ty := .char) rfl hf.1 d_P_path_58 hf.2
      · subst z
        replace hf := hf.1 rfl
        refine zo_iconst (v := 0) d_P_path_45 (by decide) ?_
        refine zo_goto (tgt := 58) d_P_path_46 (by decide) ?_
        exact zo_zretI (ty := .char) rfl rfl d_P_path_58 hf
    · replace hf := hf.2 c11
      refine zo_aload d_P_path_22 rfl ?_
      refine gf_L_sender wd_194 hv_n3 d_P_path_24 ?_
      refine zo_iload_n d_P_path_27 rfl rfl ?_
      refine zo_callVI (d := d) (N := m_R_at) (as := [vI x3]) (n := 1) (zin (by decide) (show 7 + n3 < 43 by omega)) rfl rfl cv_R_at wd_303 rfl rfl (Nat.le_of_ble_eq_true rfl) d_P_path_28 hf (fun y10 g9 hf => ?_)
      exact zo_zretI (ty := .char) rfl hf.1 d_P_path_31 hf.2
  · subst z
    replace hf := hf.1 rfl
    refine zo_iconst (v := 0) d_P_path_15 (by decide) ?_
    exact zo_zretI (ty := .char) rfl rfl d_P_path_16 hf
theorem e_P_path {d : Nat} (x1 : Int32) (x2 : Int32) (x3 : Int32)  {h : ZH} {Q : Int32 → ZH → Prop}
    (hf : EvR 7 d m_O_find [vQ (some (5, 0)), vI x1] h (fun r2 g1 => ((r2 = none → Q (0 : Int32) g1) ∧ (∀ n3, r2 = some n3 → n3 < 6 → ((¬ x2 = (-1 : Int32) → EvR 9 d m_L_recipientAt [vQ (some (7, n3)), vI x2] g1 (fun r5 g4 => ((r5 = none → Q (0 : Int32) g4) ∧ (∀ n6, r5 = some n6 → n6 < 24 → EvI d m_R_at [vQ (some (1, 19 + n6)), vI x3] g4 (fun y8 g7 => (narrow .char (.int y8) = .int y8 ∧ Q y8 g7)))))) ∧ (x2 = (-1 : Int32) → EvI d m_R_at [vQ (some (1, 7 + n3)), vI x3] g1 (fun y10 g9 => (narrow .char (.int y10) = .int y10 ∧ Q y10 g9)))))))) :
    EvI (d + 1) m_P_path [vQ (some (0, 0)), vI x1, vI x2, vI x3] h Q := zo_entry (by decide) (Nat.le_of_ble_eq_true rfl) (w_P_path_0 x1 x2 x3  hf)
set_option maxRecDepth 100000 in
set_option maxHeartbeats 4000000 in
theorem w_P_recipient_0 {d : Nat} (x1 : Int32) (x2 : Int32)  {h : ZH} {Q : Int32 → ZH → Prop}
    (hf : EvR 9 d m_P_findRecipient [vQ (some (0, 0)), vI x1, vI x2] h (fun r2 g1 => ((r2 = none → Q (-1 : Int32) g1) ∧ (∀ n3, r2 = some n3 → n3 < 24 → ((¬ (zi g1 9 n3 1) = 0 → Q ((10 : Int32) * (zi g1 9 n3 1)) g1) ∧ ((zi g1 9 n3 1) = 0 → Q (zi g1 9 n3 2) g1)))))) :
    EvAt (d + 1) m_P_recipient 0 [some (vQ (some (0, 0))), some (vI x1), some (vI x2), none] [] h (zQI Q) := by
  refine zo_aload_n d_P_recipient_0 rfl rfl ?_
  refine zo_iload_n d_P_recipient_1 rfl rfl ?_
  refine zo_iload_n d_P_recipient_2 rfl rfl ?_
  refine zo_callVR (d := d) (N := m_P_findRecipient) (as := [vI x1, vI x2]) (n := 2) (zin (by decide) (by decide)) rfl rfl cv_P_findRecipient wd_610 rfl rfl (Nat.le_of_ble_eq_true rfl) d_P_recipient_3 hf (fun r2 g1 ho_r2 hf => ?_)
  refine zo_astore_n d_P_recipient_6 rfl (Nat.le_of_ble_eq_true rfl) rfl ?_
  refine zo_aload_n d_P_recipient_7 rfl rfl ?_
  refine zo_ifnonnullK (tgt := 13) d_P_recipient_8 (by decide) (fun n3 z => ?_) (fun z => ?_)
  · subst z
    have hv_n3 : n3 < 24 := ho_r2 n3 rfl
    replace hf := hf.2 n3 rfl hv_n3
    refine zo_aload_n d_P_recipient_13 rfl rfl ?_
    refine gf_C_fate wd_178 hv_n3 d_P_recipient_14 ?_
    refine zo_if_ne (tgt := 27) d_P_recipient_17 (by decide) (fun c4 => ?_) (fun c4 => ?_)
    · replace hf := hf.1 c4
      refine zo_bipush (v := 10) d_P_recipient_27 (by decide) ?_
      refine zo_aload_n d_P_recipient_29 rfl rfl ?_
      refine gf_C_fate wd_178 hv_n3 d_P_recipient_30 ?_
      refine zo_imul d_P_recipient_33 ?_
      exact zo_iretI rfl d_P_recipient_34 hf
    · replace hf := hf.2 c4
      refine zo_aload_n d_P_recipient_20 rfl rfl ?_
      refine gf_C_tries wd_180 hv_n3 d_P_recipient_21 ?_
      refine zo_goto (tgt := 34) d_P_recipient_24 (by decide) ?_
      exact zo_iretI rfl d_P_recipient_34 hf
  · subst z
    replace hf := hf.1 rfl
    refine zo_iconst (v := (-1)) d_P_recipient_11 (by decide) ?_
    exact zo_iretI rfl d_P_recipient_12 hf
theorem e_P_recipient {d : Nat} (x1 : Int32) (x2 : Int32)  {h : ZH} {Q : Int32 → ZH → Prop}
    (hf : EvR 9 d m_P_findRecipient [vQ (some (0, 0)), vI x1, vI x2] h (fun r2 g1 => ((r2 = none → Q (-1 : Int32) g1) ∧ (∀ n3, r2 = some n3 → n3 < 24 → ((¬ (zi g1 9 n3 1) = 0 → Q ((10 : Int32) * (zi g1 9 n3 1)) g1) ∧ ((zi g1 9 n3 1) = 0 → Q (zi g1 9 n3 2) g1)))))) :
    EvI (d + 1) m_P_recipient [vQ (some (0, 0)), vI x1, vI x2] h Q := zo_entry (by decide) (Nat.le_of_ble_eq_true rfl) (w_P_recipient_0 x1 x2  hf)
set_option maxRecDepth 100000 in
set_option maxHeartbeats 4000000 in
theorem w_P_findRecipient_0 {d : Nat} (x1 : Int32) (x2 : Int32)  {h : ZH} {Q : Option Nat → ZH → Prop}
    (hf : EvR 7 d m_O_find [vQ (some (5, 0)), vI x1] h (fun r2 g1 => ((r2 = none → Q none g1) ∧ (∀ n3, r2 = some n3 → n3 < 6 → EvR 9 d m_L_recipientAt [vQ (some (7, n3)), vI x2] g1 (fun r5 g4 => Q r5 g4))))) :
    EvAt (d + 1) m_P_findRecipient 0 [some (vQ (some (0, 0))), some (vI x1), some (vI x2), none] [] h (zQR 9 Q) := by
  refine zo_aload_n d_P_findRecipient_0 rfl rfl ?_
  refine gf_P_spool wd_266 d_P_findRecipient_1 ?_
  refine zo_iload_n d_P_findRecipient_4 rfl rfl ?_
  refine zo_callVR (d := d) (N := m_O_find) (as := [vI x1]) (n := 1) (zin (by decide) (by decide)) rfl rfl cv_O_find wd_594 rfl rfl (Nat.le_of_ble_eq_true rfl) d_P_findRecipient_5 hf (fun r2 g1 ho_r2 hf => ?_)
  refine zo_astore_n d_P_findRecipient_8 rfl (Nat.le_of_ble_eq_true rfl) rfl ?_
  refine zo_aload_n d_P_findRecipient_9 rfl rfl ?_
  refine zo_ifnonnullK (tgt := 17) d_P_findRecipient_10 (by decide) (fun n3 z => ?_) (fun z => ?_)
  · subst z
    have hv_n3 : n3 < 6 := ho_r2 n3 rfl
    replace hf := hf.2 n3 rfl hv_n3
    refine zo_aload_n d_P_findRecipient_17 rfl rfl ?_
    refine zo_iload_n d_P_findRecipient_18 rfl rfl ?_
    refine zo_callVR (d := d) (N := m_L_recipientAt) (as := [vI x2]) (n := 1) (zin (by decide) hv_n3) rfl rfl cv_L_recipientAt wd_602 rfl rfl (Nat.le_of_ble_eq_true rfl) d_P_findRecipient_19 hf (fun r5 g4 ho_r5 hf => ?_)
    exact zo_aretO (k := 9) (o := r5) (C := "SpooledPost$Recipient") rfl ho_r5 d_P_findRecipient_22 hf
  · subst z
    replace hf := hf.1 rfl
    refine zo_null d_P_findRecipient_13 ?_
    refine zo_goto (tgt := 22) d_P_findRecipient_14 (by decide) ?_
    exact zo_aretO (k := 9) (o := none) (C := "SpooledPost$Recipient") rfl (fun _ z => by cases z) d_P_findRecipient_22 hf
theorem e_P_findRecipient {d : Nat} (x1 : Int32) (x2 : Int32)  {h : ZH} {Q : Option Nat → ZH → Prop}
    (hf : EvR 7 d m_O_find [vQ (some (5, 0)), vI x1] h (fun r2 g1 => ((r2 = none → Q none g1) ∧ (∀ n3, r2 = some n3 → n3 < 6 → EvR 9 d m_L_recipientAt [vQ (some (7, n3)), vI x2] g1 (fun r5 g4 => Q r5 g4))))) :
    EvR 9 (d + 1) m_P_findRecipient [vQ (some (0, 0)), vI x1, vI x2] h Q := zo_entry (by decide) (Nat.le_of_ble_eq_true rfl) (w_P_findRecipient_0 x1 x2  hf)
set_option maxRecDepth 100000 in
set_option maxHeartbeats 4000000 in
theorem w_P_due_0 {d : Nat} (x1 : Int32) (x2 : Int32)  {h : ZH} {Q : Int32 → ZH → Prop}
    (hf : EvR 9 d m_P_findRecipient [vQ (some (0, 0)), vI x1, vI x2] h (fun r2 g1 => ((r2 = none → Q (-1 : Int32) g1) ∧ (∀ n3, r2 = some n3 → n3 < 24 → (((zi g1 9 n3 1) = 0 → Q (zi g1 9 n3 3) g1) ∧ (¬ (zi g1 9 n3 1) = 0 → Q (-1 : Int32) g1)))))) :
    EvAt (d + 1) m_P_due 0 [some (vQ (some (0, 0))), some (vI x1), some (vI x2), none] [] h (zQI Q) := by
  refine zo_aload_n d_P_due_0 rfl rfl ?_
  refine zo_iload_n d_P_due_1 rfl rfl ?_
  refine zo_iload_n d_P_due_2 rfl rfl ?_
  refine zo_callVR (d := d) (N := m_P_findRecipient) (as := [vI x1, vI x2]) (n := 2) (zin (by decide) (by decide)) rfl rfl cv_P_findRecipient wd_610 rfl rfl (Nat.le_of_ble_eq_true rfl) d_P_due_3 hf (fun r2 g1 ho_r2 hf => ?_)
  refine zo_astore_n d_P_due_6 rfl (Nat.le_of_ble_eq_true rfl) rfl ?_
  refine zo_aload_n d_P_due_7 rfl rfl ?_
  refine zo_ifnullK (tgt := 18) d_P_due_8 (by decide) (fun z => ?_) (fun n3 z => ?_)
  · subst z
    replace hf := hf.1 rfl
    refine zo_iconst (v := (-1)) d_P_due_18 (by decide) ?_
    refine zo_goto (tgt := 26) d_P_due_19 (by decide) ?_
    exact zo_iretI rfl d_P_due_26 hf
  · subst z
    have hv_n3 : n3 < 24 := ho_r2 n3 rfl
    replace hf := hf.2 n3 rfl hv_n3
    refine zo_aload_n d_P_due_11 rfl rfl ?_
    refine gf_C_fate wd_178 hv_n3 d_P_due_12 ?_
    refine zo_if_eq (tgt := 22) d_P_due_15 (by decide) (fun c4 => ?_) (fun c4 => ?_)
    · replace hf := hf.1 c4
      refine zo_aload_n d_P_due_22 rfl rfl ?_
      refine gf_C_due wd_183 hv_n3 d_P_due_23 ?_
      exact zo_iretI rfl d_P_due_26 hf
    · replace hf := hf.2 c4
      refine zo_iconst (v := (-1)) d_P_due_18 (by decide) ?_
      refine zo_goto (tgt := 26) d_P_due_19 (by decide) ?_
      exact zo_iretI rfl d_P_due_26 hf
theorem e_P_due {d : Nat} (x1 : Int32) (x2 : Int32)  {h : ZH} {Q : Int32 → ZH → Prop}
    (hf : EvR 9 d m_P_findRecipient [vQ (some (0, 0)), vI x1, vI x2] h (fun r2 g1 => ((r2 = none → Q (-1 : Int32) g1) ∧ (∀ n3, r2 = some n3 → n3 < 24 → (((zi g1 9 n3 1) = 0 → Q (zi g1 9 n3 3) g1) ∧ (¬ (zi g1 9 n3 1) = 0 → Q (-1 : Int32) g1)))))) :
    EvI (d + 1) m_P_due [vQ (some (0, 0)), vI x1, vI x2] h Q := zo_entry (by decide) (Nat.le_of_ble_eq_true rfl) (w_P_due_0 x1 x2  hf)
set_option maxRecDepth 100000 in
set_option maxHeartbeats 4000000 in
theorem w_P_parts_0 {d : Nat} (x1 : Int32)  {h : ZH} {Q : Int32 → ZH → Prop}
    (hf : EvR 7 d m_O_find [vQ (some (5, 0)), vI x1] h (fun r2 g1 => ((r2 = none → Q (-1 : Int32) g1) ∧ (∀ n3, r2 = some n3 → n3 < 6 → EvV d m_D_read [vQ (some (10, 0)), vQ (some (7, n3))] g1 (fun g4 => Q (zi g4 10 0 4) g4))))) :
    EvAt (d + 1) m_P_parts 0 [some (vQ (some (0, 0))), some (vI x1), none] [] h (zQI Q) := by
  refine zo_aload_n d_P_parts_0 rfl rfl ?_
  refine gf_P_spool wd_266 d_P_parts_1 ?_
  refine zo_iload_n d_P_parts_4 rfl rfl ?_
  refine zo_callVR (d := d) (N := m_O_find) (as := [vI x1]) (n := 1) (zin (by decide) (by decide)) rfl rfl cv_O_find wd_594 rfl rfl (Nat.le_of_ble_eq_true rfl) d_P_parts_5 hf (fun r2 g1 ho_r2 hf => ?_)
  refine zo_astore_n d_P_parts_8 rfl (Nat.le_of_ble_eq_true rfl) rfl ?_
  refine zo_aload_n d_P_parts_9 rfl rfl ?_
  refine zo_ifnonnullK (tgt := 15) d_P_parts_10 (by decide) (fun n3 z => ?_) (fun z => ?_)
  · subst z
    have hv_n3 : n3 < 6 := ho_r2 n3 rfl
    replace hf := hf.2 n3 rfl hv_n3
    refine zo_aload_n d_P_parts_15 rfl rfl ?_
    refine gf_P_reader wd_267 d_P_parts_16 ?_
    refine zo_aload_n d_P_parts_19 rfl rfl ?_
    refine zo_callVV (d := d) (N := m_D_read) (as := [vQ (some (7, n3))]) (n := 1) (zin (by decide) (by decide)) rfl rfl cv_D_read wd_622 rfl rfl (Nat.le_of_ble_eq_true rfl) d_P_parts_20 hf (fun g4 hf => ?_)
    refine zo_aload_n d_P_parts_23 rfl rfl ?_
    refine gf_P_reader wd_267 d_P_parts_24 ?_
    refine gf_D_count wd_248 d_P_parts_27 ?_
    exact zo_iretI rfl d_P_parts_30 hf
  · subst z
    replace hf := hf.1 rfl
    refine zo_iconst (v := (-1)) d_P_parts_13 (by decide) ?_
    exact zo_iretI rfl d_P_parts_14 hf
theorem e_P_parts {d : Nat} (x1 : Int32)  {h : ZH} {Q : Int32 → ZH → Prop}
    (hf : EvR 7 d m_O_find [vQ (some (5, 0)), vI x1] h (fun r2 g1 => ((r2 = none → Q (-1 : Int32) g1) ∧ (∀ n3, r2 = some n3 → n3 < 6 → EvV d m_D_read [vQ (some (10, 0)), vQ (some (7, n3))] g1 (fun g4 => Q (zi g4 10 0 4) g4))))) :
    EvI (d + 1) m_P_parts [vQ (some (0, 0)), vI x1] h Q := zo_entry (by decide) (Nat.le_of_ble_eq_true rfl) (w_P_parts_0 x1  hf)
set_option maxRecDepth 100000 in
set_option maxHeartbeats 4000000 in
theorem w_P_part_0 {d : Nat} (x1 : Int32) (x2 : Int32) (x3 : Int32)  {h : ZH} {Q : Int32 → ZH → Prop}
    (hf : EvR 7 d m_O_find [vQ (some (5, 0)), vI x1] h (fun r2 g1 => ((r2 = none → Q (-1 : Int32) g1) ∧ (∀ n3, r2 = some n3 → n3 < 6 → EvV d m_D_read [vQ (some (10, 0)), vQ (some (7, n3))] g1 (fun g4 => EvI d m_D_fact [vQ (some (10, 0)), vI x2, vI x3] g4 (fun y6 g5 => Q y6 g5)))))) :
    EvAt (d + 1) m_P_part 0 [some (vQ (some (0, 0))), some (vI x1), some (vI x2), some (vI x3), none] [] h (zQI Q) := by
  refine zo_aload_n d_P_part_0 rfl rfl ?_
  refine gf_P_spool wd_266 d_P_part_1 ?_
  refine zo_iload_n d_P_part_4 rfl rfl ?_
  refine zo_callVR (d := d) (N := m_O_find) (as := [vI x1]) (n := 1) (zin (by decide) (by decide)) rfl rfl cv_O_find wd_594 rfl rfl (Nat.le_of_ble_eq_true rfl) d_P_part_5 hf (fun r2 g1 ho_r2 hf => ?_)
  refine zo_astore d_P_part_8 (Nat.le_of_ble_eq_true rfl) rfl ?_
  refine zo_aload d_P_part_10 rfl ?_
  refine zo_ifnonnullK (tgt := 17) d_P_part_12 (by decide) (fun n3 z => ?_) (fun z => ?_)
  · subst z
    have hv_n3 : n3 < 6 := ho_r2 n3 rfl
    replace hf := hf.2 n3 rfl hv_n3
    refine zo_aload_n d_P_part_17 rfl rfl ?_
    refine gf_P_reader wd_267 d_P_part_18 ?_
    refine zo_aload d_P_part_21 rfl ?_
    refine zo_callVV (d := d) (N := m_D_read) (as := [vQ (some (7, n3))]) (n := 1) (zin (by decide) (by decide)) rfl rfl cv_D_read wd_622 rfl rfl (Nat.le_of_ble_eq_true rfl) d_P_part_23 hf (fun g4 hf => ?_)
    refine zo_aload_n d_P_part_26 rfl rfl ?_
    refine gf_P_reader wd_267 d_P_part_27 ?_
    refine zo_iload_n d_P_part_30 rfl rfl ?_
    refine zo_iload_n d_P_part_31 rfl rfl ?_
    refine zo_callVI (d := d) (N := m_D_fact) (as := [vI x2, vI x3]) (n := 2) (zin (by decide) (by decide)) rfl rfl cv_D_fact wd_689 rfl rfl (Nat.le_of_ble_eq_true rfl) d_P_part_32 hf (fun y6 g5 hf => ?_)
    exact zo_iretI rfl d_P_part_35 hf
  · subst z
    replace hf := hf.1 rfl
    refine zo_iconst (v := (-1)) d_P_part_15 (by decide) ?_
    exact zo_iretI rfl d_P_part_16 hf
theorem e_P_part {d : Nat} (x1 : Int32) (x2 : Int32) (x3 : Int32)  {h : ZH} {Q : Int32 → ZH → Prop}
    (hf : EvR 7 d m_O_find [vQ (some (5, 0)), vI x1] h (fun r2 g1 => ((r2 = none → Q (-1 : Int32) g1) ∧ (∀ n3, r2 = some n3 → n3 < 6 → EvV d m_D_read [vQ (some (10, 0)), vQ (some (7, n3))] g1 (fun g4 => EvI d m_D_fact [vQ (some (10, 0)), vI x2, vI x3] g4 (fun y6 g5 => Q y6 g5)))))) :
    EvI (d + 1) m_P_part [vQ (some (0, 0)), vI x1, vI x2, vI x3] h Q := zo_entry (by decide) (Nat.le_of_ble_eq_true rfl) (w_P_part_0 x1 x2 x3  hf)
