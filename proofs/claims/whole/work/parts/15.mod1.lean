set_option maxRecDepth 100000 in
set_option maxHeartbeats 4000000 in
theorem w_M_isPath_0 {d : Nat} (x1 : Int32) (x2 : Int32)  {h : ZH} {Q : Int32 → ZH → Prop}
    (hf : EvAt (d + 1) m_M_isPath 2 [some (vQ (some (12, 0))), some (vI x1), some (vI x2), some (vI x1)] [] h (zQI Q)) :
    EvAt (d + 1) m_M_isPath 0 [some (vQ (some (12, 0))), some (vI x1), some (vI x2), none] [] h (zQI Q) := by
  refine zo_iload_n d_M_isPath_0 rfl rfl ?_
  refine zo_istore_n d_M_isPath_1 rfl (Nat.le_of_ble_eq_true rfl) rfl ?_
  exact hf
theorem e_M_isPath {d : Nat} (x1 : Int32) (x2 : Int32)  {h : ZH} {Q : Int32 → ZH → Prop}
    (hf : EvAt (d + 1) m_M_isPath 2 [some (vQ (some (12, 0))), some (vI x1), some (vI x2), some (vI x1)] [] h (zQI Q)) :
    EvI (d + 1) m_M_isPath [vQ (some (12, 0)), vI x1, vI x2] h Q := zo_entry (by decide) (Nat.le_of_ble_eq_true rfl) (w_M_isPath_0 x1 x2  hf)
set_option maxRecDepth 100000 in
set_option maxHeartbeats 4000000 in
theorem w_M_isPath_2 {d : Nat} (x1 : Int32) (x2 : Int32) (x3 : Int32)  {h : ZH} {Q : Int32 → ZH → Prop}
    (hf : ((x2 ≤ x3 → EvAt (d + 1) m_M_isPath 25 [some (vQ (some (12, 0))), some (vI x1), some (vI x2), some (vI x3)] [] h (zQI Q)) ∧ (¬ x2 ≤ x3 → (vp_in x3 (zLen 13 0) ∧ (((zi h 13 0 x3.toNatClampNeg) = (64 : Int32) → EvAt (d + 1) m_M_isPath 25 [some (vQ (some (12, 0))), some (vI x1), some (vI x2), some (vI x3)] [] h (zQI Q)) ∧ (¬ (zi h 13 0 x3.toNatClampNeg) = (64 : Int32) → EvAt (d + 1) m_M_isPath 2 [some (vQ (some (12, 0))), some (vI x1), some (vI x2), some (vI (x3 + (1 : Int32)))] [] h (zQI Q))))))) :
    EvAt (d + 1) m_M_isPath 2 [some (vQ (some (12, 0))), some (vI x1), some (vI x2), some (vI x3)] [] h (zQI Q) := by
  refine zo_iload_n d_M_isPath_2 rfl rfl ?_
  refine zo_iload_n d_M_isPath_3 rfl rfl ?_
  refine zo_icmp_ge (tgt := 25) d_M_isPath_4 (by decide) (fun c2 => ?_) (fun c2 => ?_)
  · replace hf := hf.1 c2
    exact hf
  · replace hf := hf.2 c2
    refine zo_aload_n d_M_isPath_7 rfl rfl ?_
    refine gf_M_line wd_703 d_M_isPath_8 ?_
    refine zo_iload_n d_M_isPath_11 rfl rfl ?_
    obtain ⟨hp, hf⟩ := hf
    refine zo_iald (zin (by decide) (by decide)) rfl rfl rfl hp d_M_isPath_12 ?_
    refine zo_bipush (v := 64) d_M_isPath_13 (by decide) ?_
    refine zo_icmp_eq (tgt := 25) d_M_isPath_15 (by decide) (fun c1 => ?_) (fun c1 => ?_)
    · replace hf := hf.1 c1
      exact hf
    · replace hf := hf.2 c1
      refine zo_iload_n d_M_isPath_18 rfl rfl ?_
      refine zo_iconst (v := 1) d_M_isPath_19 (by decide) ?_
      refine zo_iadd d_M_isPath_20 ?_
      refine zo_istore_n d_M_isPath_21 rfl (Nat.le_of_ble_eq_true rfl) rfl ?_
      refine zo_goto (tgt := 2) d_M_isPath_22 (by decide) ?_
      exact hf
set_option maxRecDepth 100000 in
set_option maxHeartbeats 4000000 in
theorem w_M_isPath_25 {d : Nat} (x1 : Int32) (x2 : Int32) (x3 : Int32)  {h : ZH} {Q : Int32 → ZH → Prop}
    (hf : (((40 : Int32) < (x2 - x1) → Q (0 : Int32) h) ∧ (¬ (40 : Int32) < (x2 - x1) → ((x2 ≤ x3 → Q (0 : Int32) h) ∧ (¬ x2 ≤ x3 → EvI d m_M_isLocal [vQ (some (12, 0)), vI x1, vI x3] h (fun y2 g1 => ((y2 = 0 → Q (0 : Int32) g1) ∧ (¬ y2 = 0 → EvI d m_M_isDomain [vQ (some (12, 0)), vI (x3 + (1 : Int32)), vI x2] g1 (fun y4 g3 => ((y4 = 0 → Q (0 : Int32) g3) ∧ (¬ y4 = 0 → Q (1 : Int32) g3))))))))))) :
    EvAt (d + 1) m_M_isPath 25 [some (vQ (some (12, 0))), some (vI x1), some (vI x2), some (vI x3)] [] h (zQI Q) := by
  refine zo_iload_n d_M_isPath_25 rfl rfl ?_
  refine zo_iload_n d_M_isPath_26 rfl rfl ?_
  refine zo_isub d_M_isPath_27 ?_
  refine zo_bipush (v := 40) d_M_isPath_28 (by decide) ?_
  refine zo_icmp_gt (tgt := 62) d_M_isPath_30 (by decide) (fun c8 => ?_) (fun c8 => ?_)
  · replace hf := hf.1 c8
    refine zo_iconst (v := 0) d_M_isPath_62 (by decide) ?_
    exact zo_zretI (ty := .boolean) rfl rfl d_M_isPath_63 hf
  · replace hf := hf.2 c8
    refine zo_iload_n d_M_isPath_33 rfl rfl ?_
    refine zo_iload_n d_M_isPath_34 rfl rfl ?_
    refine zo_icmp_ge (tgt := 62) d_M_isPath_35 (by decide) (fun c7 => ?_) (fun c7 => ?_)
    · replace hf := hf.1 c7
      refine zo_iconst (v := 0) d_M_isPath_62 (by decide) ?_
      exact zo_zretI (ty := .boolean) rfl rfl d_M_isPath_63 hf
    · replace hf := hf.2 c7
      refine zo_aload_n d_M_isPath_38 rfl rfl ?_
      refine zo_iload_n d_M_isPath_39 rfl rfl ?_
      refine zo_iload_n d_M_isPath_40 rfl rfl ?_
      refine zo_callVI (d := d) (N := m_M_isLocal) (as := [vI x1, vI x3]) (n := 2) (zin (by decide) (by decide)) rfl rfl cv_M_isLocal wd_876 rfl rfl (Nat.le_of_ble_eq_true rfl) d_M_isPath_41 hf (fun y2 g1 hf => ?_)
      refine zo_if_eq (tgt := 62) d_M_isPath_44 (by decide) (fun c6 => ?_) (fun c6 => ?_)
      · replace hf := hf.1 c6
        refine zo_iconst (v := 0) d_M_isPath_62 (by decide) ?_
        exact zo_zretI (ty := .boolean) rfl rfl d_M_isPath_63 hf
      · replace hf := hf.2 c6
        refine zo_aload_n d_M_isPath_47 rfl rfl ?_
        refine zo_iload_n d_M_isPath_48 rfl rfl ?_
        refine zo_iconst (v := 1) d_M_isPath_49 (by decide) ?_
        refine zo_iadd d_M_isPath_50 ?_
        refine zo_iload_n d_M_isPath_51 rfl rfl ?_
        refine zo_callVI (d := d) (N := m_M_isDomain) (as := [vI (x3 + (1 : Int32)), vI x2]) (n := 2) (zin (by decide) (by decide)) rfl rfl cv_M_isDomain wd_858 rfl rfl (Nat.le_of_ble_eq_true rfl) d_M_isPath_52 hf (fun y4 g3 hf => ?_)
        refine zo_if_eq (tgt := 62) d_M_isPath_55 (by decide) (fun c5 => ?_) (fun c5 => ?_)
        · replace hf := hf.1 c5
          refine zo_iconst (v := 0) d_M_isPath_62 (by decide) ?_
          exact zo_zretI (ty := .boolean) rfl rfl d_M_isPath_63 hf
        · replace hf := hf.2 c5
          refine zo_iconst (v := 1) d_M_isPath_58 (by decide) ?_
          refine zo_goto (tgt := 63) d_M_isPath_59 (by decide) ?_
          exact zo_zretI (ty := .boolean) rfl rfl d_M_isPath_63 hf
set_option maxRecDepth 100000 in
set_option maxHeartbeats 4000000 in
theorem w_M_isLocal_0 {d : Nat} (x1 : Int32) (x2 : Int32)  {h : ZH} {Q : Int32 → ZH → Prop}
    (hf : ((x2 ≤ x1 → EvAt (d + 1) m_M_isLocal 10 [some (vQ (some (12, 0))), some (vI x1), some (vI x2), none, none, none, none] [vI (0 : Int32)] h (zQI Q)) ∧ (¬ x2 ≤ x1 → EvAt (d + 1) m_M_isLocal 10 [some (vQ (some (12, 0))), some (vI x1), some (vI x2), none, none, none, none] [vI (1 : Int32)] h (zQI Q)))) :
    EvAt (d + 1) m_M_isLocal 0 [some (vQ (some (12, 0))), some (vI x1), some (vI x2), none, none, none, none] [] h (zQI Q) := by
  refine zo_iload_n d_M_isLocal_0 rfl rfl ?_
  refine zo_iload_n d_M_isLocal_1 rfl rfl ?_
  refine zo_icmp_le (tgt := 9) d_M_isLocal_2 (by decide) (fun c1 => ?_) (fun c1 => ?_)
  · replace hf := hf.1 c1
    refine zo_iconst (v := 0) d_M_isLocal_9 (by decide) ?_
    exact hf
  · replace hf := hf.2 c1
    refine zo_iconst (v := 1) d_M_isLocal_5 (by decide) ?_
    refine zo_goto (tgt := 10) d_M_isLocal_6 (by decide) ?_
    exact hf
theorem e_M_isLocal {d : Nat} (x1 : Int32) (x2 : Int32)  {h : ZH} {Q : Int32 → ZH → Prop}
    (hf : ((x2 ≤ x1 → EvAt (d + 1) m_M_isLocal 10 [some (vQ (some (12, 0))), some (vI x1), some (vI x2), none, none, none, none] [vI (0 : Int32)] h (zQI Q)) ∧ (¬ x2 ≤ x1 → EvAt (d + 1) m_M_isLocal 10 [some (vQ (some (12, 0))), some (vI x1), some (vI x2), none, none, none, none] [vI (1 : Int32)] h (zQI Q)))) :
    EvI (d + 1) m_M_isLocal [vQ (some (12, 0)), vI x1, vI x2] h Q := zo_entry (by decide) (Nat.le_of_ble_eq_true rfl) (w_M_isLocal_0 x1 x2  hf)
set_option maxRecDepth 100000 in
set_option maxHeartbeats 4000000 in
theorem w_M_isLocal_10 {d : Nat} (x1 : Int32) (x2 : Int32) (xs0 : Int32)  {h : ZH} {Q : Int32 → ZH → Prop}
    (hf : EvAt (d + 1) m_M_isLocal 18 [some (vQ (some (12, 0))), none, some (vI x2), some (vI xs0), some (vI (46 : Int32)), some (vI x1), none] [] h (zQI Q)) :
    EvAt (d + 1) m_M_isLocal 10 [some (vQ (some (12, 0))), some (vI x1), some (vI x2), none, none, none, none] [vI xs0] h (zQI Q) := by
  refine zo_istore_n d_M_isLocal_10 rfl (Nat.le_of_ble_eq_true rfl) rfl ?_
  refine zo_bipush (v := 46) d_M_isLocal_11 (by decide) ?_
  refine zo_istore d_M_isLocal_13 (Nat.le_of_ble_eq_true rfl) rfl ?_
  refine zo_iload_n d_M_isLocal_15 rfl rfl ?_
  refine zo_istore d_M_isLocal_16 (Nat.le_of_ble_eq_true rfl) rfl ?_
  refine zo_drop 1 ?_
  exact hf
set_option maxRecDepth 100000 in
set_option maxHeartbeats 4000000 in
theorem w_M_isLocal_18 {d : Nat} (x2 : Int32) (x3 : Int32) (x4 : Int32) (x5 : Int32)  {h : ZH} {Q : Int32 → ZH → Prop}
    (hf : ((x2 ≤ x5 → ((x3 = 0 → Q (0 : Int32) h) ∧ (¬ x3 = 0 → ((x4 = (46 : Int32) → Q (0 : Int32) h) ∧ (¬ x4 = (46 : Int32) → Q (1 : Int32) h))))) ∧ (¬ x2 ≤ x5 → (vp_in x5 (zLen 13 0) ∧ ((x3 = 0 → EvAt (d + 1) m_M_isLocal 84 [some (vQ (some (12, 0))), none, some (vI x2), none, none, some (vI x5), some (vI (zi h 13 0 x5.toNatClampNeg))] [] h (zQI Q)) ∧ (¬ x3 = 0 → EvI d m_M_isAlnum [vI (zi h 13 0 x5.toNatClampNeg)] h (fun y4 g3 => ((¬ y4 = 0 → EvAt (d + 1) m_M_isLocal 80 [some (vQ (some (12, 0))), none, some (vI x2), none, none, some (vI x5), some (vI (zi h 13 0 x5.toNatClampNeg))] [] g3 (zQI Q)) ∧ (y4 = 0 → (((zi h 13 0 x5.toNatClampNeg) = (45 : Int32) → EvAt (d + 1) m_M_isLocal 80 [some (vQ (some (12, 0))), none, some (vI x2), none, none, some (vI x5), some (vI (zi h 13 0 x5.toNatClampNeg))] [] g3 (zQI Q)) ∧ (¬ (zi h 13 0 x5.toNatClampNeg) = (45 : Int32) → (((zi h 13 0 x5.toNatClampNeg) = (95 : Int32) → EvAt (d + 1) m_M_isLocal 80 [some (vQ (some (12, 0))), none, some (vI x2), none, none, some (vI x5), some (vI (zi h 13 0 x5.toNatClampNeg))] [] g3 (zQI Q)) ∧ (¬ (zi h 13 0 x5.toNatClampNeg) = (95 : Int32) → (((zi h 13 0 x5.toNatClampNeg) = (43 : Int32) → EvAt (d + 1) m_M_isLocal 80 [some (vQ (some (12, 0))), none, some (vI x2), none, none, some (vI x5), some (vI (zi h 13 0 x5.toNatClampNeg))] [] g3 (zQI Q)) ∧ (¬ (zi h 13 0 x5.toNatClampNeg) = (43 : Int32) → ((¬ (zi h 13 0 x5.toNatClampNeg) = (46 : Int32) → EvAt (d + 1) m_M_isLocal 84 [some (vQ (some (12, 0))), none, some (vI x2), none, none, some (vI x5), some (vI (zi h 13 0 x5.toNatClampNeg))] [] g3 (zQI Q)) ∧ ((zi h 13 0 x5.toNatClampNeg) = (46 : Int32) → ((x4 = (46 : Int32) → EvAt (d + 1) m_M_isLocal 84 [some (vQ (some (12, 0))), none, some (vI x2), none, none, some (vI x5), some (vI (zi h 13 0 x5.toNatClampNeg))] [] g3 (zQI Q)) ∧ (¬ x4 = (46 : Int32) → EvAt (d + 1) m_M_isLocal 80 [some (vQ (some (12, 0))), none, some (vI x2), none, none, some (vI x5), some (vI (zi h 13 0 x5.toNatClampNeg))] [] g3 (zQI Q)))))))))))))))))))) :
    EvAt (d + 1) m_M_isLocal 18 [some (vQ (some (12, 0))), none, some (vI x2), some (vI x3), some (vI x4), some (vI x5), none] [] h (zQI Q) := by
  refine zo_iload d_M_isLocal_18 rfl ?_
  refine zo_iload_n d_M_isLocal_20 rfl rfl ?_
  refine zo_icmp_ge (tgt := 96) d_M_isLocal_21 (by decide) (fun c12 => ?_) (fun c12 => ?_)
  · replace hf := hf.1 c12
    refine zo_iload_n d_M_isLocal_96 rfl rfl ?_
    refine zo_if_eq (tgt := 111) d_M_isLocal_97 (by decide) (fun c2 => ?_) (fun c2 => ?_)
    · replace hf := hf.1 c2
      refine zo_iconst (v := 0) d_M_isLocal_111 (by decide) ?_
      exact zo_zretI (ty := .boolean) rfl rfl d_M_isLocal_112 hf
    · replace hf := hf.2 c2
      refine zo_iload d_M_isLocal_100 rfl ?_
      refine zo_bipush (v := 46) d_M_isLocal_102 (by decide) ?_
      refine zo_icmp_eq (tgt := 111) d_M_isLocal_104 (by decide) (fun c1 => ?_) (fun c1 => ?_)
      · replace hf := hf.1 c1
        refine zo_iconst (v := 0) d_M_isLocal_111 (by decide) ?_
        exact zo_zretI (ty := .boolean) rfl rfl d_M_isLocal_112 hf
      · replace hf := hf.2 c1
        refine zo_iconst (v := 1) d_M_isLocal_107 (by decide) ?_
        refine zo_goto (tgt := 112) d_M_isLocal_108 (by decide) ?_
        exact zo_zretI (ty := .boolean) rfl rfl d_M_isLocal_112 hf
  · replace hf := hf.2 c12
    refine zo_aload_n d_M_isLocal_24 rfl rfl ?_
    refine gf_M_line wd_703 d_M_isLocal_25 ?_
    refine zo_iload d_M_isLocal_28 rfl ?_
    obtain ⟨hp, hf⟩ := hf
    refine zo_iald (zin (by decide) (by decide)) rfl rfl rfl hp d_M_isLocal_30 ?_
    refine zo_istore d_M_isLocal_31 (Nat.le_of_ble_eq_true rfl) rfl ?_
    refine zo_iload_n d_M_isLocal_33 rfl rfl ?_
    refine zo_if_eq (tgt := 84) d_M_isLocal_34 (by decide) (fun c11 => ?_) (fun c11 => ?_)
    · replace hf := hf.1 c11
      refine zo_drop 3 ?_
      refine zo_drop 4 ?_
      exact hf
    · replace hf := hf.2 c11
      refine zo_iload d_M_isLocal_37 rfl ?_
      refine zo_callSI (d := d) (N := m_M_isAlnum) (as := [vI (zi h 13 0 x5.toNatClampNeg)]) (n := 1) cs_M_isAlnum wd_862 rfl rfl (Nat.le_of_ble_eq_true rfl) d_M_isLocal_39 hf (fun y4 g3 hf => ?_)
      refine zo_if_ne (tgt := 80) d_M_isLocal_42 (by decide) (fun c10 => ?_) (fun c10 => ?_)
      · replace hf := hf.1 c10
        refine zo_drop 3 ?_
        refine zo_drop 4 ?_
        exact hf
      · replace hf := hf.2 c10
        refine zo_iload d_M_isLocal_45 rfl ?_
        refine zo_bipush (v := 45) d_M_isLocal_47 (by decide) ?_
        refine zo_icmp_eq (tgt := 80) d_M_isLocal_49 (by decide) (fun c9 => ?_) (fun c9 => ?_)
        · replace hf := hf.1 c9
          refine zo_drop 3 ?_
          refine zo_drop 4 ?_
          exact hf
        · replace hf := hf.2 c9
          refine zo_iload d_M_isLocal_52 rfl ?_
          refine zo_bipush (v := 95) d_M_isLocal_54 (by decide) ?_
          refine zo_icmp_eq (tgt := 80) d_M_isLocal_56 (by decide) (fun c8 => ?_) (fun c8 => ?_)
          · replace hf := hf.1 c8
            refine zo_drop 3 ?_
            refine zo_drop 4 ?_
            exact hf
          · replace hf := hf.2 c8
            refine zo_iload d_M_isLocal_59 rfl ?_
            refine zo_bipush (v := 43) d_M_isLocal_61 (by decide) ?_
            refine zo_icmp_eq (tgt := 80) d_M_isLocal_63 (by decide) (fun c7 => ?_) (fun c7 => ?_)
            · replace hf := hf.1 c7
              refine zo_drop 3 ?_
              refine zo_drop 4 ?_
              exact hf
            · replace hf := hf.2 c7
              refine zo_iload d_M_isLocal_66 rfl ?_
              refine zo_bipush (v := 46) d_M_isLocal_68 (by decide) ?_
              refine zo_icmp_ne (tgt := 84) d_M_isLocal_70 (by decide) (fun c6 => ?_) (fun c6 => ?_)
              · replace hf := hf.1 c6
                refine zo_drop 3 ?_
                refine zo_drop 4 ?_
                exact hf
              · replace hf := hf.2 c6
                refine zo_iload d_M_isLocal_73 rfl ?_
                refine zo_bipush (v := 46) d_M_isLocal_75 (by decide) ?_
                refine zo_icmp_eq (tgt := 84) d_M_isLocal_77 (by decide) (fun c5 => ?_) (fun c5 => ?_)
                · replace hf := hf.1 c5
                  refine zo_drop 3 ?_
                  refine zo_drop 4 ?_
                  exact hf
                · replace hf := hf.2 c5
                  refine zo_drop 3 ?_
                  refine zo_drop 4 ?_
                  exact hf
set_option maxRecDepth 100000 in
set_option maxHeartbeats 4000000 in
theorem w_M_isLocal_80 {d : Nat} (x2 : Int32) (x5 : Int32) (x6 : Int32)  {h : ZH} {Q : Int32 → ZH → Prop}
    (hf : EvAt (d + 1) m_M_isLocal 85 [some (vQ (some (12, 0))), none, some (vI x2), none, none, some (vI x5), some (vI x6)] [vI (1 : Int32)] h (zQI Q)) :
    EvAt (d + 1) m_M_isLocal 80 [some (vQ (some (12, 0))), none, some (vI x2), none, none, some (vI x5), some (vI x6)] [] h (zQI Q) := by
  refine zo_iconst (v := 1) d_M_isLocal_80 (by decide) ?_
  refine zo_goto (tgt := 85) d_M_isLocal_81 (by decide) ?_
  exact hf
set_option maxRecDepth 100000 in
set_option maxHeartbeats 4000000 in
theorem w_M_isLocal_84 {d : Nat} (x2 : Int32) (x5 : Int32) (x6 : Int32)  {h : ZH} {Q : Int32 → ZH → Prop}
    (hf : EvAt (d + 1) m_M_isLocal 85 [some (vQ (some (12, 0))), none, some (vI x2), none, none, some (vI x5), some (vI x6)] [vI (0 : Int32)] h (zQI Q)) :
    EvAt (d + 1) m_M_isLocal 84 [some (vQ (some (12, 0))), none, some (vI x2), none, none, some (vI x5), some (vI x6)] [] h (zQI Q) := by
  refine zo_iconst (v := 0) d_M_isLocal_84 (by decide) ?_
  exact hf
set_option maxRecDepth 100000 in
set_option maxHeartbeats 4000000 in
theorem w_M_isLocal_85 {d : Nat} (x2 : Int32) (x5 : Int32) (x6 : Int32) (xs0 : Int32)  {h : ZH} {Q : Int32 → ZH → Prop}
    (hf : EvAt (d + 1) m_M_isLocal 18 [some (vQ (some (12, 0))), none, some (vI x2), some (vI xs0), some (vI x6), some (vI (x5 + 1)), none] [] h (zQI Q)) :
    EvAt (d + 1) m_M_isLocal 85 [some (vQ (some (12, 0))), none, some (vI x2), none, none, some (vI x5), some (vI x6)] [vI xs0] h (zQI Q) := by
  refine zo_istore_n d_M_isLocal_85 rfl (Nat.le_of_ble_eq_true rfl) rfl ?_
  refine zo_iload d_M_isLocal_86 rfl ?_
  refine zo_istore d_M_isLocal_88 (Nat.le_of_ble_eq_true rfl) rfl ?_
  refine zo_iinc (v := x5 + 1) d_M_isLocal_90 rfl rfl (Nat.le_of_ble_eq_true rfl) rfl ?_
  refine zo_goto (tgt := 18) d_M_isLocal_93 (by decide) ?_
  refine zo_drop 6 ?_
  exact hf
set_option maxRecDepth 100000 in
set_option maxHeartbeats 4000000 in
theorem w_M_mail_0 {d : Nat}   {h : ZH} {Q : Int32 → ZH → Prop}
    (hf : (((zi h 12 0 6) = 0 → Q (503 : Int32) h) ∧ (¬ (zi h 12 0 6) = 0 → (((zi h 12 0 7) = 0 → EvI d m_M_spooled [vQ (some (12, 0))] h (fun y2 g1 => ((¬ y2 = (6 : Int32) → (vp_in (6 : Int32) (zLen 13 6) ∧ EvV d m_M_keepPath [vQ (some (12, 0)), vI (11 : Int32), vI (4 : Int32)] (zw (zw g1 12 0 7 (1 : Int32)) 13 6 (6 : Int32).toNatClampNeg (0 : Int32)) (fun g3 => Q (250 : Int32) g3))) ∧ (y2 = (6 : Int32) → Q (452 : Int32) g1)))) ∧ (¬ (zi h 12 0 7) = 0 → Q (503 : Int32) h))))) :
    EvAt (d + 1) m_M_mail 0 [some (vQ (some (12, 0)))] [] h (zQI Q) := by
  refine zo_aload_n d_M_mail_0 rfl rfl ?_
  refine gf_M_greeted wd_705 d_M_mail_1 ?_
  refine zo_if_eq (tgt := 14) d_M_mail_4 (by decide) (fun c6 => ?_) (fun c6 => ?_)
  · replace hf := hf.1 c6
    refine zo_sipush (v := 503) d_M_mail_14 (by decide) ?_
    exact zo_iretI rfl d_M_mail_17 hf
  · replace hf := hf.2 c6
    refine zo_aload_n d_M_mail_7 rfl rfl ?_
    refine gf_M_begun wd_706 d_M_mail_8 ?_
    refine zo_if_eq (tgt := 18) d_M_mail_11 (by decide) (fun c5 => ?_) (fun c5 => ?_)
    · replace hf := hf.1 c5
      refine zo_aload_n d_M_mail_18 rfl rfl ?_
      refine zo_callVI (d := d) (N := m_M_spooled) (as := []) (n := 0) (zin (by decide) (by decide)) rfl rfl cv_M_spooled wd_811 rfl rfl (Nat.le_of_ble_eq_true rfl) d_M_mail_19 hf (fun y2 g1 hf => ?_)
      refine zo_bipush (v := 6) d_M_mail_22 (by decide) ?_
      refine zo_icmp_ne (tgt := 31) d_M_mail_24 (by decide) (fun c4 => ?_) (fun c4 => ?_)
      · replace hf := hf.1 c4
        refine zo_aload_n d_M_mail_31 rfl rfl ?_
        refine zo_iconst (v := 1) d_M_mail_32 (by decide) ?_
        refine pf_M_begun wd_706 (by decide) d_M_mail_33 ?_
        refine zo_aload_n d_M_mail_36 rfl rfl ?_
        refine gf_M_many wd_714 d_M_mail_37 ?_
        refine zo_bipush (v := 6) d_M_mail_40 (by decide) ?_
        refine zo_iconst (v := 0) d_M_mail_42 (by decide) ?_
        obtain ⟨hp, hf⟩ := hf
        refine zo_iast (zin (by decide) (by decide)) rfl rfl rfl hp d_M_mail_43 ?_
        refine zo_aload_n d_M_mail_44 rfl rfl ?_
        refine zo_bipush (v := 11) d_M_mail_45 (by decide) ?_
        refine zo_iconst (v := 4) d_M_mail_47 (by decide) ?_
        refine zo_callVV (d := d) (N := m_M_keepPath) (as := [vI (11 : Int32), vI (4 : Int32)]) (n := 2) (zin (by decide) (by decide)) rfl rfl cv_M_keepPath wd_884 rfl rfl (Nat.le_of_ble_eq_true rfl) d_M_mail_48 hf (fun g3 hf => ?_)
        refine zo_sipush (v := 250) d_M_mail_51 (by decide) ?_
        exact zo_iretI rfl d_M_mail_54 hf
      · replace hf := hf.2 c4
        refine zo_sipush (v := 452) d_M_mail_27 (by decide) ?_
        exact zo_iretI rfl d_M_mail_30 hf
    · replace hf := hf.2 c5
      refine zo_sipush (v := 503) d_M_mail_14 (by decide) ?_
      exact zo_iretI rfl d_M_mail_17 hf
theorem e_M_mail {d : Nat}   {h : ZH} {Q : Int32 → ZH → Prop}
    (hf : (((zi h 12 0 6) = 0 → Q (503 : Int32) h) ∧ (¬ (zi h 12 0 6) = 0 → (((zi h 12 0 7) = 0 → EvI d m_M_spooled [vQ (some (12, 0))] h (fun y2 g1 => ((¬ y2 = (6 : Int32) → (vp_in (6 : Int32) (zLen 13 6) ∧ EvV d m_M_keepPath [vQ (some (12, 0)), vI (11 : Int32), vI (4 : Int32)] (zw (zw g1 12 0 7 (1 : Int32)) 13 6 (6 : Int32).toNatClampNeg (0 : Int32)) (fun g3 => Q (250 : Int32) g3))) ∧ (y2 = (6 : Int32) → Q (452 : Int32) g1)))) ∧ (¬ (zi h 12 0 7) = 0 → Q (503 : Int32) h))))) :
    EvI (d + 1) m_M_mail [vQ (some (12, 0))] h Q := zo_entry (by decide) (Nat.le_of_ble_eq_true rfl) (w_M_mail_0   hf)
set_option maxRecDepth 100000 in
set_option maxHeartbeats 4000000 in
theorem w_M_keepPath_0 {d : Nat} (x1 : Int32) (x2 : Int32)  {h : ZH} {Q : ZH → Prop}
    (hf : (vp_in ((30 : Int32) + x2) (zLen 13 5) ∧ EvAt d m_M_keepPath 19 [some (vQ (some (12, 0))), some (vI x1), some (vI x2), some (vI x1)] [] (zw h 13 5 ((30 : Int32) + x2).toNatClampNeg (((zi h 12 0 5) - (1 : Int32)) - x1)) (zQV Q))) :
    EvAt d m_M_keepPath 0 [some (vQ (some (12, 0))), some (vI x1), some (vI x2), none] [] h (zQV Q) := by
  refine zo_aload_n d_M_keepPath_0 rfl rfl ?_
  refine gf_M_pathSize wd_713 d_M_keepPath_1 ?_
  refine zo_bipush (v := 30) d_M_keepPath_4 (by decide) ?_
  refine zo_iload_n d_M_keepPath_6 rfl rfl ?_
  refine zo_iadd d_M_keepPath_7 ?_
  refine zo_aload_n d_M_keepPath_8 rfl rfl ?_
  refine gf_M_length wd_704 d_M_keepPath_9 ?_
  refine zo_iconst (v := 1) d_M_keepPath_12 (by decide) ?_
  refine zo_isub d_M_keepPath_13 ?_
  refine zo_iload_n d_M_keepPath_14 rfl rfl ?_
  refine zo_isub d_M_keepPath_15 ?_
  obtain ⟨hp, hf⟩ := hf
  refine zo_iast (zin (by decide) (by decide)) rfl rfl rfl hp d_M_keepPath_16 ?_
  refine zo_iload_n d_M_keepPath_17 rfl rfl ?_
  refine zo_istore_n d_M_keepPath_18 rfl (Nat.le_of_ble_eq_true rfl) rfl ?_
  exact hf
theorem e_M_keepPath {d : Nat} (x1 : Int32) (x2 : Int32)  {h : ZH} {Q : ZH → Prop}
    (hf : (vp_in ((30 : Int32) + x2) (zLen 13 5) ∧ EvAt d m_M_keepPath 19 [some (vQ (some (12, 0))), some (vI x1), some (vI x2), some (vI x1)] [] (zw h 13 5 ((30 : Int32) + x2).toNatClampNeg (((zi h 12 0 5) - (1 : Int32)) - x1)) (zQV Q))) :
    EvV d m_M_keepPath [vQ (some (12, 0)), vI x1, vI x2] h Q := zo_entry (by decide) (Nat.le_of_ble_eq_true rfl) (w_M_keepPath_0 x1 x2  hf)
set_option maxRecDepth 100000 in
set_option maxHeartbeats 4000000 in
theorem w_M_keepPath_19 {d : Nat} (x1 : Int32) (x2 : Int32) (x3 : Int32)  {h : ZH} {Q : ZH → Prop}
    (hf : ((((zi h 12 0 5) - (1 : Int32)) ≤ x3 → Q h) ∧ (¬ ((zi h 12 0 5) - (1 : Int32)) ≤ x3 → (vp_in x3 (zLen 13 0) ∧ (vp_in ((((40 : Int32) * ((30 : Int32) + x2)) + x3) - x1) (zLen 13 4) ∧ EvAt d m_M_keepPath 19 [some (vQ (some (12, 0))), some (vI x1), some (vI x2), some (vI (x3 + 1))] [] (zw h 13 4 ((((40 : Int32) * ((30 : Int32) + x2)) + x3) - x1).toNatClampNeg (zi h 13 0 x3.toNatClampNeg)) (zQV Q)))))) :
    EvAt d m_M_keepPath 19 [some (vQ (some (12, 0))), some (vI x1), some (vI x2), some (vI x3)] [] h (zQV Q) := by
  refine zo_iload_n d_M_keepPath_19 rfl rfl ?_
  refine zo_aload_n d_M_keepPath_20 rfl rfl ?_
  refine gf_M_length wd_704 d_M_keepPath_21 ?_
  refine zo_iconst (v := 1) d_M_keepPath_24 (by decide) ?_
  refine zo_isub d_M_keepPath_25 ?_
  refine zo_icmp_ge (tgt := 57) d_M_keepPath_26 (by decide) (fun c1 => ?_) (fun c1 => ?_)
  · replace hf := hf.1 c1
    exact zo_vretV rfl d_M_keepPath_57 hf
  · replace hf := hf.2 c1
    refine zo_aload_n d_M_keepPath_29 rfl rfl ?_
    refine gf_M_paths wd_712 d_M_keepPath_30 ?_
    refine zo_bipush (v := 40) d_M_keepPath_33 (by decide) ?_
    refine zo_bipush (v := 30) d_M_keepPath_35 (by decide) ?_
    refine zo_iload_n d_M_keepPath_37 rfl rfl ?_
    refine zo_iadd d_M_keepPath_38 ?_
    refine zo_imul d_M_keepPath_39 ?_
    refine zo_iload_n d_M_keepPath_40 rfl rfl ?_
    refine zo_iadd d_M_keepPath_41 ?_
    refine zo_iload_n d_M_keepPath_42 rfl rfl ?_
    refine zo_isub d_M_keepPath_43 ?_
    refine zo_aload_n d_M_keepPath_44 rfl rfl ?_
    refine gf_M_line wd_703 d_M_keepPath_45 ?_
    refine zo_iload_n d_M_keepPath_48 rfl rfl ?_
    obtain ⟨hp, hf⟩ := hf
    refine zo_iald (zin (by decide) (by decide)) rfl rfl rfl hp d_M_keepPath_49 ?_
    obtain ⟨hp, hf⟩ := hf
    refine zo_iast (zin (by decide) (by decide)) rfl rfl rfl hp d_M_keepPath_50 ?_
    refine zo_iinc (v := x3 + 1) d_M_keepPath_51 rfl rfl (Nat.le_of_ble_eq_true rfl) rfl ?_
    refine zo_goto (tgt := 19) d_M_keepPath_54 (by decide) ?_
    exact hf
set_option maxRecDepth 100000 in
set_option maxHeartbeats 4000000 in
theorem w_M_recipient0_0 {d : Nat}   {h : ZH} {Q : Int32 → ZH → Prop}
    (hf : ((¬ (zi h 12 0 7) = 0 → (vp_in (6 : Int32) (zLen 13 6) ∧ ((¬ (zi h 13 6 (6 : Int32).toNatClampNeg) = (4 : Int32) → (vp_in (6 : Int32) (zLen 13 6) ∧ EvV d m_M_keepPath [vQ (some (12, 0)), vI (9 : Int32), vI (zi h 13 6 (6 : Int32).toNatClampNeg)] h (fun g1 => (vp_in (6 : Int32) (zLen 13 6) ∧ (vp_in (6 : Int32) (zLen 13 6) ∧ Q (250 : Int32) (zw g1 13 6 (6 : Int32).toNatClampNeg ((zi g1 13 6 (6 : Int32).toNatClampNeg) + (1 : Int32)))))))) ∧ ((zi h 13 6 (6 : Int32).toNatClampNeg) = (4 : Int32) → Q (452 : Int32) h)))) ∧ ((zi h 12 0 7) = 0 → Q (503 : Int32) h))) :
    EvAt (d + 1) m_M_recipient0 0 [some (vQ (some (12, 0)))] [] h (zQI Q) := by
  refine zo_aload_n d_M_recipient0_0 rfl rfl ?_
  refine gf_M_begun wd_706 d_M_recipient0_1 ?_
  refine zo_if_ne (tgt := 11) d_M_recipient0_4 (by decide) (fun c3 => ?_) (fun c3 => ?_)
  · replace hf := hf.1 c3
    refine zo_aload_n d_M_recipient0_11 rfl rfl ?_
    refine gf_M_many wd_714 d_M_recipient0_12 ?_
    refine zo_bipush (v := 6) d_M_recipient0_15 (by decide) ?_
    obtain ⟨hp, hf⟩ := hf
    refine zo_iald (zin (by decide) (by decide)) rfl rfl rfl hp d_M_recipient0_17 ?_
    refine zo_iconst (v := 4) d_M_recipient0_18 (by decide) ?_
    refine zo_icmp_ne (tgt := 26) d_M_recipient0_19 (by decide) (fun c2 => ?_) (fun c2 => ?_)
    · replace hf := hf.1 c2
      refine zo_aload_n d_M_recipient0_26 rfl rfl ?_
      refine zo_bipush (v := 9) d_M_recipient0_27 (by decide) ?_
      refine zo_aload_n d_M_recipient0_29 rfl rfl ?_
      refine gf_M_many wd_714 d_M_recipient0_30 ?_
      refine zo_bipush (v := 6) d_M_recipient0_33 (by decide) ?_
      obtain ⟨hp, hf⟩ := hf
      refine zo_iald (zin (by decide) (by decide)) rfl rfl rfl hp d_M_recipient0_35 ?_
      refine zo_callVV (d := d) (N := m_M_keepPath) (as := [vI (9 : Int32), vI (zi h 13 6 (6 : Int32).toNatClampNeg)]) (n := 2) (zin (by decide) (by decide)) rfl rfl cv_M_keepPath wd_884 rfl rfl (Nat.le_of_ble_eq_true rfl) d_M_recipient0_36 hf (fun g1 hf => ?_)
      refine zo_aload_n d_M_recipient0_39 rfl rfl ?_
      refine gf_M_many wd_714 d_M_recipient0_40 ?_
      refine zo_bipush (v := 6) d_M_recipient0_43 (by decide) ?_
      refine zo_aload_n d_M_recipient0_45 rfl rfl ?_
      refine gf_M_many wd_714 d_M_recipient0_46 ?_
      refine zo_bipush (v := 6) d_M_recipient0_49 (by decide) ?_
      obtain ⟨hp, hf⟩ := hf
      refine zo_iald (zin (by decide) (by decide)) rfl rfl rfl hp d_M_recipient0_51 ?_
      refine zo_iconst (v := 1) d_M_recipient0_52 (by decide) ?_
      refine zo_iadd d_M_recipient0_53 ?_
      obtain ⟨hp, hf⟩ := hf
      refine zo_iast (zin (by decide) (by decide)) rfl rfl rfl hp d_M_recipient0_54 ?_
      refine zo_sipush (v := 250) d_M_recipient0_55 (by decide) ?_
      exact zo_iretI rfl d_M_recipient0_58 hf
    · replace hf := hf.2 c2
      refine zo_sipush (v := 452) d_M_recipient0_22 (by decide) ?_
      exact zo_iretI rfl d_M_recipient0_25 hf
  · replace hf := hf.2 c3
    refine zo_sipush (v := 503) d_M_recipient0_7 (by decide) ?_
    exact zo_iretI rfl d_M_recipient0_10 hf
theorem e_M_recipient0 {d : Nat}   {h : ZH} {Q : Int32 → ZH → Prop}
    (hf : ((¬ (zi h 12 0 7) = 0 → (vp_in (6 : Int32) (zLen 13 6) ∧ ((¬ (zi h 13 6 (6 : Int32).toNatClampNeg) = (4 : Int32) → (vp_in (6 : Int32) (zLen 13 6) ∧ EvV d m_M_keepPath [vQ (some (12, 0)), vI (9 : Int32), vI (zi h 13 6 (6 : Int32).toNatClampNeg)] h (fun g1 => (vp_in (6 : Int32) (zLen 13 6) ∧ (vp_in (6 : Int32) (zLen 13 6) ∧ Q (250 : Int32) (zw g1 13 6 (6 : Int32).toNatClampNeg ((zi g1 13 6 (6 : Int32).toNatClampNeg) + (1 : Int32)))))))) ∧ ((zi h 13 6 (6 : Int32).toNatClampNeg) = (4 : Int32) → Q (452 : Int32) h)))) ∧ ((zi h 12 0 7) = 0 → Q (503 : Int32) h))) :
    EvI (d + 1) m_M_recipient0 [vQ (some (12, 0))] h Q := zo_entry (by decide) (Nat.le_of_ble_eq_true rfl) (w_M_recipient0_0   hf)
set_option maxRecDepth 100000 in
set_option maxHeartbeats 4000000 in
theorem w_M_breakAfter_0 {d : Nat} (x1 : Int32)  {h : ZH} {Q : Int32 → ZH → Prop}
    (hf : (((zi h 12 0 0) = 0 → Q (0 : Int32) h) ∧ (¬ (zi h 12 0 0) = 0 → ((x1 < 0 → Q (0 : Int32) h) ∧ (¬ x1 < 0 → ((x1 ≤ (20 : Int32) → Q (1 : Int32) (zw h 12 0 3 x1)) ∧ (¬ x1 ≤ (20 : Int32) → Q (0 : Int32) h))))))) :
    EvAt d m_M_breakAfter 0 [some (vQ (some (12, 0))), some (vI x1)] [] h (zQI Q) := by
  refine zo_aload_n d_M_breakAfter_0 rfl rfl ?_
  refine gf_M_up wd_699 d_M_breakAfter_1 ?_
  refine zo_if_eq (tgt := 17) d_M_breakAfter_4 (by decide) (fun c3 => ?_) (fun c3 => ?_)
  · replace hf := hf.1 c3
    refine zo_iconst (v := 0) d_M_breakAfter_17 (by decide) ?_
    exact zo_zretI (ty := .boolean) rfl rfl d_M_breakAfter_18 hf
  · replace hf := hf.2 c3
    refine zo_iload_n d_M_breakAfter_7 rfl rfl ?_
    refine zo_if_lt (tgt := 17) d_M_breakAfter_8 (by decide) (fun c2 => ?_) (fun c2 => ?_)
    · replace hf := hf.1 c2
      refine zo_iconst (v := 0) d_M_breakAfter_17 (by decide) ?_
      exact zo_zretI (ty := .boolean) rfl rfl d_M_breakAfter_18 hf
    · replace hf := hf.2 c2
      refine zo_iload_n d_M_breakAfter_11 rfl rfl ?_
      refine zo_bipush (v := 20) d_M_breakAfter_12 (by decide) ?_
      refine zo_icmp_le (tgt := 19) d_M_breakAfter_14 (by decide) (fun c1 => ?_) (fun c1 => ?_)
      · replace hf := hf.1 c1
        refine zo_aload_n d_M_breakAfter_19 rfl rfl ?_
        refine zo_iload_n d_M_breakAfter_20 rfl rfl ?_
        refine pf_M_writes wd_702 d_M_breakAfter_21 ?_
        refine zo_iconst (v := 1) d_M_breakAfter_24 (by decide) ?_
        exact zo_zretI (ty := .boolean) rfl rfl d_M_breakAfter_25 hf
      · replace hf := hf.2 c1
        refine zo_iconst (v := 0) d_M_breakAfter_17 (by decide) ?_
        exact zo_zretI (ty := .boolean) rfl rfl d_M_breakAfter_18 hf
theorem e_M_breakAfter {d : Nat} (x1 : Int32)  {h : ZH} {Q : Int32 → ZH → Prop}
    (hf : (((zi h 12 0 0) = 0 → Q (0 : Int32) h) ∧ (¬ (zi h 12 0 0) = 0 → ((x1 < 0 → Q (0 : Int32) h) ∧ (¬ x1 < 0 → ((x1 ≤ (20 : Int32) → Q (1 : Int32) (zw h 12 0 3 x1)) ∧ (¬ x1 ≤ (20 : Int32) → Q (0 : Int32) h))))))) :
    EvI d m_M_breakAfter [vQ (some (12, 0)), vI x1] h Q := zo_entry (by decide) (Nat.le_of_ble_eq_true rfl) (w_M_breakAfter_0 x1  hf)
set_option maxRecDepth 100000 in
set_option maxHeartbeats 4000000 in
theorem w_M_restart_0 {d : Nat}   {h : ZH} {Q : Int32 → ZH → Prop}
    (hf : (((zi h 12 0 0) = 0 → EvAt (d + 1) m_M_restart 26 [some (vQ (some (12, 0))), some (vI (0 : Int32))] [] (zw (zw (zw h 12 0 0 (1 : Int32)) 12 0 3 (-1 : Int32)) 12 0 5 (0 : Int32)) (zQI Q)) ∧ (¬ (zi h 12 0 0) = 0 → Q (-1 : Int32) h))) :
    EvAt (d + 1) m_M_restart 0 [some (vQ (some (12, 0))), none] [] h (zQI Q) := by
  refine zo_aload_n d_M_restart_0 rfl rfl ?_
  refine gf_M_up wd_699 d_M_restart_1 ?_
  refine zo_if_eq (tgt := 9) d_M_restart_4 (by decide) (fun c1 => ?_) (fun c1 => ?_)
  · replace hf := hf.1 c1
    refine zo_aload_n d_M_restart_9 rfl rfl ?_
    refine zo_iconst (v := 1) d_M_restart_10 (by decide) ?_
    refine pf_M_up wd_699 (by decide) d_M_restart_11 ?_
    refine zo_aload_n d_M_restart_14 rfl rfl ?_
    refine zo_iconst (v := (-1)) d_M_restart_15 (by decide) ?_
    refine pf_M_writes wd_702 d_M_restart_16 ?_
    refine zo_aload_n d_M_restart_19 rfl rfl ?_
    refine zo_iconst (v := 0) d_M_restart_20 (by decide) ?_
    refine pf_M_length wd_704 d_M_restart_21 ?_
    refine zo_iconst (v := 0) d_M_restart_24 (by decide) ?_
    refine zo_istore_n d_M_restart_25 rfl (Nat.le_of_ble_eq_true rfl) rfl ?_
    exact hf
  · replace hf := hf.2 c1
    refine zo_iconst (v := (-1)) d_M_restart_7 (by decide) ?_
    exact zo_iretI rfl d_M_restart_8 hf
theorem e_M_restart {d : Nat}   {h : ZH} {Q : Int32 → ZH → Prop}
    (hf : (((zi h 12 0 0) = 0 → EvAt (d + 1) m_M_restart 26 [some (vQ (some (12, 0))), some (vI (0 : Int32))] [] (zw (zw (zw h 12 0 0 (1 : Int32)) 12 0 3 (-1 : Int32)) 12 0 5 (0 : Int32)) (zQI Q)) ∧ (¬ (zi h 12 0 0) = 0 → Q (-1 : Int32) h))) :
    EvI (d + 1) m_M_restart [vQ (some (12, 0))] h Q := zo_entry (by decide) (Nat.le_of_ble_eq_true rfl) (w_M_restart_0   hf)
set_option maxRecDepth 100000 in
set_option maxHeartbeats 4000000 in
theorem w_M_restart_26 {d : Nat} (x1 : Int32)  {h : ZH} {Q : Int32 → ZH → Prop}
    (hf : (((6 : Int32) ≤ x1 → EvI d m_M_letters [vQ (some (12, 0))] h (fun y2 g1 => Q y2 g1)) ∧ (¬ (6 : Int32) ≤ x1 → (vp_in x1 (zLen 14 0) ∧ (((zi h 14 0 x1.toNatClampNeg) = 0 → EvAt (d + 1) m_M_restart 56 [some (vQ (some (12, 0))), some (vI x1)] [vI (-1 : Int32), vI x1, vQ (some (13, 1))] h (zQI Q)) ∧ (¬ (zi h 14 0 x1.toNatClampNeg) = 0 → (vp_in x1 (zLen 13 1) ∧ EvAt (d + 1) m_M_restart 56 [some (vQ (some (12, 0))), some (vI x1)] [vI (zi h 13 1 x1.toNatClampNeg), vI x1, vQ (some (13, 1))] h (zQI Q)))))))) :
    EvAt (d + 1) m_M_restart 26 [some (vQ (some (12, 0))), some (vI x1)] [] h (zQI Q) := by
  refine zo_iload_n d_M_restart_26 rfl rfl ?_
  refine zo_bipush (v := 6) d_M_restart_27 (by decide) ?_
  refine zo_icmp_ge (tgt := 63) d_M_restart_29 (by decide) (fun c4 => ?_) (fun c4 => ?_)
  · replace hf := hf.1 c4
    refine zo_aload_n d_M_restart_63 rfl rfl ?_
    refine zo_callVI (d := d) (N := m_M_letters) (as := []) (n := 0) (zin (by decide) (by decide)) rfl rfl cv_M_letters wd_900 rfl rfl (Nat.le_of_ble_eq_true rfl) d_M_restart_64 hf (fun y2 g1 hf => ?_)
    exact zo_iretI rfl d_M_restart_67 hf
  · replace hf := hf.2 c4
    refine zo_aload_n d_M_restart_32 rfl rfl ?_
    refine gf_M_number wd_708 d_M_restart_33 ?_
    refine zo_iload_n d_M_restart_36 rfl rfl ?_
    refine zo_aload_n d_M_restart_37 rfl rfl ?_
    refine gf_M_sealed wd_709 d_M_restart_38 ?_
    refine zo_iload_n d_M_restart_41 rfl rfl ?_
    obtain ⟨hp, hf⟩ := hf
    refine zo_zald (zin (by decide) (by decide)) rfl rfl rfl hp d_M_restart_42 ?_
    refine zo_if_eq (tgt := 55) d_M_restart_43 (by decide) (fun c3 => ?_) (fun c3 => ?_)
    · replace hf := hf.1 c3
      refine zo_iconst (v := (-1)) d_M_restart_55 (by decide) ?_
      exact hf
    · replace hf := hf.2 c3
      refine zo_aload_n d_M_restart_46 rfl rfl ?_
      refine gf_M_number wd_708 d_M_restart_47 ?_
      refine zo_iload_n d_M_restart_50 rfl rfl ?_
      obtain ⟨hp, hf⟩ := hf
      refine zo_iald (zin (by decide) (by decide)) rfl rfl rfl hp d_M_restart_51 ?_
      refine zo_goto (tgt := 56) d_M_restart_52 (by decide) ?_
      exact hf
set_option maxRecDepth 100000 in
set_option maxHeartbeats 4000000 in
theorem w_M_restart_56 {d : Nat} (x1 : Int32) (xs1 : Int32) (xs2 : Int32)  {h : ZH} {Q : Int32 → ZH → Prop}
    (hf : (vp_in xs1 (zLen 13 1) ∧ EvAt (d + 1) m_M_restart 26 [some (vQ (some (12, 0))), some (vI (x1 + 1))] [] (zw h 13 1 xs1.toNatClampNeg xs2) (zQI Q))) :
    EvAt (d + 1) m_M_restart 56 [some (vQ (some (12, 0))), some (vI x1)] [vI xs2, vI xs1, vQ (some (13, 1))] h (zQI Q) := by
  obtain ⟨hp, hf⟩ := hf
  refine zo_iast (zin (by decide) (by decide)) rfl rfl rfl hp d_M_restart_56 ?_
  refine zo_iinc (v := x1 + 1) d_M_restart_57 rfl rfl (Nat.le_of_ble_eq_true rfl) rfl ?_
  refine zo_goto (tgt := 26) d_M_restart_60 (by decide) ?_
  exact hf
set_option maxRecDepth 100000 in
set_option maxHeartbeats 4000000 in
theorem w_M_letters_0 {d : Nat}   {h : ZH} {Q : Int32 → ZH → Prop}
    (hf : EvAt (d + 1) m_M_letters 4 [some (vQ (some (12, 0))), some (vI (0 : Int32)), some (vI (0 : Int32))] [] h (zQI Q)) :
    EvAt (d + 1) m_M_letters 0 [some (vQ (some (12, 0))), none, none] [] h (zQI Q) := by
  refine zo_iconst (v := 0) d_M_letters_0 (by decide) ?_
  refine zo_istore_n d_M_letters_1 rfl (Nat.le_of_ble_eq_true rfl) rfl ?_
  refine zo_iconst (v := 0) d_M_letters_2 (by decide) ?_
  refine zo_istore_n d_M_letters_3 rfl (Nat.le_of_ble_eq_true rfl) rfl ?_
  exact hf
theorem e_M_letters {d : Nat}   {h : ZH} {Q : Int32 → ZH → Prop}
    (hf : EvAt (d + 1) m_M_letters 4 [some (vQ (some (12, 0))), some (vI (0 : Int32)), some (vI (0 : Int32))] [] h (zQI Q)) :
    EvI (d + 1) m_M_letters [vQ (some (12, 0))] h Q := zo_entry (by decide) (Nat.le_of_ble_eq_true rfl) (w_M_letters_0   hf)
set_option maxRecDepth 100000 in
set_option maxHeartbeats 4000000 in
theorem w_M_letters_4 {d : Nat} (x1 : Int32) (x2 : Int32)  {h : ZH} {Q : Int32 → ZH → Prop}
    (hf : (((6 : Int32) ≤ x2 → Q x1 h) ∧ (¬ (6 : Int32) ≤ x2 → EvI d m_M_isLetterAt [vQ (some (12, 0)), vI x2] h (fun y2 g1 => ((y2 = 0 → EvAt (d + 1) m_M_letters 25 [some (vQ (some (12, 0))), none, some (vI x2)] [vI x1] g1 (zQI Q)) ∧ (¬ y2 = 0 → EvAt (d + 1) m_M_letters 25 [some (vQ (some (12, 0))), none, some (vI x2)] [vI (x1 + (1 : Int32))] g1 (zQI Q))))))) :
    EvAt (d + 1) m_M_letters 4 [some (vQ (some (12, 0))), some (vI x1), some (vI x2)] [] h (zQI Q) := by
  refine zo_iload_n d_M_letters_4 rfl rfl ?_
  refine zo_bipush (v := 6) d_M_letters_5 (by decide) ?_
  refine zo_icmp_ge (tgt := 32) d_M_letters_7 (by decide) (fun c4 => ?_) (fun c4 => ?_)
  · replace hf := hf.1 c4
    refine zo_iload_n d_M_letters_32 rfl rfl ?_
    exact zo_iretI rfl d_M_letters_33 hf
  · replace hf := hf.2 c4
    refine zo_aload_n d_M_letters_10 rfl rfl ?_
    refine zo_iload_n d_M_letters_11 rfl rfl ?_
    refine zo_callVI (d := d) (N := m_M_isLetterAt) (as := [vI x2]) (n := 1) (zin (by decide) (by decide)) rfl rfl cv_M_isLetterAt wd_904 rfl rfl (Nat.le_of_ble_eq_true rfl) d_M_letters_12 hf (fun y2 g1 hf => ?_)
    refine zo_if_eq (tgt := 24) d_M_letters_15 (by decide) (fun c3 => ?_) (fun c3 => ?_)
    · replace hf := hf.1 c3
      refine zo_iload_n d_M_letters_24 rfl rfl ?_
      refine zo_drop 1 ?_
      exact hf
    · replace hf := hf.2 c3
      refine zo_iload_n d_M_letters_18 rfl rfl ?_
      refine zo_iconst (v := 1) d_M_letters_19 (by decide) ?_
      refine zo_iadd d_M_letters_20 ?_
      refine zo_goto (tgt := 25) d_M_letters_21 (by decide) ?_
      refine zo_drop 1 ?_
      exact hf
set_option maxRecDepth 100000 in
set_option maxHeartbeats 4000000 in
theorem w_M_letters_25 {d : Nat} (x2 : Int32) (xs0 : Int32)  {h : ZH} {Q : Int32 → ZH → Prop}
    (hf : EvAt (d + 1) m_M_letters 4 [some (vQ (some (12, 0))), some (vI xs0), some (vI (x2 + 1))] [] h (zQI Q)) :
    EvAt (d + 1) m_M_letters 25 [some (vQ (some (12, 0))), none, some (vI x2)] [vI xs0] h (zQI Q) := by
  refine zo_istore_n d_M_letters_25 rfl (Nat.le_of_ble_eq_true rfl) rfl ?_
  refine zo_iinc (v := x2 + 1) d_M_letters_26 rfl rfl (Nat.le_of_ble_eq_true rfl) rfl ?_
  refine zo_goto (tgt := 4) d_M_letters_29 (by decide) ?_
  exact hf
set_option maxRecDepth 100000 in
set_option maxHeartbeats 4000000 in
theorem w_M_isLetterAt_0 {d : Nat} (x1 : Int32)  {h : ZH} {Q : Int32 → ZH → Prop}
    (hf : (vp_in x1 (zLen 13 1) ∧ (((zi h 13 1 x1.toNatClampNeg) < 0 → Q (0 : Int32) h) ∧ (¬ (zi h 13 1 x1.toNatClampNeg) < 0 → (vp_in x1 (zLen 14 0) ∧ (((zi h 14 0 x1.toNatClampNeg) = 0 → Q (0 : Int32) h) ∧ (¬ (zi h 14 0 x1.toNatClampNeg) = 0 → Q (1 : Int32) h))))))) :
    EvAt d m_M_isLetterAt 0 [some (vQ (some (12, 0))), some (vI x1)] [] h (zQI Q) := by
  refine zo_aload_n d_M_isLetterAt_0 rfl rfl ?_
  refine gf_M_number wd_708 d_M_isLetterAt_1 ?_
  refine zo_iload_n d_M_isLetterAt_4 rfl rfl ?_
  obtain ⟨hp, hf⟩ := hf
  refine zo_iald (zin (by decide) (by decide)) rfl rfl rfl hp d_M_isLetterAt_5 ?_
  refine zo_if_lt (tgt := 22) d_M_isLetterAt_6 (by decide) (fun c2 => ?_) (fun c2 => ?_)
  · replace hf := hf.1 c2
    refine zo_iconst (v := 0) d_M_isLetterAt_22 (by decide) ?_
    exact zo_zretI (ty := .boolean) rfl rfl d_M_isLetterAt_23 hf
  · replace hf := hf.2 c2
    refine zo_aload_n d_M_isLetterAt_9 rfl rfl ?_
    refine gf_M_sealed wd_709 d_M_isLetterAt_10 ?_
    refine zo_iload_n d_M_isLetterAt_13 rfl rfl ?_
    obtain ⟨hp, hf⟩ := hf
    refine zo_zald (zin (by decide) (by decide)) rfl rfl rfl hp d_M_isLetterAt_14 ?_
    refine zo_if_eq (tgt := 22) d_M_isLetterAt_15 (by decide) (fun c1 => ?_) (fun c1 => ?_)
    · replace hf := hf.1 c1
      refine zo_iconst (v := 0) d_M_isLetterAt_22 (by decide) ?_
      exact zo_zretI (ty := .boolean) rfl rfl d_M_isLetterAt_23 hf
    · replace hf := hf.2 c1
      refine zo_iconst (v := 1) d_M_isLetterAt_18 (by decide) ?_
      refine zo_goto (tgt := 23) d_M_isLetterAt_19 (by decide) ?_
      exact zo_zretI (ty := .boolean) rfl rfl d_M_isLetterAt_23 hf
theorem e_M_isLetterAt {d : Nat} (x1 : Int32)  {h : ZH} {Q : Int32 → ZH → Prop}
    (hf : (vp_in x1 (zLen 13 1) ∧ (((zi h 13 1 x1.toNatClampNeg) < 0 → Q (0 : Int32) h) ∧ (¬ (zi h 13 1 x1.toNatClampNeg) < 0 → (vp_in x1 (zLen 14 0) ∧ (((zi h 14 0 x1.toNatClampNeg) = 0 → Q (0 : Int32) h) ∧ (¬ (zi h 14 0 x1.toNatClampNeg) = 0 → Q (1 : Int32) h))))))) :
    EvI d m_M_isLetterAt [vQ (some (12, 0)), vI x1] h Q := zo_entry (by decide) (Nat.le_of_ble_eq_true rfl) (w_M_isLetterAt_0 x1  hf)
set_option maxRecDepth 100000 in
set_option maxHeartbeats 4000000 in
theorem w_M_pass_0 {d : Nat} (x1 : Int32)  {h : ZH} {Q : Int32 → ZH → Prop}
    (hf : ((x1 < 0 → Q (-1 : Int32) h) ∧ (¬ x1 < 0 → ((x1 ≤ (1000 : Int32) → Q (zi (zw h 12 0 1 ((zi h 12 0 1) + x1)) 12 0 1) (zw h 12 0 1 ((zi h 12 0 1) + x1))) ∧ (¬ x1 ≤ (1000 : Int32) → Q (-1 : Int32) h))))) :
    EvAt d m_M_pass 0 [some (vQ (some (12, 0))), some (vI x1)] [] h (zQI Q) := by
  refine zo_iload_n d_M_pass_0 rfl rfl ?_
  refine zo_if_lt (tgt := 11) d_M_pass_1 (by decide) (fun c2 => ?_) (fun c2 => ?_)
  · replace hf := hf.1 c2
    refine zo_iconst (v := (-1)) d_M_pass_11 (by decide) ?_
    exact zo_iretI rfl d_M_pass_12 hf
  · replace hf := hf.2 c2
    refine zo_iload_n d_M_pass_4 rfl rfl ?_
    refine zo_sipush (v := 1000) d_M_pass_5 (by decide) ?_
    refine zo_icmp_le (tgt := 13) d_M_pass_8 (by decide) (fun c1 => ?_) (fun c1 => ?_)
    · replace hf := hf.1 c1
      refine zo_aload_n d_M_pass_13 rfl rfl ?_
      refine zo_aload_n d_M_pass_14 rfl rfl ?_
      refine gf_M_now wd_700 d_M_pass_15 ?_
      refine zo_iload_n d_M_pass_18 rfl rfl ?_
      refine zo_iadd d_M_pass_19 ?_
      refine pf_M_now wd_700 d_M_pass_20 ?_
      refine zo_aload_n d_M_pass_23 rfl rfl ?_
      refine gf_M_now wd_700 d_M_pass_24 ?_
      exact zo_iretI rfl d_M_pass_27 hf
    · replace hf := hf.2 c1
      refine zo_iconst (v := (-1)) d_M_pass_11 (by decide) ?_
      exact zo_iretI rfl d_M_pass_12 hf
theorem e_M_pass {d : Nat} (x1 : Int32)  {h : ZH} {Q : Int32 → ZH → Prop}
    (hf : ((x1 < 0 → Q (-1 : Int32) h) ∧ (¬ x1 < 0 → ((x1 ≤ (1000 : Int32) → Q (zi (zw h 12 0 1 ((zi h 12 0 1) + x1)) 12 0 1) (zw h 12 0 1 ((zi h 12 0 1) + x1))) ∧ (¬ x1 ≤ (1000 : Int32) → Q (-1 : Int32) h))))) :
    EvI d m_M_pass [vQ (some (12, 0)), vI x1] h Q := zo_entry (by decide) (Nat.le_of_ble_eq_true rfl) (w_M_pass_0 x1  hf)
set_option maxRecDepth 100000 in
set_option maxHeartbeats 4000000 in
theorem w_M_next_0 {d : Nat}   {h : ZH} {Q : Int32 → ZH → Prop}
    (hf : (((zi h 12 0 0) = 0 → EvAt (d + 1) m_M_next 15 [some (vQ (some (12, 0))), none] [vI (-1 : Int32)] h (zQI Q)) ∧ (¬ (zi h 12 0 0) = 0 → EvI d m_M_nextOne [vQ (some (12, 0))] h (fun y2 g1 => EvAt (d + 1) m_M_next 15 [some (vQ (some (12, 0))), none] [vI y2] g1 (zQI Q))))) :
    EvAt (d + 1) m_M_next 0 [some (vQ (some (12, 0))), none] [] h (zQI Q) := by
  refine zo_aload_n d_M_next_0 rfl rfl ?_
  refine gf_M_up wd_699 d_M_next_1 ?_
  refine zo_if_eq (tgt := 14) d_M_next_4 (by decide) (fun c3 => ?_) (fun c3 => ?_)
  · replace hf := hf.1 c3
    refine zo_iconst (v := (-1)) d_M_next_14 (by decide) ?_
    exact hf
  · replace hf := hf.2 c3
    refine zo_aload_n d_M_next_7 rfl rfl ?_
    refine zo_callVI (d := d) (N := m_M_nextOne) (as := []) (n := 0) (zin (by decide) (by decide)) rfl rfl cv_M_nextOne wd_916 rfl rfl (Nat.le_of_ble_eq_true rfl) d_M_next_8 hf (fun y2 g1 hf => ?_)
    refine zo_goto (tgt := 15) d_M_next_11 (by decide) ?_
    exact hf
theorem e_M_next {d : Nat}   {h : ZH} {Q : Int32 → ZH → Prop}
    (hf : (((zi h 12 0 0) = 0 → EvAt (d + 1) m_M_next 15 [some (vQ (some (12, 0))), none] [vI (-1 : Int32)] h (zQI Q)) ∧ (¬ (zi h 12 0 0) = 0 → EvI d m_M_nextOne [vQ (some (12, 0))] h (fun y2 g1 => EvAt (d + 1) m_M_next 15 [some (vQ (some (12, 0))), none] [vI y2] g1 (zQI Q))))) :
    EvI (d + 1) m_M_next [vQ (some (12, 0))] h Q := zo_entry (by decide) (Nat.le_of_ble_eq_true rfl) (w_M_next_0   hf)
set_option maxRecDepth 100000 in
set_option maxHeartbeats 4000000 in
theorem w_M_next_15 {d : Nat} (xs0 : Int32)  {h : ZH} {Q : Int32 → ZH → Prop}
    (hf : ((0 ≤ xs0 → (vp_in (xs0 / (4 : Int32)) (zLen 13 1) ∧ Q (zi h 13 1 (xs0 / (4 : Int32)).toNatClampNeg) h)) ∧ (¬ 0 ≤ xs0 → Q (-1 : Int32) h))) :
    EvAt (d + 1) m_M_next 15 [some (vQ (some (12, 0))), none] [vI xs0] h (zQI Q) := by
  refine zo_istore_n d_M_next_15 rfl (Nat.le_of_ble_eq_true rfl) rfl ?_
  refine zo_iload_n d_M_next_16 rfl rfl ?_
  refine zo_if_ge (tgt := 24) d_M_next_17 (by decide) (fun c1 => ?_) (fun c1 => ?_)
  · replace hf := hf.1 c1
    refine zo_aload_n d_M_next_24 rfl rfl ?_
    refine gf_M_number wd_708 d_M_next_25 ?_
    refine zo_iload_n d_M_next_28 rfl rfl ?_
    refine zo_iconst (v := 4) d_M_next_29 (by decide) ?_
    refine zo_idiv d_M_next_30 (by decide) ?_
    obtain ⟨hp, hf⟩ := hf
    refine zo_iald (zin (by decide) (by decide)) rfl rfl rfl hp d_M_next_31 ?_
    exact zo_iretI rfl d_M_next_32 hf
  · replace hf := hf.2 c1
    refine zo_iconst (v := (-1)) d_M_next_20 (by decide) ?_
    refine zo_goto (tgt := 32) d_M_next_21 (by decide) ?_
    exact zo_iretI rfl d_M_next_32 hf
set_option maxRecDepth 100000 in
set_option maxHeartbeats 4000000 in
theorem w_M_nextOne_0 {d : Nat}   {h : ZH} {Q : Int32 → ZH → Prop}
    (hf : EvAt (d + 1) m_M_nextOne 4 [some (vQ (some (12, 0))), some (vI (-1 : Int32)), some (vI (0 : Int32)), none, none, none] [] h (zQI Q)) :
    EvAt (d + 1) m_M_nextOne 0 [some (vQ (some (12, 0))), none, none, none, none, none] [] h (zQI Q) := by
  refine zo_iconst (v := (-1)) d_M_nextOne_0 (by decide) ?_
  refine zo_istore_n d_M_nextOne_1 rfl (Nat.le_of_ble_eq_true rfl) rfl ?_
  refine zo_iconst (v := 0) d_M_nextOne_2 (by decide) ?_
  refine zo_istore_n d_M_nextOne_3 rfl (Nat.le_of_ble_eq_true rfl) rfl ?_
  exact hf
theorem e_M_nextOne {d : Nat}   {h : ZH} {Q : Int32 → ZH → Prop}
    (hf : EvAt (d + 1) m_M_nextOne 4 [some (vQ (some (12, 0))), some (vI (-1 : Int32)), some (vI (0 : Int32)), none, none, none] [] h (zQI Q)) :
    EvI (d + 1) m_M_nextOne [vQ (some (12, 0))] h Q := zo_entry (by decide) (Nat.le_of_ble_eq_true rfl) (w_M_nextOne_0   hf)
set_option maxRecDepth 100000 in
set_option maxHeartbeats 4000000 in
theorem w_M_nextOne_4 {d : Nat} (x1 : Int32) (x2 : Int32)  {h : ZH} {Q : Int32 → ZH → Prop}
    (hf : (((24 : Int32) ≤ x2 → Q x1 h) ∧ (¬ (24 : Int32) ≤ x2 → EvI d m_M_isLetterAt [vQ (some (12, 0)), vI (x2 / (4 : Int32))] h (fun y2 g1 => ((y2 = 0 → EvAt (d + 1) m_M_nextOne 61 [some (vQ (some (12, 0))), some (vI x1), some (vI x2), some (vI (x2 / (4 : Int32))), none, none] [] g1 (zQI Q)) ∧ (¬ y2 = 0 → (vp_in (x2 / (4 : Int32)) (zLen 13 6) ∧ (((zi g1 13 6 (x2 / (4 : Int32)).toNatClampNeg) ≤ (x2 - x2 / (4 : Int32) * (4 : Int32)) → EvAt (d + 1) m_M_nextOne 61 [some (vQ (some (12, 0))), some (vI x1), some (vI x2), some (vI (x2 / (4 : Int32))), none, none] [] g1 (zQI Q)) ∧ (¬ (zi g1 13 6 (x2 / (4 : Int32)).toNatClampNeg) ≤ (x2 - x2 / (4 : Int32) * (4 : Int32)) → (vp_in x2 (zLen 13 7) ∧ (((4 : Int32) ≤ (zi g1 13 7 x2.toNatClampNeg) → EvAt (d + 1) m_M_nextOne 61 [some (vQ (some (12, 0))), some (vI x1), some (vI x2), some (vI (x2 / (4 : Int32))), none, none] [] g1 (zQI Q)) ∧ (¬ (4 : Int32) ≤ (zi g1 13 7 x2.toNatClampNeg) → (vp_in x2 (zLen 13 8) ∧ (((zi g1 12 0 1) < (zi g1 13 8 x2.toNatClampNeg) → EvAt (d + 1) m_M_nextOne 61 [some (vQ (some (12, 0))), some (vI x1), some (vI x2), some (vI (x2 / (4 : Int32))), none, none] [] g1 (zQI Q)) ∧ (¬ (zi g1 12 0 1) < (zi g1 13 8 x2.toNatClampNeg) → EvAt (d + 1) m_M_nextOne 62 [some (vQ (some (12, 0))), some (vI x1), some (vI x2), some (vI (x2 / (4 : Int32))), none, none] [vI (1 : Int32)] g1 (zQI Q)))))))))))))))) :
    EvAt (d + 1) m_M_nextOne 4 [some (vQ (some (12, 0))), some (vI x1), some (vI x2), none, none, none] [] h (zQI Q) := by
  refine zo_iload_n d_M_nextOne_4 rfl rfl ?_
  refine zo_bipush (v := 24) d_M_nextOne_5 (by decide) ?_
  refine zo_icmp_ge (tgt := 144) d_M_nextOne_7 (by decide) (fun c7 => ?_) (fun c7 => ?_)
  · replace hf := hf.1 c7
    refine zo_iload_n d_M_nextOne_144 rfl rfl ?_
    exact zo_iretI rfl d_M_nextOne_145 hf
  · replace hf := hf.2 c7
    refine zo_iload_n d_M_nextOne_10 rfl rfl ?_
    refine zo_iconst (v := 4) d_M_nextOne_11 (by decide) ?_
    refine zo_idiv d_M_nextOne_12 (by decide) ?_
    refine zo_istore_n d_M_nextOne_13 rfl (Nat.le_of_ble_eq_true rfl) rfl ?_
    refine zo_aload_n d_M_nextOne_14 rfl rfl ?_
    refine zo_iload_n d_M_nextOne_15 rfl rfl ?_
    refine zo_callVI (d := d) (N := m_M_isLetterAt) (as := [vI (x2 / (4 : Int32))]) (n := 1) (zin (by decide) (by decide)) rfl rfl cv_M_isLetterAt wd_904 rfl rfl (Nat.le_of_ble_eq_true rfl) d_M_nextOne_16 hf (fun y2 g1 hf => ?_)
    refine zo_if_eq (tgt := 61) d_M_nextOne_19 (by decide) (fun c6 => ?_) (fun c6 => ?_)
    · replace hf := hf.1 c6
      exact hf
    · replace hf := hf.2 c6
      refine zo_iload_n d_M_nextOne_22 rfl rfl ?_
      refine zo_iconst (v := 4) d_M_nextOne_23 (by decide) ?_
      refine zo_irem d_M_nextOne_24 (by decide) ?_
      refine zo_aload_n d_M_nextOne_25 rfl rfl ?_
      refine gf_M_many wd_714 d_M_nextOne_26 ?_
      refine zo_iload_n d_M_nextOne_29 rfl rfl ?_
      obtain ⟨hp, hf⟩ := hf
      refine zo_iald (zin (by decide) (by decide)) rfl rfl rfl hp d_M_nextOne_30 ?_
      refine zo_icmp_ge (tgt := 61) d_M_nextOne_31 (by decide) (fun c5 => ?_) (fun c5 => ?_)
      · replace hf := hf.1 c5
        exact hf
      · replace hf := hf.2 c5
        refine zo_aload_n d_M_nextOne_34 rfl rfl ?_
        refine gf_M_fate wd_715 d_M_nextOne_35 ?_
        refine zo_iload_n d_M_nextOne_38 rfl rfl ?_
        obtain ⟨hp, hf⟩ := hf
        refine zo_iald (zin (by decide) (by decide)) rfl rfl rfl hp d_M_nextOne_39 ?_
        refine zo_iconst (v := 4) d_M_nextOne_40 (by decide) ?_
        refine zo_icmp_ge (tgt := 61) d_M_nextOne_41 (by decide) (fun c4 => ?_) (fun c4 => ?_)
        · replace hf := hf.1 c4
          exact hf
        · replace hf := hf.2 c4
          refine zo_aload_n d_M_nextOne_44 rfl rfl ?_
          refine gf_M_dueAt wd_716 d_M_nextOne_45 ?_
          refine zo_iload_n d_M_nextOne_48 rfl rfl ?_
          obtain ⟨hp, hf⟩ := hf
          refine zo_iald (zin (by decide) (by decide)) rfl rfl rfl hp d_M_nextOne_49 ?_
          refine zo_aload_n d_M_nextOne_50 rfl rfl ?_
          refine gf_M_now wd_700 d_M_nextOne_51 ?_
          refine zo_icmp_gt (tgt := 61) d_M_nextOne_54 (by decide) (fun c3 => ?_) (fun c3 => ?_)
          · replace hf := hf.1 c3
            exact hf
          · replace hf := hf.2 c3
            refine zo_iconst (v := 1) d_M_nextOne_57 (by decide) ?_
            refine zo_goto (tgt := 62) d_M_nextOne_58 (by decide) ?_
            exact hf
set_option maxRecDepth 100000 in
set_option maxHeartbeats 4000000 in
theorem w_M_nextOne_61 {d : Nat} (x1 : Int32) (x2 : Int32) (x3 : Int32)  {h : ZH} {Q : Int32 → ZH → Prop}
    (hf : EvAt (d + 1) m_M_nextOne 62 [some (vQ (some (12, 0))), some (vI x1), some (vI x2), some (vI x3), none, none] [vI (0 : Int32)] h (zQI Q)) :
    EvAt (d + 1) m_M_nextOne 61 [some (vQ (some (12, 0))), some (vI x1), some (vI x2), some (vI x3), none, none] [] h (zQI Q) := by
  refine zo_iconst (v := 0) d_M_nextOne_61 (by decide) ?_
  exact hf
set_option maxRecDepth 100000 in
set_option maxHeartbeats 4000000 in
theorem w_M_nextOne_62 {d : Nat} (x1 : Int32) (x2 : Int32) (x3 : Int32) (xs0 : Int32)  {h : ZH} {Q : Int32 → ZH → Prop}
    (hf : ((xs0 = 0 → EvAt (d + 1) m_M_nextOne 138 [some (vQ (some (12, 0))), some (vI x1), some (vI x2), none, none, none] [] h (zQI Q)) ∧ (¬ xs0 = 0 → ((x1 < 0 → EvAt (d + 1) m_M_nextOne 120 [some (vQ (some (12, 0))), some (vI x1), some (vI x2), none, none, none] [] h (zQI Q)) ∧ (¬ x1 < 0 → (vp_in x2 (zLen 13 8) ∧ (vp_in x1 (zLen 13 8) ∧ (((zi h 13 8 x2.toNatClampNeg) < (zi h 13 8 x1.toNatClampNeg) → EvAt (d + 1) m_M_nextOne 120 [some (vQ (some (12, 0))), some (vI x1), some (vI x2), none, none, none] [] h (zQI Q)) ∧ (¬ (zi h 13 8 x2.toNatClampNeg) < (zi h 13 8 x1.toNatClampNeg) → (vp_in x2 (zLen 13 8) ∧ (vp_in x1 (zLen 13 8) ∧ ((¬ (zi h 13 8 x2.toNatClampNeg) = (zi h 13 8 x1.toNatClampNeg) → EvAt (d + 1) m_M_nextOne 124 [some (vQ (some (12, 0))), some (vI x1), some (vI x2), none, none, none] [] h (zQI Q)) ∧ ((zi h 13 8 x2.toNatClampNeg) = (zi h 13 8 x1.toNatClampNeg) → (vp_in x3 (zLen 13 1) ∧ (vp_in (x1 / (4 : Int32)) (zLen 13 1) ∧ (((zi h 13 1 (x1 / (4 : Int32)).toNatClampNeg) ≤ (zi h 13 1 x3.toNatClampNeg) → EvAt (d + 1) m_M_nextOne 124 [some (vQ (some (12, 0))), some (vI x1), some (vI x2), none, none, none] [] h (zQI Q)) ∧ (¬ (zi h 13 1 (x1 / (4 : Int32)).toNatClampNeg) ≤ (zi h 13 1 x3.toNatClampNeg) → EvAt (d + 1) m_M_nextOne 120 [some (vQ (some (12, 0))), some (vI x1), some (vI x2), none, none, none] [] h (zQI Q)))))))))))))))))) :
    EvAt (d + 1) m_M_nextOne 62 [some (vQ (some (12, 0))), some (vI x1), some (vI x2), some (vI x3), none, none] [vI xs0] h (zQI Q) := by
  refine zo_istore d_M_nextOne_62 (Nat.le_of_ble_eq_true rfl) rfl ?_
  refine zo_iload d_M_nextOne_64 rfl ?_
  refine zo_if_eq (tgt := 138) d_M_nextOne_66 (by decide) (fun c5 => ?_) (fun c5 => ?_)
  · replace hf := hf.1 c5
    refine zo_drop 3 ?_
    refine zo_drop 4 ?_
    exact hf
  · replace hf := hf.2 c5
    refine zo_iload_n d_M_nextOne_69 rfl rfl ?_
    refine zo_if_lt (tgt := 120) d_M_nextOne_70 (by decide) (fun c4 => ?_) (fun c4 => ?_)
    · replace hf := hf.1 c4
      refine zo_drop 3 ?_
      refine zo_drop 4 ?_
      exact hf
    · replace hf := hf.2 c4
      refine zo_aload_n d_M_nextOne_73 rfl rfl ?_
      refine gf_M_dueAt wd_716 d_M_nextOne_74 ?_
      refine zo_iload_n d_M_nextOne_77 rfl rfl ?_
      obtain ⟨hp, hf⟩ := hf
      refine zo_iald (zin (by decide) (by decide)) rfl rfl rfl hp d_M_nextOne_78 ?_
      refine zo_aload_n d_M_nextOne_79 rfl rfl ?_
      refine gf_M_dueAt wd_716 d_M_nextOne_80 ?_
      refine zo_iload_n d_M_nextOne_83 rfl rfl ?_
      obtain ⟨hp, hf⟩ := hf
      refine zo_iald (zin (by decide) (by decide)) rfl rfl rfl hp d_M_nextOne_84 ?_
      refine zo_icmp_lt (tgt := 120) d_M_nextOne_85 (by decide) (fun c3 => ?_) (fun c3 => ?_)
      · replace hf := hf.1 c3
        refine zo_drop 3 ?_
        refine zo_drop 4 ?_
        exact hf
      · replace hf := hf.2 c3
        refine zo_aload_n d_M_nextOne_88 rfl rfl ?_
        refine gf_M_dueAt wd_716 d_M_nextOne_89 ?_
        refine zo_iload_n d_M_nextOne_92 rfl rfl ?_
        obtain ⟨hp, hf⟩ := hf
        refine zo_iald (zin (by decide) (by decide)) rfl rfl rfl hp d_M_nextOne_93 ?_
        refine zo_aload_n d_M_nextOne_94 rfl rfl ?_
        refine gf_M_dueAt wd_716 d_M_nextOne_95 ?_
        refine zo_iload_n d_M_nextOne_98 rfl rfl ?_
        obtain ⟨hp, hf⟩ := hf
        refine zo_iald (zin (by decide) (by decide)) rfl rfl rfl hp d_M_nextOne_99 ?_
        refine zo_icmp_ne (tgt := 124) d_M_nextOne_100 (by decide) (fun c2 => ?_) (fun c2 => ?_)
        · replace hf := hf.1 c2
          refine zo_drop 3 ?_
          refine zo_drop 4 ?_
          exact hf
        · replace hf := hf.2 c2
          refine zo_aload_n d_M_nextOne_103 rfl rfl ?_
          refine gf_M_number wd_708 d_M_nextOne_104 ?_
          refine zo_iload_n d_M_nextOne_107 rfl rfl ?_
          obtain ⟨hp, hf⟩ := hf
          refine zo_iald (zin (by decide) (by decide)) rfl rfl rfl hp d_M_nextOne_108 ?_
          refine zo_aload_n d_M_nextOne_109 rfl rfl ?_
          refine gf_M_number wd_708 d_M_nextOne_110 ?_
          refine zo_iload_n d_M_nextOne_113 rfl rfl ?_
          refine zo_iconst (v := 4) d_M_nextOne_114 (by decide) ?_
          refine zo_idiv d_M_nextOne_115 (by decide) ?_
          obtain ⟨hp, hf⟩ := hf
          refine zo_iald (zin (by decide) (by decide)) rfl rfl rfl hp d_M_nextOne_116 ?_
          refine zo_icmp_ge (tgt := 124) d_M_nextOne_117 (by decide) (fun c1 => ?_) (fun c1 => ?_)
          · replace hf := hf.1 c1
            refine zo_drop 3 ?_
            refine zo_drop 4 ?_
            exact hf
          · replace hf := hf.2 c1
            refine zo_drop 3 ?_
            refine zo_drop 4 ?_
            exact hf
set_option maxRecDepth 100000 in
set_option maxHeartbeats 4000000 in
theorem w_M_nextOne_120 {d : Nat} (x1 : Int32) (x2 : Int32)  {h : ZH} {Q : Int32 → ZH → Prop}
    (hf : EvAt (d + 1) m_M_nextOne 125 [some (vQ (some (12, 0))), some (vI x1), some (vI x2), none, none, none] [vI (1 : Int32)] h (zQI Q)) :
    EvAt (d + 1) m_M_nextOne 120 [some (vQ (some (12, 0))), some (vI x1), some (vI x2), none, none, none] [] h (zQI Q) := by
  refine zo_iconst (v := 1) d_M_nextOne_120 (by decide) ?_
  refine zo_goto (tgt := 125) d_M_nextOne_121 (by decide) ?_
  exact hf
set_option maxRecDepth 100000 in
set_option maxHeartbeats 4000000 in
theorem w_M_nextOne_124 {d : Nat} (x1 : Int32) (x2 : Int32)  {h : ZH} {Q : Int32 → ZH → Prop}
    (hf : EvAt (d + 1) m_M_nextOne 125 [some (vQ (some (12, 0))), some (vI x1), some (vI x2), none, none, none] [vI (0 : Int32)] h (zQI Q)) :
    EvAt (d + 1) m_M_nextOne 124 [some (vQ (some (12, 0))), some (vI x1), some (vI x2), none, none, none] [] h (zQI Q) := by
  refine zo_iconst (v := 0) d_M_nextOne_124 (by decide) ?_
  exact hf
set_option maxRecDepth 100000 in
set_option maxHeartbeats 4000000 in
theorem w_M_nextOne_125 {d : Nat} (x1 : Int32) (x2 : Int32) (xs0 : Int32)  {h : ZH} {Q : Int32 → ZH → Prop}
    (hf : ((xs0 = 0 → EvAt (d + 1) m_M_nextOne 137 [some (vQ (some (12, 0))), none, some (vI x2), none, none, none] [vI x1] h (zQI Q)) ∧ (¬ xs0 = 0 → EvAt (d + 1) m_M_nextOne 137 [some (vQ (some (12, 0))), none, some (vI x2), none, none, none] [vI x2] h (zQI Q)))) :
    EvAt (d + 1) m_M_nextOne 125 [some (vQ (some (12, 0))), some (vI x1), some (vI x2), none, none, none] [vI xs0] h (zQI Q) := by
  refine zo_istore d_M_nextOne_125 (Nat.le_of_ble_eq_true rfl) rfl ?_
  refine zo_iload d_M_nextOne_127 rfl ?_
  refine zo_if_eq (tgt := 136) d_M_nextOne_129 (by decide) (fun c1 => ?_) (fun c1 => ?_)
  · replace hf := hf.1 c1
    refine zo_iload_n d_M_nextOne_136 rfl rfl ?_
    refine zo_drop 1 ?_
    refine zo_drop 5 ?_
    exact hf
  · replace hf := hf.2 c1
    refine zo_iload_n d_M_nextOne_132 rfl rfl ?_
    refine zo_goto (tgt := 137) d_M_nextOne_133 (by decide) ?_
    refine zo_drop 1 ?_
    refine zo_drop 5 ?_
    exact hf
set_option maxRecDepth 100000 in
set_option maxHeartbeats 4000000 in
theorem w_M_nextOne_137 {d : Nat} (x2 : Int32) (xs0 : Int32)  {h : ZH} {Q : Int32 → ZH → Prop}
    (hf : EvAt (d + 1) m_M_nextOne 138 [some (vQ (some (12, 0))), some (vI xs0), some (vI x2), none, none, none] [] h (zQI Q)) :
    EvAt (d + 1) m_M_nextOne 137 [some (vQ (some (12, 0))), none, some (vI x2), none, none, none] [vI xs0] h (zQI Q) := by
  refine zo_istore_n d_M_nextOne_137 rfl (Nat.le_of_ble_eq_true rfl) rfl ?_
  exact hf
set_option maxRecDepth 100000 in
set_option maxHeartbeats 4000000 in
theorem w_M_nextOne_138 {d : Nat} (x1 : Int32) (x2 : Int32)  {h : ZH} {Q : Int32 → ZH → Prop}
    (hf : EvAt (d + 1) m_M_nextOne 4 [some (vQ (some (12, 0))), some (vI x1), some (vI (x2 + 1)), none, none, none] [] h (zQI Q)) :
    EvAt (d + 1) m_M_nextOne 138 [some (vQ (some (12, 0))), some (vI x1), some (vI x2), none, none, none] [] h (zQI Q) := by
  refine zo_iinc (v := x2 + 1) d_M_nextOne_138 rfl rfl (Nat.le_of_ble_eq_true rfl) rfl ?_
  refine zo_goto (tgt := 4) d_M_nextOne_141 (by decide) ?_
  exact hf
set_option maxRecDepth 100000 in
set_option maxHeartbeats 4000000 in
theorem w_M_reply_0 {d : Nat} (x1 : Int32)  {h : ZH} {Q : Int32 → ZH → Prop}
    (hf : (((zi h 12 0 0) = 0 → EvAt (d + 1) m_M_reply 15 [some (vQ (some (12, 0))), some (vI x1), none, none] [vI (-1 : Int32)] h (zQI Q)) ∧ (¬ (zi h 12 0 0) = 0 → EvI d m_M_nextOne [vQ (some (12, 0))] h (fun y2 g1 => EvAt (d + 1) m_M_reply 15 [some (vQ (some (12, 0))), some (vI x1), none, none] [vI y2] g1 (zQI Q))))) :
    EvAt (d + 1) m_M_reply 0 [some (vQ (some (12, 0))), some (vI x1), none, none] [] h (zQI Q) := by
  refine zo_aload_n d_M_reply_0 rfl rfl ?_
  refine gf_M_up wd_699 d_M_reply_1 ?_
  refine zo_if_eq (tgt := 14) d_M_reply_4 (by decide) (fun c3 => ?_) (fun c3 => ?_)
  · replace hf := hf.1 c3
    refine zo_iconst (v := (-1)) d_M_reply_14 (by decide) ?_
    exact hf
  · replace hf := hf.2 c3
    refine zo_aload_n d_M_reply_7 rfl rfl ?_
    refine zo_callVI (d := d) (N := m_M_nextOne) (as := []) (n := 0) (zin (by decide) (by decide)) rfl rfl cv_M_nextOne wd_916 rfl rfl (Nat.le_of_ble_eq_true rfl) d_M_reply_8 hf (fun y2 g1 hf => ?_)
    refine zo_goto (tgt := 15) d_M_reply_11 (by decide) ?_
    exact hf
theorem e_M_reply {d : Nat} (x1 : Int32)  {h : ZH} {Q : Int32 → ZH → Prop}
    (hf : (((zi h 12 0 0) = 0 → EvAt (d + 1) m_M_reply 15 [some (vQ (some (12, 0))), some (vI x1), none, none] [vI (-1 : Int32)] h (zQI Q)) ∧ (¬ (zi h 12 0 0) = 0 → EvI d m_M_nextOne [vQ (some (12, 0))] h (fun y2 g1 => EvAt (d + 1) m_M_reply 15 [some (vQ (some (12, 0))), some (vI x1), none, none] [vI y2] g1 (zQI Q))))) :
    EvI (d + 1) m_M_reply [vQ (some (12, 0)), vI x1] h Q := zo_entry (by decide) (Nat.le_of_ble_eq_true rfl) (w_M_reply_0 x1  hf)
set_option maxRecDepth 100000 in
set_option maxHeartbeats 4000000 in
theorem w_M_reply_15 {d : Nat} (x1 : Int32) (xs0 : Int32)  {h : ZH} {Q : Int32 → ZH → Prop}
    (hf : ((xs0 < 0 → Q (-1 : Int32) h) ∧ (¬ xs0 < 0 → ((x1 < (200 : Int32) → Q (-1 : Int32) h) ∧ (¬ x1 < (200 : Int32) → (((599 : Int32) < x1 → Q (-1 : Int32) h) ∧ (¬ (599 : Int32) < x1 → ((x1 ≤ (299 : Int32) → EvAt (d + 1) m_M_reply 50 [some (vQ (some (12, 0))), some (vI x1), some (vI xs0), none] [] h (zQI Q)) ∧ (¬ x1 ≤ (299 : Int32) → (((400 : Int32) ≤ x1 → EvAt (d + 1) m_M_reply 50 [some (vQ (some (12, 0))), some (vI x1), some (vI xs0), none] [] h (zQI Q)) ∧ (¬ (400 : Int32) ≤ x1 → Q (-1 : Int32) h))))))))))) :
    EvAt (d + 1) m_M_reply 15 [some (vQ (some (12, 0))), some (vI x1), none, none] [vI xs0] h (zQI Q) := by
  refine zo_istore_n d_M_reply_15 rfl (Nat.le_of_ble_eq_true rfl) rfl ?_
  refine zo_iload_n d_M_reply_16 rfl rfl ?_
  refine zo_if_lt (tgt := 48) d_M_reply_17 (by decide) (fun c5 => ?_) (fun c5 => ?_)
  · replace hf := hf.1 c5
    refine zo_iconst (v := (-1)) d_M_reply_48 (by decide) ?_
    exact zo_iretI rfl d_M_reply_49 hf
  · replace hf := hf.2 c5
    refine zo_iload_n d_M_reply_20 rfl rfl ?_
    refine zo_sipush (v := 200) d_M_reply_21 (by decide) ?_
    refine zo_icmp_lt (tgt := 48) d_M_reply_24 (by decide) (fun c4 => ?_) (fun c4 => ?_)
    · replace hf := hf.1 c4
      refine zo_iconst (v := (-1)) d_M_reply_48 (by decide) ?_
      exact zo_iretI rfl d_M_reply_49 hf
    · replace hf := hf.2 c4
      refine zo_iload_n d_M_reply_27 rfl rfl ?_
      refine zo_sipush (v := 599) d_M_reply_28 (by decide) ?_
      refine zo_icmp_gt (tgt := 48) d_M_reply_31 (by decide) (fun c3 => ?_) (fun c3 => ?_)
      · replace hf := hf.1 c3
        refine zo_iconst (v := (-1)) d_M_reply_48 (by decide) ?_
        exact zo_iretI rfl d_M_reply_49 hf
      · replace hf := hf.2 c3
        refine zo_iload_n d_M_reply_34 rfl rfl ?_
        refine zo_sipush (v := 299) d_M_reply_35 (by decide) ?_
        refine zo_icmp_le (tgt := 50) d_M_reply_38 (by decide) (fun c2 => ?_) (fun c2 => ?_)
        · replace hf := hf.1 c2
          exact hf
        · replace hf := hf.2 c2
          refine zo_iload_n d_M_reply_41 rfl rfl ?_
          refine zo_sipush (v := 400) d_M_reply_42 (by decide) ?_
          refine zo_icmp_ge (tgt := 50) d_M_reply_45 (by decide) (fun c1 => ?_) (fun c1 => ?_)
          · replace hf := hf.1 c1
            exact hf
          · replace hf := hf.2 c1
            refine zo_iconst (v := (-1)) d_M_reply_48 (by decide) ?_
            exact zo_iretI rfl d_M_reply_49 hf
set_option maxRecDepth 100000 in
set_option maxHeartbeats 4000000 in
theorem w_M_reply_50 {d : Nat} (x1 : Int32) (x2 : Int32)  {h : ZH} {Q : Int32 → ZH → Prop}
    (hf : ((x1 < (400 : Int32) → EvAt (d + 1) m_M_reply 122 [some (vQ (some (12, 0))), some (vI x1), some (vI x2), some (vI (x2 / (4 : Int32)))] [] h (zQI Q)) ∧ (¬ x1 < (400 : Int32) → (((500 : Int32) ≤ x1 → EvAt (d + 1) m_M_reply 122 [some (vQ (some (12, 0))), some (vI x1), some (vI x2), some (vI (x2 / (4 : Int32)))] [] h (zQI Q)) ∧ (¬ (500 : Int32) ≤ x1 → (vp_in x2 (zLen 13 7) ∧ (((3 : Int32) ≤ (zi h 13 7 x2.toNatClampNeg) → EvAt (d + 1) m_M_reply 122 [some (vQ (some (12, 0))), some (vI x1), some (vI x2), some (vI (x2 / (4 : Int32)))] [] h (zQI Q)) ∧ (¬ (3 : Int32) ≤ (zi h 13 7 x2.toNatClampNeg) → EvI d m_M_write [vQ (some (12, 0))] h (fun y2 g1 => ((y2 = 0 → Q (0 : Int32) g1) ∧ (¬ y2 = 0 → (vp_in x2 (zLen 13 7) ∧ (vp_in x2 (zLen 13 7) ∧ (vp_in x2 (zLen 13 7) ∧ (vp_in x2 (zLen 13 8) ∧ Q (0 : Int32) (zw (zw g1 13 7 x2.toNatClampNeg ((zi g1 13 7 x2.toNatClampNeg) + (1 : Int32))) 13 8 x2.toNatClampNeg ((zi (zw g1 13 7 x2.toNatClampNeg ((zi g1 13 7 x2.toNatClampNeg) + (1 : Int32))) 12 0 1) + ((1 : Int32) <<< (((2 : Int32) * (zi (zw g1 13 7 x2.toNatClampNeg ((zi g1 13 7 x2.toNatClampNeg) + (1 : Int32))) 13 7 x2.toNatClampNeg)) &&& 31))))))))))))))))))) :
    EvAt (d + 1) m_M_reply 50 [some (vQ (some (12, 0))), some (vI x1), some (vI x2), none] [] h (zQI Q) := by
  refine zo_iload_n d_M_reply_50 rfl rfl ?_
  refine zo_iconst (v := 4) d_M_reply_51 (by decide) ?_
  refine zo_idiv d_M_reply_52 (by decide) ?_
  refine zo_istore_n d_M_reply_53 rfl (Nat.le_of_ble_eq_true rfl) rfl ?_
  refine zo_iload_n d_M_reply_54 rfl rfl ?_
  refine zo_sipush (v := 400) d_M_reply_55 (by decide) ?_
  refine zo_icmp_lt (tgt := 122) d_M_reply_58 (by decide) (fun c6 => ?_) (fun c6 => ?_)
  · replace hf := hf.1 c6
    exact hf
  · replace hf := hf.2 c6
    refine zo_iload_n d_M_reply_61 rfl rfl ?_
    refine zo_sipush (v := 500) d_M_reply_62 (by decide) ?_
    refine zo_icmp_ge (tgt := 122) d_M_reply_65 (by decide) (fun c5 => ?_) (fun c5 => ?_)
    · replace hf := hf.1 c5
      exact hf
    · replace hf := hf.2 c5
      refine zo_aload_n d_M_reply_68 rfl rfl ?_
      refine gf_M_fate wd_715 d_M_reply_69 ?_
      refine zo_iload_n d_M_reply_72 rfl rfl ?_
      obtain ⟨hp, hf⟩ := hf
      refine zo_iald (zin (by decide) (by decide)) rfl rfl rfl hp d_M_reply_73 ?_
      refine zo_iconst (v := 3) d_M_reply_74 (by decide) ?_
      refine zo_icmp_ge (tgt := 122) d_M_reply_75 (by decide) (fun c4 => ?_) (fun c4 => ?_)
      · replace hf := hf.1 c4
        exact hf
      · replace hf := hf.2 c4
        refine zo_aload_n d_M_reply_78 rfl rfl ?_
        refine zo_callVI (d := d) (N := m_M_write) (as := []) (n := 0) (zin (by decide) (by decide)) rfl rfl cv_M_write wd_819 rfl rfl (Nat.le_of_ble_eq_true rfl) d_M_reply_79 hf (fun y2 g1 hf => ?_)
        refine zo_if_eq (tgt := 120) d_M_reply_82 (by decide) (fun c3 => ?_) (fun c3 => ?_)
        · replace hf := hf.1 c3
          refine zo_iconst (v := 0) d_M_reply_120 (by decide) ?_
          exact zo_iretI rfl d_M_reply_121 hf
        · replace hf := hf.2 c3
          refine zo_aload_n d_M_reply_85 rfl rfl ?_
          refine gf_M_fate wd_715 d_M_reply_86 ?_
          refine zo_iload_n d_M_reply_89 rfl rfl ?_
          refine zo_aload_n d_M_reply_90 rfl rfl ?_
          refine gf_M_fate wd_715 d_M_reply_91 ?_
          refine zo_iload_n d_M_reply_94 rfl rfl ?_
          obtain ⟨hp, hf⟩ := hf
          refine zo_iald (zin (by decide) (by decide)) rfl rfl rfl hp d_M_reply_95 ?_
          refine zo_iconst (v := 1) d_M_reply_96 (by decide) ?_
          refine zo_iadd d_M_reply_97 ?_
          obtain ⟨hp, hf⟩ := hf
          refine zo_iast (zin (by decide) (by decide)) rfl rfl rfl hp d_M_reply_98 ?_
          refine zo_aload_n d_M_reply_99 rfl rfl ?_
          refine gf_M_dueAt wd_716 d_M_reply_100 ?_
          refine zo_iload_n d_M_reply_103 rfl rfl ?_
          refine zo_aload_n d_M_reply_104 rfl rfl ?_
          refine gf_M_now wd_700 d_M_reply_105 ?_
          refine zo_iconst (v := 1) d_M_reply_108 (by decide) ?_
          refine zo_iconst (v := 2) d_M_reply_109 (by decide) ?_
          refine zo_aload_n d_M_reply_110 rfl rfl ?_
          refine gf_M_fate wd_715 d_M_reply_111 ?_
          refine zo_iload_n d_M_reply_114 rfl rfl ?_
          obtain ⟨hp, hf⟩ := hf
          refine zo_iald (zin (by decide) (by decide)) rfl rfl rfl hp d_M_reply_115 ?_
          refine zo_imul d_M_reply_116 ?_
          refine zo_ishl d_M_reply_117 ?_
          refine zo_iadd d_M_reply_118 ?_
          obtain ⟨hp, hf⟩ := hf
          refine zo_iast (zin (by decide) (by decide)) rfl rfl rfl hp d_M_reply_119 ?_
          refine zo_iconst (v := 0) d_M_reply_120 (by decide) ?_
          exact zo_iretI rfl d_M_reply_121 hf
set_option maxRecDepth 100000 in
set_option maxHeartbeats 4000000 in
theorem w_M_reply_122 {d : Nat} (x1 : Int32) (x2 : Int32) (x3 : Int32)  {h : ZH} {Q : Int32 → ZH → Prop}
    (hf : ((x1 < (300 : Int32) → EvAt (d + 1) m_M_reply 164 [some (vQ (some (12, 0))), some (vI x1), some (vI x2), some (vI x3)] [] h (zQI Q)) ∧ (¬ x1 < (300 : Int32) → (vp_in (((5 : Int32) * x3) + (4 : Int32)) (zLen 13 5) ∧ (((zi h 13 5 (((5 : Int32) * x3) + (4 : Int32)).toNatClampNeg) ≤ 0 → EvAt (d + 1) m_M_reply 164 [some (vQ (some (12, 0))), some (vI x1), some (vI x2), some (vI x3)] [] h (zQI Q)) ∧ (¬ (zi h 13 5 (((5 : Int32) * x3) + (4 : Int32)).toNatClampNeg) ≤ 0 → EvI d m_M_spooled [vQ (some (12, 0))] h (fun y2 g1 => (((6 : Int32) ≤ y2 → EvAt (d + 1) m_M_reply 164 [some (vQ (some (12, 0))), some (vI x1), some (vI x2), some (vI x3)] [] g1 (zQI Q)) ∧ (¬ (6 : Int32) ≤ y2 → EvI d m_M_tell [vQ (some (12, 0)), vI x3, vI (x2 - x2 / (4 : Int32) * (4 : Int32))] g1 (fun y4 g3 => ((¬ y4 = 0 → EvAt (d + 1) m_M_reply 164 [some (vQ (some (12, 0))), some (vI x1), some (vI x2), some (vI x3)] [] g3 (zQI Q)) ∧ (y4 = 0 → Q (0 : Int32) g3)))))))))))) :
    EvAt (d + 1) m_M_reply 122 [some (vQ (some (12, 0))), some (vI x1), some (vI x2), some (vI x3)] [] h (zQI Q) := by
  refine zo_iload_n d_M_reply_122 rfl rfl ?_
  refine zo_sipush (v := 300) d_M_reply_123 (by decide) ?_
  refine zo_icmp_lt (tgt := 164) d_M_reply_126 (by decide) (fun c8 => ?_) (fun c8 => ?_)
  · replace hf := hf.1 c8
    exact hf
  · replace hf := hf.2 c8
    refine zo_aload_n d_M_reply_129 rfl rfl ?_
    refine gf_M_pathSize wd_713 d_M_reply_130 ?_
    refine zo_iconst (v := 5) d_M_reply_133 (by decide) ?_
    refine zo_iload_n d_M_reply_134 rfl rfl ?_
    refine zo_imul d_M_reply_135 ?_
    refine zo_iconst (v := 4) d_M_reply_136 (by decide) ?_
    refine zo_iadd d_M_reply_137 ?_
    obtain ⟨hp, hf⟩ := hf
    refine zo_iald (zin (by decide) (by decide)) rfl rfl rfl hp d_M_reply_138 ?_
    refine zo_if_le (tgt := 164) d_M_reply_139 (by decide) (fun c7 => ?_) (fun c7 => ?_)
    · replace hf := hf.1 c7
      exact hf
    · replace hf := hf.2 c7
      refine zo_aload_n d_M_reply_142 rfl rfl ?_
      refine zo_callVI (d := d) (N := m_M_spooled) (as := []) (n := 0) (zin (by decide) (by decide)) rfl rfl cv_M_spooled wd_811 rfl rfl (Nat.le_of_ble_eq_true rfl) d_M_reply_143 hf (fun y2 g1 hf => ?_)
      refine zo_bipush (v := 6) d_M_reply_146 (by decide) ?_
      refine zo_icmp_ge (tgt := 164) d_M_reply_148 (by decide) (fun c6 => ?_) (fun c6 => ?_)
      · replace hf := hf.1 c6
        exact hf
      · replace hf := hf.2 c6
        refine zo_aload_n d_M_reply_151 rfl rfl ?_
        refine zo_iload_n d_M_reply_152 rfl rfl ?_
        refine zo_iload_n d_M_reply_153 rfl rfl ?_
        refine zo_iconst (v := 4) d_M_reply_154 (by decide) ?_
        refine zo_irem d_M_reply_155 (by decide) ?_
        refine zo_callVI (d := d) (N := m_M_tell) (as := [vI x3, vI (x2 - x2 / (4 : Int32) * (4 : Int32))]) (n := 2) (zin (by decide) (by decide)) rfl rfl cv_M_tell wd_924 rfl rfl (Nat.le_of_ble_eq_true rfl) d_M_reply_156 hf (fun y4 g3 hf => ?_)
        refine zo_if_ne (tgt := 164) d_M_reply_159 (by decide) (fun c5 => ?_) (fun c5 => ?_)
        · replace hf := hf.1 c5
          exact hf
        · replace hf := hf.2 c5
          refine zo_iconst (v := 0) d_M_reply_162 (by decide) ?_
          exact zo_iretI rfl d_M_reply_163 hf
set_option maxRecDepth 100000 in
set_option maxHeartbeats 4000000 in
theorem w_M_reply_164 {d : Nat} (x1 : Int32) (x2 : Int32) (x3 : Int32)  {h : ZH} {Q : Int32 → ZH → Prop}
    (hf : EvI d m_M_write [vQ (some (12, 0))] h (fun y2 g1 => ((¬ y2 = 0 → (((300 : Int32) ≤ x1 → EvAt (d + 1) m_M_reply 192 [some (vQ (some (12, 0))), some (vI x1), none, some (vI x3)] [vI (20 : Int32), vI x2, vQ (some (13, 7))] g1 (zQI Q)) ∧ (¬ (300 : Int32) ≤ x1 → EvAt (d + 1) m_M_reply 192 [some (vQ (some (12, 0))), some (vI x1), none, some (vI x3)] [vI (10 : Int32), vI x2, vQ (some (13, 7))] g1 (zQI Q)))) ∧ (y2 = 0 → Q (0 : Int32) g1)))) :
    EvAt (d + 1) m_M_reply 164 [some (vQ (some (12, 0))), some (vI x1), some (vI x2), some (vI x3)] [] h (zQI Q) := by
  refine zo_aload_n d_M_reply_164 rfl rfl ?_
  refine zo_callVI (d := d) (N := m_M_write) (as := []) (n := 0) (zin (by decide) (by decide)) rfl rfl cv_M_write wd_819 rfl rfl (Nat.le_of_ble_eq_true rfl) d_M_reply_165 hf (fun y2 g1 hf => ?_)
  refine zo_if_ne (tgt := 173) d_M_reply_168 (by decide) (fun c4 => ?_) (fun c4 => ?_)
  · replace hf := hf.1 c4
    refine zo_aload_n d_M_reply_173 rfl rfl ?_
    refine gf_M_fate wd_715 d_M_reply_174 ?_
    refine zo_iload_n d_M_reply_177 rfl rfl ?_
    refine zo_iload_n d_M_reply_178 rfl rfl ?_
    refine zo_sipush (v := 300) d_M_reply_179 (by decide) ?_
    refine zo_icmp_ge (tgt := 190) d_M_reply_182 (by decide) (fun c3 => ?_) (fun c3 => ?_)
    · replace hf := hf.1 c3
      refine zo_bipush (v := 20) d_M_reply_190 (by decide) ?_
      refine zo_drop 2 ?_
      exact hf
    · replace hf := hf.2 c3
      refine zo_bipush (v := 10) d_M_reply_185 (by decide) ?_
      refine zo_goto (tgt := 192) d_M_reply_187 (by decide) ?_
      refine zo_drop 2 ?_
      exact hf
  · replace hf := hf.2 c4
    refine zo_iconst (v := 0) d_M_reply_171 (by decide) ?_
    exact zo_iretI rfl d_M_reply_172 hf
set_option maxRecDepth 100000 in
set_option maxHeartbeats 4000000 in
theorem w_M_reply_192 {d : Nat} (x1 : Int32) (x3 : Int32) (xs1 : Int32) (xs2 : Int32)  {h : ZH} {Q : Int32 → ZH → Prop}
    (hf : (vp_in xs1 (zLen 13 7) ∧ EvV d m_M_tidy [vQ (some (12, 0)), vI x3] (zw h 13 7 xs1.toNatClampNeg xs2) (fun g1 => (((300 : Int32) ≤ x1 → Q (2 : Int32) g1) ∧ (¬ (300 : Int32) ≤ x1 → Q (1 : Int32) g1))))) :
    EvAt (d + 1) m_M_reply 192 [some (vQ (some (12, 0))), some (vI x1), none, some (vI x3)] [vI xs2, vI xs1, vQ (some (13, 7))] h (zQI Q) := by
  obtain ⟨hp, hf⟩ := hf
  refine zo_iast (zin (by decide) (by decide)) rfl rfl rfl hp d_M_reply_192 ?_
  refine zo_aload_n d_M_reply_193 rfl rfl ?_
  refine zo_iload_n d_M_reply_194 rfl rfl ?_
  refine zo_callVV (d := d) (N := m_M_tidy) (as := [vI x3]) (n := 1) (zin (by decide) (by decide)) rfl rfl cv_M_tidy wd_933 rfl rfl (Nat.le_of_ble_eq_true rfl) d_M_reply_195 hf (fun g1 hf => ?_)
  refine zo_iload_n d_M_reply_198 rfl rfl ?_
  refine zo_sipush (v := 300) d_M_reply_199 (by decide) ?_
  refine zo_icmp_ge (tgt := 209) d_M_reply_202 (by decide) (fun c2 => ?_) (fun c2 => ?_)
  · replace hf := hf.1 c2
    refine zo_iconst (v := 2) d_M_reply_209 (by decide) ?_
    exact zo_iretI rfl d_M_reply_210 hf
  · replace hf := hf.2 c2
    refine zo_iconst (v := 1) d_M_reply_205 (by decide) ?_
    refine zo_goto (tgt := 210) d_M_reply_206 (by decide) ?_
    exact zo_iretI rfl d_M_reply_210 hf
set_option maxRecDepth 100000 in
set_option maxHeartbeats 4000000 in
theorem w_M_tell_0 {d : Nat} (x1 : Int32) (x2 : Int32)  {h : ZH} {Q : Int32 → ZH → Prop}
    (hf : (vp_in (7 : Int32) (zLen 13 3) ∧ EvV d m_M_put [vQ (some (12, 0)), vI (7 : Int32), vI (10 : Int32)] (zw h 13 3 (7 : Int32).toNatClampNeg (0 : Int32)) (fun g1 => EvAt (d + 1) m_M_tell 18 [some (vQ (some (12, 0))), some (vI x1), some (vI x2), some (vI (0 : Int32))] [] g1 (zQI Q)))) :
    EvAt (d + 1) m_M_tell 0 [some (vQ (some (12, 0))), some (vI x1), some (vI x2), none] [] h (zQI Q) := by
  refine zo_aload_n d_M_tell_0 rfl rfl ?_
  refine gf_M_textSize wd_711 d_M_tell_1 ?_
  refine zo_bipush (v := 7) d_M_tell_4 (by decide) ?_
  refine zo_iconst (v := 0) d_M_tell_6 (by decide) ?_
  obtain ⟨hp, hf⟩ := hf
  refine zo_iast (zin (by decide) (by decide)) rfl rfl rfl hp d_M_tell_7 ?_
  refine zo_aload_n d_M_tell_8 rfl rfl ?_
  refine zo_bipush (v := 7) d_M_tell_9 (by decide) ?_
  refine zo_bipush (v := 10) d_M_tell_11 (by decide) ?_
  refine zo_callVV (d := d) (N := m_M_put) (as := [vI (7 : Int32), vI (10 : Int32)]) (n := 2) (zin (by decide) (by decide)) rfl rfl cv_M_put wd_807 rfl rfl (Nat.le_of_ble_eq_true rfl) d_M_tell_13 hf (fun g1 hf => ?_)
  refine zo_iconst (v := 0) d_M_tell_16 (by decide) ?_
  refine zo_istore_n d_M_tell_17 rfl (Nat.le_of_ble_eq_true rfl) rfl ?_
  exact hf
theorem e_M_tell {d : Nat} (x1 : Int32) (x2 : Int32)  {h : ZH} {Q : Int32 → ZH → Prop}
    (hf : (vp_in (7 : Int32) (zLen 13 3) ∧ EvV d m_M_put [vQ (some (12, 0)), vI (7 : Int32), vI (10 : Int32)] (zw h 13 3 (7 : Int32).toNatClampNeg (0 : Int32)) (fun g1 => EvAt (d + 1) m_M_tell 18 [some (vQ (some (12, 0))), some (vI x1), some (vI x2), some (vI (0 : Int32))] [] g1 (zQI Q)))) :
    EvI (d + 1) m_M_tell [vQ (some (12, 0)), vI x1, vI x2] h Q := zo_entry (by decide) (Nat.le_of_ble_eq_true rfl) (w_M_tell_0 x1 x2  hf)
set_option maxRecDepth 100000 in
set_option maxHeartbeats 4000000 in
theorem w_M_tell_18 {d : Nat} (x1 : Int32) (x2 : Int32) (x3 : Int32)  {h : ZH} {Q : Int32 → ZH → Prop}
    (hf : (((10 : Int32) ≤ x3 → EvAt (d + 1) m_M_tell 48 [some (vQ (some (12, 0))), some (vI x1), some (vI x2), some (vI (0 : Int32))] [] h (zQI Q)) ∧ (¬ (10 : Int32) ≤ x3 → EvI d m_M_at [vL (7234309814316459346 : Int64), vL (8250 : Int64), vI x3] h (fun y2 g1 => EvV d m_M_put [vQ (some (12, 0)), vI (7 : Int32), vI y2] g1 (fun g3 => EvAt (d + 1) m_M_tell 18 [some (vQ (some (12, 0))), some (vI x1), some (vI x2), some (vI (x3 + 1))] [] g3 (zQI Q)))))) :
    EvAt (d + 1) m_M_tell 18 [some (vQ (some (12, 0))), some (vI x1), some (vI x2), some (vI x3)] [] h (zQI Q) := by
  refine zo_iload_n d_M_tell_18 rfl rfl ?_
  refine zo_bipush (v := 10) d_M_tell_19 (by decide) ?_
  refine zo_icmp_ge (tgt := 46) d_M_tell_21 (by decide) (fun c4 => ?_) (fun c4 => ?_)
  · replace hf := hf.1 c4
    refine zo_iconst (v := 0) d_M_tell_46 (by decide) ?_
    refine zo_istore_n d_M_tell_47 rfl (Nat.le_of_ble_eq_true rfl) rfl ?_
    exact hf
  · replace hf := hf.2 c4
    refine zo_aload_n d_M_tell_24 rfl rfl ?_
    refine zo_bipush (v := 7) d_M_tell_25 (by decide) ?_
    refine zo_ldc2 wd_928 d_M_tell_27 ?_
    refine zo_ldc2 wd_929 d_M_tell_30 ?_
    refine zo_iload_n d_M_tell_33 rfl rfl ?_
    refine zo_callSI (d := d) (N := m_M_at) (as := [vL (7234309814316459346 : Int64), vL (8250 : Int64), vI x3]) (n := 3) cs_M_at wd_930 rfl rfl (Nat.le_of_ble_eq_true rfl) d_M_tell_34 hf (fun y2 g1 hf => ?_)
    refine zo_callVV (d := d) (N := m_M_put) (as := [vI (7 : Int32), vI y2]) (n := 2) (zin (by decide) (by decide)) rfl rfl cv_M_put wd_807 rfl rfl (Nat.le_of_ble_eq_true rfl) d_M_tell_37 hf (fun g3 hf => ?_)
    refine zo_iinc (v := x3 + 1) d_M_tell_40 rfl rfl (Nat.le_of_ble_eq_true rfl) rfl ?_
    refine zo_goto (tgt := 18) d_M_tell_43 (by decide) ?_
    exact hf
set_option maxRecDepth 100000 in
set_option maxHeartbeats 4000000 in
theorem w_M_tell_48 {d : Nat} (x1 : Int32) (x2 : Int32) (x3 : Int32)  {h : ZH} {Q : Int32 → ZH → Prop}
    (hf : (vp_in (((5 : Int32) * x1) + x2) (zLen 13 5) ∧ (((zi h 13 5 (((5 : Int32) * x1) + x2).toNatClampNeg) ≤ x3 → EvV d m_M_put [vQ (some (12, 0)), vI (7 : Int32), vI (10 : Int32)] h (fun g1 => (vp_in (7 : Int32) (zLen 13 6) ∧ (vp_in (39 : Int32) (zLen 13 5) ∧ EvV d m_M_copyPath [vQ (some (12, 0)), vI (((5 : Int32) * x1) + (4 : Int32)), vI (35 : Int32)] (zw (zw g1 13 6 (7 : Int32).toNatClampNeg (1 : Int32)) 13 5 (39 : Int32).toNatClampNeg (0 : Int32)) (fun g2 => EvI d m_M_spool [vQ (some (12, 0)), vI (7 : Int32)] g2 (fun y4 g3 => (narrow .boolean (.int y4) = .int y4 ∧ Q y4 g3))))))) ∧ (¬ (zi h 13 5 (((5 : Int32) * x1) + x2).toNatClampNeg) ≤ x3 → (vp_in (((40 : Int32) * (((5 : Int32) * x1) + x2)) + x3) (zLen 13 4) ∧ EvV d m_M_put [vQ (some (12, 0)), vI (7 : Int32), vI (zi h 13 4 (((40 : Int32) * (((5 : Int32) * x1) + x2)) + x3).toNatClampNeg)] h (fun g5 => EvAt (d + 1) m_M_tell 48 [some (vQ (some (12, 0))), some (vI x1), some (vI x2), some (vI (x3 + 1))] [] g5 (zQI Q))))))) :
    EvAt (d + 1) m_M_tell 48 [some (vQ (some (12, 0))), some (vI x1), some (vI x2), some (vI x3)] [] h (zQI Q) := by
  refine zo_iload_n d_M_tell_48 rfl rfl ?_
  refine zo_aload_n d_M_tell_49 rfl rfl ?_
  refine gf_M_pathSize wd_713 d_M_tell_50 ?_
  refine zo_iconst (v := 5) d_M_tell_53 (by decide) ?_
  refine zo_iload_n d_M_tell_54 rfl rfl ?_
  refine zo_imul d_M_tell_55 ?_
  refine zo_iload_n d_M_tell_56 rfl rfl ?_
  refine zo_iadd d_M_tell_57 ?_
  obtain ⟨hp, hf⟩ := hf
  refine zo_iald (zin (by decide) (by decide)) rfl rfl rfl hp d_M_tell_58 ?_
  refine zo_icmp_ge (tgt := 89) d_M_tell_59 (by decide) (fun c6 => ?_) (fun c6 => ?_)
  · replace hf := hf.1 c6
    refine zo_aload_n d_M_tell_89 rfl rfl ?_
    refine zo_bipush (v := 7) d_M_tell_90 (by decide) ?_
    refine zo_bipush (v := 10) d_M_tell_92 (by decide) ?_
    refine zo_callVV (d := d) (N := m_M_put) (as := [vI (7 : Int32), vI (10 : Int32)]) (n := 2) (zin (by decide) (by decide)) rfl rfl cv_M_put wd_807 rfl rfl (Nat.le_of_ble_eq_true rfl) d_M_tell_94 hf (fun g1 hf => ?_)
    refine zo_aload_n d_M_tell_97 rfl rfl ?_
    refine gf_M_many wd_714 d_M_tell_98 ?_
    refine zo_bipush (v := 7) d_M_tell_101 (by decide) ?_
    refine zo_iconst (v := 1) d_M_tell_103 (by decide) ?_
    obtain ⟨hp, hf⟩ := hf
    refine zo_iast (zin (by decide) (by decide)) rfl rfl rfl hp d_M_tell_104 ?_
    refine zo_aload_n d_M_tell_105 rfl rfl ?_
    refine gf_M_pathSize wd_713 d_M_tell_106 ?_
    refine zo_bipush (v := 39) d_M_tell_109 (by decide) ?_
    refine zo_iconst (v := 0) d_M_tell_111 (by decide) ?_
    obtain ⟨hp, hf⟩ := hf
    refine zo_iast (zin (by decide) (by decide)) rfl rfl rfl hp d_M_tell_112 ?_
    refine zo_aload_n d_M_tell_113 rfl rfl ?_
    refine zo_iconst (v := 5) d_M_tell_114 (by decide) ?_
    refine zo_iload_n d_M_tell_115 rfl rfl ?_
    refine zo_imul d_M_tell_116 ?_
    refine zo_iconst (v := 4) d_M_tell_117 (by decide) ?_
    refine zo_iadd d_M_tell_118 ?_
    refine zo_bipush (v := 35) d_M_tell_119 (by decide) ?_
    refine zo_callVV (d := d) (N := m_M_copyPath) (as := [vI (((5 : Int32) * x1) + (4 : Int32)), vI (35 : Int32)]) (n := 2) (zin (by decide) (by decide)) rfl rfl cv_M_copyPath wd_827 rfl rfl (Nat.le_of_ble_eq_true rfl) d_M_tell_121 hf (fun g2 hf => ?_)
    refine zo_aload_n d_M_tell_124 rfl rfl ?_
    refine zo_bipush (v := 7) d_M_tell_125 (by decide) ?_
    refine zo_callVI (d := d) (N := m_M_spool) (as := [vI (7 : Int32)]) (n := 1) (zin (by decide) (by decide)) rfl rfl cv_M_spool wd_815 rfl rfl (Nat.le_of_ble_eq_true rfl) d_M_tell_127 hf (fun y4 g3 hf => ?_)
    exact zo_zretI (ty := .boolean) rfl hf.1 d_M_tell_130 hf.2
  · replace hf := hf.2 c6
    refine zo_aload_n d_M_tell_62 rfl rfl ?_
    refine zo_bipush (v := 7) d_M_tell_63 (by decide) ?_
    refine zo_aload_n d_M_tell_65 rfl rfl ?_
    refine gf_M_paths wd_712 d_M_tell_66 ?_
    refine zo_bipush (v := 40) d_M_tell_69 (by decide) ?_
    refine zo_iconst (v := 5) d_M_tell_71 (by decide) ?_
    refine zo_iload_n d_M_tell_72 rfl rfl ?_
    refine zo_imul d_M_tell_73 ?_
    refine zo_iload_n d_M_tell_74 rfl rfl ?_
    refine zo_iadd d_M_tell_75 ?_
    refine zo_imul d_M_tell_76 ?_
    refine zo_iload_n d_M_tell_77 rfl rfl ?_
    refine zo_iadd d_M_tell_78 ?_
    obtain ⟨hp, hf⟩ := hf
    refine zo_iald (zin (by decide) (by decide)) rfl rfl rfl hp d_M_tell_79 ?_
    refine zo_callVV (d := d) (N := m_M_put) (as := [vI (7 : Int32), vI (zi h 13 4 (((40 : Int32) * (((5 : Int32) * x1) + x2)) + x3).toNatClampNeg)]) (n := 2) (zin (by decide) (by decide)) rfl rfl cv_M_put wd_807 rfl rfl (Nat.le_of_ble_eq_true rfl) d_M_tell_80 hf (fun g5 hf => ?_)
    refine zo_iinc (v := x3 + 1) d_M_tell_83 rfl rfl (Nat.le_of_ble_eq_true rfl) rfl ?_
    refine zo_goto (tgt := 48) d_M_tell_86 (by decide) ?_
    exact hf
set_option maxRecDepth 100000 in
set_option maxHeartbeats 4000000 in
theorem w_M_at_0 {d : Nat} (x0 : Int64) (x2 : Int64) (x4 : Int32)  {h : ZH} {Q : Int32 → ZH → Prop}
    (hf : (((8 : Int32) ≤ x4 → Q (((x2 >>> (((8 : Int32) * (x4 - (8 : Int32))).toInt64 &&& 63)) &&& (255 : Int64)).toInt32) h) ∧ (¬ (8 : Int32) ≤ x4 → Q (((x0 >>> (((8 : Int32) * x4).toInt64 &&& 63)) &&& (255 : Int64)).toInt32) h))) :
    EvAt d m_M_at 0 [some (vL x0), none, some (vL x2), none, some (vI x4)] [] h (zQI Q) := by
  refine zo_iload d_M_at_0 rfl ?_
  refine zo_bipush (v := 8) d_M_at_2 (by decide) ?_
  refine zo_icmp_ge (tgt := 17) d_M_at_4 (by decide) (fun c1 => ?_) (fun c1 => ?_)
  · replace hf := hf.1 c1
    refine zo_lload_n d_M_at_17 rfl rfl ?_
    refine zo_bipush (v := 8) d_M_at_18 (by decide) ?_
    refine zo_iload d_M_at_20 rfl ?_
    refine zo_bipush (v := 8) d_M_at_22 (by decide) ?_
    refine zo_isub d_M_at_24 ?_
    refine zo_imul d_M_at_25 ?_
    refine zo_lshr d_M_at_26 ?_
    refine zo_ldc2 wd_798 d_M_at_27 ?_
    refine zo_land d_M_at_30 ?_
    refine zo_l2i d_M_at_31 ?_
    exact zo_iretI rfl d_M_at_32 hf
  · replace hf := hf.2 c1
    refine zo_lload_n d_M_at_7 rfl rfl ?_
    refine zo_bipush (v := 8) d_M_at_8 (by decide) ?_
    refine zo_iload d_M_at_10 rfl ?_
    refine zo_imul d_M_at_12 ?_
    refine zo_lshr d_M_at_13 ?_
    refine zo_goto (tgt := 27) d_M_at_14 (by decide) ?_
    refine zo_ldc2 wd_798 d_M_at_27 ?_
    refine zo_land d_M_at_30 ?_
    refine zo_l2i d_M_at_31 ?_
    exact zo_iretI rfl d_M_at_32 hf
theorem e_M_at {d : Nat} (x0 : Int64) (x2 : Int64) (x4 : Int32)  {h : ZH} {Q : Int32 → ZH → Prop}
    (hf : (((8 : Int32) ≤ x4 → Q (((x2 >>> (((8 : Int32) * (x4 - (8 : Int32))).toInt64 &&& 63)) &&& (255 : Int64)).toInt32) h) ∧ (¬ (8 : Int32) ≤ x4 → Q (((x0 >>> (((8 : Int32) * x4).toInt64 &&& 63)) &&& (255 : Int64)).toInt32) h))) :
    EvI d m_M_at [vL x0, vL x2, vI x4] h Q := zo_entry (by decide) (Nat.le_of_ble_eq_true rfl) (w_M_at_0 x0 x2 x4  hf)
set_option maxRecDepth 100000 in
set_option maxHeartbeats 4000000 in
theorem w_M_tidy_0 {d : Nat} (x1 : Int32)  {h : ZH} {Q : ZH → Prop}
    (hf : EvAt d m_M_tidy 4 [some (vQ (some (12, 0))), some (vI x1), some (vI (0 : Int32)), some (vI (0 : Int32))] [] h (zQV Q)) :
    EvAt d m_M_tidy 0 [some (vQ (some (12, 0))), some (vI x1), none, none] [] h (zQV Q) := by
  refine zo_iconst (v := 0) d_M_tidy_0 (by decide) ?_
  refine zo_istore_n d_M_tidy_1 rfl (Nat.le_of_ble_eq_true rfl) rfl ?_
  refine zo_iconst (v := 0) d_M_tidy_2 (by decide) ?_
  refine zo_istore_n d_M_tidy_3 rfl (Nat.le_of_ble_eq_true rfl) rfl ?_
  exact hf
theorem e_M_tidy {d : Nat} (x1 : Int32)  {h : ZH} {Q : ZH → Prop}
    (hf : EvAt d m_M_tidy 4 [some (vQ (some (12, 0))), some (vI x1), some (vI (0 : Int32)), some (vI (0 : Int32))] [] h (zQV Q)) :
    EvV d m_M_tidy [vQ (some (12, 0)), vI x1] h Q := zo_entry (by decide) (Nat.le_of_ble_eq_true rfl) (w_M_tidy_0 x1  hf)
set_option maxRecDepth 100000 in
set_option maxHeartbeats 4000000 in
theorem w_M_tidy_4 {d : Nat} (x1 : Int32) (x2 : Int32) (x3 : Int32)  {h : ZH} {Q : ZH → Prop}
    (hf : (vp_in x1 (zLen 13 6) ∧ (((zi h 13 6 x1.toNatClampNeg) ≤ x3 → ((x2 = 0 → (vp_in x1 (zLen 13 1) ∧ Q (zw h 13 1 x1.toNatClampNeg (-1 : Int32)))) ∧ (¬ x2 = 0 → (vp_in x1 (zLen 13 1) ∧ (vp_in x1 (zLen 13 1) ∧ Q (zw h 13 1 x1.toNatClampNeg (zi h 13 1 x1.toNatClampNeg))))))) ∧ (¬ (zi h 13 6 x1.toNatClampNeg) ≤ x3 → ((¬ x2 = 0 → EvAt d m_M_tidy 32 [some (vQ (some (12, 0))), some (vI x1), none, some (vI x3)] [] h (zQV Q)) ∧ (x2 = 0 → (vp_in (((4 : Int32) * x1) + x3) (zLen 13 7) ∧ (((4 : Int32) ≤ (zi h 13 7 (((4 : Int32) * x1) + x3).toNatClampNeg) → EvAt d m_M_tidy 37 [some (vQ (some (12, 0))), some (vI x1), none, some (vI x3)] [vI (0 : Int32)] h (zQV Q)) ∧ (¬ (4 : Int32) ≤ (zi h 13 7 (((4 : Int32) * x1) + x3).toNatClampNeg) → EvAt d m_M_tidy 32 [some (vQ (some (12, 0))), some (vI x1), none, some (vI x3)] [] h (zQV Q)))))))))) :
    EvAt d m_M_tidy 4 [some (vQ (some (12, 0))), some (vI x1), some (vI x2), some (vI x3)] [] h (zQV Q) := by
  refine zo_iload_n d_M_tidy_4 rfl rfl ?_
  refine zo_aload_n d_M_tidy_5 rfl rfl ?_
  refine gf_M_many wd_714 d_M_tidy_6 ?_
  refine zo_iload_n d_M_tidy_9 rfl rfl ?_
  obtain ⟨hp, hf⟩ := hf
  refine zo_iald (zin (by decide) (by decide)) rfl rfl rfl hp d_M_tidy_10 ?_
  refine zo_icmp_ge (tgt := 44) d_M_tidy_11 (by decide) (fun c4 => ?_) (fun c4 => ?_)
  · replace hf := hf.1 c4
    refine zo_aload_n d_M_tidy_44 rfl rfl ?_
    refine gf_M_number wd_708 d_M_tidy_45 ?_
    refine zo_iload_n d_M_tidy_48 rfl rfl ?_
    refine zo_iload_n d_M_tidy_49 rfl rfl ?_
    refine zo_if_eq (tgt := 62) d_M_tidy_50 (by decide) (fun c1 => ?_) (fun c1 => ?_)
    · replace hf := hf.1 c1
      refine zo_iconst (v := (-1)) d_M_tidy_62 (by decide) ?_
      obtain ⟨hp, hf⟩ := hf
      refine zo_iast (zin (by decide) (by decide)) rfl rfl rfl hp d_M_tidy_63 ?_
      exact zo_vretV rfl d_M_tidy_64 hf
    · replace hf := hf.2 c1
      refine zo_aload_n d_M_tidy_53 rfl rfl ?_
      refine gf_M_number wd_708 d_M_tidy_54 ?_
      refine zo_iload_n d_M_tidy_57 rfl rfl ?_
      obtain ⟨hp, hf⟩ := hf
      refine zo_iald (zin (by decide) (by decide)) rfl rfl rfl hp d_M_tidy_58 ?_
      refine zo_goto (tgt := 63) d_M_tidy_59 (by decide) ?_
      obtain ⟨hp, hf⟩ := hf
      refine zo_iast (zin (by decide) (by decide)) rfl rfl rfl hp d_M_tidy_63 ?_
      exact zo_vretV rfl d_M_tidy_64 hf
  · replace hf := hf.2 c4
    refine zo_iload_n d_M_tidy_14 rfl rfl ?_
    refine zo_if_ne (tgt := 32) d_M_tidy_15 (by decide) (fun c3 => ?_) (fun c3 => ?_)
    · replace hf := hf.1 c3
      refine zo_drop 2 ?_
      exact hf
    · replace hf := hf.2 c3
      refine zo_aload_n d_M_tidy_18 rfl rfl ?_
      refine gf_M_fate wd_715 d_M_tidy_19 ?_
      refine zo_iconst (v := 4) d_M_tidy_22 (by decide) ?_
      refine zo_iload_n d_M_tidy_23 rfl rfl ?_
      refine zo_imul d_M_tidy_24 ?_
      refine zo_iload_n d_M_tidy_25 rfl rfl ?_
      refine zo_iadd d_M_tidy_26 ?_
      obtain ⟨hp, hf⟩ := hf
      refine zo_iald (zin (by decide) (by decide)) rfl rfl rfl hp d_M_tidy_27 ?_
      refine zo_iconst (v := 4) d_M_tidy_28 (by decide) ?_
      refine zo_icmp_ge (tgt := 36) d_M_tidy_29 (by decide) (fun c2 => ?_) (fun c2 => ?_)
      · replace hf := hf.1 c2
        refine zo_iconst (v := 0) d_M_tidy_36 (by decide) ?_
        refine zo_drop 2 ?_
        exact hf
      · replace hf := hf.2 c2
        refine zo_drop 2 ?_
        exact hf
set_option maxRecDepth 100000 in
set_option maxHeartbeats 4000000 in
theorem w_M_tidy_32 {d : Nat} (x1 : Int32) (x3 : Int32)  {h : ZH} {Q : ZH → Prop}
    (hf : EvAt d m_M_tidy 37 [some (vQ (some (12, 0))), some (vI x1), none, some (vI x3)] [vI (1 : Int32)] h (zQV Q)) :
    EvAt d m_M_tidy 32 [some (vQ (some (12, 0))), some (vI x1), none, some (vI x3)] [] h (zQV Q) := by
  refine zo_iconst (v := 1) d_M_tidy_32 (by decide) ?_
  refine zo_goto (tgt := 37) d_M_tidy_33 (by decide) ?_
  exact hf
set_option maxRecDepth 100000 in
set_option maxHeartbeats 4000000 in
theorem w_M_tidy_37 {d : Nat} (x1 : Int32) (x3 : Int32) (xs0 : Int32)  {h : ZH} {Q : ZH → Prop}
    (hf : EvAt d m_M_tidy 4 [some (vQ (some (12, 0))), some (vI x1), some (vI xs0), some (vI (x3 + 1))] [] h (zQV Q)) :
    EvAt d m_M_tidy 37 [some (vQ (some (12, 0))), some (vI x1), none, some (vI x3)] [vI xs0] h (zQV Q) := by
  refine zo_istore_n d_M_tidy_37 rfl (Nat.le_of_ble_eq_true rfl) rfl ?_
  refine zo_iinc (v := x3 + 1) d_M_tidy_38 rfl rfl (Nat.le_of_ble_eq_true rfl) rfl ?_
  refine zo_goto (tgt := 4) d_M_tidy_41 (by decide) ?_
  exact hf
set_option maxRecDepth 100000 in
set_option maxHeartbeats 4000000 in
theorem w_M_parts_0 {d : Nat} (x1 : Int32)  {h : ZH} {Q : Int32 → ZH → Prop}
    (hf : EvI d m_M_placeOf [vQ (some (12, 0)), vI x1] h (fun y2 g1 => ((0 ≤ y2 → EvI d m_M_divided [vQ (some (12, 0)), vI y2] g1 (fun y4 g3 => ((y4 = 0 → Q (0 : Int32) g3) ∧ (¬ y4 = 0 → Q (zi g3 12 0 20) g3)))) ∧ (¬ 0 ≤ y2 → Q (-1 : Int32) g1)))) :
    EvAt (d + 1) m_M_parts 0 [some (vQ (some (12, 0))), some (vI x1), none] [] h (zQI Q) := by
  refine zo_aload_n d_M_parts_0 rfl rfl ?_
  refine zo_iload_n d_M_parts_1 rfl rfl ?_
  refine zo_callVI (d := d) (N := m_M_placeOf) (as := [vI x1]) (n := 1) (zin (by decide) (by decide)) rfl rfl cv_M_placeOf wd_941 rfl rfl (Nat.le_of_ble_eq_true rfl) d_M_parts_2 hf (fun y2 g1 hf => ?_)
  refine zo_istore_n d_M_parts_5 rfl (Nat.le_of_ble_eq_true rfl) rfl ?_
  refine zo_iload_n d_M_parts_6 rfl rfl ?_
  refine zo_if_ge (tgt := 14) d_M_parts_7 (by decide) (fun c6 => ?_) (fun c6 => ?_)
  · replace hf := hf.1 c6
    refine zo_aload_n d_M_parts_14 rfl rfl ?_
    refine zo_iload_n d_M_parts_15 rfl rfl ?_
    refine zo_callVI (d := d) (N := m_M_divided) (as := [vI y2]) (n := 1) (zin (by decide) (by decide)) rfl rfl cv_M_divided wd_945 rfl rfl (Nat.le_of_ble_eq_true rfl) d_M_parts_16 hf (fun y4 g3 hf => ?_)
    refine zo_if_eq (tgt := 29) d_M_parts_19 (by decide) (fun c5 => ?_) (fun c5 => ?_)
    · replace hf := hf.1 c5
      refine zo_iconst (v := 0) d_M_parts_29 (by decide) ?_
      exact zo_iretI rfl d_M_parts_30 hf
    · replace hf := hf.2 c5
      refine zo_aload_n d_M_parts_22 rfl rfl ?_
      refine gf_M_found wd_719 d_M_parts_23 ?_
      refine zo_goto (tgt := 30) d_M_parts_26 (by decide) ?_
      exact zo_iretI rfl d_M_parts_30 hf
  · replace hf := hf.2 c6
    refine zo_iconst (v := (-1)) d_M_parts_10 (by decide) ?_
    refine zo_goto (tgt := 30) d_M_parts_11 (by decide) ?_
    exact zo_iretI rfl d_M_parts_30 hf
theorem e_M_parts {d : Nat} (x1 : Int32)  {h : ZH} {Q : Int32 → ZH → Prop}
    (hf : EvI d m_M_placeOf [vQ (some (12, 0)), vI x1] h (fun y2 g1 => ((0 ≤ y2 → EvI d m_M_divided [vQ (some (12, 0)), vI y2] g1 (fun y4 g3 => ((y4 = 0 → Q (0 : Int32) g3) ∧ (¬ y4 = 0 → Q (zi g3 12 0 20) g3)))) ∧ (¬ 0 ≤ y2 → Q (-1 : Int32) g1)))) :
    EvI (d + 1) m_M_parts [vQ (some (12, 0)), vI x1] h Q := zo_entry (by decide) (Nat.le_of_ble_eq_true rfl) (w_M_parts_0 x1  hf)
set_option maxRecDepth 100000 in
set_option maxHeartbeats 4000000 in
theorem w_M_placeOf_0 {d : Nat} (x1 : Int32)  {h : ZH} {Q : Int32 → ZH → Prop}
    (hf : EvAt d m_M_placeOf 4 [some (vQ (some (12, 0))), some (vI x1), some (vI (-1 : Int32)), some (vI (0 : Int32))] [] h (zQI Q)) :
    EvAt d m_M_placeOf 0 [some (vQ (some (12, 0))), some (vI x1), none, none] [] h (zQI Q) := by
  refine zo_iconst (v := (-1)) d_M_placeOf_0 (by decide) ?_
  refine zo_istore_n d_M_placeOf_1 rfl (Nat.le_of_ble_eq_true rfl) rfl ?_
  refine zo_iconst (v := 0) d_M_placeOf_2 (by decide) ?_
  refine zo_istore_n d_M_placeOf_3 rfl (Nat.le_of_ble_eq_true rfl) rfl ?_
  exact hf
theorem e_M_placeOf {d : Nat} (x1 : Int32)  {h : ZH} {Q : Int32 → ZH → Prop}
    (hf : EvAt d m_M_placeOf 4 [some (vQ (some (12, 0))), some (vI x1), some (vI (-1 : Int32)), some (vI (0 : Int32))] [] h (zQI Q)) :
    EvI d m_M_placeOf [vQ (some (12, 0)), vI x1] h Q := zo_entry (by decide) (Nat.le_of_ble_eq_true rfl) (w_M_placeOf_0 x1  hf)
set_option maxRecDepth 100000 in
set_option maxHeartbeats 4000000 in
theorem w_M_placeOf_4 {d : Nat} (x1 : Int32) (x2 : Int32) (x3 : Int32)  {h : ZH} {Q : Int32 → ZH → Prop}
    (hf : (((6 : Int32) ≤ x3 → Q x2 h) ∧ (¬ (6 : Int32) ≤ x3 → ((x1 < 0 → EvAt d m_M_placeOf 37 [some (vQ (some (12, 0))), some (vI x1), some (vI x2), some (vI x3)] [] h (zQI Q)) ∧ (¬ x1 < 0 → (vp_in x3 (zLen 13 1) ∧ ((¬ (zi h 13 1 x3.toNatClampNeg) = x1 → EvAt d m_M_placeOf 37 [some (vQ (some (12, 0))), some (vI x1), some (vI x2), some (vI x3)] [] h (zQI Q)) ∧ ((zi h 13 1 x3.toNatClampNeg) = x1 → (vp_in x3 (zLen 14 0) ∧ (((zi h 14 0 x3.toNatClampNeg) = 0 → EvAt d m_M_placeOf 37 [some (vQ (some (12, 0))), some (vI x1), some (vI x2), some (vI x3)] [] h (zQI Q)) ∧ (¬ (zi h 14 0 x3.toNatClampNeg) = 0 → EvAt d m_M_placeOf 38 [some (vQ (some (12, 0))), some (vI x1), none, some (vI x3)] [vI x3] h (zQI Q)))))))))))) :
    EvAt d m_M_placeOf 4 [some (vQ (some (12, 0))), some (vI x1), some (vI x2), some (vI x3)] [] h (zQI Q) := by
  refine zo_iload_n d_M_placeOf_4 rfl rfl ?_
  refine zo_bipush (v := 6) d_M_placeOf_5 (by decide) ?_
  refine zo_icmp_ge (tgt := 45) d_M_placeOf_7 (by decide) (fun c4 => ?_) (fun c4 => ?_)
  · replace hf := hf.1 c4
    refine zo_iload_n d_M_placeOf_45 rfl rfl ?_
    exact zo_iretI rfl d_M_placeOf_46 hf
  · replace hf := hf.2 c4
    refine zo_iload_n d_M_placeOf_10 rfl rfl ?_
    refine zo_if_lt (tgt := 37) d_M_placeOf_11 (by decide) (fun c3 => ?_) (fun c3 => ?_)
    · replace hf := hf.1 c3
      exact hf
    · replace hf := hf.2 c3
      refine zo_aload_n d_M_placeOf_14 rfl rfl ?_
      refine gf_M_number wd_708 d_M_placeOf_15 ?_
      refine zo_iload_n d_M_placeOf_18 rfl rfl ?_
      obtain ⟨hp, hf⟩ := hf
      refine zo_iald (zin (by decide) (by decide)) rfl rfl rfl hp d_M_placeOf_19 ?_
      refine zo_iload_n d_M_placeOf_20 rfl rfl ?_
      refine zo_icmp_ne (tgt := 37) d_M_placeOf_21 (by decide) (fun c2 => ?_) (fun c2 => ?_)
      · replace hf := hf.1 c2
        exact hf
      · replace hf := hf.2 c2
        refine zo_aload_n d_M_placeOf_24 rfl rfl ?_
        refine gf_M_sealed wd_709 d_M_placeOf_25 ?_
        refine zo_iload_n d_M_placeOf_28 rfl rfl ?_
        obtain ⟨hp, hf⟩ := hf
        refine zo_zald (zin (by decide) (by decide)) rfl rfl rfl hp d_M_placeOf_29 ?_
        refine zo_if_eq (tgt := 37) d_M_placeOf_30 (by decide) (fun c1 => ?_) (fun c1 => ?_)
        · replace hf := hf.1 c1
          exact hf
        · replace hf := hf.2 c1
          refine zo_iload_n d_M_placeOf_33 rfl rfl ?_
          refine zo_goto (tgt := 38) d_M_placeOf_34 (by decide) ?_
          refine zo_drop 2 ?_
          exact hf
set_option maxRecDepth 100000 in
set_option maxHeartbeats 4000000 in
theorem w_M_placeOf_37 {d : Nat} (x1 : Int32) (x2 : Int32) (x3 : Int32)  {h : ZH} {Q : Int32 → ZH → Prop}
    (hf : EvAt d m_M_placeOf 38 [some (vQ (some (12, 0))), some (vI x1), none, some (vI x3)] [vI x2] h (zQI Q)) :
    EvAt d m_M_placeOf 37 [some (vQ (some (12, 0))), some (vI x1), some (vI x2), some (vI x3)] [] h (zQI Q) := by
  refine zo_iload_n d_M_placeOf_37 rfl rfl ?_
  refine zo_drop 2 ?_
  exact hf
set_option maxRecDepth 100000 in
set_option maxHeartbeats 4000000 in
theorem w_M_placeOf_38 {d : Nat} (x1 : Int32) (x3 : Int32) (xs0 : Int32)  {h : ZH} {Q : Int32 → ZH → Prop}
    (hf : EvAt d m_M_placeOf 4 [some (vQ (some (12, 0))), some (vI x1), some (vI xs0), some (vI (x3 + 1))] [] h (zQI Q)) :
    EvAt d m_M_placeOf 38 [some (vQ (some (12, 0))), some (vI x1), none, some (vI x3)] [vI xs0] h (zQI Q) := by
  refine zo_istore_n d_M_placeOf_38 rfl (Nat.le_of_ble_eq_true rfl) rfl ?_
  refine zo_iinc (v := x3 + 1) d_M_placeOf_39 rfl rfl (Nat.le_of_ble_eq_true rfl) rfl ?_
  refine zo_goto (tgt := 4) d_M_placeOf_42 (by decide) ?_
  exact hf
