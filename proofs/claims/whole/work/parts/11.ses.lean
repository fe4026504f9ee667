set_option maxRecDepth 100000 in
set_option maxHeartbeats 4000000 in
theorem w_L_begin_0 {d : Nat} (i0 : Nat) (x1 : Int32) (hi0 : i0 < 6) {h : ZH} {Q : ZH → Prop}
    (hf : EvV d m_R_clear [vQ (some (1, 7 + i0))] (zw (zw (zw h 7 i0 4 x1) 7 i0 5 (0 : Int32)) 7 i0 3 (0 : Int32)) (fun g1 => EvV d m_R_clear [vQ (some (1, 13 + i0))] g1 (fun g2 => Q g2))) :
    EvAt (d + 1) m_L_begin 0 [some (vQ (some (7, i0))), some (vI x1)] [] h (zQV Q) := by
  refine zo_aload_n d_L_begin_0 rfl rfl ?_
  refine zo_iload_n d_L_begin_1 rfl rfl ?_
  refine pf_L_number wd_201 hi0 d_L_begin_2 ?_
  refine zo_aload_n d_L_begin_5 rfl rfl ?_
  refine zo_iconst (v := 0) d_L_begin_6 (by decide) ?_
  refine pf_L_sealed wd_204 hi0 (by decide) d_L_begin_7 ?_
  refine zo_aload_n d_L_begin_10 rfl rfl ?_
  refine zo_iconst (v := 0) d_L_begin_11 (by decide) ?_
  refine pf_L_recipientCount wd_199 hi0 d_L_begin_12 ?_
  refine zo_aload_n d_L_begin_15 rfl rfl ?_
  refine gf_L_sender wd_193 hi0 d_L_begin_16 ?_
  refine zo_callVV (d := d) (N := m_R_clear) (as := []) (n := 0) (zin (by decide) (show 7 + i0 < 43 by omega)) rfl rfl cv_R_clear wd_332 rfl rfl (Nat.le_of_ble_eq_true rfl) d_L_begin_19 hf (fun g1 hf => ?_)
  refine zo_aload_n d_L_begin_22 rfl rfl ?_
  refine gf_L_text wd_196 hi0 d_L_begin_23 ?_
  refine zo_callVV (d := d) (N := m_R_clear) (as := []) (n := 0) (zin (by decide) (show 13 + i0 < 43 by omega)) rfl rfl cv_R_clear wd_332 rfl rfl (Nat.le_of_ble_eq_true rfl) d_L_begin_26 hf (fun g2 hf => ?_)
  exact zo_vretV rfl d_L_begin_29 hf
theorem e_L_begin {d : Nat} (i0 : Nat) (x1 : Int32) (hi0 : i0 < 6) {h : ZH} {Q : ZH → Prop}
    (hf : EvV d m_R_clear [vQ (some (1, 7 + i0))] (zw (zw (zw h 7 i0 4 x1) 7 i0 5 (0 : Int32)) 7 i0 3 (0 : Int32)) (fun g1 => EvV d m_R_clear [vQ (some (1, 13 + i0))] g1 (fun g2 => Q g2))) :
    EvV (d + 1) m_L_begin [vQ (some (7, i0)), vI x1] h Q := zo_entry (by decide) (Nat.le_of_ble_eq_true rfl) (w_L_begin_0 i0 x1 hi0 hf)
set_option maxRecDepth 100000 in
set_option maxHeartbeats 4000000 in
theorem w_L_address_0 {d : Nat} (i0 : Nat) (i1 : Nat) (x2 : Int32) (hi0 : i0 < 6) (hi1 : i1 < 43) {h : ZH} {Q : ZH → Prop}
    (hf : (((4 : Int32) ≤ (zi h 7 i0 3) → Q h) ∧ (¬ (4 : Int32) ≤ (zi h 7 i0 3) → (vp_in (zi h 7 i0 3) 4 ∧ EvV d m_R_clear [vQ (some (1, 19 + (4 * i0 + (zi h 7 i0 3).toNatClampNeg)))] h (fun g2 => EvV d m_R_addRow [vQ (some (1, 19 + (4 * i0 + (zi h 7 i0 3).toNatClampNeg))), vQ (some (1, i1))] g2 (fun g3 => Q (zw (zw (zw (zw g3 9 (4 * i0 + (zi h 7 i0 3).toNatClampNeg) 1 (0 : Int32)) 9 (4 * i0 + (zi h 7 i0 3).toNatClampNeg) 2 (0 : Int32)) 9 (4 * i0 + (zi h 7 i0 3).toNatClampNeg) 3 x2) 7 i0 3 ((zi (zw (zw (zw g3 9 (4 * i0 + (zi h 7 i0 3).toNatClampNeg) 1 (0 : Int32)) 9 (4 * i0 + (zi h 7 i0 3).toNatClampNeg) 2 (0 : Int32)) 9 (4 * i0 + (zi h 7 i0 3).toNatClampNeg) 3 x2) 7 i0 3) + (1 : Int32))))))))) :
    EvAt (d + 1) m_L_address 0 [some (vQ (some (7, i0))), some (vQ (some (1, i1))), some (vI x2), none] [] h (zQV Q) := by
  refine zo_aload_n d_L_address_0 rfl rfl ?_
  refine gf_L_recipientCount wd_199 hi0 d_L_address_1 ?_
  refine zo_iconst (v := 4) d_L_address_4 (by decide) ?_
  refine zo_icmp_ge (tgt := 58) d_L_address_5 (by decide) (fun c4 => ?_) (fun c4 => ?_)
  · replace hf := hf.1 c4
    exact zo_vretV rfl d_L_address_58 hf
  · replace hf := hf.2 c4
    refine zo_aload_n d_L_address_8 rfl rfl ?_
    refine gf_L_recipients wd_195 hi0 d_L_address_9 ?_
    refine zo_aload_n d_L_address_12 rfl rfl ?_
    refine gf_L_recipientCount wd_199 hi0 d_L_address_13 ?_
    obtain ⟨hp1, hf⟩ := hf
    refine zo_aald1 (C := "SpooledPost$Recipient") (zin (by decide) hi0) rfl rfl rfl hp1 d_L_address_16 ?_
    refine zo_astore_n d_L_address_17 rfl (Nat.le_of_ble_eq_true rfl) rfl ?_
    refine zo_aload_n d_L_address_18 rfl rfl ?_
    refine gf_C_path wd_175 (zin4c hi0 hp1) d_L_address_19 ?_
    refine zo_callVV (d := d) (N := m_R_clear) (as := []) (n := 0) (zin (by decide) (show 19 + (4 * i0 + (zi h 7 i0 3).toNatClampNeg) < 43 by have := zin4c hi0 hp1; omega)) rfl rfl cv_R_clear wd_332 rfl rfl (Nat.le_of_ble_eq_true rfl) d_L_address_22 hf (fun g2 hf => ?_)
    refine zo_aload_n d_L_address_25 rfl rfl ?_
    refine gf_C_path wd_175 (zin4c hi0 hp1) d_L_address_26 ?_
    refine zo_aload_n d_L_address_29 rfl rfl ?_
    refine zo_callVV (d := d) (N := m_R_addRow) (as := [vQ (some (1, i1))]) (n := 1) (zin (by decide) (show 19 + (4 * i0 + (zi h 7 i0 3).toNatClampNeg) < 43 by have := zin4c hi0 hp1; omega)) rfl rfl cv_R_addRow wd_350 rfl rfl (Nat.le_of_ble_eq_true rfl) d_L_address_30 hf (fun g3 hf => ?_)
    refine zo_aload_n d_L_address_33 rfl rfl ?_
    refine zo_iconst (v := 0) d_L_address_34 (by decide) ?_
    refine pf_C_fate wd_177 (zin4c hi0 hp1) d_L_address_35 ?_
    refine zo_aload_n d_L_address_38 rfl rfl ?_
    refine zo_iconst (v := 0) d_L_address_39 (by decide) ?_
    refine pf_C_tries wd_179 (zin4c hi0 hp1) d_L_address_40 ?_
    refine zo_aload_n d_L_address_43 rfl rfl ?_
    refine zo_iload_n d_L_address_44 rfl rfl ?_
    refine pf_C_due wd_181 (zin4c hi0 hp1) d_L_address_45 ?_
    refine zo_aload_n d_L_address_48 rfl rfl ?_
    refine zo_dup rfl d_L_address_49 ?_
    refine gf_L_recipientCount wd_199 hi0 d_L_address_50 ?_
    refine zo_iconst (v := 1) d_L_address_53 (by decide) ?_
    refine zo_iadd d_L_address_54 ?_
    refine pf_L_recipientCount wd_199 hi0 d_L_address_55 ?_
    exact zo_vretV rfl d_L_address_58 hf
theorem e_L_address {d : Nat} (i0 : Nat) (i1 : Nat) (x2 : Int32) (hi0 : i0 < 6) (hi1 : i1 < 43) {h : ZH} {Q : ZH → Prop}
    (hf : (((4 : Int32) ≤ (zi h 7 i0 3) → Q h) ∧ (¬ (4 : Int32) ≤ (zi h 7 i0 3) → (vp_in (zi h 7 i0 3) 4 ∧ EvV d m_R_clear [vQ (some (1, 19 + (4 * i0 + (zi h 7 i0 3).toNatClampNeg)))] h (fun g2 => EvV d m_R_addRow [vQ (some (1, 19 + (4 * i0 + (zi h 7 i0 3).toNatClampNeg))), vQ (some (1, i1))] g2 (fun g3 => Q (zw (zw (zw (zw g3 9 (4 * i0 + (zi h 7 i0 3).toNatClampNeg) 1 (0 : Int32)) 9 (4 * i0 + (zi h 7 i0 3).toNatClampNeg) 2 (0 : Int32)) 9 (4 * i0 + (zi h 7 i0 3).toNatClampNeg) 3 x2) 7 i0 3 ((zi (zw (zw (zw g3 9 (4 * i0 + (zi h 7 i0 3).toNatClampNeg) 1 (0 : Int32)) 9 (4 * i0 + (zi h 7 i0 3).toNatClampNeg) 2 (0 : Int32)) 9 (4 * i0 + (zi h 7 i0 3).toNatClampNeg) 3 x2) 7 i0 3) + (1 : Int32))))))))) :
    EvV (d + 1) m_L_address [vQ (some (7, i0)), vQ (some (1, i1)), vI x2] h Q := zo_entry (by decide) (Nat.le_of_ble_eq_true rfl) (w_L_address_0 i0 i1 x2 hi0 hi1 hf)
set_option maxRecDepth 100000 in
set_option maxHeartbeats 4000000 in
theorem w_S_endTransaction_0 {d : Nat}   {h : ZH} {Q : ZH → Prop}
    (hf : Q (zw (zw (zw h 3 0 5 (0 : Int32)) 3 0 6 (0 : Int32)) 3 0 3 (0 : Int32))) :
    EvAt d m_S_endTransaction 0 [some (vQ (some (3, 0)))] [] h (zQV Q) := by
  refine zo_aload_n d_S_endTransaction_0 rfl rfl ?_
  refine zo_iconst (v := 0) d_S_endTransaction_1 (by decide) ?_
  refine pf_S_inTransaction wd_127 (by decide) d_S_endTransaction_2 ?_
  refine zo_aload_n d_S_endTransaction_5 rfl rfl ?_
  refine zo_iconst (v := 0) d_S_endTransaction_6 (by decide) ?_
  refine pf_S_taking wd_129 (by decide) d_S_endTransaction_7 ?_
  refine zo_aload_n d_S_endTransaction_10 rfl rfl ?_
  refine zo_iconst (v := 0) d_S_endTransaction_11 (by decide) ?_
  refine pf_S_recipientCount wd_123 d_S_endTransaction_12 ?_
  exact zo_vretV rfl d_S_endTransaction_15 hf
theorem e_S_endTransaction {d : Nat}   {h : ZH} {Q : ZH → Prop}
    (hf : Q (zw (zw (zw h 3 0 5 (0 : Int32)) 3 0 6 (0 : Int32)) 3 0 3 (0 : Int32))) :
    EvV d m_S_endTransaction [vQ (some (3, 0))] h Q := zo_entry (by decide) (Nat.le_of_ble_eq_true rfl) (w_S_endTransaction_0   hf)
set_option maxRecDepth 100000 in
set_option maxHeartbeats 4000000 in
theorem w_S_addTextLine_0 {d : Nat} (i1 : Nat) (x2 : Int32) (hi1 : i1 < 43) {h : ZH} {Q : ZH → Prop}
    (hf : ((((((zi h 1 6 1) + (zi h 1 i1 1)) - x2) + (1 : Int32)) ≤ (600 : Int32) → EvAt (d + 1) m_S_addTextLine 27 [some (vQ (some (3, 0))), some (vQ (some (1, i1))), some (vI x2)] [] h (zQV Q)) ∧ (¬ ((((zi h 1 6 1) + (zi h 1 i1 1)) - x2) + (1 : Int32)) ≤ (600 : Int32) → EvAt (d + 1) m_S_addTextLine 27 [some (vQ (some (3, 0))), some (vQ (some (1, i1))), some (vI x2)] [] (zw h 3 0 7 (1 : Int32)) (zQV Q)))) :
    EvAt (d + 1) m_S_addTextLine 0 [some (vQ (some (3, 0))), some (vQ (some (1, i1))), some (vI x2)] [] h (zQV Q) := by
  refine zo_aload_n d_S_addTextLine_0 rfl rfl ?_
  refine gf_S_text wd_121 d_S_addTextLine_1 ?_
  refine gf_R_length wd_100 (by decide) d_S_addTextLine_4 ?_
  refine zo_aload_n d_S_addTextLine_7 rfl rfl ?_
  refine gf_R_length wd_100 hi1 d_S_addTextLine_8 ?_
  refine zo_iadd d_S_addTextLine_11 ?_
  refine zo_iload_n d_S_addTextLine_12 rfl rfl ?_
  refine zo_isub d_S_addTextLine_13 ?_
  refine zo_iconst (v := 1) d_S_addTextLine_14 (by decide) ?_
  refine zo_iadd d_S_addTextLine_15 ?_
  refine zo_sipush (v := 600) d_S_addTextLine_16 (by decide) ?_
  refine zo_icmp_le (tgt := 27) d_S_addTextLine_19 (by decide) (fun c1 => ?_) (fun c1 => ?_)
  · replace hf := hf.1 c1
    exact hf
  · replace hf := hf.2 c1
    refine zo_aload_n d_S_addTextLine_22 rfl rfl ?_
    refine zo_iconst (v := 1) d_S_addTextLine_23 (by decide) ?_
    refine pf_S_tooLong wd_131 (by decide) d_S_addTextLine_24 ?_
    exact hf
theorem e_S_addTextLine {d : Nat} (i1 : Nat) (x2 : Int32) (hi1 : i1 < 43) {h : ZH} {Q : ZH → Prop}
    (hf : ((((((zi h 1 6 1) + (zi h 1 i1 1)) - x2) + (1 : Int32)) ≤ (600 : Int32) → EvAt (d + 1) m_S_addTextLine 27 [some (vQ (some (3, 0))), some (vQ (some (1, i1))), some (vI x2)] [] h (zQV Q)) ∧ (¬ ((((zi h 1 6 1) + (zi h 1 i1 1)) - x2) + (1 : Int32)) ≤ (600 : Int32) → EvAt (d + 1) m_S_addTextLine 27 [some (vQ (some (3, 0))), some (vQ (some (1, i1))), some (vI x2)] [] (zw h 3 0 7 (1 : Int32)) (zQV Q)))) :
    EvV (d + 1) m_S_addTextLine [vQ (some (3, 0)), vQ (some (1, i1)), vI x2] h Q := zo_entry (by decide) (Nat.le_of_ble_eq_true rfl) (w_S_addTextLine_0 i1 x2 hi1 hf)
set_option maxRecDepth 100000 in
set_option maxHeartbeats 4000000 in
theorem w_S_addTextLine_27 {d : Nat} (i1 : Nat) (x2 : Int32) (hi1 : i1 < 43) {h : ZH} {Q : ZH → Prop}
    (hf : ((¬ (zi h 3 0 7) = 0 → Q h) ∧ ((zi h 3 0 7) = 0 → EvV d m_R_addPiece [vQ (some (1, 6)), vQ (some (1, i1)), vI x2, vI (zi h 1 i1 1)] h (fun g1 => EvV d m_R_add [vQ (some (1, 6)), vI (10 : Int32)] g1 (fun g2 => Q g2))))) :
    EvAt (d + 1) m_S_addTextLine 27 [some (vQ (some (3, 0))), some (vQ (some (1, i1))), some (vI x2)] [] h (zQV Q) := by
  refine zo_aload_n d_S_addTextLine_27 rfl rfl ?_
  refine gf_S_tooLong wd_131 d_S_addTextLine_28 ?_
  refine zo_if_ne (tgt := 56) d_S_addTextLine_31 (by decide) (fun c3 => ?_) (fun c3 => ?_)
  · replace hf := hf.1 c3
    exact zo_vretV rfl d_S_addTextLine_56 hf
  · replace hf := hf.2 c3
    refine zo_aload_n d_S_addTextLine_34 rfl rfl ?_
    refine gf_S_text wd_121 d_S_addTextLine_35 ?_
    refine zo_aload_n d_S_addTextLine_38 rfl rfl ?_
    refine zo_iload_n d_S_addTextLine_39 rfl rfl ?_
    refine zo_aload_n d_S_addTextLine_40 rfl rfl ?_
    refine gf_R_length wd_100 hi1 d_S_addTextLine_41 ?_
    refine zo_callVV (d := d) (N := m_R_addPiece) (as := [vQ (some (1, i1)), vI x2, vI (zi h 1 i1 1)]) (n := 3) (zin (by decide) (by decide)) rfl rfl cv_R_addPiece wd_363 rfl rfl (Nat.le_of_ble_eq_true rfl) d_S_addTextLine_44 hf (fun g1 hf => ?_)
    refine zo_aload_n d_S_addTextLine_47 rfl rfl ?_
    refine gf_S_text wd_121 d_S_addTextLine_48 ?_
    refine zo_bipush (v := 10) d_S_addTextLine_51 (by decide) ?_
    refine zo_callVV (d := d) (N := m_R_add) (as := [vI (10 : Int32)]) (n := 1) (zin (by decide) (by decide)) rfl rfl cv_R_add wd_369 rfl rfl (Nat.le_of_ble_eq_true rfl) d_S_addTextLine_53 hf (fun g2 hf => ?_)
    exact zo_vretV rfl d_S_addTextLine_56 hf
set_option maxRecDepth 100000 in
set_option maxHeartbeats 4000000 in
theorem w_S_forget_0 {d : Nat}   {h : ZH} {Q : ZH → Prop}
    (hf : EvV d m_S_endTransaction [vQ (some (3, 0))] (zw h 3 0 4 (0 : Int32)) (fun g1 => Q g1)) :
    EvAt (d + 1) m_S_forget 0 [some (vQ (some (3, 0)))] [] h (zQV Q) := by
  refine zo_aload_n d_S_forget_0 rfl rfl ?_
  refine zo_iconst (v := 0) d_S_forget_1 (by decide) ?_
  refine pf_S_greeted wd_125 (by decide) d_S_forget_2 ?_
  refine zo_aload_n d_S_forget_5 rfl rfl ?_
  refine zo_callVV (d := d) (N := m_S_endTransaction) (as := []) (n := 0) (zin (by decide) (by decide)) rfl rfl cv_S_endTransaction wd_501 rfl rfl (Nat.le_of_ble_eq_true rfl) d_S_forget_6 hf (fun g1 hf => ?_)
  exact zo_vretV rfl d_S_forget_9 hf
theorem e_S_forget {d : Nat}   {h : ZH} {Q : ZH → Prop}
    (hf : EvV d m_S_endTransaction [vQ (some (3, 0))] (zw h 3 0 4 (0 : Int32)) (fun g1 => Q g1)) :
    EvV (d + 1) m_S_forget [vQ (some (3, 0))] h Q := zo_entry (by decide) (Nat.le_of_ble_eq_true rfl) (w_S_forget_0   hf)
set_option maxRecDepth 100000 in
set_option maxHeartbeats 4000000 in
theorem w_L_firstDue_0 {d : Nat} (i0 : Nat) (x1 : Int32) (hi0 : i0 < 6) {h : ZH} {Q : Option Nat → ZH → Prop}
    (hf : EvAt d m_L_firstDue 4 [some (vQ (some (7, i0))), some (vI x1), some (vQ none), some (vI (0 : Int32)), none, none] [] h (zQR 9 Q)) :
    EvAt d m_L_firstDue 0 [some (vQ (some (7, i0))), some (vI x1), none, none, none, none] [] h (zQR 9 Q) := by
  refine zo_null d_L_firstDue_0 ?_
  refine zo_astore_n d_L_firstDue_1 rfl (Nat.le_of_ble_eq_true rfl) rfl ?_
  refine zo_iconst (v := 0) d_L_firstDue_2 (by decide) ?_
  refine zo_istore_n d_L_firstDue_3 rfl (Nat.le_of_ble_eq_true rfl) rfl ?_
  exact hf
theorem e_L_firstDue {d : Nat} (i0 : Nat) (x1 : Int32) (hi0 : i0 < 6) {h : ZH} {Q : Option Nat → ZH → Prop}
    (hf : EvAt d m_L_firstDue 4 [some (vQ (some (7, i0))), some (vI x1), some (vQ none), some (vI (0 : Int32)), none, none] [] h (zQR 9 Q)) :
    EvR 9 d m_L_firstDue [vQ (some (7, i0)), vI x1] h Q := zo_entry (by decide) (Nat.le_of_ble_eq_true rfl) (w_L_firstDue_0 i0 x1 hi0 hf)
set_option maxRecDepth 100000 in
set_option maxHeartbeats 4000000 in
theorem w_L_firstDue_4 {d : Nat} (i0 : Nat) (x1 : Int32) (o2 : Option Nat) (x3 : Int32) (hi0 : i0 < 6) (ho2 : ∀ i, o2 = some i → i < 24) {h : ZH} {Q : Option Nat → ZH → Prop}
    (hf : (((zi h 7 i0 3) ≤ x3 → Q o2 h) ∧ (¬ (zi h 7 i0 3) ≤ x3 → (vp_in x3 4 ∧ ((¬ (zi h 9 (4 * i0 + x3.toNatClampNeg) 1) = 0 → EvAt d m_L_firstDue 41 [some (vQ (some (7, i0))), some (vI x1), some (vQ (o2.map (Prod.mk 9))), some (vI x3), some (vQ (some (9, 4 * i0 + x3.toNatClampNeg))), none] [] h (zQR 9 Q)) ∧ ((zi h 9 (4 * i0 + x3.toNatClampNeg) 1) = 0 → ((x1 < (zi h 9 (4 * i0 + x3.toNatClampNeg) 3) → EvAt d m_L_firstDue 41 [some (vQ (some (7, i0))), some (vI x1), some (vQ (o2.map (Prod.mk 9))), some (vI x3), some (vQ (some (9, 4 * i0 + x3.toNatClampNeg))), none] [] h (zQR 9 Q)) ∧ (¬ x1 < (zi h 9 (4 * i0 + x3.toNatClampNeg) 3) → EvAt d m_L_firstDue 42 [some (vQ (some (7, i0))), some (vI x1), some (vQ (o2.map (Prod.mk 9))), some (vI x3), some (vQ (some (9, 4 * i0 + x3.toNatClampNeg))), none] [vI (1 : Int32)] h (zQR 9 Q))))))))) :
    EvAt d m_L_firstDue 4 [some (vQ (some (7, i0))), some (vI x1), some (vQ (o2.map (Prod.mk 9))), some (vI x3), none, none] [] h (zQR 9 Q) := by
  refine zo_iload_n d_L_firstDue_4 rfl rfl ?_
  refine zo_aload_n d_L_firstDue_5 rfl rfl ?_
  refine gf_L_recipientCount wd_199 hi0 d_L_firstDue_6 ?_
  refine zo_icmp_ge (tgt := 74) d_L_firstDue_9 (by decide) (fun c4 => ?_) (fun c4 => ?_)
  · replace hf := hf.1 c4
    refine zo_aload_n d_L_firstDue_74 rfl rfl ?_
    exact zo_aretO (k := 9) (o := o2) (C := "SpooledPost$Recipient") rfl ho2 d_L_firstDue_75 hf
  · replace hf := hf.2 c4
    refine zo_aload_n d_L_firstDue_12 rfl rfl ?_
    refine gf_L_recipients wd_195 hi0 d_L_firstDue_13 ?_
    refine zo_iload_n d_L_firstDue_16 rfl rfl ?_
    obtain ⟨hp1, hf⟩ := hf
    refine zo_aald1 (C := "SpooledPost$Recipient") (zin (by decide) hi0) rfl rfl rfl hp1 d_L_firstDue_17 ?_
    refine zo_astore d_L_firstDue_18 (Nat.le_of_ble_eq_true rfl) rfl ?_
    refine zo_aload d_L_firstDue_20 rfl ?_
    refine gf_C_fate wd_177 (zin4c hi0 hp1) d_L_firstDue_22 ?_
    refine zo_if_ne (tgt := 41) d_L_firstDue_25 (by decide) (fun c3 => ?_) (fun c3 => ?_)
    · replace hf := hf.1 c3
      exact hf
    · replace hf := hf.2 c3
      refine zo_aload d_L_firstDue_28 rfl ?_
      refine gf_C_due wd_181 (zin4c hi0 hp1) d_L_firstDue_30 ?_
      refine zo_iload_n d_L_firstDue_33 rfl rfl ?_
      refine zo_icmp_gt (tgt := 41) d_L_firstDue_34 (by decide) (fun c2 => ?_) (fun c2 => ?_)
      · replace hf := hf.1 c2
        exact hf
      · replace hf := hf.2 c2
        refine zo_iconst (v := 1) d_L_firstDue_37 (by decide) ?_
        refine zo_goto (tgt := 42) d_L_firstDue_38 (by decide) ?_
        exact hf
set_option maxRecDepth 100000 in
set_option maxHeartbeats 4000000 in
theorem w_L_firstDue_41 {d : Nat} (i0 : Nat) (x1 : Int32) (o2 : Option Nat) (x3 : Int32) (i4 : Nat) (hi0 : i0 < 6) (ho2 : ∀ i, o2 = some i → i < 24) (hi4 : i4 < 24) {h : ZH} {Q : Option Nat → ZH → Prop}
    (hf : EvAt d m_L_firstDue 42 [some (vQ (some (7, i0))), some (vI x1), some (vQ (o2.map (Prod.mk 9))), some (vI x3), some (vQ (some (9, i4))), none] [vI (0 : Int32)] h (zQR 9 Q)) :
    EvAt d m_L_firstDue 41 [some (vQ (some (7, i0))), some (vI x1), some (vQ (o2.map (Prod.mk 9))), some (vI x3), some (vQ (some (9, i4))), none] [] h (zQR 9 Q) := by
  refine zo_iconst (v := 0) d_L_firstDue_41 (by decide) ?_
  exact hf
set_option maxRecDepth 100000 in
set_option maxHeartbeats 4000000 in
theorem w_L_firstDue_42 {d : Nat} (i0 : Nat) (x1 : Int32) (o2 : Option Nat) (x3 : Int32) (i4 : Nat) (xs0 : Int32) (hi0 : i0 < 6) (ho2 : ∀ i, o2 = some i → i < 24) (hi4 : i4 < 24) {h : ZH} {Q : Option Nat → ZH → Prop}
    (hf : ((xs0 = 0 → EvAt d m_L_firstDue 68 [some (vQ (some (7, i0))), some (vI x1), some (vQ (o2.map (Prod.mk 9))), some (vI x3), none, none] [] h (zQR 9 Q)) ∧ (¬ xs0 = 0 → ((o2 = none → EvAt d m_L_firstDue 65 [some (vQ (some (7, i0))), some (vI x1), none, some (vI x3), some (vQ (some (9, i4))), none] [] h (zQR 9 Q)) ∧ (∀ n1, o2 = some n1 → n1 < 24 → (((zi h 9 n1 3) ≤ (zi h 9 i4 3) → EvAt d m_L_firstDue 68 [some (vQ (some (7, i0))), some (vI x1), some (vQ (some (9, n1))), some (vI x3), none, none] [] h (zQR 9 Q)) ∧ (¬ (zi h 9 n1 3) ≤ (zi h 9 i4 3) → EvAt d m_L_firstDue 65 [some (vQ (some (7, i0))), some (vI x1), none, some (vI x3), some (vQ (some (9, i4))), none] [] h (zQR 9 Q)))))))) :
    EvAt d m_L_firstDue 42 [some (vQ (some (7, i0))), some (vI x1), some (vQ (o2.map (Prod.mk 9))), some (vI x3), some (vQ (some (9, i4))), none] [vI xs0] h (zQR 9 Q) := by
  refine zo_istore d_L_firstDue_42 (Nat.le_of_ble_eq_true rfl) rfl ?_
  refine zo_iload d_L_firstDue_44 rfl ?_
  refine zo_if_eq (tgt := 68) d_L_firstDue_46 (by decide) (fun c3 => ?_) (fun c3 => ?_)
  · replace hf := hf.1 c3
    refine zo_drop 4 ?_
    refine zo_drop 5 ?_
    exact hf
  · replace hf := hf.2 c3
    refine zo_aload_n d_L_firstDue_49 rfl rfl ?_
    refine zo_ifnullK (tgt := 65) d_L_firstDue_50 (by decide) (fun z => ?_) (fun n1 z => ?_)
    · subst z
      replace hf := hf.1 rfl
      refine zo_drop 2 ?_
      refine zo_drop 5 ?_
      exact hf
    · subst z
      have hv_n1 : n1 < 24 := ho2 n1 rfl
      replace hf := hf.2 n1 rfl hv_n1
      refine zo_aload d_L_firstDue_53 rfl ?_
      refine gf_C_due wd_181 hi4 d_L_firstDue_55 ?_
      refine zo_aload_n d_L_firstDue_58 rfl rfl ?_
      refine gf_C_due wd_181 hv_n1 d_L_firstDue_59 ?_
      refine zo_icmp_ge (tgt := 68) d_L_firstDue_62 (by decide) (fun c2 => ?_) (fun c2 => ?_)
      · replace hf := hf.1 c2
        refine zo_drop 4 ?_
        refine zo_drop 5 ?_
        exact hf
      · replace hf := hf.2 c2
        refine zo_drop 2 ?_
        refine zo_drop 5 ?_
        exact hf
set_option maxRecDepth 100000 in
set_option maxHeartbeats 4000000 in
theorem w_L_firstDue_65 {d : Nat} (i0 : Nat) (x1 : Int32) (x3 : Int32) (i4 : Nat) (hi0 : i0 < 6) (hi4 : i4 < 24) {h : ZH} {Q : Option Nat → ZH → Prop}
    (hf : EvAt d m_L_firstDue 68 [some (vQ (some (7, i0))), some (vI x1), some (vQ (some (9, i4))), some (vI x3), none, none] [] h (zQR 9 Q)) :
    EvAt d m_L_firstDue 65 [some (vQ (some (7, i0))), some (vI x1), none, some (vI x3), some (vQ (some (9, i4))), none] [] h (zQR 9 Q) := by
  refine zo_aload d_L_firstDue_65 rfl ?_
  refine zo_astore_n d_L_firstDue_67 rfl (Nat.le_of_ble_eq_true rfl) rfl ?_
  refine zo_drop 4 ?_
  exact hf
set_option maxRecDepth 100000 in
set_option maxHeartbeats 4000000 in
theorem w_L_firstDue_68 {d : Nat} (i0 : Nat) (x1 : Int32) (o2 : Option Nat) (x3 : Int32) (hi0 : i0 < 6) (ho2 : ∀ i, o2 = some i → i < 24) {h : ZH} {Q : Option Nat → ZH → Prop}
    (hf : EvAt d m_L_firstDue 4 [some (vQ (some (7, i0))), some (vI x1), some (vQ (o2.map (Prod.mk 9))), some (vI (x3 + 1)), none, none] [] h (zQR 9 Q)) :
    EvAt d m_L_firstDue 68 [some (vQ (some (7, i0))), some (vI x1), some (vQ (o2.map (Prod.mk 9))), some (vI x3), none, none] [] h (zQR 9 Q) := by
  refine zo_iinc (v := x3 + 1) d_L_firstDue_68 rfl rfl (Nat.le_of_ble_eq_true rfl) rfl ?_
  refine zo_goto (tgt := 4) d_L_firstDue_71 (by decide) ?_
  exact hf
set_option maxRecDepth 100000 in
set_option maxHeartbeats 4000000 in
theorem w_L_isAwaited_0 {d : Nat} (i0 : Nat) (hi0 : i0 < 6) {h : ZH} {Q : Int32 → ZH → Prop}
    (hf : EvAt d m_L_isAwaited 2 [some (vQ (some (7, i0))), some (vI (0 : Int32))] [] h (zQI Q)) :
    EvAt d m_L_isAwaited 0 [some (vQ (some (7, i0))), none] [] h (zQI Q) := by
  refine zo_iconst (v := 0) d_L_isAwaited_0 (by decide) ?_
  refine zo_istore_n d_L_isAwaited_1 rfl (Nat.le_of_ble_eq_true rfl) rfl ?_
  exact hf
theorem e_L_isAwaited {d : Nat} (i0 : Nat) (hi0 : i0 < 6) {h : ZH} {Q : Int32 → ZH → Prop}
    (hf : EvAt d m_L_isAwaited 2 [some (vQ (some (7, i0))), some (vI (0 : Int32))] [] h (zQI Q)) :
    EvI d m_L_isAwaited [vQ (some (7, i0))] h Q := zo_entry (by decide) (Nat.le_of_ble_eq_true rfl) (w_L_isAwaited_0 i0 hi0 hf)
set_option maxRecDepth 100000 in
set_option maxHeartbeats 4000000 in
theorem w_L_isAwaited_2 {d : Nat} (i0 : Nat) (x1 : Int32) (hi0 : i0 < 6) {h : ZH} {Q : Int32 → ZH → Prop}
    (hf : (((zi h 7 i0 3) ≤ x1 → Q (0 : Int32) h) ∧ (¬ (zi h 7 i0 3) ≤ x1 → (vp_in x1 4 ∧ ((¬ (zi h 9 (4 * i0 + x1.toNatClampNeg) 1) = 0 → EvAt d m_L_isAwaited 2 [some (vQ (some (7, i0))), some (vI (x1 + 1))] [] h (zQI Q)) ∧ ((zi h 9 (4 * i0 + x1.toNatClampNeg) 1) = 0 → Q (1 : Int32) h)))))) :
    EvAt d m_L_isAwaited 2 [some (vQ (some (7, i0))), some (vI x1)] [] h (zQI Q) := by
  refine zo_iload_n d_L_isAwaited_2 rfl rfl ?_
  refine zo_aload_n d_L_isAwaited_3 rfl rfl ?_
  refine gf_L_recipientCount wd_199 hi0 d_L_isAwaited_4 ?_
  refine zo_icmp_ge (tgt := 30) d_L_isAwaited_7 (by decide) (fun c3 => ?_) (fun c3 => ?_)
  · replace hf := hf.1 c3
    refine zo_iconst (v := 0) d_L_isAwaited_30 (by decide) ?_
    exact zo_zretI (ty := .boolean) rfl rfl d_L_isAwaited_31 hf
  · replace hf := hf.2 c3
    refine zo_aload_n d_L_isAwaited_10 rfl rfl ?_
    refine gf_L_recipients wd_195 hi0 d_L_isAwaited_11 ?_
    refine zo_iload_n d_L_isAwaited_14 rfl rfl ?_
    obtain ⟨hp1, hf⟩ := hf
    refine zo_aald1 (C := "SpooledPost$Recipient") (zin (by decide) hi0) rfl rfl rfl hp1 d_L_isAwaited_15 ?_
    refine gf_C_fate wd_177 (zin4c hi0 hp1) d_L_isAwaited_16 ?_
    refine zo_if_ne (tgt := 24) d_L_isAwaited_19 (by decide) (fun c2 => ?_) (fun c2 => ?_)
    · replace hf := hf.1 c2
      refine zo_iinc (v := x1 + 1) d_L_isAwaited_24 rfl rfl (Nat.le_of_ble_eq_true rfl) rfl ?_
      refine zo_goto (tgt := 2) d_L_isAwaited_27 (by decide) ?_
      exact hf
    · replace hf := hf.2 c2
      refine zo_iconst (v := 1) d_L_isAwaited_22 (by decide) ?_
      exact zo_zretI (ty := .boolean) rfl rfl d_L_isAwaited_23 hf
set_option maxRecDepth 100000 in
set_option maxHeartbeats 4000000 in
theorem w_L_recipientAt_0 {d : Nat} (i0 : Nat) (x1 : Int32) (hi0 : i0 < 6) {h : ZH} {Q : Option Nat → ZH → Prop}
    (hf : ((x1 < 0 → Q none h) ∧ (¬ x1 < 0 → (((zi h 7 i0 3) ≤ x1 → Q none h) ∧ (¬ (zi h 7 i0 3) ≤ x1 → (vp_in x1 4 ∧ Q (some (4 * i0 + x1.toNatClampNeg)) h)))))) :
    EvAt d m_L_recipientAt 0 [some (vQ (some (7, i0))), some (vI x1)] [] h (zQR 9 Q) := by
  refine zo_iload_n d_L_recipientAt_0 rfl rfl ?_
  refine zo_if_lt (tgt := 21) d_L_recipientAt_1 (by decide) (fun c3 => ?_) (fun c3 => ?_)
  · replace hf := hf.1 c3
    refine zo_null d_L_recipientAt_21 ?_
    exact zo_aretO (k := 9) (o := none) (C := "SpooledPost$Recipient") rfl (fun _ z => by cases z) d_L_recipientAt_22 hf
  · replace hf := hf.2 c3
    refine zo_iload_n d_L_recipientAt_4 rfl rfl ?_
    refine zo_aload_n d_L_recipientAt_5 rfl rfl ?_
    refine gf_L_recipientCount wd_199 hi0 d_L_recipientAt_6 ?_
    refine zo_icmp_ge (tgt := 21) d_L_recipientAt_9 (by decide) (fun c2 => ?_) (fun c2 => ?_)
    · replace hf := hf.1 c2
      refine zo_null d_L_recipientAt_21 ?_
      exact zo_aretO (k := 9) (o := none) (C := "SpooledPost$Recipient") rfl (fun _ z => by cases z) d_L_recipientAt_22 hf
    · replace hf := hf.2 c2
      refine zo_aload_n d_L_recipientAt_12 rfl rfl ?_
      refine gf_L_recipients wd_195 hi0 d_L_recipientAt_13 ?_
      refine zo_iload_n d_L_recipientAt_16 rfl rfl ?_
      obtain ⟨hp1, hf⟩ := hf
      refine zo_aald1 (C := "SpooledPost$Recipient") (zin (by decide) hi0) rfl rfl rfl hp1 d_L_recipientAt_17 ?_
      refine zo_goto (tgt := 22) d_L_recipientAt_18 (by decide) ?_
      exact zo_aretO (k := 9) (o := some (4 * i0 + x1.toNatClampNeg)) (C := "SpooledPost$Recipient") rfl (fun _ z => by cases z; exact (zin4c hi0 hp1)) d_L_recipientAt_22 hf
theorem e_L_recipientAt {d : Nat} (i0 : Nat) (x1 : Int32) (hi0 : i0 < 6) {h : ZH} {Q : Option Nat → ZH → Prop}
    (hf : ((x1 < 0 → Q none h) ∧ (¬ x1 < 0 → (((zi h 7 i0 3) ≤ x1 → Q none h) ∧ (¬ (zi h 7 i0 3) ≤ x1 → (vp_in x1 4 ∧ Q (some (4 * i0 + x1.toNatClampNeg)) h)))))) :
    EvR 9 d m_L_recipientAt [vQ (some (7, i0)), vI x1] h Q := zo_entry (by decide) (Nat.le_of_ble_eq_true rfl) (w_L_recipientAt_0 i0 x1 hi0 hf)
