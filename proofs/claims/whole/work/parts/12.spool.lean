set_option maxRecDepth 100000 in
set_option maxHeartbeats 4000000 in
theorem w_O_isFull_0 {d : Nat}   {h : ZH} {Q : Int32 → ZH → Prop}
    (hf : (((zi h 5 0 1) < (6 : Int32) → Q (0 : Int32) h) ∧ (¬ (zi h 5 0 1) < (6 : Int32) → Q (1 : Int32) h))) :
    EvAt d m_O_isFull 0 [some (vQ (some (5, 0)))] [] h (zQI Q) := by
  refine zo_aload_n d_O_isFull_0 rfl rfl ?_
  refine gf_O_count wd_220 d_O_isFull_1 ?_
  refine zo_bipush (v := 6) d_O_isFull_4 (by decide) ?_
  refine zo_icmp_lt (tgt := 13) d_O_isFull_6 (by decide) (fun c1 => ?_) (fun c1 => ?_)
  · replace hf := hf.1 c1
    refine zo_iconst (v := 0) d_O_isFull_13 (by decide) ?_
    exact zo_zretI (ty := .boolean) rfl rfl d_O_isFull_14 hf
  · replace hf := hf.2 c1
    refine zo_iconst (v := 1) d_O_isFull_9 (by decide) ?_
    refine zo_goto (tgt := 14) d_O_isFull_10 (by decide) ?_
    exact zo_zretI (ty := .boolean) rfl rfl d_O_isFull_14 hf
theorem e_O_isFull {d : Nat}   {h : ZH} {Q : Int32 → ZH → Prop}
    (hf : (((zi h 5 0 1) < (6 : Int32) → Q (0 : Int32) h) ∧ (¬ (zi h 5 0 1) < (6 : Int32) → Q (1 : Int32) h))) :
    EvI d m_O_isFull [vQ (some (5, 0))] h Q := zo_entry (by decide) (Nat.le_of_ble_eq_true rfl) (w_O_isFull_0   hf)
set_option maxRecDepth 100000 in
set_option maxHeartbeats 4000000 in
theorem w_O_begin_0 {d : Nat}   {h : ZH} {Q : Option Nat → ZH → Prop}
    (hf : EvI d m_O_isFull [vQ (some (5, 0))] h (fun y2 g1 => ((y2 = 0 → EvI d m_O_write [vQ (some (5, 0))] (zw g1 5 0 2 ((zi g1 5 0 2) + (1 : Int32))) (fun y4 g3 => ((¬ y4 = 0 → (vp_in (zi g3 5 0 1) 6 ∧ ∃ q5, zr g3 6 0 (zi g3 5 0 1).toNatClampNeg = some q5 ∧ q5 < 6 ∧ EvV d m_L_begin [vQ (some (7, q5)), vI (zi g1 5 0 2)] g3 (fun g6 => Q (some q5) (zw g6 5 0 1 ((zi g6 5 0 1) + (1 : Int32)))))) ∧ (y4 = 0 → Q none g3)))) ∧ (¬ y2 = 0 → Q none g1)))) :
    EvAt (d + 1) m_O_begin 0 [some (vQ (some (5, 0))), none, none] [] h (zQR 7 Q) := by
  refine zo_aload_n d_O_begin_0 rfl rfl ?_
  refine zo_callVI (d := d) (N := m_O_isFull) (as := []) (n := 0) (zin (by decide) (by decide)) rfl rfl cv_O_isFull wd_323 rfl rfl (Nat.le_of_ble_eq_true rfl) d_O_begin_1 hf (fun y2 g1 hf => ?_)
  refine zo_if_eq (tgt := 9) d_O_begin_4 (by decide) (fun c8 => ?_) (fun c8 => ?_)
  · replace hf := hf.1 c8
    refine zo_aload_n d_O_begin_9 rfl rfl ?_
    refine gf_O_nextNumber wd_221 d_O_begin_10 ?_
    refine zo_istore_n d_O_begin_13 rfl (Nat.le_of_ble_eq_true rfl) rfl ?_
    refine zo_aload_n d_O_begin_14 rfl rfl ?_
    refine zo_dup rfl d_O_begin_15 ?_
    refine gf_O_nextNumber wd_221 d_O_begin_16 ?_
    refine zo_iconst (v := 1) d_O_begin_19 (by decide) ?_
    refine zo_iadd d_O_begin_20 ?_
    refine pf_O_nextNumber wd_221 d_O_begin_21 ?_
    refine zo_aload_n d_O_begin_24 rfl rfl ?_
    refine zo_callVI (d := d) (N := m_O_write) (as := []) (n := 0) (zin (by decide) (by decide)) rfl rfl cv_O_write wd_324 rfl rfl (Nat.le_of_ble_eq_true rfl) d_O_begin_25 hf (fun y4 g3 hf => ?_)
    refine zo_if_ne (tgt := 33) d_O_begin_28 (by decide) (fun c7 => ?_) (fun c7 => ?_)
    · replace hf := hf.1 c7
      refine zo_aload_n d_O_begin_33 rfl rfl ?_
      refine gf_O_row wd_219 d_O_begin_34 ?_
      refine zo_aload_n d_O_begin_37 rfl rfl ?_
      refine gf_O_count wd_220 d_O_begin_38 ?_
      obtain ⟨hp_q5, q5, hr_q5, hv_q5, hf⟩ := hf
      refine zo_aald2 (C := "SpooledPost$Letter") (zin (by decide) (by decide)) rfl rfl rfl hp_q5 hr_q5 d_O_begin_41 ?_
      refine zo_astore_n d_O_begin_42 rfl (Nat.le_of_ble_eq_true rfl) rfl ?_
      refine zo_aload_n d_O_begin_43 rfl rfl ?_
      refine zo_iload_n d_O_begin_44 rfl rfl ?_
      refine zo_callVV (d := d) (N := m_L_begin) (as := [vI (zi g1 5 0 2)]) (n := 1) (zin (by decide) hv_q5) rfl rfl cv_L_begin wd_328 rfl rfl (Nat.le_of_ble_eq_true rfl) d_O_begin_45 hf (fun g6 hf => ?_)
      refine zo_aload_n d_O_begin_48 rfl rfl ?_
      refine zo_dup rfl d_O_begin_49 ?_
      refine gf_O_count wd_220 d_O_begin_50 ?_
      refine zo_iconst (v := 1) d_O_begin_53 (by decide) ?_
      refine zo_iadd d_O_begin_54 ?_
      refine pf_O_count wd_220 d_O_begin_55 ?_
      refine zo_aload_n d_O_begin_58 rfl rfl ?_
      exact zo_aretO (k := 7) (o := some q5) (C := "SpooledPost$Letter") rfl (fun _ z => by cases z; exact hv_q5) d_O_begin_59 hf
    · replace hf := hf.2 c7
      refine zo_null d_O_begin_31 ?_
      exact zo_aretO (k := 7) (o := none) (C := "SpooledPost$Letter") rfl (fun _ z => by cases z) d_O_begin_32 hf
  · replace hf := hf.2 c8
    refine zo_null d_O_begin_7 ?_
    exact zo_aretO (k := 7) (o := none) (C := "SpooledPost$Letter") rfl (fun _ z => by cases z) d_O_begin_8 hf
theorem e_O_begin {d : Nat}   {h : ZH} {Q : Option Nat → ZH → Prop}
    (hf : EvI d m_O_isFull [vQ (some (5, 0))] h (fun y2 g1 => ((y2 = 0 → EvI d m_O_write [vQ (some (5, 0))] (zw g1 5 0 2 ((zi g1 5 0 2) + (1 : Int32))) (fun y4 g3 => ((¬ y4 = 0 → (vp_in (zi g3 5 0 1) 6 ∧ ∃ q5, zr g3 6 0 (zi g3 5 0 1).toNatClampNeg = some q5 ∧ q5 < 6 ∧ EvV d m_L_begin [vQ (some (7, q5)), vI (zi g1 5 0 2)] g3 (fun g6 => Q (some q5) (zw g6 5 0 1 ((zi g6 5 0 1) + (1 : Int32)))))) ∧ (y4 = 0 → Q none g3)))) ∧ (¬ y2 = 0 → Q none g1)))) :
    EvR 7 (d + 1) m_O_begin [vQ (some (5, 0))] h Q := zo_entry (by decide) (Nat.le_of_ble_eq_true rfl) (w_O_begin_0   hf)
set_option maxRecDepth 100000 in
set_option maxHeartbeats 4000000 in
theorem w_O_write_0 {d : Nat}   {h : ZH} {Q : Int32 → ZH → Prop}
    (hf : ((¬ (zi h 5 0 3) = 0 → (((zi h 5 0 3) ≤ 0 → Q (1 : Int32) h) ∧ (¬ (zi h 5 0 3) ≤ 0 → Q (1 : Int32) (zw h 5 0 3 ((zi h 5 0 3) - (1 : Int32)))))) ∧ ((zi h 5 0 3) = 0 → Q (0 : Int32) (zw h 5 0 4 (1 : Int32))))) :
    EvAt d m_O_write 0 [some (vQ (some (5, 0)))] [] h (zQI Q) := by
  refine zo_aload_n d_O_write_0 rfl rfl ?_
  refine gf_O_writesLeft wd_222 d_O_write_1 ?_
  refine zo_if_ne (tgt := 14) d_O_write_4 (by decide) (fun c2 => ?_) (fun c2 => ?_)
  · replace hf := hf.1 c2
    refine zo_aload_n d_O_write_14 rfl rfl ?_
    refine gf_O_writesLeft wd_222 d_O_write_15 ?_
    refine zo_if_le (tgt := 31) d_O_write_18 (by decide) (fun c1 => ?_) (fun c1 => ?_)
    · replace hf := hf.1 c1
      refine zo_iconst (v := 1) d_O_write_31 (by decide) ?_
      exact zo_zretI (ty := .boolean) rfl rfl d_O_write_32 hf
    · replace hf := hf.2 c1
      refine zo_aload_n d_O_write_21 rfl rfl ?_
      refine zo_dup rfl d_O_write_22 ?_
      refine gf_O_writesLeft wd_222 d_O_write_23 ?_
      refine zo_iconst (v := 1) d_O_write_26 (by decide) ?_
      refine zo_isub d_O_write_27 ?_
      refine pf_O_writesLeft wd_222 d_O_write_28 ?_
      refine zo_iconst (v := 1) d_O_write_31 (by decide) ?_
      exact zo_zretI (ty := .boolean) rfl rfl d_O_write_32 hf
  · replace hf := hf.2 c2
    refine zo_aload_n d_O_write_7 rfl rfl ?_
    refine zo_iconst (v := 1) d_O_write_8 (by decide) ?_
    refine pf_O_down wd_225 (by decide) d_O_write_9 ?_
    refine zo_iconst (v := 0) d_O_write_12 (by decide) ?_
    exact zo_zretI (ty := .boolean) rfl rfl d_O_write_13 hf
theorem e_O_write {d : Nat}   {h : ZH} {Q : Int32 → ZH → Prop}
    (hf : ((¬ (zi h 5 0 3) = 0 → (((zi h 5 0 3) ≤ 0 → Q (1 : Int32) h) ∧ (¬ (zi h 5 0 3) ≤ 0 → Q (1 : Int32) (zw h 5 0 3 ((zi h 5 0 3) - (1 : Int32)))))) ∧ ((zi h 5 0 3) = 0 → Q (0 : Int32) (zw h 5 0 4 (1 : Int32))))) :
    EvI d m_O_write [vQ (some (5, 0))] h Q := zo_entry (by decide) (Nat.le_of_ble_eq_true rfl) (w_O_write_0   hf)
set_option maxRecDepth 100000 in
set_option maxHeartbeats 4000000 in
theorem w_O_seal_0 {d : Nat} (i1 : Nat) (hi1 : i1 < 6) {h : ZH} {Q : Int32 → ZH → Prop}
    (hf : EvI d m_O_write [vQ (some (5, 0))] h (fun y2 g1 => ((y2 = 0 ∨ y2 = 1) ∧ (narrow .boolean (.int (zi (zw g1 7 i1 5 y2) 7 i1 5)) = .int (zi (zw g1 7 i1 5 y2) 7 i1 5) ∧ Q (zi (zw g1 7 i1 5 y2) 7 i1 5) (zw g1 7 i1 5 y2))))) :
    EvAt (d + 1) m_O_seal 0 [some (vQ (some (5, 0))), some (vQ (some (7, i1)))] [] h (zQI Q) := by
  refine zo_aload_n d_O_seal_0 rfl rfl ?_
  refine zo_aload_n d_O_seal_1 rfl rfl ?_
  refine zo_callVI (d := d) (N := m_O_write) (as := []) (n := 0) (zin (by decide) (by decide)) rfl rfl cv_O_write wd_324 rfl rfl (Nat.le_of_ble_eq_true rfl) d_O_seal_2 hf (fun y2 g1 hf => ?_)
  obtain ⟨hb, hf⟩ := hf
  refine pf_L_sealed wd_205 hi1 hb d_O_seal_5 ?_
  refine zo_aload_n d_O_seal_8 rfl rfl ?_
  refine gf_L_sealed wd_205 hi1 d_O_seal_9 ?_
  exact zo_zretI (ty := .boolean) rfl hf.1 d_O_seal_12 hf.2
theorem e_O_seal {d : Nat} (i1 : Nat) (hi1 : i1 < 6) {h : ZH} {Q : Int32 → ZH → Prop}
    (hf : EvI d m_O_write [vQ (some (5, 0))] h (fun y2 g1 => ((y2 = 0 ∨ y2 = 1) ∧ (narrow .boolean (.int (zi (zw g1 7 i1 5 y2) 7 i1 5)) = .int (zi (zw g1 7 i1 5 y2) 7 i1 5) ∧ Q (zi (zw g1 7 i1 5 y2) 7 i1 5) (zw g1 7 i1 5 y2))))) :
    EvI (d + 1) m_O_seal [vQ (some (5, 0)), vQ (some (7, i1))] h Q := zo_entry (by decide) (Nat.le_of_ble_eq_true rfl) (w_O_seal_0 i1 hi1 hf)
set_option maxRecDepth 100000 in
set_option maxHeartbeats 4000000 in
theorem w_O_recover_0 {d : Nat}   {h : ZH} {Q : ZH → Prop}
    (hf : EvAt (d + 1) m_O_recover 7 [some (vQ (some (5, 0))), some (vI ((zi h 5 0 1) - (1 : Int32)))] [] h (zQV Q)) :
    EvAt (d + 1) m_O_recover 0 [some (vQ (some (5, 0))), none] [] h (zQV Q) := by
  refine zo_aload_n d_O_recover_0 rfl rfl ?_
  refine gf_O_count wd_220 d_O_recover_1 ?_
  refine zo_iconst (v := 1) d_O_recover_4 (by decide) ?_
  refine zo_isub d_O_recover_5 ?_
  refine zo_istore_n d_O_recover_6 rfl (Nat.le_of_ble_eq_true rfl) rfl ?_
  exact hf
theorem e_O_recover {d : Nat}   {h : ZH} {Q : ZH → Prop}
    (hf : EvAt (d + 1) m_O_recover 7 [some (vQ (some (5, 0))), some (vI ((zi h 5 0 1) - (1 : Int32)))] [] h (zQV Q)) :
    EvV (d + 1) m_O_recover [vQ (some (5, 0))] h Q := zo_entry (by decide) (Nat.le_of_ble_eq_true rfl) (w_O_recover_0   hf)
set_option maxRecDepth 100000 in
set_option maxHeartbeats 4000000 in
theorem w_O_recover_7 {d : Nat} (x1 : Int32)  {h : ZH} {Q : ZH → Prop}
    (hf : ((x1 < 0 → Q (zw (zw h 5 0 3 (-1 : Int32)) 5 0 4 (0 : Int32))) ∧ (¬ x1 < 0 → (vp_in x1 6 ∧ ∃ q1, zr h 6 0 x1.toNatClampNeg = some q1 ∧ q1 < 6 ∧ ((¬ (zi h 7 q1 5) = 0 → EvAt (d + 1) m_O_recover 33 [some (vQ (some (5, 0))), some (vI x1)] [] h (zQV Q)) ∧ ((zi h 7 q1 5) = 0 → (vp_in x1 6 ∧ ∃ q2, zr h 6 0 x1.toNatClampNeg = some q2 ∧ q2 < 6 ∧ EvV d m_O_drop [vQ (some (5, 0)), vQ (some (7, q2))] h (fun g3 => EvAt (d + 1) m_O_recover 33 [some (vQ (some (5, 0))), some (vI x1)] [] g3 (zQV Q))))))))) :
    EvAt (d + 1) m_O_recover 7 [some (vQ (some (5, 0))), some (vI x1)] [] h (zQV Q) := by
  refine zo_iload_n d_O_recover_7 rfl rfl ?_
  refine zo_if_lt (tgt := 39) d_O_recover_8 (by decide) (fun c5 => ?_) (fun c5 => ?_)
  · replace hf := hf.1 c5
    refine zo_aload_n d_O_recover_39 rfl rfl ?_
    refine zo_iconst (v := (-1)) d_O_recover_40 (by decide) ?_
    refine pf_O_writesLeft wd_222 d_O_recover_41 ?_
    refine zo_aload_n d_O_recover_44 rfl rfl ?_
    refine zo_iconst (v := 0) d_O_recover_45 (by decide) ?_
    refine pf_O_down wd_225 (by decide) d_O_recover_46 ?_
    exact zo_vretV rfl d_O_recover_49 hf
  · replace hf := hf.2 c5
    refine zo_aload_n d_O_recover_11 rfl rfl ?_
    refine gf_O_row wd_219 d_O_recover_12 ?_
    refine zo_iload_n d_O_recover_15 rfl rfl ?_
    obtain ⟨hp_q1, q1, hr_q1, hv_q1, hf⟩ := hf
    refine zo_aald2 (C := "SpooledPost$Letter") (zin (by decide) (by decide)) rfl rfl rfl hp_q1 hr_q1 d_O_recover_16 ?_
    refine gf_L_sealed wd_205 hv_q1 d_O_recover_17 ?_
    refine zo_if_ne (tgt := 33) d_O_recover_20 (by decide) (fun c4 => ?_) (fun c4 => ?_)
    · replace hf := hf.1 c4
      exact hf
    · replace hf := hf.2 c4
      refine zo_aload_n d_O_recover_23 rfl rfl ?_
      refine zo_aload_n d_O_recover_24 rfl rfl ?_
      refine gf_O_row wd_219 d_O_recover_25 ?_
      refine zo_iload_n d_O_recover_28 rfl rfl ?_
      obtain ⟨hp_q2, q2, hr_q2, hv_q2, hf⟩ := hf
      refine zo_aald2 (C := "SpooledPost$Letter") (zin (by decide) (by decide)) rfl rfl rfl hp_q2 hr_q2 d_O_recover_29 ?_
      refine zo_callVV (d := d) (N := m_O_drop) (as := [vQ (some (7, q2))]) (n := 1) (zin (by decide) (by decide)) rfl rfl cv_O_drop wd_515 rfl rfl (Nat.le_of_ble_eq_true rfl) d_O_recover_30 hf (fun g3 hf => ?_)
      exact hf
set_option maxRecDepth 100000 in
set_option maxHeartbeats 4000000 in
theorem w_O_recover_33 {d : Nat} (x1 : Int32)  {h : ZH} {Q : ZH → Prop}
    (hf : EvAt (d + 1) m_O_recover 7 [some (vQ (some (5, 0))), some (vI (x1 + (-1)))] [] h (zQV Q)) :
    EvAt (d + 1) m_O_recover 33 [some (vQ (some (5, 0))), some (vI x1)] [] h (zQV Q) := by
  refine zo_iinc (v := x1 + (-1)) d_O_recover_33 rfl rfl (Nat.le_of_ble_eq_true rfl) rfl ?_
  refine zo_goto (tgt := 7) d_O_recover_36 (by decide) ?_
  exact hf
set_option maxRecDepth 100000 in
set_option maxHeartbeats 4000000 in
theorem w_O_drop_0 {d : Nat} (i1 : Nat) (hi1 : i1 < 6) {h : ZH} {Q : ZH → Prop}
    (hf : EvAt d m_O_drop 4 [some (vQ (some (5, 0))), some (vQ (some (7, i1))), some (vI (0 : Int32)), some (vI (0 : Int32)), none] [] h (zQV Q)) :
    EvAt d m_O_drop 0 [some (vQ (some (5, 0))), some (vQ (some (7, i1))), none, none, none] [] h (zQV Q) := by
  refine zo_iconst (v := 0) d_O_drop_0 (by decide) ?_
  refine zo_istore_n d_O_drop_1 rfl (Nat.le_of_ble_eq_true rfl) rfl ?_
  refine zo_iconst (v := 0) d_O_drop_2 (by decide) ?_
  refine zo_istore_n d_O_drop_3 rfl (Nat.le_of_ble_eq_true rfl) rfl ?_
  exact hf
theorem e_O_drop {d : Nat} (i1 : Nat) (hi1 : i1 < 6) {h : ZH} {Q : ZH → Prop}
    (hf : EvAt d m_O_drop 4 [some (vQ (some (5, 0))), some (vQ (some (7, i1))), some (vI (0 : Int32)), some (vI (0 : Int32)), none] [] h (zQV Q)) :
    EvV d m_O_drop [vQ (some (5, 0)), vQ (some (7, i1))] h Q := zo_entry (by decide) (Nat.le_of_ble_eq_true rfl) (w_O_drop_0 i1 hi1 hf)
set_option maxRecDepth 100000 in
set_option maxHeartbeats 4000000 in
theorem w_O_drop_4 {d : Nat} (i1 : Nat) (x2 : Int32) (x3 : Int32) (hi1 : i1 < 6) {h : ZH} {Q : ZH → Prop}
    (hf : (((zi h 5 0 1) ≤ x3 → (((zi h 5 0 1) ≤ x2 → Q h) ∧ (¬ (zi h 5 0 1) ≤ x2 → (vp_in x2 6 ∧ Q (zw (zwr h 6 0 x2.toNatClampNeg (some i1)) 5 0 1 x2))))) ∧ (¬ (zi h 5 0 1) ≤ x3 → (vp_in x3 6 ∧ ∃ q2, zr h 6 0 x3.toNatClampNeg = some q2 ∧ q2 < 6 ∧ ((q2 = i1 → EvAt d m_O_drop 37 [some (vQ (some (5, 0))), some (vQ (some (7, i1))), some (vI x2), some (vI x3), none] [] h (zQV Q)) ∧ (¬ q2 = i1 → (vp_in x2 6 ∧ EvAt d m_O_drop 37 [some (vQ (some (5, 0))), some (vQ (some (7, i1))), some (vI (x2 + 1)), some (vI x3), none] [] (zwr h 6 0 x2.toNatClampNeg (some q2)) (zQV Q)))))))) :
    EvAt d m_O_drop 4 [some (vQ (some (5, 0))), some (vQ (some (7, i1))), some (vI x2), some (vI x3), none] [] h (zQV Q) := by
  refine zo_iload_n d_O_drop_4 rfl rfl ?_
  refine zo_aload_n d_O_drop_5 rfl rfl ?_
  refine gf_O_count wd_220 d_O_drop_6 ?_
  refine zo_icmp_ge (tgt := 43) d_O_drop_9 (by decide) (fun c4 => ?_) (fun c4 => ?_)
  · replace hf := hf.1 c4
    refine zo_iload_n d_O_drop_43 rfl rfl ?_
    refine zo_aload_n d_O_drop_44 rfl rfl ?_
    refine gf_O_count wd_220 d_O_drop_45 ?_
    refine zo_icmp_ge (tgt := 63) d_O_drop_48 (by decide) (fun c1 => ?_) (fun c1 => ?_)
    · replace hf := hf.1 c1
      exact zo_vretV rfl d_O_drop_63 hf
    · replace hf := hf.2 c1
      refine zo_aload_n d_O_drop_51 rfl rfl ?_
      refine gf_O_row wd_219 d_O_drop_52 ?_
      refine zo_iload_n d_O_drop_55 rfl rfl ?_
      refine zo_aload_n d_O_drop_56 rfl rfl ?_
      obtain ⟨hp, hf⟩ := hf
      refine zo_aast (k := 6) (r := ("SpooledPost$Letter", kT_L, 6)) (zin (by decide) (by decide)) (zin (by decide) hi1) rfl rfl rfl rfl rfl hp d_O_drop_57 ?_
      refine zo_aload_n d_O_drop_58 rfl rfl ?_
      refine zo_iload_n d_O_drop_59 rfl rfl ?_
      refine pf_O_count wd_220 d_O_drop_60 ?_
      exact zo_vretV rfl d_O_drop_63 hf
  · replace hf := hf.2 c4
    refine zo_aload_n d_O_drop_12 rfl rfl ?_
    refine gf_O_row wd_219 d_O_drop_13 ?_
    refine zo_iload_n d_O_drop_16 rfl rfl ?_
    obtain ⟨hp_q2, q2, hr_q2, hv_q2, hf⟩ := hf
    refine zo_aald2 (C := "SpooledPost$Letter") (zin (by decide) (by decide)) rfl rfl rfl hp_q2 hr_q2 d_O_drop_17 ?_
    refine zo_astore d_O_drop_18 (Nat.le_of_ble_eq_true rfl) rfl ?_
    refine zo_aload d_O_drop_20 rfl ?_
    refine zo_aload_n d_O_drop_22 rfl rfl ?_
    refine zo_acmpK_eq (tgt := 37) (by decide) hv_q2 hi1 d_O_drop_23 (by decide) (fun c3 => ?_) (fun c3 => ?_)
    · replace hf := hf.1 c3
      refine zo_drop 4 ?_
      exact hf
    · replace hf := hf.2 c3
      refine zo_aload_n d_O_drop_26 rfl rfl ?_
      refine gf_O_row wd_219 d_O_drop_27 ?_
      refine zo_iload_n d_O_drop_30 rfl rfl ?_
      refine zo_aload d_O_drop_31 rfl ?_
      obtain ⟨hp, hf⟩ := hf
      refine zo_aast (k := 6) (r := ("SpooledPost$Letter", kT_L, 6)) (zin (by decide) (by decide)) (zin (by decide) hv_q2) rfl rfl rfl rfl rfl hp d_O_drop_33 ?_
      refine zo_iinc (v := x2 + 1) d_O_drop_34 rfl rfl (Nat.le_of_ble_eq_true rfl) rfl ?_
      refine zo_drop 4 ?_
      exact hf
set_option maxRecDepth 100000 in
set_option maxHeartbeats 4000000 in
theorem w_O_drop_37 {d : Nat} (i1 : Nat) (x2 : Int32) (x3 : Int32) (hi1 : i1 < 6) {h : ZH} {Q : ZH → Prop}
    (hf : EvAt d m_O_drop 4 [some (vQ (some (5, 0))), some (vQ (some (7, i1))), some (vI x2), some (vI (x3 + 1)), none] [] h (zQV Q)) :
    EvAt d m_O_drop 37 [some (vQ (some (5, 0))), some (vQ (some (7, i1))), some (vI x2), some (vI x3), none] [] h (zQV Q) := by
  refine zo_iinc (v := x3 + 1) d_O_drop_37 rfl rfl (Nat.le_of_ble_eq_true rfl) rfl ?_
  refine zo_goto (tgt := 4) d_O_drop_40 (by decide) ?_
  exact hf
set_option maxRecDepth 100000 in
set_option maxHeartbeats 4000000 in
theorem w_O_sealedCount_0 {d : Nat}   {h : ZH} {Q : Int32 → ZH → Prop}
    (hf : EvAt d m_O_sealedCount 4 [some (vQ (some (5, 0))), some (vI (0 : Int32)), some (vI (0 : Int32))] [] h (zQI Q)) :
    EvAt d m_O_sealedCount 0 [some (vQ (some (5, 0))), none, none] [] h (zQI Q) := by
  refine zo_iconst (v := 0) d_O_sealedCount_0 (by decide) ?_
  refine zo_istore_n d_O_sealedCount_1 rfl (Nat.le_of_ble_eq_true rfl) rfl ?_
  refine zo_iconst (v := 0) d_O_sealedCount_2 (by decide) ?_
  refine zo_istore_n d_O_sealedCount_3 rfl (Nat.le_of_ble_eq_true rfl) rfl ?_
  exact hf
theorem e_O_sealedCount {d : Nat}   {h : ZH} {Q : Int32 → ZH → Prop}
    (hf : EvAt d m_O_sealedCount 4 [some (vQ (some (5, 0))), some (vI (0 : Int32)), some (vI (0 : Int32))] [] h (zQI Q)) :
    EvI d m_O_sealedCount [vQ (some (5, 0))] h Q := zo_entry (by decide) (Nat.le_of_ble_eq_true rfl) (w_O_sealedCount_0   hf)
set_option maxRecDepth 100000 in
set_option maxHeartbeats 4000000 in
theorem w_O_sealedCount_4 {d : Nat} (x1 : Int32) (x2 : Int32)  {h : ZH} {Q : Int32 → ZH → Prop}
    (hf : (((zi h 5 0 1) ≤ x2 → Q x1 h) ∧ (¬ (zi h 5 0 1) ≤ x2 → (vp_in x2 6 ∧ ∃ q1, zr h 6 0 x2.toNatClampNeg = some q1 ∧ q1 < 6 ∧ (((zi h 7 q1 5) = 0 → EvAt d m_O_sealedCount 27 [some (vQ (some (5, 0))), some (vI x1), some (vI x2)] [] h (zQI Q)) ∧ (¬ (zi h 7 q1 5) = 0 → EvAt d m_O_sealedCount 27 [some (vQ (some (5, 0))), some (vI (x1 + 1)), some (vI x2)] [] h (zQI Q))))))) :
    EvAt d m_O_sealedCount 4 [some (vQ (some (5, 0))), some (vI x1), some (vI x2)] [] h (zQI Q) := by
  refine zo_iload_n d_O_sealedCount_4 rfl rfl ?_
  refine zo_aload_n d_O_sealedCount_5 rfl rfl ?_
  refine gf_O_count wd_220 d_O_sealedCount_6 ?_
  refine zo_icmp_ge (tgt := 33) d_O_sealedCount_9 (by decide) (fun c3 => ?_) (fun c3 => ?_)
  · replace hf := hf.1 c3
    refine zo_iload_n d_O_sealedCount_33 rfl rfl ?_
    exact zo_iretI rfl d_O_sealedCount_34 hf
  · replace hf := hf.2 c3
    refine zo_aload_n d_O_sealedCount_12 rfl rfl ?_
    refine gf_O_row wd_219 d_O_sealedCount_13 ?_
    refine zo_iload_n d_O_sealedCount_16 rfl rfl ?_
    obtain ⟨hp_q1, q1, hr_q1, hv_q1, hf⟩ := hf
    refine zo_aald2 (C := "SpooledPost$Letter") (zin (by decide) (by decide)) rfl rfl rfl hp_q1 hr_q1 d_O_sealedCount_17 ?_
    refine gf_L_sealed wd_205 hv_q1 d_O_sealedCount_18 ?_
    refine zo_if_eq (tgt := 27) d_O_sealedCount_21 (by decide) (fun c2 => ?_) (fun c2 => ?_)
    · replace hf := hf.1 c2
      exact hf
    · replace hf := hf.2 c2
      refine zo_iinc (v := x1 + 1) d_O_sealedCount_24 rfl rfl (Nat.le_of_ble_eq_true rfl) rfl ?_
      exact hf
set_option maxRecDepth 100000 in
set_option maxHeartbeats 4000000 in
theorem w_O_sealedCount_27 {d : Nat} (x1 : Int32) (x2 : Int32)  {h : ZH} {Q : Int32 → ZH → Prop}
    (hf : EvAt d m_O_sealedCount 4 [some (vQ (some (5, 0))), some (vI x1), some (vI (x2 + 1))] [] h (zQI Q)) :
    EvAt d m_O_sealedCount 27 [some (vQ (some (5, 0))), some (vI x1), some (vI x2)] [] h (zQI Q) := by
  refine zo_iinc (v := x2 + 1) d_O_sealedCount_27 rfl rfl (Nat.le_of_ble_eq_true rfl) rfl ?_
  refine zo_goto (tgt := 4) d_O_sealedCount_30 (by decide) ?_
  exact hf
set_option maxRecDepth 100000 in
set_option maxHeartbeats 4000000 in
theorem w_O_holderOfNext_0 {d : Nat} (x1 : Int32)  {h : ZH} {Q : Option Nat → ZH → Prop}
    (hf : EvAt (d + 1) m_O_holderOfNext 7 [some (vQ (some (5, 0))), some (vI x1), some (vQ none), some (vQ none), some (vI (0 : Int32)), none] [] h (zQR 7 Q)) :
    EvAt (d + 1) m_O_holderOfNext 0 [some (vQ (some (5, 0))), some (vI x1), none, none, none, none] [] h (zQR 7 Q) := by
  refine zo_null d_O_holderOfNext_0 ?_
  refine zo_astore_n d_O_holderOfNext_1 rfl (Nat.le_of_ble_eq_true rfl) rfl ?_
  refine zo_null d_O_holderOfNext_2 ?_
  refine zo_astore_n d_O_holderOfNext_3 rfl (Nat.le_of_ble_eq_true rfl) rfl ?_
  refine zo_iconst (v := 0) d_O_holderOfNext_4 (by decide) ?_
  refine zo_istore d_O_holderOfNext_5 (Nat.le_of_ble_eq_true rfl) rfl ?_
  exact hf
theorem e_O_holderOfNext {d : Nat} (x1 : Int32)  {h : ZH} {Q : Option Nat → ZH → Prop}
    (hf : EvAt (d + 1) m_O_holderOfNext 7 [some (vQ (some (5, 0))), some (vI x1), some (vQ none), some (vQ none), some (vI (0 : Int32)), none] [] h (zQR 7 Q)) :
    EvR 7 (d + 1) m_O_holderOfNext [vQ (some (5, 0)), vI x1] h Q := zo_entry (by decide) (Nat.le_of_ble_eq_true rfl) (w_O_holderOfNext_0 x1  hf)
set_option maxRecDepth 100000 in
set_option maxHeartbeats 4000000 in
theorem w_O_holderOfNext_7 {d : Nat} (x1 : Int32) (o2 : Option Nat) (o3 : Option Nat) (x4 : Int32) (ho2 : ∀ i, o2 = some i → i < 6) (ho3 : ∀ i, o3 = some i → i < 24) {h : ZH} {Q : Option Nat → ZH → Prop}
    (hf : (((zi h 5 0 1) ≤ x4 → Q o2 h) ∧ (¬ (zi h 5 0 1) ≤ x4 → (vp_in x4 6 ∧ ∃ q1, zr h 6 0 x4.toNatClampNeg = some q1 ∧ q1 < 6 ∧ (((zi h 7 q1 5) = 0 → EvAt (d + 1) m_O_holderOfNext 44 [some (vQ (some (5, 0))), some (vI x1), some (vQ (o2.map (Prod.mk 7))), some (vQ (o3.map (Prod.mk 9))), some (vI x4), none] [vQ none] h (zQR 7 Q)) ∧ (¬ (zi h 7 q1 5) = 0 → (vp_in x4 6 ∧ ∃ q2, zr h 6 0 x4.toNatClampNeg = some q2 ∧ q2 < 6 ∧ EvR 9 d m_L_firstDue [vQ (some (7, q2)), vI x1] h (fun r4 g3 => EvAt (d + 1) m_O_holderOfNext 44 [some (vQ (some (5, 0))), some (vI x1), some (vQ (o2.map (Prod.mk 7))), some (vQ (o3.map (Prod.mk 9))), some (vI x4), none] [vQ (r4.map (Prod.mk 9))] g3 (zQR 7 Q))))))))) :
    EvAt (d + 1) m_O_holderOfNext 7 [some (vQ (some (5, 0))), some (vI x1), some (vQ (o2.map (Prod.mk 7))), some (vQ (o3.map (Prod.mk 9))), some (vI x4), none] [] h (zQR 7 Q) := by
  refine zo_iload d_O_holderOfNext_7 rfl ?_
  refine zo_aload_n d_O_holderOfNext_9 rfl rfl ?_
  refine gf_O_count wd_220 d_O_holderOfNext_10 ?_
  refine zo_icmp_ge (tgt := 84) d_O_holderOfNext_13 (by decide) (fun c6 => ?_) (fun c6 => ?_)
  · replace hf := hf.1 c6
    refine zo_aload_n d_O_holderOfNext_84 rfl rfl ?_
    exact zo_aretO (k := 7) (o := o2) (C := "SpooledPost$Letter") rfl ho2 d_O_holderOfNext_85 hf
  · replace hf := hf.2 c6
    refine zo_aload_n d_O_holderOfNext_16 rfl rfl ?_
    refine gf_O_row wd_219 d_O_holderOfNext_17 ?_
    refine zo_iload d_O_holderOfNext_20 rfl ?_
    obtain ⟨hp_q1, q1, hr_q1, hv_q1, hf⟩ := hf
    refine zo_aald2 (C := "SpooledPost$Letter") (zin (by decide) (by decide)) rfl rfl rfl hp_q1 hr_q1 d_O_holderOfNext_22 ?_
    refine gf_L_sealed wd_205 hv_q1 d_O_holderOfNext_23 ?_
    refine zo_if_eq (tgt := 43) d_O_holderOfNext_26 (by decide) (fun c5 => ?_) (fun c5 => ?_)
    · replace hf := hf.1 c5
      refine zo_null d_O_holderOfNext_43 ?_
      exact hf
    · replace hf := hf.2 c5
      refine zo_aload_n d_O_holderOfNext_29 rfl rfl ?_
      refine gf_O_row wd_219 d_O_holderOfNext_30 ?_
      refine zo_iload d_O_holderOfNext_33 rfl ?_
      obtain ⟨hp_q2, q2, hr_q2, hv_q2, hf⟩ := hf
      refine zo_aald2 (C := "SpooledPost$Letter") (zin (by decide) (by decide)) rfl rfl rfl hp_q2 hr_q2 d_O_holderOfNext_35 ?_
      refine zo_iload_n d_O_holderOfNext_36 rfl rfl ?_
      refine zo_callVR (d := d) (N := m_L_firstDue) (as := [vI x1]) (n := 1) (zin (by decide) hv_q2) rfl rfl cv_L_firstDue wd_535 rfl rfl (Nat.le_of_ble_eq_true rfl) d_O_holderOfNext_37 hf (fun r4 g3 ho_r4 hf => ?_)
      refine zo_goto (tgt := 44) d_O_holderOfNext_40 (by decide) ?_
      exact hf
set_option maxRecDepth 100000 in
set_option maxHeartbeats 4000000 in
theorem w_O_holderOfNext_44 {d : Nat} (x1 : Int32) (o2 : Option Nat) (o3 : Option Nat) (x4 : Int32) (os0 : Option Nat) (ho2 : ∀ i, o2 = some i → i < 6) (ho3 : ∀ i, o3 = some i → i < 24) (hos0 : ∀ i, os0 = some i → i < 24) {h : ZH} {Q : Option Nat → ZH → Prop}
    (hf : ((os0 = none → EvAt (d + 1) m_O_holderOfNext 78 [some (vQ (some (5, 0))), some (vI x1), some (vQ (o2.map (Prod.mk 7))), some (vQ (o3.map (Prod.mk 9))), some (vI x4), none] [] h (zQR 7 Q)) ∧ (∀ n1, os0 = some n1 → n1 < 24 → ((o3 = none → EvAt (d + 1) m_O_holderOfNext 67 [some (vQ (some (5, 0))), some (vI x1), none, none, some (vI x4), some (vQ (some (9, n1)))] [] h (zQR 7 Q)) ∧ (∀ n2, o3 = some n2 → n2 < 24 → (((zi h 9 n2 3) ≤ (zi h 9 n1 3) → EvAt (d + 1) m_O_holderOfNext 78 [some (vQ (some (5, 0))), some (vI x1), some (vQ (o2.map (Prod.mk 7))), some (vQ (some (9, n2))), some (vI x4), none] [] h (zQR 7 Q)) ∧ (¬ (zi h 9 n2 3) ≤ (zi h 9 n1 3) → EvAt (d + 1) m_O_holderOfNext 67 [some (vQ (some (5, 0))), some (vI x1), none, none, some (vI x4), some (vQ (some (9, n1)))] [] h (zQR 7 Q)))))))) :
    EvAt (d + 1) m_O_holderOfNext 44 [some (vQ (some (5, 0))), some (vI x1), some (vQ (o2.map (Prod.mk 7))), some (vQ (o3.map (Prod.mk 9))), some (vI x4), none] [vQ (os0.map (Prod.mk 9))] h (zQR 7 Q) := by
  refine zo_astore d_O_holderOfNext_44 (Nat.le_of_ble_eq_true rfl) rfl ?_
  refine zo_aload d_O_holderOfNext_46 rfl ?_
  refine zo_ifnullK (tgt := 78) d_O_holderOfNext_48 (by decide) (fun z => ?_) (fun n1 z => ?_)
  · subst z
    replace hf := hf.1 rfl
    refine zo_drop 5 ?_
    exact hf
  · subst z
    have hv_n1 : n1 < 24 := hos0 n1 rfl
    replace hf := hf.2 n1 rfl hv_n1
    refine zo_aload_n d_O_holderOfNext_51 rfl rfl ?_
    refine zo_ifnullK (tgt := 67) d_O_holderOfNext_52 (by decide) (fun z => ?_) (fun n2 z => ?_)
    · subst z
      replace hf := hf.1 rfl
      refine zo_drop 2 ?_
      refine zo_drop 3 ?_
      exact hf
    · subst z
      have hv_n2 : n2 < 24 := ho3 n2 rfl
      replace hf := hf.2 n2 rfl hv_n2
      refine zo_aload d_O_holderOfNext_55 rfl ?_
      refine gf_C_due wd_182 hv_n1 d_O_holderOfNext_57 ?_
      refine zo_aload_n d_O_holderOfNext_60 rfl rfl ?_
      refine gf_C_due wd_182 hv_n2 d_O_holderOfNext_61 ?_
      refine zo_icmp_ge (tgt := 78) d_O_holderOfNext_64 (by decide) (fun c3 => ?_) (fun c3 => ?_)
      · replace hf := hf.1 c3
        refine zo_drop 5 ?_
        exact hf
      · replace hf := hf.2 c3
        refine zo_drop 2 ?_
        refine zo_drop 3 ?_
        exact hf
set_option maxRecDepth 100000 in
set_option maxHeartbeats 4000000 in
theorem w_O_holderOfNext_67 {d : Nat} (x1 : Int32) (x4 : Int32) (i5 : Nat) (hi5 : i5 < 24) {h : ZH} {Q : Option Nat → ZH → Prop}
    (hf : (vp_in x4 6 ∧ ∃ q1, zr h 6 0 x4.toNatClampNeg = some q1 ∧ q1 < 6 ∧ EvAt (d + 1) m_O_holderOfNext 78 [some (vQ (some (5, 0))), some (vI x1), some (vQ (some (7, q1))), some (vQ (some (9, i5))), some (vI x4), none] [] h (zQR 7 Q))) :
    EvAt (d + 1) m_O_holderOfNext 67 [some (vQ (some (5, 0))), some (vI x1), none, none, some (vI x4), some (vQ (some (9, i5)))] [] h (zQR 7 Q) := by
  refine zo_aload_n d_O_holderOfNext_67 rfl rfl ?_
  refine gf_O_row wd_219 d_O_holderOfNext_68 ?_
  refine zo_iload d_O_holderOfNext_71 rfl ?_
  obtain ⟨hp_q1, q1, hr_q1, hv_q1, hf⟩ := hf
  refine zo_aald2 (C := "SpooledPost$Letter") (zin (by decide) (by decide)) rfl rfl rfl hp_q1 hr_q1 d_O_holderOfNext_73 ?_
  refine zo_astore_n d_O_holderOfNext_74 rfl (Nat.le_of_ble_eq_true rfl) rfl ?_
  refine zo_aload d_O_holderOfNext_75 rfl ?_
  refine zo_astore_n d_O_holderOfNext_77 rfl (Nat.le_of_ble_eq_true rfl) rfl ?_
  refine zo_drop 5 ?_
  exact hf
set_option maxRecDepth 100000 in
set_option maxHeartbeats 4000000 in
theorem w_O_holderOfNext_78 {d : Nat} (x1 : Int32) (o2 : Option Nat) (o3 : Option Nat) (x4 : Int32) (ho2 : ∀ i, o2 = some i → i < 6) (ho3 : ∀ i, o3 = some i → i < 24) {h : ZH} {Q : Option Nat → ZH → Prop}
    (hf : EvAt (d + 1) m_O_holderOfNext 7 [some (vQ (some (5, 0))), some (vI x1), some (vQ (o2.map (Prod.mk 7))), some (vQ (o3.map (Prod.mk 9))), some (vI (x4 + 1)), none] [] h (zQR 7 Q)) :
    EvAt (d + 1) m_O_holderOfNext 78 [some (vQ (some (5, 0))), some (vI x1), some (vQ (o2.map (Prod.mk 7))), some (vQ (o3.map (Prod.mk 9))), some (vI x4), none] [] h (zQR 7 Q) := by
  refine zo_iinc (v := x4 + 1) d_O_holderOfNext_78 rfl rfl (Nat.le_of_ble_eq_true rfl) rfl ?_
  refine zo_goto (tgt := 7) d_O_holderOfNext_81 (by decide) ?_
  exact hf
set_option maxRecDepth 100000 in
set_option maxHeartbeats 4000000 in
theorem w_O_sealedNumber_0 {d : Nat} (x1 : Int32)  {h : ZH} {Q : Int32 → ZH → Prop}
    (hf : EvAt d m_O_sealedNumber 4 [some (vQ (some (5, 0))), some (vI x1), some (vI (0 : Int32)), some (vI (0 : Int32))] [] h (zQI Q)) :
    EvAt d m_O_sealedNumber 0 [some (vQ (some (5, 0))), some (vI x1), none, none] [] h (zQI Q) := by
  refine zo_iconst (v := 0) d_O_sealedNumber_0 (by decide) ?_
  refine zo_istore_n d_O_sealedNumber_1 rfl (Nat.le_of_ble_eq_true rfl) rfl ?_
  refine zo_iconst (v := 0) d_O_sealedNumber_2 (by decide) ?_
  refine zo_istore_n d_O_sealedNumber_3 rfl (Nat.le_of_ble_eq_true rfl) rfl ?_
  exact hf
theorem e_O_sealedNumber {d : Nat} (x1 : Int32)  {h : ZH} {Q : Int32 → ZH → Prop}
    (hf : EvAt d m_O_sealedNumber 4 [some (vQ (some (5, 0))), some (vI x1), some (vI (0 : Int32)), some (vI (0 : Int32))] [] h (zQI Q)) :
    EvI d m_O_sealedNumber [vQ (some (5, 0)), vI x1] h Q := zo_entry (by decide) (Nat.le_of_ble_eq_true rfl) (w_O_sealedNumber_0 x1  hf)
set_option maxRecDepth 100000 in
set_option maxHeartbeats 4000000 in
theorem w_O_sealedNumber_4 {d : Nat} (x1 : Int32) (x2 : Int32) (x3 : Int32)  {h : ZH} {Q : Int32 → ZH → Prop}
    (hf : (((zi h 5 0 1) ≤ x3 → Q (-1 : Int32) h) ∧ (¬ (zi h 5 0 1) ≤ x3 → (vp_in x3 6 ∧ ∃ q1, zr h 6 0 x3.toNatClampNeg = some q1 ∧ q1 < 6 ∧ (((zi h 7 q1 5) = 0 → EvAt d m_O_sealedNumber 42 [some (vQ (some (5, 0))), some (vI x1), some (vI x2), some (vI x3)] [] h (zQI Q)) ∧ (¬ (zi h 7 q1 5) = 0 → ((¬ x2 = x1 → EvAt d m_O_sealedNumber 42 [some (vQ (some (5, 0))), some (vI x1), some (vI (x2 + 1)), some (vI x3)] [] h (zQI Q)) ∧ (x2 = x1 → (vp_in x3 6 ∧ ∃ q2, zr h 6 0 x3.toNatClampNeg = some q2 ∧ q2 < 6 ∧ Q (zi h 7 q2 4) h))))))))) :
    EvAt d m_O_sealedNumber 4 [some (vQ (some (5, 0))), some (vI x1), some (vI x2), some (vI x3)] [] h (zQI Q) := by
  refine zo_iload_n d_O_sealedNumber_4 rfl rfl ?_
  refine zo_aload_n d_O_sealedNumber_5 rfl rfl ?_
  refine gf_O_count wd_220 d_O_sealedNumber_6 ?_
  refine zo_icmp_ge (tgt := 48) d_O_sealedNumber_9 (by decide) (fun c5 => ?_) (fun c5 => ?_)
  · replace hf := hf.1 c5
    refine zo_iconst (v := (-1)) d_O_sealedNumber_48 (by decide) ?_
    exact zo_iretI rfl d_O_sealedNumber_49 hf
  · replace hf := hf.2 c5
    refine zo_aload_n d_O_sealedNumber_12 rfl rfl ?_
    refine gf_O_row wd_219 d_O_sealedNumber_13 ?_
    refine zo_iload_n d_O_sealedNumber_16 rfl rfl ?_
    obtain ⟨hp_q1, q1, hr_q1, hv_q1, hf⟩ := hf
    refine zo_aald2 (C := "SpooledPost$Letter") (zin (by decide) (by decide)) rfl rfl rfl hp_q1 hr_q1 d_O_sealedNumber_17 ?_
    refine gf_L_sealed wd_205 hv_q1 d_O_sealedNumber_18 ?_
    refine zo_if_eq (tgt := 42) d_O_sealedNumber_21 (by decide) (fun c4 => ?_) (fun c4 => ?_)
    · replace hf := hf.1 c4
      exact hf
    · replace hf := hf.2 c4
      refine zo_iload_n d_O_sealedNumber_24 rfl rfl ?_
      refine zo_iload_n d_O_sealedNumber_25 rfl rfl ?_
      refine zo_icmp_ne (tgt := 39) d_O_sealedNumber_26 (by decide) (fun c3 => ?_) (fun c3 => ?_)
      · replace hf := hf.1 c3
        refine zo_iinc (v := x2 + 1) d_O_sealedNumber_39 rfl rfl (Nat.le_of_ble_eq_true rfl) rfl ?_
        exact hf
      · replace hf := hf.2 c3
        refine zo_aload_n d_O_sealedNumber_29 rfl rfl ?_
        refine gf_O_row wd_219 d_O_sealedNumber_30 ?_
        refine zo_iload_n d_O_sealedNumber_33 rfl rfl ?_
        obtain ⟨hp_q2, q2, hr_q2, hv_q2, hf⟩ := hf
        refine zo_aald2 (C := "SpooledPost$Letter") (zin (by decide) (by decide)) rfl rfl rfl hp_q2 hr_q2 d_O_sealedNumber_34 ?_
        refine gf_L_number wd_203 hv_q2 d_O_sealedNumber_35 ?_
        exact zo_iretI rfl d_O_sealedNumber_38 hf
set_option maxRecDepth 100000 in
set_option maxHeartbeats 4000000 in
theorem w_O_sealedNumber_42 {d : Nat} (x1 : Int32) (x2 : Int32) (x3 : Int32)  {h : ZH} {Q : Int32 → ZH → Prop}
    (hf : EvAt d m_O_sealedNumber 4 [some (vQ (some (5, 0))), some (vI x1), some (vI x2), some (vI (x3 + 1))] [] h (zQI Q)) :
    EvAt d m_O_sealedNumber 42 [some (vQ (some (5, 0))), some (vI x1), some (vI x2), some (vI x3)] [] h (zQI Q) := by
  refine zo_iinc (v := x3 + 1) d_O_sealedNumber_42 rfl rfl (Nat.le_of_ble_eq_true rfl) rfl ?_
  refine zo_goto (tgt := 4) d_O_sealedNumber_45 (by decide) ?_
  exact hf
set_option maxRecDepth 100000 in
set_option maxHeartbeats 4000000 in
theorem w_O_find_0 {d : Nat} (x1 : Int32)  {h : ZH} {Q : Option Nat → ZH → Prop}
    (hf : EvAt d m_O_find 2 [some (vQ (some (5, 0))), some (vI x1), some (vI (0 : Int32))] [] h (zQR 7 Q)) :
    EvAt d m_O_find 0 [some (vQ (some (5, 0))), some (vI x1), none] [] h (zQR 7 Q) := by
  refine zo_iconst (v := 0) d_O_find_0 (by decide) ?_
  refine zo_istore_n d_O_find_1 rfl (Nat.le_of_ble_eq_true rfl) rfl ?_
  exact hf
theorem e_O_find {d : Nat} (x1 : Int32)  {h : ZH} {Q : Option Nat → ZH → Prop}
    (hf : EvAt d m_O_find 2 [some (vQ (some (5, 0))), some (vI x1), some (vI (0 : Int32))] [] h (zQR 7 Q)) :
    EvR 7 d m_O_find [vQ (some (5, 0)), vI x1] h Q := zo_entry (by decide) (Nat.le_of_ble_eq_true rfl) (w_O_find_0 x1  hf)
set_option maxRecDepth 100000 in
set_option maxHeartbeats 4000000 in
theorem w_O_find_2 {d : Nat} (x1 : Int32) (x2 : Int32)  {h : ZH} {Q : Option Nat → ZH → Prop}
    (hf : (((zi h 5 0 1) ≤ x2 → Q none h) ∧ (¬ (zi h 5 0 1) ≤ x2 → (vp_in x2 6 ∧ ∃ q1, zr h 6 0 x2.toNatClampNeg = some q1 ∧ q1 < 6 ∧ (((zi h 7 q1 5) = 0 → EvAt d m_O_find 42 [some (vQ (some (5, 0))), some (vI x1), some (vI x2)] [] h (zQR 7 Q)) ∧ (¬ (zi h 7 q1 5) = 0 → (vp_in x2 6 ∧ ∃ q2, zr h 6 0 x2.toNatClampNeg = some q2 ∧ q2 < 6 ∧ ((¬ (zi h 7 q2 4) = x1 → EvAt d m_O_find 42 [some (vQ (some (5, 0))), some (vI x1), some (vI x2)] [] h (zQR 7 Q)) ∧ ((zi h 7 q2 4) = x1 → (vp_in x2 6 ∧ ∃ q3, zr h 6 0 x2.toNatClampNeg = some q3 ∧ q3 < 6 ∧ Q (some q3) h)))))))))) :
    EvAt d m_O_find 2 [some (vQ (some (5, 0))), some (vI x1), some (vI x2)] [] h (zQR 7 Q) := by
  refine zo_iload_n d_O_find_2 rfl rfl ?_
  refine zo_aload_n d_O_find_3 rfl rfl ?_
  refine gf_O_count wd_220 d_O_find_4 ?_
  refine zo_icmp_ge (tgt := 48) d_O_find_7 (by decide) (fun c6 => ?_) (fun c6 => ?_)
  · replace hf := hf.1 c6
    refine zo_null d_O_find_48 ?_
    exact zo_aretO (k := 7) (o := none) (C := "SpooledPost$Letter") rfl (fun _ z => by cases z) d_O_find_49 hf
  · replace hf := hf.2 c6
    refine zo_aload_n d_O_find_10 rfl rfl ?_
    refine gf_O_row wd_219 d_O_find_11 ?_
    refine zo_iload_n d_O_find_14 rfl rfl ?_
    obtain ⟨hp_q1, q1, hr_q1, hv_q1, hf⟩ := hf
    refine zo_aald2 (C := "SpooledPost$Letter") (zin (by decide) (by decide)) rfl rfl rfl hp_q1 hr_q1 d_O_find_15 ?_
    refine gf_L_sealed wd_205 hv_q1 d_O_find_16 ?_
    refine zo_if_eq (tgt := 42) d_O_find_19 (by decide) (fun c5 => ?_) (fun c5 => ?_)
    · replace hf := hf.1 c5
      exact hf
    · replace hf := hf.2 c5
      refine zo_aload_n d_O_find_22 rfl rfl ?_
      refine gf_O_row wd_219 d_O_find_23 ?_
      refine zo_iload_n d_O_find_26 rfl rfl ?_
      obtain ⟨hp_q2, q2, hr_q2, hv_q2, hf⟩ := hf
      refine zo_aald2 (C := "SpooledPost$Letter") (zin (by decide) (by decide)) rfl rfl rfl hp_q2 hr_q2 d_O_find_27 ?_
      refine gf_L_number wd_203 hv_q2 d_O_find_28 ?_
      refine zo_iload_n d_O_find_31 rfl rfl ?_
      refine zo_icmp_ne (tgt := 42) d_O_find_32 (by decide) (fun c4 => ?_) (fun c4 => ?_)
      · replace hf := hf.1 c4
        exact hf
      · replace hf := hf.2 c4
        refine zo_aload_n d_O_find_35 rfl rfl ?_
        refine gf_O_row wd_219 d_O_find_36 ?_
        refine zo_iload_n d_O_find_39 rfl rfl ?_
        obtain ⟨hp_q3, q3, hr_q3, hv_q3, hf⟩ := hf
        refine zo_aald2 (C := "SpooledPost$Letter") (zin (by decide) (by decide)) rfl rfl rfl hp_q3 hr_q3 d_O_find_40 ?_
        exact zo_aretO (k := 7) (o := some q3) (C := "SpooledPost$Letter") rfl (fun _ z => by cases z; exact hv_q3) d_O_find_41 hf
set_option maxRecDepth 100000 in
set_option maxHeartbeats 4000000 in
theorem w_O_find_42 {d : Nat} (x1 : Int32) (x2 : Int32)  {h : ZH} {Q : Option Nat → ZH → Prop}
    (hf : EvAt d m_O_find 2 [some (vQ (some (5, 0))), some (vI x1), some (vI (x2 + 1))] [] h (zQR 7 Q)) :
    EvAt d m_O_find 42 [some (vQ (some (5, 0))), some (vI x1), some (vI x2)] [] h (zQR 7 Q) := by
  refine zo_iinc (v := x2 + 1) d_O_find_42 rfl rfl (Nat.le_of_ble_eq_true rfl) rfl ?_
  refine zo_goto (tgt := 2) d_O_find_45 (by decide) ?_
  exact hf
