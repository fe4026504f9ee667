set_option maxRecDepth 100000 in
set_option maxHeartbeats 4000000 in
theorem w_R_add_0 {d : Nat} (i0 : Nat) (x1 : Int32) (hi0 : i0 < 43) {h : ZH} {Q : ZH → Prop}
    (hf : (((nI (zLen 2 i0)) ≤ (zi h 1 i0 1) → Q h) ∧ (¬ (nI (zLen 2 i0)) ≤ (zi h 1 i0 1) → (vp_in (zi h 1 i0 1) (zLen 2 i0) ∧ Q (zw (zw h 2 i0 (zi h 1 i0 1).toNatClampNeg (vp_nar .char x1)) 1 i0 1 ((zi (zw h 2 i0 (zi h 1 i0 1).toNatClampNeg (vp_nar .char x1)) 1 i0 1) + (1 : Int32))))))) :
    EvAt d m_R_add 0 [some (vQ (some (1, i0))), some (vI x1)] [] h (zQV Q) := by
  refine zo_aload_n d_R_add_0 rfl rfl ?_
  refine gf_R_length wd_98 hi0 d_R_add_1 ?_
  refine zo_aload_n d_R_add_4 rfl rfl ?_
  refine gf_R_chars wd_97 hi0 d_R_add_5 ?_
  refine zo_alen (ty := .char) (zin (by decide) hi0) rfl rfl d_R_add_8 ?_
  refine zo_icmp_ge (tgt := 32) d_R_add_9 (by decide) (fun c1 => ?_) (fun c1 => ?_)
  · replace hf := hf.1 c1
    exact zo_vretV rfl d_R_add_32 hf
  · replace hf := hf.2 c1
    refine zo_aload_n d_R_add_12 rfl rfl ?_
    refine gf_R_chars wd_97 hi0 d_R_add_13 ?_
    refine zo_aload_n d_R_add_16 rfl rfl ?_
    refine gf_R_length wd_98 hi0 d_R_add_17 ?_
    refine zo_iload_n d_R_add_20 rfl rfl ?_
    obtain ⟨hp, hf⟩ := hf
    refine zo_cast (zin (by decide) hi0) rfl rfl rfl hp d_R_add_21 ?_
    refine zo_aload_n d_R_add_22 rfl rfl ?_
    refine zo_dup rfl d_R_add_23 ?_
    refine gf_R_length wd_98 hi0 d_R_add_24 ?_
    refine zo_iconst (v := 1) d_R_add_27 (by decide) ?_
    refine zo_iadd d_R_add_28 ?_
    refine pf_R_length wd_98 hi0 d_R_add_29 ?_
    exact zo_vretV rfl d_R_add_32 hf
theorem e_R_add {d : Nat} (i0 : Nat) (x1 : Int32) (hi0 : i0 < 43) {h : ZH} {Q : ZH → Prop}
    (hf : (((nI (zLen 2 i0)) ≤ (zi h 1 i0 1) → Q h) ∧ (¬ (nI (zLen 2 i0)) ≤ (zi h 1 i0 1) → (vp_in (zi h 1 i0 1) (zLen 2 i0) ∧ Q (zw (zw h 2 i0 (zi h 1 i0 1).toNatClampNeg (vp_nar .char x1)) 1 i0 1 ((zi (zw h 2 i0 (zi h 1 i0 1).toNatClampNeg (vp_nar .char x1)) 1 i0 1) + (1 : Int32))))))) :
    EvV d m_R_add [vQ (some (1, i0)), vI x1] h Q := zo_entry (by decide) (Nat.le_of_ble_eq_true rfl) (w_R_add_0 i0 x1 hi0 hf)
set_option maxRecDepth 100000 in
set_option maxHeartbeats 4000000 in
theorem w_R_at_0 {d : Nat} (i0 : Nat) (x1 : Int32) (hi0 : i0 < 43) {h : ZH} {Q : Int32 → ZH → Prop}
    (hf : ((x1 < 0 → Q (0 : Int32) h) ∧ (¬ x1 < 0 → (((zi h 1 i0 1) ≤ x1 → Q (0 : Int32) h) ∧ (¬ (zi h 1 i0 1) ≤ x1 → (vp_in x1 (zLen 2 i0) ∧ (narrow .char (.int (zi h 2 i0 x1.toNatClampNeg)) = .int (zi h 2 i0 x1.toNatClampNeg) ∧ Q (zi h 2 i0 x1.toNatClampNeg) h))))))) :
    EvAt d m_R_at 0 [some (vQ (some (1, i0))), some (vI x1)] [] h (zQI Q) := by
  refine zo_iload_n d_R_at_0 rfl rfl ?_
  refine zo_if_lt (tgt := 21) d_R_at_1 (by decide) (fun c2 => ?_) (fun c2 => ?_)
  · replace hf := hf.1 c2
    refine zo_iconst (v := 0) d_R_at_21 (by decide) ?_
    exact zo_zretI (ty := .char) rfl rfl d_R_at_22 hf
  · replace hf := hf.2 c2
    refine zo_iload_n d_R_at_4 rfl rfl ?_
    refine zo_aload_n d_R_at_5 rfl rfl ?_
    refine gf_R_length wd_98 hi0 d_R_at_6 ?_
    refine zo_icmp_ge (tgt := 21) d_R_at_9 (by decide) (fun c1 => ?_) (fun c1 => ?_)
    · replace hf := hf.1 c1
      refine zo_iconst (v := 0) d_R_at_21 (by decide) ?_
      exact zo_zretI (ty := .char) rfl rfl d_R_at_22 hf
    · replace hf := hf.2 c1
      refine zo_aload_n d_R_at_12 rfl rfl ?_
      refine gf_R_chars wd_97 hi0 d_R_at_13 ?_
      refine zo_iload_n d_R_at_16 rfl rfl ?_
      obtain ⟨hp, hf⟩ := hf
      refine zo_cald (zin (by decide) hi0) rfl rfl rfl hp d_R_at_17 ?_
      refine zo_goto (tgt := 22) d_R_at_18 (by decide) ?_
      exact zo_zretI (ty := .char) rfl hf.1 d_R_at_22 hf.2
theorem e_R_at {d : Nat} (i0 : Nat) (x1 : Int32) (hi0 : i0 < 43) {h : ZH} {Q : Int32 → ZH → Prop}
    (hf : ((x1 < 0 → Q (0 : Int32) h) ∧ (¬ x1 < 0 → (((zi h 1 i0 1) ≤ x1 → Q (0 : Int32) h) ∧ (¬ (zi h 1 i0 1) ≤ x1 → (vp_in x1 (zLen 2 i0) ∧ (narrow .char (.int (zi h 2 i0 x1.toNatClampNeg)) = .int (zi h 2 i0 x1.toNatClampNeg) ∧ Q (zi h 2 i0 x1.toNatClampNeg) h))))))) :
    EvI d m_R_at [vQ (some (1, i0)), vI x1] h Q := zo_entry (by decide) (Nat.le_of_ble_eq_true rfl) (w_R_at_0 i0 x1 hi0 hf)
set_option maxRecDepth 100000 in
set_option maxHeartbeats 4000000 in
theorem w_R_clear_0 {d : Nat} (i0 : Nat) (hi0 : i0 < 43) {h : ZH} {Q : ZH → Prop}
    (hf : Q (zw h 1 i0 1 (0 : Int32))) :
    EvAt d m_R_clear 0 [some (vQ (some (1, i0)))] [] h (zQV Q) := by
  refine zo_aload_n d_R_clear_0 rfl rfl ?_
  refine zo_iconst (v := 0) d_R_clear_1 (by decide) ?_
  refine pf_R_length wd_98 hi0 d_R_clear_2 ?_
  exact zo_vretV rfl d_R_clear_5 hf
theorem e_R_clear {d : Nat} (i0 : Nat) (hi0 : i0 < 43) {h : ZH} {Q : ZH → Prop}
    (hf : Q (zw h 1 i0 1 (0 : Int32))) :
    EvV d m_R_clear [vQ (some (1, i0))] h Q := zo_entry (by decide) (Nat.le_of_ble_eq_true rfl) (w_R_clear_0 i0 hi0 hf)
set_option maxRecDepth 100000 in
set_option maxHeartbeats 4000000 in
theorem w_R_addRow_0 {d : Nat} (i0 : Nat) (i1 : Nat) (hi0 : i0 < 43) (hi1 : i1 < 43) {h : ZH} {Q : ZH → Prop}
    (hf : ((¬ (0 : Int32) < 0 ∧ ¬ (zi h 1 i0 1) < 0 ∧ ¬ (if ((nI (zLen 2 i0)) - (zi h 1 i0 1)) < (zi h 1 i1 1) then ((nI (zLen 2 i0)) - (zi h 1 i0 1)) else (zi h 1 i1 1)) < 0 ∧ (0 : Int32).toNatClampNeg + (if ((nI (zLen 2 i0)) - (zi h 1 i0 1)) < (zi h 1 i1 1) then ((nI (zLen 2 i0)) - (zi h 1 i0 1)) else (zi h 1 i1 1)).toNatClampNeg ≤ zLen 2 i1 ∧ (zi h 1 i0 1).toNatClampNeg + (if ((nI (zLen 2 i0)) - (zi h 1 i0 1)) < (zi h 1 i1 1) then ((nI (zLen 2 i0)) - (zi h 1 i0 1)) else (zi h 1 i1 1)).toNatClampNeg ≤ zLen 2 i0 ∧ ∀ i, i < (if ((nI (zLen 2 i0)) - (zi h 1 i0 1)) < (zi h 1 i1 1) then ((nI (zLen 2 i0)) - (zi h 1 i0 1)) else (zi h 1 i1 1)).toNatClampNeg → fits .char (.int (zi h 2 i1 ((0 : Int32).toNatClampNeg + i))) = true) ∧ Q (zw (zcp h 2 i1 i0 (0 : Int32).toNatClampNeg (zi h 1 i0 1).toNatClampNeg (if ((nI (zLen 2 i0)) - (zi h 1 i0 1)) < (zi h 1 i1 1) then ((nI (zLen 2 i0)) - (zi h 1 i0 1)) else (zi h 1 i1 1)).toNatClampNeg) 1 i0 1 ((zi (zcp h 2 i1 i0 (0 : Int32).toNatClampNeg (zi h 1 i0 1).toNatClampNeg (if ((nI (zLen 2 i0)) - (zi h 1 i0 1)) < (zi h 1 i1 1) then ((nI (zLen 2 i0)) - (zi h 1 i0 1)) else (zi h 1 i1 1)).toNatClampNeg) 1 i0 1) + (if ((nI (zLen 2 i0)) - (zi h 1 i0 1)) < (zi h 1 i1 1) then ((nI (zLen 2 i0)) - (zi h 1 i0 1)) else (zi h 1 i1 1)))))) :
    EvAt (d + 1) m_R_addRow 0 [some (vQ (some (1, i0))), some (vQ (some (1, i1))), none] [] h (zQV Q) := by
  refine zo_aload_n d_R_addRow_0 rfl rfl ?_
  refine gf_R_length wd_98 hi1 d_R_addRow_1 ?_
  refine zo_aload_n d_R_addRow_4 rfl rfl ?_
  refine gf_R_chars wd_97 hi0 d_R_addRow_5 ?_
  refine zo_alen (ty := .char) (zin (by decide) hi0) rfl rfl d_R_addRow_8 ?_
  refine zo_aload_n d_R_addRow_9 rfl rfl ?_
  refine gf_R_length wd_98 hi0 d_R_addRow_10 ?_
  refine zo_isub d_R_addRow_13 ?_
  refine zc_min wd_340 (Nat.le_of_ble_eq_true rfl) d_R_addRow_14 ?_
  refine zo_istore_n d_R_addRow_17 rfl (Nat.le_of_ble_eq_true rfl) rfl ?_
  refine zo_aload_n d_R_addRow_18 rfl rfl ?_
  refine gf_R_chars wd_97 hi1 d_R_addRow_19 ?_
  refine zo_iconst (v := 0) d_R_addRow_22 (by decide) ?_
  refine zo_aload_n d_R_addRow_23 rfl rfl ?_
  refine gf_R_chars wd_97 hi0 d_R_addRow_24 ?_
  refine zo_aload_n d_R_addRow_27 rfl rfl ?_
  refine gf_R_length wd_98 hi0 d_R_addRow_28 ?_
  refine zo_iload_n d_R_addRow_31 rfl rfl ?_
  obtain ⟨hp, hf⟩ := hf
  refine zc_copy wd_343 hi1 hi0 hp (Nat.le_of_ble_eq_true rfl) d_R_addRow_32 ?_
  refine zo_aload_n d_R_addRow_35 rfl rfl ?_
  refine zo_dup rfl d_R_addRow_36 ?_
  refine gf_R_length wd_98 hi0 d_R_addRow_37 ?_
  refine zo_iload_n d_R_addRow_40 rfl rfl ?_
  refine zo_iadd d_R_addRow_41 ?_
  refine pf_R_length wd_98 hi0 d_R_addRow_42 ?_
  exact zo_vretV rfl d_R_addRow_45 hf
theorem e_R_addRow {d : Nat} (i0 : Nat) (i1 : Nat) (hi0 : i0 < 43) (hi1 : i1 < 43) {h : ZH} {Q : ZH → Prop}
    (hf : ((¬ (0 : Int32) < 0 ∧ ¬ (zi h 1 i0 1) < 0 ∧ ¬ (if ((nI (zLen 2 i0)) - (zi h 1 i0 1)) < (zi h 1 i1 1) then ((nI (zLen 2 i0)) - (zi h 1 i0 1)) else (zi h 1 i1 1)) < 0 ∧ (0 : Int32).toNatClampNeg + (if ((nI (zLen 2 i0)) - (zi h 1 i0 1)) < (zi h 1 i1 1) then ((nI (zLen 2 i0)) - (zi h 1 i0 1)) else (zi h 1 i1 1)).toNatClampNeg ≤ zLen 2 i1 ∧ (zi h 1 i0 1).toNatClampNeg + (if ((nI (zLen 2 i0)) - (zi h 1 i0 1)) < (zi h 1 i1 1) then ((nI (zLen 2 i0)) - (zi h 1 i0 1)) else (zi h 1 i1 1)).toNatClampNeg ≤ zLen 2 i0 ∧ ∀ i, i < (if ((nI (zLen 2 i0)) - (zi h 1 i0 1)) < (zi h 1 i1 1) then ((nI (zLen 2 i0)) - (zi h 1 i0 1)) else (zi h 1 i1 1)).toNatClampNeg → fits .char (.int (zi h 2 i1 ((0 : Int32).toNatClampNeg + i))) = true) ∧ Q (zw (zcp h 2 i1 i0 (0 : Int32).toNatClampNeg (zi h 1 i0 1).toNatClampNeg (if ((nI (zLen 2 i0)) - (zi h 1 i0 1)) < (zi h 1 i1 1) then ((nI (zLen 2 i0)) - (zi h 1 i0 1)) else (zi h 1 i1 1)).toNatClampNeg) 1 i0 1 ((zi (zcp h 2 i1 i0 (0 : Int32).toNatClampNeg (zi h 1 i0 1).toNatClampNeg (if ((nI (zLen 2 i0)) - (zi h 1 i0 1)) < (zi h 1 i1 1) then ((nI (zLen 2 i0)) - (zi h 1 i0 1)) else (zi h 1 i1 1)).toNatClampNeg) 1 i0 1) + (if ((nI (zLen 2 i0)) - (zi h 1 i0 1)) < (zi h 1 i1 1) then ((nI (zLen 2 i0)) - (zi h 1 i0 1)) else (zi h 1 i1 1)))))) :
    EvV (d + 1) m_R_addRow [vQ (some (1, i0)), vQ (some (1, i1))] h Q := zo_entry (by decide) (Nat.le_of_ble_eq_true rfl) (w_R_addRow_0 i0 i1 hi0 hi1 hf)
set_option maxRecDepth 100000 in
set_option maxHeartbeats 4000000 in
theorem w_R_addPiece_0 {d : Nat} (i0 : Nat) (i1 : Nat) (x2 : Int32) (x3 : Int32) (hi0 : i0 < 43) (hi1 : i1 < 43) {h : ZH} {Q : ZH → Prop}
    (hf : EvAt (d + 1) m_R_addPiece 3 [some (vQ (some (1, i0))), some (vQ (some (1, i1))), none, some (vI x3), some (vI x2)] [] h (zQV Q)) :
    EvAt (d + 1) m_R_addPiece 0 [some (vQ (some (1, i0))), some (vQ (some (1, i1))), some (vI x2), some (vI x3), none] [] h (zQV Q) := by
  refine zo_iload_n d_R_addPiece_0 rfl rfl ?_
  refine zo_istore d_R_addPiece_1 (Nat.le_of_ble_eq_true rfl) rfl ?_
  refine zo_drop 2 ?_
  exact hf
theorem e_R_addPiece {d : Nat} (i0 : Nat) (i1 : Nat) (x2 : Int32) (x3 : Int32) (hi0 : i0 < 43) (hi1 : i1 < 43) {h : ZH} {Q : ZH → Prop}
    (hf : EvAt (d + 1) m_R_addPiece 3 [some (vQ (some (1, i0))), some (vQ (some (1, i1))), none, some (vI x3), some (vI x2)] [] h (zQV Q)) :
    EvV (d + 1) m_R_addPiece [vQ (some (1, i0)), vQ (some (1, i1)), vI x2, vI x3] h Q := zo_entry (by decide) (Nat.le_of_ble_eq_true rfl) (w_R_addPiece_0 i0 i1 x2 x3 hi0 hi1 hf)
set_option maxRecDepth 100000 in
set_option maxHeartbeats 4000000 in
theorem w_R_addPiece_3 {d : Nat} (i0 : Nat) (i1 : Nat) (x3 : Int32) (x4 : Int32) (hi0 : i0 < 43) (hi1 : i1 < 43) {h : ZH} {Q : ZH → Prop}
    (hf : ((x3 ≤ x4 → Q h) ∧ (¬ x3 ≤ x4 → EvI d m_R_at [vQ (some (1, i1)), vI x4] h (fun y2 g1 => EvV d m_R_add [vQ (some (1, i0)), vI y2] g1 (fun g3 => EvAt (d + 1) m_R_addPiece 3 [some (vQ (some (1, i0))), some (vQ (some (1, i1))), none, some (vI x3), some (vI (x4 + 1))] [] g3 (zQV Q)))))) :
    EvAt (d + 1) m_R_addPiece 3 [some (vQ (some (1, i0))), some (vQ (some (1, i1))), none, some (vI x3), some (vI x4)] [] h (zQV Q) := by
  refine zo_iload d_R_addPiece_3 rfl ?_
  refine zo_iload_n d_R_addPiece_5 rfl rfl ?_
  refine zo_icmp_ge (tgt := 25) d_R_addPiece_6 (by decide) (fun c4 => ?_) (fun c4 => ?_)
  · replace hf := hf.1 c4
    exact zo_vretV rfl d_R_addPiece_25 hf
  · replace hf := hf.2 c4
    refine zo_aload_n d_R_addPiece_9 rfl rfl ?_
    refine zo_aload_n d_R_addPiece_10 rfl rfl ?_
    refine zo_iload d_R_addPiece_11 rfl ?_
    refine zo_callVI (d := d) (N := m_R_at) (as := [vI x4]) (n := 1) (zin (by decide) hi1) rfl rfl cv_R_at wd_367 rfl rfl (Nat.le_of_ble_eq_true rfl) d_R_addPiece_13 hf (fun y2 g1 hf => ?_)
    refine zo_callVV (d := d) (N := m_R_add) (as := [vI y2]) (n := 1) (zin (by decide) hi0) rfl rfl cv_R_add wd_368 rfl rfl (Nat.le_of_ble_eq_true rfl) d_R_addPiece_16 hf (fun g3 hf => ?_)
    refine zo_iinc (v := x4 + 1) d_R_addPiece_19 rfl rfl (Nat.le_of_ble_eq_true rfl) rfl ?_
    refine zo_goto (tgt := 3) d_R_addPiece_22 (by decide) ?_
    exact hf
set_option maxRecDepth 100000 in
set_option maxHeartbeats 4000000 in
theorem w_R_matches_0 {d : Nat} (i0 : Nat) (x1 : Int32) (i2 : Nat) (hi0 : i0 < 43) (hi2 : i2 < 14) {h : ZH} {Q : Int32 → ZH → Prop}
    (hf : ((x1 < 0 → Q (0 : Int32) h) ∧ (¬ x1 < 0 → ((x1 ≤ ((zi h 1 i0 1) - (nI (zSL.getD i2 0))) → EvAt (d + 4) m_R_matches 21 [some (vQ (some (1, i0))), some (vI x1), some (vQ (some (22, i2))), some (vI (0 : Int32))] [] h (zQI Q)) ∧ (¬ x1 ≤ ((zi h 1 i0 1) - (nI (zSL.getD i2 0))) → Q (0 : Int32) h))))) :
    EvAt (d + 4) m_R_matches 0 [some (vQ (some (1, i0))), some (vI x1), some (vQ (some (22, i2))), none] [] h (zQI Q) := by
  refine zo_iload_n d_R_matches_0 rfl rfl ?_
  refine zo_if_lt (tgt := 17) d_R_matches_1 (by decide) (fun c2 => ?_) (fun c2 => ?_)
  · replace hf := hf.1 c2
    refine zo_iconst (v := 0) d_R_matches_17 (by decide) ?_
    exact zo_zretI (ty := .boolean) rfl rfl d_R_matches_18 hf
  · replace hf := hf.2 c2
    refine zo_iload_n d_R_matches_4 rfl rfl ?_
    refine zo_aload_n d_R_matches_5 rfl rfl ?_
    refine gf_R_length wd_98 hi0 d_R_matches_6 ?_
    refine zo_aload_n d_R_matches_9 rfl rfl ?_
    refine zc_slen wd_384 hi2 d_R_matches_10 (Nat.le_of_ble_eq_true rfl) ?_
    refine zo_isub d_R_matches_13 ?_
    refine zo_icmp_le (tgt := 19) d_R_matches_14 (by decide) (fun c1 => ?_) (fun c1 => ?_)
    · replace hf := hf.1 c1
      refine zo_iconst (v := 0) d_R_matches_19 (by decide) ?_
      refine zo_istore_n d_R_matches_20 rfl (Nat.le_of_ble_eq_true rfl) rfl ?_
      exact hf
    · replace hf := hf.2 c1
      refine zo_iconst (v := 0) d_R_matches_17 (by decide) ?_
      exact zo_zretI (ty := .boolean) rfl rfl d_R_matches_18 hf
theorem e_R_matches {d : Nat} (i0 : Nat) (x1 : Int32) (i2 : Nat) (hi0 : i0 < 43) (hi2 : i2 < 14) {h : ZH} {Q : Int32 → ZH → Prop}
    (hf : ((x1 < 0 → Q (0 : Int32) h) ∧ (¬ x1 < 0 → ((x1 ≤ ((zi h 1 i0 1) - (nI (zSL.getD i2 0))) → EvAt (d + 4) m_R_matches 21 [some (vQ (some (1, i0))), some (vI x1), some (vQ (some (22, i2))), some (vI (0 : Int32))] [] h (zQI Q)) ∧ (¬ x1 ≤ ((zi h 1 i0 1) - (nI (zSL.getD i2 0))) → Q (0 : Int32) h))))) :
    EvI (d + 4) m_R_matches [vQ (some (1, i0)), vI x1, vQ (some (22, i2))] h Q := zo_entry (by decide) (Nat.le_of_ble_eq_true rfl) (w_R_matches_0 i0 x1 i2 hi0 hi2 hf)
set_option maxRecDepth 100000 in
set_option maxHeartbeats 4000000 in
theorem w_R_matches_21 {d : Nat} (i0 : Nat) (x1 : Int32) (i2 : Nat) (x3 : Int32) (hi0 : i0 < 43) (hi2 : i2 < 14) {h : ZH} {Q : Int32 → ZH → Prop}
    (hf : (((nI (zSL.getD i2 0)) ≤ x3 → Q (1 : Int32) h) ∧ (¬ (nI (zSL.getD i2 0)) ≤ x3 → (vp_in (x1 + x3) (zLen 2 i0) ∧ EvI (d + 3) m_G_small [vI (zi h 2 i0 (x1 + x3).toNatClampNeg)] h (fun y2 g1 => (vp_in x3 (zSL.getD i2 0) ∧ ((y2 = ((zSB.getD i2 []).getD x3.toNatClampNeg 0) → EvAt (d + 4) m_R_matches 21 [some (vQ (some (1, i0))), some (vI x1), some (vQ (some (22, i2))), some (vI (x3 + 1))] [] g1 (zQI Q)) ∧ (¬ y2 = ((zSB.getD i2 []).getD x3.toNatClampNeg 0) → Q (0 : Int32) g1)))))))) :
    EvAt (d + 4) m_R_matches 21 [some (vQ (some (1, i0))), some (vI x1), some (vQ (some (22, i2))), some (vI x3)] [] h (zQI Q) := by
  refine zo_iload_n d_R_matches_21 rfl rfl ?_
  refine zo_aload_n d_R_matches_22 rfl rfl ?_
  refine zc_slen wd_384 hi2 d_R_matches_23 (Nat.le_of_ble_eq_true rfl) ?_
  refine zo_icmp_ge (tgt := 56) d_R_matches_26 (by decide) (fun c4 => ?_) (fun c4 => ?_)
  · replace hf := hf.1 c4
    refine zo_iconst (v := 1) d_R_matches_56 (by decide) ?_
    exact zo_zretI (ty := .boolean) rfl rfl d_R_matches_57 hf
  · replace hf := hf.2 c4
    refine zo_aload_n d_R_matches_29 rfl rfl ?_
    refine gf_R_chars wd_97 hi0 d_R_matches_30 ?_
    refine zo_iload_n d_R_matches_33 rfl rfl ?_
    refine zo_iload_n d_R_matches_34 rfl rfl ?_
    refine zo_iadd d_R_matches_35 ?_
    obtain ⟨hp, hf⟩ := hf
    refine zo_cald (zin (by decide) hi0) rfl rfl rfl hp d_R_matches_36 ?_
    refine zo_callSI (d := (d + 3)) (N := m_G_small) (as := [vI (zi h 2 i0 (x1 + x3).toNatClampNeg)]) (n := 1) cs_G_small wd_394 rfl rfl (Nat.le_of_ble_eq_true rfl) d_R_matches_37 hf (fun y2 g1 hf => ?_)
    refine zo_aload_n d_R_matches_40 rfl rfl ?_
    refine zo_iload_n d_R_matches_41 rfl rfl ?_
    obtain ⟨hp, hf⟩ := hf
    refine zc_charAt wd_397 hi2 hp (Nat.le_of_ble_eq_true rfl) d_R_matches_42 ?_
    refine zo_icmp_eq (tgt := 50) d_R_matches_45 (by decide) (fun c3 => ?_) (fun c3 => ?_)
    · replace hf := hf.1 c3
      refine zo_iinc (v := x3 + 1) d_R_matches_50 rfl rfl (Nat.le_of_ble_eq_true rfl) rfl ?_
      refine zo_goto (tgt := 21) d_R_matches_53 (by decide) ?_
      exact hf
    · replace hf := hf.2 c3
      refine zo_iconst (v := 0) d_R_matches_48 (by decide) ?_
      exact zo_zretI (ty := .boolean) rfl rfl d_R_matches_49 hf
set_option maxRecDepth 100000 in
set_option maxHeartbeats 4000000 in
theorem w_G_small_0 {d : Nat} (x0 : Int32)  {h : ZH} {Q : Int32 → ZH → Prop}
    (hf : ((x0 < (65 : Int32) → (narrow .char (.int x0) = .int x0 ∧ Q x0 h)) ∧ (¬ x0 < (65 : Int32) → (((90 : Int32) < x0 → (narrow .char (.int x0) = .int x0 ∧ Q x0 h)) ∧ (¬ (90 : Int32) < x0 → (narrow .char (.int (((x0 + (32 : Int32)).toUInt32 % 65536).toInt32)) = .int (((x0 + (32 : Int32)).toUInt32 % 65536).toInt32) ∧ Q (((x0 + (32 : Int32)).toUInt32 % 65536).toInt32) h)))))) :
    EvAt d m_G_small 0 [some (vI x0)] [] h (zQI Q) := by
  refine zo_iload_n d_G_small_0 rfl rfl ?_
  refine zo_bipush (v := 65) d_G_small_1 (by decide) ?_
  refine zo_icmp_lt (tgt := 20) d_G_small_3 (by decide) (fun c2 => ?_) (fun c2 => ?_)
  · replace hf := hf.1 c2
    refine zo_iload_n d_G_small_20 rfl rfl ?_
    exact zo_zretI (ty := .char) rfl hf.1 d_G_small_21 hf.2
  · replace hf := hf.2 c2
    refine zo_iload_n d_G_small_6 rfl rfl ?_
    refine zo_bipush (v := 90) d_G_small_7 (by decide) ?_
    refine zo_icmp_gt (tgt := 20) d_G_small_9 (by decide) (fun c1 => ?_) (fun c1 => ?_)
    · replace hf := hf.1 c1
      refine zo_iload_n d_G_small_20 rfl rfl ?_
      exact zo_zretI (ty := .char) rfl hf.1 d_G_small_21 hf.2
    · replace hf := hf.2 c1
      refine zo_iload_n d_G_small_12 rfl rfl ?_
      refine zo_bipush (v := 32) d_G_small_13 (by decide) ?_
      refine zo_iadd d_G_small_15 ?_
      refine zo_i2c d_G_small_16 ?_
      refine zo_goto (tgt := 21) d_G_small_17 (by decide) ?_
      exact zo_zretI (ty := .char) rfl hf.1 d_G_small_21 hf.2
theorem e_G_small {d : Nat} (x0 : Int32)  {h : ZH} {Q : Int32 → ZH → Prop}
    (hf : ((x0 < (65 : Int32) → (narrow .char (.int x0) = .int x0 ∧ Q x0 h)) ∧ (¬ x0 < (65 : Int32) → (((90 : Int32) < x0 → (narrow .char (.int x0) = .int x0 ∧ Q x0 h)) ∧ (¬ (90 : Int32) < x0 → (narrow .char (.int (((x0 + (32 : Int32)).toUInt32 % 65536).toInt32)) = .int (((x0 + (32 : Int32)).toUInt32 % 65536).toInt32) ∧ Q (((x0 + (32 : Int32)).toUInt32 % 65536).toInt32) h)))))) :
    EvI d m_G_small [vI x0] h Q := zo_entry (by decide) (Nat.le_of_ble_eq_true rfl) (w_G_small_0 x0  hf)
set_option maxRecDepth 100000 in
set_option maxHeartbeats 4000000 in
theorem w_G_isDomain_0 {d : Nat} (i0 : Nat) (x1 : Int32) (x2 : Int32) (hi0 : i0 < 43) {h : ZH} {Q : Int32 → ZH → Prop}
    (hf : (((x2 - x1) ≤ (32 : Int32) → EvAt (d + 1) m_G_isDomain 16 [some (vQ (some (1, i0))), none, some (vI x2), some (vI (46 : Int32)), some (vI x1), none, none] [] h (zQI Q)) ∧ (¬ (x2 - x1) ≤ (32 : Int32) → Q (0 : Int32) h))) :
    EvAt (d + 1) m_G_isDomain 0 [some (vQ (some (1, i0))), some (vI x1), some (vI x2), none, none, none, none] [] h (zQI Q) := by
  refine zo_iload_n d_G_isDomain_0 rfl rfl ?_
  refine zo_iload_n d_G_isDomain_1 rfl rfl ?_
  refine zo_isub d_G_isDomain_2 ?_
  refine zo_bipush (v := 32) d_G_isDomain_3 (by decide) ?_
  refine zo_icmp_le (tgt := 10) d_G_isDomain_5 (by decide) (fun c1 => ?_) (fun c1 => ?_)
  · replace hf := hf.1 c1
    refine zo_bipush (v := 46) d_G_isDomain_10 (by decide) ?_
    refine zo_istore_n d_G_isDomain_12 rfl (Nat.le_of_ble_eq_true rfl) rfl ?_
    refine zo_iload_n d_G_isDomain_13 rfl rfl ?_
    refine zo_istore d_G_isDomain_14 (Nat.le_of_ble_eq_true rfl) rfl ?_
    refine zo_drop 1 ?_
    exact hf
  · replace hf := hf.2 c1
    refine zo_iconst (v := 0) d_G_isDomain_8 (by decide) ?_
    exact zo_zretI (ty := .boolean) rfl rfl d_G_isDomain_9 hf
theorem e_G_isDomain {d : Nat} (i0 : Nat) (x1 : Int32) (x2 : Int32) (hi0 : i0 < 43) {h : ZH} {Q : Int32 → ZH → Prop}
    (hf : (((x2 - x1) ≤ (32 : Int32) → EvAt (d + 1) m_G_isDomain 16 [some (vQ (some (1, i0))), none, some (vI x2), some (vI (46 : Int32)), some (vI x1), none, none] [] h (zQI Q)) ∧ (¬ (x2 - x1) ≤ (32 : Int32) → Q (0 : Int32) h))) :
    EvI (d + 1) m_G_isDomain [vQ (some (1, i0)), vI x1, vI x2] h Q := zo_entry (by decide) (Nat.le_of_ble_eq_true rfl) (w_G_isDomain_0 i0 x1 x2 hi0 hf)
set_option maxRecDepth 100000 in
set_option maxHeartbeats 4000000 in
theorem w_G_isDomain_16 {d : Nat} (i0 : Nat) (x2 : Int32) (x3 : Int32) (x4 : Int32) (hi0 : i0 < 43) {h : ZH} {Q : Int32 → ZH → Prop}
    (hf : ((x2 ≤ x4 → EvI d m_G_isLetterOrDigit [vI x3] h (fun y2 g1 => (narrow .boolean (.int y2) = .int y2 ∧ Q y2 g1))) ∧ (¬ x2 ≤ x4 → EvI d m_R_at [vQ (some (1, i0)), vI x4] h (fun y4 g3 => ((¬ y4 = (46 : Int32) → ((¬ y4 = (45 : Int32) → EvI d m_G_isLetterOrDigit [vI y4] g3 (fun y6 g5 => EvAt (d + 1) m_G_isDomain 70 [some (vQ (some (1, i0))), none, some (vI x2), none, some (vI x4), some (vI y4), none] [vI y6] g5 (zQI Q))) ∧ (y4 = (45 : Int32) → ((x3 = (46 : Int32) → EvAt (d + 1) m_G_isDomain 70 [some (vQ (some (1, i0))), none, some (vI x2), none, some (vI x4), some (vI y4), none] [vI (0 : Int32)] g3 (zQI Q)) ∧ (¬ x3 = (46 : Int32) → EvAt (d + 1) m_G_isDomain 70 [some (vQ (some (1, i0))), none, some (vI x2), none, some (vI x4), some (vI y4), none] [vI (1 : Int32)] g3 (zQI Q)))))) ∧ (y4 = (46 : Int32) → EvI d m_G_isLetterOrDigit [vI x3] g3 (fun y10 g9 => EvAt (d + 1) m_G_isDomain 70 [some (vQ (some (1, i0))), none, some (vI x2), none, some (vI x4), some (vI y4), none] [vI y10] g9 (zQI Q)))))))) :
    EvAt (d + 1) m_G_isDomain 16 [some (vQ (some (1, i0))), none, some (vI x2), some (vI x3), some (vI x4), none, none] [] h (zQI Q) := by
  refine zo_iload d_G_isDomain_16 rfl ?_
  refine zo_iload_n d_G_isDomain_18 rfl rfl ?_
  refine zo_icmp_ge (tgt := 88) d_G_isDomain_19 (by decide) (fun c12 => ?_) (fun c12 => ?_)
  · replace hf := hf.1 c12
    refine zo_iload_n d_G_isDomain_88 rfl rfl ?_
    refine zo_callSI (d := d) (N := m_G_isLetterOrDigit) (as := [vI x3]) (n := 1) cs_G_isLetterOrDigit wd_451 rfl rfl (Nat.le_of_ble_eq_true rfl) d_G_isDomain_89 hf (fun y2 g1 hf => ?_)
    exact zo_zretI (ty := .boolean) rfl hf.1 d_G_isDomain_92 hf.2
  · replace hf := hf.2 c12
    refine zo_aload_n d_G_isDomain_22 rfl rfl ?_
    refine zo_iload d_G_isDomain_23 rfl ?_
    refine zo_callVI (d := d) (N := m_R_at) (as := [vI x4]) (n := 1) (zin (by decide) hi0) rfl rfl cv_R_at wd_450 rfl rfl (Nat.le_of_ble_eq_true rfl) d_G_isDomain_25 hf (fun y4 g3 hf => ?_)
    refine zo_istore d_G_isDomain_28 (Nat.le_of_ble_eq_true rfl) rfl ?_
    refine zo_iload d_G_isDomain_30 rfl ?_
    refine zo_bipush (v := 46) d_G_isDomain_32 (by decide) ?_
    refine zo_icmp_ne (tgt := 44) d_G_isDomain_34 (by decide) (fun c11 => ?_) (fun c11 => ?_)
    · replace hf := hf.1 c11
      refine zo_iload d_G_isDomain_44 rfl ?_
      refine zo_bipush (v := 45) d_G_isDomain_46 (by decide) ?_
      refine zo_icmp_ne (tgt := 65) d_G_isDomain_48 (by decide) (fun c8 => ?_) (fun c8 => ?_)
      · replace hf := hf.1 c8
        refine zo_iload d_G_isDomain_65 rfl ?_
        refine zo_callSI (d := d) (N := m_G_isLetterOrDigit) (as := [vI y4]) (n := 1) cs_G_isLetterOrDigit wd_451 rfl rfl (Nat.le_of_ble_eq_true rfl) d_G_isDomain_67 hf (fun y6 g5 hf => ?_)
        refine zo_drop 3 ?_
        exact hf
      · replace hf := hf.2 c8
        refine zo_iload_n d_G_isDomain_51 rfl rfl ?_
        refine zo_bipush (v := 46) d_G_isDomain_52 (by decide) ?_
        refine zo_icmp_eq (tgt := 61) d_G_isDomain_54 (by decide) (fun c7 => ?_) (fun c7 => ?_)
        · replace hf := hf.1 c7
          refine zo_iconst (v := 0) d_G_isDomain_61 (by decide) ?_
          refine zo_goto (tgt := 70) d_G_isDomain_62 (by decide) ?_
          refine zo_drop 3 ?_
          exact hf
        · replace hf := hf.2 c7
          refine zo_iconst (v := 1) d_G_isDomain_57 (by decide) ?_
          refine zo_goto (tgt := 70) d_G_isDomain_58 (by decide) ?_
          refine zo_drop 3 ?_
          exact hf
    · replace hf := hf.2 c11
      refine zo_iload_n d_G_isDomain_37 rfl rfl ?_
      refine zo_callSI (d := d) (N := m_G_isLetterOrDigit) (as := [vI x3]) (n := 1) cs_G_isLetterOrDigit wd_451 rfl rfl (Nat.le_of_ble_eq_true rfl) d_G_isDomain_38 hf (fun y10 g9 hf => ?_)
      refine zo_goto (tgt := 70) d_G_isDomain_41 (by decide) ?_
      refine zo_drop 3 ?_
      exact hf
set_option maxRecDepth 100000 in
set_option maxHeartbeats 4000000 in
theorem w_G_isDomain_70 {d : Nat} (i0 : Nat) (x2 : Int32) (x4 : Int32) (x5 : Int32) (xs0 : Int32) (hi0 : i0 < 43) {h : ZH} {Q : Int32 → ZH → Prop}
    (hf : ((¬ xs0 = 0 → EvAt (d + 1) m_G_isDomain 16 [some (vQ (some (1, i0))), none, some (vI x2), some (vI x5), some (vI (x4 + 1)), none, none] [] h (zQI Q)) ∧ (xs0 = 0 → Q (0 : Int32) h))) :
    EvAt (d + 1) m_G_isDomain 70 [some (vQ (some (1, i0))), none, some (vI x2), none, some (vI x4), some (vI x5), none] [vI xs0] h (zQI Q) := by
  refine zo_istore d_G_isDomain_70 (Nat.le_of_ble_eq_true rfl) rfl ?_
  refine zo_iload d_G_isDomain_72 rfl ?_
  refine zo_if_ne (tgt := 79) d_G_isDomain_74 (by decide) (fun c1 => ?_) (fun c1 => ?_)
  · replace hf := hf.1 c1
    refine zo_iload d_G_isDomain_79 rfl ?_
    refine zo_istore_n d_G_isDomain_81 rfl (Nat.le_of_ble_eq_true rfl) rfl ?_
    refine zo_iinc (v := x4 + 1) d_G_isDomain_82 rfl rfl (Nat.le_of_ble_eq_true rfl) rfl ?_
    refine zo_goto (tgt := 16) d_G_isDomain_85 (by decide) ?_
    refine zo_drop 5 ?_
    refine zo_drop 6 ?_
    exact hf
  · replace hf := hf.2 c1
    refine zo_iconst (v := 0) d_G_isDomain_77 (by decide) ?_
    exact zo_zretI (ty := .boolean) rfl rfl d_G_isDomain_78 hf
set_option maxRecDepth 100000 in
set_option maxHeartbeats 4000000 in
theorem w_G_isLetterOrDigit_0 {d : Nat} (x0 : Int32)  {h : ZH} {Q : Int32 → ZH → Prop}
    (hf : ((x0 < (97 : Int32) → EvAt d m_G_isLetterOrDigit 12 [some (vI x0)] [] h (zQI Q)) ∧ (¬ x0 < (97 : Int32) → ((x0 ≤ (122 : Int32) → Q (1 : Int32) h) ∧ (¬ x0 ≤ (122 : Int32) → EvAt d m_G_isLetterOrDigit 12 [some (vI x0)] [] h (zQI Q)))))) :
    EvAt d m_G_isLetterOrDigit 0 [some (vI x0)] [] h (zQI Q) := by
  refine zo_iload_n d_G_isLetterOrDigit_0 rfl rfl ?_
  refine zo_bipush (v := 97) d_G_isLetterOrDigit_1 (by decide) ?_
  refine zo_icmp_lt (tgt := 12) d_G_isLetterOrDigit_3 (by decide) (fun c2 => ?_) (fun c2 => ?_)
  · replace hf := hf.1 c2
    exact hf
  · replace hf := hf.2 c2
    refine zo_iload_n d_G_isLetterOrDigit_6 rfl rfl ?_
    refine zo_bipush (v := 122) d_G_isLetterOrDigit_7 (by decide) ?_
    refine zo_icmp_le (tgt := 36) d_G_isLetterOrDigit_9 (by decide) (fun c1 => ?_) (fun c1 => ?_)
    · replace hf := hf.1 c1
      refine zo_iconst (v := 1) d_G_isLetterOrDigit_36 (by decide) ?_
      refine zo_goto (tgt := 41) d_G_isLetterOrDigit_37 (by decide) ?_
      exact zo_zretI (ty := .boolean) rfl rfl d_G_isLetterOrDigit_41 hf
    · replace hf := hf.2 c1
      exact hf
theorem e_G_isLetterOrDigit {d : Nat} (x0 : Int32)  {h : ZH} {Q : Int32 → ZH → Prop}
    (hf : ((x0 < (97 : Int32) → EvAt d m_G_isLetterOrDigit 12 [some (vI x0)] [] h (zQI Q)) ∧ (¬ x0 < (97 : Int32) → ((x0 ≤ (122 : Int32) → Q (1 : Int32) h) ∧ (¬ x0 ≤ (122 : Int32) → EvAt d m_G_isLetterOrDigit 12 [some (vI x0)] [] h (zQI Q)))))) :
    EvI d m_G_isLetterOrDigit [vI x0] h Q := zo_entry (by decide) (Nat.le_of_ble_eq_true rfl) (w_G_isLetterOrDigit_0 x0  hf)
set_option maxRecDepth 100000 in
set_option maxHeartbeats 4000000 in
theorem w_G_isLetterOrDigit_12 {d : Nat} (x0 : Int32)  {h : ZH} {Q : Int32 → ZH → Prop}
    (hf : ((x0 < (65 : Int32) → EvAt d m_G_isLetterOrDigit 24 [some (vI x0)] [] h (zQI Q)) ∧ (¬ x0 < (65 : Int32) → ((x0 ≤ (90 : Int32) → Q (1 : Int32) h) ∧ (¬ x0 ≤ (90 : Int32) → EvAt d m_G_isLetterOrDigit 24 [some (vI x0)] [] h (zQI Q)))))) :
    EvAt d m_G_isLetterOrDigit 12 [some (vI x0)] [] h (zQI Q) := by
  refine zo_iload_n d_G_isLetterOrDigit_12 rfl rfl ?_
  refine zo_bipush (v := 65) d_G_isLetterOrDigit_13 (by decide) ?_
  refine zo_icmp_lt (tgt := 24) d_G_isLetterOrDigit_15 (by decide) (fun c2 => ?_) (fun c2 => ?_)
  · replace hf := hf.1 c2
    exact hf
  · replace hf := hf.2 c2
    refine zo_iload_n d_G_isLetterOrDigit_18 rfl rfl ?_
    refine zo_bipush (v := 90) d_G_isLetterOrDigit_19 (by decide) ?_
    refine zo_icmp_le (tgt := 36) d_G_isLetterOrDigit_21 (by decide) (fun c1 => ?_) (fun c1 => ?_)
    · replace hf := hf.1 c1
      refine zo_iconst (v := 1) d_G_isLetterOrDigit_36 (by decide) ?_
      refine zo_goto (tgt := 41) d_G_isLetterOrDigit_37 (by decide) ?_
      exact zo_zretI (ty := .boolean) rfl rfl d_G_isLetterOrDigit_41 hf
    · replace hf := hf.2 c1
      exact hf
set_option maxRecDepth 100000 in
set_option maxHeartbeats 4000000 in
theorem w_G_isLetterOrDigit_24 {d : Nat} (x0 : Int32)  {h : ZH} {Q : Int32 → ZH → Prop}
    (hf : ((x0 < (48 : Int32) → Q (0 : Int32) h) ∧ (¬ x0 < (48 : Int32) → (((57 : Int32) < x0 → Q (0 : Int32) h) ∧ (¬ (57 : Int32) < x0 → Q (1 : Int32) h))))) :
    EvAt d m_G_isLetterOrDigit 24 [some (vI x0)] [] h (zQI Q) := by
  refine zo_iload_n d_G_isLetterOrDigit_24 rfl rfl ?_
  refine zo_bipush (v := 48) d_G_isLetterOrDigit_25 (by decide) ?_
  refine zo_icmp_lt (tgt := 40) d_G_isLetterOrDigit_27 (by decide) (fun c2 => ?_) (fun c2 => ?_)
  · replace hf := hf.1 c2
    refine zo_iconst (v := 0) d_G_isLetterOrDigit_40 (by decide) ?_
    exact zo_zretI (ty := .boolean) rfl rfl d_G_isLetterOrDigit_41 hf
  · replace hf := hf.2 c2
    refine zo_iload_n d_G_isLetterOrDigit_30 rfl rfl ?_
    refine zo_bipush (v := 57) d_G_isLetterOrDigit_31 (by decide) ?_
    refine zo_icmp_gt (tgt := 40) d_G_isLetterOrDigit_33 (by decide) (fun c1 => ?_) (fun c1 => ?_)
    · replace hf := hf.1 c1
      refine zo_iconst (v := 0) d_G_isLetterOrDigit_40 (by decide) ?_
      exact zo_zretI (ty := .boolean) rfl rfl d_G_isLetterOrDigit_41 hf
    · replace hf := hf.2 c1
      refine zo_iconst (v := 1) d_G_isLetterOrDigit_36 (by decide) ?_
      refine zo_goto (tgt := 41) d_G_isLetterOrDigit_37 (by decide) ?_
      exact zo_zretI (ty := .boolean) rfl rfl d_G_isLetterOrDigit_41 hf
set_option maxRecDepth 100000 in
set_option maxHeartbeats 4000000 in
theorem w_G_isPath_0 {d : Nat} (i0 : Nat) (x1 : Int32) (x2 : Int32) (hi0 : i0 < 43) {h : ZH} {Q : Int32 → ZH → Prop}
    (hf : (((x2 - x1) ≤ (40 : Int32) → EvAt (d + 1) m_G_isPath 12 [some (vQ (some (1, i0))), some (vI x1), some (vI x2), some (vI x1)] [] h (zQI Q)) ∧ (¬ (x2 - x1) ≤ (40 : Int32) → Q (0 : Int32) h))) :
    EvAt (d + 1) m_G_isPath 0 [some (vQ (some (1, i0))), some (vI x1), some (vI x2), none] [] h (zQI Q) := by
  refine zo_iload_n d_G_isPath_0 rfl rfl ?_
  refine zo_iload_n d_G_isPath_1 rfl rfl ?_
  refine zo_isub d_G_isPath_2 ?_
  refine zo_bipush (v := 40) d_G_isPath_3 (by decide) ?_
  refine zo_icmp_le (tgt := 10) d_G_isPath_5 (by decide) (fun c1 => ?_) (fun c1 => ?_)
  · replace hf := hf.1 c1
    refine zo_iload_n d_G_isPath_10 rfl rfl ?_
    refine zo_istore_n d_G_isPath_11 rfl (Nat.le_of_ble_eq_true rfl) rfl ?_
    exact hf
  · replace hf := hf.2 c1
    refine zo_iconst (v := 0) d_G_isPath_8 (by decide) ?_
    exact zo_zretI (ty := .boolean) rfl rfl d_G_isPath_9 hf
theorem e_G_isPath {d : Nat} (i0 : Nat) (x1 : Int32) (x2 : Int32) (hi0 : i0 < 43) {h : ZH} {Q : Int32 → ZH → Prop}
    (hf : (((x2 - x1) ≤ (40 : Int32) → EvAt (d + 1) m_G_isPath 12 [some (vQ (some (1, i0))), some (vI x1), some (vI x2), some (vI x1)] [] h (zQI Q)) ∧ (¬ (x2 - x1) ≤ (40 : Int32) → Q (0 : Int32) h))) :
    EvI (d + 1) m_G_isPath [vQ (some (1, i0)), vI x1, vI x2] h Q := zo_entry (by decide) (Nat.le_of_ble_eq_true rfl) (w_G_isPath_0 i0 x1 x2 hi0 hf)
set_option maxRecDepth 100000 in
set_option maxHeartbeats 4000000 in
theorem w_G_isPath_12 {d : Nat} (i0 : Nat) (x1 : Int32) (x2 : Int32) (x3 : Int32) (hi0 : i0 < 43) {h : ZH} {Q : Int32 → ZH → Prop}
    (hf : ((x2 ≤ x3 → Q (0 : Int32) h) ∧ (¬ x2 ≤ x3 → EvI d m_R_at [vQ (some (1, i0)), vI x3] h (fun y2 g1 => ((¬ y2 = (64 : Int32) → EvAt (d + 1) m_G_isPath 12 [some (vQ (some (1, i0))), some (vI x1), some (vI x2), some (vI (x3 + 1))] [] g1 (zQI Q)) ∧ (y2 = (64 : Int32) → EvI d m_G_isLocal [vQ (some (1, i0)), vI x1, vI x3] g1 (fun y4 g3 => ((y4 = 0 → Q (0 : Int32) g3) ∧ (¬ y4 = 0 → EvI d m_G_isDomain [vQ (some (1, i0)), vI (x3 + (1 : Int32)), vI x2] g3 (fun y6 g5 => ((y6 = 0 → Q (0 : Int32) g5) ∧ (¬ y6 = 0 → Q (1 : Int32) g5)))))))))))) :
    EvAt (d + 1) m_G_isPath 12 [some (vQ (some (1, i0))), some (vI x1), some (vI x2), some (vI x3)] [] h (zQI Q) := by
  refine zo_iload_n d_G_isPath_12 rfl rfl ?_
  refine zo_iload_n d_G_isPath_13 rfl rfl ?_
  refine zo_icmp_ge (tgt := 59) d_G_isPath_14 (by decide) (fun c10 => ?_) (fun c10 => ?_)
  · replace hf := hf.1 c10
    refine zo_iconst (v := 0) d_G_isPath_59 (by decide) ?_
    exact zo_zretI (ty := .boolean) rfl rfl d_G_isPath_60 hf
  · replace hf := hf.2 c10
    refine zo_aload_n d_G_isPath_17 rfl rfl ?_
    refine zo_iload_n d_G_isPath_18 rfl rfl ?_
    refine zo_callVI (d := d) (N := m_R_at) (as := [vI x3]) (n := 1) (zin (by decide) hi0) rfl rfl cv_R_at wd_450 rfl rfl (Nat.le_of_ble_eq_true rfl) d_G_isPath_19 hf (fun y2 g1 hf => ?_)
    refine zo_bipush (v := 64) d_G_isPath_22 (by decide) ?_
    refine zo_icmp_ne (tgt := 53) d_G_isPath_24 (by decide) (fun c9 => ?_) (fun c9 => ?_)
    · replace hf := hf.1 c9
      refine zo_iinc (v := x3 + 1) d_G_isPath_53 rfl rfl (Nat.le_of_ble_eq_true rfl) rfl ?_
      refine zo_goto (tgt := 12) d_G_isPath_56 (by decide) ?_
      exact hf
    · replace hf := hf.2 c9
      refine zo_aload_n d_G_isPath_27 rfl rfl ?_
      refine zo_iload_n d_G_isPath_28 rfl rfl ?_
      refine zo_iload_n d_G_isPath_29 rfl rfl ?_
      refine zo_callSI (d := d) (N := m_G_isLocal) (as := [vQ (some (1, i0)), vI x1, vI x3]) (n := 3) cs_G_isLocal wd_474 rfl rfl (Nat.le_of_ble_eq_true rfl) d_G_isPath_30 hf (fun y4 g3 hf => ?_)
      refine zo_if_eq (tgt := 51) d_G_isPath_33 (by decide) (fun c8 => ?_) (fun c8 => ?_)
      · replace hf := hf.1 c8
        refine zo_iconst (v := 0) d_G_isPath_51 (by decide) ?_
        exact zo_zretI (ty := .boolean) rfl rfl d_G_isPath_52 hf
      · replace hf := hf.2 c8
        refine zo_aload_n d_G_isPath_36 rfl rfl ?_
        refine zo_iload_n d_G_isPath_37 rfl rfl ?_
        refine zo_iconst (v := 1) d_G_isPath_38 (by decide) ?_
        refine zo_iadd d_G_isPath_39 ?_
        refine zo_iload_n d_G_isPath_40 rfl rfl ?_
        refine zo_callSI (d := d) (N := m_G_isDomain) (as := [vQ (some (1, i0)), vI (x3 + (1 : Int32)), vI x2]) (n := 3) cs_G_isDomain wd_477 rfl rfl (Nat.le_of_ble_eq_true rfl) d_G_isPath_41 hf (fun y6 g5 hf => ?_)
        refine zo_if_eq (tgt := 51) d_G_isPath_44 (by decide) (fun c7 => ?_) (fun c7 => ?_)
        · replace hf := hf.1 c7
          refine zo_iconst (v := 0) d_G_isPath_51 (by decide) ?_
          exact zo_zretI (ty := .boolean) rfl rfl d_G_isPath_52 hf
        · replace hf := hf.2 c7
          refine zo_iconst (v := 1) d_G_isPath_47 (by decide) ?_
          refine zo_goto (tgt := 52) d_G_isPath_48 (by decide) ?_
          exact zo_zretI (ty := .boolean) rfl rfl d_G_isPath_52 hf
set_option maxRecDepth 100000 in
set_option maxHeartbeats 4000000 in
theorem w_G_isLocal_0 {d : Nat} (i0 : Nat) (x1 : Int32) (x2 : Int32) (hi0 : i0 < 43) {h : ZH} {Q : Int32 → ZH → Prop}
    (hf : EvAt (d + 1) m_G_isLocal 5 [some (vQ (some (1, i0))), none, some (vI x2), some (vI (0 : Int32)), some (vI x1), none, none] [] h (zQI Q)) :
    EvAt (d + 1) m_G_isLocal 0 [some (vQ (some (1, i0))), some (vI x1), some (vI x2), none, none, none, none] [] h (zQI Q) := by
  refine zo_iconst (v := 0) d_G_isLocal_0 (by decide) ?_
  refine zo_istore_n d_G_isLocal_1 rfl (Nat.le_of_ble_eq_true rfl) rfl ?_
  refine zo_iload_n d_G_isLocal_2 rfl rfl ?_
  refine zo_istore d_G_isLocal_3 (Nat.le_of_ble_eq_true rfl) rfl ?_
  refine zo_drop 1 ?_
  exact hf
theorem e_G_isLocal {d : Nat} (i0 : Nat) (x1 : Int32) (x2 : Int32) (hi0 : i0 < 43) {h : ZH} {Q : Int32 → ZH → Prop}
    (hf : EvAt (d + 1) m_G_isLocal 5 [some (vQ (some (1, i0))), none, some (vI x2), some (vI (0 : Int32)), some (vI x1), none, none] [] h (zQI Q)) :
    EvI (d + 1) m_G_isLocal [vQ (some (1, i0)), vI x1, vI x2] h Q := zo_entry (by decide) (Nat.le_of_ble_eq_true rfl) (w_G_isLocal_0 i0 x1 x2 hi0 hf)
set_option maxRecDepth 100000 in
set_option maxHeartbeats 4000000 in
theorem w_G_isLocal_5 {d : Nat} (i0 : Nat) (x2 : Int32) (x3 : Int32) (x4 : Int32) (hi0 : i0 < 43) {h : ZH} {Q : Int32 → ZH → Prop}
    (hf : ((x2 ≤ x4 → (narrow .boolean (.int x3) = .int x3 ∧ Q x3 h)) ∧ (¬ x2 ≤ x4 → EvI d m_R_at [vQ (some (1, i0)), vI x4] h (fun y2 g1 => EvI d m_G_isLetterOrDigit [vI y2] g1 (fun y4 g3 => ((¬ y4 = 0 → EvAt (d + 1) m_G_isLocal 48 [some (vQ (some (1, i0))), none, some (vI x2), some (vI x3), some (vI x4), some (vI y2), none] [] g3 (zQI Q)) ∧ (y4 = 0 → ((y2 = (45 : Int32) → EvAt (d + 1) m_G_isLocal 48 [some (vQ (some (1, i0))), none, some (vI x2), some (vI x3), some (vI x4), some (vI y2), none] [] g3 (zQI Q)) ∧ (¬ y2 = (45 : Int32) → ((y2 = (95 : Int32) → EvAt (d + 1) m_G_isLocal 48 [some (vQ (some (1, i0))), none, some (vI x2), some (vI x3), some (vI x4), some (vI y2), none] [] g3 (zQI Q)) ∧ (¬ y2 = (95 : Int32) → ((¬ y2 = (43 : Int32) → EvAt (d + 1) m_G_isLocal 53 [some (vQ (some (1, i0))), none, some (vI x2), some (vI x3), some (vI x4), some (vI y2), none] [vI (0 : Int32)] g3 (zQI Q)) ∧ (y2 = (43 : Int32) → EvAt (d + 1) m_G_isLocal 48 [some (vQ (some (1, i0))), none, some (vI x2), some (vI x3), some (vI x4), some (vI y2), none] [] g3 (zQI Q)))))))))))))) :
    EvAt (d + 1) m_G_isLocal 5 [some (vQ (some (1, i0))), none, some (vI x2), some (vI x3), some (vI x4), none, none] [] h (zQI Q) := by
  refine zo_iload d_G_isLocal_5 rfl ?_
  refine zo_iload_n d_G_isLocal_7 rfl rfl ?_
  refine zo_icmp_ge (tgt := 82) d_G_isLocal_8 (by decide) (fun c9 => ?_) (fun c9 => ?_)
  · replace hf := hf.1 c9
    refine zo_iload_n d_G_isLocal_82 rfl rfl ?_
    exact zo_zretI (ty := .boolean) rfl hf.1 d_G_isLocal_83 hf.2
  · replace hf := hf.2 c9
    refine zo_aload_n d_G_isLocal_11 rfl rfl ?_
    refine zo_iload d_G_isLocal_12 rfl ?_
    refine zo_callVI (d := d) (N := m_R_at) (as := [vI x4]) (n := 1) (zin (by decide) hi0) rfl rfl cv_R_at wd_450 rfl rfl (Nat.le_of_ble_eq_true rfl) d_G_isLocal_14 hf (fun y2 g1 hf => ?_)
    refine zo_istore d_G_isLocal_17 (Nat.le_of_ble_eq_true rfl) rfl ?_
    refine zo_iload d_G_isLocal_19 rfl ?_
    refine zo_callSI (d := d) (N := m_G_isLetterOrDigit) (as := [vI y2]) (n := 1) cs_G_isLetterOrDigit wd_451 rfl rfl (Nat.le_of_ble_eq_true rfl) d_G_isLocal_21 hf (fun y4 g3 hf => ?_)
    refine zo_if_ne (tgt := 48) d_G_isLocal_24 (by decide) (fun c8 => ?_) (fun c8 => ?_)
    · replace hf := hf.1 c8
      exact hf
    · replace hf := hf.2 c8
      refine zo_iload d_G_isLocal_27 rfl ?_
      refine zo_bipush (v := 45) d_G_isLocal_29 (by decide) ?_
      refine zo_icmp_eq (tgt := 48) d_G_isLocal_31 (by decide) (fun c7 => ?_) (fun c7 => ?_)
      · replace hf := hf.1 c7
        exact hf
      · replace hf := hf.2 c7
        refine zo_iload d_G_isLocal_34 rfl ?_
        refine zo_bipush (v := 95) d_G_isLocal_36 (by decide) ?_
        refine zo_icmp_eq (tgt := 48) d_G_isLocal_38 (by decide) (fun c6 => ?_) (fun c6 => ?_)
        · replace hf := hf.1 c6
          exact hf
        · replace hf := hf.2 c6
          refine zo_iload d_G_isLocal_41 rfl ?_
          refine zo_bipush (v := 43) d_G_isLocal_43 (by decide) ?_
          refine zo_icmp_ne (tgt := 52) d_G_isLocal_45 (by decide) (fun c5 => ?_) (fun c5 => ?_)
          · replace hf := hf.1 c5
            refine zo_iconst (v := 0) d_G_isLocal_52 (by decide) ?_
            exact hf
          · replace hf := hf.2 c5
            exact hf
set_option maxRecDepth 100000 in
set_option maxHeartbeats 4000000 in
theorem w_G_isLocal_48 {d : Nat} (i0 : Nat) (x2 : Int32) (x3 : Int32) (x4 : Int32) (x5 : Int32) (hi0 : i0 < 43) {h : ZH} {Q : Int32 → ZH → Prop}
    (hf : EvAt (d + 1) m_G_isLocal 53 [some (vQ (some (1, i0))), none, some (vI x2), some (vI x3), some (vI x4), some (vI x5), none] [vI (1 : Int32)] h (zQI Q)) :
    EvAt (d + 1) m_G_isLocal 48 [some (vQ (some (1, i0))), none, some (vI x2), some (vI x3), some (vI x4), some (vI x5), none] [] h (zQI Q) := by
  refine zo_iconst (v := 1) d_G_isLocal_48 (by decide) ?_
  refine zo_goto (tgt := 53) d_G_isLocal_49 (by decide) ?_
  exact hf
set_option maxRecDepth 100000 in
set_option maxHeartbeats 4000000 in
theorem w_G_isLocal_53 {d : Nat} (i0 : Nat) (x2 : Int32) (x3 : Int32) (x4 : Int32) (x5 : Int32) (xs0 : Int32) (hi0 : i0 < 43) {h : ZH} {Q : Int32 → ZH → Prop}
    (hf : ((¬ xs0 = 0 → EvAt (d + 1) m_G_isLocal 73 [some (vQ (some (1, i0))), none, some (vI x2), none, some (vI x4), none, some (vI xs0)] [] h (zQI Q)) ∧ (xs0 = 0 → ((¬ x5 = (46 : Int32) → Q (0 : Int32) h) ∧ (x5 = (46 : Int32) → ((¬ x3 = 0 → EvAt (d + 1) m_G_isLocal 73 [some (vQ (some (1, i0))), none, some (vI x2), none, some (vI x4), none, some (vI xs0)] [] h (zQI Q)) ∧ (x3 = 0 → Q (0 : Int32) h))))))) :
    EvAt (d + 1) m_G_isLocal 53 [some (vQ (some (1, i0))), none, some (vI x2), some (vI x3), some (vI x4), some (vI x5), none] [vI xs0] h (zQI Q) := by
  refine zo_istore d_G_isLocal_53 (Nat.le_of_ble_eq_true rfl) rfl ?_
  refine zo_iload d_G_isLocal_55 rfl ?_
  refine zo_if_ne (tgt := 73) d_G_isLocal_57 (by decide) (fun c3 => ?_) (fun c3 => ?_)
  · replace hf := hf.1 c3
    refine zo_drop 3 ?_
    refine zo_drop 5 ?_
    exact hf
  · replace hf := hf.2 c3
    refine zo_iload d_G_isLocal_60 rfl ?_
    refine zo_bipush (v := 46) d_G_isLocal_62 (by decide) ?_
    refine zo_icmp_ne (tgt := 71) d_G_isLocal_64 (by decide) (fun c2 => ?_) (fun c2 => ?_)
    · replace hf := hf.1 c2
      refine zo_iconst (v := 0) d_G_isLocal_71 (by decide) ?_
      exact zo_zretI (ty := .boolean) rfl rfl d_G_isLocal_72 hf
    · replace hf := hf.2 c2
      refine zo_iload_n d_G_isLocal_67 rfl rfl ?_
      refine zo_if_ne (tgt := 73) d_G_isLocal_68 (by decide) (fun c1 => ?_) (fun c1 => ?_)
      · replace hf := hf.1 c1
        refine zo_drop 3 ?_
        refine zo_drop 5 ?_
        exact hf
      · replace hf := hf.2 c1
        refine zo_iconst (v := 0) d_G_isLocal_71 (by decide) ?_
        exact zo_zretI (ty := .boolean) rfl rfl d_G_isLocal_72 hf
set_option maxRecDepth 100000 in
set_option maxHeartbeats 4000000 in
theorem w_G_isLocal_73 {d : Nat} (i0 : Nat) (x2 : Int32) (x4 : Int32) (x6 : Int32) (hi0 : i0 < 43) {h : ZH} {Q : Int32 → ZH → Prop}
    (hf : EvAt (d + 1) m_G_isLocal 5 [some (vQ (some (1, i0))), none, some (vI x2), some (vI x6), some (vI (x4 + 1)), none, none] [] h (zQI Q)) :
    EvAt (d + 1) m_G_isLocal 73 [some (vQ (some (1, i0))), none, some (vI x2), none, some (vI x4), none, some (vI x6)] [] h (zQI Q) := by
  refine zo_iload d_G_isLocal_73 rfl ?_
  refine zo_istore_n d_G_isLocal_75 rfl (Nat.le_of_ble_eq_true rfl) rfl ?_
  refine zo_iinc (v := x4 + 1) d_G_isLocal_76 rfl rfl (Nat.le_of_ble_eq_true rfl) rfl ?_
  refine zo_goto (tgt := 5) d_G_isLocal_79 (by decide) ?_
  refine zo_drop 6 ?_
  exact hf
set_option maxRecDepth 100000 in
set_option maxHeartbeats 4000000 in
theorem w_R_addWords_0 {d : Nat} (i0 : Nat) (i1 : Nat) (hi0 : i0 < 43) (hi1 : i1 < 14) {h : ZH} {Q : ZH → Prop}
    (hf : EvAt (d + 4) m_R_addWords 2 [some (vQ (some (1, i0))), some (vQ (some (22, i1))), some (vI (0 : Int32))] [] h (zQV Q)) :
    EvAt (d + 4) m_R_addWords 0 [some (vQ (some (1, i0))), some (vQ (some (22, i1))), none] [] h (zQV Q) := by
  refine zo_iconst (v := 0) d_R_addWords_0 (by decide) ?_
  refine zo_istore_n d_R_addWords_1 rfl (Nat.le_of_ble_eq_true rfl) rfl ?_
  exact hf
theorem e_R_addWords {d : Nat} (i0 : Nat) (i1 : Nat) (hi0 : i0 < 43) (hi1 : i1 < 14) {h : ZH} {Q : ZH → Prop}
    (hf : EvAt (d + 4) m_R_addWords 2 [some (vQ (some (1, i0))), some (vQ (some (22, i1))), some (vI (0 : Int32))] [] h (zQV Q)) :
    EvV (d + 4) m_R_addWords [vQ (some (1, i0)), vQ (some (22, i1))] h Q := zo_entry (by decide) (Nat.le_of_ble_eq_true rfl) (w_R_addWords_0 i0 i1 hi0 hi1 hf)
set_option maxRecDepth 100000 in
set_option maxHeartbeats 4000000 in
theorem w_R_addWords_2 {d : Nat} (i0 : Nat) (i1 : Nat) (x2 : Int32) (hi0 : i0 < 43) (hi1 : i1 < 14) {h : ZH} {Q : ZH → Prop}
    (hf : (((nI (zSL.getD i1 0)) ≤ x2 → Q h) ∧ (¬ (nI (zSL.getD i1 0)) ≤ x2 → (vp_in x2 (zSL.getD i1 0) ∧ EvV (d + 3) m_R_add [vQ (some (1, i0)), vI ((zSB.getD i1 []).getD x2.toNatClampNeg 0)] h (fun g1 => EvAt (d + 4) m_R_addWords 2 [some (vQ (some (1, i0))), some (vQ (some (22, i1))), some (vI (x2 + 1))] [] g1 (zQV Q)))))) :
    EvAt (d + 4) m_R_addWords 2 [some (vQ (some (1, i0))), some (vQ (some (22, i1))), some (vI x2)] [] h (zQV Q) := by
  refine zo_iload_n d_R_addWords_2 rfl rfl ?_
  refine zo_aload_n d_R_addWords_3 rfl rfl ?_
  refine zc_slen wd_384 hi1 d_R_addWords_4 (Nat.le_of_ble_eq_true rfl) ?_
  refine zo_icmp_ge (tgt := 25) d_R_addWords_7 (by decide) (fun c2 => ?_) (fun c2 => ?_)
  · replace hf := hf.1 c2
    exact zo_vretV rfl d_R_addWords_25 hf
  · replace hf := hf.2 c2
    refine zo_aload_n d_R_addWords_10 rfl rfl ?_
    refine zo_aload_n d_R_addWords_11 rfl rfl ?_
    refine zo_iload_n d_R_addWords_12 rfl rfl ?_
    obtain ⟨hp, hf⟩ := hf
    refine zc_charAt wd_397 hi1 hp (Nat.le_of_ble_eq_true rfl) d_R_addWords_13 ?_
    refine zo_callVV (d := (d + 3)) (N := m_R_add) (as := [vI ((zSB.getD i1 []).getD x2.toNatClampNeg 0)]) (n := 1) (zin (by decide) hi0) rfl rfl cv_R_add wd_368 rfl rfl (Nat.le_of_ble_eq_true rfl) d_R_addWords_16 hf (fun g1 hf => ?_)
    refine zo_iinc (v := x2 + 1) d_R_addWords_19 rfl rfl (Nat.le_of_ble_eq_true rfl) rfl ?_
    refine zo_goto (tgt := 2) d_R_addWords_22 (by decide) ?_
    exact hf
