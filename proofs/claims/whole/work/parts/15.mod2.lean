set_option maxRecDepth 100000 in
set_option maxHeartbeats 4000000 in
theorem w_M_divided_0 {d : Nat} (x1 : Int32)  {h : ZH} {Q : Int32 → ZH → Prop}
    (hf : EvV d m_M_findLines [vQ (some (12, 0)), vI x1] h (fun g1 => (vp_in (0 : Int32) (zLen 13 13) ∧ (vp_in (0 : Int32) (zLen 13 14) ∧ (vp_in (0 : Int32) (zLen 13 15) ∧ EvAt (d + 1) m_M_divided 39 [some (vQ (some (12, 0))), none, none, none, none, none, none] [] (zw (zw (zw (zw (zw g1 12 0 20 (0 : Int32)) 12 0 25 (1 : Int32)) 13 13 (0 : Int32).toNatClampNeg (0 : Int32)) 13 14 (0 : Int32).toNatClampNeg (zi (zw (zw (zw g1 12 0 20 (0 : Int32)) 12 0 25 (1 : Int32)) 13 13 (0 : Int32).toNatClampNeg (0 : Int32)) 12 0 18)) 13 15 (0 : Int32).toNatClampNeg (0 : Int32)) (zQI Q)))))) :
    EvAt (d + 1) m_M_divided 0 [some (vQ (some (12, 0))), some (vI x1), none, none, none, none, none] [] h (zQI Q) := by
  refine zo_aload_n d_M_divided_0 rfl rfl ?_
  refine zo_iload_n d_M_divided_1 rfl rfl ?_
  refine zo_callVV (d := d) (N := m_M_findLines) (as := [vI x1]) (n := 1) (zin (by decide) (by decide)) rfl rfl cv_M_findLines wd_949 rfl rfl (Nat.le_of_ble_eq_true rfl) d_M_divided_2 hf (fun g1 hf => ?_)
  refine zo_aload_n d_M_divided_5 rfl rfl ?_
  refine zo_iconst (v := 0) d_M_divided_6 (by decide) ?_
  refine pf_M_found wd_719 d_M_divided_7 ?_
  refine zo_aload_n d_M_divided_10 rfl rfl ?_
  refine zo_iconst (v := 1) d_M_divided_11 (by decide) ?_
  refine pf_M_open wd_724 d_M_divided_12 ?_
  refine zo_aload_n d_M_divided_15 rfl rfl ?_
  refine gf_M_rowFrom wd_725 d_M_divided_16 ?_
  refine zo_iconst (v := 0) d_M_divided_19 (by decide) ?_
  refine zo_iconst (v := 0) d_M_divided_20 (by decide) ?_
  obtain ⟨hp, hf⟩ := hf
  refine zo_iast (zin (by decide) (by decide)) rfl rfl rfl hp d_M_divided_21 ?_
  refine zo_aload_n d_M_divided_22 rfl rfl ?_
  refine gf_M_rowTo wd_726 d_M_divided_23 ?_
  refine zo_iconst (v := 0) d_M_divided_26 (by decide) ?_
  refine zo_aload_n d_M_divided_27 rfl rfl ?_
  refine gf_M_lines wd_717 d_M_divided_28 ?_
  obtain ⟨hp, hf⟩ := hf
  refine zo_iast (zin (by decide) (by decide)) rfl rfl rfl hp d_M_divided_31 ?_
  refine zo_aload_n d_M_divided_32 rfl rfl ?_
  refine gf_M_rowDepth wd_727 d_M_divided_33 ?_
  refine zo_iconst (v := 0) d_M_divided_36 (by decide) ?_
  refine zo_iconst (v := 0) d_M_divided_37 (by decide) ?_
  obtain ⟨hp, hf⟩ := hf
  refine zo_iast (zin (by decide) (by decide)) rfl rfl rfl hp d_M_divided_38 ?_
  refine zo_drop 1 ?_
  exact hf
theorem e_M_divided {d : Nat} (x1 : Int32)  {h : ZH} {Q : Int32 → ZH → Prop}
    (hf : EvV d m_M_findLines [vQ (some (12, 0)), vI x1] h (fun g1 => (vp_in (0 : Int32) (zLen 13 13) ∧ (vp_in (0 : Int32) (zLen 13 14) ∧ (vp_in (0 : Int32) (zLen 13 15) ∧ EvAt (d + 1) m_M_divided 39 [some (vQ (some (12, 0))), none, none, none, none, none, none] [] (zw (zw (zw (zw (zw g1 12 0 20 (0 : Int32)) 12 0 25 (1 : Int32)) 13 13 (0 : Int32).toNatClampNeg (0 : Int32)) 13 14 (0 : Int32).toNatClampNeg (zi (zw (zw (zw g1 12 0 20 (0 : Int32)) 12 0 25 (1 : Int32)) 13 13 (0 : Int32).toNatClampNeg (0 : Int32)) 12 0 18)) 13 15 (0 : Int32).toNatClampNeg (0 : Int32)) (zQI Q)))))) :
    EvI (d + 1) m_M_divided [vQ (some (12, 0)), vI x1] h Q := zo_entry (by decide) (Nat.le_of_ble_eq_true rfl) (w_M_divided_0 x1  hf)
set_option maxRecDepth 100000 in
set_option maxHeartbeats 4000000 in
theorem w_M_divided_39 {d : Nat}   {h : ZH} {Q : Int32 → ZH → Prop}
    (hf : (((zi h 12 0 25) ≤ 0 → Q (1 : Int32) h) ∧ (¬ (zi h 12 0 25) ≤ 0 → (vp_in (zi (zw h 12 0 25 ((zi h 12 0 25) - (1 : Int32))) 12 0 25) (zLen 13 13) ∧ (vp_in (zi (zw h 12 0 25 ((zi h 12 0 25) - (1 : Int32))) 12 0 25) (zLen 13 14) ∧ (vp_in (zi (zw h 12 0 25 ((zi h 12 0 25) - (1 : Int32))) 12 0 25) (zLen 13 15) ∧ EvI d m_M_headEnd [vQ (some (12, 0)), vI (zi (zw h 12 0 25 ((zi h 12 0 25) - (1 : Int32))) 13 13 (zi (zw h 12 0 25 ((zi h 12 0 25) - (1 : Int32))) 12 0 25).toNatClampNeg), vI (zi (zw h 12 0 25 ((zi h 12 0 25) - (1 : Int32))) 13 14 (zi (zw h 12 0 25 ((zi h 12 0 25) - (1 : Int32))) 12 0 25).toNatClampNeg)] (zw h 12 0 25 ((zi h 12 0 25) - (1 : Int32))) (fun y2 g1 => (((zi g1 12 0 20) = (16 : Int32) → Q (0 : Int32) g1) ∧ (¬ (zi g1 12 0 20) = (16 : Int32) → EvI d m_M_rightHead [vQ (some (12, 0)), vI (zi (zw h 12 0 25 ((zi h 12 0 25) - (1 : Int32))) 13 13 (zi (zw h 12 0 25 ((zi h 12 0 25) - (1 : Int32))) 12 0 25).toNatClampNeg), vI y2] g1 (fun y4 g3 => ((¬ y4 = 0 → EvI d m_M_isMulti [vQ (some (12, 0)), vI (zi (zw h 12 0 25 ((zi h 12 0 25) - (1 : Int32))) 13 13 (zi (zw h 12 0 25 ((zi h 12 0 25) - (1 : Int32))) 12 0 25).toNatClampNeg), vI y2] g3 (fun y6 g5 => (vp_in (zi g5 12 0 20) (zLen 13 11) ∧ (vp_in (zi (zw g5 13 11 (zi g5 12 0 20).toNatClampNeg (zi (zw h 12 0 25 ((zi h 12 0 25) - (1 : Int32))) 13 13 (zi (zw h 12 0 25 ((zi h 12 0 25) - (1 : Int32))) 12 0 25).toNatClampNeg)) 12 0 20) (zLen 13 12) ∧ (vp_in (zi (zw (zw g5 13 11 (zi g5 12 0 20).toNatClampNeg (zi (zw h 12 0 25 ((zi h 12 0 25) - (1 : Int32))) 13 13 (zi (zw h 12 0 25 ((zi h 12 0 25) - (1 : Int32))) 12 0 25).toNatClampNeg)) 13 12 (zi (zw g5 13 11 (zi g5 12 0 20).toNatClampNeg (zi (zw h 12 0 25 ((zi h 12 0 25) - (1 : Int32))) 13 13 (zi (zw h 12 0 25 ((zi h 12 0 25) - (1 : Int32))) 12 0 25).toNatClampNeg)) 12 0 20).toNatClampNeg (zi (zw h 12 0 25 ((zi h 12 0 25) - (1 : Int32))) 13 14 (zi (zw h 12 0 25 ((zi h 12 0 25) - (1 : Int32))) 12 0 25).toNatClampNeg)) 12 0 20) (zLen 13 10) ∧ (vp_in (zi (zw (zw (zw g5 13 11 (zi g5 12 0 20).toNatClampNeg (zi (zw h 12 0 25 ((zi h 12 0 25) - (1 : Int32))) 13 13 (zi (zw h 12 0 25 ((zi h 12 0 25) - (1 : Int32))) 12 0 25).toNatClampNeg)) 13 12 (zi (zw g5 13 11 (zi g5 12 0 20).toNatClampNeg (zi (zw h 12 0 25 ((zi h 12 0 25) - (1 : Int32))) 13 13 (zi (zw h 12 0 25 ((zi h 12 0 25) - (1 : Int32))) 12 0 25).toNatClampNeg)) 12 0 20).toNatClampNeg (zi (zw h 12 0 25 ((zi h 12 0 25) - (1 : Int32))) 13 14 (zi (zw h 12 0 25 ((zi h 12 0 25) - (1 : Int32))) 12 0 25).toNatClampNeg)) 13 10 (zi (zw (zw g5 13 11 (zi g5 12 0 20).toNatClampNeg (zi (zw h 12 0 25 ((zi h 12 0 25) - (1 : Int32))) 13 13 (zi (zw h 12 0 25 ((zi h 12 0 25) - (1 : Int32))) 12 0 25).toNatClampNeg)) 13 12 (zi (zw g5 13 11 (zi g5 12 0 20).toNatClampNeg (zi (zw h 12 0 25 ((zi h 12 0 25) - (1 : Int32))) 13 13 (zi (zw h 12 0 25 ((zi h 12 0 25) - (1 : Int32))) 12 0 25).toNatClampNeg)) 12 0 20).toNatClampNeg (zi (zw h 12 0 25 ((zi h 12 0 25) - (1 : Int32))) 13 14 (zi (zw h 12 0 25 ((zi h 12 0 25) - (1 : Int32))) 12 0 25).toNatClampNeg)) 12 0 20).toNatClampNeg (zi (zw h 12 0 25 ((zi h 12 0 25) - (1 : Int32))) 13 15 (zi (zw h 12 0 25 ((zi h 12 0 25) - (1 : Int32))) 12 0 25).toNatClampNeg)) 12 0 20) (zLen 14 1) ∧ ((y6 = 0 → EvAt (d + 1) m_M_divided 210 [some (vQ (some (12, 0))), none, none, none, none, none, none] [] (zw (zw (zw (zw (zw g5 13 11 (zi g5 12 0 20).toNatClampNeg (zi (zw h 12 0 25 ((zi h 12 0 25) - (1 : Int32))) 13 13 (zi (zw h 12 0 25 ((zi h 12 0 25) - (1 : Int32))) 12 0 25).toNatClampNeg)) 13 12 (zi (zw g5 13 11 (zi g5 12 0 20).toNatClampNeg (zi (zw h 12 0 25 ((zi h 12 0 25) - (1 : Int32))) 13 13 (zi (zw h 12 0 25 ((zi h 12 0 25) - (1 : Int32))) 12 0 25).toNatClampNeg)) 12 0 20).toNatClampNeg (zi (zw h 12 0 25 ((zi h 12 0 25) - (1 : Int32))) 13 14 (zi (zw h 12 0 25 ((zi h 12 0 25) - (1 : Int32))) 12 0 25).toNatClampNeg)) 13 10 (zi (zw (zw g5 13 11 (zi g5 12 0 20).toNatClampNeg (zi (zw h 12 0 25 ((zi h 12 0 25) - (1 : Int32))) 13 13 (zi (zw h 12 0 25 ((zi h 12 0 25) - (1 : Int32))) 12 0 25).toNatClampNeg)) 13 12 (zi (zw g5 13 11 (zi g5 12 0 20).toNatClampNeg (zi (zw h 12 0 25 ((zi h 12 0 25) - (1 : Int32))) 13 13 (zi (zw h 12 0 25 ((zi h 12 0 25) - (1 : Int32))) 12 0 25).toNatClampNeg)) 12 0 20).toNatClampNeg (zi (zw h 12 0 25 ((zi h 12 0 25) - (1 : Int32))) 13 14 (zi (zw h 12 0 25 ((zi h 12 0 25) - (1 : Int32))) 12 0 25).toNatClampNeg)) 12 0 20).toNatClampNeg (zi (zw h 12 0 25 ((zi h 12 0 25) - (1 : Int32))) 13 15 (zi (zw h 12 0 25 ((zi h 12 0 25) - (1 : Int32))) 12 0 25).toNatClampNeg)) 14 1 (zi (zw (zw (zw g5 13 11 (zi g5 12 0 20).toNatClampNeg (zi (zw h 12 0 25 ((zi h 12 0 25) - (1 : Int32))) 13 13 (zi (zw h 12 0 25 ((zi h 12 0 25) - (1 : Int32))) 12 0 25).toNatClampNeg)) 13 12 (zi (zw g5 13 11 (zi g5 12 0 20).toNatClampNeg (zi (zw h 12 0 25 ((zi h 12 0 25) - (1 : Int32))) 13 13 (zi (zw h 12 0 25 ((zi h 12 0 25) - (1 : Int32))) 12 0 25).toNatClampNeg)) 12 0 20).toNatClampNeg (zi (zw h 12 0 25 ((zi h 12 0 25) - (1 : Int32))) 13 14 (zi (zw h 12 0 25 ((zi h 12 0 25) - (1 : Int32))) 12 0 25).toNatClampNeg)) 13 10 (zi (zw (zw g5 13 11 (zi g5 12 0 20).toNatClampNeg (zi (zw h 12 0 25 ((zi h 12 0 25) - (1 : Int32))) 13 13 (zi (zw h 12 0 25 ((zi h 12 0 25) - (1 : Int32))) 12 0 25).toNatClampNeg)) 13 12 (zi (zw g5 13 11 (zi g5 12 0 20).toNatClampNeg (zi (zw h 12 0 25 ((zi h 12 0 25) - (1 : Int32))) 13 13 (zi (zw h 12 0 25 ((zi h 12 0 25) - (1 : Int32))) 12 0 25).toNatClampNeg)) 12 0 20).toNatClampNeg (zi (zw h 12 0 25 ((zi h 12 0 25) - (1 : Int32))) 13 14 (zi (zw h 12 0 25 ((zi h 12 0 25) - (1 : Int32))) 12 0 25).toNatClampNeg)) 12 0 20).toNatClampNeg (zi (zw h 12 0 25 ((zi h 12 0 25) - (1 : Int32))) 13 15 (zi (zw h 12 0 25 ((zi h 12 0 25) - (1 : Int32))) 12 0 25).toNatClampNeg)) 12 0 20).toNatClampNeg (vp_nar .boolean y6)) 12 0 20 ((zi (zw (zw (zw (zw g5 13 11 (zi g5 12 0 20).toNatClampNeg (zi (zw h 12 0 25 ((zi h 12 0 25) - (1 : Int32))) 13 13 (zi (zw h 12 0 25 ((zi h 12 0 25) - (1 : Int32))) 12 0 25).toNatClampNeg)) 13 12 (zi (zw g5 13 11 (zi g5 12 0 20).toNatClampNeg (zi (zw h 12 0 25 ((zi h 12 0 25) - (1 : Int32))) 13 13 (zi (zw h 12 0 25 ((zi h 12 0 25) - (1 : Int32))) 12 0 25).toNatClampNeg)) 12 0 20).toNatClampNeg (zi (zw h 12 0 25 ((zi h 12 0 25) - (1 : Int32))) 13 14 (zi (zw h 12 0 25 ((zi h 12 0 25) - (1 : Int32))) 12 0 25).toNatClampNeg)) 13 10 (zi (zw (zw g5 13 11 (zi g5 12 0 20).toNatClampNeg (zi (zw h 12 0 25 ((zi h 12 0 25) - (1 : Int32))) 13 13 (zi (zw h 12 0 25 ((zi h 12 0 25) - (1 : Int32))) 12 0 25).toNatClampNeg)) 13 12 (zi (zw g5 13 11 (zi g5 12 0 20).toNatClampNeg (zi (zw h 12 0 25 ((zi h 12 0 25) - (1 : Int32))) 13 13 (zi (zw h 12 0 25 ((zi h 12 0 25) - (1 : Int32))) 12 0 25).toNatClampNeg)) 12 0 20).toNatClampNeg (zi (zw h 12 0 25 ((zi h 12 0 25) - (1 : Int32))) 13 14 (zi (zw h 12 0 25 ((zi h 12 0 25) - (1 : Int32))) 12 0 25).toNatClampNeg)) 12 0 20).toNatClampNeg (zi (zw h 12 0 25 ((zi h 12 0 25) - (1 : Int32))) 13 15 (zi (zw h 12 0 25 ((zi h 12 0 25) - (1 : Int32))) 12 0 25).toNatClampNeg)) 14 1 (zi (zw (zw (zw g5 13 11 (zi g5 12 0 20).toNatClampNeg (zi (zw h 12 0 25 ((zi h 12 0 25) - (1 : Int32))) 13 13 (zi (zw h 12 0 25 ((zi h 12 0 25) - (1 : Int32))) 12 0 25).toNatClampNeg)) 13 12 (zi (zw g5 13 11 (zi g5 12 0 20).toNatClampNeg (zi (zw h 12 0 25 ((zi h 12 0 25) - (1 : Int32))) 13 13 (zi (zw h 12 0 25 ((zi h 12 0 25) - (1 : Int32))) 12 0 25).toNatClampNeg)) 12 0 20).toNatClampNeg (zi (zw h 12 0 25 ((zi h 12 0 25) - (1 : Int32))) 13 14 (zi (zw h 12 0 25 ((zi h 12 0 25) - (1 : Int32))) 12 0 25).toNatClampNeg)) 13 10 (zi (zw (zw g5 13 11 (zi g5 12 0 20).toNatClampNeg (zi (zw h 12 0 25 ((zi h 12 0 25) - (1 : Int32))) 13 13 (zi (zw h 12 0 25 ((zi h 12 0 25) - (1 : Int32))) 12 0 25).toNatClampNeg)) 13 12 (zi (zw g5 13 11 (zi g5 12 0 20).toNatClampNeg (zi (zw h 12 0 25 ((zi h 12 0 25) - (1 : Int32))) 13 13 (zi (zw h 12 0 25 ((zi h 12 0 25) - (1 : Int32))) 12 0 25).toNatClampNeg)) 12 0 20).toNatClampNeg (zi (zw h 12 0 25 ((zi h 12 0 25) - (1 : Int32))) 13 14 (zi (zw h 12 0 25 ((zi h 12 0 25) - (1 : Int32))) 12 0 25).toNatClampNeg)) 12 0 20).toNatClampNeg (zi (zw h 12 0 25 ((zi h 12 0 25) - (1 : Int32))) 13 15 (zi (zw h 12 0 25 ((zi h 12 0 25) - (1 : Int32))) 12 0 25).toNatClampNeg)) 12 0 20).toNatClampNeg (vp_nar .boolean y6)) 12 0 20) + (1 : Int32))) (zQI Q)) ∧ (¬ y6 = 0 → (((zi (zw h 12 0 25 ((zi h 12 0 25) - (1 : Int32))) 13 14 (zi (zw h 12 0 25 ((zi h 12 0 25) - (1 : Int32))) 12 0 25).toNatClampNeg) ≤ y2 → EvAt (d + 1) m_M_divided 197 [some (vQ (some (12, 0))), none, none, some (vI (zi (zw h 12 0 25 ((zi h 12 0 25) - (1 : Int32))) 13 14 (zi (zw h 12 0 25 ((zi h 12 0 25) - (1 : Int32))) 12 0 25).toNatClampNeg)), some (vI (zi (zw h 12 0 25 ((zi h 12 0 25) - (1 : Int32))) 13 15 (zi (zw h 12 0 25 ((zi h 12 0 25) - (1 : Int32))) 12 0 25).toNatClampNeg)), none, none] [vI (zi (zw h 12 0 25 ((zi h 12 0 25) - (1 : Int32))) 13 14 (zi (zw h 12 0 25 ((zi h 12 0 25) - (1 : Int32))) 12 0 25).toNatClampNeg), vQ (some (12, 0))] (zw (zw (zw (zw (zw g5 13 11 (zi g5 12 0 20).toNatClampNeg (zi (zw h 12 0 25 ((zi h 12 0 25) - (1 : Int32))) 13 13 (zi (zw h 12 0 25 ((zi h 12 0 25) - (1 : Int32))) 12 0 25).toNatClampNeg)) 13 12 (zi (zw g5 13 11 (zi g5 12 0 20).toNatClampNeg (zi (zw h 12 0 25 ((zi h 12 0 25) - (1 : Int32))) 13 13 (zi (zw h 12 0 25 ((zi h 12 0 25) - (1 : Int32))) 12 0 25).toNatClampNeg)) 12 0 20).toNatClampNeg (zi (zw h 12 0 25 ((zi h 12 0 25) - (1 : Int32))) 13 14 (zi (zw h 12 0 25 ((zi h 12 0 25) - (1 : Int32))) 12 0 25).toNatClampNeg)) 13 10 (zi (zw (zw g5 13 11 (zi g5 12 0 20).toNatClampNeg (zi (zw h 12 0 25 ((zi h 12 0 25) - (1 : Int32))) 13 13 (zi (zw h 12 0 25 ((zi h 12 0 25) - (1 : Int32))) 12 0 25).toNatClampNeg)) 13 12 (zi (zw g5 13 11 (zi g5 12 0 20).toNatClampNeg (zi (zw h 12 0 25 ((zi h 12 0 25) - (1 : Int32))) 13 13 (zi (zw h 12 0 25 ((zi h 12 0 25) - (1 : Int32))) 12 0 25).toNatClampNeg)) 12 0 20).toNatClampNeg (zi (zw h 12 0 25 ((zi h 12 0 25) - (1 : Int32))) 13 14 (zi (zw h 12 0 25 ((zi h 12 0 25) - (1 : Int32))) 12 0 25).toNatClampNeg)) 12 0 20).toNatClampNeg (zi (zw h 12 0 25 ((zi h 12 0 25) - (1 : Int32))) 13 15 (zi (zw h 12 0 25 ((zi h 12 0 25) - (1 : Int32))) 12 0 25).toNatClampNeg)) 14 1 (zi (zw (zw (zw g5 13 11 (zi g5 12 0 20).toNatClampNeg (zi (zw h 12 0 25 ((zi h 12 0 25) - (1 : Int32))) 13 13 (zi (zw h 12 0 25 ((zi h 12 0 25) - (1 : Int32))) 12 0 25).toNatClampNeg)) 13 12 (zi (zw g5 13 11 (zi g5 12 0 20).toNatClampNeg (zi (zw h 12 0 25 ((zi h 12 0 25) - (1 : Int32))) 13 13 (zi (zw h 12 0 25 ((zi h 12 0 25) - (1 : Int32))) 12 0 25).toNatClampNeg)) 12 0 20).toNatClampNeg (zi (zw h 12 0 25 ((zi h 12 0 25) - (1 : Int32))) 13 14 (zi (zw h 12 0 25 ((zi h 12 0 25) - (1 : Int32))) 12 0 25).toNatClampNeg)) 13 10 (zi (zw (zw g5 13 11 (zi g5 12 0 20).toNatClampNeg (zi (zw h 12 0 25 ((zi h 12 0 25) - (1 : Int32))) 13 13 (zi (zw h 12 0 25 ((zi h 12 0 25) - (1 : Int32))) 12 0 25).toNatClampNeg)) 13 12 (zi (zw g5 13 11 (zi g5 12 0 20).toNatClampNeg (zi (zw h 12 0 25 ((zi h 12 0 25) - (1 : Int32))) 13 13 (zi (zw h 12 0 25 ((zi h 12 0 25) - (1 : Int32))) 12 0 25).toNatClampNeg)) 12 0 20).toNatClampNeg (zi (zw h 12 0 25 ((zi h 12 0 25) - (1 : Int32))) 13 14 (zi (zw h 12 0 25 ((zi h 12 0 25) - (1 : Int32))) 12 0 25).toNatClampNeg)) 12 0 20).toNatClampNeg (zi (zw h 12 0 25 ((zi h 12 0 25) - (1 : Int32))) 13 15 (zi (zw h 12 0 25 ((zi h 12 0 25) - (1 : Int32))) 12 0 25).toNatClampNeg)) 12 0 20).toNatClampNeg (vp_nar .boolean y6)) 12 0 20 ((zi (zw (zw (zw (zw g5 13 11 (zi g5 12 0 20).toNatClampNeg (zi (zw h 12 0 25 ((zi h 12 0 25) - (1 : Int32))) 13 13 (zi (zw h 12 0 25 ((zi h 12 0 25) - (1 : Int32))) 12 0 25).toNatClampNeg)) 13 12 (zi (zw g5 13 11 (zi g5 12 0 20).toNatClampNeg (zi (zw h 12 0 25 ((zi h 12 0 25) - (1 : Int32))) 13 13 (zi (zw h 12 0 25 ((zi h 12 0 25) - (1 : Int32))) 12 0 25).toNatClampNeg)) 12 0 20).toNatClampNeg (zi (zw h 12 0 25 ((zi h 12 0 25) - (1 : Int32))) 13 14 (zi (zw h 12 0 25 ((zi h 12 0 25) - (1 : Int32))) 12 0 25).toNatClampNeg)) 13 10 (zi (zw (zw g5 13 11 (zi g5 12 0 20).toNatClampNeg (zi (zw h 12 0 25 ((zi h 12 0 25) - (1 : Int32))) 13 13 (zi (zw h 12 0 25 ((zi h 12 0 25) - (1 : Int32))) 12 0 25).toNatClampNeg)) 13 12 (zi (zw g5 13 11 (zi g5 12 0 20).toNatClampNeg (zi (zw h 12 0 25 ((zi h 12 0 25) - (1 : Int32))) 13 13 (zi (zw h 12 0 25 ((zi h 12 0 25) - (1 : Int32))) 12 0 25).toNatClampNeg)) 12 0 20).toNatClampNeg (zi (zw h 12 0 25 ((zi h 12 0 25) - (1 : Int32))) 13 14 (zi (zw h 12 0 25 ((zi h 12 0 25) - (1 : Int32))) 12 0 25).toNatClampNeg)) 12 0 20).toNatClampNeg (zi (zw h 12 0 25 ((zi h 12 0 25) - (1 : Int32))) 13 15 (zi (zw h 12 0 25 ((zi h 12 0 25) - (1 : Int32))) 12 0 25).toNatClampNeg)) 14 1 (zi (zw (zw (zw g5 13 11 (zi g5 12 0 20).toNatClampNeg (zi (zw h 12 0 25 ((zi h 12 0 25) - (1 : Int32))) 13 13 (zi (zw h 12 0 25 ((zi h 12 0 25) - (1 : Int32))) 12 0 25).toNatClampNeg)) 13 12 (zi (zw g5 13 11 (zi g5 12 0 20).toNatClampNeg (zi (zw h 12 0 25 ((zi h 12 0 25) - (1 : Int32))) 13 13 (zi (zw h 12 0 25 ((zi h 12 0 25) - (1 : Int32))) 12 0 25).toNatClampNeg)) 12 0 20).toNatClampNeg (zi (zw h 12 0 25 ((zi h 12 0 25) - (1 : Int32))) 13 14 (zi (zw h 12 0 25 ((zi h 12 0 25) - (1 : Int32))) 12 0 25).toNatClampNeg)) 13 10 (zi (zw (zw g5 13 11 (zi g5 12 0 20).toNatClampNeg (zi (zw h 12 0 25 ((zi h 12 0 25) - (1 : Int32))) 13 13 (zi (zw h 12 0 25 ((zi h 12 0 25) - (1 : Int32))) 12 0 25).toNatClampNeg)) 13 12 (zi (zw g5 13 11 (zi g5 12 0 20).toNatClampNeg (zi (zw h 12 0 25 ((zi h 12 0 25) - (1 : Int32))) 13 13 (zi (zw h 12 0 25 ((zi h 12 0 25) - (1 : Int32))) 12 0 25).toNatClampNeg)) 12 0 20).toNatClampNeg (zi (zw h 12 0 25 ((zi h 12 0 25) - (1 : Int32))) 13 14 (zi (zw h 12 0 25 ((zi h 12 0 25) - (1 : Int32))) 12 0 25).toNatClampNeg)) 12 0 20).toNatClampNeg (zi (zw h 12 0 25 ((zi h 12 0 25) - (1 : Int32))) 13 15 (zi (zw h 12 0 25 ((zi h 12 0 25) - (1 : Int32))) 12 0 25).toNatClampNeg)) 12 0 20).toNatClampNeg (vp_nar .boolean y6)) 12 0 20) + (1 : Int32))) (zQI Q)) ∧ (¬ (zi (zw h 12 0 25 ((zi h 12 0 25) - (1 : Int32))) 13 14 (zi (zw h 12 0 25 ((zi h 12 0 25) - (1 : Int32))) 12 0 25).toNatClampNeg) ≤ y2 → EvAt (d + 1) m_M_divided 197 [some (vQ (some (12, 0))), none, none, some (vI (zi (zw h 12 0 25 ((zi h 12 0 25) - (1 : Int32))) 13 14 (zi (zw h 12 0 25 ((zi h 12 0 25) - (1 : Int32))) 12 0 25).toNatClampNeg)), some (vI (zi (zw h 12 0 25 ((zi h 12 0 25) - (1 : Int32))) 13 15 (zi (zw h 12 0 25 ((zi h 12 0 25) - (1 : Int32))) 12 0 25).toNatClampNeg)), none, none] [vI (y2 + (1 : Int32)), vQ (some (12, 0))] (zw (zw (zw (zw (zw g5 13 11 (zi g5 12 0 20).toNatClampNeg (zi (zw h 12 0 25 ((zi h 12 0 25) - (1 : Int32))) 13 13 (zi (zw h 12 0 25 ((zi h 12 0 25) - (1 : Int32))) 12 0 25).toNatClampNeg)) 13 12 (zi (zw g5 13 11 (zi g5 12 0 20).toNatClampNeg (zi (zw h 12 0 25 ((zi h 12 0 25) - (1 : Int32))) 13 13 (zi (zw h 12 0 25 ((zi h 12 0 25) - (1 : Int32))) 12 0 25).toNatClampNeg)) 12 0 20).toNatClampNeg (zi (zw h 12 0 25 ((zi h 12 0 25) - (1 : Int32))) 13 14 (zi (zw h 12 0 25 ((zi h 12 0 25) - (1 : Int32))) 12 0 25).toNatClampNeg)) 13 10 (zi (zw (zw g5 13 11 (zi g5 12 0 20).toNatClampNeg (zi (zw h 12 0 25 ((zi h 12 0 25) - (1 : Int32))) 13 13 (zi (zw h 12 0 25 ((zi h 12 0 25) - (1 : Int32))) 12 0 25).toNatClampNeg)) 13 12 (zi (zw g5 13 11 (zi g5 12 0 20).toNatClampNeg (zi (zw h 12 0 25 ((zi h 12 0 25) - (1 : Int32))) 13 13 (zi (zw h 12 0 25 ((zi h 12 0 25) - (1 : Int32))) 12 0 25).toNatClampNeg)) 12 0 20).toNatClampNeg (zi (zw h 12 0 25 ((zi h 12 0 25) - (1 : Int32))) 13 14 (zi (zw h 12 0 25 ((zi h 12 0 25) - (1 : Int32))) 12 0 25).toNatClampNeg)) 12 0 20).toNatClampNeg (zi (zw h 12 0 25 ((zi h 12 0 25) - (1 : Int32))) 13 15 (zi (zw h 12 0 25 ((zi h 12 0 25) - (1 : Int32))) 12 0 25).toNatClampNeg)) 14 1 (zi (zw (zw (zw g5 13 11 (zi g5 12 0 20).toNatClampNeg (zi (zw h 12 0 25 ((zi h 12 0 25) - (1 : Int32))) 13 13 (zi (zw h 12 0 25 ((zi h 12 0 25) - (1 : Int32))) 12 0 25).toNatClampNeg)) 13 12 (zi (zw g5 13 11 (zi g5 12 0 20).toNatClampNeg (zi (zw h 12 0 25 ((zi h 12 0 25) - (1 : Int32))) 13 13 (zi (zw h 12 0 25 ((zi h 12 0 25) - (1 : Int32))) 12 0 25).toNatClampNeg)) 12 0 20).toNatClampNeg (zi (zw h 12 0 25 ((zi h 12 0 25) - (1 : Int32))) 13 14 (zi (zw h 12 0 25 ((zi h 12 0 25) - (1 : Int32))) 12 0 25).toNatClampNeg)) 13 10 (zi (zw (zw g5 13 11 (zi g5 12 0 20).toNatClampNeg (zi (zw h 12 0 25 ((zi h 12 0 25) - (1 : Int32))) 13 13 (zi (zw h 12 0 25 ((zi h 12 0 25) - (1 : Int32))) 12 0 25).toNatClampNeg)) 13 12 (zi (zw g5 13 11 (zi g5 12 0 20).toNatClampNeg (zi (zw h 12 0 25 ((zi h 12 0 25) - (1 : Int32))) 13 13 (zi (zw h 12 0 25 ((zi h 12 0 25) - (1 : Int32))) 12 0 25).toNatClampNeg)) 12 0 20).toNatClampNeg (zi (zw h 12 0 25 ((zi h 12 0 25) - (1 : Int32))) 13 14 (zi (zw h 12 0 25 ((zi h 12 0 25) - (1 : Int32))) 12 0 25).toNatClampNeg)) 12 0 20).toNatClampNeg (zi (zw h 12 0 25 ((zi h 12 0 25) - (1 : Int32))) 13 15 (zi (zw h 12 0 25 ((zi h 12 0 25) - (1 : Int32))) 12 0 25).toNatClampNeg)) 12 0 20).toNatClampNeg (vp_nar .boolean y6)) 12 0 20 ((zi (zw (zw (zw (zw g5 13 11 (zi g5 12 0 20).toNatClampNeg (zi (zw h 12 0 25 ((zi h 12 0 25) - (1 : Int32))) 13 13 (zi (zw h 12 0 25 ((zi h 12 0 25) - (1 : Int32))) 12 0 25).toNatClampNeg)) 13 12 (zi (zw g5 13 11 (zi g5 12 0 20).toNatClampNeg (zi (zw h 12 0 25 ((zi h 12 0 25) - (1 : Int32))) 13 13 (zi (zw h 12 0 25 ((zi h 12 0 25) - (1 : Int32))) 12 0 25).toNatClampNeg)) 12 0 20).toNatClampNeg (zi (zw h 12 0 25 ((zi h 12 0 25) - (1 : Int32))) 13 14 (zi (zw h 12 0 25 ((zi h 12 0 25) - (1 : Int32))) 12 0 25).toNatClampNeg)) 13 10 (zi (zw (zw g5 13 11 (zi g5 12 0 20).toNatClampNeg (zi (zw h 12 0 25 ((zi h 12 0 25) - (1 : Int32))) 13 13 (zi (zw h 12 0 25 ((zi h 12 0 25) - (1 : Int32))) 12 0 25).toNatClampNeg)) 13 12 (zi (zw g5 13 11 (zi g5 12 0 20).toNatClampNeg (zi (zw h 12 0 25 ((zi h 12 0 25) - (1 : Int32))) 13 13 (zi (zw h 12 0 25 ((zi h 12 0 25) - (1 : Int32))) 12 0 25).toNatClampNeg)) 12 0 20).toNatClampNeg (zi (zw h 12 0 25 ((zi h 12 0 25) - (1 : Int32))) 13 14 (zi (zw h 12 0 25 ((zi h 12 0 25) - (1 : Int32))) 12 0 25).toNatClampNeg)) 12 0 20).toNatClampNeg (zi (zw h 12 0 25 ((zi h 12 0 25) - (1 : Int32))) 13 15 (zi (zw h 12 0 25 ((zi h 12 0 25) - (1 : Int32))) 12 0 25).toNatClampNeg)) 14 1 (zi (zw (zw (zw g5 13 11 (zi g5 12 0 20).toNatClampNeg (zi (zw h 12 0 25 ((zi h 12 0 25) - (1 : Int32))) 13 13 (zi (zw h 12 0 25 ((zi h 12 0 25) - (1 : Int32))) 12 0 25).toNatClampNeg)) 13 12 (zi (zw g5 13 11 (zi g5 12 0 20).toNatClampNeg (zi (zw h 12 0 25 ((zi h 12 0 25) - (1 : Int32))) 13 13 (zi (zw h 12 0 25 ((zi h 12 0 25) - (1 : Int32))) 12 0 25).toNatClampNeg)) 12 0 20).toNatClampNeg (zi (zw h 12 0 25 ((zi h 12 0 25) - (1 : Int32))) 13 14 (zi (zw h 12 0 25 ((zi h 12 0 25) - (1 : Int32))) 12 0 25).toNatClampNeg)) 13 10 (zi (zw (zw g5 13 11 (zi g5 12 0 20).toNatClampNeg (zi (zw h 12 0 25 ((zi h 12 0 25) - (1 : Int32))) 13 13 (zi (zw h 12 0 25 ((zi h 12 0 25) - (1 : Int32))) 12 0 25).toNatClampNeg)) 13 12 (zi (zw g5 13 11 (zi g5 12 0 20).toNatClampNeg (zi (zw h 12 0 25 ((zi h 12 0 25) - (1 : Int32))) 13 13 (zi (zw h 12 0 25 ((zi h 12 0 25) - (1 : Int32))) 12 0 25).toNatClampNeg)) 12 0 20).toNatClampNeg (zi (zw h 12 0 25 ((zi h 12 0 25) - (1 : Int32))) 13 14 (zi (zw h 12 0 25 ((zi h 12 0 25) - (1 : Int32))) 12 0 25).toNatClampNeg)) 12 0 20).toNatClampNeg (zi (zw h 12 0 25 ((zi h 12 0 25) - (1 : Int32))) 13 15 (zi (zw h 12 0 25 ((zi h 12 0 25) - (1 : Int32))) 12 0 25).toNatClampNeg)) 12 0 20).toNatClampNeg (vp_nar .boolean y6)) 12 0 20) + (1 : Int32))) (zQI Q))))))))))) ∧ (y4 = 0 → Q (0 : Int32) g3)))))))))))) :
    EvAt (d + 1) m_M_divided 39 [some (vQ (some (12, 0))), none, none, none, none, none, none] [] h (zQI Q) := by
  refine zo_aload_n d_M_divided_39 rfl rfl ?_
  refine gf_M_open wd_724 d_M_divided_40 ?_
  refine zo_if_le (tgt := 213) d_M_divided_43 (by decide) (fun c11 => ?_) (fun c11 => ?_)
  · replace hf := hf.1 c11
    refine zo_iconst (v := 1) d_M_divided_213 (by decide) ?_
    exact zo_zretI (ty := .boolean) rfl rfl d_M_divided_214 hf
  · replace hf := hf.2 c11
    refine zo_aload_n d_M_divided_46 rfl rfl ?_
    refine zo_aload_n d_M_divided_47 rfl rfl ?_
    refine gf_M_open wd_724 d_M_divided_48 ?_
    refine zo_iconst (v := 1) d_M_divided_51 (by decide) ?_
    refine zo_isub d_M_divided_52 ?_
    refine pf_M_open wd_724 d_M_divided_53 ?_
    refine zo_aload_n d_M_divided_56 rfl rfl ?_
    refine gf_M_rowFrom wd_725 d_M_divided_57 ?_
    refine zo_aload_n d_M_divided_60 rfl rfl ?_
    refine gf_M_open wd_724 d_M_divided_61 ?_
    obtain ⟨hp, hf⟩ := hf
    refine zo_iald (zin (by decide) (by decide)) rfl rfl rfl hp d_M_divided_64 ?_
    refine zo_istore_n d_M_divided_65 rfl (Nat.le_of_ble_eq_true rfl) rfl ?_
    refine zo_aload_n d_M_divided_66 rfl rfl ?_
    refine gf_M_rowTo wd_726 d_M_divided_67 ?_
    refine zo_aload_n d_M_divided_70 rfl rfl ?_
    refine gf_M_open wd_724 d_M_divided_71 ?_
    obtain ⟨hp, hf⟩ := hf
    refine zo_iald (zin (by decide) (by decide)) rfl rfl rfl hp d_M_divided_74 ?_
    refine zo_istore_n d_M_divided_75 rfl (Nat.le_of_ble_eq_true rfl) rfl ?_
    refine zo_aload_n d_M_divided_76 rfl rfl ?_
    refine gf_M_rowDepth wd_727 d_M_divided_77 ?_
    refine zo_aload_n d_M_divided_80 rfl rfl ?_
    refine gf_M_open wd_724 d_M_divided_81 ?_
    obtain ⟨hp, hf⟩ := hf
    refine zo_iald (zin (by decide) (by decide)) rfl rfl rfl hp d_M_divided_84 ?_
    refine zo_istore d_M_divided_85 (Nat.le_of_ble_eq_true rfl) rfl ?_
    refine zo_aload_n d_M_divided_87 rfl rfl ?_
    refine zo_iload_n d_M_divided_88 rfl rfl ?_
    refine zo_iload_n d_M_divided_89 rfl rfl ?_
    refine zo_callVI (d := d) (N := m_M_headEnd) (as := [vI (zi (zw h 12 0 25 ((zi h 12 0 25) - (1 : Int32))) 13 13 (zi (zw h 12 0 25 ((zi h 12 0 25) - (1 : Int32))) 12 0 25).toNatClampNeg), vI (zi (zw h 12 0 25 ((zi h 12 0 25) - (1 : Int32))) 13 14 (zi (zw h 12 0 25 ((zi h 12 0 25) - (1 : Int32))) 12 0 25).toNatClampNeg)]) (n := 2) (zin (by decide) (by decide)) rfl rfl cv_M_headEnd wd_953 rfl rfl (Nat.le_of_ble_eq_true rfl) d_M_divided_90 hf (fun y2 g1 hf => ?_)
    refine zo_istore d_M_divided_93 (Nat.le_of_ble_eq_true rfl) rfl ?_
    refine zo_aload_n d_M_divided_95 rfl rfl ?_
    refine gf_M_found wd_719 d_M_divided_96 ?_
    refine zo_bipush (v := 16) d_M_divided_99 (by decide) ?_
    refine zo_icmp_eq (tgt := 114) d_M_divided_101 (by decide) (fun c10 => ?_) (fun c10 => ?_)
    · replace hf := hf.1 c10
      refine zo_iconst (v := 0) d_M_divided_114 (by decide) ?_
      exact zo_zretI (ty := .boolean) rfl rfl d_M_divided_115 hf
    · replace hf := hf.2 c10
      refine zo_aload_n d_M_divided_104 rfl rfl ?_
      refine zo_iload_n d_M_divided_105 rfl rfl ?_
      refine zo_iload d_M_divided_106 rfl ?_
      refine zo_callVI (d := d) (N := m_M_rightHead) (as := [vI (zi (zw h 12 0 25 ((zi h 12 0 25) - (1 : Int32))) 13 13 (zi (zw h 12 0 25 ((zi h 12 0 25) - (1 : Int32))) 12 0 25).toNatClampNeg), vI y2]) (n := 2) (zin (by decide) (by decide)) rfl rfl cv_M_rightHead wd_965 rfl rfl (Nat.le_of_ble_eq_true rfl) d_M_divided_108 hf (fun y4 g3 hf => ?_)
      refine zo_if_ne (tgt := 116) d_M_divided_111 (by decide) (fun c9 => ?_) (fun c9 => ?_)
      · replace hf := hf.1 c9
        refine zo_aload_n d_M_divided_116 rfl rfl ?_
        refine zo_iload_n d_M_divided_117 rfl rfl ?_
        refine zo_iload d_M_divided_118 rfl ?_
        refine zo_callVI (d := d) (N := m_M_isMulti) (as := [vI (zi (zw h 12 0 25 ((zi h 12 0 25) - (1 : Int32))) 13 13 (zi (zw h 12 0 25 ((zi h 12 0 25) - (1 : Int32))) 12 0 25).toNatClampNeg), vI y2]) (n := 2) (zin (by decide) (by decide)) rfl rfl cv_M_isMulti wd_973 rfl rfl (Nat.le_of_ble_eq_true rfl) d_M_divided_120 hf (fun y6 g5 hf => ?_)
        refine zo_istore d_M_divided_123 (Nat.le_of_ble_eq_true rfl) rfl ?_
        refine zo_aload_n d_M_divided_125 rfl rfl ?_
        refine gf_M_partFrom wd_721 d_M_divided_126 ?_
        refine zo_aload_n d_M_divided_129 rfl rfl ?_
        refine gf_M_found wd_719 d_M_divided_130 ?_
        refine zo_iload_n d_M_divided_133 rfl rfl ?_
        obtain ⟨hp, hf⟩ := hf
        refine zo_iast (zin (by decide) (by decide)) rfl rfl rfl hp d_M_divided_134 ?_
        refine zo_aload_n d_M_divided_135 rfl rfl ?_
        refine gf_M_partTo wd_722 d_M_divided_136 ?_
        refine zo_aload_n d_M_divided_139 rfl rfl ?_
        refine gf_M_found wd_719 d_M_divided_140 ?_
        refine zo_iload_n d_M_divided_143 rfl rfl ?_
        obtain ⟨hp, hf⟩ := hf
        refine zo_iast (zin (by decide) (by decide)) rfl rfl rfl hp d_M_divided_144 ?_
        refine zo_aload_n d_M_divided_145 rfl rfl ?_
        refine gf_M_partDepth wd_720 d_M_divided_146 ?_
        refine zo_aload_n d_M_divided_149 rfl rfl ?_
        refine gf_M_found wd_719 d_M_divided_150 ?_
        refine zo_iload d_M_divided_153 rfl ?_
        obtain ⟨hp, hf⟩ := hf
        refine zo_iast (zin (by decide) (by decide)) rfl rfl rfl hp d_M_divided_155 ?_
        refine zo_aload_n d_M_divided_156 rfl rfl ?_
        refine gf_M_partMulti wd_723 d_M_divided_157 ?_
        refine zo_aload_n d_M_divided_160 rfl rfl ?_
        refine gf_M_found wd_719 d_M_divided_161 ?_
        refine zo_iload d_M_divided_164 rfl ?_
        obtain ⟨hp, hf⟩ := hf
        refine zo_zast (zin (by decide) (by decide)) rfl rfl rfl hp d_M_divided_166 ?_
        refine zo_aload_n d_M_divided_167 rfl rfl ?_
        refine zo_aload_n d_M_divided_168 rfl rfl ?_
        refine gf_M_found wd_719 d_M_divided_169 ?_
        refine zo_iconst (v := 1) d_M_divided_172 (by decide) ?_
        refine zo_iadd d_M_divided_173 ?_
        refine pf_M_found wd_719 d_M_divided_174 ?_
        refine zo_iload d_M_divided_177 rfl ?_
        refine zo_if_eq (tgt := 210) d_M_divided_179 (by decide) (fun c8 => ?_) (fun c8 => ?_)
        · replace hf := hf.1 c8
          refine zo_drop 2 ?_
          refine zo_drop 3 ?_
          refine zo_drop 4 ?_
          refine zo_drop 5 ?_
          refine zo_drop 6 ?_
          exact hf
        · replace hf := hf.2 c8
          refine zo_aload_n d_M_divided_182 rfl rfl ?_
          refine zo_iload d_M_divided_183 rfl ?_
          refine zo_iload_n d_M_divided_185 rfl rfl ?_
          refine zo_icmp_ge (tgt := 196) d_M_divided_186 (by decide) (fun c7 => ?_) (fun c7 => ?_)
          · replace hf := hf.1 c7
            refine zo_iload_n d_M_divided_196 rfl rfl ?_
            refine zo_drop 2 ?_
            refine zo_drop 5 ?_
            refine zo_drop 6 ?_
            exact hf
          · replace hf := hf.2 c7
            refine zo_iload d_M_divided_189 rfl ?_
            refine zo_iconst (v := 1) d_M_divided_191 (by decide) ?_
            refine zo_iadd d_M_divided_192 ?_
            refine zo_goto (tgt := 197) d_M_divided_193 (by decide) ?_
            refine zo_drop 2 ?_
            refine zo_drop 5 ?_
            refine zo_drop 6 ?_
            exact hf
      · replace hf := hf.2 c9
        refine zo_iconst (v := 0) d_M_divided_114 (by decide) ?_
        exact zo_zretI (ty := .boolean) rfl rfl d_M_divided_115 hf
set_option maxRecDepth 100000 in
set_option maxHeartbeats 4000000 in
theorem w_M_divided_197 {d : Nat} (x3 : Int32) (x4 : Int32) (xs1 : Int32)  {h : ZH} {Q : Int32 → ZH → Prop}
    (hf : EvI d m_M_divide [vQ (some (12, 0)), vI xs1, vI x3, vI (x4 + (1 : Int32))] h (fun y2 g1 => ((¬ y2 = 0 → EvAt (d + 1) m_M_divided 210 [some (vQ (some (12, 0))), none, none, none, none, none, none] [] g1 (zQI Q)) ∧ (y2 = 0 → Q (0 : Int32) g1)))) :
    EvAt (d + 1) m_M_divided 197 [some (vQ (some (12, 0))), none, none, some (vI x3), some (vI x4), none, none] [vI xs1, vQ (some (12, 0))] h (zQI Q) := by
  refine zo_iload_n d_M_divided_197 rfl rfl ?_
  refine zo_iload d_M_divided_198 rfl ?_
  refine zo_iconst (v := 1) d_M_divided_200 (by decide) ?_
  refine zo_iadd d_M_divided_201 ?_
  refine zo_callVI (d := d) (N := m_M_divide) (as := [vI xs1, vI x3, vI (x4 + (1 : Int32))]) (n := 3) (zin (by decide) (by decide)) rfl rfl cv_M_divide wd_991 rfl rfl (Nat.le_of_ble_eq_true rfl) d_M_divided_202 hf (fun y2 g1 hf => ?_)
  refine zo_if_ne (tgt := 210) d_M_divided_205 (by decide) (fun c3 => ?_) (fun c3 => ?_)
  · replace hf := hf.1 c3
    refine zo_drop 3 ?_
    refine zo_drop 4 ?_
    exact hf
  · replace hf := hf.2 c3
    refine zo_iconst (v := 0) d_M_divided_208 (by decide) ?_
    exact zo_zretI (ty := .boolean) rfl rfl d_M_divided_209 hf
set_option maxRecDepth 100000 in
set_option maxHeartbeats 4000000 in
theorem w_M_divided_210 {d : Nat}   {h : ZH} {Q : Int32 → ZH → Prop}
    (hf : EvAt (d + 1) m_M_divided 39 [some (vQ (some (12, 0))), none, none, none, none, none, none] [] h (zQI Q)) :
    EvAt (d + 1) m_M_divided 210 [some (vQ (some (12, 0))), none, none, none, none, none, none] [] h (zQI Q) := by
  refine zo_goto (tgt := 39) d_M_divided_210 (by decide) ?_
  exact hf
set_option maxRecDepth 100000 in
set_option maxHeartbeats 4000000 in
theorem w_M_findLines_0 {d : Nat} (x1 : Int32)  {h : ZH} {Q : ZH → Prop}
    (hf : (vp_in (0 : Int32) (zLen 13 9) ∧ EvAt d m_M_findLines 18 [some (vQ (some (12, 0))), some (vI x1), some (vI (0 : Int32))] [] (zw (zw h 12 0 18 (0 : Int32)) 13 9 (0 : Int32).toNatClampNeg ((602 : Int32) * x1)) (zQV Q))) :
    EvAt d m_M_findLines 0 [some (vQ (some (12, 0))), some (vI x1), none] [] h (zQV Q) := by
  refine zo_aload_n d_M_findLines_0 rfl rfl ?_
  refine zo_iconst (v := 0) d_M_findLines_1 (by decide) ?_
  refine pf_M_lines wd_717 d_M_findLines_2 ?_
  refine zo_aload_n d_M_findLines_5 rfl rfl ?_
  refine gf_M_lineAt wd_718 d_M_findLines_6 ?_
  refine zo_iconst (v := 0) d_M_findLines_9 (by decide) ?_
  refine zo_sipush (v := 602) d_M_findLines_10 (by decide) ?_
  refine zo_iload_n d_M_findLines_13 rfl rfl ?_
  refine zo_imul d_M_findLines_14 ?_
  obtain ⟨hp, hf⟩ := hf
  refine zo_iast (zin (by decide) (by decide)) rfl rfl rfl hp d_M_findLines_15 ?_
  refine zo_iconst (v := 0) d_M_findLines_16 (by decide) ?_
  refine zo_istore_n d_M_findLines_17 rfl (Nat.le_of_ble_eq_true rfl) rfl ?_
  exact hf
theorem e_M_findLines {d : Nat} (x1 : Int32)  {h : ZH} {Q : ZH → Prop}
    (hf : (vp_in (0 : Int32) (zLen 13 9) ∧ EvAt d m_M_findLines 18 [some (vQ (some (12, 0))), some (vI x1), some (vI (0 : Int32))] [] (zw (zw h 12 0 18 (0 : Int32)) 13 9 (0 : Int32).toNatClampNeg ((602 : Int32) * x1)) (zQV Q))) :
    EvV d m_M_findLines [vQ (some (12, 0)), vI x1] h Q := zo_entry (by decide) (Nat.le_of_ble_eq_true rfl) (w_M_findLines_0 x1  hf)
set_option maxRecDepth 100000 in
set_option maxHeartbeats 4000000 in
theorem w_M_findLines_18 {d : Nat} (x1 : Int32) (x2 : Int32)  {h : ZH} {Q : ZH → Prop}
    (hf : (vp_in x1 (zLen 13 3) ∧ (((zi h 13 3 x1.toNatClampNeg) ≤ x2 → Q h) ∧ (¬ (zi h 13 3 x1.toNatClampNeg) ≤ x2 → (vp_in (((602 : Int32) * x1) + x2) (zLen 13 2) ∧ ((¬ (zi h 13 2 (((602 : Int32) * x1) + x2).toNatClampNeg) = (10 : Int32) → EvAt d m_M_findLines 73 [some (vQ (some (12, 0))), some (vI x1), some (vI x2)] [] h (zQV Q)) ∧ ((zi h 13 2 (((602 : Int32) * x1) + x2).toNatClampNeg) = (10 : Int32) → (vp_in (zi (zw h 12 0 18 ((zi h 12 0 18) + (1 : Int32))) 12 0 18) (zLen 13 9) ∧ EvAt d m_M_findLines 73 [some (vQ (some (12, 0))), some (vI x1), some (vI x2)] [] (zw (zw h 12 0 18 ((zi h 12 0 18) + (1 : Int32))) 13 9 (zi (zw h 12 0 18 ((zi h 12 0 18) + (1 : Int32))) 12 0 18).toNatClampNeg ((((602 : Int32) * x1) + x2) + (1 : Int32))) (zQV Q))))))))) :
    EvAt d m_M_findLines 18 [some (vQ (some (12, 0))), some (vI x1), some (vI x2)] [] h (zQV Q) := by
  refine zo_iload_n d_M_findLines_18 rfl rfl ?_
  refine zo_aload_n d_M_findLines_19 rfl rfl ?_
  refine gf_M_textSize wd_711 d_M_findLines_20 ?_
  refine zo_iload_n d_M_findLines_23 rfl rfl ?_
  obtain ⟨hp, hf⟩ := hf
  refine zo_iald (zin (by decide) (by decide)) rfl rfl rfl hp d_M_findLines_24 ?_
  refine zo_icmp_ge (tgt := 79) d_M_findLines_25 (by decide) (fun c2 => ?_) (fun c2 => ?_)
  · replace hf := hf.1 c2
    exact zo_vretV rfl d_M_findLines_79 hf
  · replace hf := hf.2 c2
    refine zo_aload_n d_M_findLines_28 rfl rfl ?_
    refine gf_M_texts wd_710 d_M_findLines_29 ?_
    refine zo_sipush (v := 602) d_M_findLines_32 (by decide) ?_
    refine zo_iload_n d_M_findLines_35 rfl rfl ?_
    refine zo_imul d_M_findLines_36 ?_
    refine zo_iload_n d_M_findLines_37 rfl rfl ?_
    refine zo_iadd d_M_findLines_38 ?_
    obtain ⟨hp, hf⟩ := hf
    refine zo_iald (zin (by decide) (by decide)) rfl rfl rfl hp d_M_findLines_39 ?_
    refine zo_bipush (v := 10) d_M_findLines_40 (by decide) ?_
    refine zo_icmp_ne (tgt := 73) d_M_findLines_42 (by decide) (fun c1 => ?_) (fun c1 => ?_)
    · replace hf := hf.1 c1
      exact hf
    · replace hf := hf.2 c1
      refine zo_aload_n d_M_findLines_45 rfl rfl ?_
      refine zo_aload_n d_M_findLines_46 rfl rfl ?_
      refine gf_M_lines wd_717 d_M_findLines_47 ?_
      refine zo_iconst (v := 1) d_M_findLines_50 (by decide) ?_
      refine zo_iadd d_M_findLines_51 ?_
      refine pf_M_lines wd_717 d_M_findLines_52 ?_
      refine zo_aload_n d_M_findLines_55 rfl rfl ?_
      refine gf_M_lineAt wd_718 d_M_findLines_56 ?_
      refine zo_aload_n d_M_findLines_59 rfl rfl ?_
      refine gf_M_lines wd_717 d_M_findLines_60 ?_
      refine zo_sipush (v := 602) d_M_findLines_63 (by decide) ?_
      refine zo_iload_n d_M_findLines_66 rfl rfl ?_
      refine zo_imul d_M_findLines_67 ?_
      refine zo_iload_n d_M_findLines_68 rfl rfl ?_
      refine zo_iadd d_M_findLines_69 ?_
      refine zo_iconst (v := 1) d_M_findLines_70 (by decide) ?_
      refine zo_iadd d_M_findLines_71 ?_
      obtain ⟨hp, hf⟩ := hf
      refine zo_iast (zin (by decide) (by decide)) rfl rfl rfl hp d_M_findLines_72 ?_
      exact hf
set_option maxRecDepth 100000 in
set_option maxHeartbeats 4000000 in
theorem w_M_findLines_73 {d : Nat} (x1 : Int32) (x2 : Int32)  {h : ZH} {Q : ZH → Prop}
    (hf : EvAt d m_M_findLines 18 [some (vQ (some (12, 0))), some (vI x1), some (vI (x2 + 1))] [] h (zQV Q)) :
    EvAt d m_M_findLines 73 [some (vQ (some (12, 0))), some (vI x1), some (vI x2)] [] h (zQV Q) := by
  refine zo_iinc (v := x2 + 1) d_M_findLines_73 rfl rfl (Nat.le_of_ble_eq_true rfl) rfl ?_
  refine zo_goto (tgt := 18) d_M_findLines_76 (by decide) ?_
  exact hf
set_option maxRecDepth 100000 in
set_option maxHeartbeats 4000000 in
theorem w_M_headEnd_0 {d : Nat} (x1 : Int32) (x2 : Int32)  {h : ZH} {Q : Int32 → ZH → Prop}
    (hf : EvAt (d + 1) m_M_headEnd 2 [some (vQ (some (12, 0))), none, some (vI x2), some (vI x1)] [] h (zQI Q)) :
    EvAt (d + 1) m_M_headEnd 0 [some (vQ (some (12, 0))), some (vI x1), some (vI x2), none] [] h (zQI Q) := by
  refine zo_iload_n d_M_headEnd_0 rfl rfl ?_
  refine zo_istore_n d_M_headEnd_1 rfl (Nat.le_of_ble_eq_true rfl) rfl ?_
  refine zo_drop 1 ?_
  exact hf
theorem e_M_headEnd {d : Nat} (x1 : Int32) (x2 : Int32)  {h : ZH} {Q : Int32 → ZH → Prop}
    (hf : EvAt (d + 1) m_M_headEnd 2 [some (vQ (some (12, 0))), none, some (vI x2), some (vI x1)] [] h (zQI Q)) :
    EvI (d + 1) m_M_headEnd [vQ (some (12, 0)), vI x1, vI x2] h Q := zo_entry (by decide) (Nat.le_of_ble_eq_true rfl) (w_M_headEnd_0 x1 x2  hf)
set_option maxRecDepth 100000 in
set_option maxHeartbeats 4000000 in
theorem w_M_headEnd_2 {d : Nat} (x2 : Int32) (x3 : Int32)  {h : ZH} {Q : Int32 → ZH → Prop}
    (hf : ((x2 ≤ x3 → Q x3 h) ∧ (¬ x2 ≤ x3 → EvI d m_M_isEmpty [vQ (some (12, 0)), vI x3] h (fun y2 g1 => ((¬ y2 = 0 → Q x3 g1) ∧ (y2 = 0 → EvAt (d + 1) m_M_headEnd 2 [some (vQ (some (12, 0))), none, some (vI x2), some (vI (x3 + (1 : Int32)))] [] g1 (zQI Q))))))) :
    EvAt (d + 1) m_M_headEnd 2 [some (vQ (some (12, 0))), none, some (vI x2), some (vI x3)] [] h (zQI Q) := by
  refine zo_iload_n d_M_headEnd_2 rfl rfl ?_
  refine zo_iload_n d_M_headEnd_3 rfl rfl ?_
  refine zo_icmp_ge (tgt := 22) d_M_headEnd_4 (by decide) (fun c4 => ?_) (fun c4 => ?_)
  · replace hf := hf.1 c4
    refine zo_iload_n d_M_headEnd_22 rfl rfl ?_
    exact zo_iretI rfl d_M_headEnd_23 hf
  · replace hf := hf.2 c4
    refine zo_aload_n d_M_headEnd_7 rfl rfl ?_
    refine zo_iload_n d_M_headEnd_8 rfl rfl ?_
    refine zo_callVI (d := d) (N := m_M_isEmpty) (as := [vI x3]) (n := 1) (zin (by decide) (by decide)) rfl rfl cv_M_isEmpty wd_957 rfl rfl (Nat.le_of_ble_eq_true rfl) d_M_headEnd_9 hf (fun y2 g1 hf => ?_)
    refine zo_if_ne (tgt := 22) d_M_headEnd_12 (by decide) (fun c3 => ?_) (fun c3 => ?_)
    · replace hf := hf.1 c3
      refine zo_iload_n d_M_headEnd_22 rfl rfl ?_
      exact zo_iretI rfl d_M_headEnd_23 hf
    · replace hf := hf.2 c3
      refine zo_iload_n d_M_headEnd_15 rfl rfl ?_
      refine zo_iconst (v := 1) d_M_headEnd_16 (by decide) ?_
      refine zo_iadd d_M_headEnd_17 ?_
      refine zo_istore_n d_M_headEnd_18 rfl (Nat.le_of_ble_eq_true rfl) rfl ?_
      refine zo_goto (tgt := 2) d_M_headEnd_19 (by decide) ?_
      exact hf
set_option maxRecDepth 100000 in
set_option maxHeartbeats 4000000 in
theorem w_M_isEmpty_0 {d : Nat} (x1 : Int32)  {h : ZH} {Q : Int32 → ZH → Prop}
    (hf : EvI d m_M_endOf [vQ (some (12, 0)), vI x1] h (fun y2 g1 => (vp_in x1 (zLen 13 9) ∧ ((¬ y2 = (zi g1 13 9 x1.toNatClampNeg) → Q (0 : Int32) g1) ∧ (y2 = (zi g1 13 9 x1.toNatClampNeg) → Q (1 : Int32) g1))))) :
    EvAt (d + 1) m_M_isEmpty 0 [some (vQ (some (12, 0))), some (vI x1)] [] h (zQI Q) := by
  refine zo_aload_n d_M_isEmpty_0 rfl rfl ?_
  refine zo_iload_n d_M_isEmpty_1 rfl rfl ?_
  refine zo_callVI (d := d) (N := m_M_endOf) (as := [vI x1]) (n := 1) (zin (by decide) (by decide)) rfl rfl cv_M_endOf wd_961 rfl rfl (Nat.le_of_ble_eq_true rfl) d_M_isEmpty_2 hf (fun y2 g1 hf => ?_)
  refine zo_aload_n d_M_isEmpty_5 rfl rfl ?_
  refine gf_M_lineAt wd_718 d_M_isEmpty_6 ?_
  refine zo_iload_n d_M_isEmpty_9 rfl rfl ?_
  obtain ⟨hp, hf⟩ := hf
  refine zo_iald (zin (by decide) (by decide)) rfl rfl rfl hp d_M_isEmpty_10 ?_
  refine zo_icmp_ne (tgt := 18) d_M_isEmpty_11 (by decide) (fun c3 => ?_) (fun c3 => ?_)
  · replace hf := hf.1 c3
    refine zo_iconst (v := 0) d_M_isEmpty_18 (by decide) ?_
    exact zo_zretI (ty := .boolean) rfl rfl d_M_isEmpty_19 hf
  · replace hf := hf.2 c3
    refine zo_iconst (v := 1) d_M_isEmpty_14 (by decide) ?_
    refine zo_goto (tgt := 19) d_M_isEmpty_15 (by decide) ?_
    exact zo_zretI (ty := .boolean) rfl rfl d_M_isEmpty_19 hf
theorem e_M_isEmpty {d : Nat} (x1 : Int32)  {h : ZH} {Q : Int32 → ZH → Prop}
    (hf : EvI d m_M_endOf [vQ (some (12, 0)), vI x1] h (fun y2 g1 => (vp_in x1 (zLen 13 9) ∧ ((¬ y2 = (zi g1 13 9 x1.toNatClampNeg) → Q (0 : Int32) g1) ∧ (y2 = (zi g1 13 9 x1.toNatClampNeg) → Q (1 : Int32) g1))))) :
    EvI (d + 1) m_M_isEmpty [vQ (some (12, 0)), vI x1] h Q := zo_entry (by decide) (Nat.le_of_ble_eq_true rfl) (w_M_isEmpty_0 x1  hf)
set_option maxRecDepth 100000 in
set_option maxHeartbeats 4000000 in
theorem w_M_endOf_0 {d : Nat} (x1 : Int32)  {h : ZH} {Q : Int32 → ZH → Prop}
    (hf : (vp_in (x1 + (1 : Int32)) (zLen 13 9) ∧ Q ((zi h 13 9 (x1 + (1 : Int32)).toNatClampNeg) - (1 : Int32)) h)) :
    EvAt d m_M_endOf 0 [some (vQ (some (12, 0))), some (vI x1)] [] h (zQI Q) := by
  refine zo_aload_n d_M_endOf_0 rfl rfl ?_
  refine gf_M_lineAt wd_718 d_M_endOf_1 ?_
  refine zo_iload_n d_M_endOf_4 rfl rfl ?_
  refine zo_iconst (v := 1) d_M_endOf_5 (by decide) ?_
  refine zo_iadd d_M_endOf_6 ?_
  obtain ⟨hp, hf⟩ := hf
  refine zo_iald (zin (by decide) (by decide)) rfl rfl rfl hp d_M_endOf_7 ?_
  refine zo_iconst (v := 1) d_M_endOf_8 (by decide) ?_
  refine zo_isub d_M_endOf_9 ?_
  exact zo_iretI rfl d_M_endOf_10 hf
theorem e_M_endOf {d : Nat} (x1 : Int32)  {h : ZH} {Q : Int32 → ZH → Prop}
    (hf : (vp_in (x1 + (1 : Int32)) (zLen 13 9) ∧ Q ((zi h 13 9 (x1 + (1 : Int32)).toNatClampNeg) - (1 : Int32)) h)) :
    EvI d m_M_endOf [vQ (some (12, 0)), vI x1] h Q := zo_entry (by decide) (Nat.le_of_ble_eq_true rfl) (w_M_endOf_0 x1  hf)
set_option maxRecDepth 100000 in
set_option maxHeartbeats 4000000 in
theorem w_M_rightHead_0 {d : Nat} (x1 : Int32) (x2 : Int32)  {h : ZH} {Q : Int32 → ZH → Prop}
    (hf : EvAt (d + 1) m_M_rightHead 5 [some (vQ (some (12, 0))), some (vI x1), some (vI x2), some (vI (1 : Int32)), some (vI x1)] [] h (zQI Q)) :
    EvAt (d + 1) m_M_rightHead 0 [some (vQ (some (12, 0))), some (vI x1), some (vI x2), none, none] [] h (zQI Q) := by
  refine zo_iconst (v := 1) d_M_rightHead_0 (by decide) ?_
  refine zo_istore_n d_M_rightHead_1 rfl (Nat.le_of_ble_eq_true rfl) rfl ?_
  refine zo_iload_n d_M_rightHead_2 rfl rfl ?_
  refine zo_istore d_M_rightHead_3 (Nat.le_of_ble_eq_true rfl) rfl ?_
  exact hf
theorem e_M_rightHead {d : Nat} (x1 : Int32) (x2 : Int32)  {h : ZH} {Q : Int32 → ZH → Prop}
    (hf : EvAt (d + 1) m_M_rightHead 5 [some (vQ (some (12, 0))), some (vI x1), some (vI x2), some (vI (1 : Int32)), some (vI x1)] [] h (zQI Q)) :
    EvI (d + 1) m_M_rightHead [vQ (some (12, 0)), vI x1, vI x2] h Q := zo_entry (by decide) (Nat.le_of_ble_eq_true rfl) (w_M_rightHead_0 x1 x2  hf)
set_option maxRecDepth 100000 in
set_option maxHeartbeats 4000000 in
theorem w_M_rightHead_5 {d : Nat} (x1 : Int32) (x2 : Int32) (x3 : Int32) (x4 : Int32)  {h : ZH} {Q : Int32 → ZH → Prop}
    (hf : ((x2 ≤ x4 → (narrow .boolean (.int x3) = .int x3 ∧ Q x3 h)) ∧ (¬ x2 ≤ x4 → ((x3 = 0 → EvAt (d + 1) m_M_rightHead 51 [some (vQ (some (12, 0))), some (vI x1), some (vI x2), none, some (vI x4)] [] h (zQI Q)) ∧ (¬ x3 = 0 → EvI d m_M_colon [vQ (some (12, 0)), vI x4] h (fun y2 g1 => ((0 ≤ y2 → EvAt (d + 1) m_M_rightHead 47 [some (vQ (some (12, 0))), some (vI x1), some (vI x2), none, some (vI x4)] [] g1 (zQI Q)) ∧ (¬ 0 ≤ y2 → (vp_in x4 (zLen 13 9) ∧ (vp_in (zi g1 13 9 x4.toNatClampNeg) (zLen 13 2) ∧ ((¬ (zi g1 13 2 (zi g1 13 9 x4.toNatClampNeg).toNatClampNeg) = (32 : Int32) → EvAt (d + 1) m_M_rightHead 51 [some (vQ (some (12, 0))), some (vI x1), some (vI x2), none, some (vI x4)] [] g1 (zQI Q)) ∧ ((zi g1 13 2 (zi g1 13 9 x4.toNatClampNeg).toNatClampNeg) = (32 : Int32) → ((x4 ≤ x1 → EvAt (d + 1) m_M_rightHead 51 [some (vQ (some (12, 0))), some (vI x1), some (vI x2), none, some (vI x4)] [] g1 (zQI Q)) ∧ (¬ x4 ≤ x1 → EvAt (d + 1) m_M_rightHead 47 [some (vQ (some (12, 0))), some (vI x1), some (vI x2), none, some (vI x4)] [] g1 (zQI Q))))))))))))))) :
    EvAt (d + 1) m_M_rightHead 5 [some (vQ (some (12, 0))), some (vI x1), some (vI x2), some (vI x3), some (vI x4)] [] h (zQI Q) := by
  refine zo_iload d_M_rightHead_5 rfl ?_
  refine zo_iload_n d_M_rightHead_7 rfl rfl ?_
  refine zo_icmp_ge (tgt := 59) d_M_rightHead_8 (by decide) (fun c7 => ?_) (fun c7 => ?_)
  · replace hf := hf.1 c7
    refine zo_iload_n d_M_rightHead_59 rfl rfl ?_
    exact zo_zretI (ty := .boolean) rfl hf.1 d_M_rightHead_60 hf.2
  · replace hf := hf.2 c7
    refine zo_iload_n d_M_rightHead_11 rfl rfl ?_
    refine zo_if_eq (tgt := 51) d_M_rightHead_12 (by decide) (fun c6 => ?_) (fun c6 => ?_)
    · replace hf := hf.1 c6
      refine zo_drop 3 ?_
      exact hf
    · replace hf := hf.2 c6
      refine zo_aload_n d_M_rightHead_15 rfl rfl ?_
      refine zo_iload d_M_rightHead_16 rfl ?_
      refine zo_callVI (d := d) (N := m_M_colon) (as := [vI x4]) (n := 1) (zin (by decide) (by decide)) rfl rfl cv_M_colon wd_969 rfl rfl (Nat.le_of_ble_eq_true rfl) d_M_rightHead_18 hf (fun y2 g1 hf => ?_)
      refine zo_if_ge (tgt := 47) d_M_rightHead_21 (by decide) (fun c5 => ?_) (fun c5 => ?_)
      · replace hf := hf.1 c5
        refine zo_drop 3 ?_
        exact hf
      · replace hf := hf.2 c5
        refine zo_aload_n d_M_rightHead_24 rfl rfl ?_
        refine gf_M_texts wd_710 d_M_rightHead_25 ?_
        refine zo_aload_n d_M_rightHead_28 rfl rfl ?_
        refine gf_M_lineAt wd_718 d_M_rightHead_29 ?_
        refine zo_iload d_M_rightHead_32 rfl ?_
        obtain ⟨hp, hf⟩ := hf
        refine zo_iald (zin (by decide) (by decide)) rfl rfl rfl hp d_M_rightHead_34 ?_
        obtain ⟨hp, hf⟩ := hf
        refine zo_iald (zin (by decide) (by decide)) rfl rfl rfl hp d_M_rightHead_35 ?_
        refine zo_bipush (v := 32) d_M_rightHead_36 (by decide) ?_
        refine zo_icmp_ne (tgt := 51) d_M_rightHead_38 (by decide) (fun c4 => ?_) (fun c4 => ?_)
        · replace hf := hf.1 c4
          refine zo_drop 3 ?_
          exact hf
        · replace hf := hf.2 c4
          refine zo_iload d_M_rightHead_41 rfl ?_
          refine zo_iload_n d_M_rightHead_43 rfl rfl ?_
          refine zo_icmp_le (tgt := 51) d_M_rightHead_44 (by decide) (fun c3 => ?_) (fun c3 => ?_)
          · replace hf := hf.1 c3
            refine zo_drop 3 ?_
            exact hf
          · replace hf := hf.2 c3
            refine zo_drop 3 ?_
            exact hf
set_option maxRecDepth 100000 in
set_option maxHeartbeats 4000000 in
theorem w_M_rightHead_47 {d : Nat} (x1 : Int32) (x2 : Int32) (x4 : Int32)  {h : ZH} {Q : Int32 → ZH → Prop}
    (hf : EvAt (d + 1) m_M_rightHead 52 [some (vQ (some (12, 0))), some (vI x1), some (vI x2), none, some (vI x4)] [vI (1 : Int32)] h (zQI Q)) :
    EvAt (d + 1) m_M_rightHead 47 [some (vQ (some (12, 0))), some (vI x1), some (vI x2), none, some (vI x4)] [] h (zQI Q) := by
  refine zo_iconst (v := 1) d_M_rightHead_47 (by decide) ?_
  refine zo_goto (tgt := 52) d_M_rightHead_48 (by decide) ?_
  exact hf
set_option maxRecDepth 100000 in
set_option maxHeartbeats 4000000 in
theorem w_M_rightHead_51 {d : Nat} (x1 : Int32) (x2 : Int32) (x4 : Int32)  {h : ZH} {Q : Int32 → ZH → Prop}
    (hf : EvAt (d + 1) m_M_rightHead 52 [some (vQ (some (12, 0))), some (vI x1), some (vI x2), none, some (vI x4)] [vI (0 : Int32)] h (zQI Q)) :
    EvAt (d + 1) m_M_rightHead 51 [some (vQ (some (12, 0))), some (vI x1), some (vI x2), none, some (vI x4)] [] h (zQI Q) := by
  refine zo_iconst (v := 0) d_M_rightHead_51 (by decide) ?_
  exact hf
set_option maxRecDepth 100000 in
set_option maxHeartbeats 4000000 in
theorem w_M_rightHead_52 {d : Nat} (x1 : Int32) (x2 : Int32) (x4 : Int32) (xs0 : Int32)  {h : ZH} {Q : Int32 → ZH → Prop}
    (hf : EvAt (d + 1) m_M_rightHead 5 [some (vQ (some (12, 0))), some (vI x1), some (vI x2), some (vI xs0), some (vI (x4 + 1))] [] h (zQI Q)) :
    EvAt (d + 1) m_M_rightHead 52 [some (vQ (some (12, 0))), some (vI x1), some (vI x2), none, some (vI x4)] [vI xs0] h (zQI Q) := by
  refine zo_istore_n d_M_rightHead_52 rfl (Nat.le_of_ble_eq_true rfl) rfl ?_
  refine zo_iinc (v := x4 + 1) d_M_rightHead_53 rfl rfl (Nat.le_of_ble_eq_true rfl) rfl ?_
  refine zo_goto (tgt := 5) d_M_rightHead_56 (by decide) ?_
  exact hf
set_option maxRecDepth 100000 in
set_option maxHeartbeats 4000000 in
theorem w_M_colon_0 {d : Nat} (x1 : Int32)  {h : ZH} {Q : Int32 → ZH → Prop}
    (hf : (vp_in x1 (zLen 13 9) ∧ EvAt (d + 1) m_M_colon 7 [some (vQ (some (12, 0))), some (vI x1), some (vI (zi h 13 9 x1.toNatClampNeg))] [] h (zQI Q))) :
    EvAt (d + 1) m_M_colon 0 [some (vQ (some (12, 0))), some (vI x1), none] [] h (zQI Q) := by
  refine zo_aload_n d_M_colon_0 rfl rfl ?_
  refine gf_M_lineAt wd_718 d_M_colon_1 ?_
  refine zo_iload_n d_M_colon_4 rfl rfl ?_
  obtain ⟨hp, hf⟩ := hf
  refine zo_iald (zin (by decide) (by decide)) rfl rfl rfl hp d_M_colon_5 ?_
  refine zo_istore_n d_M_colon_6 rfl (Nat.le_of_ble_eq_true rfl) rfl ?_
  exact hf
theorem e_M_colon {d : Nat} (x1 : Int32)  {h : ZH} {Q : Int32 → ZH → Prop}
    (hf : (vp_in x1 (zLen 13 9) ∧ EvAt (d + 1) m_M_colon 7 [some (vQ (some (12, 0))), some (vI x1), some (vI (zi h 13 9 x1.toNatClampNeg))] [] h (zQI Q))) :
    EvI (d + 1) m_M_colon [vQ (some (12, 0)), vI x1] h Q := zo_entry (by decide) (Nat.le_of_ble_eq_true rfl) (w_M_colon_0 x1  hf)
set_option maxRecDepth 100000 in
set_option maxHeartbeats 4000000 in
theorem w_M_colon_7 {d : Nat} (x1 : Int32) (x2 : Int32)  {h : ZH} {Q : Int32 → ZH → Prop}
    (hf : EvI d m_M_endOf [vQ (some (12, 0)), vI x1] h (fun y2 g1 => ((y2 ≤ x2 → EvAt (d + 1) m_M_colon 46 [some (vQ (some (12, 0))), some (vI x1), some (vI x2)] [] g1 (zQI Q)) ∧ (¬ y2 ≤ x2 → (vp_in x2 (zLen 13 2) ∧ EvI d m_M_isAlnum [vI (zi g1 13 2 x2.toNatClampNeg)] g1 (fun y4 g3 => ((¬ y4 = 0 → EvAt (d + 1) m_M_colon 39 [some (vQ (some (12, 0))), some (vI x1), some (vI x2)] [] g3 (zQI Q)) ∧ (y4 = 0 → (vp_in x2 (zLen 13 2) ∧ ((¬ (zi g3 13 2 x2.toNatClampNeg) = (45 : Int32) → EvAt (d + 1) m_M_colon 46 [some (vQ (some (12, 0))), some (vI x1), some (vI x2)] [] g3 (zQI Q)) ∧ ((zi g3 13 2 x2.toNatClampNeg) = (45 : Int32) → EvAt (d + 1) m_M_colon 39 [some (vQ (some (12, 0))), some (vI x1), some (vI x2)] [] g3 (zQI Q)))))))))))) :
    EvAt (d + 1) m_M_colon 7 [some (vQ (some (12, 0))), some (vI x1), some (vI x2)] [] h (zQI Q) := by
  refine zo_iload_n d_M_colon_7 rfl rfl ?_
  refine zo_aload_n d_M_colon_8 rfl rfl ?_
  refine zo_iload_n d_M_colon_9 rfl rfl ?_
  refine zo_callVI (d := d) (N := m_M_endOf) (as := [vI x1]) (n := 1) (zin (by decide) (by decide)) rfl rfl cv_M_endOf wd_961 rfl rfl (Nat.le_of_ble_eq_true rfl) d_M_colon_10 hf (fun y2 g1 hf => ?_)
  refine zo_icmp_ge (tgt := 46) d_M_colon_13 (by decide) (fun c7 => ?_) (fun c7 => ?_)
  · replace hf := hf.1 c7
    exact hf
  · replace hf := hf.2 c7
    refine zo_aload_n d_M_colon_16 rfl rfl ?_
    refine gf_M_texts wd_710 d_M_colon_17 ?_
    refine zo_iload_n d_M_colon_20 rfl rfl ?_
    obtain ⟨hp, hf⟩ := hf
    refine zo_iald (zin (by decide) (by decide)) rfl rfl rfl hp d_M_colon_21 ?_
    refine zo_callSI (d := d) (N := m_M_isAlnum) (as := [vI (zi g1 13 2 x2.toNatClampNeg)]) (n := 1) cs_M_isAlnum wd_862 rfl rfl (Nat.le_of_ble_eq_true rfl) d_M_colon_22 hf (fun y4 g3 hf => ?_)
    refine zo_if_ne (tgt := 39) d_M_colon_25 (by decide) (fun c6 => ?_) (fun c6 => ?_)
    · replace hf := hf.1 c6
      exact hf
    · replace hf := hf.2 c6
      refine zo_aload_n d_M_colon_28 rfl rfl ?_
      refine gf_M_texts wd_710 d_M_colon_29 ?_
      refine zo_iload_n d_M_colon_32 rfl rfl ?_
      obtain ⟨hp, hf⟩ := hf
      refine zo_iald (zin (by decide) (by decide)) rfl rfl rfl hp d_M_colon_33 ?_
      refine zo_bipush (v := 45) d_M_colon_34 (by decide) ?_
      refine zo_icmp_ne (tgt := 46) d_M_colon_36 (by decide) (fun c5 => ?_) (fun c5 => ?_)
      · replace hf := hf.1 c5
        exact hf
      · replace hf := hf.2 c5
        exact hf
set_option maxRecDepth 100000 in
set_option maxHeartbeats 4000000 in
theorem w_M_colon_39 {d : Nat} (x1 : Int32) (x2 : Int32)  {h : ZH} {Q : Int32 → ZH → Prop}
    (hf : EvAt (d + 1) m_M_colon 7 [some (vQ (some (12, 0))), some (vI x1), some (vI (x2 + (1 : Int32)))] [] h (zQI Q)) :
    EvAt (d + 1) m_M_colon 39 [some (vQ (some (12, 0))), some (vI x1), some (vI x2)] [] h (zQI Q) := by
  refine zo_iload_n d_M_colon_39 rfl rfl ?_
  refine zo_iconst (v := 1) d_M_colon_40 (by decide) ?_
  refine zo_iadd d_M_colon_41 ?_
  refine zo_istore_n d_M_colon_42 rfl (Nat.le_of_ble_eq_true rfl) rfl ?_
  refine zo_goto (tgt := 7) d_M_colon_43 (by decide) ?_
  exact hf
set_option maxRecDepth 100000 in
set_option maxHeartbeats 4000000 in
theorem w_M_colon_46 {d : Nat} (x1 : Int32) (x2 : Int32)  {h : ZH} {Q : Int32 → ZH → Prop}
    (hf : EvI d m_M_endOf [vQ (some (12, 0)), vI x1] h (fun y2 g1 => ((y2 ≤ x2 → Q (-1 : Int32) g1) ∧ (¬ y2 ≤ x2 → (vp_in x1 (zLen 13 9) ∧ ((x2 ≤ (zi g1 13 9 x1.toNatClampNeg) → Q (-1 : Int32) g1) ∧ (¬ x2 ≤ (zi g1 13 9 x1.toNatClampNeg) → (vp_in x2 (zLen 13 2) ∧ ((¬ (zi g1 13 2 x2.toNatClampNeg) = (58 : Int32) → Q (-1 : Int32) g1) ∧ ((zi g1 13 2 x2.toNatClampNeg) = (58 : Int32) → Q x2 g1)))))))))) :
    EvAt (d + 1) m_M_colon 46 [some (vQ (some (12, 0))), some (vI x1), some (vI x2)] [] h (zQI Q) := by
  refine zo_iload_n d_M_colon_46 rfl rfl ?_
  refine zo_aload_n d_M_colon_47 rfl rfl ?_
  refine zo_iload_n d_M_colon_48 rfl rfl ?_
  refine zo_callVI (d := d) (N := m_M_endOf) (as := [vI x1]) (n := 1) (zin (by decide) (by decide)) rfl rfl cv_M_endOf wd_961 rfl rfl (Nat.le_of_ble_eq_true rfl) d_M_colon_49 hf (fun y2 g1 hf => ?_)
  refine zo_icmp_ge (tgt := 80) d_M_colon_52 (by decide) (fun c5 => ?_) (fun c5 => ?_)
  · replace hf := hf.1 c5
    refine zo_iconst (v := (-1)) d_M_colon_80 (by decide) ?_
    exact zo_iretI rfl d_M_colon_81 hf
  · replace hf := hf.2 c5
    refine zo_iload_n d_M_colon_55 rfl rfl ?_
    refine zo_aload_n d_M_colon_56 rfl rfl ?_
    refine gf_M_lineAt wd_718 d_M_colon_57 ?_
    refine zo_iload_n d_M_colon_60 rfl rfl ?_
    obtain ⟨hp, hf⟩ := hf
    refine zo_iald (zin (by decide) (by decide)) rfl rfl rfl hp d_M_colon_61 ?_
    refine zo_icmp_le (tgt := 80) d_M_colon_62 (by decide) (fun c4 => ?_) (fun c4 => ?_)
    · replace hf := hf.1 c4
      refine zo_iconst (v := (-1)) d_M_colon_80 (by decide) ?_
      exact zo_iretI rfl d_M_colon_81 hf
    · replace hf := hf.2 c4
      refine zo_aload_n d_M_colon_65 rfl rfl ?_
      refine gf_M_texts wd_710 d_M_colon_66 ?_
      refine zo_iload_n d_M_colon_69 rfl rfl ?_
      obtain ⟨hp, hf⟩ := hf
      refine zo_iald (zin (by decide) (by decide)) rfl rfl rfl hp d_M_colon_70 ?_
      refine zo_bipush (v := 58) d_M_colon_71 (by decide) ?_
      refine zo_icmp_ne (tgt := 80) d_M_colon_73 (by decide) (fun c3 => ?_) (fun c3 => ?_)
      · replace hf := hf.1 c3
        refine zo_iconst (v := (-1)) d_M_colon_80 (by decide) ?_
        exact zo_iretI rfl d_M_colon_81 hf
      · replace hf := hf.2 c3
        refine zo_iload_n d_M_colon_76 rfl rfl ?_
        refine zo_goto (tgt := 81) d_M_colon_77 (by decide) ?_
        exact zo_iretI rfl d_M_colon_81 hf
set_option maxRecDepth 100000 in
set_option maxHeartbeats 4000000 in
theorem w_M_isMulti_0 {d : Nat} (x1 : Int32) (x2 : Int32)  {h : ZH} {Q : Int32 → ZH → Prop}
    (hf : EvAt (d + 1) m_M_isMulti 2 [some (vQ (some (12, 0))), none, some (vI x2), some (vI x1), none] [] h (zQI Q)) :
    EvAt (d + 1) m_M_isMulti 0 [some (vQ (some (12, 0))), some (vI x1), some (vI x2), none, none] [] h (zQI Q) := by
  refine zo_iload_n d_M_isMulti_0 rfl rfl ?_
  refine zo_istore_n d_M_isMulti_1 rfl (Nat.le_of_ble_eq_true rfl) rfl ?_
  refine zo_drop 1 ?_
  exact hf
theorem e_M_isMulti {d : Nat} (x1 : Int32) (x2 : Int32)  {h : ZH} {Q : Int32 → ZH → Prop}
    (hf : EvAt (d + 1) m_M_isMulti 2 [some (vQ (some (12, 0))), none, some (vI x2), some (vI x1), none] [] h (zQI Q)) :
    EvI (d + 1) m_M_isMulti [vQ (some (12, 0)), vI x1, vI x2] h Q := zo_entry (by decide) (Nat.le_of_ble_eq_true rfl) (w_M_isMulti_0 x1 x2  hf)
set_option maxRecDepth 100000 in
set_option maxHeartbeats 4000000 in
theorem w_M_isMulti_2 {d : Nat} (x2 : Int32) (x3 : Int32)  {h : ZH} {Q : Int32 → ZH → Prop}
    (hf : ((x2 ≤ x3 → Q (0 : Int32) h) ∧ (¬ x2 ≤ x3 → EvI d m_M_colon [vQ (some (12, 0)), vI x3] h (fun y2 g1 => (vp_in x3 (zLen 13 9) ∧ ((¬ y2 = ((zi g1 13 9 x3.toNatClampNeg) + (12 : Int32)) → EvAt (d + 1) m_M_isMulti 61 [some (vQ (some (12, 0))), none, some (vI x2), some (vI x3), none] [] g1 (zQI Q)) ∧ (y2 = ((zi g1 13 9 x3.toNatClampNeg) + (12 : Int32)) → (vp_in x3 (zLen 13 9) ∧ EvI d m_M_matches [vQ (some (12, 0)), vI (zi g1 13 9 x3.toNatClampNeg), vI y2, vL (3275364211029340003 : Int64), vL (1701869940 : Int64), vI (12 : Int32)] g1 (fun y4 g3 => ((y4 = 0 → EvAt (d + 1) m_M_isMulti 61 [some (vQ (some (12, 0))), none, some (vI x2), some (vI x3), none] [] g3 (zQI Q)) ∧ (¬ y4 = 0 → EvI d m_M_boundary [vQ (some (12, 0)), vI x3, vI (y2 + (1 : Int32))] g3 (fun y6 g5 => (narrow .boolean (.int y6) = .int y6 ∧ Q y6 g5))))))))))))) :
    EvAt (d + 1) m_M_isMulti 2 [some (vQ (some (12, 0))), none, some (vI x2), some (vI x3), none] [] h (zQI Q) := by
  refine zo_iload_n d_M_isMulti_2 rfl rfl ?_
  refine zo_iload_n d_M_isMulti_3 rfl rfl ?_
  refine zo_icmp_ge (tgt := 67) d_M_isMulti_4 (by decide) (fun c9 => ?_) (fun c9 => ?_)
  · replace hf := hf.1 c9
    refine zo_iconst (v := 0) d_M_isMulti_67 (by decide) ?_
    exact zo_zretI (ty := .boolean) rfl rfl d_M_isMulti_68 hf
  · replace hf := hf.2 c9
    refine zo_aload_n d_M_isMulti_7 rfl rfl ?_
    refine zo_iload_n d_M_isMulti_8 rfl rfl ?_
    refine zo_callVI (d := d) (N := m_M_colon) (as := [vI x3]) (n := 1) (zin (by decide) (by decide)) rfl rfl cv_M_colon wd_969 rfl rfl (Nat.le_of_ble_eq_true rfl) d_M_isMulti_9 hf (fun y2 g1 hf => ?_)
    refine zo_istore d_M_isMulti_12 (Nat.le_of_ble_eq_true rfl) rfl ?_
    refine zo_iload d_M_isMulti_14 rfl ?_
    refine zo_aload_n d_M_isMulti_16 rfl rfl ?_
    refine gf_M_lineAt wd_718 d_M_isMulti_17 ?_
    refine zo_iload_n d_M_isMulti_20 rfl rfl ?_
    obtain ⟨hp, hf⟩ := hf
    refine zo_iald (zin (by decide) (by decide)) rfl rfl rfl hp d_M_isMulti_21 ?_
    refine zo_bipush (v := 12) d_M_isMulti_22 (by decide) ?_
    refine zo_iadd d_M_isMulti_24 ?_
    refine zo_icmp_ne (tgt := 61) d_M_isMulti_25 (by decide) (fun c8 => ?_) (fun c8 => ?_)
    · replace hf := hf.1 c8
      refine zo_drop 4 ?_
      exact hf
    · replace hf := hf.2 c8
      refine zo_aload_n d_M_isMulti_28 rfl rfl ?_
      refine zo_aload_n d_M_isMulti_29 rfl rfl ?_
      refine gf_M_lineAt wd_718 d_M_isMulti_30 ?_
      refine zo_iload_n d_M_isMulti_33 rfl rfl ?_
      obtain ⟨hp, hf⟩ := hf
      refine zo_iald (zin (by decide) (by decide)) rfl rfl rfl hp d_M_isMulti_34 ?_
      refine zo_iload d_M_isMulti_35 rfl ?_
      refine zo_ldc2 wd_977 d_M_isMulti_37 ?_
      refine zo_ldc2 wd_978 d_M_isMulti_40 ?_
      refine zo_bipush (v := 12) d_M_isMulti_43 (by decide) ?_
      refine zo_callVI (d := d) (N := m_M_matches) (as := [vI (zi g1 13 9 x3.toNatClampNeg), vI y2, vL (3275364211029340003 : Int64), vL (1701869940 : Int64), vI (12 : Int32)]) (n := 5) (zin (by decide) (by decide)) rfl rfl cv_M_matches wd_979 rfl rfl (Nat.le_of_ble_eq_true rfl) d_M_isMulti_45 hf (fun y4 g3 hf => ?_)
      refine zo_if_eq (tgt := 61) d_M_isMulti_48 (by decide) (fun c7 => ?_) (fun c7 => ?_)
      · replace hf := hf.1 c7
        refine zo_drop 4 ?_
        exact hf
      · replace hf := hf.2 c7
        refine zo_aload_n d_M_isMulti_51 rfl rfl ?_
        refine zo_iload_n d_M_isMulti_52 rfl rfl ?_
        refine zo_iload d_M_isMulti_53 rfl ?_
        refine zo_iconst (v := 1) d_M_isMulti_55 (by decide) ?_
        refine zo_iadd d_M_isMulti_56 ?_
        refine zo_callVI (d := d) (N := m_M_boundary) (as := [vI x3, vI (y2 + (1 : Int32))]) (n := 2) (zin (by decide) (by decide)) rfl rfl cv_M_boundary wd_983 rfl rfl (Nat.le_of_ble_eq_true rfl) d_M_isMulti_57 hf (fun y6 g5 hf => ?_)
        exact zo_zretI (ty := .boolean) rfl hf.1 d_M_isMulti_60 hf.2
set_option maxRecDepth 100000 in
set_option maxHeartbeats 4000000 in
theorem w_M_isMulti_61 {d : Nat} (x2 : Int32) (x3 : Int32)  {h : ZH} {Q : Int32 → ZH → Prop}
    (hf : EvAt (d + 1) m_M_isMulti 2 [some (vQ (some (12, 0))), none, some (vI x2), some (vI (x3 + 1)), none] [] h (zQI Q)) :
    EvAt (d + 1) m_M_isMulti 61 [some (vQ (some (12, 0))), none, some (vI x2), some (vI x3), none] [] h (zQI Q) := by
  refine zo_iinc (v := x3 + 1) d_M_isMulti_61 rfl rfl (Nat.le_of_ble_eq_true rfl) rfl ?_
  refine zo_goto (tgt := 2) d_M_isMulti_64 (by decide) ?_
  exact hf
set_option maxRecDepth 100000 in
set_option maxHeartbeats 4000000 in
theorem w_M_matches_0 {d : Nat} (x1 : Int32) (x2 : Int32) (x3 : Int64) (x5 : Int64) (x7 : Int32)  {h : ZH} {Q : Int32 → ZH → Prop}
    (hf : ((x2 < (x1 + x7) → EvAt (d + 1) m_M_matches 13 [some (vQ (some (12, 0))), some (vI x1), none, some (vL x3), none, some (vL x5), none, some (vI x7), none, none] [vI (0 : Int32)] h (zQI Q)) ∧ (¬ x2 < (x1 + x7) → EvAt (d + 1) m_M_matches 13 [some (vQ (some (12, 0))), some (vI x1), none, some (vL x3), none, some (vL x5), none, some (vI x7), none, none] [vI (1 : Int32)] h (zQI Q)))) :
    EvAt (d + 1) m_M_matches 0 [some (vQ (some (12, 0))), some (vI x1), some (vI x2), some (vL x3), none, some (vL x5), none, some (vI x7), none, none] [] h (zQI Q) := by
  refine zo_iload_n d_M_matches_0 rfl rfl ?_
  refine zo_iload d_M_matches_1 rfl ?_
  refine zo_iadd d_M_matches_3 ?_
  refine zo_iload_n d_M_matches_4 rfl rfl ?_
  refine zo_icmp_gt (tgt := 12) d_M_matches_5 (by decide) (fun c1 => ?_) (fun c1 => ?_)
  · replace hf := hf.1 c1
    refine zo_iconst (v := 0) d_M_matches_12 (by decide) ?_
    refine zo_drop 2 ?_
    exact hf
  · replace hf := hf.2 c1
    refine zo_iconst (v := 1) d_M_matches_8 (by decide) ?_
    refine zo_goto (tgt := 13) d_M_matches_9 (by decide) ?_
    refine zo_drop 2 ?_
    exact hf
theorem e_M_matches {d : Nat} (x1 : Int32) (x2 : Int32) (x3 : Int64) (x5 : Int64) (x7 : Int32)  {h : ZH} {Q : Int32 → ZH → Prop}
    (hf : ((x2 < (x1 + x7) → EvAt (d + 1) m_M_matches 13 [some (vQ (some (12, 0))), some (vI x1), none, some (vL x3), none, some (vL x5), none, some (vI x7), none, none] [vI (0 : Int32)] h (zQI Q)) ∧ (¬ x2 < (x1 + x7) → EvAt (d + 1) m_M_matches 13 [some (vQ (some (12, 0))), some (vI x1), none, some (vL x3), none, some (vL x5), none, some (vI x7), none, none] [vI (1 : Int32)] h (zQI Q)))) :
    EvI (d + 1) m_M_matches [vQ (some (12, 0)), vI x1, vI x2, vL x3, vL x5, vI x7] h Q := zo_entry (by decide) (Nat.le_of_ble_eq_true rfl) (w_M_matches_0 x1 x2 x3 x5 x7  hf)
set_option maxRecDepth 100000 in
set_option maxHeartbeats 4000000 in
theorem w_M_matches_13 {d : Nat} (x1 : Int32) (x3 : Int64) (x5 : Int64) (x7 : Int32) (xs0 : Int32)  {h : ZH} {Q : Int32 → ZH → Prop}
    (hf : EvAt (d + 1) m_M_matches 18 [some (vQ (some (12, 0))), some (vI x1), none, some (vL x3), none, some (vL x5), none, some (vI x7), some (vI xs0), some (vI (0 : Int32))] [] h (zQI Q)) :
    EvAt (d + 1) m_M_matches 13 [some (vQ (some (12, 0))), some (vI x1), none, some (vL x3), none, some (vL x5), none, some (vI x7), none, none] [vI xs0] h (zQI Q) := by
  refine zo_istore d_M_matches_13 (Nat.le_of_ble_eq_true rfl) rfl ?_
  refine zo_iconst (v := 0) d_M_matches_15 (by decide) ?_
  refine zo_istore d_M_matches_16 (Nat.le_of_ble_eq_true rfl) rfl ?_
  exact hf
set_option maxRecDepth 100000 in
set_option maxHeartbeats 4000000 in
theorem w_M_matches_18 {d : Nat} (x1 : Int32) (x3 : Int64) (x5 : Int64) (x7 : Int32) (x8 : Int32) (x9 : Int32)  {h : ZH} {Q : Int32 → ZH → Prop}
    (hf : ((x7 ≤ x9 → (narrow .boolean (.int x8) = .int x8 ∧ Q x8 h)) ∧ (¬ x7 ≤ x9 → ((x8 = 0 → (narrow .boolean (.int x8) = .int x8 ∧ Q x8 h)) ∧ (¬ x8 = 0 → (vp_in (x1 + x9) (zLen 13 2) ∧ EvI d m_M_lower [vI (zi h 13 2 (x1 + x9).toNatClampNeg)] h (fun y2 g1 => EvI d m_M_at [vL x3, vL x5, vI x9] g1 (fun y4 g3 => ((¬ y2 = y4 → EvAt (d + 1) m_M_matches 58 [some (vQ (some (12, 0))), some (vI x1), none, some (vL x3), none, some (vL x5), none, some (vI x7), none, some (vI x9)] [vI (0 : Int32)] g3 (zQI Q)) ∧ (y2 = y4 → EvAt (d + 1) m_M_matches 58 [some (vQ (some (12, 0))), some (vI x1), none, some (vL x3), none, some (vL x5), none, some (vI x7), none, some (vI x9)] [vI (1 : Int32)] g3 (zQI Q))))))))))) :
    EvAt (d + 1) m_M_matches 18 [some (vQ (some (12, 0))), some (vI x1), none, some (vL x3), none, some (vL x5), none, some (vI x7), some (vI x8), some (vI x9)] [] h (zQI Q) := by
  refine zo_iload d_M_matches_18 rfl ?_
  refine zo_iload d_M_matches_20 rfl ?_
  refine zo_icmp_ge (tgt := 66) d_M_matches_22 (by decide) (fun c7 => ?_) (fun c7 => ?_)
  · replace hf := hf.1 c7
    refine zo_iload d_M_matches_66 rfl ?_
    exact zo_zretI (ty := .boolean) rfl hf.1 d_M_matches_68 hf.2
  · replace hf := hf.2 c7
    refine zo_iload d_M_matches_25 rfl ?_
    refine zo_if_eq (tgt := 66) d_M_matches_27 (by decide) (fun c6 => ?_) (fun c6 => ?_)
    · replace hf := hf.1 c6
      refine zo_iload d_M_matches_66 rfl ?_
      exact zo_zretI (ty := .boolean) rfl hf.1 d_M_matches_68 hf.2
    · replace hf := hf.2 c6
      refine zo_aload_n d_M_matches_30 rfl rfl ?_
      refine gf_M_texts wd_710 d_M_matches_31 ?_
      refine zo_iload_n d_M_matches_34 rfl rfl ?_
      refine zo_iload d_M_matches_35 rfl ?_
      refine zo_iadd d_M_matches_37 ?_
      obtain ⟨hp, hf⟩ := hf
      refine zo_iald (zin (by decide) (by decide)) rfl rfl rfl hp d_M_matches_38 ?_
      refine zo_callSI (d := d) (N := m_M_lower) (as := [vI (zi h 13 2 (x1 + x9).toNatClampNeg)]) (n := 1) cs_M_lower wd_843 rfl rfl (Nat.le_of_ble_eq_true rfl) d_M_matches_39 hf (fun y2 g1 hf => ?_)
      refine zo_lload_n d_M_matches_42 rfl rfl ?_
      refine zo_lload d_M_matches_43 rfl ?_
      refine zo_iload d_M_matches_45 rfl ?_
      refine zo_callSI (d := d) (N := m_M_at) (as := [vL x3, vL x5, vI x9]) (n := 3) cs_M_at wd_930 rfl rfl (Nat.le_of_ble_eq_true rfl) d_M_matches_47 hf (fun y4 g3 hf => ?_)
      refine zo_icmp_ne (tgt := 57) d_M_matches_50 (by decide) (fun c5 => ?_) (fun c5 => ?_)
      · replace hf := hf.1 c5
        refine zo_iconst (v := 0) d_M_matches_57 (by decide) ?_
        refine zo_drop 8 ?_
        exact hf
      · replace hf := hf.2 c5
        refine zo_iconst (v := 1) d_M_matches_53 (by decide) ?_
        refine zo_goto (tgt := 58) d_M_matches_54 (by decide) ?_
        refine zo_drop 8 ?_
        exact hf
set_option maxRecDepth 100000 in
set_option maxHeartbeats 4000000 in
theorem w_M_matches_58 {d : Nat} (x1 : Int32) (x3 : Int64) (x5 : Int64) (x7 : Int32) (x9 : Int32) (xs0 : Int32)  {h : ZH} {Q : Int32 → ZH → Prop}
    (hf : EvAt (d + 1) m_M_matches 18 [some (vQ (some (12, 0))), some (vI x1), none, some (vL x3), none, some (vL x5), none, some (vI x7), some (vI xs0), some (vI (x9 + 1))] [] h (zQI Q)) :
    EvAt (d + 1) m_M_matches 58 [some (vQ (some (12, 0))), some (vI x1), none, some (vL x3), none, some (vL x5), none, some (vI x7), none, some (vI x9)] [vI xs0] h (zQI Q) := by
  refine zo_istore d_M_matches_58 (Nat.le_of_ble_eq_true rfl) rfl ?_
  refine zo_iinc (v := x9 + 1) d_M_matches_60 rfl rfl (Nat.le_of_ble_eq_true rfl) rfl ?_
  refine zo_goto (tgt := 18) d_M_matches_63 (by decide) ?_
  exact hf
set_option maxRecDepth 100000 in
set_option maxHeartbeats 4000000 in
theorem w_M_boundary_0 {d : Nat} (x1 : Int32) (x2 : Int32)  {h : ZH} {Q : Int32 → ZH → Prop}
    (hf : EvI d m_M_endOf [vQ (some (12, 0)), vI x1] h (fun y2 g1 => EvAt (d + 1) m_M_boundary 9 [some (vQ (some (12, 0))), none, none, some (vI x2), some (vI y2)] [] g1 (zQI Q))) :
    EvAt (d + 1) m_M_boundary 0 [some (vQ (some (12, 0))), some (vI x1), some (vI x2), none, none] [] h (zQI Q) := by
  refine zo_iload_n d_M_boundary_0 rfl rfl ?_
  refine zo_istore_n d_M_boundary_1 rfl (Nat.le_of_ble_eq_true rfl) rfl ?_
  refine zo_aload_n d_M_boundary_2 rfl rfl ?_
  refine zo_iload_n d_M_boundary_3 rfl rfl ?_
  refine zo_callVI (d := d) (N := m_M_endOf) (as := [vI x1]) (n := 1) (zin (by decide) (by decide)) rfl rfl cv_M_endOf wd_961 rfl rfl (Nat.le_of_ble_eq_true rfl) d_M_boundary_4 hf (fun y2 g1 hf => ?_)
  refine zo_istore d_M_boundary_7 (Nat.le_of_ble_eq_true rfl) rfl ?_
  refine zo_drop 1 ?_
  refine zo_drop 2 ?_
  exact hf
theorem e_M_boundary {d : Nat} (x1 : Int32) (x2 : Int32)  {h : ZH} {Q : Int32 → ZH → Prop}
    (hf : EvI d m_M_endOf [vQ (some (12, 0)), vI x1] h (fun y2 g1 => EvAt (d + 1) m_M_boundary 9 [some (vQ (some (12, 0))), none, none, some (vI x2), some (vI y2)] [] g1 (zQI Q))) :
    EvI (d + 1) m_M_boundary [vQ (some (12, 0)), vI x1, vI x2] h Q := zo_entry (by decide) (Nat.le_of_ble_eq_true rfl) (w_M_boundary_0 x1 x2  hf)
set_option maxRecDepth 100000 in
set_option maxHeartbeats 4000000 in
theorem w_M_boundary_9 {d : Nat} (x3 : Int32) (x4 : Int32)  {h : ZH} {Q : Int32 → ZH → Prop}
    (hf : ((x4 ≤ x3 → EvAt (d + 1) m_M_boundary 33 [some (vQ (some (12, 0))), none, none, some (vI x3), some (vI x4)] [] h (zQI Q)) ∧ (¬ x4 ≤ x3 → (vp_in x3 (zLen 13 2) ∧ ((¬ (zi h 13 2 x3.toNatClampNeg) = (32 : Int32) → EvAt (d + 1) m_M_boundary 33 [some (vQ (some (12, 0))), none, none, some (vI x3), some (vI x4)] [] h (zQI Q)) ∧ ((zi h 13 2 x3.toNatClampNeg) = (32 : Int32) → EvAt (d + 1) m_M_boundary 9 [some (vQ (some (12, 0))), none, none, some (vI (x3 + (1 : Int32))), some (vI x4)] [] h (zQI Q))))))) :
    EvAt (d + 1) m_M_boundary 9 [some (vQ (some (12, 0))), none, none, some (vI x3), some (vI x4)] [] h (zQI Q) := by
  refine zo_iload_n d_M_boundary_9 rfl rfl ?_
  refine zo_iload d_M_boundary_10 rfl ?_
  refine zo_icmp_ge (tgt := 33) d_M_boundary_12 (by decide) (fun c2 => ?_) (fun c2 => ?_)
  · replace hf := hf.1 c2
    exact hf
  · replace hf := hf.2 c2
    refine zo_aload_n d_M_boundary_15 rfl rfl ?_
    refine gf_M_texts wd_710 d_M_boundary_16 ?_
    refine zo_iload_n d_M_boundary_19 rfl rfl ?_
    obtain ⟨hp, hf⟩ := hf
    refine zo_iald (zin (by decide) (by decide)) rfl rfl rfl hp d_M_boundary_20 ?_
    refine zo_bipush (v := 32) d_M_boundary_21 (by decide) ?_
    refine zo_icmp_ne (tgt := 33) d_M_boundary_23 (by decide) (fun c1 => ?_) (fun c1 => ?_)
    · replace hf := hf.1 c1
      exact hf
    · replace hf := hf.2 c1
      refine zo_iload_n d_M_boundary_26 rfl rfl ?_
      refine zo_iconst (v := 1) d_M_boundary_27 (by decide) ?_
      refine zo_iadd d_M_boundary_28 ?_
      refine zo_istore_n d_M_boundary_29 rfl (Nat.le_of_ble_eq_true rfl) rfl ?_
      refine zo_goto (tgt := 9) d_M_boundary_30 (by decide) ?_
      exact hf
set_option maxRecDepth 100000 in
set_option maxHeartbeats 4000000 in
theorem w_M_boundary_33 {d : Nat} (x3 : Int32) (x4 : Int32)  {h : ZH} {Q : Int32 → ZH → Prop}
    (hf : EvI d m_M_matches [vQ (some (12, 0)), vI x3, vI x4, vL (8241992391291860333 : Int64), vL (12148 : Int64), vI (10 : Int32)] h (fun y2 g1 => ((¬ y2 = 0 → EvAt (d + 1) m_M_boundary 58 [some (vQ (some (12, 0))), none, none, some (vI (x3 + (10 : Int32))), some (vI x4)] [] g1 (zQI Q)) ∧ (y2 = 0 → Q (0 : Int32) g1)))) :
    EvAt (d + 1) m_M_boundary 33 [some (vQ (some (12, 0))), none, none, some (vI x3), some (vI x4)] [] h (zQI Q) := by
  refine zo_aload_n d_M_boundary_33 rfl rfl ?_
  refine zo_iload_n d_M_boundary_34 rfl rfl ?_
  refine zo_iload d_M_boundary_35 rfl ?_
  refine zo_ldc2 wd_987 d_M_boundary_37 ?_
  refine zo_ldc2 wd_988 d_M_boundary_40 ?_
  refine zo_bipush (v := 10) d_M_boundary_43 (by decide) ?_
  refine zo_callVI (d := d) (N := m_M_matches) (as := [vI x3, vI x4, vL (8241992391291860333 : Int64), vL (12148 : Int64), vI (10 : Int32)]) (n := 5) (zin (by decide) (by decide)) rfl rfl cv_M_matches wd_979 rfl rfl (Nat.le_of_ble_eq_true rfl) d_M_boundary_45 hf (fun y2 g1 hf => ?_)
  refine zo_if_ne (tgt := 53) d_M_boundary_48 (by decide) (fun c3 => ?_) (fun c3 => ?_)
  · replace hf := hf.1 c3
    refine zo_iload_n d_M_boundary_53 rfl rfl ?_
    refine zo_bipush (v := 10) d_M_boundary_54 (by decide) ?_
    refine zo_iadd d_M_boundary_56 ?_
    refine zo_istore_n d_M_boundary_57 rfl (Nat.le_of_ble_eq_true rfl) rfl ?_
    exact hf
  · replace hf := hf.2 c3
    refine zo_iconst (v := 0) d_M_boundary_51 (by decide) ?_
    exact zo_zretI (ty := .boolean) rfl rfl d_M_boundary_52 hf
set_option maxRecDepth 100000 in
set_option maxHeartbeats 4000000 in
theorem w_M_boundary_58 {d : Nat} (x3 : Int32) (x4 : Int32)  {h : ZH} {Q : Int32 → ZH → Prop}
    (hf : ((x4 ≤ x3 → EvAt (d + 1) m_M_boundary 89 [some (vQ (some (12, 0))), none, none, some (vI x3), some (vI x4)] [] h (zQI Q)) ∧ (¬ x4 ≤ x3 → EvI d m_M_matches [vQ (some (12, 0)), vI x3, vI x4, vL (8751164109912108898 : Int64), vL (61 : Int64), vI (9 : Int32)] h (fun y2 g1 => ((¬ y2 = 0 → EvAt (d + 1) m_M_boundary 89 [some (vQ (some (12, 0))), none, none, some (vI x3), some (vI x4)] [] g1 (zQI Q)) ∧ (y2 = 0 → EvAt (d + 1) m_M_boundary 58 [some (vQ (some (12, 0))), none, none, some (vI (x3 + (1 : Int32))), some (vI x4)] [] g1 (zQI Q))))))) :
    EvAt (d + 1) m_M_boundary 58 [some (vQ (some (12, 0))), none, none, some (vI x3), some (vI x4)] [] h (zQI Q) := by
  refine zo_iload_n d_M_boundary_58 rfl rfl ?_
  refine zo_iload d_M_boundary_59 rfl ?_
  refine zo_icmp_ge (tgt := 89) d_M_boundary_61 (by decide) (fun c4 => ?_) (fun c4 => ?_)
  · replace hf := hf.1 c4
    exact hf
  · replace hf := hf.2 c4
    refine zo_aload_n d_M_boundary_64 rfl rfl ?_
    refine zo_iload_n d_M_boundary_65 rfl rfl ?_
    refine zo_iload d_M_boundary_66 rfl ?_
    refine zo_ldc2 wd_989 d_M_boundary_68 ?_
    refine zo_ldc2 wd_990 d_M_boundary_71 ?_
    refine zo_bipush (v := 9) d_M_boundary_74 (by decide) ?_
    refine zo_callVI (d := d) (N := m_M_matches) (as := [vI x3, vI x4, vL (8751164109912108898 : Int64), vL (61 : Int64), vI (9 : Int32)]) (n := 5) (zin (by decide) (by decide)) rfl rfl cv_M_matches wd_979 rfl rfl (Nat.le_of_ble_eq_true rfl) d_M_boundary_76 hf (fun y2 g1 hf => ?_)
    refine zo_if_ne (tgt := 89) d_M_boundary_79 (by decide) (fun c3 => ?_) (fun c3 => ?_)
    · replace hf := hf.1 c3
      exact hf
    · replace hf := hf.2 c3
      refine zo_iload_n d_M_boundary_82 rfl rfl ?_
      refine zo_iconst (v := 1) d_M_boundary_83 (by decide) ?_
      refine zo_iadd d_M_boundary_84 ?_
      refine zo_istore_n d_M_boundary_85 rfl (Nat.le_of_ble_eq_true rfl) rfl ?_
      refine zo_goto (tgt := 58) d_M_boundary_86 (by decide) ?_
      exact hf
set_option maxRecDepth 100000 in
set_option maxHeartbeats 4000000 in
theorem w_M_boundary_89 {d : Nat} (x3 : Int32) (x4 : Int32)  {h : ZH} {Q : Int32 → ZH → Prop}
    (hf : EvAt (d + 1) m_M_boundary 102 [some (vQ (some (12, 0))), none, none, some (vI x3), some (vI x4)] [] (zw (zw h 12 0 29 (x3 + (9 : Int32))) 12 0 30 (0 : Int32)) (zQI Q)) :
    EvAt (d + 1) m_M_boundary 89 [some (vQ (some (12, 0))), none, none, some (vI x3), some (vI x4)] [] h (zQI Q) := by
  refine zo_aload_n d_M_boundary_89 rfl rfl ?_
  refine zo_iload_n d_M_boundary_90 rfl rfl ?_
  refine zo_bipush (v := 9) d_M_boundary_91 (by decide) ?_
  refine zo_iadd d_M_boundary_93 ?_
  refine pf_M_mark wd_728 d_M_boundary_94 ?_
  refine zo_aload_n d_M_boundary_97 rfl rfl ?_
  refine zo_iconst (v := 0) d_M_boundary_98 (by decide) ?_
  refine pf_M_markSize wd_729 d_M_boundary_99 ?_
  exact hf
set_option maxRecDepth 100000 in
set_option maxHeartbeats 4000000 in
theorem w_M_boundary_102 {d : Nat} (x3 : Int32) (x4 : Int32)  {h : ZH} {Q : Int32 → ZH → Prop}
    (hf : ((x4 ≤ ((zi h 12 0 29) + (zi h 12 0 30)) → EvAt (d + 1) m_M_boundary 149 [some (vQ (some (12, 0))), none, none, some (vI x3), some (vI x4)] [] h (zQI Q)) ∧ (¬ x4 ≤ ((zi h 12 0 29) + (zi h 12 0 30)) → (vp_in ((zi h 12 0 29) + (zi h 12 0 30)) (zLen 13 2) ∧ EvI d m_M_isAlnum [vI (zi h 13 2 ((zi h 12 0 29) + (zi h 12 0 30)).toNatClampNeg)] h (fun y2 g1 => ((y2 = 0 → EvAt (d + 1) m_M_boundary 149 [some (vQ (some (12, 0))), none, none, some (vI x3), some (vI x4)] [] g1 (zQI Q)) ∧ (¬ y2 = 0 → EvAt (d + 1) m_M_boundary 102 [some (vQ (some (12, 0))), none, none, some (vI x3), some (vI x4)] [] (zw g1 12 0 30 ((zi g1 12 0 30) + (1 : Int32))) (zQI Q)))))))) :
    EvAt (d + 1) m_M_boundary 102 [some (vQ (some (12, 0))), none, none, some (vI x3), some (vI x4)] [] h (zQI Q) := by
  refine zo_aload_n d_M_boundary_102 rfl rfl ?_
  refine gf_M_mark wd_728 d_M_boundary_103 ?_
  refine zo_aload_n d_M_boundary_106 rfl rfl ?_
  refine gf_M_markSize wd_729 d_M_boundary_107 ?_
  refine zo_iadd d_M_boundary_110 ?_
  refine zo_iload d_M_boundary_111 rfl ?_
  refine zo_icmp_ge (tgt := 149) d_M_boundary_113 (by decide) (fun c4 => ?_) (fun c4 => ?_)
  · replace hf := hf.1 c4
    exact hf
  · replace hf := hf.2 c4
    refine zo_aload_n d_M_boundary_116 rfl rfl ?_
    refine gf_M_texts wd_710 d_M_boundary_117 ?_
    refine zo_aload_n d_M_boundary_120 rfl rfl ?_
    refine gf_M_mark wd_728 d_M_boundary_121 ?_
    refine zo_aload_n d_M_boundary_124 rfl rfl ?_
    refine gf_M_markSize wd_729 d_M_boundary_125 ?_
    refine zo_iadd d_M_boundary_128 ?_
    obtain ⟨hp, hf⟩ := hf
    refine zo_iald (zin (by decide) (by decide)) rfl rfl rfl hp d_M_boundary_129 ?_
    refine zo_callSI (d := d) (N := m_M_isAlnum) (as := [vI (zi h 13 2 ((zi h 12 0 29) + (zi h 12 0 30)).toNatClampNeg)]) (n := 1) cs_M_isAlnum wd_862 rfl rfl (Nat.le_of_ble_eq_true rfl) d_M_boundary_130 hf (fun y2 g1 hf => ?_)
    refine zo_if_eq (tgt := 149) d_M_boundary_133 (by decide) (fun c3 => ?_) (fun c3 => ?_)
    · replace hf := hf.1 c3
      exact hf
    · replace hf := hf.2 c3
      refine zo_aload_n d_M_boundary_136 rfl rfl ?_
      refine zo_aload_n d_M_boundary_137 rfl rfl ?_
      refine gf_M_markSize wd_729 d_M_boundary_138 ?_
      refine zo_iconst (v := 1) d_M_boundary_141 (by decide) ?_
      refine zo_iadd d_M_boundary_142 ?_
      refine pf_M_markSize wd_729 d_M_boundary_143 ?_
      refine zo_goto (tgt := 102) d_M_boundary_146 (by decide) ?_
      exact hf
set_option maxRecDepth 100000 in
set_option maxHeartbeats 4000000 in
theorem w_M_boundary_149 {d : Nat} (x3 : Int32) (x4 : Int32)  {h : ZH} {Q : Int32 → ZH → Prop}
    (hf : ((x4 ≤ x3 → Q (0 : Int32) h) ∧ (¬ x4 ≤ x3 → (((zi h 12 0 30) ≤ 0 → Q (0 : Int32) h) ∧ (¬ (zi h 12 0 30) ≤ 0 → (((20 : Int32) < (zi h 12 0 30) → Q (0 : Int32) h) ∧ (¬ (20 : Int32) < (zi h 12 0 30) → Q (1 : Int32) h))))))) :
    EvAt (d + 1) m_M_boundary 149 [some (vQ (some (12, 0))), none, none, some (vI x3), some (vI x4)] [] h (zQI Q) := by
  refine zo_iload_n d_M_boundary_149 rfl rfl ?_
  refine zo_iload d_M_boundary_150 rfl ?_
  refine zo_icmp_ge (tgt := 175) d_M_boundary_152 (by decide) (fun c3 => ?_) (fun c3 => ?_)
  · replace hf := hf.1 c3
    refine zo_iconst (v := 0) d_M_boundary_175 (by decide) ?_
    exact zo_zretI (ty := .boolean) rfl rfl d_M_boundary_176 hf
  · replace hf := hf.2 c3
    refine zo_aload_n d_M_boundary_155 rfl rfl ?_
    refine gf_M_markSize wd_729 d_M_boundary_156 ?_
    refine zo_if_le (tgt := 175) d_M_boundary_159 (by decide) (fun c2 => ?_) (fun c2 => ?_)
    · replace hf := hf.1 c2
      refine zo_iconst (v := 0) d_M_boundary_175 (by decide) ?_
      exact zo_zretI (ty := .boolean) rfl rfl d_M_boundary_176 hf
    · replace hf := hf.2 c2
      refine zo_aload_n d_M_boundary_162 rfl rfl ?_
      refine gf_M_markSize wd_729 d_M_boundary_163 ?_
      refine zo_bipush (v := 20) d_M_boundary_166 (by decide) ?_
      refine zo_icmp_gt (tgt := 175) d_M_boundary_168 (by decide) (fun c1 => ?_) (fun c1 => ?_)
      · replace hf := hf.1 c1
        refine zo_iconst (v := 0) d_M_boundary_175 (by decide) ?_
        exact zo_zretI (ty := .boolean) rfl rfl d_M_boundary_176 hf
      · replace hf := hf.2 c1
        refine zo_iconst (v := 1) d_M_boundary_171 (by decide) ?_
        refine zo_goto (tgt := 176) d_M_boundary_172 (by decide) ?_
        exact zo_zretI (ty := .boolean) rfl rfl d_M_boundary_176 hf
set_option maxRecDepth 100000 in
set_option maxHeartbeats 4000000 in
theorem w_M_divide_0 {d : Nat} (x1 : Int32) (x2 : Int32) (x3 : Int32)  {h : ZH} {Q : Int32 → ZH → Prop}
    (hf : EvAt (d + 1) m_M_divide 3 [some (vQ (some (12, 0))), some (vI x1), some (vI x2), some (vI x3), some (vI x1), none, none, none] [] h (zQI Q)) :
    EvAt (d + 1) m_M_divide 0 [some (vQ (some (12, 0))), some (vI x1), some (vI x2), some (vI x3), none, none, none, none] [] h (zQI Q) := by
  refine zo_iload_n d_M_divide_0 rfl rfl ?_
  refine zo_istore d_M_divide_1 (Nat.le_of_ble_eq_true rfl) rfl ?_
  exact hf
theorem e_M_divide {d : Nat} (x1 : Int32) (x2 : Int32) (x3 : Int32)  {h : ZH} {Q : Int32 → ZH → Prop}
    (hf : EvAt (d + 1) m_M_divide 3 [some (vQ (some (12, 0))), some (vI x1), some (vI x2), some (vI x3), some (vI x1), none, none, none] [] h (zQI Q)) :
    EvI (d + 1) m_M_divide [vQ (some (12, 0)), vI x1, vI x2, vI x3] h Q := zo_entry (by decide) (Nat.le_of_ble_eq_true rfl) (w_M_divide_0 x1 x2 x3  hf)
set_option maxRecDepth 100000 in
set_option maxHeartbeats 4000000 in
theorem w_M_divide_3 {d : Nat} (x1 : Int32) (x2 : Int32) (x3 : Int32) (x4 : Int32)  {h : ZH} {Q : Int32 → ZH → Prop}
    (hf : ((x2 ≤ x4 → EvAt (d + 1) m_M_divide 28 [some (vQ (some (12, 0))), some (vI x1), some (vI x2), some (vI x3), some (vI x4), none, none, none] [] h (zQI Q)) ∧ (¬ x2 ≤ x4 → EvI d m_M_border [vQ (some (12, 0)), vI x4] h (fun y2 g1 => ((y2 = (2 : Int32) → EvAt (d + 1) m_M_divide 28 [some (vQ (some (12, 0))), some (vI x1), some (vI x2), some (vI x3), some (vI x4), none, none, none] [] g1 (zQI Q)) ∧ (¬ y2 = (2 : Int32) → EvAt (d + 1) m_M_divide 3 [some (vQ (some (12, 0))), some (vI x1), some (vI x2), some (vI x3), some (vI (x4 + (1 : Int32))), none, none, none] [] g1 (zQI Q))))))) :
    EvAt (d + 1) m_M_divide 3 [some (vQ (some (12, 0))), some (vI x1), some (vI x2), some (vI x3), some (vI x4), none, none, none] [] h (zQI Q) := by
  refine zo_iload d_M_divide_3 rfl ?_
  refine zo_iload_n d_M_divide_5 rfl rfl ?_
  refine zo_icmp_ge (tgt := 28) d_M_divide_6 (by decide) (fun c4 => ?_) (fun c4 => ?_)
  · replace hf := hf.1 c4
    exact hf
  · replace hf := hf.2 c4
    refine zo_aload_n d_M_divide_9 rfl rfl ?_
    refine zo_iload d_M_divide_10 rfl ?_
    refine zo_callVI (d := d) (N := m_M_border) (as := [vI x4]) (n := 1) (zin (by decide) (by decide)) rfl rfl cv_M_border wd_995 rfl rfl (Nat.le_of_ble_eq_true rfl) d_M_divide_12 hf (fun y2 g1 hf => ?_)
    refine zo_iconst (v := 2) d_M_divide_15 (by decide) ?_
    refine zo_icmp_eq (tgt := 28) d_M_divide_16 (by decide) (fun c3 => ?_) (fun c3 => ?_)
    · replace hf := hf.1 c3
      exact hf
    · replace hf := hf.2 c3
      refine zo_iload d_M_divide_19 rfl ?_
      refine zo_iconst (v := 1) d_M_divide_21 (by decide) ?_
      refine zo_iadd d_M_divide_22 ?_
      refine zo_istore d_M_divide_23 (Nat.le_of_ble_eq_true rfl) rfl ?_
      refine zo_goto (tgt := 3) d_M_divide_25 (by decide) ?_
      exact hf
set_option maxRecDepth 100000 in
set_option maxHeartbeats 4000000 in
theorem w_M_divide_28 {d : Nat} (x1 : Int32) (x2 : Int32) (x3 : Int32) (x4 : Int32)  {h : ZH} {Q : Int32 → ZH → Prop}
    (hf : ((¬ x4 = x2 → EvAt (d + 1) m_M_divide 49 [some (vQ (some (12, 0))), some (vI x1), none, some (vI x3), none, some (vI x4), some (vI (0 : Int32)), some (vI (x4 - (1 : Int32)))] [] h (zQI Q)) ∧ (x4 = x2 → Q (0 : Int32) h))) :
    EvAt (d + 1) m_M_divide 28 [some (vQ (some (12, 0))), some (vI x1), some (vI x2), some (vI x3), some (vI x4), none, none, none] [] h (zQI Q) := by
  refine zo_iload d_M_divide_28 rfl ?_
  refine zo_iload_n d_M_divide_30 rfl rfl ?_
  refine zo_icmp_ne (tgt := 36) d_M_divide_31 (by decide) (fun c1 => ?_) (fun c1 => ?_)
  · replace hf := hf.1 c1
    refine zo_iload d_M_divide_36 rfl ?_
    refine zo_istore d_M_divide_38 (Nat.le_of_ble_eq_true rfl) rfl ?_
    refine zo_iconst (v := 0) d_M_divide_40 (by decide) ?_
    refine zo_istore d_M_divide_41 (Nat.le_of_ble_eq_true rfl) rfl ?_
    refine zo_iload d_M_divide_43 rfl ?_
    refine zo_iconst (v := 1) d_M_divide_45 (by decide) ?_
    refine zo_isub d_M_divide_46 ?_
    refine zo_istore d_M_divide_47 (Nat.le_of_ble_eq_true rfl) rfl ?_
    refine zo_drop 2 ?_
    refine zo_drop 4 ?_
    exact hf
  · replace hf := hf.2 c1
    refine zo_iconst (v := 0) d_M_divide_34 (by decide) ?_
    exact zo_zretI (ty := .boolean) rfl rfl d_M_divide_35 hf
set_option maxRecDepth 100000 in
set_option maxHeartbeats 4000000 in
theorem w_M_divide_49 {d : Nat} (x1 : Int32) (x3 : Int32) (x5 : Int32) (x6 : Int32) (x7 : Int32)  {h : ZH} {Q : Int32 → ZH → Prop}
    (hf : ((x7 < x1 → ((x6 ≤ 0 → Q (0 : Int32) h) ∧ (¬ x6 ≤ 0 → (((4 : Int32) < x3 → Q (0 : Int32) h) ∧ (¬ (4 : Int32) < x3 → Q (1 : Int32) h))))) ∧ (¬ x7 < x1 → EvI d m_M_border [vQ (some (12, 0)), vI x7] h (fun y4 g3 => ((¬ y4 = (1 : Int32) → EvAt (d + 1) m_M_divide 119 [some (vQ (some (12, 0))), some (vI x1), none, some (vI x3), none, some (vI x5), some (vI x6), some (vI x7)] [] g3 (zQI Q)) ∧ (y4 = (1 : Int32) → (vp_in (zi g3 12 0 25) (zLen 13 13) ∧ (vp_in (zi (zw g3 13 13 (zi g3 12 0 25).toNatClampNeg (x7 + (1 : Int32))) 12 0 25) (zLen 13 14) ∧ (vp_in (zi (zw (zw g3 13 13 (zi g3 12 0 25).toNatClampNeg (x7 + (1 : Int32))) 13 14 (zi (zw g3 13 13 (zi g3 12 0 25).toNatClampNeg (x7 + (1 : Int32))) 12 0 25).toNatClampNeg x5) 12 0 25) (zLen 13 15) ∧ EvAt (d + 1) m_M_divide 119 [some (vQ (some (12, 0))), some (vI x1), none, some (vI x3), none, some (vI x7), some (vI (x6 + (1 : Int32))), some (vI x7)] [] (zw (zw (zw (zw g3 13 13 (zi g3 12 0 25).toNatClampNeg (x7 + (1 : Int32))) 13 14 (zi (zw g3 13 13 (zi g3 12 0 25).toNatClampNeg (x7 + (1 : Int32))) 12 0 25).toNatClampNeg x5) 13 15 (zi (zw (zw g3 13 13 (zi g3 12 0 25).toNatClampNeg (x7 + (1 : Int32))) 13 14 (zi (zw g3 13 13 (zi g3 12 0 25).toNatClampNeg (x7 + (1 : Int32))) 12 0 25).toNatClampNeg x5) 12 0 25).toNatClampNeg x3) 12 0 25 ((zi (zw (zw (zw g3 13 13 (zi g3 12 0 25).toNatClampNeg (x7 + (1 : Int32))) 13 14 (zi (zw g3 13 13 (zi g3 12 0 25).toNatClampNeg (x7 + (1 : Int32))) 12 0 25).toNatClampNeg x5) 13 15 (zi (zw (zw g3 13 13 (zi g3 12 0 25).toNatClampNeg (x7 + (1 : Int32))) 13 14 (zi (zw g3 13 13 (zi g3 12 0 25).toNatClampNeg (x7 + (1 : Int32))) 12 0 25).toNatClampNeg x5) 12 0 25).toNatClampNeg x3) 12 0 25) + (1 : Int32))) (zQI Q)))))))))) :
    EvAt (d + 1) m_M_divide 49 [some (vQ (some (12, 0))), some (vI x1), none, some (vI x3), none, some (vI x5), some (vI x6), some (vI x7)] [] h (zQI Q) := by
  refine zo_iload d_M_divide_49 rfl ?_
  refine zo_iload_n d_M_divide_51 rfl rfl ?_
  refine zo_icmp_lt (tgt := 125) d_M_divide_52 (by decide) (fun c6 => ?_) (fun c6 => ?_)
  · replace hf := hf.1 c6
    refine zo_iload d_M_divide_125 rfl ?_
    refine zo_if_le (tgt := 139) d_M_divide_127 (by decide) (fun c2 => ?_) (fun c2 => ?_)
    · replace hf := hf.1 c2
      refine zo_iconst (v := 0) d_M_divide_139 (by decide) ?_
      exact zo_zretI (ty := .boolean) rfl rfl d_M_divide_140 hf
    · replace hf := hf.2 c2
      refine zo_iload_n d_M_divide_130 rfl rfl ?_
      refine zo_iconst (v := 4) d_M_divide_131 (by decide) ?_
      refine zo_icmp_gt (tgt := 139) d_M_divide_132 (by decide) (fun c1 => ?_) (fun c1 => ?_)
      · replace hf := hf.1 c1
        refine zo_iconst (v := 0) d_M_divide_139 (by decide) ?_
        exact zo_zretI (ty := .boolean) rfl rfl d_M_divide_140 hf
      · replace hf := hf.2 c1
        refine zo_iconst (v := 1) d_M_divide_135 (by decide) ?_
        refine zo_goto (tgt := 140) d_M_divide_136 (by decide) ?_
        exact zo_zretI (ty := .boolean) rfl rfl d_M_divide_140 hf
  · replace hf := hf.2 c6
    refine zo_aload_n d_M_divide_55 rfl rfl ?_
    refine zo_iload d_M_divide_56 rfl ?_
    refine zo_callVI (d := d) (N := m_M_border) (as := [vI x7]) (n := 1) (zin (by decide) (by decide)) rfl rfl cv_M_border wd_995 rfl rfl (Nat.le_of_ble_eq_true rfl) d_M_divide_58 hf (fun y4 g3 hf => ?_)
    refine zo_iconst (v := 1) d_M_divide_61 (by decide) ?_
    refine zo_icmp_ne (tgt := 119) d_M_divide_62 (by decide) (fun c5 => ?_) (fun c5 => ?_)
    · replace hf := hf.1 c5
      exact hf
    · replace hf := hf.2 c5
      refine zo_aload_n d_M_divide_65 rfl rfl ?_
      refine gf_M_rowFrom wd_725 d_M_divide_66 ?_
      refine zo_aload_n d_M_divide_69 rfl rfl ?_
      refine gf_M_open wd_724 d_M_divide_70 ?_
      refine zo_iload d_M_divide_73 rfl ?_
      refine zo_iconst (v := 1) d_M_divide_75 (by decide) ?_
      refine zo_iadd d_M_divide_76 ?_
      obtain ⟨hp, hf⟩ := hf
      refine zo_iast (zin (by decide) (by decide)) rfl rfl rfl hp d_M_divide_77 ?_
      refine zo_aload_n d_M_divide_78 rfl rfl ?_
      refine gf_M_rowTo wd_726 d_M_divide_79 ?_
      refine zo_aload_n d_M_divide_82 rfl rfl ?_
      refine gf_M_open wd_724 d_M_divide_83 ?_
      refine zo_iload d_M_divide_86 rfl ?_
      obtain ⟨hp, hf⟩ := hf
      refine zo_iast (zin (by decide) (by decide)) rfl rfl rfl hp d_M_divide_88 ?_
      refine zo_aload_n d_M_divide_89 rfl rfl ?_
      refine gf_M_rowDepth wd_727 d_M_divide_90 ?_
      refine zo_aload_n d_M_divide_93 rfl rfl ?_
      refine gf_M_open wd_724 d_M_divide_94 ?_
      refine zo_iload_n d_M_divide_97 rfl rfl ?_
      obtain ⟨hp, hf⟩ := hf
      refine zo_iast (zin (by decide) (by decide)) rfl rfl rfl hp d_M_divide_98 ?_
      refine zo_aload_n d_M_divide_99 rfl rfl ?_
      refine zo_aload_n d_M_divide_100 rfl rfl ?_
      refine gf_M_open wd_724 d_M_divide_101 ?_
      refine zo_iconst (v := 1) d_M_divide_104 (by decide) ?_
      refine zo_iadd d_M_divide_105 ?_
      refine pf_M_open wd_724 d_M_divide_106 ?_
      refine zo_iload d_M_divide_109 rfl ?_
      refine zo_istore d_M_divide_111 (Nat.le_of_ble_eq_true rfl) rfl ?_
      refine zo_iload d_M_divide_113 rfl ?_
      refine zo_iconst (v := 1) d_M_divide_115 (by decide) ?_
      refine zo_iadd d_M_divide_116 ?_
      refine zo_istore d_M_divide_117 (Nat.le_of_ble_eq_true rfl) rfl ?_
      exact hf
set_option maxRecDepth 100000 in
set_option maxHeartbeats 4000000 in
theorem w_M_divide_119 {d : Nat} (x1 : Int32) (x3 : Int32) (x5 : Int32) (x6 : Int32) (x7 : Int32)  {h : ZH} {Q : Int32 → ZH → Prop}
    (hf : EvAt (d + 1) m_M_divide 49 [some (vQ (some (12, 0))), some (vI x1), none, some (vI x3), none, some (vI x5), some (vI x6), some (vI (x7 + (-1)))] [] h (zQI Q)) :
    EvAt (d + 1) m_M_divide 119 [some (vQ (some (12, 0))), some (vI x1), none, some (vI x3), none, some (vI x5), some (vI x6), some (vI x7)] [] h (zQI Q) := by
  refine zo_iinc (v := x7 + (-1)) d_M_divide_119 rfl rfl (Nat.le_of_ble_eq_true rfl) rfl ?_
  refine zo_goto (tgt := 49) d_M_divide_122 (by decide) ?_
  exact hf
set_option maxRecDepth 100000 in
set_option maxHeartbeats 4000000 in
theorem w_M_border_0 {d : Nat} (x1 : Int32)  {h : ZH} {Q : Int32 → ZH → Prop}
    (hf : (vp_in x1 (zLen 13 9) ∧ EvI d m_M_endOf [vQ (some (12, 0)), vI x1] h (fun y2 g1 => (((((y2 - (zi h 13 9 x1.toNatClampNeg)) - (2 : Int32)) - (zi g1 12 0 30)) = 0 → EvAt (d + 1) m_M_border 31 [some (vQ (some (12, 0))), none, some (vI (zi h 13 9 x1.toNatClampNeg)), some (vI (((y2 - (zi h 13 9 x1.toNatClampNeg)) - (2 : Int32)) - (zi g1 12 0 30))), none, none] [] g1 (zQI Q)) ∧ (¬ (((y2 - (zi h 13 9 x1.toNatClampNeg)) - (2 : Int32)) - (zi g1 12 0 30)) = 0 → ((¬ (((y2 - (zi h 13 9 x1.toNatClampNeg)) - (2 : Int32)) - (zi g1 12 0 30)) = (2 : Int32) → EvAt (d + 1) m_M_border 59 [some (vQ (some (12, 0))), none, some (vI (zi h 13 9 x1.toNatClampNeg)), some (vI (((y2 - (zi h 13 9 x1.toNatClampNeg)) - (2 : Int32)) - (zi g1 12 0 30))), none, none] [] g1 (zQI Q)) ∧ ((((y2 - (zi h 13 9 x1.toNatClampNeg)) - (2 : Int32)) - (zi g1 12 0 30)) = (2 : Int32) → EvAt (d + 1) m_M_border 31 [some (vQ (some (12, 0))), none, some (vI (zi h 13 9 x1.toNatClampNeg)), some (vI (((y2 - (zi h 13 9 x1.toNatClampNeg)) - (2 : Int32)) - (zi g1 12 0 30))), none, none] [] g1 (zQI Q)))))))) :
    EvAt (d + 1) m_M_border 0 [some (vQ (some (12, 0))), some (vI x1), none, none, none, none] [] h (zQI Q) := by
  refine zo_aload_n d_M_border_0 rfl rfl ?_
  refine gf_M_lineAt wd_718 d_M_border_1 ?_
  refine zo_iload_n d_M_border_4 rfl rfl ?_
  obtain ⟨hp, hf⟩ := hf
  refine zo_iald (zin (by decide) (by decide)) rfl rfl rfl hp d_M_border_5 ?_
  refine zo_istore_n d_M_border_6 rfl (Nat.le_of_ble_eq_true rfl) rfl ?_
  refine zo_aload_n d_M_border_7 rfl rfl ?_
  refine zo_iload_n d_M_border_8 rfl rfl ?_
  refine zo_callVI (d := d) (N := m_M_endOf) (as := [vI x1]) (n := 1) (zin (by decide) (by decide)) rfl rfl cv_M_endOf wd_961 rfl rfl (Nat.le_of_ble_eq_true rfl) d_M_border_9 hf (fun y2 g1 hf => ?_)
  refine zo_iload_n d_M_border_12 rfl rfl ?_
  refine zo_isub d_M_border_13 ?_
  refine zo_iconst (v := 2) d_M_border_14 (by decide) ?_
  refine zo_isub d_M_border_15 ?_
  refine zo_aload_n d_M_border_16 rfl rfl ?_
  refine gf_M_markSize wd_729 d_M_border_17 ?_
  refine zo_isub d_M_border_20 ?_
  refine zo_istore_n d_M_border_21 rfl (Nat.le_of_ble_eq_true rfl) rfl ?_
  refine zo_iload_n d_M_border_22 rfl rfl ?_
  refine zo_if_eq (tgt := 31) d_M_border_23 (by decide) (fun c4 => ?_) (fun c4 => ?_)
  · replace hf := hf.1 c4
    refine zo_drop 1 ?_
    exact hf
  · replace hf := hf.2 c4
    refine zo_iload_n d_M_border_26 rfl rfl ?_
    refine zo_iconst (v := 2) d_M_border_27 (by decide) ?_
    refine zo_icmp_ne (tgt := 59) d_M_border_28 (by decide) (fun c3 => ?_) (fun c3 => ?_)
    · replace hf := hf.1 c3
      refine zo_drop 1 ?_
      exact hf
    · replace hf := hf.2 c3
      refine zo_drop 1 ?_
      exact hf
theorem e_M_border {d : Nat} (x1 : Int32)  {h : ZH} {Q : Int32 → ZH → Prop}
    (hf : (vp_in x1 (zLen 13 9) ∧ EvI d m_M_endOf [vQ (some (12, 0)), vI x1] h (fun y2 g1 => (((((y2 - (zi h 13 9 x1.toNatClampNeg)) - (2 : Int32)) - (zi g1 12 0 30)) = 0 → EvAt (d + 1) m_M_border 31 [some (vQ (some (12, 0))), none, some (vI (zi h 13 9 x1.toNatClampNeg)), some (vI (((y2 - (zi h 13 9 x1.toNatClampNeg)) - (2 : Int32)) - (zi g1 12 0 30))), none, none] [] g1 (zQI Q)) ∧ (¬ (((y2 - (zi h 13 9 x1.toNatClampNeg)) - (2 : Int32)) - (zi g1 12 0 30)) = 0 → ((¬ (((y2 - (zi h 13 9 x1.toNatClampNeg)) - (2 : Int32)) - (zi g1 12 0 30)) = (2 : Int32) → EvAt (d + 1) m_M_border 59 [some (vQ (some (12, 0))), none, some (vI (zi h 13 9 x1.toNatClampNeg)), some (vI (((y2 - (zi h 13 9 x1.toNatClampNeg)) - (2 : Int32)) - (zi g1 12 0 30))), none, none] [] g1 (zQI Q)) ∧ ((((y2 - (zi h 13 9 x1.toNatClampNeg)) - (2 : Int32)) - (zi g1 12 0 30)) = (2 : Int32) → EvAt (d + 1) m_M_border 31 [some (vQ (some (12, 0))), none, some (vI (zi h 13 9 x1.toNatClampNeg)), some (vI (((y2 - (zi h 13 9 x1.toNatClampNeg)) - (2 : Int32)) - (zi g1 12 0 30))), none, none] [] g1 (zQI Q)))))))) :
    EvI (d + 1) m_M_border [vQ (some (12, 0)), vI x1] h Q := zo_entry (by decide) (Nat.le_of_ble_eq_true rfl) (w_M_border_0 x1  hf)
set_option maxRecDepth 100000 in
set_option maxHeartbeats 4000000 in
theorem w_M_border_31 {d : Nat} (x2 : Int32) (x3 : Int32)  {h : ZH} {Q : Int32 → ZH → Prop}
    (hf : (vp_in x2 (zLen 13 2) ∧ ((¬ (zi h 13 2 x2.toNatClampNeg) = (45 : Int32) → EvAt (d + 1) m_M_border 59 [some (vQ (some (12, 0))), none, some (vI x2), some (vI x3), none, none] [] h (zQI Q)) ∧ ((zi h 13 2 x2.toNatClampNeg) = (45 : Int32) → (vp_in (x2 + (1 : Int32)) (zLen 13 2) ∧ ((¬ (zi h 13 2 (x2 + (1 : Int32)).toNatClampNeg) = (45 : Int32) → EvAt (d + 1) m_M_border 59 [some (vQ (some (12, 0))), none, some (vI x2), some (vI x3), none, none] [] h (zQI Q)) ∧ ((zi h 13 2 (x2 + (1 : Int32)).toNatClampNeg) = (45 : Int32) → EvAt (d + 1) m_M_border 60 [some (vQ (some (12, 0))), none, some (vI x2), some (vI x3), none, none] [vI (1 : Int32)] h (zQI Q)))))))) :
    EvAt (d + 1) m_M_border 31 [some (vQ (some (12, 0))), none, some (vI x2), some (vI x3), none, none] [] h (zQI Q) := by
  refine zo_aload_n d_M_border_31 rfl rfl ?_
  refine gf_M_texts wd_710 d_M_border_32 ?_
  refine zo_iload_n d_M_border_35 rfl rfl ?_
  obtain ⟨hp, hf⟩ := hf
  refine zo_iald (zin (by decide) (by decide)) rfl rfl rfl hp d_M_border_36 ?_
  refine zo_bipush (v := 45) d_M_border_37 (by decide) ?_
  refine zo_icmp_ne (tgt := 59) d_M_border_39 (by decide) (fun c2 => ?_) (fun c2 => ?_)
  · replace hf := hf.1 c2
    exact hf
  · replace hf := hf.2 c2
    refine zo_aload_n d_M_border_42 rfl rfl ?_
    refine gf_M_texts wd_710 d_M_border_43 ?_
    refine zo_iload_n d_M_border_46 rfl rfl ?_
    refine zo_iconst (v := 1) d_M_border_47 (by decide) ?_
    refine zo_iadd d_M_border_48 ?_
    obtain ⟨hp, hf⟩ := hf
    refine zo_iald (zin (by decide) (by decide)) rfl rfl rfl hp d_M_border_49 ?_
    refine zo_bipush (v := 45) d_M_border_50 (by decide) ?_
    refine zo_icmp_ne (tgt := 59) d_M_border_52 (by decide) (fun c1 => ?_) (fun c1 => ?_)
    · replace hf := hf.1 c1
      exact hf
    · replace hf := hf.2 c1
      refine zo_iconst (v := 1) d_M_border_55 (by decide) ?_
      refine zo_goto (tgt := 60) d_M_border_56 (by decide) ?_
      exact hf
set_option maxRecDepth 100000 in
set_option maxHeartbeats 4000000 in
theorem w_M_border_59 {d : Nat} (x2 : Int32) (x3 : Int32)  {h : ZH} {Q : Int32 → ZH → Prop}
    (hf : EvAt (d + 1) m_M_border 60 [some (vQ (some (12, 0))), none, some (vI x2), some (vI x3), none, none] [vI (0 : Int32)] h (zQI Q)) :
    EvAt (d + 1) m_M_border 59 [some (vQ (some (12, 0))), none, some (vI x2), some (vI x3), none, none] [] h (zQI Q) := by
  refine zo_iconst (v := 0) d_M_border_59 (by decide) ?_
  exact hf
set_option maxRecDepth 100000 in
set_option maxHeartbeats 4000000 in
theorem w_M_border_60 {d : Nat} (x2 : Int32) (x3 : Int32) (xs0 : Int32)  {h : ZH} {Q : Int32 → ZH → Prop}
    (hf : EvAt (d + 1) m_M_border 65 [some (vQ (some (12, 0))), none, some (vI x2), some (vI x3), some (vI xs0), some (vI (0 : Int32))] [] h (zQI Q)) :
    EvAt (d + 1) m_M_border 60 [some (vQ (some (12, 0))), none, some (vI x2), some (vI x3), none, none] [vI xs0] h (zQI Q) := by
  refine zo_istore d_M_border_60 (Nat.le_of_ble_eq_true rfl) rfl ?_
  refine zo_iconst (v := 0) d_M_border_62 (by decide) ?_
  refine zo_istore d_M_border_63 (Nat.le_of_ble_eq_true rfl) rfl ?_
  exact hf
set_option maxRecDepth 100000 in
set_option maxHeartbeats 4000000 in
theorem w_M_border_65 {d : Nat} (x2 : Int32) (x3 : Int32) (x4 : Int32) (x5 : Int32)  {h : ZH} {Q : Int32 → ZH → Prop}
    (hf : (((zi h 12 0 30) ≤ x5 → EvAt (d + 1) m_M_border 118 [some (vQ (some (12, 0))), none, some (vI x2), some (vI x3), some (vI x4), none] [] h (zQI Q)) ∧ (¬ (zi h 12 0 30) ≤ x5 → ((x4 = 0 → EvAt (d + 1) m_M_border 118 [some (vQ (some (12, 0))), none, some (vI x2), some (vI x3), some (vI x4), none] [] h (zQI Q)) ∧ (¬ x4 = 0 → (vp_in ((x2 + (2 : Int32)) + x5) (zLen 13 2) ∧ (vp_in ((zi h 12 0 29) + x5) (zLen 13 2) ∧ ((¬ (zi h 13 2 ((x2 + (2 : Int32)) + x5).toNatClampNeg) = (zi h 13 2 ((zi h 12 0 29) + x5).toNatClampNeg) → EvAt (d + 1) m_M_border 110 [some (vQ (some (12, 0))), none, some (vI x2), some (vI x3), none, some (vI x5)] [vI (0 : Int32)] h (zQI Q)) ∧ ((zi h 13 2 ((x2 + (2 : Int32)) + x5).toNatClampNeg) = (zi h 13 2 ((zi h 12 0 29) + x5).toNatClampNeg) → EvAt (d + 1) m_M_border 110 [some (vQ (some (12, 0))), none, some (vI x2), some (vI x3), none, some (vI x5)] [vI (1 : Int32)] h (zQI Q)))))))))) :
    EvAt (d + 1) m_M_border 65 [some (vQ (some (12, 0))), none, some (vI x2), some (vI x3), some (vI x4), some (vI x5)] [] h (zQI Q) := by
  refine zo_iload d_M_border_65 rfl ?_
  refine zo_aload_n d_M_border_67 rfl rfl ?_
  refine gf_M_markSize wd_729 d_M_border_68 ?_
  refine zo_icmp_ge (tgt := 118) d_M_border_71 (by decide) (fun c3 => ?_) (fun c3 => ?_)
  · replace hf := hf.1 c3
    refine zo_drop 5 ?_
    exact hf
  · replace hf := hf.2 c3
    refine zo_iload d_M_border_74 rfl ?_
    refine zo_if_eq (tgt := 118) d_M_border_76 (by decide) (fun c2 => ?_) (fun c2 => ?_)
    · replace hf := hf.1 c2
      refine zo_drop 5 ?_
      exact hf
    · replace hf := hf.2 c2
      refine zo_aload_n d_M_border_79 rfl rfl ?_
      refine gf_M_texts wd_710 d_M_border_80 ?_
      refine zo_iload_n d_M_border_83 rfl rfl ?_
      refine zo_iconst (v := 2) d_M_border_84 (by decide) ?_
      refine zo_iadd d_M_border_85 ?_
      refine zo_iload d_M_border_86 rfl ?_
      refine zo_iadd d_M_border_88 ?_
      obtain ⟨hp, hf⟩ := hf
      refine zo_iald (zin (by decide) (by decide)) rfl rfl rfl hp d_M_border_89 ?_
      refine zo_aload_n d_M_border_90 rfl rfl ?_
      refine gf_M_texts wd_710 d_M_border_91 ?_
      refine zo_aload_n d_M_border_94 rfl rfl ?_
      refine gf_M_mark wd_728 d_M_border_95 ?_
      refine zo_iload d_M_border_98 rfl ?_
      refine zo_iadd d_M_border_100 ?_
      obtain ⟨hp, hf⟩ := hf
      refine zo_iald (zin (by decide) (by decide)) rfl rfl rfl hp d_M_border_101 ?_
      refine zo_icmp_ne (tgt := 109) d_M_border_102 (by decide) (fun c1 => ?_) (fun c1 => ?_)
      · replace hf := hf.1 c1
        refine zo_iconst (v := 0) d_M_border_109 (by decide) ?_
        refine zo_drop 4 ?_
        exact hf
      · replace hf := hf.2 c1
        refine zo_iconst (v := 1) d_M_border_105 (by decide) ?_
        refine zo_goto (tgt := 110) d_M_border_106 (by decide) ?_
        refine zo_drop 4 ?_
        exact hf
set_option maxRecDepth 100000 in
set_option maxHeartbeats 4000000 in
theorem w_M_border_110 {d : Nat} (x2 : Int32) (x3 : Int32) (x5 : Int32) (xs0 : Int32)  {h : ZH} {Q : Int32 → ZH → Prop}
    (hf : EvAt (d + 1) m_M_border 65 [some (vQ (some (12, 0))), none, some (vI x2), some (vI x3), some (vI xs0), some (vI (x5 + 1))] [] h (zQI Q)) :
    EvAt (d + 1) m_M_border 110 [some (vQ (some (12, 0))), none, some (vI x2), some (vI x3), none, some (vI x5)] [vI xs0] h (zQI Q) := by
  refine zo_istore d_M_border_110 (Nat.le_of_ble_eq_true rfl) rfl ?_
  refine zo_iinc (v := x5 + 1) d_M_border_112 rfl rfl (Nat.le_of_ble_eq_true rfl) rfl ?_
  refine zo_goto (tgt := 65) d_M_border_115 (by decide) ?_
  exact hf
set_option maxRecDepth 100000 in
set_option maxHeartbeats 4000000 in
theorem w_M_border_118 {d : Nat} (x2 : Int32) (x3 : Int32) (x4 : Int32)  {h : ZH} {Q : Int32 → ZH → Prop}
    (hf : ((x4 = 0 → EvAt (d + 1) m_M_border 127 [none, none, none, none, some (vI x4), none] [] h (zQI Q)) ∧ (¬ x4 = 0 → ((¬ x3 = 0 → (vp_in ((x2 + (2 : Int32)) + (zi h 12 0 30)) (zLen 13 2) ∧ ((¬ (zi h 13 2 ((x2 + (2 : Int32)) + (zi h 12 0 30)).toNatClampNeg) = (45 : Int32) → Q (0 : Int32) h) ∧ ((zi h 13 2 ((x2 + (2 : Int32)) + (zi h 12 0 30)).toNatClampNeg) = (45 : Int32) → (vp_in ((x2 + (3 : Int32)) + (zi h 12 0 30)) (zLen 13 2) ∧ ((¬ (zi h 13 2 ((x2 + (3 : Int32)) + (zi h 12 0 30)).toNatClampNeg) = (45 : Int32) → Q (0 : Int32) h) ∧ ((zi h 13 2 ((x2 + (3 : Int32)) + (zi h 12 0 30)).toNatClampNeg) = (45 : Int32) → Q (2 : Int32) h))))))) ∧ (x3 = 0 → EvAt (d + 1) m_M_border 127 [none, none, none, none, some (vI x4), none] [] h (zQI Q)))))) :
    EvAt (d + 1) m_M_border 118 [some (vQ (some (12, 0))), none, some (vI x2), some (vI x3), some (vI x4), none] [] h (zQI Q) := by
  refine zo_iload d_M_border_118 rfl ?_
  refine zo_if_eq (tgt := 127) d_M_border_120 (by decide) (fun c4 => ?_) (fun c4 => ?_)
  · replace hf := hf.1 c4
    refine zo_drop 0 ?_
    refine zo_drop 2 ?_
    refine zo_drop 3 ?_
    exact hf
  · replace hf := hf.2 c4
    refine zo_iload_n d_M_border_123 rfl rfl ?_
    refine zo_if_ne (tgt := 138) d_M_border_124 (by decide) (fun c3 => ?_) (fun c3 => ?_)
    · replace hf := hf.1 c3
      refine zo_aload_n d_M_border_138 rfl rfl ?_
      refine gf_M_texts wd_710 d_M_border_139 ?_
      refine zo_iload_n d_M_border_142 rfl rfl ?_
      refine zo_iconst (v := 2) d_M_border_143 (by decide) ?_
      refine zo_iadd d_M_border_144 ?_
      refine zo_aload_n d_M_border_145 rfl rfl ?_
      refine gf_M_markSize wd_729 d_M_border_146 ?_
      refine zo_iadd d_M_border_149 ?_
      obtain ⟨hp, hf⟩ := hf
      refine zo_iald (zin (by decide) (by decide)) rfl rfl rfl hp d_M_border_150 ?_
      refine zo_bipush (v := 45) d_M_border_151 (by decide) ?_
      refine zo_icmp_ne (tgt := 178) d_M_border_153 (by decide) (fun c2 => ?_) (fun c2 => ?_)
      · replace hf := hf.1 c2
        refine zo_iconst (v := 0) d_M_border_178 (by decide) ?_
        exact zo_iretI rfl d_M_border_179 hf
      · replace hf := hf.2 c2
        refine zo_aload_n d_M_border_156 rfl rfl ?_
        refine gf_M_texts wd_710 d_M_border_157 ?_
        refine zo_iload_n d_M_border_160 rfl rfl ?_
        refine zo_iconst (v := 3) d_M_border_161 (by decide) ?_
        refine zo_iadd d_M_border_162 ?_
        refine zo_aload_n d_M_border_163 rfl rfl ?_
        refine gf_M_markSize wd_729 d_M_border_164 ?_
        refine zo_iadd d_M_border_167 ?_
        obtain ⟨hp, hf⟩ := hf
        refine zo_iald (zin (by decide) (by decide)) rfl rfl rfl hp d_M_border_168 ?_
        refine zo_bipush (v := 45) d_M_border_169 (by decide) ?_
        refine zo_icmp_ne (tgt := 178) d_M_border_171 (by decide) (fun c1 => ?_) (fun c1 => ?_)
        · replace hf := hf.1 c1
          refine zo_iconst (v := 0) d_M_border_178 (by decide) ?_
          exact zo_iretI rfl d_M_border_179 hf
        · replace hf := hf.2 c1
          refine zo_iconst (v := 2) d_M_border_174 (by decide) ?_
          refine zo_goto (tgt := 179) d_M_border_175 (by decide) ?_
          exact zo_iretI rfl d_M_border_179 hf
    · replace hf := hf.2 c3
      refine zo_drop 0 ?_
      refine zo_drop 2 ?_
      refine zo_drop 3 ?_
      exact hf
set_option maxRecDepth 100000 in
set_option maxHeartbeats 4000000 in
theorem w_M_border_127 {d : Nat} (x4 : Int32)  {h : ZH} {Q : Int32 → ZH → Prop}
    (hf : ((x4 = 0 → Q (0 : Int32) h) ∧ (¬ x4 = 0 → Q (1 : Int32) h))) :
    EvAt (d + 1) m_M_border 127 [none, none, none, none, some (vI x4), none] [] h (zQI Q) := by
  refine zo_iload d_M_border_127 rfl ?_
  refine zo_if_eq (tgt := 136) d_M_border_129 (by decide) (fun c1 => ?_) (fun c1 => ?_)
  · replace hf := hf.1 c1
    refine zo_iconst (v := 0) d_M_border_136 (by decide) ?_
    exact zo_iretI rfl d_M_border_137 hf
  · replace hf := hf.2 c1
    refine zo_iconst (v := 1) d_M_border_132 (by decide) ?_
    refine zo_goto (tgt := 137) d_M_border_133 (by decide) ?_
    exact zo_iretI rfl d_M_border_137 hf
set_option maxRecDepth 100000 in
set_option maxHeartbeats 4000000 in
theorem w_M_part_0 {d : Nat} (x1 : Int32) (x2 : Int32) (x3 : Int32)  {h : ZH} {Q : Int32 → ZH → Prop}
    (hf : EvI d m_M_placeOf [vQ (some (12, 0)), vI x1] h (fun y2 g1 => ((y2 < 0 → Q (-1 : Int32) g1) ∧ (¬ y2 < 0 → EvI d m_M_divided [vQ (some (12, 0)), vI y2] g1 (fun y4 g3 => ((y4 = 0 → Q (-1 : Int32) g3) ∧ (¬ y4 = 0 → ((x2 < 0 → Q (-1 : Int32) g3) ∧ (¬ x2 < 0 → (((zi g3 12 0 20) ≤ x2 → Q (-1 : Int32) g3) ∧ (¬ (zi g3 12 0 20) ≤ x2 → ((x3 < 0 → Q (-1 : Int32) g3) ∧ (¬ x3 < 0 → ((x3 ≤ (3 : Int32) → ((¬ x3 = 0 → ((¬ x3 = (1 : Int32) → ((¬ x3 = (2 : Int32) → (vp_in x2 (zLen 13 12) ∧ (vp_in x2 (zLen 13 11) ∧ Q ((zi g3 13 12 x2.toNatClampNeg) - (zi g3 13 11 x2.toNatClampNeg)) g3))) ∧ (x3 = (2 : Int32) → (vp_in x2 (zLen 13 11) ∧ Q (zi g3 13 11 x2.toNatClampNeg) g3)))) ∧ (x3 = (1 : Int32) → (vp_in x2 (zLen 14 1) ∧ (((zi g3 14 1 x2.toNatClampNeg) = 0 → Q (0 : Int32) g3) ∧ (¬ (zi g3 14 1 x2.toNatClampNeg) = 0 → Q (1 : Int32) g3)))))) ∧ (x3 = 0 → (vp_in x2 (zLen 13 10) ∧ Q (zi g3 13 10 x2.toNatClampNeg) g3)))) ∧ (¬ x3 ≤ (3 : Int32) → Q (-1 : Int32) g3))))))))))))))) :
    EvAt (d + 1) m_M_part 0 [some (vQ (some (12, 0))), some (vI x1), some (vI x2), some (vI x3), none] [] h (zQI Q) := by
  refine zo_aload_n d_M_part_0 rfl rfl ?_
  refine zo_iload_n d_M_part_1 rfl rfl ?_
  refine zo_callVI (d := d) (N := m_M_placeOf) (as := [vI x1]) (n := 1) (zin (by decide) (by decide)) rfl rfl cv_M_placeOf wd_941 rfl rfl (Nat.le_of_ble_eq_true rfl) d_M_part_2 hf (fun y2 g1 hf => ?_)
  refine zo_istore d_M_part_5 (Nat.le_of_ble_eq_true rfl) rfl ?_
  refine zo_iload d_M_part_7 rfl ?_
  refine zo_if_lt (tgt := 42) d_M_part_9 (by decide) (fun c14 => ?_) (fun c14 => ?_)
  · replace hf := hf.1 c14
    refine zo_iconst (v := (-1)) d_M_part_42 (by decide) ?_
    exact zo_iretI rfl d_M_part_43 hf
  · replace hf := hf.2 c14
    refine zo_aload_n d_M_part_12 rfl rfl ?_
    refine zo_iload d_M_part_13 rfl ?_
    refine zo_callVI (d := d) (N := m_M_divided) (as := [vI y2]) (n := 1) (zin (by decide) (by decide)) rfl rfl cv_M_divided wd_945 rfl rfl (Nat.le_of_ble_eq_true rfl) d_M_part_15 hf (fun y4 g3 hf => ?_)
    refine zo_if_eq (tgt := 42) d_M_part_18 (by decide) (fun c13 => ?_) (fun c13 => ?_)
    · replace hf := hf.1 c13
      refine zo_iconst (v := (-1)) d_M_part_42 (by decide) ?_
      exact zo_iretI rfl d_M_part_43 hf
    · replace hf := hf.2 c13
      refine zo_iload_n d_M_part_21 rfl rfl ?_
      refine zo_if_lt (tgt := 42) d_M_part_22 (by decide) (fun c12 => ?_) (fun c12 => ?_)
      · replace hf := hf.1 c12
        refine zo_iconst (v := (-1)) d_M_part_42 (by decide) ?_
        exact zo_iretI rfl d_M_part_43 hf
      · replace hf := hf.2 c12
        refine zo_iload_n d_M_part_25 rfl rfl ?_
        refine zo_aload_n d_M_part_26 rfl rfl ?_
        refine gf_M_found wd_719 d_M_part_27 ?_
        refine zo_icmp_ge (tgt := 42) d_M_part_30 (by decide) (fun c11 => ?_) (fun c11 => ?_)
        · replace hf := hf.1 c11
          refine zo_iconst (v := (-1)) d_M_part_42 (by decide) ?_
          exact zo_iretI rfl d_M_part_43 hf
        · replace hf := hf.2 c11
          refine zo_iload_n d_M_part_33 rfl rfl ?_
          refine zo_if_lt (tgt := 42) d_M_part_34 (by decide) (fun c10 => ?_) (fun c10 => ?_)
          · replace hf := hf.1 c10
            refine zo_iconst (v := (-1)) d_M_part_42 (by decide) ?_
            exact zo_iretI rfl d_M_part_43 hf
          · replace hf := hf.2 c10
            refine zo_iload_n d_M_part_37 rfl rfl ?_
            refine zo_iconst (v := 3) d_M_part_38 (by decide) ?_
            refine zo_icmp_le (tgt := 44) d_M_part_39 (by decide) (fun c9 => ?_) (fun c9 => ?_)
            · replace hf := hf.1 c9
              refine zo_iload_n d_M_part_44 rfl rfl ?_
              refine zo_if_ne (tgt := 57) d_M_part_45 (by decide) (fun c8 => ?_) (fun c8 => ?_)
              · replace hf := hf.1 c8
                refine zo_iload_n d_M_part_57 rfl rfl ?_
                refine zo_iconst (v := 1) d_M_part_58 (by decide) ?_
                refine zo_icmp_ne (tgt := 79) d_M_part_59 (by decide) (fun c7 => ?_) (fun c7 => ?_)
                · replace hf := hf.1 c7
                  refine zo_iload_n d_M_part_79 rfl rfl ?_
                  refine zo_iconst (v := 2) d_M_part_80 (by decide) ?_
                  refine zo_icmp_ne (tgt := 93) d_M_part_81 (by decide) (fun c5 => ?_) (fun c5 => ?_)
                  · replace hf := hf.1 c5
                    refine zo_aload_n d_M_part_93 rfl rfl ?_
                    refine gf_M_partTo wd_722 d_M_part_94 ?_
                    refine zo_iload_n d_M_part_97 rfl rfl ?_
                    obtain ⟨hp, hf⟩ := hf
                    refine zo_iald (zin (by decide) (by decide)) rfl rfl rfl hp d_M_part_98 ?_
                    refine zo_aload_n d_M_part_99 rfl rfl ?_
                    refine gf_M_partFrom wd_721 d_M_part_100 ?_
                    refine zo_iload_n d_M_part_103 rfl rfl ?_
                    obtain ⟨hp, hf⟩ := hf
                    refine zo_iald (zin (by decide) (by decide)) rfl rfl rfl hp d_M_part_104 ?_
                    refine zo_isub d_M_part_105 ?_
                    exact zo_iretI rfl d_M_part_106 hf
                  · replace hf := hf.2 c5
                    refine zo_aload_n d_M_part_84 rfl rfl ?_
                    refine gf_M_partFrom wd_721 d_M_part_85 ?_
                    refine zo_iload_n d_M_part_88 rfl rfl ?_
                    obtain ⟨hp, hf⟩ := hf
                    refine zo_iald (zin (by decide) (by decide)) rfl rfl rfl hp d_M_part_89 ?_
                    refine zo_goto (tgt := 106) d_M_part_90 (by decide) ?_
                    exact zo_iretI rfl d_M_part_106 hf
                · replace hf := hf.2 c7
                  refine zo_aload_n d_M_part_62 rfl rfl ?_
                  refine gf_M_partMulti wd_723 d_M_part_63 ?_
                  refine zo_iload_n d_M_part_66 rfl rfl ?_
                  obtain ⟨hp, hf⟩ := hf
                  refine zo_zald (zin (by decide) (by decide)) rfl rfl rfl hp d_M_part_67 ?_
                  refine zo_if_eq (tgt := 75) d_M_part_68 (by decide) (fun c6 => ?_) (fun c6 => ?_)
                  · replace hf := hf.1 c6
                    refine zo_iconst (v := 0) d_M_part_75 (by decide) ?_
                    refine zo_goto (tgt := 106) d_M_part_76 (by decide) ?_
                    exact zo_iretI rfl d_M_part_106 hf
                  · replace hf := hf.2 c6
                    refine zo_iconst (v := 1) d_M_part_71 (by decide) ?_
                    refine zo_goto (tgt := 106) d_M_part_72 (by decide) ?_
                    exact zo_iretI rfl d_M_part_106 hf
              · replace hf := hf.2 c8
                refine zo_aload_n d_M_part_48 rfl rfl ?_
                refine gf_M_partDepth wd_720 d_M_part_49 ?_
                refine zo_iload_n d_M_part_52 rfl rfl ?_
                obtain ⟨hp, hf⟩ := hf
                refine zo_iald (zin (by decide) (by decide)) rfl rfl rfl hp d_M_part_53 ?_
                refine zo_goto (tgt := 106) d_M_part_54 (by decide) ?_
                exact zo_iretI rfl d_M_part_106 hf
            · replace hf := hf.2 c9
              refine zo_iconst (v := (-1)) d_M_part_42 (by decide) ?_
              exact zo_iretI rfl d_M_part_43 hf
theorem e_M_part {d : Nat} (x1 : Int32) (x2 : Int32) (x3 : Int32)  {h : ZH} {Q : Int32 → ZH → Prop}
    (hf : EvI d m_M_placeOf [vQ (some (12, 0)), vI x1] h (fun y2 g1 => ((y2 < 0 → Q (-1 : Int32) g1) ∧ (¬ y2 < 0 → EvI d m_M_divided [vQ (some (12, 0)), vI y2] g1 (fun y4 g3 => ((y4 = 0 → Q (-1 : Int32) g3) ∧ (¬ y4 = 0 → ((x2 < 0 → Q (-1 : Int32) g3) ∧ (¬ x2 < 0 → (((zi g3 12 0 20) ≤ x2 → Q (-1 : Int32) g3) ∧ (¬ (zi g3 12 0 20) ≤ x2 → ((x3 < 0 → Q (-1 : Int32) g3) ∧ (¬ x3 < 0 → ((x3 ≤ (3 : Int32) → ((¬ x3 = 0 → ((¬ x3 = (1 : Int32) → ((¬ x3 = (2 : Int32) → (vp_in x2 (zLen 13 12) ∧ (vp_in x2 (zLen 13 11) ∧ Q ((zi g3 13 12 x2.toNatClampNeg) - (zi g3 13 11 x2.toNatClampNeg)) g3))) ∧ (x3 = (2 : Int32) → (vp_in x2 (zLen 13 11) ∧ Q (zi g3 13 11 x2.toNatClampNeg) g3)))) ∧ (x3 = (1 : Int32) → (vp_in x2 (zLen 14 1) ∧ (((zi g3 14 1 x2.toNatClampNeg) = 0 → Q (0 : Int32) g3) ∧ (¬ (zi g3 14 1 x2.toNatClampNeg) = 0 → Q (1 : Int32) g3)))))) ∧ (x3 = 0 → (vp_in x2 (zLen 13 10) ∧ Q (zi g3 13 10 x2.toNatClampNeg) g3)))) ∧ (¬ x3 ≤ (3 : Int32) → Q (-1 : Int32) g3))))))))))))))) :
    EvI (d + 1) m_M_part [vQ (some (12, 0)), vI x1, vI x2, vI x3] h Q := zo_entry (by decide) (Nat.le_of_ble_eq_true rfl) (w_M_part_0 x1 x2 x3  hf)
set_option maxRecDepth 100000 in
set_option maxHeartbeats 4000000 in
theorem w_M_state_0 {d : Nat}   {h : ZH} {Q : Int32 → ZH → Prop}
    (hf : ((¬ (zi h 12 0 0) = 0 → (((zi h 12 0 8) = 0 → (((zi h 12 0 7) = 0 → (((zi h 12 0 6) = 0 → Q (1 : Int32) h) ∧ (¬ (zi h 12 0 6) = 0 → Q (2 : Int32) h))) ∧ (¬ (zi h 12 0 7) = 0 → Q (3 : Int32) h))) ∧ (¬ (zi h 12 0 8) = 0 → Q (4 : Int32) h))) ∧ ((zi h 12 0 0) = 0 → Q (0 : Int32) h))) :
    EvAt d m_M_state 0 [some (vQ (some (12, 0)))] [] h (zQI Q) := by
  refine zo_aload_n d_M_state_0 rfl rfl ?_
  refine gf_M_up wd_699 d_M_state_1 ?_
  refine zo_if_ne (tgt := 11) d_M_state_4 (by decide) (fun c4 => ?_) (fun c4 => ?_)
  · replace hf := hf.1 c4
    refine zo_aload_n d_M_state_11 rfl rfl ?_
    refine gf_M_taking wd_707 d_M_state_12 ?_
    refine zo_if_eq (tgt := 22) d_M_state_15 (by decide) (fun c3 => ?_) (fun c3 => ?_)
    · replace hf := hf.1 c3
      refine zo_aload_n d_M_state_22 rfl rfl ?_
      refine gf_M_begun wd_706 d_M_state_23 ?_
      refine zo_if_eq (tgt := 33) d_M_state_26 (by decide) (fun c2 => ?_) (fun c2 => ?_)
      · replace hf := hf.1 c2
        refine zo_aload_n d_M_state_33 rfl rfl ?_
        refine gf_M_greeted wd_705 d_M_state_34 ?_
        refine zo_if_eq (tgt := 44) d_M_state_37 (by decide) (fun c1 => ?_) (fun c1 => ?_)
        · replace hf := hf.1 c1
          refine zo_iconst (v := 1) d_M_state_44 (by decide) ?_
          exact zo_iretI rfl d_M_state_45 hf
        · replace hf := hf.2 c1
          refine zo_iconst (v := 2) d_M_state_40 (by decide) ?_
          refine zo_goto (tgt := 45) d_M_state_41 (by decide) ?_
          exact zo_iretI rfl d_M_state_45 hf
      · replace hf := hf.2 c2
        refine zo_iconst (v := 3) d_M_state_29 (by decide) ?_
        refine zo_goto (tgt := 45) d_M_state_30 (by decide) ?_
        exact zo_iretI rfl d_M_state_45 hf
    · replace hf := hf.2 c3
      refine zo_iconst (v := 4) d_M_state_18 (by decide) ?_
      refine zo_goto (tgt := 45) d_M_state_19 (by decide) ?_
      exact zo_iretI rfl d_M_state_45 hf
  · replace hf := hf.2 c4
    refine zo_iconst (v := 0) d_M_state_7 (by decide) ?_
    refine zo_goto (tgt := 45) d_M_state_8 (by decide) ?_
    exact zo_iretI rfl d_M_state_45 hf
theorem e_M_state {d : Nat}   {h : ZH} {Q : Int32 → ZH → Prop}
    (hf : ((¬ (zi h 12 0 0) = 0 → (((zi h 12 0 8) = 0 → (((zi h 12 0 7) = 0 → (((zi h 12 0 6) = 0 → Q (1 : Int32) h) ∧ (¬ (zi h 12 0 6) = 0 → Q (2 : Int32) h))) ∧ (¬ (zi h 12 0 7) = 0 → Q (3 : Int32) h))) ∧ (¬ (zi h 12 0 8) = 0 → Q (4 : Int32) h))) ∧ ((zi h 12 0 0) = 0 → Q (0 : Int32) h))) :
    EvI d m_M_state [vQ (some (12, 0))] h Q := zo_entry (by decide) (Nat.le_of_ble_eq_true rfl) (w_M_state_0   hf)
set_option maxRecDepth 100000 in
set_option maxHeartbeats 4000000 in
theorem w_M_letter_0 {d : Nat} (x1 : Int32)  {h : ZH} {Q : Int32 → ZH → Prop}
    (hf : EvAt (d + 1) m_M_letter 4 [some (vQ (some (12, 0))), some (vI x1), some (vI (-1 : Int32)), some (vI (0 : Int32)), none, none, none] [] h (zQI Q)) :
    EvAt (d + 1) m_M_letter 0 [some (vQ (some (12, 0))), some (vI x1), none, none, none, none, none] [] h (zQI Q) := by
  refine zo_iconst (v := (-1)) d_M_letter_0 (by decide) ?_
  refine zo_istore_n d_M_letter_1 rfl (Nat.le_of_ble_eq_true rfl) rfl ?_
  refine zo_iconst (v := 0) d_M_letter_2 (by decide) ?_
  refine zo_istore_n d_M_letter_3 rfl (Nat.le_of_ble_eq_true rfl) rfl ?_
  exact hf
theorem e_M_letter {d : Nat} (x1 : Int32)  {h : ZH} {Q : Int32 → ZH → Prop}
    (hf : EvAt (d + 1) m_M_letter 4 [some (vQ (some (12, 0))), some (vI x1), some (vI (-1 : Int32)), some (vI (0 : Int32)), none, none, none] [] h (zQI Q)) :
    EvI (d + 1) m_M_letter [vQ (some (12, 0)), vI x1] h Q := zo_entry (by decide) (Nat.le_of_ble_eq_true rfl) (w_M_letter_0 x1  hf)
set_option maxRecDepth 100000 in
set_option maxHeartbeats 4000000 in
theorem w_M_letter_4 {d : Nat} (x1 : Int32) (x2 : Int32) (x3 : Int32)  {h : ZH} {Q : Int32 → ZH → Prop}
    (hf : ((x1 < x3 → Q x2 h) ∧ (¬ x1 < x3 → EvAt (d + 1) m_M_letter 15 [some (vQ (some (12, 0))), some (vI x1), some (vI x2), some (vI x3), some (vI (-1 : Int32)), some (vI (0 : Int32)), none] [] h (zQI Q)))) :
    EvAt (d + 1) m_M_letter 4 [some (vQ (some (12, 0))), some (vI x1), some (vI x2), some (vI x3), none, none, none] [] h (zQI Q) := by
  refine zo_iload_n d_M_letter_4 rfl rfl ?_
  refine zo_iload_n d_M_letter_5 rfl rfl ?_
  refine zo_icmp_gt (tgt := 107) d_M_letter_6 (by decide) (fun c1 => ?_) (fun c1 => ?_)
  · replace hf := hf.1 c1
    refine zo_iload_n d_M_letter_107 rfl rfl ?_
    exact zo_iretI rfl d_M_letter_108 hf
  · replace hf := hf.2 c1
    refine zo_iconst (v := (-1)) d_M_letter_9 (by decide) ?_
    refine zo_istore d_M_letter_10 (Nat.le_of_ble_eq_true rfl) rfl ?_
    refine zo_iconst (v := 0) d_M_letter_12 (by decide) ?_
    refine zo_istore d_M_letter_13 (Nat.le_of_ble_eq_true rfl) rfl ?_
    exact hf
set_option maxRecDepth 100000 in
set_option maxHeartbeats 4000000 in
theorem w_M_letter_15 {d : Nat} (x1 : Int32) (x2 : Int32) (x3 : Int32) (x4 : Int32) (x5 : Int32)  {h : ZH} {Q : Int32 → ZH → Prop}
    (hf : (((6 : Int32) ≤ x5 → ((0 ≤ x4 → EvAt (d + 1) m_M_letter 4 [some (vQ (some (12, 0))), some (vI x1), some (vI x4), some (vI (x3 + 1)), none, none, none] [] h (zQI Q)) ∧ (¬ 0 ≤ x4 → Q (-1 : Int32) h))) ∧ (¬ (6 : Int32) ≤ x5 → EvI d m_M_isLetterAt [vQ (some (12, 0)), vI x5] h (fun y3 g2 => ((y3 = 0 → EvAt (d + 1) m_M_letter 63 [some (vQ (some (12, 0))), some (vI x1), some (vI x2), some (vI x3), some (vI x4), some (vI x5), none] [] g2 (zQI Q)) ∧ (¬ y3 = 0 → (vp_in x5 (zLen 13 1) ∧ (((zi g2 13 1 x5.toNatClampNeg) ≤ x2 → EvAt (d + 1) m_M_letter 63 [some (vQ (some (12, 0))), some (vI x1), some (vI x2), some (vI x3), some (vI x4), some (vI x5), none] [] g2 (zQI Q)) ∧ (¬ (zi g2 13 1 x5.toNatClampNeg) ≤ x2 → ((x4 < 0 → EvAt (d + 1) m_M_letter 59 [some (vQ (some (12, 0))), some (vI x1), some (vI x2), some (vI x3), some (vI x4), some (vI x5), none] [] g2 (zQI Q)) ∧ (¬ x4 < 0 → (vp_in x5 (zLen 13 1) ∧ ((x4 ≤ (zi g2 13 1 x5.toNatClampNeg) → EvAt (d + 1) m_M_letter 63 [some (vQ (some (12, 0))), some (vI x1), some (vI x2), some (vI x3), some (vI x4), some (vI x5), none] [] g2 (zQI Q)) ∧ (¬ x4 ≤ (zi g2 13 1 x5.toNatClampNeg) → EvAt (d + 1) m_M_letter 59 [some (vQ (some (12, 0))), some (vI x1), some (vI x2), some (vI x3), some (vI x4), some (vI x5), none] [] g2 (zQI Q))))))))))))))) :
    EvAt (d + 1) m_M_letter 15 [some (vQ (some (12, 0))), some (vI x1), some (vI x2), some (vI x3), some (vI x4), some (vI x5), none] [] h (zQI Q) := by
  refine zo_iload d_M_letter_15 rfl ?_
  refine zo_bipush (v := 6) d_M_letter_17 (by decide) ?_
  refine zo_icmp_ge (tgt := 91) d_M_letter_19 (by decide) (fun c8 => ?_) (fun c8 => ?_)
  · replace hf := hf.1 c8
    refine zo_iload d_M_letter_91 rfl ?_
    refine zo_if_ge (tgt := 98) d_M_letter_93 (by decide) (fun c1 => ?_) (fun c1 => ?_)
    · replace hf := hf.1 c1
      refine zo_iload d_M_letter_98 rfl ?_
      refine zo_istore_n d_M_letter_100 rfl (Nat.le_of_ble_eq_true rfl) rfl ?_
      refine zo_iinc (v := x3 + 1) d_M_letter_101 rfl rfl (Nat.le_of_ble_eq_true rfl) rfl ?_
      refine zo_goto (tgt := 4) d_M_letter_104 (by decide) ?_
      refine zo_drop 4 ?_
      refine zo_drop 5 ?_
      exact hf
    · replace hf := hf.2 c1
      refine zo_iconst (v := (-1)) d_M_letter_96 (by decide) ?_
      exact zo_iretI rfl d_M_letter_97 hf
  · replace hf := hf.2 c8
    refine zo_aload_n d_M_letter_22 rfl rfl ?_
    refine zo_iload d_M_letter_23 rfl ?_
    refine zo_callVI (d := d) (N := m_M_isLetterAt) (as := [vI x5]) (n := 1) (zin (by decide) (by decide)) rfl rfl cv_M_isLetterAt wd_904 rfl rfl (Nat.le_of_ble_eq_true rfl) d_M_letter_25 hf (fun y3 g2 hf => ?_)
    refine zo_if_eq (tgt := 63) d_M_letter_28 (by decide) (fun c7 => ?_) (fun c7 => ?_)
    · replace hf := hf.1 c7
      exact hf
    · replace hf := hf.2 c7
      refine zo_aload_n d_M_letter_31 rfl rfl ?_
      refine gf_M_number wd_708 d_M_letter_32 ?_
      refine zo_iload d_M_letter_35 rfl ?_
      obtain ⟨hp, hf⟩ := hf
      refine zo_iald (zin (by decide) (by decide)) rfl rfl rfl hp d_M_letter_37 ?_
      refine zo_iload_n d_M_letter_38 rfl rfl ?_
      refine zo_icmp_le (tgt := 63) d_M_letter_39 (by decide) (fun c6 => ?_) (fun c6 => ?_)
      · replace hf := hf.1 c6
        exact hf
      · replace hf := hf.2 c6
        refine zo_iload d_M_letter_42 rfl ?_
        refine zo_if_lt (tgt := 59) d_M_letter_44 (by decide) (fun c5 => ?_) (fun c5 => ?_)
        · replace hf := hf.1 c5
          exact hf
        · replace hf := hf.2 c5
          refine zo_aload_n d_M_letter_47 rfl rfl ?_
          refine gf_M_number wd_708 d_M_letter_48 ?_
          refine zo_iload d_M_letter_51 rfl ?_
          obtain ⟨hp, hf⟩ := hf
          refine zo_iald (zin (by decide) (by decide)) rfl rfl rfl hp d_M_letter_53 ?_
          refine zo_iload d_M_letter_54 rfl ?_
          refine zo_icmp_ge (tgt := 63) d_M_letter_56 (by decide) (fun c4 => ?_) (fun c4 => ?_)
          · replace hf := hf.1 c4
            exact hf
          · replace hf := hf.2 c4
            exact hf
set_option maxRecDepth 100000 in
set_option maxHeartbeats 4000000 in
theorem w_M_letter_59 {d : Nat} (x1 : Int32) (x2 : Int32) (x3 : Int32) (x4 : Int32) (x5 : Int32)  {h : ZH} {Q : Int32 → ZH → Prop}
    (hf : EvAt (d + 1) m_M_letter 64 [some (vQ (some (12, 0))), some (vI x1), some (vI x2), some (vI x3), some (vI x4), some (vI x5), none] [vI (1 : Int32)] h (zQI Q)) :
    EvAt (d + 1) m_M_letter 59 [some (vQ (some (12, 0))), some (vI x1), some (vI x2), some (vI x3), some (vI x4), some (vI x5), none] [] h (zQI Q) := by
  refine zo_iconst (v := 1) d_M_letter_59 (by decide) ?_
  refine zo_goto (tgt := 64) d_M_letter_60 (by decide) ?_
  exact hf
set_option maxRecDepth 100000 in
set_option maxHeartbeats 4000000 in
theorem w_M_letter_63 {d : Nat} (x1 : Int32) (x2 : Int32) (x3 : Int32) (x4 : Int32) (x5 : Int32)  {h : ZH} {Q : Int32 → ZH → Prop}
    (hf : EvAt (d + 1) m_M_letter 64 [some (vQ (some (12, 0))), some (vI x1), some (vI x2), some (vI x3), some (vI x4), some (vI x5), none] [vI (0 : Int32)] h (zQI Q)) :
    EvAt (d + 1) m_M_letter 63 [some (vQ (some (12, 0))), some (vI x1), some (vI x2), some (vI x3), some (vI x4), some (vI x5), none] [] h (zQI Q) := by
  refine zo_iconst (v := 0) d_M_letter_63 (by decide) ?_
  exact hf
set_option maxRecDepth 100000 in
set_option maxHeartbeats 4000000 in
theorem w_M_letter_64 {d : Nat} (x1 : Int32) (x2 : Int32) (x3 : Int32) (x4 : Int32) (x5 : Int32) (xs0 : Int32)  {h : ZH} {Q : Int32 → ZH → Prop}
    (hf : ((xs0 = 0 → EvAt (d + 1) m_M_letter 83 [some (vQ (some (12, 0))), some (vI x1), some (vI x2), some (vI x3), none, some (vI x5), none] [vI x4] h (zQI Q)) ∧ (¬ xs0 = 0 → (vp_in x5 (zLen 13 1) ∧ EvAt (d + 1) m_M_letter 83 [some (vQ (some (12, 0))), some (vI x1), some (vI x2), some (vI x3), none, some (vI x5), none] [vI (zi h 13 1 x5.toNatClampNeg)] h (zQI Q))))) :
    EvAt (d + 1) m_M_letter 64 [some (vQ (some (12, 0))), some (vI x1), some (vI x2), some (vI x3), some (vI x4), some (vI x5), none] [vI xs0] h (zQI Q) := by
  refine zo_istore d_M_letter_64 (Nat.le_of_ble_eq_true rfl) rfl ?_
  refine zo_iload d_M_letter_66 rfl ?_
  refine zo_if_eq (tgt := 81) d_M_letter_68 (by decide) (fun c1 => ?_) (fun c1 => ?_)
  · replace hf := hf.1 c1
    refine zo_iload d_M_letter_81 rfl ?_
    refine zo_drop 4 ?_
    refine zo_drop 6 ?_
    exact hf
  · replace hf := hf.2 c1
    refine zo_aload_n d_M_letter_71 rfl rfl ?_
    refine gf_M_number wd_708 d_M_letter_72 ?_
    refine zo_iload d_M_letter_75 rfl ?_
    obtain ⟨hp, hf⟩ := hf
    refine zo_iald (zin (by decide) (by decide)) rfl rfl rfl hp d_M_letter_77 ?_
    refine zo_goto (tgt := 83) d_M_letter_78 (by decide) ?_
    refine zo_drop 4 ?_
    refine zo_drop 6 ?_
    exact hf
set_option maxRecDepth 100000 in
set_option maxHeartbeats 4000000 in
theorem w_M_letter_83 {d : Nat} (x1 : Int32) (x2 : Int32) (x3 : Int32) (x5 : Int32) (xs0 : Int32)  {h : ZH} {Q : Int32 → ZH → Prop}
    (hf : EvAt (d + 1) m_M_letter 15 [some (vQ (some (12, 0))), some (vI x1), some (vI x2), some (vI x3), some (vI xs0), some (vI (x5 + 1)), none] [] h (zQI Q)) :
    EvAt (d + 1) m_M_letter 83 [some (vQ (some (12, 0))), some (vI x1), some (vI x2), some (vI x3), none, some (vI x5), none] [vI xs0] h (zQI Q) := by
  refine zo_istore d_M_letter_83 (Nat.le_of_ble_eq_true rfl) rfl ?_
  refine zo_iinc (v := x5 + 1) d_M_letter_85 rfl rfl (Nat.le_of_ble_eq_true rfl) rfl ?_
  refine zo_goto (tgt := 15) d_M_letter_88 (by decide) ?_
  exact hf
set_option maxRecDepth 100000 in
set_option maxHeartbeats 4000000 in
theorem w_M_text_0 {d : Nat} (x1 : Int32) (x2 : Int32)  {h : ZH} {Q : Int32 → ZH → Prop}
    (hf : EvI d m_M_placeOf [vQ (some (12, 0)), vI x1] h (fun y2 g1 => ((y2 < 0 → Q (0 : Int32) g1) ∧ (¬ y2 < 0 → ((x2 < 0 → Q (0 : Int32) g1) ∧ (¬ x2 < 0 → (vp_in y2 (zLen 13 3) ∧ ((x2 < (zi g1 13 3 y2.toNatClampNeg) → (vp_in (((602 : Int32) * y2) + x2) (zLen 13 2) ∧ (narrow .char (.int (((zi g1 13 2 (((602 : Int32) * y2) + x2).toNatClampNeg).toUInt32 % 65536).toInt32)) = .int (((zi g1 13 2 (((602 : Int32) * y2) + x2).toNatClampNeg).toUInt32 % 65536).toInt32) ∧ Q (((zi g1 13 2 (((602 : Int32) * y2) + x2).toNatClampNeg).toUInt32 % 65536).toInt32) g1))) ∧ (¬ x2 < (zi g1 13 3 y2.toNatClampNeg) → Q (0 : Int32) g1))))))))) :
    EvAt (d + 1) m_M_text 0 [some (vQ (some (12, 0))), some (vI x1), some (vI x2), none] [] h (zQI Q) := by
  refine zo_aload_n d_M_text_0 rfl rfl ?_
  refine zo_iload_n d_M_text_1 rfl rfl ?_
  refine zo_callVI (d := d) (N := m_M_placeOf) (as := [vI x1]) (n := 1) (zin (by decide) (by decide)) rfl rfl cv_M_placeOf wd_941 rfl rfl (Nat.le_of_ble_eq_true rfl) d_M_text_2 hf (fun y2 g1 hf => ?_)
  refine zo_istore_n d_M_text_5 rfl (Nat.le_of_ble_eq_true rfl) rfl ?_
  refine zo_iload_n d_M_text_6 rfl rfl ?_
  refine zo_if_lt (tgt := 24) d_M_text_7 (by decide) (fun c5 => ?_) (fun c5 => ?_)
  · replace hf := hf.1 c5
    refine zo_iconst (v := 0) d_M_text_24 (by decide) ?_
    refine zo_goto (tgt := 41) d_M_text_25 (by decide) ?_
    exact zo_zretI (ty := .char) rfl rfl d_M_text_41 hf
  · replace hf := hf.2 c5
    refine zo_iload_n d_M_text_10 rfl rfl ?_
    refine zo_if_lt (tgt := 24) d_M_text_11 (by decide) (fun c4 => ?_) (fun c4 => ?_)
    · replace hf := hf.1 c4
      refine zo_iconst (v := 0) d_M_text_24 (by decide) ?_
      refine zo_goto (tgt := 41) d_M_text_25 (by decide) ?_
      exact zo_zretI (ty := .char) rfl rfl d_M_text_41 hf
    · replace hf := hf.2 c4
      refine zo_iload_n d_M_text_14 rfl rfl ?_
      refine zo_aload_n d_M_text_15 rfl rfl ?_
      refine gf_M_textSize wd_711 d_M_text_16 ?_
      refine zo_iload_n d_M_text_19 rfl rfl ?_
      obtain ⟨hp, hf⟩ := hf
      refine zo_iald (zin (by decide) (by decide)) rfl rfl rfl hp d_M_text_20 ?_
      refine zo_icmp_lt (tgt := 28) d_M_text_21 (by decide) (fun c3 => ?_) (fun c3 => ?_)
      · replace hf := hf.1 c3
        refine zo_aload_n d_M_text_28 rfl rfl ?_
        refine gf_M_texts wd_710 d_M_text_29 ?_
        refine zo_sipush (v := 602) d_M_text_32 (by decide) ?_
        refine zo_iload_n d_M_text_35 rfl rfl ?_
        refine zo_imul d_M_text_36 ?_
        refine zo_iload_n d_M_text_37 rfl rfl ?_
        refine zo_iadd d_M_text_38 ?_
        obtain ⟨hp, hf⟩ := hf
        refine zo_iald (zin (by decide) (by decide)) rfl rfl rfl hp d_M_text_39 ?_
        refine zo_i2c d_M_text_40 ?_
        exact zo_zretI (ty := .char) rfl hf.1 d_M_text_41 hf.2
      · replace hf := hf.2 c3
        refine zo_iconst (v := 0) d_M_text_24 (by decide) ?_
        refine zo_goto (tgt := 41) d_M_text_25 (by decide) ?_
        exact zo_zretI (ty := .char) rfl rfl d_M_text_41 hf
theorem e_M_text {d : Nat} (x1 : Int32) (x2 : Int32)  {h : ZH} {Q : Int32 → ZH → Prop}
    (hf : EvI d m_M_placeOf [vQ (some (12, 0)), vI x1] h (fun y2 g1 => ((y2 < 0 → Q (0 : Int32) g1) ∧ (¬ y2 < 0 → ((x2 < 0 → Q (0 : Int32) g1) ∧ (¬ x2 < 0 → (vp_in y2 (zLen 13 3) ∧ ((x2 < (zi g1 13 3 y2.toNatClampNeg) → (vp_in (((602 : Int32) * y2) + x2) (zLen 13 2) ∧ (narrow .char (.int (((zi g1 13 2 (((602 : Int32) * y2) + x2).toNatClampNeg).toUInt32 % 65536).toInt32)) = .int (((zi g1 13 2 (((602 : Int32) * y2) + x2).toNatClampNeg).toUInt32 % 65536).toInt32) ∧ Q (((zi g1 13 2 (((602 : Int32) * y2) + x2).toNatClampNeg).toUInt32 % 65536).toInt32) g1))) ∧ (¬ x2 < (zi g1 13 3 y2.toNatClampNeg) → Q (0 : Int32) g1))))))))) :
    EvI (d + 1) m_M_text [vQ (some (12, 0)), vI x1, vI x2] h Q := zo_entry (by decide) (Nat.le_of_ble_eq_true rfl) (w_M_text_0 x1 x2  hf)
set_option maxRecDepth 100000 in
set_option maxHeartbeats 4000000 in
theorem w_M_path_0 {d : Nat} (x1 : Int32) (x2 : Int32) (x3 : Int32)  {h : ZH} {Q : Int32 → ZH → Prop}
    (hf : EvI d m_M_placeOf [vQ (some (12, 0)), vI x1] h (fun y2 g1 => ((y2 < 0 → Q (0 : Int32) g1) ∧ (¬ y2 < 0 → ((x2 < (-1 : Int32) → Q (0 : Int32) g1) ∧ (¬ x2 < (-1 : Int32) → (vp_in y2 (zLen 13 6) ∧ ((x2 < (zi g1 13 6 y2.toNatClampNeg) → ((0 ≤ x2 → EvAt (d + 1) m_M_path 43 [some (vQ (some (12, 0))), none, none, some (vI x3), none, none] [vI x2, vI ((5 : Int32) * y2)] g1 (zQI Q)) ∧ (¬ 0 ≤ x2 → EvAt (d + 1) m_M_path 43 [some (vQ (some (12, 0))), none, none, some (vI x3), none, none] [vI (4 : Int32), vI ((5 : Int32) * y2)] g1 (zQI Q)))) ∧ (¬ x2 < (zi g1 13 6 y2.toNatClampNeg) → Q (0 : Int32) g1))))))))) :
    EvAt (d + 1) m_M_path 0 [some (vQ (some (12, 0))), some (vI x1), some (vI x2), some (vI x3), none, none] [] h (zQI Q) := by
  refine zo_aload_n d_M_path_0 rfl rfl ?_
  refine zo_iload_n d_M_path_1 rfl rfl ?_
  refine zo_callVI (d := d) (N := m_M_placeOf) (as := [vI x1]) (n := 1) (zin (by decide) (by decide)) rfl rfl cv_M_placeOf wd_941 rfl rfl (Nat.le_of_ble_eq_true rfl) d_M_path_2 hf (fun y2 g1 hf => ?_)
  refine zo_istore d_M_path_5 (Nat.le_of_ble_eq_true rfl) rfl ?_
  refine zo_iload d_M_path_7 rfl ?_
  refine zo_if_lt (tgt := 28) d_M_path_9 (by decide) (fun c6 => ?_) (fun c6 => ?_)
  · replace hf := hf.1 c6
    refine zo_iconst (v := 0) d_M_path_28 (by decide) ?_
    exact zo_zretI (ty := .char) rfl rfl d_M_path_29 hf
  · replace hf := hf.2 c6
    refine zo_iload_n d_M_path_12 rfl rfl ?_
    refine zo_iconst (v := (-1)) d_M_path_13 (by decide) ?_
    refine zo_icmp_lt (tgt := 28) d_M_path_14 (by decide) (fun c5 => ?_) (fun c5 => ?_)
    · replace hf := hf.1 c5
      refine zo_iconst (v := 0) d_M_path_28 (by decide) ?_
      exact zo_zretI (ty := .char) rfl rfl d_M_path_29 hf
    · replace hf := hf.2 c5
      refine zo_iload_n d_M_path_17 rfl rfl ?_
      refine zo_aload_n d_M_path_18 rfl rfl ?_
      refine gf_M_many wd_714 d_M_path_19 ?_
      refine zo_iload d_M_path_22 rfl ?_
      obtain ⟨hp, hf⟩ := hf
      refine zo_iald (zin (by decide) (by decide)) rfl rfl rfl hp d_M_path_24 ?_
      refine zo_icmp_lt (tgt := 30) d_M_path_25 (by decide) (fun c4 => ?_) (fun c4 => ?_)
      · replace hf := hf.1 c4
        refine zo_iconst (v := 5) d_M_path_30 (by decide) ?_
        refine zo_iload d_M_path_31 rfl ?_
        refine zo_imul d_M_path_33 ?_
        refine zo_iload_n d_M_path_34 rfl rfl ?_
        refine zo_if_ge (tgt := 42) d_M_path_35 (by decide) (fun c3 => ?_) (fun c3 => ?_)
        · replace hf := hf.1 c3
          refine zo_iload_n d_M_path_42 rfl rfl ?_
          refine zo_drop 1 ?_
          refine zo_drop 2 ?_
          refine zo_drop 4 ?_
          exact hf
        · replace hf := hf.2 c3
          refine zo_iconst (v := 4) d_M_path_38 (by decide) ?_
          refine zo_goto (tgt := 43) d_M_path_39 (by decide) ?_
          refine zo_drop 1 ?_
          refine zo_drop 2 ?_
          refine zo_drop 4 ?_
          exact hf
      · replace hf := hf.2 c4
        refine zo_iconst (v := 0) d_M_path_28 (by decide) ?_
        exact zo_zretI (ty := .char) rfl rfl d_M_path_29 hf
theorem e_M_path {d : Nat} (x1 : Int32) (x2 : Int32) (x3 : Int32)  {h : ZH} {Q : Int32 → ZH → Prop}
    (hf : EvI d m_M_placeOf [vQ (some (12, 0)), vI x1] h (fun y2 g1 => ((y2 < 0 → Q (0 : Int32) g1) ∧ (¬ y2 < 0 → ((x2 < (-1 : Int32) → Q (0 : Int32) g1) ∧ (¬ x2 < (-1 : Int32) → (vp_in y2 (zLen 13 6) ∧ ((x2 < (zi g1 13 6 y2.toNatClampNeg) → ((0 ≤ x2 → EvAt (d + 1) m_M_path 43 [some (vQ (some (12, 0))), none, none, some (vI x3), none, none] [vI x2, vI ((5 : Int32) * y2)] g1 (zQI Q)) ∧ (¬ 0 ≤ x2 → EvAt (d + 1) m_M_path 43 [some (vQ (some (12, 0))), none, none, some (vI x3), none, none] [vI (4 : Int32), vI ((5 : Int32) * y2)] g1 (zQI Q)))) ∧ (¬ x2 < (zi g1 13 6 y2.toNatClampNeg) → Q (0 : Int32) g1))))))))) :
    EvI (d + 1) m_M_path [vQ (some (12, 0)), vI x1, vI x2, vI x3] h Q := zo_entry (by decide) (Nat.le_of_ble_eq_true rfl) (w_M_path_0 x1 x2 x3  hf)
set_option maxRecDepth 100000 in
set_option maxHeartbeats 4000000 in
theorem w_M_path_43 {d : Nat} (x3 : Int32) (xs0 : Int32) (xs1 : Int32)  {h : ZH} {Q : Int32 → ZH → Prop}
    (hf : ((x3 < 0 → Q (0 : Int32) h) ∧ (¬ x3 < 0 → (vp_in (xs0 + xs1) (zLen 13 5) ∧ ((x3 < (zi h 13 5 (xs0 + xs1).toNatClampNeg) → (vp_in (((40 : Int32) * (xs0 + xs1)) + x3) (zLen 13 4) ∧ (narrow .char (.int (((zi h 13 4 (((40 : Int32) * (xs0 + xs1)) + x3).toNatClampNeg).toUInt32 % 65536).toInt32)) = .int (((zi h 13 4 (((40 : Int32) * (xs0 + xs1)) + x3).toNatClampNeg).toUInt32 % 65536).toInt32) ∧ Q (((zi h 13 4 (((40 : Int32) * (xs0 + xs1)) + x3).toNatClampNeg).toUInt32 % 65536).toInt32) h))) ∧ (¬ x3 < (zi h 13 5 (xs0 + xs1).toNatClampNeg) → Q (0 : Int32) h)))))) :
    EvAt (d + 1) m_M_path 43 [some (vQ (some (12, 0))), none, none, some (vI x3), none, none] [vI xs1, vI xs0] h (zQI Q) := by
  refine zo_iadd d_M_path_43 ?_
  refine zo_istore d_M_path_44 (Nat.le_of_ble_eq_true rfl) rfl ?_
  refine zo_iload_n d_M_path_46 rfl rfl ?_
  refine zo_if_lt (tgt := 61) d_M_path_47 (by decide) (fun c2 => ?_) (fun c2 => ?_)
  · replace hf := hf.1 c2
    refine zo_iconst (v := 0) d_M_path_61 (by decide) ?_
    refine zo_goto (tgt := 78) d_M_path_62 (by decide) ?_
    exact zo_zretI (ty := .char) rfl rfl d_M_path_78 hf
  · replace hf := hf.2 c2
    refine zo_iload_n d_M_path_50 rfl rfl ?_
    refine zo_aload_n d_M_path_51 rfl rfl ?_
    refine gf_M_pathSize wd_713 d_M_path_52 ?_
    refine zo_iload d_M_path_55 rfl ?_
    obtain ⟨hp, hf⟩ := hf
    refine zo_iald (zin (by decide) (by decide)) rfl rfl rfl hp d_M_path_57 ?_
    refine zo_icmp_lt (tgt := 65) d_M_path_58 (by decide) (fun c1 => ?_) (fun c1 => ?_)
    · replace hf := hf.1 c1
      refine zo_aload_n d_M_path_65 rfl rfl ?_
      refine gf_M_paths wd_712 d_M_path_66 ?_
      refine zo_bipush (v := 40) d_M_path_69 (by decide) ?_
      refine zo_iload d_M_path_71 rfl ?_
      refine zo_imul d_M_path_73 ?_
      refine zo_iload_n d_M_path_74 rfl rfl ?_
      refine zo_iadd d_M_path_75 ?_
      obtain ⟨hp, hf⟩ := hf
      refine zo_iald (zin (by decide) (by decide)) rfl rfl rfl hp d_M_path_76 ?_
      refine zo_i2c d_M_path_77 ?_
      exact zo_zretI (ty := .char) rfl hf.1 d_M_path_78 hf.2
    · replace hf := hf.2 c1
      refine zo_iconst (v := 0) d_M_path_61 (by decide) ?_
      refine zo_goto (tgt := 78) d_M_path_62 (by decide) ?_
      exact zo_zretI (ty := .char) rfl rfl d_M_path_78 hf
set_option maxRecDepth 100000 in
set_option maxHeartbeats 4000000 in
theorem w_M_recipient1_0 {d : Nat} (x1 : Int32) (x2 : Int32)  {h : ZH} {Q : Int32 → ZH → Prop}
    (hf : EvI d m_M_placeOf [vQ (some (12, 0)), vI x1] h (fun y2 g1 => ((y2 < 0 → Q (-1 : Int32) g1) ∧ (¬ y2 < 0 → ((x2 < 0 → Q (-1 : Int32) g1) ∧ (¬ x2 < 0 → (vp_in y2 (zLen 13 6) ∧ ((x2 < (zi g1 13 6 y2.toNatClampNeg) → (vp_in (((4 : Int32) * y2) + x2) (zLen 13 7) ∧ Q (zi g1 13 7 (((4 : Int32) * y2) + x2).toNatClampNeg) g1)) ∧ (¬ x2 < (zi g1 13 6 y2.toNatClampNeg) → Q (-1 : Int32) g1))))))))) :
    EvAt (d + 1) m_M_recipient1 0 [some (vQ (some (12, 0))), some (vI x1), some (vI x2), none] [] h (zQI Q) := by
  refine zo_aload_n d_M_recipient1_0 rfl rfl ?_
  refine zo_iload_n d_M_recipient1_1 rfl rfl ?_
  refine zo_callVI (d := d) (N := m_M_placeOf) (as := [vI x1]) (n := 1) (zin (by decide) (by decide)) rfl rfl cv_M_placeOf wd_941 rfl rfl (Nat.le_of_ble_eq_true rfl) d_M_recipient1_2 hf (fun y2 g1 hf => ?_)
  refine zo_istore_n d_M_recipient1_5 rfl (Nat.le_of_ble_eq_true rfl) rfl ?_
  refine zo_iload_n d_M_recipient1_6 rfl rfl ?_
  refine zo_if_lt (tgt := 24) d_M_recipient1_7 (by decide) (fun c5 => ?_) (fun c5 => ?_)
  · replace hf := hf.1 c5
    refine zo_iconst (v := (-1)) d_M_recipient1_24 (by decide) ?_
    refine zo_goto (tgt := 38) d_M_recipient1_25 (by decide) ?_
    exact zo_iretI rfl d_M_recipient1_38 hf
  · replace hf := hf.2 c5
    refine zo_iload_n d_M_recipient1_10 rfl rfl ?_
    refine zo_if_lt (tgt := 24) d_M_recipient1_11 (by decide) (fun c4 => ?_) (fun c4 => ?_)
    · replace hf := hf.1 c4
      refine zo_iconst (v := (-1)) d_M_recipient1_24 (by decide) ?_
      refine zo_goto (tgt := 38) d_M_recipient1_25 (by decide) ?_
      exact zo_iretI rfl d_M_recipient1_38 hf
    · replace hf := hf.2 c4
      refine zo_iload_n d_M_recipient1_14 rfl rfl ?_
      refine zo_aload_n d_M_recipient1_15 rfl rfl ?_
      refine gf_M_many wd_714 d_M_recipient1_16 ?_
      refine zo_iload_n d_M_recipient1_19 rfl rfl ?_
      obtain ⟨hp, hf⟩ := hf
      refine zo_iald (zin (by decide) (by decide)) rfl rfl rfl hp d_M_recipient1_20 ?_
      refine zo_icmp_lt (tgt := 28) d_M_recipient1_21 (by decide) (fun c3 => ?_) (fun c3 => ?_)
      · replace hf := hf.1 c3
        refine zo_aload_n d_M_recipient1_28 rfl rfl ?_
        refine gf_M_fate wd_715 d_M_recipient1_29 ?_
        refine zo_iconst (v := 4) d_M_recipient1_32 (by decide) ?_
        refine zo_iload_n d_M_recipient1_33 rfl rfl ?_
        refine zo_imul d_M_recipient1_34 ?_
        refine zo_iload_n d_M_recipient1_35 rfl rfl ?_
        refine zo_iadd d_M_recipient1_36 ?_
        obtain ⟨hp, hf⟩ := hf
        refine zo_iald (zin (by decide) (by decide)) rfl rfl rfl hp d_M_recipient1_37 ?_
        exact zo_iretI rfl d_M_recipient1_38 hf
      · replace hf := hf.2 c3
        refine zo_iconst (v := (-1)) d_M_recipient1_24 (by decide) ?_
        refine zo_goto (tgt := 38) d_M_recipient1_25 (by decide) ?_
        exact zo_iretI rfl d_M_recipient1_38 hf
theorem e_M_recipient1 {d : Nat} (x1 : Int32) (x2 : Int32)  {h : ZH} {Q : Int32 → ZH → Prop}
    (hf : EvI d m_M_placeOf [vQ (some (12, 0)), vI x1] h (fun y2 g1 => ((y2 < 0 → Q (-1 : Int32) g1) ∧ (¬ y2 < 0 → ((x2 < 0 → Q (-1 : Int32) g1) ∧ (¬ x2 < 0 → (vp_in y2 (zLen 13 6) ∧ ((x2 < (zi g1 13 6 y2.toNatClampNeg) → (vp_in (((4 : Int32) * y2) + x2) (zLen 13 7) ∧ Q (zi g1 13 7 (((4 : Int32) * y2) + x2).toNatClampNeg) g1)) ∧ (¬ x2 < (zi g1 13 6 y2.toNatClampNeg) → Q (-1 : Int32) g1))))))))) :
    EvI (d + 1) m_M_recipient1 [vQ (some (12, 0)), vI x1, vI x2] h Q := zo_entry (by decide) (Nat.le_of_ble_eq_true rfl) (w_M_recipient1_0 x1 x2  hf)
set_option maxRecDepth 100000 in
set_option maxHeartbeats 4000000 in
theorem w_M_due_0 {d : Nat} (x1 : Int32) (x2 : Int32)  {h : ZH} {Q : Int32 → ZH → Prop}
    (hf : EvI d m_M_placeOf [vQ (some (12, 0)), vI x1] h (fun y2 g1 => ((y2 < 0 → Q (-1 : Int32) g1) ∧ (¬ y2 < 0 → ((x2 < 0 → Q (-1 : Int32) g1) ∧ (¬ x2 < 0 → (vp_in y2 (zLen 13 6) ∧ (((zi g1 13 6 y2.toNatClampNeg) ≤ x2 → Q (-1 : Int32) g1) ∧ (¬ (zi g1 13 6 y2.toNatClampNeg) ≤ x2 → (vp_in (((4 : Int32) * y2) + x2) (zLen 13 7) ∧ (((zi g1 13 7 (((4 : Int32) * y2) + x2).toNatClampNeg) ≤ (3 : Int32) → (vp_in (((4 : Int32) * y2) + x2) (zLen 13 8) ∧ Q (zi g1 13 8 (((4 : Int32) * y2) + x2).toNatClampNeg) g1)) ∧ (¬ (zi g1 13 7 (((4 : Int32) * y2) + x2).toNatClampNeg) ≤ (3 : Int32) → Q (-1 : Int32) g1)))))))))))) :
    EvAt (d + 1) m_M_due 0 [some (vQ (some (12, 0))), some (vI x1), some (vI x2), none] [] h (zQI Q) := by
  refine zo_aload_n d_M_due_0 rfl rfl ?_
  refine zo_iload_n d_M_due_1 rfl rfl ?_
  refine zo_callVI (d := d) (N := m_M_placeOf) (as := [vI x1]) (n := 1) (zin (by decide) (by decide)) rfl rfl cv_M_placeOf wd_941 rfl rfl (Nat.le_of_ble_eq_true rfl) d_M_due_2 hf (fun y2 g1 hf => ?_)
  refine zo_istore_n d_M_due_5 rfl (Nat.le_of_ble_eq_true rfl) rfl ?_
  refine zo_iload_n d_M_due_6 rfl rfl ?_
  refine zo_if_lt (tgt := 38) d_M_due_7 (by decide) (fun c6 => ?_) (fun c6 => ?_)
  · replace hf := hf.1 c6
    refine zo_iconst (v := (-1)) d_M_due_38 (by decide) ?_
    refine zo_goto (tgt := 52) d_M_due_39 (by decide) ?_
    exact zo_iretI rfl d_M_due_52 hf
  · replace hf := hf.2 c6
    refine zo_iload_n d_M_due_10 rfl rfl ?_
    refine zo_if_lt (tgt := 38) d_M_due_11 (by decide) (fun c5 => ?_) (fun c5 => ?_)
    · replace hf := hf.1 c5
      refine zo_iconst (v := (-1)) d_M_due_38 (by decide) ?_
      refine zo_goto (tgt := 52) d_M_due_39 (by decide) ?_
      exact zo_iretI rfl d_M_due_52 hf
    · replace hf := hf.2 c5
      refine zo_iload_n d_M_due_14 rfl rfl ?_
      refine zo_aload_n d_M_due_15 rfl rfl ?_
      refine gf_M_many wd_714 d_M_due_16 ?_
      refine zo_iload_n d_M_due_19 rfl rfl ?_
      obtain ⟨hp, hf⟩ := hf
      refine zo_iald (zin (by decide) (by decide)) rfl rfl rfl hp d_M_due_20 ?_
      refine zo_icmp_ge (tgt := 38) d_M_due_21 (by decide) (fun c4 => ?_) (fun c4 => ?_)
      · replace hf := hf.1 c4
        refine zo_iconst (v := (-1)) d_M_due_38 (by decide) ?_
        refine zo_goto (tgt := 52) d_M_due_39 (by decide) ?_
        exact zo_iretI rfl d_M_due_52 hf
      · replace hf := hf.2 c4
        refine zo_aload_n d_M_due_24 rfl rfl ?_
        refine gf_M_fate wd_715 d_M_due_25 ?_
        refine zo_iconst (v := 4) d_M_due_28 (by decide) ?_
        refine zo_iload_n d_M_due_29 rfl rfl ?_
        refine zo_imul d_M_due_30 ?_
        refine zo_iload_n d_M_due_31 rfl rfl ?_
        refine zo_iadd d_M_due_32 ?_
        obtain ⟨hp, hf⟩ := hf
        refine zo_iald (zin (by decide) (by decide)) rfl rfl rfl hp d_M_due_33 ?_
        refine zo_iconst (v := 3) d_M_due_34 (by decide) ?_
        refine zo_icmp_le (tgt := 42) d_M_due_35 (by decide) (fun c3 => ?_) (fun c3 => ?_)
        · replace hf := hf.1 c3
          refine zo_aload_n d_M_due_42 rfl rfl ?_
          refine gf_M_dueAt wd_716 d_M_due_43 ?_
          refine zo_iconst (v := 4) d_M_due_46 (by decide) ?_
          refine zo_iload_n d_M_due_47 rfl rfl ?_
          refine zo_imul d_M_due_48 ?_
          refine zo_iload_n d_M_due_49 rfl rfl ?_
          refine zo_iadd d_M_due_50 ?_
          obtain ⟨hp, hf⟩ := hf
          refine zo_iald (zin (by decide) (by decide)) rfl rfl rfl hp d_M_due_51 ?_
          exact zo_iretI rfl d_M_due_52 hf
        · replace hf := hf.2 c3
          refine zo_iconst (v := (-1)) d_M_due_38 (by decide) ?_
          refine zo_goto (tgt := 52) d_M_due_39 (by decide) ?_
          exact zo_iretI rfl d_M_due_52 hf
theorem e_M_due {d : Nat} (x1 : Int32) (x2 : Int32)  {h : ZH} {Q : Int32 → ZH → Prop}
    (hf : EvI d m_M_placeOf [vQ (some (12, 0)), vI x1] h (fun y2 g1 => ((y2 < 0 → Q (-1 : Int32) g1) ∧ (¬ y2 < 0 → ((x2 < 0 → Q (-1 : Int32) g1) ∧ (¬ x2 < 0 → (vp_in y2 (zLen 13 6) ∧ (((zi g1 13 6 y2.toNatClampNeg) ≤ x2 → Q (-1 : Int32) g1) ∧ (¬ (zi g1 13 6 y2.toNatClampNeg) ≤ x2 → (vp_in (((4 : Int32) * y2) + x2) (zLen 13 7) ∧ (((zi g1 13 7 (((4 : Int32) * y2) + x2).toNatClampNeg) ≤ (3 : Int32) → (vp_in (((4 : Int32) * y2) + x2) (zLen 13 8) ∧ Q (zi g1 13 8 (((4 : Int32) * y2) + x2).toNatClampNeg) g1)) ∧ (¬ (zi g1 13 7 (((4 : Int32) * y2) + x2).toNatClampNeg) ≤ (3 : Int32) → Q (-1 : Int32) g1)))))))))))) :
    EvI (d + 1) m_M_due [vQ (some (12, 0)), vI x1, vI x2] h Q := zo_entry (by decide) (Nat.le_of_ble_eq_true rfl) (w_M_due_0 x1 x2  hf)
