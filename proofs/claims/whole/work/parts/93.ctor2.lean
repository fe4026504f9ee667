theorem ct_O (d : Nat) : NvCall (d + 4) 109 5034 m_O_init [] (.inr (3, [.null, .int 0, .int 0, .int 0, .int 0])) QSpo := by
  refine nv_entry (by decide) rfl (fun b => Nat.le_of_ble_eq_true rfl) (fun D K A b => ?_)
  show NvAt _ _ _ D K A _ 0 [(0, .ref b)] [] 0 0 _ _
  refine nv_aload (k := 0) 0 0 (by decide +kernel) rfl rfl ?_
  refine nv_obj (idx := 3) (by decide +kernel) (by decide +kernel) (Nat.le_of_ble_eq_true rfl) (by omega) ?_
  refine nv_aload (k := 0) 0 0 (by decide +kernel) rfl rfl ?_
  refine nv_bipush (n := 6) (v := 6) (by decide +kernel) rfl ?_
  refine nv_newq (n := 6) (N' := 6) (idx := 9) 4 (by decide +kernel) (fun U h => h.2.1) rfl (by decide) rfl (by decide) (by decide) (by decide) (by decide +kernel) (fun q1 => ?_)
  refine nv_putF (idx := 11) 0 3 0 kY_O rfl kI_O kO_O kN_O rfl (by decide) (by decide +kernel) rfl rfl rfl rfl rfl (Nat.le_of_ble_eq_true rfl) (by decide +kernel) ?_
  refine nv_iconst (n := 0) (v := 0) (by decide +kernel) rfl ?_
  refine nv_istore (k := 1) (lv' := [(1, .int 0), (0, .ref b)]) 1 (by decide +kernel) rfl (by decide) rfl ?_
  refine nv_iload (k := 1) 1 0 (by decide +kernel) rfl rfl ?_
  refine nv_bipush (n := 6) (v := 6) (by decide +kernel) rfl ?_
  refine nv_icge (off := 22) 40 (by decide +kernel) rfl (fun z => absurd z (by decide)) (fun _ => ?_)
  refine nv_aload (k := 0) 0 1 (by decide +kernel) rfl rfl ?_
  refine nv_get (idx := 11) 0 3 0 rfl kI_O rfl (by decide) (by decide +kernel) rfl (by decide +kernel) ?_
  refine nv_iload (k := 1) 1 0 (by decide +kernel) rfl rfl ?_
  refine nv_new (idx := 9) 4 [.null, .null, .null, .int 0, .int 0, .int 0] kY_L rfl kI_L kO_L (by decide +kernel) (by decide +kernel) (by decide +kernel) (by decide +kernel) (by decide) (by decide) (by decide +kernel) (fun q2 => ?_)
  refine nv_dup rfl (by decide +kernel) ?_
  refine nv_call (idx := 17) (n := 0) (as := []) (mcc := 17) (msc := 832) cv_L (by decide +kernel) rfl rfl (Nat.le_of_ble_eq_true rfl) rfl (by decide) (by decide) (by decide +kernel) (ct_L _) ?_
  rintro _ ⟨f0, rfl⟩
  refine nv_aast 1 4 2 4 rfl rfl rfl rfl (vp_in_nI (n := 0) (by decide) (by decide)) (by decide +kernel) ?_
  refine nv_iinc (n := 1) (v := 1) (lv' := [(1, .int 1), (0, .ref b)]) 1 0 (by decide +kernel) rfl rfl (by decide) rfl ?_
  refine nv_goto (off := (-22)) 15 (by decide +kernel) rfl ?_
  refine nv_iload (k := 1) 1 0 (by decide +kernel) rfl rfl ?_
  refine nv_bipush (n := 6) (v := 6) (by decide +kernel) rfl ?_
  refine nv_icge (off := 22) 40 (by decide +kernel) rfl (fun z => absurd z (by decide)) (fun _ => ?_)
  refine nv_aload (k := 0) 0 1 (by decide +kernel) rfl rfl ?_
  refine nv_get (idx := 11) 0 3 0 rfl kI_O rfl (by decide) (by decide +kernel) rfl (by decide +kernel) ?_
  refine nv_iload (k := 1) 1 0 (by decide +kernel) rfl rfl ?_
  refine nv_new (idx := 9) 4 [.null, .null, .null, .int 0, .int 0, .int 0] kY_L rfl kI_L kO_L (by decide +kernel) (by decide +kernel) (by decide +kernel) (by decide +kernel) (by decide) (by decide) (by decide +kernel) (fun q3 => ?_)
  refine nv_dup rfl (by decide +kernel) ?_
  refine nv_call (idx := 17) (n := 0) (as := []) (mcc := 17) (msc := 832) cv_L (by decide +kernel) rfl rfl (Nat.le_of_ble_eq_true rfl) rfl (by decide) (by decide) (by decide +kernel) (ct_L _) ?_
  rintro _ ⟨f1, rfl⟩
  refine nv_aast 1 4 20 4 rfl rfl rfl rfl (vp_in_nI (n := 1) (by decide) (by decide)) (by decide +kernel) ?_
  refine nv_iinc (n := 1) (v := 2) (lv' := [(1, .int 2), (0, .ref b)]) 1 0 (by decide +kernel) rfl rfl (by decide) rfl ?_
  refine nv_goto (off := (-22)) 15 (by decide +kernel) rfl ?_
  refine nv_iload (k := 1) 1 0 (by decide +kernel) rfl rfl ?_
  refine nv_bipush (n := 6) (v := 6) (by decide +kernel) rfl ?_
  refine nv_icge (off := 22) 40 (by decide +kernel) rfl (fun z => absurd z (by decide)) (fun _ => ?_)
  refine nv_aload (k := 0) 0 1 (by decide +kernel) rfl rfl ?_
  refine nv_get (idx := 11) 0 3 0 rfl kI_O rfl (by decide) (by decide +kernel) rfl (by decide +kernel) ?_
  refine nv_iload (k := 1) 1 0 (by decide +kernel) rfl rfl ?_
  refine nv_new (idx := 9) 4 [.null, .null, .null, .int 0, .int 0, .int 0] kY_L rfl kI_L kO_L (by decide +kernel) (by decide +kernel) (by decide +kernel) (by decide +kernel) (by decide) (by decide) (by decide +kernel) (fun q4 => ?_)
  refine nv_dup rfl (by decide +kernel) ?_
  refine nv_call (idx := 17) (n := 0) (as := []) (mcc := 17) (msc := 832) cv_L (by decide +kernel) rfl rfl (Nat.le_of_ble_eq_true rfl) rfl (by decide) (by decide) (by decide +kernel) (ct_L _) ?_
  rintro _ ⟨f2, rfl⟩
  refine nv_aast 1 4 38 4 rfl rfl rfl rfl (vp_in_nI (n := 2) (by decide) (by decide)) (by decide +kernel) ?_
  refine nv_iinc (n := 1) (v := 3) (lv' := [(1, .int 3), (0, .ref b)]) 1 0 (by decide +kernel) rfl rfl (by decide) rfl ?_
  refine nv_goto (off := (-22)) 15 (by decide +kernel) rfl ?_
  refine nv_iload (k := 1) 1 0 (by decide +kernel) rfl rfl ?_
  refine nv_bipush (n := 6) (v := 6) (by decide +kernel) rfl ?_
  refine nv_icge (off := 22) 40 (by decide +kernel) rfl (fun z => absurd z (by decide)) (fun _ => ?_)
  refine nv_aload (k := 0) 0 1 (by decide +kernel) rfl rfl ?_
  refine nv_get (idx := 11) 0 3 0 rfl kI_O rfl (by decide) (by decide +kernel) rfl (by decide +kernel) ?_
  refine nv_iload (k := 1) 1 0 (by decide +kernel) rfl rfl ?_
  refine nv_new (idx := 9) 4 [.null, .null, .null, .int 0, .int 0, .int 0] kY_L rfl kI_L kO_L (by decide +kernel) (by decide +kernel) (by decide +kernel) (by decide +kernel) (by decide) (by decide) (by decide +kernel) (fun q5 => ?_)
  refine nv_dup rfl (by decide +kernel) ?_
  refine nv_call (idx := 17) (n := 0) (as := []) (mcc := 17) (msc := 832) cv_L (by decide +kernel) rfl rfl (Nat.le_of_ble_eq_true rfl) rfl (by decide) (by decide) (by decide +kernel) (ct_L _) ?_
  rintro _ ⟨f3, rfl⟩
  refine nv_aast 1 4 56 4 rfl rfl rfl rfl (vp_in_nI (n := 3) (by decide) (by decide)) (by decide +kernel) ?_
  refine nv_iinc (n := 1) (v := 4) (lv' := [(1, .int 4), (0, .ref b)]) 1 0 (by decide +kernel) rfl rfl (by decide) rfl ?_
  refine nv_goto (off := (-22)) 15 (by decide +kernel) rfl ?_
  refine nv_iload (k := 1) 1 0 (by decide +kernel) rfl rfl ?_
  refine nv_bipush (n := 6) (v := 6) (by decide +kernel) rfl ?_
  refine nv_icge (off := 22) 40 (by decide +kernel) rfl (fun z => absurd z (by decide)) (fun _ => ?_)
  refine nv_aload (k := 0) 0 1 (by decide +kernel) rfl rfl ?_
  refine nv_get (idx := 11) 0 3 0 rfl kI_O rfl (by decide) (by decide +kernel) rfl (by decide +kernel) ?_
  refine nv_iload (k := 1) 1 0 (by decide +kernel) rfl rfl ?_
  refine nv_new (idx := 9) 4 [.null, .null, .null, .int 0, .int 0, .int 0] kY_L rfl kI_L kO_L (by decide +kernel) (by decide +kernel) (by decide +kernel) (by decide +kernel) (by decide) (by decide) (by decide +kernel) (fun q6 => ?_)
  refine nv_dup rfl (by decide +kernel) ?_
  refine nv_call (idx := 17) (n := 0) (as := []) (mcc := 17) (msc := 832) cv_L (by decide +kernel) rfl rfl (Nat.le_of_ble_eq_true rfl) rfl (by decide) (by decide) (by decide +kernel) (ct_L _) ?_
  rintro _ ⟨f4, rfl⟩
  refine nv_aast 1 4 74 4 rfl rfl rfl rfl (vp_in_nI (n := 4) (by decide) (by decide)) (by decide +kernel) ?_
  refine nv_iinc (n := 1) (v := 5) (lv' := [(1, .int 5), (0, .ref b)]) 1 0 (by decide +kernel) rfl rfl (by decide) rfl ?_
  refine nv_goto (off := (-22)) 15 (by decide +kernel) rfl ?_
  refine nv_iload (k := 1) 1 0 (by decide +kernel) rfl rfl ?_
  refine nv_bipush (n := 6) (v := 6) (by decide +kernel) rfl ?_
  refine nv_icge (off := 22) 40 (by decide +kernel) rfl (fun z => absurd z (by decide)) (fun _ => ?_)
  refine nv_aload (k := 0) 0 1 (by decide +kernel) rfl rfl ?_
  refine nv_get (idx := 11) 0 3 0 rfl kI_O rfl (by decide) (by decide +kernel) rfl (by decide +kernel) ?_
  refine nv_iload (k := 1) 1 0 (by decide +kernel) rfl rfl ?_
  refine nv_new (idx := 9) 4 [.null, .null, .null, .int 0, .int 0, .int 0] kY_L rfl kI_L kO_L (by decide +kernel) (by decide +kernel) (by decide +kernel) (by decide +kernel) (by decide) (by decide) (by decide +kernel) (fun q7 => ?_)
  refine nv_dup rfl (by decide +kernel) ?_
  refine nv_call (idx := 17) (n := 0) (as := []) (mcc := 17) (msc := 832) cv_L (by decide +kernel) rfl rfl (Nat.le_of_ble_eq_true rfl) rfl (by decide) (by decide) (by decide +kernel) (ct_L _) ?_
  rintro _ ⟨f5, rfl⟩
  refine nv_aast 1 4 92 4 rfl rfl rfl rfl (vp_in_nI (n := 5) (by decide) (by decide)) (by decide +kernel) ?_
  refine nv_iinc (n := 1) (v := 6) (lv' := [(1, .int 6), (0, .ref b)]) 1 0 (by decide +kernel) rfl rfl (by decide) rfl ?_
  refine nv_goto (off := (-22)) 15 (by decide +kernel) rfl ?_
  refine nv_iload (k := 1) 1 0 (by decide +kernel) rfl rfl ?_
  refine nv_bipush (n := 6) (v := 6) (by decide +kernel) rfl ?_
  refine nv_icge (off := 22) 40 (by decide +kernel) rfl (fun _ => ?_) (fun z => absurd (by decide) z)
  refine nv_aload (k := 0) 0 1 (by decide +kernel) rfl rfl ?_
  refine nv_iconst (n := (-1)) (v := (-1)) (by decide +kernel) rfl ?_
  refine nv_put (idx := 18) 0 3 3 kY_O rfl kI_O kO_O kN_O rfl (by decide) (by decide +kernel) rfl rfl rfl rfl (Nat.le_of_ble_eq_true rfl) (by decide +kernel) ?_
  exact nv_ret rfl (by decide +kernel) (by decide) (by decide) ⟨q1, (fun j => [q2, q3, q4, q5, q6, q7].getD j 0), (fun j => [f0, f1, f2, f3, f4, f5].getD j (fun _ => 0)), rfl⟩
theorem ct_P (d : Nat) : NvCall (d + 5) 129 6608 m_P_init [] (.inr (0, [.null, .null, .null, .null, .int 0])) QPos := by
  refine nv_entry (by decide) rfl (fun b => Nat.le_of_ble_eq_true rfl) (fun D K A b => ?_)
  show NvAt _ _ _ D K A _ 0 [(0, .ref b)] [] 0 0 _ _
  refine nv_aload (k := 0) 0 0 (by decide +kernel) rfl rfl ?_
  refine nv_obj (idx := 1) (by decide +kernel) (by decide +kernel) (Nat.le_of_ble_eq_true rfl) (by omega) ?_
  refine nv_aload (k := 0) 0 0 (by decide +kernel) rfl rfl ?_
  refine nv_new (idx := 7) 1 [.null, .int 0] kY_R rfl kI_R kO_R (by decide +kernel) (by decide +kernel) (by decide +kernel) (by decide +kernel) (by decide) (by decide) (by decide +kernel) (fun q1 => ?_)
  refine nv_dup rfl (by decide +kernel) ?_
  refine nv_bipush (n := 72) (v := 72) (by decide +kernel) rfl ?_
  refine nv_call (idx := 11) (n := 1) (as := [.int 72]) (mcc := 1) (msc := 72) cv_R (by decide +kernel) rfl rfl (Nat.le_of_ble_eq_true rfl) rfl (by decide) (by decide) (by decide +kernel) (ct_R72 _) ?_
  rintro _ ⟨r1, rfl⟩
  refine nv_putF (idx := 14) 0 0 0 kY_P rfl kI_P kO_P kN_P rfl (by decide) (by decide +kernel) rfl rfl rfl rfl rfl (Nat.le_of_ble_eq_true rfl) (by decide +kernel) ?_
  refine nv_aload (k := 0) 0 0 (by decide +kernel) rfl rfl ?_
  refine nv_new (idx := 18) 2 [.null, .null, .null, .int 0, .int 0, .int 0, .int 0, .int 0] kY_S rfl kI_S kO_S (by decide +kernel) (by decide +kernel) (by decide +kernel) (by decide +kernel) (by decide) (by decide) (by decide +kernel) (fun q2 => ?_)
  refine nv_dup rfl (by decide +kernel) ?_
  refine nv_call (idx := 20) (n := 0) (as := []) (mcc := 13) (msc := 816) cv_S (by decide +kernel) rfl rfl (Nat.le_of_ble_eq_true rfl) rfl (by decide) (by decide) (by decide +kernel) (ct_S _) ?_
  rintro _ ⟨fs, rfl⟩
  refine nv_putF (idx := 21) 0 0 1 kY_P rfl kI_P kO_P kN_P rfl (by decide) (by decide +kernel) rfl rfl rfl rfl rfl (Nat.le_of_ble_eq_true rfl) (by decide +kernel) ?_
  refine nv_aload (k := 0) 0 0 (by decide +kernel) rfl rfl ?_
  refine nv_new (idx := 25) 3 [.null, .int 0, .int 0, .int 0, .int 0] kY_O rfl kI_O kO_O (by decide +kernel) (by decide +kernel) (by decide +kernel) (by decide +kernel) (by decide) (by decide) (by decide +kernel) (fun q3 => ?_)
  refine nv_dup rfl (by decide +kernel) ?_
  refine nv_call (idx := 27) (n := 0) (as := []) (mcc := 109) (msc := 5034) cv_O (by decide +kernel) rfl rfl (Nat.le_of_ble_eq_true rfl) rfl (by decide) (by decide) (by decide +kernel) (ct_O _) ?_
  rintro _ ⟨oq, oa, of, rfl⟩
  refine nv_putF (idx := 28) 0 0 2 kY_P rfl kI_P kO_P kN_P rfl (by decide) (by decide +kernel) rfl rfl rfl rfl rfl (Nat.le_of_ble_eq_true rfl) (by decide +kernel) ?_
  refine nv_aload (k := 0) 0 0 (by decide +kernel) rfl rfl ?_
  refine nv_new (idx := 32) 6 [.null, .null, .null, .int 0, .int 0, .int 0] kY_D rfl kI_D kO_D (by decide +kernel) (by decide +kernel) (by decide +kernel) (by decide +kernel) (by decide) (by decide) (by decide +kernel) (fun q4 => ?_)
  refine nv_dup rfl (by decide +kernel) ?_
  refine nv_call (idx := 34) (n := 0) (as := []) (mcc := 2) (msc := 665) cv_D (by decide +kernel) rfl rfl (Nat.le_of_ble_eq_true rfl) rfl (by decide) (by decide) (by decide +kernel) (ct_D _) ?_
  rintro _ ⟨pq, pr, rfl⟩
  refine nv_putF (idx := 35) 0 0 3 kY_P rfl kI_P kO_P kN_P rfl (by decide) (by decide +kernel) rfl rfl rfl rfl rfl (Nat.le_of_ble_eq_true rfl) (by decide +kernel) ?_
  refine nv_aload (k := 0) 0 0 (by decide +kernel) rfl rfl ?_
  refine nv_iconst (n := 0) (v := 0) (by decide +kernel) rfl ?_
  refine nv_put (idx := 39) 0 0 4 kY_P rfl kI_P kO_P kN_P rfl (by decide) (by decide +kernel) rfl rfl rfl rfl (Nat.le_of_ble_eq_true rfl) (by decide +kernel) ?_
  exact nv_ret rfl (by decide +kernel) (by decide) (by decide) ⟨q1, r1, q2, fs, q3, oq, oa, of, q4, pq, pr, rfl⟩
