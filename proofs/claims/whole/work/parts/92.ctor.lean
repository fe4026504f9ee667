/-! THE CONSTRUCTORS -/
theorem cv_P : nCv m_P_init 0 := ⟨by decide +kernel, by decide +kernel, by decide +kernel, rfl, rfl, by decide +kernel, by decide⟩
theorem cv_R : nCv m_R_init 1 := ⟨by decide +kernel, by decide +kernel, by decide +kernel, rfl, rfl, by decide +kernel, by decide⟩
theorem cv_S : nCv m_S_init 0 := ⟨by decide +kernel, by decide +kernel, by decide +kernel, rfl, rfl, by decide +kernel, by decide⟩
theorem cv_O : nCv m_O_init 0 := ⟨by decide +kernel, by decide +kernel, by decide +kernel, rfl, rfl, by decide +kernel, by decide⟩
theorem cv_L : nCv m_L_init 0 := ⟨by decide +kernel, by decide +kernel, by decide +kernel, rfl, rfl, by decide +kernel, by decide⟩
theorem cv_C : nCv m_C_init 0 := ⟨by decide +kernel, by decide +kernel, by decide +kernel, rfl, rfl, by decide +kernel, by decide⟩
theorem cv_D : nCv m_D_init 0 := ⟨by decide +kernel, by decide +kernel, by decide +kernel, rfl, rfl, by decide +kernel, by decide⟩
theorem cv_M : nCv m_M_init 0 := ⟨by decide +kernel, by decide +kernel, by decide +kernel, rfl, rfl, by decide +kernel, by decide⟩
def rowW (K : Nat → ClassId) (b q cap : Nat) : va_W := [(b, .inr (1, [.ref q, .int 0])), (q, .inl (K 1, cap, .inl (fun _ => 0)))]
def QRow (cap : Nat) (K : Nat → ClassId) (b : Nat) (w : va_W) : Prop := ∃ q, w = rowW K b q cap
def recW (K : Nat → ClassId) (b q r : Nat) : va_W := (b, .inr (5, [.ref q, .int 0, .int 0, .int 0])) :: rowW K q r 40
def QRec (K : Nat → ClassId) (b : Nat) (w : va_W) : Prop := ∃ q r, w = recW K b q r
def up4 (a b c d : Nat) : Nat → Option Nat := va_up (va_up (va_up (va_up (fun _ => none) 0 (some a)) 1 (some b)) 2 (some c)) 3 (some d)
def sesW (K : Nat → ClassId) (b : Nat) (f : Nat → Nat) : va_W := (b, .inr (2, [.ref (f 0), .ref (f 2), .ref (f 11), .int 0, .int 0, .int 0, .int 0, .int 0])) :: (rowW K (f 0) (f 1) 40 ++ ((f 2, .inl (K 3, 4, .inr (.inr (.inr (.inr (up4 (f 3) (f 5) (f 7) (f 9))))))) :: (rowW K (f 3) (f 4) 40 ++ (rowW K (f 5) (f 6) 40 ++ (rowW K (f 7) (f 8) 40 ++ (rowW K (f 9) (f 10) 40 ++ rowW K (f 11) (f 12) 600))))))
def QSes (K : Nat → ClassId) (b : Nat) (w : va_W) : Prop := ∃ f, w = sesW K b f
def letW (K : Nat → ClassId) (b : Nat) (f : Nat → Nat) : va_W := (b, .inr (4, [.ref (f 0), .ref (f 2), .ref (f 15), .int 0, .int 0, .int 0])) :: (rowW K (f 0) (f 1) 40 ++ ((f 2, .inl (K 5, 4, .inr (.inr (.inr (.inr (up4 (f 3) (f 6) (f 9) (f 12))))))) :: (recW K (f 3) (f 4) (f 5) ++ (recW K (f 6) (f 7) (f 8) ++ (recW K (f 9) (f 10) (f 11) ++ (recW K (f 12) (f 13) (f 14) ++ rowW K (f 15) (f 16) 600))))))
def QLet (K : Nat → ClassId) (b : Nat) (w : va_W) : Prop := ∃ f, w = letW K b f
def up6 (a : Nat → Nat) : Nat → Option Nat := va_up (va_up (va_up (va_up (va_up (va_up (fun _ => none) 0 (some (a 0))) 1 (some (a 1))) 2 (some (a 2))) 3 (some (a 3))) 4 (some (a 4))) 5 (some (a 5))
def spoW (K : Nat → ClassId) (b q : Nat) (a : Nat → Nat) (f : Nat → Nat → Nat) : va_W := (b, .inr (3, [.ref q, .int 0, .int 0, .int (-1), .int 0])) :: (q, .inl (K 4, 6, .inr (.inr (.inr (.inr (up6 a)))))) :: (letW K (a 0) (f 0) ++ (letW K (a 1) (f 1) ++ (letW K (a 2) (f 2) ++ (letW K (a 3) (f 3) ++ (letW K (a 4) (f 4) ++ letW K (a 5) (f 5))))))
def QSpo (K : Nat → ClassId) (b : Nat) (w : va_W) : Prop := ∃ q a f, w = spoW K b q a f
def prtW (K : Nat → ClassId) (b q r : Nat) : va_W := [(b, .inr (6, [.ref q, .ref r, .null, .int 0, .int 0, .int (-1)])), (q, .inl (K 0, 601, .inl (fun _ => 0))), (r, .inl (K 0, 64, .inl (fun _ => 0)))]
def QPrt (K : Nat → ClassId) (b : Nat) (w : va_W) : Prop := ∃ q r, w = prtW K b q r
def posW (K : Nat → ClassId) (b x0 x1 s : Nat) (fs : Nat → Nat) (o oq : Nat) (oa : Nat → Nat) (of : Nat → Nat → Nat) (p pq pr : Nat) : va_W := (b, .inr (0, [.ref x0, .ref s, .ref o, .ref p, .int 0])) :: (rowW K x0 x1 72 ++ (sesW K s fs ++ (spoW K o oq oa of ++ prtW K p pq pr)))
def QPos (K : Nat → ClassId) (b : Nat) (w : va_W) : Prop := ∃ x0 x1 s fs o oq oa of p pq pr, w = posW K b x0 x1 s fs o oq oa of p pq pr
def modW (K : Nat → ClassId) (b : Nat) (f : Nat → Nat) : va_W := [(b, .inr (7, [.int 1, .int 0, .int 0, .int (-1), .ref (f 0), .int 0, .int 0, .int 0, .int 0, .ref (f 1), .ref (f 2), .ref (f 3), .ref (f 4), .ref (f 5), .ref (f 6), .ref (f 7), .ref (f 8), .ref (f 9), .int 0, .ref (f 10), .int 0, .ref (f 11), .ref (f 12), .ref (f 13), .ref (f 14), .int 0, .ref (f 15), .ref (f 16), .ref (f 17), .int 0, .int 0])), (f 0, .inl (K 0, 72, .inl (fun _ => 0))), (f 1, .inl (K 0, 6, .inl (upd (upd (upd (upd (upd (upd (fun _ => 0) 0 (-1)) 1 (-1)) 2 (-1)) 3 (-1)) 4 (-1)) 5 (-1)))), (f 2, .inl (K 2, 6, .inl (fun _ => 0))), (f 3, .inl (K 0, 4816, .inl (fun _ => 0))), (f 4, .inl (K 0, 8, .inl (fun _ => 0))), (f 5, .inl (K 0, 1600, .inl (fun _ => 0))), (f 6, .inl (K 0, 40, .inl (fun _ => 0))), (f 7, .inl (K 0, 8, .inl (fun _ => 0))), (f 8, .inl (K 0, 24, .inl (fun _ => 0))), (f 9, .inl (K 0, 24, .inl (fun _ => 0))), (f 10, .inl (K 0, 604, .inl (fun _ => 0))), (f 11, .inl (K 0, 17, .inl (fun _ => 0))), (f 12, .inl (K 0, 17, .inl (fun _ => 0))), (f 13, .inl (K 0, 17, .inl (fun _ => 0))), (f 14, .inl (K 2, 17, .inl (fun _ => 0))), (f 15, .inl (K 0, 700, .inl (fun _ => 0))), (f 16, .inl (K 0, 700, .inl (fun _ => 0))), (f 17, .inl (K 0, 700, .inl (fun _ => 0)))]
def QMod (K : Nat → ClassId) (b : Nat) (w : va_W) : Prop := ∃ f, w = modW K b f
theorem ct_R (d cap : Nat) (c : Int32) (h0 : ¬ c < 0) (hc : c.toNatClampNeg = cap) (hb : cap * componentBytes .char ≤ 536870912) : NvCall (d + 1) 1 cap m_R_init [.int c] (.inr (1, [.null, .int 0])) (QRow cap) := by
  refine nv_entry (by decide) rfl (fun b => Nat.le_of_ble_eq_true rfl) (fun D K A b => ?_)
  show NvAt _ _ _ D K A _ 0 [(0, .ref b), (1, .int c)] [] 0 0 _ _
  refine nv_aload (k := 0) 0 0 (by decide +kernel) rfl rfl ?_
  refine nv_obj (idx := 1) (by decide +kernel) (by decide +kernel) (Nat.le_of_ble_eq_true rfl) (by omega) ?_
  refine nv_aload (k := 0) 0 0 (by decide +kernel) rfl rfl ?_
  refine nv_iload (k := 1) 1 1 (by decide +kernel) rfl rfl ?_
  refine nv_newa (at_ := .char) (n := c) (N' := cap) 1 (by decide +kernel) rfl rfl rfl h0 hc hb (by omega) (by omega) (by decide +kernel) (fun q1 => ?_)
  refine nv_putF (idx := 7) 0 1 0 kY_R rfl kI_R kO_R kN_R rfl (by decide) (by decide +kernel) rfl rfl rfl rfl rfl (Nat.le_of_ble_eq_true rfl) (by decide +kernel) ?_
  refine nv_aload (k := 0) 0 0 (by decide +kernel) rfl rfl ?_
  refine nv_iconst (n := 0) (v := 0) (by decide +kernel) rfl ?_
  refine nv_put (idx := 13) 0 1 1 kY_R rfl kI_R kO_R kN_R rfl (by decide) (by decide +kernel) rfl rfl rfl rfl (Nat.le_of_ble_eq_true rfl) (by decide +kernel) ?_
  exact nv_ret rfl (by decide +kernel) (by omega) (by omega) ⟨q1, rfl⟩
theorem ct_R40 (d : Nat) : NvCall (d + 1) 1 40 m_R_init [.int 40] (.inr (1, [.null, .int 0])) (QRow 40) := ct_R d 40 40 (by decide) rfl (by decide)
theorem ct_R72 (d : Nat) : NvCall (d + 1) 1 72 m_R_init [.int 72] (.inr (1, [.null, .int 0])) (QRow 72) := ct_R d 72 72 (by decide) rfl (by decide)
theorem ct_R600 (d : Nat) : NvCall (d + 1) 1 600 m_R_init [.int 600] (.inr (1, [.null, .int 0])) (QRow 600) := ct_R d 600 600 (by decide) rfl (by decide)
theorem ct_C (d : Nat) : NvCall (d + 2) 2 42 m_C_init [] (.inr (5, [.null, .int 0, .int 0, .int 0])) QRec := by
  refine nv_entry (by decide) rfl (fun b => Nat.le_of_ble_eq_true rfl) (fun D K A b => ?_)
  show NvAt _ _ _ D K A _ 0 [(0, .ref b)] [] 0 0 _ _
  refine nv_aload (k := 0) 0 0 (by decide +kernel) rfl rfl ?_
  refine nv_obj (idx := 3) (by decide +kernel) (by decide +kernel) (Nat.le_of_ble_eq_true rfl) (by omega) ?_
  refine nv_aload (k := 0) 0 0 (by decide +kernel) rfl rfl ?_
  refine nv_new (idx := 9) 1 [.null, .int 0] kY_R rfl kI_R kO_R (by decide +kernel) (by decide +kernel) (by decide +kernel) (by decide +kernel) (by decide) (by decide) (by decide +kernel) (fun q1 => ?_)
  refine nv_dup rfl (by decide +kernel) ?_
  refine nv_bipush (n := 40) (v := 40) (by decide +kernel) rfl ?_
  refine nv_call (idx := 11) (n := 1) (as := [.int 40]) (mcc := 1) (msc := 40) cv_R (by decide +kernel) rfl rfl (Nat.le_of_ble_eq_true rfl) rfl (by decide) (by decide) (by decide +kernel) (ct_R40 _) ?_
  rintro _ ⟨r1, rfl⟩
  refine nv_putF (idx := 14) 0 5 0 kY_C rfl kI_C kO_C kN_C rfl (by decide) (by decide +kernel) rfl rfl rfl rfl rfl (Nat.le_of_ble_eq_true rfl) (by decide +kernel) ?_
  exact nv_ret rfl (by decide +kernel) (by decide) (by decide) ⟨q1, r1, rfl⟩
theorem ct_D (d : Nat) : NvCall (d + 1) 2 665 m_D_init [] (.inr (6, [.null, .null, .null, .int 0, .int 0, .int 0])) QPrt := by
  refine nv_entry (by decide) rfl (fun b => Nat.le_of_ble_eq_true rfl) (fun D K A b => ?_)
  show NvAt _ _ _ D K A _ 0 [(0, .ref b)] [] 0 0 _ _
  refine nv_aload (k := 0) 0 0 (by decide +kernel) rfl rfl ?_
  refine nv_obj (idx := 3) (by decide +kernel) (by decide +kernel) (Nat.le_of_ble_eq_true rfl) (by omega) ?_
  refine nv_aload (k := 0) 0 0 (by decide +kernel) rfl rfl ?_
  refine nv_sipush (n := 601) (v := 601) (by decide +kernel) rfl ?_
  refine nv_newa (at_ := .int) (n := 601) (N' := 601) 0 (by decide +kernel) rfl rfl rfl (by decide) rfl (by decide) (by decide) (by decide) (by decide +kernel) (fun q1 => ?_)
  refine nv_putF (idx := 9) 0 6 0 kY_D rfl kI_D kO_D kN_D rfl (by decide) (by decide +kernel) rfl rfl rfl rfl rfl (Nat.le_of_ble_eq_true rfl) (by decide +kernel) ?_
  refine nv_aload (k := 0) 0 0 (by decide +kernel) rfl rfl ?_
  refine nv_bipush (n := 64) (v := 64) (by decide +kernel) rfl ?_
  refine nv_newa (at_ := .int) (n := 64) (N' := 64) 0 (by decide +kernel) rfl rfl rfl (by decide) rfl (by decide) (by decide) (by decide) (by decide +kernel) (fun q2 => ?_)
  refine nv_putF (idx := 15) 0 6 1 kY_D rfl kI_D kO_D kN_D rfl (by decide) (by decide +kernel) rfl rfl rfl rfl rfl (Nat.le_of_ble_eq_true rfl) (by decide +kernel) ?_
  refine nv_aload (k := 0) 0 0 (by decide +kernel) rfl rfl ?_
  refine nv_iconst (n := (-1)) (v := (-1)) (by decide +kernel) rfl ?_
  refine nv_put (idx := 18) 0 6 5 kY_D rfl kI_D kO_D kN_D rfl (by decide) (by decide +kernel) rfl rfl rfl rfl (Nat.le_of_ble_eq_true rfl) (by decide +kernel) ?_
  exact nv_ret rfl (by decide +kernel) (by decide) (by decide) ⟨q1, q2, rfl⟩
theorem ct_S (d : Nat) : NvCall (d + 2) 13 816 m_S_init [] (.inr (2, [.null, .null, .null, .int 0, .int 0, .int 0, .int 0, .int 0])) QSes := by
  refine nv_entry (by decide) rfl (fun b => Nat.le_of_ble_eq_true rfl) (fun D K A b => ?_)
  show NvAt _ _ _ D K A _ 0 [(0, .ref b)] [] 0 0 _ _
  refine nv_aload (k := 0) 0 0 (by decide +kernel) rfl rfl ?_
  refine nv_obj (idx := 3) (by decide +kernel) (by decide +kernel) (Nat.le_of_ble_eq_true rfl) (by omega) ?_
  refine nv_aload (k := 0) 0 0 (by decide +kernel) rfl rfl ?_
  refine nv_new (idx := 9) 1 [.null, .int 0] kY_R rfl kI_R kO_R (by decide +kernel) (by decide +kernel) (by decide +kernel) (by decide +kernel) (by decide) (by decide) (by decide +kernel) (fun q1 => ?_)
  refine nv_dup rfl (by decide +kernel) ?_
  refine nv_bipush (n := 40) (v := 40) (by decide +kernel) rfl ?_
  refine nv_call (idx := 11) (n := 1) (as := [.int 40]) (mcc := 1) (msc := 40) cv_R (by decide +kernel) rfl rfl (Nat.le_of_ble_eq_true rfl) rfl (by decide) (by decide) (by decide +kernel) (ct_R40 _) ?_
  rintro _ ⟨r1, rfl⟩
  refine nv_putF (idx := 14) 0 2 0 kY_S rfl kI_S kO_S kN_S rfl (by decide) (by decide +kernel) rfl rfl rfl rfl rfl (Nat.le_of_ble_eq_true rfl) (by decide +kernel) ?_
  refine nv_aload (k := 0) 0 0 (by decide +kernel) rfl rfl ?_
  refine nv_iconst (n := 4) (v := 4) (by decide +kernel) rfl ?_
  refine nv_newq (n := 4) (N' := 4) (idx := 9) 3 (by decide +kernel) (fun U h => h.1) rfl (by decide) rfl (by decide) (by decide) (by decide) (by decide +kernel) (fun q2 => ?_)
  refine nv_putF (idx := 20) 0 2 1 kY_S rfl kI_S kO_S kN_S rfl (by decide) (by decide +kernel) rfl rfl rfl rfl rfl (Nat.le_of_ble_eq_true rfl) (by decide +kernel) ?_
  refine nv_iconst (n := 0) (v := 0) (by decide +kernel) rfl ?_
  refine nv_istore (k := 1) (lv' := [(1, .int 0), (0, .ref b)]) 1 (by decide +kernel) rfl (by decide) rfl ?_
  refine nv_iload (k := 1) 1 0 (by decide +kernel) rfl rfl ?_
  refine nv_iconst (n := 4) (v := 4) (by decide +kernel) rfl ?_
  refine nv_icge (off := 24) 53 (by decide +kernel) rfl (fun z => absurd z (by decide)) (fun _ => ?_)
  refine nv_aload (k := 0) 0 1 (by decide +kernel) rfl rfl ?_
  refine nv_get (idx := 20) 0 2 1 rfl kI_S rfl (by decide) (by decide +kernel) rfl (by decide +kernel) ?_
  refine nv_iload (k := 1) 1 0 (by decide +kernel) rfl rfl ?_
  refine nv_new (idx := 9) 1 [.null, .int 0] kY_R rfl kI_R kO_R (by decide +kernel) (by decide +kernel) (by decide +kernel) (by decide +kernel) (by decide) (by decide) (by decide +kernel) (fun q3 => ?_)
  refine nv_dup rfl (by decide +kernel) ?_
  refine nv_bipush (n := 40) (v := 40) (by decide +kernel) rfl ?_
  refine nv_call (idx := 11) (n := 1) (as := [.int 40]) (mcc := 1) (msc := 40) cv_R (by decide +kernel) rfl rfl (Nat.le_of_ble_eq_true rfl) rfl (by decide) (by decide) (by decide +kernel) (ct_R40 _) ?_
  rintro _ ⟨r3, rfl⟩
  refine nv_aast 3 3 4 1 rfl rfl rfl rfl (vp_in_nI (n := 0) (by decide) (by decide)) (by decide +kernel) ?_
  refine nv_iinc (n := 1) (v := 1) (lv' := [(1, .int 1), (0, .ref b)]) 1 0 (by decide +kernel) rfl rfl (by decide) rfl ?_
  refine nv_goto (off := (-23)) 27 (by decide +kernel) rfl ?_
  refine nv_iload (k := 1) 1 0 (by decide +kernel) rfl rfl ?_
  refine nv_iconst (n := 4) (v := 4) (by decide +kernel) rfl ?_
  refine nv_icge (off := 24) 53 (by decide +kernel) rfl (fun z => absurd z (by decide)) (fun _ => ?_)
  refine nv_aload (k := 0) 0 1 (by decide +kernel) rfl rfl ?_
  refine nv_get (idx := 20) 0 2 1 rfl kI_S rfl (by decide) (by decide +kernel) rfl (by decide +kernel) ?_
  refine nv_iload (k := 1) 1 0 (by decide +kernel) rfl rfl ?_
  refine nv_new (idx := 9) 1 [.null, .int 0] kY_R rfl kI_R kO_R (by decide +kernel) (by decide +kernel) (by decide +kernel) (by decide +kernel) (by decide) (by decide) (by decide +kernel) (fun q4 => ?_)
  refine nv_dup rfl (by decide +kernel) ?_
  refine nv_bipush (n := 40) (v := 40) (by decide +kernel) rfl ?_
  refine nv_call (idx := 11) (n := 1) (as := [.int 40]) (mcc := 1) (msc := 40) cv_R (by decide +kernel) rfl rfl (Nat.le_of_ble_eq_true rfl) rfl (by decide) (by decide) (by decide +kernel) (ct_R40 _) ?_
  rintro _ ⟨r4, rfl⟩
  refine nv_aast 3 3 6 1 rfl rfl rfl rfl (vp_in_nI (n := 1) (by decide) (by decide)) (by decide +kernel) ?_
  refine nv_iinc (n := 1) (v := 2) (lv' := [(1, .int 2), (0, .ref b)]) 1 0 (by decide +kernel) rfl rfl (by decide) rfl ?_
  refine nv_goto (off := (-23)) 27 (by decide +kernel) rfl ?_
  refine nv_iload (k := 1) 1 0 (by decide +kernel) rfl rfl ?_
  refine nv_iconst (n := 4) (v := 4) (by decide +kernel) rfl ?_
  refine nv_icge (off := 24) 53 (by decide +kernel) rfl (fun z => absurd z (by decide)) (fun _ => ?_)
  refine nv_aload (k := 0) 0 1 (by decide +kernel) rfl rfl ?_
  refine nv_get (idx := 20) 0 2 1 rfl kI_S rfl (by decide) (by decide +kernel) rfl (by decide +kernel) ?_
  refine nv_iload (k := 1) 1 0 (by decide +kernel) rfl rfl ?_
  refine nv_new (idx := 9) 1 [.null, .int 0] kY_R rfl kI_R kO_R (by decide +kernel) (by decide +kernel) (by decide +kernel) (by decide +kernel) (by decide) (by decide) (by decide +kernel) (fun q5 => ?_)
  refine nv_dup rfl (by decide +kernel) ?_
  refine nv_bipush (n := 40) (v := 40) (by decide +kernel) rfl ?_
  refine nv_call (idx := 11) (n := 1) (as := [.int 40]) (mcc := 1) (msc := 40) cv_R (by decide +kernel) rfl rfl (Nat.le_of_ble_eq_true rfl) rfl (by decide) (by decide) (by decide +kernel) (ct_R40 _) ?_
  rintro _ ⟨r5, rfl⟩
  refine nv_aast 3 3 8 1 rfl rfl rfl rfl (vp_in_nI (n := 2) (by decide) (by decide)) (by decide +kernel) ?_
  refine nv_iinc (n := 1) (v := 3) (lv' := [(1, .int 3), (0, .ref b)]) 1 0 (by decide +kernel) rfl rfl (by decide) rfl ?_
  refine nv_goto (off := (-23)) 27 (by decide +kernel) rfl ?_
  refine nv_iload (k := 1) 1 0 (by decide +kernel) rfl rfl ?_
  refine nv_iconst (n := 4) (v := 4) (by decide +kernel) rfl ?_
  refine nv_icge (off := 24) 53 (by decide +kernel) rfl (fun z => absurd z (by decide)) (fun _ => ?_)
  refine nv_aload (k := 0) 0 1 (by decide +kernel) rfl rfl ?_
  refine nv_get (idx := 20) 0 2 1 rfl kI_S rfl (by decide) (by decide +kernel) rfl (by decide +kernel) ?_
  refine nv_iload (k := 1) 1 0 (by decide +kernel) rfl rfl ?_
  refine nv_new (idx := 9) 1 [.null, .int 0] kY_R rfl kI_R kO_R (by decide +kernel) (by decide +kernel) (by decide +kernel) (by decide +kernel) (by decide) (by decide) (by decide +kernel) (fun q6 => ?_)
  refine nv_dup rfl (by decide +kernel) ?_
  refine nv_bipush (n := 40) (v := 40) (by decide +kernel) rfl ?_
  refine nv_call (idx := 11) (n := 1) (as := [.int 40]) (mcc := 1) (msc := 40) cv_R (by decide +kernel) rfl rfl (Nat.le_of_ble_eq_true rfl) rfl (by decide) (by decide) (by decide +kernel) (ct_R40 _) ?_
  rintro _ ⟨r6, rfl⟩
  refine nv_aast 3 3 10 1 rfl rfl rfl rfl (vp_in_nI (n := 3) (by decide) (by decide)) (by decide +kernel) ?_
  refine nv_iinc (n := 1) (v := 4) (lv' := [(1, .int 4), (0, .ref b)]) 1 0 (by decide +kernel) rfl rfl (by decide) rfl ?_
  refine nv_goto (off := (-23)) 27 (by decide +kernel) rfl ?_
  refine nv_iload (k := 1) 1 0 (by decide +kernel) rfl rfl ?_
  refine nv_iconst (n := 4) (v := 4) (by decide +kernel) rfl ?_
  refine nv_icge (off := 24) 53 (by decide +kernel) rfl (fun _ => ?_) (fun z => absurd (by decide) z)
  refine nv_aload (k := 0) 0 1 (by decide +kernel) rfl rfl ?_
  refine nv_new (idx := 9) 1 [.null, .int 0] kY_R rfl kI_R kO_R (by decide +kernel) (by decide +kernel) (by decide +kernel) (by decide +kernel) (by decide) (by decide) (by decide +kernel) (fun q7 => ?_)
  refine nv_dup rfl (by decide +kernel) ?_
  refine nv_sipush (n := 600) (v := 600) (by decide +kernel) rfl ?_
  refine nv_call (idx := 11) (n := 1) (as := [.int 600]) (mcc := 1) (msc := 600) cv_R (by decide +kernel) rfl rfl (Nat.le_of_ble_eq_true rfl) rfl (by decide) (by decide) (by decide +kernel) (ct_R600 _) ?_
  rintro _ ⟨r7, rfl⟩
  refine nv_putF (idx := 24) 0 2 2 kY_S rfl kI_S kO_S kN_S rfl (by decide) (by decide +kernel) rfl rfl rfl rfl rfl (Nat.le_of_ble_eq_true rfl) (by decide +kernel) ?_
  exact nv_ret rfl (by decide +kernel) (by decide) (by decide) ⟨(fun j => [q1, r1, q2, q3, r3, q4, r4, q5, r5, q6, r6, q7, r7].getD j 0), rfl⟩
theorem ct_L (d : Nat) : NvCall (d + 3) 17 832 m_L_init [] (.inr (4, [.null, .null, .null, .int 0, .int 0, .int 0])) QLet := by
  refine nv_entry (by decide) rfl (fun b => Nat.le_of_ble_eq_true rfl) (fun D K A b => ?_)
  show NvAt _ _ _ D K A _ 0 [(0, .ref b)] [] 0 0 _ _
  refine nv_aload (k := 0) 0 0 (by decide +kernel) rfl rfl ?_
  refine nv_obj (idx := 3) (by decide +kernel) (by decide +kernel) (Nat.le_of_ble_eq_true rfl) (by omega) ?_
  refine nv_aload (k := 0) 0 0 (by decide +kernel) rfl rfl ?_
  refine nv_new (idx := 9) 1 [.null, .int 0] kY_R rfl kI_R kO_R (by decide +kernel) (by decide +kernel) (by decide +kernel) (by decide +kernel) (by decide) (by decide) (by decide +kernel) (fun q1 => ?_)
  refine nv_dup rfl (by decide +kernel) ?_
  refine nv_bipush (n := 40) (v := 40) (by decide +kernel) rfl ?_
  refine nv_call (idx := 11) (n := 1) (as := [.int 40]) (mcc := 1) (msc := 40) cv_R (by decide +kernel) rfl rfl (Nat.le_of_ble_eq_true rfl) rfl (by decide) (by decide) (by decide +kernel) (ct_R40 _) ?_
  rintro _ ⟨r1, rfl⟩
  refine nv_putF (idx := 14) 0 4 0 kY_L rfl kI_L kO_L kN_L rfl (by decide) (by decide +kernel) rfl rfl rfl rfl rfl (Nat.le_of_ble_eq_true rfl) (by decide +kernel) ?_
  refine nv_aload (k := 0) 0 0 (by decide +kernel) rfl rfl ?_
  refine nv_iconst (n := 4) (v := 4) (by decide +kernel) rfl ?_
  refine nv_newq (n := 4) (N' := 4) (idx := 20) 5 (by decide +kernel) (fun U h => h.2.2) rfl (by decide) rfl (by decide) (by decide) (by decide) (by decide +kernel) (fun q2 => ?_)
  refine nv_putF (idx := 22) 0 4 1 kY_L rfl kI_L kO_L kN_L rfl (by decide) (by decide +kernel) rfl rfl rfl rfl rfl (Nat.le_of_ble_eq_true rfl) (by decide +kernel) ?_
  refine nv_iconst (n := 0) (v := 0) (by decide +kernel) rfl ?_
  refine nv_istore (k := 1) (lv' := [(1, .int 0), (0, .ref b)]) 1 (by decide +kernel) rfl (by decide) rfl ?_
  refine nv_iload (k := 1) 1 0 (by decide +kernel) rfl rfl ?_
  refine nv_iconst (n := 4) (v := 4) (by decide +kernel) rfl ?_
  refine nv_icge (off := 22) 51 (by decide +kernel) rfl (fun z => absurd z (by decide)) (fun _ => ?_)
  refine nv_aload (k := 0) 0 1 (by decide +kernel) rfl rfl ?_
  refine nv_get (idx := 22) 0 4 1 rfl kI_L rfl (by decide) (by decide +kernel) rfl (by decide +kernel) ?_
  refine nv_iload (k := 1) 1 0 (by decide +kernel) rfl rfl ?_
  refine nv_new (idx := 20) 5 [.null, .int 0, .int 0, .int 0] kY_C rfl kI_C kO_C (by decide +kernel) (by decide +kernel) (by decide +kernel) (by decide +kernel) (by decide) (by decide) (by decide +kernel) (fun q3 => ?_)
  refine nv_dup rfl (by decide +kernel) ?_
  refine nv_call (idx := 26) (n := 0) (as := []) (mcc := 2) (msc := 42) cv_C (by decide +kernel) rfl rfl (Nat.le_of_ble_eq_true rfl) rfl (by decide) (by decide) (by decide +kernel) (ct_C _) ?_
  rintro _ ⟨x0, y0, rfl⟩
  refine nv_aast 3 5 4 5 rfl rfl rfl rfl (vp_in_nI (n := 0) (by decide) (by decide)) (by decide +kernel) ?_
  refine nv_iinc (n := 1) (v := 1) (lv' := [(1, .int 1), (0, .ref b)]) 1 0 (by decide +kernel) rfl rfl (by decide) rfl ?_
  refine nv_goto (off := (-21)) 27 (by decide +kernel) rfl ?_
  refine nv_iload (k := 1) 1 0 (by decide +kernel) rfl rfl ?_
  refine nv_iconst (n := 4) (v := 4) (by decide +kernel) rfl ?_
  refine nv_icge (off := 22) 51 (by decide +kernel) rfl (fun z => absurd z (by decide)) (fun _ => ?_)
  refine nv_aload (k := 0) 0 1 (by decide +kernel) rfl rfl ?_
  refine nv_get (idx := 22) 0 4 1 rfl kI_L rfl (by decide) (by decide +kernel) rfl (by decide +kernel) ?_
  refine nv_iload (k := 1) 1 0 (by decide +kernel) rfl rfl ?_
  refine nv_new (idx := 20) 5 [.null, .int 0, .int 0, .int 0] kY_C rfl kI_C kO_C (by decide +kernel) (by decide +kernel) (by decide +kernel) (by decide +kernel) (by decide) (by decide) (by decide +kernel) (fun q4 => ?_)
  refine nv_dup rfl (by decide +kernel) ?_
  refine nv_call (idx := 26) (n := 0) (as := []) (mcc := 2) (msc := 42) cv_C (by decide +kernel) rfl rfl (Nat.le_of_ble_eq_true rfl) rfl (by decide) (by decide) (by decide +kernel) (ct_C _) ?_
  rintro _ ⟨x1, y1, rfl⟩
  refine nv_aast 3 5 7 5 rfl rfl rfl rfl (vp_in_nI (n := 1) (by decide) (by decide)) (by decide +kernel) ?_
  refine nv_iinc (n := 1) (v := 2) (lv' := [(1, .int 2), (0, .ref b)]) 1 0 (by decide +kernel) rfl rfl (by decide) rfl ?_
  refine nv_goto (off := (-21)) 27 (by decide +kernel) rfl ?_
  refine nv_iload (k := 1) 1 0 (by decide +kernel) rfl rfl ?_
  refine nv_iconst (n := 4) (v := 4) (by decide +kernel) rfl ?_
  refine nv_icge (off := 22) 51 (by decide +kernel) rfl (fun z => absurd z (by decide)) (fun _ => ?_)
  refine nv_aload (k := 0) 0 1 (by decide +kernel) rfl rfl ?_
  refine nv_get (idx := 22) 0 4 1 rfl kI_L rfl (by decide) (by decide +kernel) rfl (by decide +kernel) ?_
  refine nv_iload (k := 1) 1 0 (by decide +kernel) rfl rfl ?_
  refine nv_new (idx := 20) 5 [.null, .int 0, .int 0, .int 0] kY_C rfl kI_C kO_C (by decide +kernel) (by decide +kernel) (by decide +kernel) (by decide +kernel) (by decide) (by decide) (by decide +kernel) (fun q5 => ?_)
  refine nv_dup rfl (by decide +kernel) ?_
  refine nv_call (idx := 26) (n := 0) (as := []) (mcc := 2) (msc := 42) cv_C (by decide +kernel) rfl rfl (Nat.le_of_ble_eq_true rfl) rfl (by decide) (by decide) (by decide +kernel) (ct_C _) ?_
  rintro _ ⟨x2, y2, rfl⟩
  refine nv_aast 3 5 10 5 rfl rfl rfl rfl (vp_in_nI (n := 2) (by decide) (by decide)) (by decide +kernel) ?_
  refine nv_iinc (n := 1) (v := 3) (lv' := [(1, .int 3), (0, .ref b)]) 1 0 (by decide +kernel) rfl rfl (by decide) rfl ?_
  refine nv_goto (off := (-21)) 27 (by decide +kernel) rfl ?_
  refine nv_iload (k := 1) 1 0 (by decide +kernel) rfl rfl ?_
  refine nv_iconst (n := 4) (v := 4) (by decide +kernel) rfl ?_
  refine nv_icge (off := 22) 51 (by decide +kernel) rfl (fun z => absurd z (by decide)) (fun _ => ?_)
  refine nv_aload (k := 0) 0 1 (by decide +kernel) rfl rfl ?_
  refine nv_get (idx := 22) 0 4 1 rfl kI_L rfl (by decide) (by decide +kernel) rfl (by decide +kernel) ?_
  refine nv_iload (k := 1) 1 0 (by decide +kernel) rfl rfl ?_
  refine nv_new (idx := 20) 5 [.null, .int 0, .int 0, .int 0] kY_C rfl kI_C kO_C (by decide +kernel) (by decide +kernel) (by decide +kernel) (by decide +kernel) (by decide) (by decide) (by decide +kernel) (fun q6 => ?_)
  refine nv_dup rfl (by decide +kernel) ?_
  refine nv_call (idx := 26) (n := 0) (as := []) (mcc := 2) (msc := 42) cv_C (by decide +kernel) rfl rfl (Nat.le_of_ble_eq_true rfl) rfl (by decide) (by decide) (by decide +kernel) (ct_C _) ?_
  rintro _ ⟨x3, y3, rfl⟩
  refine nv_aast 3 5 13 5 rfl rfl rfl rfl (vp_in_nI (n := 3) (by decide) (by decide)) (by decide +kernel) ?_
  refine nv_iinc (n := 1) (v := 4) (lv' := [(1, .int 4), (0, .ref b)]) 1 0 (by decide +kernel) rfl rfl (by decide) rfl ?_
  refine nv_goto (off := (-21)) 27 (by decide +kernel) rfl ?_
  refine nv_iload (k := 1) 1 0 (by decide +kernel) rfl rfl ?_
  refine nv_iconst (n := 4) (v := 4) (by decide +kernel) rfl ?_
  refine nv_icge (off := 22) 51 (by decide +kernel) rfl (fun _ => ?_) (fun z => absurd (by decide) z)
  refine nv_aload (k := 0) 0 1 (by decide +kernel) rfl rfl ?_
  refine nv_new (idx := 9) 1 [.null, .int 0] kY_R rfl kI_R kO_R (by decide +kernel) (by decide +kernel) (by decide +kernel) (by decide +kernel) (by decide) (by decide) (by decide +kernel) (fun q7 => ?_)
  refine nv_dup rfl (by decide +kernel) ?_
  refine nv_sipush (n := 600) (v := 600) (by decide +kernel) rfl ?_
  refine nv_call (idx := 11) (n := 1) (as := [.int 600]) (mcc := 1) (msc := 600) cv_R (by decide +kernel) rfl rfl (Nat.le_of_ble_eq_true rfl) rfl (by decide) (by decide) (by decide +kernel) (ct_R600 _) ?_
  rintro _ ⟨r7, rfl⟩
  refine nv_putF (idx := 27) 0 4 2 kY_L rfl kI_L kO_L kN_L rfl (by decide) (by decide +kernel) rfl rfl rfl rfl rfl (Nat.le_of_ble_eq_true rfl) (by decide +kernel) ?_
  exact nv_ret rfl (by decide +kernel) (by decide) (by decide) ⟨(fun j => [q1, r1, q2, q3, x0, y0, q4, x1, y1, q5, x2, y2, q6, x3, y3, q7, r7].getD j 0), rfl⟩
