/-! the model's divided, parts, part -/
theorem ksF_ne {br : Nat → Nat} : ∀ (n i : Nat) (ps : Option Nat) (C : List (Nat × Nat)), ksF br n i ps = some C → C ≠ []
  | 0, _, _, _, h => by cases h
  | n + 1, i, ps, C, h => by
    rw [ksF] at h
    split at h
    · exact ksF_ne n (i + 1) ps C h
    · split at h
      · cases hk : ksF br n (i + 1) (some (i + 1)) with
        | none => rw [hk] at h; cases h
        | some C' =>
          rw [hk] at h
          have := ksF_ne n (i + 1) _ C' hk
          cases h
          intro z
          exact this (List.append_eq_nil_iff.mp z).2
      · cases ps with
        | none => cases h
        | some p =>
          cases h
          intro z
          cases z
def tkR (xs : ZT) (a : List ZK) (w : ZW) : Option (List ZK) := tkP xs (stF xs) (5 - w.2.2) w.1 w.2.1 a
def fkM (h : ZH) (k : Nat) (x : ZK) : Prop := zi h 13 10 k = nI x.1 ∧ zi h 14 1 k = bI x.2.1 ∧ zi h 13 11 k = nI x.2.2.1 ∧ zi h 13 12 k = nI (x.2.2.1 + x.2.2.2)
def accM (h : ZH) (acc : List ZK) : Prop := zi h 12 0 20 = nI acc.length ∧ acc.length ≤ 16 ∧ ∀ k, k < acc.length → fkM h k (acc.getD k dK)
theorem accM.kept {C : Nat → Nat → Nat → Prop} {h h' : ZH} {acc : List ZK} (a : accM h acc) (s : zSa C h h') (h1 : ¬ C 12 0 20) (h2 : ∀ i k, 10 ≤ i → i ≤ 12 → ¬ C 13 i k) (h3 : ∀ k, ¬ C 14 1 k) : accM h' acc :=
  ⟨by rw [s.1 _ _ _ h1]; exact a.1, a.2.1, fun k hk => ⟨by rw [s.1 _ _ _ (h2 10 k (by omega) (by omega))]; exact (a.2.2 k hk).1, by rw [s.1 _ _ _ (h3 k)]; exact (a.2.2 k hk).2.1, by rw [s.1 _ _ _ (h2 11 k (by omega) (by omega))]; exact (a.2.2 k hk).2.2.1, by rw [s.1 _ _ _ (h2 12 k (by omega) (by omega))]; exact (a.2.2 k hk).2.2.2⟩⟩
theorem stkI.kept {C : Nat → Nat → Nat → Prop} {h h' : ZH} {R : List ZW} (a : stkI h R) (s : zSa C h h') (h1 : ¬ C 12 0 25) (h2 : ∀ i k, 13 ≤ i → i ≤ 15 → ¬ C 13 i k) : stkI h' R :=
  ⟨by rw [s.1 _ _ _ h1]; exact a.1, fun k hk => ⟨by rw [s.1 _ _ _ (h2 13 k (by omega) (by omega))]; exact (a.2 k hk).1, by rw [s.1 _ _ _ (h2 14 k (by omega) (by omega))]; exact (a.2 k hk).2.1, by rw [s.1 _ _ _ (h2 15 k (by omega) (by omega))]; exact (a.2 k hk).2.2⟩⟩
theorem stkI.pop {h : ZH} {c : ZW} {R : List ZW} (a : stkI h (c :: R)) : stkI (zw h 12 0 25 (nI R.length)) R := by
  refine ⟨by rw [zi_zw, if_pos ⟨rfl, rfl, rfl⟩], fun k hk => ?_⟩
  obtain ⟨b1, b2, b3⟩ := a.2 k (by rw [List.length_cons]; omega)
  rw [show (c :: R).length - 1 - k = (R.length - 1 - k) + 1 by rw [List.length_cons]; omega] at b1 b2 b3
  exact ⟨by rw [zi_zw, if_neg (by omega)]; exact b1, by rw [zi_zw, if_neg (by omega)]; exact b2, by rw [zi_zw, if_neg (by omega)]; exact b3⟩
theorem stkI.top {h : ZH} {c : ZW} {R : List ZW} (a : stkI h (c :: R)) : zi h 13 13 R.length = nI c.1 ∧ zi h 13 14 R.length = nI c.2.1 ∧ zi h 13 15 R.length = nI c.2.2 := by
  obtain ⟨b1, b2, b3⟩ := a.2 R.length (by rw [List.length_cons]; omega)
  rw [show (c :: R).length - 1 - R.length = 0 by rw [List.length_cons]; omega] at b1 b2 b3
  exact ⟨b1, b2, b3⟩
/-- the cells of a new part -/
def APP (n : Nat) : Nat → Nat → Nat → Prop := fun k i j => (k = 12 ∧ j = 20) ∨ (k = 13 ∧ (i = 10 ∨ i = 11 ∨ i = 12) ∧ j = n) ∨ (k = 14 ∧ i = 1 ∧ j = n)
theorem accM_put {h g : ZH} {acc : List ZK} {x : ZK} (a : accM h acc) (hl : acc.length < 16) (s : zSa (APP acc.length) h g) (e4 : zi g 12 0 20 = nI (acc.length + 1)) (e : fkM g acc.length x) : accM g (acc ++ [x]) := by
  refine ⟨by rw [List.length_append]; exact e4, by rw [List.length_append]; show acc.length + 1 ≤ 16; omega, fun k hk => ?_⟩
  rw [List.length_append] at hk
  have hk : k < acc.length + 1 := hk
  by_cases c : k = acc.length
  · subst c
    rw [gdK2]
    exact e
  · rw [gdK1 (by omega)]
    obtain ⟨b1, b2, b3, b4⟩ := a.2.2 k (by omega)
    exact ⟨by rw [s.1 _ _ _ (by unfold APP; omega)]; exact b1, by rw [s.1 _ _ _ (by unfold APP; omega)]; exact b2, by rw [s.1 _ _ _ (by unfold APP; omega)]; exact b3, by rw [s.1 _ _ _ (by unfold APP; omega)]; exact b4⟩
theorem APP_DVP {n : Nat} : ∀ k i j, APP n k i j → DVP k i j := fun k i j z => by unfold APP at z; unfold DVP; omega
/-- the new part's writes -/
def ptW (g : ZH) (n : Nat) (st en dp : Nat) (m : Bool) : ZH := zw (zw (zw (zw (zw g 13 11 n (nI st)) 13 12 n (nI en)) 13 10 n (nI dp)) 14 1 n (bI m)) 12 0 20 (nI (n + 1))
theorem ptW_sa (g : ZH) (n st en dp : Nat) (m : Bool) : zSa (APP n) g (ptW g n st en dp m) := by
  unfold ptW
  exact ((((zSa.rfl.w (by unfold APP; omega)).w (by unfold APP; omega)).w (by unfold APP; omega)).w (by unfold APP; omega)).w (by unfold APP; omega)
theorem ptW_acc {g : ZH} {acc : List ZK} {st en dp : Nat} {m : Bool} (a : accM g acc) (hl : acc.length < 16) (h1 : st ≤ en) : accM (ptW g acc.length st en dp m) (acc ++ [(dp, m, st, en - st)]) := by
  refine accM_put a hl (ptW_sa _ _ _ _ _ _) ?_ ⟨?_, ?_, ?_, ?_⟩
  · unfold ptW
    rw [zi_zw, if_pos ⟨rfl, rfl, rfl⟩]
  · unfold ptW
    rw [zi_zw, if_neg (by omega), zi_zw, if_neg (by omega), zi_zw, if_pos ⟨rfl, rfl, rfl⟩]
  · unfold ptW
    rw [zi_zw, if_neg (by omega), zi_zw, if_pos ⟨rfl, rfl, rfl⟩]
  · unfold ptW
    rw [zi_zw, if_neg (by omega), zi_zw, if_neg (by omega), zi_zw, if_neg (by omega), zi_zw, if_neg (by omega), zi_zw, if_pos ⟨rfl, rfl, rfl⟩]
  · unfold ptW
    rw [zi_zw, if_neg (by omega), zi_zw, if_neg (by omega), zi_zw, if_neg (by omega), zi_zw, if_pos ⟨rfl, rfl, rfl⟩]
    show nI en = nI (st + (en - st))
    rw [show st + (en - st) = en by omega]
theorem dv_step {d p b : Nat} {h : ZH} {xs : ZT} {acc : List ZK} {c : ZW} {R : List ZW} {Q : Int32 → ZH → Prop} (a : mdI h p xs) (sk : stkI h (c :: R)) (ic : incR b (lC (stF xs)) (c :: R)) (hd : ∀ w ∈ c :: R, w.2.2 ≤ 4) (ac : accM h acc)
    (K : ∀ acc2 R2 b2 h2, acc.length < 16 → acc2.length = acc.length + 1 → mdI h2 p xs → stkI h2 R2 → incR b2 (lC (stF xs)) R2 → (∀ w ∈ R2, w.2.2 ≤ 4) → accM h2 acc2 → zSa DVP h h2 → (c :: R).foldlM (tkR xs) acc = R2.foldlM (tkR xs) acc2 → EvAt (d + 4) m_M_divided 39 [some (vQ (some (12, 0))), none, none, none, none, none, none] [] h2 (zQI Q))
    (q0 : (c :: R).foldlM (tkR xs) acc = none → ∀ h', zSa DVP h h' → Q 0 h') : EvAt (d + 4) m_M_divided 39 [some (vQ (some (12, 0))), none, none, none, none, none, none] [] h (zQI Q) := by
  have hl := a.lc
  have hxl := a.2.1.2
  obtain ⟨st, en, dp⟩ := c
  obtain ⟨i1, i2, i3⟩ := ic
  have i2 : st ≤ en := i2
  have i3 : incR (en + 1) (lC (stF xs)) R := i3
  have hlR := incR_len R _ i3
  have hen : en ≤ lC (stF xs) := by omega
  have hdp : dp ≤ 4 := hd (st, en, dp) List.mem_cons_self
  have h16 := ac.2.1
  obtain ⟨f, hf⟩ : ∃ f, f = 4 - dp := ⟨_, rfl⟩
  have unf : ((st, en, dp) :: R).foldlM (tkR xs) acc = (tkP xs (stF xs) (f + 1) st en acc) >>= fun s => R.foldlM (tkR xs) s := by
    show (tkP xs (stF xs) (5 - dp) st en acc >>= fun s => R.foldlM (tkR xs) s) = _
    rw [show 5 - dp = f + 1 by omega]
  rw [unf, tkP] at q0
  have K2 : ∀ acc2 R2 b2 h2, acc.length < 16 → acc2.length = acc.length + 1 → mdI h2 p xs → stkI h2 R2 → incR b2 (lC (stF xs)) R2 → (∀ w ∈ R2, w.2.2 ≤ 4) → accM h2 acc2 → zSa DVP h h2 → (tkP xs (stF xs) (f + 1) st en acc >>= fun s => R.foldlM (tkR xs) s) = R2.foldlM (tkR xs) acc2 → EvAt (d + 4) m_M_divided 39 [some (vQ (some (12, 0))), none, none, none, none, none, none] [] h2 (zQI Q) := fun acc2 R2 b2 h2 k1 k2 k3 k4 k5 k6 k7 k8 k9 => K acc2 R2 b2 h2 k1 k2 k3 k4 k5 k6 k7 k8 (by rw [unf]; exact k9)
  rw [tkP] at K2
  have e25 : zi h 12 0 25 = nI (R.length + 1) := sk.1
  obtain ⟨t1, t2, t3⟩ := sk.top
  have sp := sk.pop
  have s1 : zSa DVP h (zw h 12 0 25 (nI R.length)) := zSa.rfl.w (by unfold DVP; omega)
  have g13 : zi (zw h 12 0 25 (nI R.length)) 13 13 R.length = nI st := by rw [zi_zw, if_neg (by omega)]; exact t1
  have g14 : zi (zw h 12 0 25 (nI R.length)) 13 14 R.length = nI en := by rw [zi_zw, if_neg (by omega)]; exact t2
  have g15 : zi (zw h 12 0 25 (nI R.length)) 13 15 R.length = nI dp := by rw [zi_zw, if_neg (by omega)]; exact t3
  have g25 := sp.1
  have ac1 : accM (zw h 12 0 25 (nI R.length)) acc := ac.kept (C := fun k i j => k = 12 ∧ j = 25) (zSa.rfl.w ⟨rfl, rfl⟩) (by omega) (fun i k _ _ => by omega) (fun k => by omega)
  refine w_M_divided_39 ?_
  rw [e25, nI_m1 (by omega), Nat.add_sub_cancel]
  obtain ⟨g, hg⟩ : ∃ g, g = zw h 12 0 25 (nI R.length) := ⟨_, rfl⟩
  rw [← hg] at s1 g13 g14 g15 g25 sp ac1 ⊢
  rw [g25, nI_clamp (by omega), g13, g14, g15]
  have ag := a.kept s1
  obtain ⟨he1, he2⟩ := hdF_le (stF xs) (en - st) st
  obtain ⟨he, hhe⟩ : ∃ he, he = hdF (stF xs) (en - st) st := ⟨_, rfl⟩
  rw [← hhe] at he1 he2 q0 K2
  refine pk_le (R.length + 1) 0 (fun z => by omega) (fun _ => ⟨vp_in_nI (show R.length < 700 by omega) (by decide), vp_in_nI (show R.length < 700 by omega) (by decide), vp_in_nI (show R.length < 700 by omega) (by decide), sp_M_headEnd (d := d + 1) ag i2 hen ?_⟩)
  rw [← hhe, ac1.1]
  refine pk_eq acc.length 16 (fun c16 => q0 (by rw [if_pos (by omega)]; rfl) g s1) (fun c16 => ?_)
  have c16' : acc.length < 16 := by omega
  rw [if_neg (by omega)] at q0 K2
  refine sp_M_rightHead (d := d) ag he1 (by omega) ⟨fun c => ?_, fun c => q0 (by rw [if_pos ((bI_0 _).mp c)]; rfl) g s1⟩
  rw [if_neg (by rw [bI_t c]; decide)] at q0 K2
  have pre : ∀ (g5 : ZH) (m : Bool), zSa BDP g g5 → accM g5 acc ∧ zi g5 12 0 20 = nI acc.length ∧ zi (zw g5 13 11 acc.length (nI st)) 12 0 20 = nI acc.length ∧ zi (zw (zw g5 13 11 acc.length (nI st)) 13 12 acc.length (nI en)) 12 0 20 = nI acc.length ∧ zi (zw (zw (zw g5 13 11 acc.length (nI st)) 13 12 acc.length (nI en)) 13 10 acc.length (nI dp)) 12 0 20 = nI acc.length ∧ zi (zw (zw (zw (zw g5 13 11 acc.length (nI st)) 13 12 acc.length (nI en)) 13 10 acc.length (nI dp)) 14 1 acc.length (bI m)) 12 0 20 = nI acc.length := by
    intro g5 m s5
    have ac5 := ac1.kept s5 (by unfold BDP; omega) (fun i k _ _ => by unfold BDP; omega) (fun k => by unfold BDP; omega)
    have z0 := ac5.1
    have z1 : zi (zw g5 13 11 acc.length (nI st)) 12 0 20 = nI acc.length := by rw [zi_zw, if_neg (by omega)]; exact z0
    have z2 : zi (zw (zw g5 13 11 acc.length (nI st)) 13 12 acc.length (nI en)) 12 0 20 = nI acc.length := by rw [zi_zw, if_neg (by omega)]; exact z1
    have z3 : zi (zw (zw (zw g5 13 11 acc.length (nI st)) 13 12 acc.length (nI en)) 13 10 acc.length (nI dp)) 12 0 20 = nI acc.length := by rw [zi_zw, if_neg (by omega)]; exact z2
    exact ⟨ac5, z0, z1, z2, z3, by rw [zi_zw, if_neg (by omega)]; exact z3⟩
  have i11 : vp_in (nI acc.length) (zLen 13 11) := vp_in_nI (show acc.length < 17 by omega) (by decide)
  refine sp_M_isMulti (d := d) ag he1 (by omega) (fun e g5 s5 => ?_) (fun b e g5 bk s5 => ?_)
  · obtain ⟨ac5, z0, z1, z2, z3, z4⟩ := pre g5 false s5
    rw [z0, nI_clamp (by omega), z1, nI_clamp (by omega), z2, nI_clamp (by omega), z3, nI_clamp (by omega)]
    have z4 : zi (zw (zw (zw (zw g5 13 11 acc.length (nI st)) 13 12 acc.length (nI en)) 13 10 acc.length (nI dp)) 14 1 acc.length (vp_nar .boolean 0)) 12 0 20 = nI acc.length := z4
    rw [z4, nI_inc]
    refine ⟨i11, i11, i11, i11, fun _ => w_M_divided_210 ?_, fun z => absurd rfl z⟩
    show EvAt (d + 4) m_M_divided 39 _ _ (ptW g5 acc.length st en dp false) _
    have s6 : zSa DVP g (ptW g5 acc.length st en dp false) := (s5.mono BDP_DVP).trans ((ptW_sa g5 acc.length st en dp false).mono APP_DVP)
    refine K2 (acc ++ [(dp, false, st, en - st)]) R _ _ c16' (by rw [List.length_append]; rfl) (ag.kept s6) ((sp.kept s5 (by unfold BDP; omega) (fun i k _ _ => by unfold BDP; omega)).kept (ptW_sa g5 acc.length st en dp false) (by unfold APP; omega) (fun i k _ _ => by unfold APP; omega)) i3 (fun w hw => hd w (List.mem_cons_of_mem _ hw)) (ptW_acc ac5 c16' i2) (s1.trans s6) ?_
    rw [e, show 4 - f = dp by omega]
    rfl
  · obtain ⟨ac5, z0, z1, z2, z3, z4⟩ := pre g5 true s5
    obtain ⟨b1, b2, b3, b4⟩ := bnF_bd (he - st) st (by omega) e
    rw [z0, nI_clamp (by omega), z1, nI_clamp (by omega), z2, nI_clamp (by omega), z3, nI_clamp (by omega)]
    have z4 : zi (zw (zw (zw (zw g5 13 11 acc.length (nI st)) 13 12 acc.length (nI en)) 13 10 acc.length (nI dp)) 14 1 acc.length (vp_nar .boolean 1)) 12 0 20 = nI acc.length := z4
    rw [z4, nI_inc]
    rw [e, show 4 - f = dp by omega] at q0 K2
    have s6 : zSa DVP g (ptW g5 acc.length st en dp true) := (s5.mono BDP_DVP).trans ((ptW_sa g5 acc.length st en dp true).mono APP_DVP)
    have ag6 := ag.kept s6
    have sk6 := (sp.kept s5 (by unfold BDP; omega) (fun i k _ _ => by unfold BDP; omega)).kept (ptW_sa g5 acc.length st en dp true) (by unfold APP; omega) (fun i k _ _ => by unfold APP; omega)
    have bk6 : bdK (ptW g5 acc.length st en dp true) p b := ⟨by rw [(ptW_sa g5 acc.length st en dp true).1 _ _ _ (by unfold APP; omega)]; exact bk.1, by rw [(ptW_sa g5 acc.length st en dp true).1 _ _ _ (by unfold APP; omega)]; exact bk.2⟩
    have ac6 : accM (ptW g5 acc.length st en dp true) (acc ++ [(dp, true, st, en - st)]) := ptW_acc ac5 c16' i2
    have k197 : ∀ fr, fr ≤ en → ksF (brF xs (stF xs) b) (en - fr) fr none = ksF (brF xs (stF xs) b) (en - (he + 1)) (he + 1) none → EvAt (d + 4) m_M_divided 197 [some (vQ (some (12, 0))), none, none, some (vI (nI en)), some (vI (nI dp)), none, none] [vI (nI fr), vQ (some (12, 0))] (ptW g5 acc.length st en dp true) (zQI Q) := by
      intro fr hfr ek
      refine w_M_divided_197 _ _ _ ?_
      rw [nI_inc]
      refine sp_M_divide (d := d + 1) (dp := dp + 1) ag6 bk6 b1 b3 sk6 i3 hen hfr (by omega) (fun hC h' s' => ⟨fun z => absurd rfl z, fun _ => q0 ?_ h' (s1.trans (s6.trans (s'.mono STP_DVP)))⟩) (fun C eC hdp4 h' sk' ic' s' => ⟨fun _ => w_M_divided_210 ?_, fun z => absurd z (by decide)⟩)
      · rw [ek] at hC
        show (((ksF (brF xs (stF xs) b) (en - (he + 1)) (he + 1) none).bind fun C => C.foldlM (fun a c => tkP xs (stF xs) f c.1 c.2 a) (acc ++ [(dp, true, st, en - st)])) >>= fun s => R.foldlM (tkR xs) s) = none
        cases hk : ksF (brF xs (stF xs) b) (en - (he + 1)) (he + 1) none with
        | none => rfl
        | some C =>
          have h5 := hC C hk
          have hf0 : f = 0 := by omega
          have hne := ksF_ne _ _ _ C hk
          subst hf0
          cases C with
          | nil => exact absurd rfl hne
          | cons x t => rfl
      · have s7 := s'.mono STP_DVP
        refine K2 (acc ++ [(dp, true, st, en - st)]) (kidsW (dp + 1) C ++ R) _ h' c16' (by rw [List.length_append]; rfl) (ag6.kept s7) sk' ic' (fun w hw => ?_) (ac6.kept s' (by unfold STP; omega) (fun i k _ _ => by unfold STP; omega) (fun k => by unfold STP; omega)) (s1.trans (s6.trans s7)) ?_
        · rcases List.mem_append.mp hw with z | z
          · unfold kidsW at z
            obtain ⟨y, -, e2⟩ := List.mem_map.mp z
            rw [← e2]
            exact hdp4
          · exact hd w (List.mem_cons_of_mem _ z)
        · show (((ksF (brF xs (stF xs) b) (en - (he + 1)) (he + 1) none).bind fun C => C.foldlM (fun a c => tkP xs (stF xs) f c.1 c.2 a) (acc ++ [(dp, true, st, en - st)])) >>= fun s => R.foldlM (tkR xs) s) = _
          rw [← ek, eC, List.foldlM_append]
          show ((C.foldlM (fun a c => tkP xs (stF xs) f c.1 c.2 a) (acc ++ [(dp, true, st, en - st)])) >>= fun s => R.foldlM (tkR xs) s) = _
          unfold kidsW
          rw [List.foldlM_map]
          have : (fun (x : List ZK) (y : Nat × Nat) => tkR xs x (y.1, y.2, dp + 1)) = fun a c => tkP xs (stF xs) f c.1 c.2 a := by
            funext x y
            unfold tkR
            rw [show 5 - (dp + 1) = f by omega]
          rw [this]
    refine ⟨i11, i11, i11, i11, fun z => absurd z (by decide), fun _ => pk_le en he (fun z => ?_) (fun z => ?_)⟩
    · have := k197 en (Nat.le_refl _) (by rw [show en - (he + 1) = 0 by omega, Nat.sub_self]; rfl)
      exact this
    · rw [nI_inc]
      exact k197 (he + 1) (by omega) rfl
