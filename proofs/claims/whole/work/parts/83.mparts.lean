def DVQ : Nat → Nat → Nat → Prop := fun k i j => DVP k i j ∨ FLP k i j
theorem foldlM_1 (o : Option (List ZK)) : (o >>= fun s => (some s : Option (List ZK))) = o := by cases o <;> rfl
theorem sp_M_divided {d p : Nat} {h : ZH} {xs : ZT} {Q : Int32 → ZH → Prop} (hp : p < 6) (t : tsIs h p xs) (hl : xs.length ≤ 600) (q0 : partsOf xs = none → ∀ h', zSa DVQ h h' → Q 0 h') (q1 : ∀ A, partsOf xs = some A → ∀ h', accM h' A → zSa DVQ h h' → Q 1 h') : EvI (d + 4) m_M_divided [vQ (some (12, 0)), vI (nI p)] h Q := by
  have loop : ∀ (n b : Nat) (acc : List ZK) (R : List ZW) (g : ZH), acc.length + n = 16 → mdI g p xs → stkI g R → incR b (lC (stF xs)) R → (∀ w ∈ R, w.2.2 ≤ 4) → accM g acc → zSa DVQ h g → R.foldlM (tkR xs) acc = partsOf xs → EvAt (d + 4) m_M_divided 39 [some (vQ (some (12, 0))), none, none, none, none, none, none] [] g (zQI Q) := by
    intro n
    induction n with
    | zero =>
      intro b acc R g hn a sk ic hd ac sg e
      cases R with
      | nil =>
        refine w_M_divided_39 ?_
        rw [sk.1]
        exact pk_le 0 0 (fun _ => q1 acc (by rw [← e]; rfl) g ac sg) (fun z => by omega)
      | cons c R => exact dv_step a sk ic hd ac (fun acc2 R2 b2 h2 k1 => by omega) (fun e0 h' s' => q0 (by rw [← e]; exact e0) h' (sg.trans (s'.mono (fun k i j z => Or.inl z))))
    | succ n ih =>
      intro b acc R g hn a sk ic hd ac sg e
      cases R with
      | nil =>
        refine w_M_divided_39 ?_
        rw [sk.1]
        exact pk_le 0 0 (fun _ => q1 acc (by rw [← e]; rfl) g ac sg) (fun z => by omega)
      | cons c R => exact dv_step a sk ic hd ac (fun acc2 R2 b2 h2 k1 k2 k3 k4 k5 k6 k7 k8 k9 => ih b2 acc2 R2 h2 (by omega) k3 k4 k5 k6 k7 (sg.trans (k8.mono (fun k i j z => Or.inl z))) (by rw [← e, k9])) (fun e0 h' s' => q0 (by rw [← e]; exact e0) h' (sg.trans (s'.mono (fun k i j z => Or.inl z))))
  refine e_M_divided _ (sp_M_findLines hp t hl (fun g1 a1 s1 => ⟨vp_in_nI (show 0 < 700 by decide) (by decide), vp_in_nI (show 0 < 700 by decide) (by decide), vp_in_nI (show 0 < 700 by decide) (by decide), ?_⟩))
  rw [show ((0 : Int32)).toNatClampNeg = 0 from rfl]
  have e18 : zi (zw (zw (zw g1 12 0 20 0) 12 0 25 1) 13 13 0 0) 12 0 18 = nI (lC (stF xs)) := by
    rw [zi_zw, if_neg (by omega), zi_zw, if_neg (by omega), zi_zw, if_neg (by omega)]
    exact a1.2.2.1
  rw [e18]
  have s2 : zSa DVP g1 (zw (zw (zw (zw (zw g1 12 0 20 0) 12 0 25 1) 13 13 0 0) 13 14 0 (nI (lC (stF xs)))) 13 15 0 0) := ((((zSa.rfl.w (by unfold DVP; omega)).w (by unfold DVP; omega)).w (by unfold DVP; omega)).w (by unfold DVP; omega)).w (by unfold DVP; omega)
  refine loop 16 0 [] [(0, lC (stF xs), 0)] _ rfl (a1.kept s2) ⟨?_, fun k hk => ?_⟩ ⟨Nat.zero_le _, Nat.zero_le _, Nat.le_refl _⟩ (fun w hw => ?_) ⟨?_, by decide, fun k hk => absurd hk (Nat.not_lt_zero _)⟩ ((s1.mono (fun k i j z => Or.inr z)).trans (s2.mono (fun k i j z => Or.inl z))) ?_
  · rw [zi_zw, if_neg (by omega), zi_zw, if_neg (by omega), zi_zw, if_neg (by omega), zi_zw, if_pos ⟨rfl, rfl, rfl⟩]
    rfl
  · have hk : k < 1 := hk
    have : k = 0 := by omega
    subst this
    refine ⟨?_, ?_, ?_⟩
    · rw [zi_zw, if_neg (by omega), zi_zw, if_neg (by omega), zi_zw, if_pos ⟨rfl, rfl, rfl⟩]; rfl
    · rw [zi_zw, if_neg (by omega), zi_zw, if_pos ⟨rfl, rfl, rfl⟩]; rfl
    · rw [zi_zw, if_pos ⟨rfl, rfl, rfl⟩]; rfl
  · rw [List.mem_singleton.mp hw]
    exact Nat.zero_le _
  · rw [zi_zw, if_neg (by omega), zi_zw, if_neg (by omega), zi_zw, if_neg (by omega), zi_zw, if_neg (by omega), zi_zw, if_pos ⟨rfl, rfl, rfl⟩]
    rfl
  · show (tkP xs (stF xs) 5 0 (lC (stF xs)) [] >>= fun s => (some s : Option (List ZK))) = _
    rw [foldlM_1]
    rfl
theorem DVQ_PMM : ∀ k i j, DVQ k i j → PMM k i j := fun k i j z => by
  unfold DVQ DVP FLP at z
  unfold PMM
  omega
theorem slP_DVQ {p : Nat} : ∀ k i j, slP p k i j → ¬ DVQ k i j := by
  intro k i j z y
  unfold DVQ DVP FLP at y
  rcases z with ⟨rfl, rfl, rfl⟩ | ⟨rfl, z⟩
  · omega
  · omega
theorem RM_dv {h g : ZH} {S : ZS} (a : RM h S) (s : zSa DVQ h g) : RM g S := by
  obtain ⟨up, now, given, wr, line, gr, bg, tk, snd, rcs, tx, L⟩ := S
  obtain ⟨a1, a2, a3, a4, a5, a6, a7, a8⟩ := a
  have f : ∀ j, j < 18 → ¬ DVQ 12 0 j := fun j hj z => by unfold DVQ DVP FLP at z; omega
  exact ⟨by rw [s.1 12 0 0 (f 0 (by decide))]; exact a1, by rw [s.1 12 0 1 (f 1 (by decide))]; exact a2, a3, by rw [s.1 12 0 2 (f 2 (by decide))]; exact a4, a5, a6, a7.kept s (fun k i j z y => by unfold DVQ DVP FLP at y; omega), a8.kept s (fun p hp => slP_DVQ)⟩
theorem sp_M_parts {d : Nat} {x : Int32} {h : ZH} {up : Bool} {now given : Nat} {wr : Option Nat} {line : ZT} {gr bg tk : Bool} {snd : ZT} {rcs : List ZT} {tx : ZT} {L : List ZL} {Q : Int32 → ZH → Prop} (a : RM h (up, now, given, wr, line, gr, bg, tk, snd, rcs, tx, L)) (hq : ∀ h', RM h' (up, now, given, wr, line, gr, bg, tk, snd, rcs, tx, L) → zSa PMM h h' → Q (oParts L x) h') : EvI (d + 5) m_M_parts [vQ (some (12, 0)), vI x] h Q := by
  have a0 := a
  obtain ⟨a1, a2, a3, a4, a5, a6, a7, ⟨⟨P, m, rfl⟩, pw, lt⟩⟩ := a
  unfold oParts at hq
  refine e_M_parts _ (sp_M_placeOf m pw (fun e => ⟨fun z => absurd z (by decide), fun _ => ?_⟩) (fun q hqP hs e => ⟨fun _ => ?_, fun z => ?_⟩))
  · rw [e] at hq
    exact hq h a0 zSa.rfl
  · obtain ⟨h6, sl⟩ := m.1 q hqP
    rw [e] at hq
    have hq : ∀ h', RM h' (up, now, given, wr, line, gr, bg, tk, snd, rcs, tx, P.map Prod.snd) → zSa PMM h h' → Q (nI (pA q.2.2.2.2.2).length) h' := hq
    refine sp_M_divided (d := d) h6 sl.2.2.2.1.1 sl.2.2.2.1.2 (fun e0 h' s' => ⟨fun _ => ?_, fun z => absurd rfl z⟩) (fun A eA h' ac s' => ⟨fun z => absurd z (by decide), fun _ => ?_⟩)
    · have := hq h' (RM_dv a0 s') (s'.mono DVQ_PMM)
      unfold pA at this
      rw [e0] at this
      exact this
    · have := hq h' (RM_dv a0 s') (s'.mono DVQ_PMM)
      unfold pA at this
      rw [eA] at this
      rw [ac.1]
      exact this
  · have h6 := (m.1 q hqP).1
    exact absurd (nI_pos' (by omega)) z
theorem sp_M_part {d : Nat} {x k w : Int32} {h : ZH} {up : Bool} {now given : Nat} {wr : Option Nat} {line : ZT} {gr bg tk : Bool} {snd : ZT} {rcs : List ZT} {tx : ZT} {L : List ZL} {Q : Int32 → ZH → Prop} (a : RM h (up, now, given, wr, line, gr, bg, tk, snd, rcs, tx, L)) (hq : ∀ h', RM h' (up, now, given, wr, line, gr, bg, tk, snd, rcs, tx, L) → zSa PMM h h' → Q (oPart L x k w) h') : EvI (d + 5) m_M_part [vQ (some (12, 0)), vI x, vI k, vI w] h Q := by
  have a0 := a
  obtain ⟨a1, a2, a3, a4, a5, a6, a7, ⟨⟨P, m, rfl⟩, pw, lt⟩⟩ := a
  unfold oPart at hq
  refine e_M_part _ _ _ (sp_M_placeOf m pw (fun e => ⟨fun _ => ?_, fun z => absurd (by decide) z⟩) (fun q hqP hs e => ⟨fun z => ?_, fun _ => ?_⟩))
  · rw [e] at hq
    exact hq h a0 zSa.rfl
  · have h6 := (m.1 q hqP).1
    exact absurd z (nI_pos (by omega))
  · obtain ⟨h6, sl⟩ := m.1 q hqP
    rw [e] at hq
    have hq : ∀ h', RM h' (up, now, given, wr, line, gr, bg, tk, snd, rcs, tx, P.map Prod.snd) → zSa PMM h h' → Q (prF (pA q.2.2.2.2.2) k w) h' := hq
    refine sp_M_divided (d := d) h6 sl.2.2.2.1.1 sl.2.2.2.1.2 (fun e0 h' s' => ⟨fun _ => ?_, fun z => absurd rfl z⟩) (fun A eA h' ac s' => ⟨fun z => absurd z (by decide), fun _ => ?_⟩)
    · have := hq h' (RM_dv a0 s') (s'.mono DVQ_PMM)
      unfold pA prF at this
      rw [e0] at this
      have this : Q (if k < 0 ∨ nI 0 ≤ k ∨ w < 0 ∨ ¬ w < 4 then -1 else fcN (([] : List ZK).getD k.toNatClampNeg dK) w) h' := this
      by_cases c : k < 0
      · rw [if_pos (Or.inl c)] at this; exact this
      · rw [if_pos (Or.inr (Or.inl (show nI 0 ≤ k from Int32.not_lt.mp c)))] at this; exact this
    · have hQ := hq h' (RM_dv a0 s') (s'.mono DVQ_PMM)
      have h16 := ac.2.1
      unfold pA prF at hQ
      rw [eA] at hQ
      have hQ : Q (if k < 0 ∨ nI A.length ≤ k ∨ w < 0 ∨ ¬ w < 4 then -1 else fcN (A.getD k.toNatClampNeg dK) w) h' := hQ
      rw [ac.1]
      refine ⟨fun c => ?_, fun c => ⟨fun c2 => ?_, fun c2 => ⟨fun c3 => ?_, fun c3 => ⟨fun c4 => ?_, fun c4 => ?_⟩⟩⟩⟩
      · rw [if_pos (Or.inl c)] at hQ; exact hQ
      · rw [if_pos (Or.inr (Or.inl c2))] at hQ; exact hQ
      · rw [if_pos (Or.inr (Or.inr (Or.inl c3)))] at hQ; exact hQ
      · have c4' : w < 4 := Int32.lt_of_le_of_lt c4 (by decide)
        rw [if_neg (fun z => z.elim c (fun z => z.elim c2 (fun z => z.elim c3 (fun z => z c4'))))] at hQ
        obtain ⟨j, hj, rfl⟩ := nI_of c
        rw [nI_leI (by omega) (by omega)] at c2
        obtain ⟨f1, f2, f3, f4⟩ := ac.2.2 j (by omega)
        rw [nI_clamp hj] at hQ ⊢
        rw [f1, f2, f3, f4]
        unfold fcN at hQ
        have i17 : vp_in (nI j) 17 := vp_in_nI (show j < 17 by omega) (by decide)
        refine ⟨fun d0 => ⟨fun d1 => ⟨fun d2 => ⟨i17, i17, ?_⟩, fun d2 => ⟨i17, ?_⟩⟩, fun d1 => ⟨i17, fun y => ?_, fun y => ?_⟩⟩, fun d0 => ⟨i17, ?_⟩⟩
        · rw [if_neg d0, if_neg d1, if_neg d2] at hQ
          rw [pk_sub (Nat.le_add_right _ _), Nat.add_sub_cancel_left]
          exact hQ
        · rw [if_neg d0, if_neg d1, if_pos d2] at hQ
          exact hQ
        · rw [if_neg d0, if_pos d1, (bI_0 _).mp y] at hQ
          exact hQ
        · rw [if_neg d0, if_pos d1, bI_t y] at hQ
          exact hQ
        · rw [if_pos d0] at hQ
          exact hQ
      · rw [if_pos (Or.inr (Or.inr (Or.inr (fun z => c4 ?_))))] at hQ
        · exact hQ
        · obtain ⟨v, hv, rfl⟩ := nI_of c3
          rw [show (4 : Int32) = nI 4 from rfl, nI_ltI (by omega) (by omega)] at z
          rw [show (3 : Int32) = nI 3 from rfl, nI_leI (by omega) (by omega)]
          omega
