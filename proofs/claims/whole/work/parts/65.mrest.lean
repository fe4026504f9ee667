theorem sp_M_enter {d : Nat} {h : ZH} {up : Bool} {now given : Nat} {wr : Option Nat} {line : ZT} {gr bg tk : Bool} {snd : ZT} {rcs : List ZT} {tx : ZT} {L : List ZL} {Q : Int32 → ZH → Prop} (a : RM h (up, now, given, wr, line, gr, bg, tk, snd, rcs, tx, L)) (hgv : given + 1 < 2 ^ 29)
    (hq : ∀ h', RM h' (entS up now given wr line gr bg tk snd rcs tx L).2 → zSa PMM h h' → Q (entS up now given wr line gr bg tk snd rcs tx L).1 h') : EvI (d + 6) m_M_enter [vQ (some (12, 0))] h Q := by
  have a0 := a
  obtain ⟨a1, a2, a3, a4, a5, a6, a7, a8⟩ := a
  unfold entS at hq
  refine e_M_enter ?_
  rw [a1, a7.2.2.2.2.1]
  refine ⟨fun c => ?_, fun c => ?_⟩
  · have hup := bI_t c
    subst hup
    rw [if_pos rfl] at hq
    refine ⟨fun c1 => ?_, fun c1 => ?_⟩
    · have htk := (bI_0 _).mp c1
      subst htk
      rw [if_neg (by decide)] at hq
      obtain ⟨⟨P, m, rfl⟩, pw, lt⟩ := a8
      have hPL : (P.map Prod.snd).length = P.length := List.length_map ..
      unfold obyS at hq
      rw [hPL] at hq
      refine sp_M_command (d := d) m a7 (fun h' se s => hq _ ?_ (ln5_PMM (s.mono PSM_PMM)))
      exact RM_ps a0 (s.w (by unfold PSM; omega)) (seM_line se)
    · have htk := bI_t c1
      subst htk
      rw [if_pos rfl] at hq
      have hbg := (a7.2.2.2.2.2.2.1 rfl).1
      subst hbg
      exact sp_M_textLine (d := d + 2) a0 hgv (fun h' r s => hq _ r s)
  · have hup := (bI_0 _).mp c
    subst hup
    rw [if_neg (by decide)] at hq
    exact hq h a0 zSa.rfl
theorem slIs.keptE {h g : ZH} {p : Nat} {l : ZL} (a : slIs h p l) (r : ∀ k i j, zr g k i j = zr h k i j) (e : ∀ k i j, slP p k i j → zi g k i j = zi h k i j) : slIs g p l :=
  a.kept (P := fun k i j => zi g k i j ≠ zi h k i j) ⟨fun k i j z => Decidable.not_not.mp z, r⟩ (fun k i j z y => y (e k i j z))
theorem filt_snd (P : List (Nat × ZL)) : (P.filter (fun q => q.2.2.1)).map Prod.snd = (P.map Prod.snd).filter sld := by
  rw [List.filter_map]
  rfl
theorem sp_M_restart {d : Nat} {h : ZH} {up : Bool} {now given : Nat} {wr : Option Nat} {line : ZT} {gr bg tk : Bool} {snd : ZT} {rcs : List ZT} {tx : ZT} {L : List ZL} {Q : Int32 → ZH → Prop} (a : RM h (up, now, given, wr, line, gr, bg, tk, snd, rcs, tx, L))
    (hq : ∀ h', RM h' (rstS up now given wr line gr bg tk snd rcs tx L).2 → zSa PMM h h' → Q (rstS up now given wr line gr bg tk snd rcs tx L).1 h') : EvI (d + 2) m_M_restart [vQ (some (12, 0))] h Q := by
  have a0 := a
  obtain ⟨a1, a2, a3, a4, a5, a6, a7, ⟨⟨P, m, rfl⟩, pw, lt⟩⟩ := a
  unfold rstS at hq
  refine e_M_restart ?_
  rw [a1]
  refine ⟨fun c => ?_, fun c => ?_⟩
  · have hup := (bI_0 _).mp c
    subst hup
    rw [if_neg (by decide)] at hq
    obtain ⟨f1, f2, f3⟩ := a6 rfl
    subst f1 f2 f3
    have s1 : zSa (fun k i j => k = 12 ∧ (j = 0 ∨ j = 3 ∨ j = 5)) h (zw (zw (zw h 12 0 0 1) 12 0 3 (-1)) 12 0 5 0) := ((zSa.rfl.w (by omega)).w (by omega)).w (by omega)
    have c0 : zi (zw (zw (zw h 12 0 0 1) 12 0 3 (-1)) 12 0 5 0) 12 0 0 = 1 := by simp [zi_zw]
    have c3 : zi (zw (zw (zw h 12 0 0 1) 12 0 3 (-1)) 12 0 5 0) 12 0 3 = -1 := by simp [zi_zw]
    have c5 : zi (zw (zw (zw h 12 0 0 1) 12 0 3 (-1)) 12 0 5 0) 12 0 5 = 0 := by simp [zi_zw]
    obtain ⟨h1, hh1⟩ : ∃ h1, h1 = zw (zw (zw h 12 0 0 1) 12 0 3 (-1)) 12 0 5 0 := ⟨_, rfl⟩
    rw [← hh1] at s1 c0 c3 c5 ⊢
    have k14 : ∀ j, zi h1 14 0 j = zi h 14 0 j := fun j => s1.1 14 0 j (by omega)
    have k13 : ∀ i j, zi h1 13 i j = zi h 13 i j := fun i j => s1.1 13 i j (by omega)
    have loop : ∀ (n p : Nat) (g : ZH), p + n = 6 → (∀ j, j < p → zi g 13 1 j = if zi h 14 0 j = 0 then -1 else zi h 13 1 j) → (∀ j, p ≤ j → zi g 13 1 j = zi h 13 1 j) → zSa (fun k i j => k = 13 ∧ i = 1 ∧ j < 6) h1 g → EvAt (d + 2) m_M_restart 26 [some (vQ (some (12, 0))), some (vI (nI p))] [] g (zQI Q) := by
      intro n
      induction n with
      | zero =>
        intro p g hp e1 e2 s
        have : p = 6 := by omega
        subst this
        refine w_M_restart_26 _ (pk_le 6 6 (fun _ => ?_) (fun z => by omega))
        have sh : zSa (fun k i j => (k = 12 ∧ (j = 0 ∨ j = 3 ∨ j = 5)) ∨ (k = 13 ∧ i = 1 ∧ j < 6)) h g := (s1.mono (fun k i j z => Or.inl z)).trans (s.mono (fun k i j z => Or.inr z))
        have mg : msp g (P.filter (fun q => q.2.2.1)) := by
          refine ⟨fun q hq => ?_, ?_, fun p hp hn => ?_⟩
          · obtain ⟨z1, z2⟩ := List.mem_filter.mp hq
            obtain ⟨y1, y2⟩ := m.1 q z1
            have z2 : q.2.2.1 = true := z2
            refine ⟨y1, y2.keptE sh.2 (fun k i j z => ?_)⟩
            by_cases e : k = 13 ∧ i = 1
            · obtain ⟨rfl, rfl⟩ := e
              have hj : j = q.1 := by
                rcases z with ⟨z, -⟩ | ⟨-, z⟩ <;> omega
              subst hj
              rw [e1 _ y1, y2.2.2.1, z2, if_neg (by decide)]
            · exact sh.1 k i j (by have := slP_12 z; omega)
          · exact List.Sublist.nodup (List.Sublist.map Prod.fst List.filter_sublist) m.2.1
          · rw [e1 p hp]
            by_cases hin : p ∈ P.map Prod.fst
            · obtain ⟨q, hq, e⟩ := List.mem_map.mp hin
              have y2 := (m.1 q hq).2
              rw [← e, y2.2.2.1]
              cases hs : q.2.2.1 with
              | false => rfl
              | true => exact absurd (List.mem_map.mpr ⟨q, List.mem_filter.mpr ⟨hq, hs⟩, e⟩) hn
            · rw [m.2.2 p hp hin]
              split <;> rfl
        refine sp_M_letters (d := d) mg ?_
        rw [filt_snd]
        refine hq _ ?_ (sh.mono (fun k i j z => by unfold PMM; omega))
        · obtain ⟨b1, b2, b3, b4, b5, b6, b7, b8⟩ := a7
          refine ⟨by rw [s.1 12 0 0 (by omega), c0]; rfl, by rw [sh.1 12 0 1 (by omega)]; exact a2, a3, by rw [sh.1 12 0 2 (by omega)]; exact a4, a5, fun z => (by cases z), ⟨by rw [s.1 12 0 3 (by omega), c3]; rfl, fun n e => (by cases e), by rw [sh.1 12 0 6 (by omega)]; exact b3, by rw [sh.1 12 0 7 (by omega)]; exact b4, by rw [sh.1 12 0 8 (by omega)]; exact b5, fun _ => lnM_nil (by rw [s.1 12 0 5 (by omega)]; exact c5), fun z => (by cases z), fun z => (by cases z)⟩, ⟨⟨_, mg, filt_snd P⟩, List.Pairwise.filter _ pw, fun l hl => lt l (List.mem_filter.mp hl).1⟩⟩
      | succ n ih =>
        intro p g hp e1 e2 s
        refine w_M_restart_26 _ (pk_le 6 p (fun z => by omega) (fun _ => ?_))
        rw [nI_clamp (by omega)]
        have go : ∀ x : Int32, x = (if zi h 14 0 p = 0 then -1 else zi h 13 1 p) → EvAt (d + 2) m_M_restart 56 [some (vQ (some (12, 0))), some (vI (nI p))] [vI x, vI (nI p), vQ (some (13, 1))] g (zQI Q) := by
          intro x hx
          refine w_M_restart_56 _ _ _ ⟨vp_in_nI (show p < 6 by omega) (by decide), ?_⟩
          rw [nI_clamp (by omega), nI_inc]
          refine ih (p + 1) _ (by omega) (fun j hj => ?_) (fun j hj => ?_) (s.w ⟨rfl, rfl, by omega⟩)
          · rw [zi_zw]
            by_cases e : j = p
            · rw [if_pos (by omega), hx, e]
            · rw [if_neg (by omega)]
              exact e1 j (by omega)
          · rw [zi_zw, if_neg (by omega)]
            exact e2 j (by omega)
        have e14 : zi g 14 0 p = zi h 14 0 p := by rw [s.1 14 0 p (by omega), k14]
        rw [e14, e2 p (Nat.le_refl _)]
        refine ⟨vp_in_nI (show p < 6 by omega) (by decide), fun c => go _ ?_, fun c => ⟨vp_in_nI (show p < 6 by omega) (by decide), go _ ?_⟩⟩
        · rw [if_pos c]
        · rw [if_neg c]
    exact loop 6 0 h1 rfl (fun j hj => by omega) (fun j _ => k13 1 j) zSa.rfl
  · have hup := bI_t c
    subst hup
    rw [if_pos rfl] at hq
    exact hq h a0 zSa.rfl
