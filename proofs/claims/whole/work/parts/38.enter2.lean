theorem sp_P_takeTextLine {d : Nat} {h : ZH} {now given : Nat} {wr : Option Nat} {line : ZT} {gr : Bool} {snd : ZT} {rcs : List ZT} {tx : ZT} {L : List ZL} {Q : Int32 → ZH → Prop} (a : RC h (true, now, given, wr, line, gr, true, true, snd, rcs, tx, L)) (hgv : given + 1 < 2 ^ 29)
    (hq : ∀ h', RC (zw h' 1 0 1 0) (txtS now given wr line gr snd rcs tx L).2 → zSm PC h (zw h' 1 0 1 0) → Q (txtS now given wr line gr snd rcs tx L).1 h') : EvI (d + 5) m_P_takeTextLine [vQ (some (0, 0))] h Q := by
  have a0 := a
  obtain ⟨a1, a2, a3, a4, a5, ⟨π, a6⟩, a7⟩ := a
  have b := a7 rfl
  have b0 := b
  obtain ⟨b1, b2, b3, b4, b5, b6, b7, b8, b9, b10, b11⟩ := b
  have hl : line.length ≤ 72 := b3.2.1
  unfold txtS at hq
  have more : ∀ s : Nat, s ≤ 1 → s ≤ line.length → txL line = seg line s line.length → ¬ (line.getD 0 0 = 46 ∧ line.length = 1) → EvV (d + 4) m_S_addTextLine [vQ (some (3, 0)), vQ (some (1, 0)), vI (nI s)] h (fun g => Q 0 g) := by
    intro s hs hsl et hne
    rw [if_neg hne] at hq
    refine sp_S_addTextLine (d := d + 2) hs hsl b3 (b11 rfl) (fun h' t' s' => hq h' ?_ ?_)
    · rw [et]
      obtain ⟨c1, c2, c3⟩ := b9 rfl
      have fr : ∀ r xs, r < 6 → rowIs h r xs → rowIs h' r xs := fun r xs hr w => w.kept s' (by rintro (⟨z, -⟩ | z); omega; exact rowP_ne (by omega) z) (by rintro (⟨z, -⟩ | z); omega; exact rowP_ne (by omega) z)
      -- the flags are as they were
      have fl : zi h' 3 0 3 = zi h 3 0 3 ∧ zi h' 3 0 4 = zi h 3 0 4 ∧ zi h' 3 0 5 = zi h 3 0 5 ∧ zi h' 3 0 6 = zi h 3 0 6 := by
        by_cases z : zi h' 3 0 3 = zi h 3 0 3 ∧ zi h' 3 0 4 = zi h 3 0 4 ∧ zi h' 3 0 5 = zi h 3 0 5 ∧ zi h' 3 0 6 = zi h 3 0 6
        · exact z
        · have np : ¬ ((3 = 3 ∧ zi h' 3 0 3 = zi h 3 0 3 ∧ zi h' 3 0 4 = zi h 3 0 4 ∧ zi h' 3 0 5 = zi h 3 0 5 ∧ zi h' 3 0 6 = zi h 3 0 6) ∨ rowP 6 3 0) := by
            rintro (y | ⟨y | y, -⟩)
            · exact z y.2
            · omega
            · omega
          exact ⟨s'.1 3 0 3 np, s'.1 3 0 4 np, s'.1 3 0 5 np, s'.1 3 0 6 np⟩
      have s2 : zSame PS h h' := s'.mono (fun k i z => by
        rcases z with ⟨z, -⟩ | z
        · exact Or.inl z
        · exact rowPS (by decide) k i z)
      have s3 : zSame PS h' (zw h' 1 0 1 0) := (zSame.rfl (P := rowP 0)).w ⟨Or.inl rfl, rfl⟩ |>.mono (rowPS (by decide))
      refine RC_PS a0 (s2.trans s3) (fun _ => seC_line (line := line) ?_)
      · refine ⟨by rw [s'.1 5 0 3 (by rintro (⟨z, -⟩ | ⟨z | z, -⟩) <;> omega)]; exact b1, b2, fr 0 _ (by decide) b3, by rw [fl.2.1]; exact b4, by rw [fl.2.2.1]; exact b5, by rw [fl.2.2.2]; exact b6, fun _ => rfl, b8, fun _ => ⟨by rw [fl.1]; exact c1, fr 1 _ (by decide) c2, fun r hr => fr (2 + r) _ (by omega) (c3 r hr)⟩, fun z => (by cases z), fun _ => t'⟩
    · have s2 : zSame PS h h' := s'.mono (fun k i z => by
        rcases z with ⟨z, -⟩ | z
        · exact Or.inl z
        · exact rowPS (by decide) k i z)
      have s3 : zSame PS h' (zw h' 1 0 1 0) := (zSame.rfl (P := rowP 0)).w ⟨Or.inl rfl, rfl⟩ |>.mono (rowPS (by decide))
      exact PS_PC (s2.trans s3)
  refine e_P_takeTextLine (sp_R_at (by decide) b3 ?_)
  rw [← nI_0, rAt_nI (by decide)]
  refine ⟨fun c => ?_, fun c => ?_⟩
  · refine w_P_takeTextLine_18 _ ⟨fun _ => w_P_takeTextLine_39 _ ⟨fun _ => ?_, fun z => absurd nI_0 z⟩, fun z => absurd nI_0 z⟩
    exact more 0 (by omega) (by omega) (by unfold txL; rw [if_neg c]) (fun z => c z.1)
  · have h0 : 0 < line.length := by
      rcases Nat.eq_zero_or_pos line.length with z | z
      · rw [getD_ge (by omega)] at c
        exact absurd c (by decide)
      · exact z
    refine w_P_takeTextLine_18 _ ⟨fun z => absurd z (by decide), fun _ => ⟨fun c2 => ?_, fun c2 => ?_⟩⟩
    · rw [b3.1] at c2
      have hne : line.length ≠ 1 := fun z => c2 (by rw [z]; rfl)
      refine w_P_takeTextLine_39 _ ⟨fun z => absurd z (by decide), fun _ => ?_⟩
      exact more 1 (by omega) (by omega) (by unfold txL; rw [if_pos c]) (fun z => hne z.2)
    · rw [b3.1, show (1 : Int32) = nI 1 from rfl, nI_eq (by omega) (by omega)] at c2
      rw [if_pos ⟨c, c2⟩] at hq
      exact sp_P_endText (d := d) a0 hgv hq
theorem sp_P_enter {d : Nat} {h : ZH} {up : Bool} {now given : Nat} {wr : Option Nat} {line : ZT} {gr bg tk : Bool} {snd : ZT} {rcs : List ZT} {tx : ZT} {L : List ZL} {Q : Int32 → ZH → Prop} (a : RC h (up, now, given, wr, line, gr, bg, tk, snd, rcs, tx, L)) (hgv : given + 1 < 2 ^ 29)
    (hq : ∀ h', RC h' (entS up now given wr line gr bg tk snd rcs tx L).2 → zSm PC h h' → Q (entS up now given wr line gr bg tk snd rcs tx L).1 h') : EvI (d + 8) m_P_enter [vQ (some (0, 0))] h Q := by
  have a0 := a
  obtain ⟨a1, a2, a3, a4, a5, ⟨π, a6⟩, a7⟩ := a
  unfold entS at hq
  refine e_P_enter ⟨fun c => ?_, fun c => ?_⟩
  · have hup : up = true := by
      rw [a5, bI_0] at c
      cases up <;> simp_all
    subst hup
    rw [if_pos rfl] at hq
    have b := a7 rfl
    refine ⟨fun c1 => ?_, fun c1 => ?_⟩
    · rw [b.2.2.2.2.2.1, bI_0] at c1
      subst c1
      rw [if_neg (by decide)] at hq
      refine sp_P_obey a6 b (fun h' o' s' => sp_R_clear (by decide) (hq _ ?_ ?_))
      · exact RC_PS a0 (s'.trans ((zSame.rfl (P := rowP 0)).w ⟨Or.inl rfl, rfl⟩ |>.mono (rowPS (by decide)))) (fun _ => seC_line o')
      · exact PS_PC (s'.trans ((zSame.rfl (P := rowP 0)).w ⟨Or.inl rfl, rfl⟩ |>.mono (rowPS (by decide))))
    · rw [b.2.2.2.2.2.1] at c1
      have htk := bI_t c1
      subst htk
      have hbg := b.2.2.2.2.2.2.1 rfl
      subst hbg
      rw [if_pos rfl] at hq
      exact sp_P_takeTextLine (d := d + 2) a0 hgv (fun h' r' s' => sp_R_clear (by decide) (hq _ r' s'))
  · have hup : up = false := by
      rw [a5, bI_0] at c
      cases up <;> simp_all
    subst hup
    exact hq h a0 ⟨fun _ _ _ _ => rfl, fun _ _ _ _ => rfl⟩
def rstS (up : Bool) (now given : Nat) (wr : Option Nat) (line : ZT) (gr bg tk : Bool) (snd : ZT) (rcs : List ZT) (tx : ZT) (L : List ZL) : Int32 × ZS :=
  if up then (-1, (up, now, given, wr, line, gr, bg, tk, snd, rcs, tx, L)) else (nI (scF (L.filter sld)), (true, now, given, none, [], false, false, false, [], [], [], L.filter sld))
theorem sp_P_restart {d : Nat} {h : ZH} {up : Bool} {now given : Nat} {wr : Option Nat} {line : ZT} {gr bg tk : Bool} {snd : ZT} {rcs : List ZT} {tx : ZT} {L : List ZL} {Q : Int32 → ZH → Prop} (a : RC h (up, now, given, wr, line, gr, bg, tk, snd, rcs, tx, L))
    (hq : ∀ h', RC h' (rstS up now given wr line gr bg tk snd rcs tx L).2 → zSm PC h h' → Q (rstS up now given wr line gr bg tk snd rcs tx L).1 h') : EvI (d + 2) m_P_restart [vQ (some (0, 0))] h Q := by
  have a0 := a
  obtain ⟨a1, a2, a3, a4, a5, ⟨π, a6⟩, a7⟩ := a
  unfold rstS at hq
  refine e_P_restart ⟨fun c => ?_, fun c => ?_⟩
  · have hup : up = false := by
      rw [a5, bI_0] at c
      cases up <;> simp_all
    subst hup
    rw [if_neg (by decide)] at hq
    refine sp_O_recover a6 (fun g ρ p1 p2 p3 p4 p5 => ?_)
    refine e_S_forget (e_S_endTransaction (sp_R_clear (by decide) ?_))
    have s1 : zSame PS g (zw (zw (zw (zw (zw g 3 0 4 0) 3 0 5 0) 3 0 6 0) 3 0 3 0) 1 0 1 0) := ((((zSame.rfl.w (Or.inl rfl)).w (Or.inl rfl)).w (Or.inl rfl)).w (Or.inl rfl)).w (Or.inr ⟨Or.inl rfl, by decide⟩)
    have q1 : spIs (zw (zw (zw (zw (zw g 3 0 4 0) 3 0 5 0) 3 0 6 0) 3 0 3 0) 1 0 1 0) ρ (L.filter sld) := p1.kept s1 (by simp [zi_zw]) (fun j hj k i z y => by rcases letP_k z with q | q | ⟨q, q2⟩ <;> rcases y with y | ⟨y, y2⟩ <;> omega)
    refine sp_O_sealedCount q1 (hq _ ?_ ?_)
    · refine ⟨?_, a2, ?_, a4, ?_, ⟨ρ, q1⟩, fun _ => ⟨?_, fun n e => (by cases e), rowIs_clear _ _, ?_, ?_, ?_, fun z => (by cases z), Nat.zero_le _, fun z => (by cases z), fun _ => ?_, fun z => (by cases z)⟩⟩
      · simp [zi_zw, p4, a1]
      · simp [zi_zw, p4, a3]
      · simp [zi_zw, p3, bI]
      · simp [zi_zw, p2, wrE]
      · simp [zi_zw, bI]
      · simp [zi_zw, bI]
      · simp [zi_zw, bI]
      · simp [zi_zw]
    · refine zSm.trans (h' := g) ⟨fun k i j hp => p4 k i j (fun z => hp (by show k < 10; omega)), fun k i j hk => p5 k i j hk⟩ (PS_PC s1)
  · have hup : up = true := by
      rw [a5, bI_0] at c
      cases up <;> simp_all
    subst hup
    exact hq h a0 ⟨fun _ _ _ _ => rfl, fun _ _ _ _ => rfl⟩
