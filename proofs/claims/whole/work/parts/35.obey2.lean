theorem sp_P_beginText {d : Nat} {h : ZH} {wr : Option Nat} {line : ZT} {gr bg : Bool} {snd : ZT} {rcs : List ZT} {tx : ZT} {Q : Int32 → ZH → Prop} (b : seC h wr line gr bg false snd rcs tx)
    (hq : ∀ h', seO h' wr line (ob4 gr bg snd rcs tx) → zSame PS h h' → Q (ob4 gr bg snd rcs tx).1 h') : EvI (d + 1) m_P_beginText [vQ (some (0, 0))] h Q := by
  have b' := b
  obtain ⟨b1, b2, b3, b4, b5, b6, b7, b8, b9, b10, b11⟩ := b
  unfold ob4 at hq
  refine e_P_beginText ⟨fun c => ?_, fun c => ⟨fun c2 => ?_, fun c2 => ?_⟩⟩
  · rw [b5, bI_0] at c
    rw [if_pos (Or.inl c)] at hq
    exact hq h b' zSame.rfl
  · rw [b5, bI_0, Bool.not_eq_false] at c
    obtain ⟨c3, c4, c5⟩ := b9 c
    have hn : rcs.length ≠ 0 := fun z => c2 (by rw [c3, z]; rfl)
    rw [if_neg (by rw [c]; rintro (z | z); cases z; exact hn z)] at hq
    refine sp_R_clear (by decide) ?_
    have s1 : zSame (fun k _ => k = 3) h (zw (zw h 3 0 6 1) 3 0 7 0) := zSame.w (P := fun k _ => k = 3) (zSame.w (P := fun k _ => k = 3) zSame.rfl rfl) rfl
    have s2 : zSame (rowP 6) (zw (zw h 3 0 6 1) 3 0 7 0) (zw (zw (zw h 3 0 6 1) 3 0 7 0) 1 6 1 0) := zSame.rfl.w ⟨Or.inl rfl, rfl⟩
    have kp : ∀ r xs, r ≠ 6 → rowIs h r xs → rowIs (zw (zw (zw h 3 0 6 1) 3 0 7 0) 1 6 1 0) r xs := fun r xs hr w => (s3_row s1 w).kept s2 (rowP_ne hr) (rowP_ne hr)
    refine hq _ ⟨?_, b2, kp 0 _ (by decide) b3, ?_, ?_, ?_, fun _ => c, b8, fun _ => ⟨?_, kp 1 _ (by decide) c4, fun r hr => kp (2 + r) _ (by have hr : r < rcs.length := hr; omega) (c5 r hr)⟩, fun z => ?_, fun _ => Or.inl ⟨?_, Nat.zero_le _, rowIs_clear _ _⟩⟩ ((s3_PS s1).trans (s2.mono (rowPS (by decide))))
    · simp [zi_zw, b1]
    · simp [zi_zw, b4]
    · simp [zi_zw, b5]
    · simp [zi_zw, bI]
    · simp [zi_zw, c3]
    · have z : bg = false := z
      rw [c] at z
      cases z
    · simp [zi_zw]
  · rw [b5, bI_0, Bool.not_eq_false] at c
    obtain ⟨c3, c4, c5⟩ := b9 c
    rw [c3, ← nI_0, nI_eq (by omega) (by omega)] at c2
    rw [if_pos (Or.inr c2)] at hq
    exact hq h b' zSame.rfl
theorem sp_S_end {d : Nat} {h : ZH} {wr : Option Nat} {line : ZT} {gr bg tk : Bool} {snd : ZT} {rcs : List ZT} {tx : ZT} {Q : ZH → Prop} (b : seC h wr line gr bg tk snd rcs tx) (hq : ∀ h', seC h' wr line gr false false snd rcs tx → zSame (fun k _ => k = 3) h h' → Q h') : EvV d m_S_endTransaction [vQ (some (3, 0))] h Q :=
  e_S_endTransaction (hq _ (seC_end b).1 (seC_end b).2)
theorem sp_P_obey {d : Nat} {h : ZH} {π : Nat → Nat} {L : List ZL} {wr : Option Nat} {line : ZT} {gr bg : Bool} {snd : ZT} {rcs : List ZT} {tx : ZT} {Q : Int32 → ZH → Prop} (a : spIs h π L) (b : seC h wr line gr bg false snd rcs tx)
    (hq : ∀ h', seO h' wr line (obF line gr bg snd rcs tx L.length) → zSame PS h h' → Q (obF line gr bg snd rcs tx L.length).1 h') : EvI (d + 7) m_P_obey [vQ (some (0, 0))] h Q := by
  unfold obF at hq
  refine e_P_obey (sp_P_commandOfLine (d := d + 1) b.2.2.1 ?_)
  cases hc : cmdOf line with
  | none =>
    rw [hc] at hq
    exact ⟨fun _ => hq h b zSame.rfl, fun n e _ => (by cases e)⟩
  | some c =>
    rw [hc] at hq
    have hq : ∀ h', seO h' wr line (if wrB line c then obC c line gr bg snd rcs tx L.length else (501, gr, bg, false, snd, rcs, tx)) → zSame PS h h' → Q (if wrB line c then obC c line gr bg snd rcs tx L.length else (501, gr, bg, false, snd, rcs, tx)).1 h' := hq
    refine ⟨fun e => (by cases e), fun n e hn => ?_⟩
    cases e
    refine sp_P_isWrittenRight hn b.2.2.1 ⟨fun c1 => ⟨vp_in_nI hn (by omega), ?_⟩, fun c1 => ?_⟩
    · rw [bI_0, Bool.not_eq_false] at c1
      rw [if_pos c1] at hq
      rw [nI_clamp (show c < 2 ^ 31 by omega)]
      have grt : ∀ hqg : (∀ h', seC h' wr line true false false snd rcs tx → zSame PS h h' → Q 250 h'), EvI (d + 6) m_P_greet [vQ (some (0, 0))] h (fun y g => Q y g) := by
        intro hqg
        refine e_P_greet (sp_S_end (seC_gr b true).1 (fun h' b' s' => hqg h' b' ?_))
        exact s3_PS ((seC_gr b true).2.trans s')
      match c, hn, c1, hq with
      | 0, _, _, hq => exact ⟨fun _ => grt hq, fun z => absurd z (by decide), fun z => absurd z (by decide), fun z => absurd z (by decide), fun z => absurd z (by decide), fun z => absurd z (by decide), fun z => absurd z (by decide), fun z => absurd rfl z.1⟩
      | 1, _, _, hq => exact ⟨fun z => absurd z (by decide), fun _ => grt hq, fun z => absurd z (by decide), fun z => absurd z (by decide), fun z => absurd z (by decide), fun z => absurd z (by decide), fun z => absurd z (by decide), fun z => absurd rfl z.2.1⟩
      | 2, _, c1, hq => exact ⟨fun z => absurd z (by decide), fun z => absurd z (by decide), fun _ => sp_P_beginTransaction (d := d + 3) a b c1 hq, fun z => absurd z (by decide), fun z => absurd z (by decide), fun z => absurd z (by decide), fun z => absurd z (by decide), fun z => absurd rfl z.2.2.1⟩
      | 3, _, c1, hq => exact ⟨fun z => absurd z (by decide), fun z => absurd z (by decide), fun z => absurd z (by decide), fun _ => sp_P_addRecipient (d := d + 3) b c1 hq, fun z => absurd z (by decide), fun z => absurd z (by decide), fun z => absurd z (by decide), fun z => absurd rfl z.2.2.2.1⟩
      | 4, _, _, hq => exact ⟨fun z => absurd z (by decide), fun z => absurd z (by decide), fun z => absurd z (by decide), fun z => absurd z (by decide), fun _ => sp_P_beginText (d := d + 5) b hq, fun z => absurd z (by decide), fun z => absurd z (by decide), fun z => absurd rfl z.2.2.2.2.1⟩
      | 5, _, _, hq => exact ⟨fun z => absurd z (by decide), fun z => absurd z (by decide), fun z => absurd z (by decide), fun z => absurd z (by decide), fun z => absurd z (by decide), fun _ => sp_S_end b (fun h' b' s' => hq h' b' (s3_PS s')), fun z => absurd z (by decide), fun z => absurd rfl z.2.2.2.2.2.1⟩
      | 6, _, _, hq => exact ⟨fun z => absurd z (by decide), fun z => absurd z (by decide), fun z => absurd z (by decide), fun z => absurd z (by decide), fun z => absurd z (by decide), fun z => absurd z (by decide), fun z => absurd z (by decide), fun _ => hq h b zSame.rfl⟩
      | 7, _, _, hq => exact ⟨fun z => absurd z (by decide), fun z => absurd z (by decide), fun z => absurd z (by decide), fun z => absurd z (by decide), fun z => absurd z (by decide), fun z => absurd z (by decide), fun _ => e_S_forget (d := d + 5) (sp_S_end (seC_gr b false).1 (fun h' b' s' => hq h' b' (s3_PS ((seC_gr b false).2.trans s')))), fun z => absurd rfl z.2.2.2.2.2.2⟩
    · rw [(bI_0 _).mp c1, if_neg (by decide)] at hq
      exact hq h b zSame.rfl
/-- the line without a dot that was added -/
def txL (line : ZT) : ZT := if line.getD 0 0 = 46 then seg line 1 line.length else seg line 0 line.length
theorem txL_len (line : ZT) : (txL line).length ≤ line.length := by
  unfold txL
  split <;> rw [seg_len (Nat.le_refl _)] <;> omega
theorem sp_S_addTextLine {d s : Nat} {h : ZH} {line tx : ZT} {Q : ZH → Prop} (hs : s ≤ 1) (hsl : s ≤ line.length) (w : rowIs h 0 line) (t : txC h tx) (hq : ∀ h', txC h' (tx ++ seg line s line.length ++ [10]) → zSame (fun k i => (k = 3 ∧ zi h' 3 0 3 = zi h 3 0 3 ∧ zi h' 3 0 4 = zi h 3 0 4 ∧ zi h' 3 0 5 = zi h 3 0 5 ∧ zi h' 3 0 6 = zi h 3 0 6) ∨ rowP 6 k i) h h' → Q h') : EvV (d + 2) m_S_addTextLine [vQ (some (3, 0)), vQ (some (1, 0)), vI (nI s)] h Q := by
  have hl : line.length ≤ 72 := w.2.1
  have hlen : (tx ++ seg line s line.length ++ [10]).length = tx.length + (line.length - s) + 1 := by
    rw [List.length_append, List.length_append, seg_len (Nat.le_refl _)]
    rfl
  have stop : ∀ g : ZH, zi g 3 0 7 = 1 → 600 < tx.length + (line.length - s) + 1 → (g = h ∨ g = zw h 3 0 7 1) → EvAt (d + 2) m_S_addTextLine 27 [some (vQ (some (3, 0))), some (vQ (some (1, 0))), some (vI (nI s))] [] g (zQV Q) := by
    intro g g7 hbig hg
    refine w_S_addTextLine_27 0 _ (by decide) ⟨fun _ => ?_, fun c => absurd (g7.symm.trans c) (by decide)⟩
    refine hq g (Or.inr ⟨g7, by rw [hlen]; exact hbig⟩) ?_
    rcases hg with rfl | rfl
    · exact zSame.rfl
    · refine zSame.rfl.w (Or.inl ⟨rfl, ?_, ?_, ?_, ?_⟩) <;> simp [zi_zw]
  refine e_S_addTextLine 0 _ (by decide) ⟨fun c => ?_, fun c => ?_⟩
  · rcases t with ⟨t1, t2, t3⟩ | ⟨t1, t2⟩
    · have t3l : tx.length ≤ 600 := t2
      rw [t3.1, w.1, nI_add, pk_sub (by omega), nI_inc] at c
      have c : tx.length + line.length - s + 1 ≤ 600 := (nI_leI (b := 600) (by omega) (by omega)).mp c
      refine w_S_addTextLine_27 0 _ (by decide) ⟨fun c2 => absurd t1 c2, fun _ => ?_⟩
      rw [w.1]
      refine sp_R_addPiece (by decide) (by decide) (by decide) t3 w (by omega) (Nat.le_refl _) (by show _ ≤ 600; omega) (fun h' w' s' => ?_)
      refine sp_R_add (by decide) w' (by
        rw [List.length_append, seg_len (Nat.le_refl _)]
        show _ < 600
        omega) ⟨10, by decide, rfl⟩ (fun h'' w'' s'' => ?_)
      have s3 : zSame (rowP 6) h h'' := s'.trans s''
      refine hq h'' (Or.inl ⟨?_, by rw [hlen]; omega, w''⟩) (s3.mono (fun k i z => Or.inr z))
      rw [s3.1 3 0 7 (by rintro ⟨z | z, -⟩ <;> omega)]
      exact t1
    · exact stop h t1 (by omega) (Or.inl rfl)
  · refine stop _ (by rw [zi_zw, if_pos ⟨rfl, rfl, rfl⟩]) ?_ (Or.inr rfl)
    rcases t with ⟨t1, t2, t3⟩ | ⟨t1, t2⟩
    · rw [t3.1, w.1, nI_add, pk_sub (by omega), nI_inc] at c
      rcases Nat.lt_or_ge 600 (tx.length + (line.length - s) + 1) with z | z
      · exact z
      · exact absurd ((nI_leI (b := 600) (by omega) (by omega)).mpr (by omega)) c
    · omega
