abbrev ZO : Type := Int32 × Bool × Bool × Bool × ZT × List ZT × ZT
def ob2 (line : ZT) (gr bg : Bool) (snd : ZT) (rcs : List ZT) (tx : ZT) (n : Nat) : ZO := if gr = false ∨ bg = true then (503, gr, bg, false, snd, rcs, tx) else if 6 ≤ n then (452, gr, bg, false, snd, rcs, tx) else (250, gr, true, false, seg line 11 (line.length - 1), [], tx)
def ob3 (line : ZT) (gr bg : Bool) (snd : ZT) (rcs : List ZT) (tx : ZT) : ZO := if bg = false then (503, gr, bg, false, snd, rcs, tx) else if 4 ≤ rcs.length then (452, gr, bg, false, snd, rcs, tx) else (250, gr, bg, false, snd, rcs ++ [seg line 9 (line.length - 1)], tx)
def ob4 (gr bg : Bool) (snd : ZT) (rcs : List ZT) (tx : ZT) : ZO := if bg = false ∨ rcs.length = 0 then (503, gr, bg, false, snd, rcs, tx) else (354, gr, bg, true, snd, rcs, [])
/-- what a right command does: answer, greeted, begun, taking, sender, recipients, text -/
def obC (c : Nat) (line : ZT) (gr bg : Bool) (snd : ZT) (rcs : List ZT) (tx : ZT) (n : Nat) : ZO := match c with
  | 0 => (250, true, false, false, snd, rcs, tx)
  | 1 => (250, true, false, false, snd, rcs, tx)
  | 2 => ob2 line gr bg snd rcs tx n
  | 3 => ob3 line gr bg snd rcs tx
  | 4 => ob4 gr bg snd rcs tx
  | 5 => (250, gr, false, false, snd, rcs, tx)
  | 6 => (250, gr, bg, false, snd, rcs, tx)
  | _ => (221, false, false, false, snd, rcs, tx)
def obF (line : ZT) (gr bg : Bool) (snd : ZT) (rcs : List ZT) (tx : ZT) (n : Nat) : ZO := match cmdOf line with
  | none => (500, gr, bg, false, snd, rcs, tx)
  | some c => if wrB line c then obC c line gr bg snd rcs tx n else (501, gr, bg, false, snd, rcs, tx)
def PS : Nat → Nat → Prop := fun k i => k = 3 ∨ ((k = 1 ∨ k = 2) ∧ i < 7)
/-- the class's session after o -/
def seO (h : ZH) (wr : Option Nat) (line : ZT) (o : ZO) : Prop := seC h wr line o.2.1 o.2.2.1 o.2.2.2.1 o.2.2.2.2.1 o.2.2.2.2.2.1 o.2.2.2.2.2.2
theorem s3_row {h h' : ZH} (s : zSame (fun k _ => k = 3) h h') {r : Nat} {xs : ZT} (w : rowIs h r xs) : rowIs h' r xs := w.kept s (show ¬ 1 = 3 by decide) (show ¬ 2 = 3 by decide)
theorem s3_PS {h h' : ZH} (s : zSame (fun k _ => k = 3) h h') : zSame PS h h' := s.mono (fun k i z => Or.inl z)
theorem seC_end {h : ZH} {wr : Option Nat} {line : ZT} {gr bg tk : Bool} {snd : ZT} {rcs : List ZT} {tx : ZT} (b : seC h wr line gr bg tk snd rcs tx) : seC (zw (zw (zw h 3 0 5 0) 3 0 6 0) 3 0 3 0) wr line gr false false snd rcs tx ∧ zSame (fun k _ => k = 3) h (zw (zw (zw h 3 0 5 0) 3 0 6 0) 3 0 3 0) := by
  have s : zSame (fun k _ => k = 3) h (zw (zw (zw h 3 0 5 0) 3 0 6 0) 3 0 3 0) := zSame.w (P := fun k _ => k = 3) (zSame.w (P := fun k _ => k = 3) (zSame.w (P := fun k _ => k = 3) zSame.rfl rfl) rfl) rfl
  obtain ⟨b1, b2, b3, b4, b5, b6, b7, b8, b9, b10, b11⟩ := b
  refine ⟨⟨by rw [s.1 5 0 3 (show ¬ 5 = 3 by decide)]; exact b1, b2, s3_row s b3, ?_, ?_, ?_, fun z => (by cases z), b8, fun z => (by cases z), fun _ => ?_, fun z => (by cases z)⟩, s⟩
  · simp [zi_zw, b4]
  · simp [zi_zw, bI]
  · simp [zi_zw, bI]
  · simp [zi_zw]
theorem seC_gr {h : ZH} {wr : Option Nat} {line : ZT} {gr bg tk : Bool} {snd : ZT} {rcs : List ZT} {tx : ZT} (b : seC h wr line gr bg tk snd rcs tx) (g : Bool) : seC (zw h 3 0 4 (bI g)) wr line g bg tk snd rcs tx ∧ zSame (fun k _ => k = 3) h (zw h 3 0 4 (bI g)) := by
  have s : zSame (fun k _ => k = 3) h (zw h 3 0 4 (bI g)) := zSame.w (P := fun k _ => k = 3) zSame.rfl rfl
  obtain ⟨b1, b2, b3, b4, b5, b6, b7, b8, b9, b10, b11⟩ := b
  have n3 : ∀ j, j ≠ 4 → zi (zw h 3 0 4 (bI g)) 3 0 j = zi h 3 0 j := fun j hj => by rw [zi_zw, if_neg (by omega)]
  refine ⟨⟨by rw [s.1 5 0 3 (show ¬ 5 = 3 by decide)]; exact b1, b2, s3_row s b3, by rw [zi_zw, if_pos ⟨rfl, rfl, rfl⟩], by rw [n3 5 (by decide)]; exact b5, by rw [n3 6 (by decide)]; exact b6, b7, b8, fun z => ?_, fun z => by rw [n3 3 (by decide)]; exact b10 z, fun z => ?_⟩, s⟩
  · obtain ⟨c1, c2, c3⟩ := b9 z
    exact ⟨by rw [n3 3 (by decide)]; exact c1, s3_row s c2, fun r hr => s3_row s (c3 r hr)⟩
  · rcases b11 z with ⟨c1, c2, c3⟩ | ⟨c1, c2⟩
    · exact Or.inl ⟨by rw [n3 7 (by decide)]; exact c1, c2, s3_row s c3⟩
    · exact Or.inr ⟨by rw [n3 7 (by decide)]; exact c1, c2⟩
theorem rowPS {r : Nat} (hr : r < 7) : ∀ k i, rowP r k i → PS k i := fun k i z => Or.inr ⟨z.1, by rw [z.2]; exact hr⟩
theorem zcap_s {r : Nat} (h0 : 0 < r) (h6 : r < 6) : zcap r = 40 := by
  unfold zcap
  rw [if_neg (by omega), if_neg (by omega), if_neg (by omega)]
theorem pathB_len {line : ZT} {a b : Nat} (h : pathB line a b = true) : b ≤ a + 40 := by
  unfold pathB at h
  rw [Bool.and_eq_true] at h
  exact of_decide_eq_true h.1
theorem sp_P_beginTransaction {d : Nat} {h : ZH} {π : Nat → Nat} {L : List ZL} {wr : Option Nat} {line : ZT} {gr bg : Bool} {snd : ZT} {rcs : List ZT} {tx : ZT} {Q : Int32 → ZH → Prop} (a : spIs h π L) (b : seC h wr line gr bg false snd rcs tx) (hw : wrB line 2 = true)
    (hq : ∀ h', seO h' wr line (ob2 line gr bg snd rcs tx L.length) → zSame PS h h' → Q (ob2 line gr bg snd rcs tx L.length).1 h') : EvI (d + 3) m_P_beginTransaction [vQ (some (0, 0))] h Q := by
  have b' := b
  obtain ⟨b1, b2, b3, b4, b5, b6, b7, b8, b9, b10, b11⟩ := b
  have hl : line.length ≤ 72 := b3.2.1
  unfold ob2 at hq
  have hw2 : brkB line 8 = true ∧ (11 = line.length - 1 ∨ pathB line 11 (line.length - 1) = true) := by
    have hw : (brkB line 8 && (decide (11 = line.length - 1) || pathB line 11 (line.length - 1))) = true := hw
    rw [Bool.and_eq_true, Bool.or_eq_true] at hw
    exact ⟨hw.1, hw.2.imp of_decide_eq_true id⟩
  have h11 : 11 ≤ line.length := brkB_len hw2.1
  have h51 : line.length - 1 ≤ 11 + 40 := by
    rcases hw2.2 with z | z
    · omega
    · exact pathB_len z
  refine e_P_beginTransaction ⟨fun c => ?_, fun c => ⟨fun c2 => ?_, fun c2 => ?_⟩⟩
  · rw [b4, bI_0] at c
    rw [if_pos (Or.inl c)] at hq
    exact hq h b' zSame.rfl
  · rw [b4, bI_0, Bool.not_eq_false] at c
    rw [b5, bI_0] at c2
    rw [if_neg (by rw [c, c2]; decide)] at hq
    refine sp_O_isFull a ⟨fun c3 => ?_, fun c3 => ?_⟩
    · have hn : ¬ 6 ≤ L.length := of_decide_eq_false ((bI_0 _).mp c3)
      rw [if_neg hn] at hq
      refine sp_R_clear (by decide) (sp_P_bracketStart (d := d) (j := 8) (by decide) ?_)
      have s1 : zSame (fun k _ => k = 3) h (zw h 3 0 5 1) := zSame.w (P := fun k _ => k = 3) zSame.rfl rfl
      have s2 : zSame (rowP 1) (zw h 3 0 5 1) (zw (zw h 3 0 5 1) 1 1 1 0) := zSame.rfl.w ⟨Or.inl rfl, rfl⟩
      have w0 : rowIs (zw (zw h 3 0 5 1) 1 1 1 0) 0 line := (s3_row s1 b3).kept s2 (rowP_ne (by decide)) (rowP_ne (by decide))
      rw [w0.1, nI_m1 (by omega)]
      refine sp_R_addPiece (d := d + 1) (a := 11) (by decide) (by decide) (by decide) (rowIs_clear _ _) w0 (by decide) (by omega) (by
        rw [zcap_s (by decide) (by decide)]
        show 0 + _ ≤ 40
        omega) (fun h' w1 s3 => ?_)
      have s4 : zSame PS h h' := ((s3_PS s1).trans (s2.mono (rowPS (by decide)))).trans (s3.mono (rowPS (by decide)))
      have f : ∀ k i j, k ≠ 1 → k ≠ 2 → zi h' k i j = zi (zw h 3 0 5 1) k i j := fun k i j y1 y2 => (s3.1 k i j (by rintro ⟨z | z, -⟩ <;> omega)).trans (s2.1 k i j (by rintro ⟨z | z, -⟩ <;> omega))
      refine hq h' ⟨?_, b2, w0.kept s3 (rowP_ne (by decide)) (rowP_ne (by decide)), ?_, ?_, ?_, fun z => (by cases z), Nat.zero_le _, fun _ => ⟨?_, w1, fun r hr => absurd hr (Nat.not_lt_zero _)⟩, fun z => (by cases z), fun z => (by cases z)⟩ s4
      · rw [f 5 0 3 (by decide) (by decide), zi_zw, if_neg (by omega)]; exact b1
      · rw [f 3 0 4 (by decide) (by decide), zi_zw, if_neg (by omega)]; exact b4
      · rw [f 3 0 5 (by decide) (by decide), zi_zw, if_pos ⟨rfl, rfl, rfl⟩]; rfl
      · rw [f 3 0 6 (by decide) (by decide), zi_zw, if_neg (by omega)]; exact b6
      · rw [f 3 0 3 (by decide) (by decide), zi_zw, if_neg (by omega)]
        exact (b10 c2).trans nI_0.symm
    · rw [bI_0, Bool.not_eq_false] at c3
      rw [if_pos (of_decide_eq_true c3)] at hq
      exact hq h b' zSame.rfl
  · rw [b5, bI_0, Bool.not_eq_false] at c2
    rw [if_pos (Or.inr c2)] at hq
    exact hq h b' zSame.rfl
theorem sp_P_addRecipient {d : Nat} {h : ZH} {wr : Option Nat} {line : ZT} {gr bg : Bool} {snd : ZT} {rcs : List ZT} {tx : ZT} {Q : Int32 → ZH → Prop} (b : seC h wr line gr bg false snd rcs tx) (hw : wrB line 3 = true)
    (hq : ∀ h', seO h' wr line (ob3 line gr bg snd rcs tx) → zSame PS h h' → Q (ob3 line gr bg snd rcs tx).1 h') : EvI (d + 3) m_P_addRecipient [vQ (some (0, 0))] h Q := by
  have b' := b
  obtain ⟨b1, b2, b3, b4, b5, b6, b7, b8, b9, b10, b11⟩ := b
  have hl : line.length ≤ 72 := b3.2.1
  unfold ob3 at hq
  have hw2 : brkB line 9 = true ∧ pathB line 9 (line.length - 1) = true := by
    have hw : (brkB line 9 && pathB line 9 (line.length - 1)) = true := hw
    rw [Bool.and_eq_true] at hw
    exact hw
  have h9 : 9 ≤ line.length := brkB_len hw2.1
  have h49 := pathB_len hw2.2
  refine e_P_addRecipient ⟨fun c => ?_, fun c => ?_⟩
  · rw [b5, bI_0, Bool.not_eq_false] at c
    rw [if_neg (by rw [c]; decide)] at hq
    obtain ⟨c1, c2, c3⟩ := b9 c
    rw [c1]
    refine ⟨fun c4 => ?_, fun c4 => ?_⟩
    · have hlt : rcs.length < 4 := (nI_ltI (b := 4) (by omega) (by omega)).mp c4
      rw [if_neg (by omega)] at hq
      rw [nI_clamp (show rcs.length < 2 ^ 31 by omega)]
      refine ⟨vp_in_nI hlt (by omega), ?_⟩
      refine sp_R_clear (by omega) (sp_P_bracketStart (d := d) (j := 9) (by decide) ?_)
      have s2 : zSame (rowP (2 + rcs.length)) h (zw h 1 (2 + rcs.length) 1 0) := zSame.rfl.w ⟨Or.inl rfl, rfl⟩
      have w0 : rowIs (zw h 1 (2 + rcs.length) 1 0) 0 line := b3.kept s2 (rowP_ne (by omega)) (rowP_ne (by omega))
      rw [w0.1, nI_m1 (by omega)]
      refine sp_R_addPiece (d := d + 1) (a := 9) (by omega) (by decide) (by omega) (rowIs_clear _ _) w0 (by decide) (by omega) (by
        rw [zcap_s (by omega) (by omega)]
        show 0 + _ ≤ 40
        omega) (fun h' w1 s3 => ?_)
      have f : ∀ k i j, k ≠ 1 → k ≠ 2 → zi h' k i j = zi h k i j := fun k i j y1 y2 => (s3.1 k i j (by rintro ⟨z | z, -⟩ <;> omega)).trans (s2.1 k i j (by rintro ⟨z | z, -⟩ <;> omega))
      rw [f 3 0 3 (by decide) (by decide), c1, nI_inc]
      have s5 : zSame (fun k _ => k = 3) h' (zw h' 3 0 3 (nI (rcs.length + 1))) := zSame.w (P := fun k _ => k = 3) zSame.rfl rfl
      have s4 : zSame PS h (zw h' 3 0 3 (nI (rcs.length + 1))) := ((s2.mono (rowPS (by omega))).trans (s3.mono (rowPS (by omega)))).trans (s3_PS s5)
      have kp : ∀ r xs, r ≠ 2 + rcs.length → rowIs h r xs → rowIs (zw h' 3 0 3 (nI (rcs.length + 1))) r xs := fun r xs hr w => s3_row s5 ((w.kept s2 (rowP_ne hr) (rowP_ne hr)).kept s3 (rowP_ne hr) (rowP_ne hr))
      have g3 : ∀ j, j ≠ 3 → zi (zw h' 3 0 3 (nI (rcs.length + 1))) 3 0 j = zi h 3 0 j := fun j hj => by rw [zi_zw, if_neg (by omega), f 3 0 j (by decide) (by decide)]
      refine hq _ ⟨?_, b2, kp 0 _ (by omega) b3, by rw [g3 4 (by decide)]; exact b4, by rw [g3 5 (by decide)]; exact b5, by rw [g3 6 (by decide)]; exact b6, fun z => (by cases z), ?_, fun _ => ⟨?_, kp 1 _ (by omega) c2, fun r hr => ?_⟩, fun z => ?_, fun z => (by cases z)⟩ s4
      · rw [zi_zw, if_neg (by omega), f 5 0 3 (by decide) (by decide)]; exact b1
      · show (rcs ++ [_]).length ≤ 4
        rw [List.length_append]
        show rcs.length + 1 ≤ 4
        omega
      · rw [zi_zw, if_pos ⟨rfl, rfl, rfl⟩]
        show _ = nI (rcs ++ [_]).length
        rw [List.length_append]
        rfl
      · have hr : r < (rcs ++ [seg line 9 (line.length - 1)]).length := hr
        rw [List.length_append] at hr
        have hr : r < rcs.length + 1 := hr
        show rowIs _ (2 + r) ((rcs ++ [seg line 9 (line.length - 1)]).getD r [])
        by_cases e : r = rcs.length
        · subst e
          rw [getD_appG2]
          exact s3_row s5 w1
        · rw [getD_appG1 (by omega)]
          exact kp (2 + r) _ (by omega) (c3 r (by omega))
      · have z : bg = false := z
        rw [c] at z
        cases z
    · have h4 : 4 ≤ rcs.length := by
        rcases Nat.lt_or_ge rcs.length 4 with z | z
        · exact absurd ((nI_ltI (b := 4) (by omega) (by omega)).mpr z) c4
        · exact z
      rw [if_pos h4] at hq
      exact hq h b' zSame.rfl
  · rw [b5, bI_0] at c
    rw [if_pos c] at hq
    exact hq h b' zSame.rfl
