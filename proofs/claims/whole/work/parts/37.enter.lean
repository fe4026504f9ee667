def spoolS (now given : Nat) (wr : Option Nat) (gr : Bool) (snd : ZT) (rcs : List ZT) (tx : ZT) (L : List ZL) : Int32 × ZS := match wrN wr with
  | none => (0, dnS now (given + 1) L)
  | some w1 => match wrN w1 with
    | none => (0, dnS now (given + 1) (L ++ [(given, false, snd, mkRc rcs now, tx)]))
    | some w2 => (250, (true, now, given + 1, w2, [], gr, false, false, snd, rcs, tx, L ++ [(given, true, snd, mkRc rcs now, tx)]))
theorem spoolS_n {now given : Nat} {wr : Option Nat} {gr : Bool} {snd : ZT} {rcs : List ZT} {tx : ZT} {L : List ZL} (e : wrN wr = none) : spoolS now given wr gr snd rcs tx L = (0, dnS now (given + 1) L) := by
  unfold spoolS
  rw [e]
theorem spoolS_u {now given : Nat} {wr w1 : Option Nat} {gr : Bool} {snd : ZT} {rcs : List ZT} {tx : ZT} {L : List ZL} (e : wrN wr = some w1) (e2 : wrN w1 = none) : spoolS now given wr gr snd rcs tx L = (0, dnS now (given + 1) (L ++ [(given, false, snd, mkRc rcs now, tx)])) := by
  unfold spoolS
  rw [e]
  show (match wrN w1 with | none => _ | some w2 => _) = _
  rw [e2]
theorem spoolS_s {now given : Nat} {wr w1 w2 : Option Nat} {gr : Bool} {snd : ZT} {rcs : List ZT} {tx : ZT} {L : List ZL} (e : wrN wr = some w1) (e2 : wrN w1 = some w2) : spoolS now given wr gr snd rcs tx L = (250, (true, now, given + 1, w2, [], gr, false, false, snd, rcs, tx, L ++ [(given, true, snd, mkRc rcs now, tx)])) := by
  unfold spoolS
  rw [e]
  show (match wrN w1 with | none => _ | some w2 => _) = _
  rw [e2]
def endS (now given : Nat) (wr : Option Nat) (gr : Bool) (snd : ZT) (rcs : List ZT) (tx : ZT) (L : List ZL) : Int32 × ZS :=
  if 600 < tx.length then (552, (true, now, given, wr, [], gr, false, false, snd, rcs, tx, L))
  else if 6 ≤ L.length then (452, (true, now, given, wr, [], gr, false, false, snd, rcs, tx, L))
  else spoolS now given wr gr snd rcs tx L
def txtS (now given : Nat) (wr : Option Nat) (line : ZT) (gr : Bool) (snd : ZT) (rcs : List ZT) (tx : ZT) (L : List ZL) : Int32 × ZS :=
  if line.getD 0 0 = 46 ∧ line.length = 1 then endS now given wr gr snd rcs tx L else (0, (true, now, given, wr, [], gr, true, true, snd, rcs, tx ++ txL line ++ [10], L))
def obyS (now given : Nat) (wr : Option Nat) (line : ZT) (gr bg : Bool) (snd : ZT) (rcs : List ZT) (tx : ZT) (L : List ZL) : Int32 × ZS :=
  ((obF line gr bg snd rcs tx L.length).1, (true, now, given, wr, [], (obF line gr bg snd rcs tx L.length).2.1, (obF line gr bg snd rcs tx L.length).2.2.1, (obF line gr bg snd rcs tx L.length).2.2.2.1, (obF line gr bg snd rcs tx L.length).2.2.2.2.1, (obF line gr bg snd rcs tx L.length).2.2.2.2.2.1, (obF line gr bg snd rcs tx L.length).2.2.2.2.2.2, L))
def entS (up : Bool) (now given : Nat) (wr : Option Nat) (line : ZT) (gr bg tk : Bool) (snd : ZT) (rcs : List ZT) (tx : ZT) (L : List ZL) : Int32 × ZS :=
  if up then (if tk then txtS now given wr line gr snd rcs tx L else obyS now given wr line gr bg snd rcs tx L) else (-1, (up, now, given, wr, line, gr, bg, tk, snd, rcs, tx, L))
theorem bI_t {b : Bool} (h : ¬ bI b = 0) : b = true := by rw [bI_0, Bool.not_eq_false] at h; exact h
/-- the line is cleared: what is left of the session's meaning -/
theorem seC_line {h : ZH} {wr : Option Nat} {line : ZT} {gr bg tk : Bool} {snd : ZT} {rcs : List ZT} {tx : ZT} (b : seC h wr line gr bg tk snd rcs tx) : seC (zw h 1 0 1 0) wr [] gr bg tk snd rcs tx := by
  have s : zSame (rowP 0) h (zw h 1 0 1 0) := zSame.rfl.w ⟨Or.inl rfl, rfl⟩
  have f : ∀ k i j, k ≠ 1 → k ≠ 2 → zi (zw h 1 0 1 0) k i j = zi h k i j := fun k i j y1 y2 => s.1 k i j (by rintro ⟨z | z, -⟩ <;> omega)
  have fr : ∀ r xs, r ≠ 0 → rowIs h r xs → rowIs (zw h 1 0 1 0) r xs := fun r xs hr w => w.kept s (rowP_ne hr) (rowP_ne hr)
  have n3 : ∀ j, zi (zw h 1 0 1 0) 3 0 j = zi h 3 0 j := fun j => f 3 0 j (by decide) (by decide)
  obtain ⟨b1, b2, b3, b4, b5, b6, b7, b8, b9, b10, b11⟩ := b
  refine ⟨by rw [f 5 0 3 (by decide) (by decide)]; exact b1, b2, rowIs_clear _ _, by rw [n3]; exact b4, by rw [n3]; exact b5, by rw [n3]; exact b6, b7, b8, fun z => ?_, fun z => by rw [n3]; exact b10 z, fun z => ?_⟩
  · obtain ⟨c1, c2, c3⟩ := b9 z
    exact ⟨by rw [n3]; exact c1, fr 1 _ (by decide) c2, fun r hr => fr (2 + r) _ (by omega) (c3 r hr)⟩
  · rcases b11 z with ⟨c1, c2, c3⟩ | ⟨c1, c2⟩
    · exact Or.inl ⟨by rw [n3]; exact c1, c2, fr 6 _ (by decide) c3⟩
    · exact Or.inr ⟨by rw [n3]; exact c1, c2⟩
theorem letP_k {q k i : Nat} (z : letP q k i) : k = 7 ∨ k = 9 ∨ ((k = 1 ∨ k = 2) ∧ 7 ≤ i) := by
  rcases z with ⟨y, -⟩ | ⟨y, -⟩ | ⟨y, y2⟩
  · exact Or.inl y
  · exact Or.inr (Or.inl y)
  · exact Or.inr (Or.inr ⟨y, by omega⟩)
/-- a change in the session's part alone -/
theorem RC_PS {h h' : ZH} {up : Bool} {now given : Nat} {wr wr' : Option Nat} {line line' : ZT} {gr bg tk gr' bg' tk' : Bool} {snd snd' : ZT} {rcs rcs' : List ZT} {tx tx' : ZT} {L : List ZL} (a : RC h (up, now, given, wr, line, gr, bg, tk, snd, rcs, tx, L)) (s : zSame PS h h') (b : up = true → seC h' wr' line' gr' bg' tk' snd' rcs' tx') : RC h' (up, now, given, wr', line', gr', bg', tk', snd', rcs', tx', L) := by
  obtain ⟨a1, a2, a3, a4, a5, ⟨π, a6⟩, a7⟩ := a
  have f : ∀ k i j, k = 0 ∨ k = 5 → zi h' k i j = zi h k i j := fun k i j hk => s.1 k i j (by rintro (z | ⟨z, -⟩) <;> omega)
  refine ⟨by rw [f 0 0 4 (Or.inl rfl)]; exact a1, a2, by rw [f 5 0 2 (Or.inr rfl)]; exact a3, a4, by rw [f 5 0 4 (Or.inr rfl)]; exact a5, ⟨π, a6.kept s (f 5 0 1 (Or.inr rfl)) (fun j hj k i z y => ?_)⟩, b⟩
  rcases letP_k z with q | q | ⟨q, q2⟩ <;> rcases y with y | ⟨y, y2⟩ <;> omega
theorem PS_PC {h h' : ZH} (s : zSame PS h h') : zSm PC h h' := s.sm.mono (fun k i z => by rcases z with z | ⟨z, -⟩ <;> (show k < 10; omega))
theorem PB_PC {h h' : ZH} {q : Nat} (s : zSame (PB q) h h') : zSm PC h h' := s.sm.mono (fun k i z => by
  show k < 10
  rcases z with z | z
  · omega
  · rcases letP_k z with y | y | ⟨y, -⟩ <;> omega)
/-- what a spooling leaves of the session -/
theorem PB_se {h h' : ZH} {q : Nat} {wr w' : Option Nat} {line : ZT} {gr bg tk : Bool} {snd : ZT} {rcs : List ZT} {tx : ZT} (b : seC h wr line gr bg tk snd rcs tx) (s : zSame (PB q) h h') (hw : zi h' 5 0 3 = wrE w') (hb : ∀ n, w' = some n → n ≤ 20) : seC h' w' line gr bg tk snd rcs tx := by
  have fr : ∀ r xs, r < 7 → rowIs h r xs → rowIs h' r xs := fun r xs hr ww => ww.kept s (letP_low (Or.inl rfl) hr) (letP_low (Or.inr rfl) hr)
  have n3 : ∀ j, zi h' 3 0 j = zi h 3 0 j := fun j => s.1 3 0 j (by rintro (z | ⟨z, -⟩ | ⟨z, -⟩ | ⟨z | z, -⟩) <;> omega)
  obtain ⟨b1, b2, b3, b4, b5, b6, b7, b8, b9, b10, b11⟩ := b
  refine ⟨hw, hb, fr 0 _ (by decide) b3, by rw [n3]; exact b4, by rw [n3]; exact b5, by rw [n3]; exact b6, b7, b8, fun z => ?_, fun z => by rw [n3]; exact b10 z, fun z => ?_⟩
  · obtain ⟨c1, c2, c3⟩ := b9 z
    exact ⟨by rw [n3]; exact c1, fr 1 _ (by decide) c2, fun r hr => fr (2 + r) _ (by omega) (c3 r hr)⟩
  · rcases b11 z with ⟨c1, c2, c3⟩ | ⟨c1, c2⟩
    · exact Or.inl ⟨by rw [n3]; exact c1, c2, fr 6 _ (by decide) c3⟩
    · exact Or.inr ⟨by rw [n3]; exact c1, c2⟩
theorem wrN_20 {w w1 : Option Nat} (hb : ∀ n, w = some n → n ≤ 20) (e : wrN w = some w1) : ∀ n, w1 = some n → n ≤ 20 := by
  intro n hn
  match w, hb, e with
  | none, _, e => cases e; cases hn
  | some (m + 1), hb, e =>
    have hm := hb (m + 1) rfl
    have e : some m = w1 := Option.some.inj e
    rw [hn] at e
    have := Option.some.inj e
    omega
theorem sp_P_endText {d : Nat} {h : ZH} {now given : Nat} {wr : Option Nat} {line : ZT} {gr : Bool} {snd : ZT} {rcs : List ZT} {tx : ZT} {L : List ZL} {Q : Int32 → ZH → Prop} (a : RC h (true, now, given, wr, line, gr, true, true, snd, rcs, tx, L)) (hgv : given + 1 < 2 ^ 29)
    (hq : ∀ h', RC (zw h' 1 0 1 0) (endS now given wr gr snd rcs tx L).2 → zSm PC h (zw h' 1 0 1 0) → Q (endS now given wr gr snd rcs tx L).1 h') : EvI (d + 4) m_P_endText [vQ (some (0, 0))] h Q := by
  have a0 := a
  obtain ⟨a1, a2, a3, a4, a5, ⟨π, a6⟩, a7⟩ := a
  have b := a7 rfl
  have b0 := b
  obtain ⟨b1, b2, b3, b4, b5, b6, b7, b8, b9, b10, b11⟩ := b
  obtain ⟨c1, c2, c3⟩ := b9 rfl
  have l0 : ∀ g : ZH, zSame PS g (zw g 1 0 1 0) := fun g => (zSame.rfl (P := rowP 0)).w ⟨Or.inl rfl, rfl⟩ |>.mono (rowPS (by decide))
  -- the session's end without a change in the spool
  have fin : ∀ (r : Int32) (hqr : ∀ h', RC (zw h' 1 0 1 0) (true, now, given, wr, [], gr, false, false, snd, rcs, tx, L) → zSm PC h (zw h' 1 0 1 0) → Q r h'), EvV (d + 3) m_S_endTransaction [vQ (some (3, 0))] h (fun g => Q r g) := by
    intro r hqr
    refine sp_S_end b0 (fun h' b' s' => hqr h' ?_ ?_)
    · exact RC_PS a0 ((s3_PS s').trans (l0 h')) (fun _ => seC_line b')
    · exact PS_PC ((s3_PS s').trans (l0 h'))
  unfold endS at hq
  refine e_P_endText ⟨fun c => ?_, fun c => ?_⟩
  · rcases b11 rfl with ⟨t1, t2, t3⟩ | ⟨t1, t2⟩
    · rw [if_neg (by omega)] at hq
      refine sp_O_isFull a6 ⟨fun c5 => ?_, fun c5 => ?_⟩
      · have hL : ¬ 6 ≤ L.length := of_decide_eq_false ((bI_0 _).mp c5)
        rw [if_neg hL] at hq
        have hb30 : ∀ n, wr = some n → n < 2 ^ 30 := fun n e => by have := b2 n e; omega
        refine sp_P_spoolSession (d := d) a6 (by omega) a1 (by omega) a3 (by omega) b1 hb30 c1 b8 c2 c3 t3 t2 (fun e1 => ?_) (fun w1 e1 e2 h' p1 p2 p3 p4 => ?_) (fun w1 w2 e1 e2 h' p1 p2 p3 p4 p5 => ?_)
        · rw [spoolS_n e1] at hq
          have s1 : zSame (fun k _ => k = 5) h (zw (zw h 5 0 2 (nI (given + 1))) 5 0 4 1) := zSame.w (P := fun k _ => k = 5) (zSame.w (P := fun k _ => k = 5) zSame.rfl rfl) rfl
          refine e_S_endTransaction (hq _ ?_ ?_)
          · refine ⟨?_, a2, ?_, by omega, ?_, ⟨π, ?_⟩, fun z => (by cases z)⟩
            · simp [zi_zw, a1]
            · simp [zi_zw]
            · simp [zi_zw, bI]
            · refine a6.kept (P := fun k i => k = 5 ∨ PS k i) ((((((zSame.rfl.w (Or.inl rfl)).w (Or.inl rfl)).w (Or.inr (Or.inl rfl))).w (Or.inr (Or.inl rfl))).w (Or.inr (Or.inl rfl))).w (Or.inr (Or.inr ⟨Or.inl rfl, by decide⟩))) (by simp [zi_zw]) (fun j hj k i z y => ?_)
              rcases letP_k z with q | q | ⟨q, q2⟩ <;> rcases y with y | y | ⟨y, y2⟩ <;> omega
          · refine zSame.sm (((((((zSame.rfl.w ?_).w ?_).w ?_).w ?_).w ?_).w ?_)) <;> (show _ < 10; decide)
        · rw [spoolS_u e1 e2] at hq
          have s3 : zSame PS h' (zw (zw (zw (zw h' 3 0 5 0) 3 0 6 0) 3 0 3 0) 1 0 1 0) := (((zSame.rfl.w (Or.inl rfl)).w (Or.inl rfl)).w (Or.inl rfl)).w (Or.inr ⟨Or.inl rfl, by decide⟩)
          refine e_S_endTransaction (hq _ ?_ ((PB_PC p4).trans (PS_PC s3)))
          have g0 : zi h' 0 0 4 = nI now := by rw [p4.1 0 0 4 (by rintro (z | ⟨z, -⟩ | ⟨z, -⟩ | ⟨z | z, -⟩) <;> omega)]; exact a1
          refine ⟨?_, a2, ?_, by omega, ?_, ⟨π, p1.kept s3 (by simp [zi_zw]) (fun j hj k i z y => ?_)⟩, fun z => (by cases z)⟩
          · simp [zi_zw, g0]
          · simp [zi_zw, p2]
          · simp [zi_zw, p3, bI]
          · rcases letP_k z with q | q | ⟨q, q2⟩ <;> rcases y with y | ⟨y, y2⟩ <;> omega
        · rw [spoolS_s e1 e2] at hq
          have bb := PB_se b0 p5 p3 (wrN_20 (wrN_20 b2 e1) e2)
          have g0 : zi h' 0 0 4 = nI now := by rw [p5.1 0 0 4 (by rintro (z | ⟨z, -⟩ | ⟨z, -⟩ | ⟨z | z, -⟩) <;> omega)]; exact a1
          have R1 : RC h' (true, now, given + 1, w2, line, gr, true, true, snd, rcs, tx, L ++ [(given, true, snd, mkRc rcs now, tx)]) := ⟨g0, a2, p2, by omega, by rw [p4]; exact a5, ⟨π, p1⟩, fun _ => bb⟩
          refine sp_S_end bb (fun h'' b' s' => hq h'' ?_ ?_)
          · exact RC_PS R1 ((s3_PS s').trans (l0 h'')) (fun _ => seC_line b')
          · exact (PB_PC p5).trans (PS_PC ((s3_PS s').trans (l0 h'')))
      · rw [if_pos (of_decide_eq_true (bI_t c5))] at hq
        exact fin _ hq
    · rw [t1] at c
      exact absurd c (by decide)
  · rcases b11 rfl with ⟨t1, t2, t3⟩ | ⟨t1, t2⟩
    · exact absurd t1 c
    · rw [if_pos t2] at hq
      exact fin _ hq
