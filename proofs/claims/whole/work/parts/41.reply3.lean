def okD (L : List ZL) (now : Nat) (b : Option (Nat × Nat)) : Prop := ∀ p, b = some p → fd0 L now p.1 = some p.2 ∧ (L.getD p.1 dL).2.1 = true
theorem okD_N {L : List ZL} {now j : Nat} {b : Option (Nat × Nat)} (hb : okD L now b) : okD L now (hnN L now j b) := by
  intro p h
  unfold hnN at h
  split at h
  · rename_i hs
    split at h
    · exact hb p h
    · rename_i r hr
      cases b with
      | none => cases h; exact ⟨hr, hs⟩
      | some b' =>
        have h : (if due2 L (j, r) < due2 L b' then some (j, r) else some b') = some p := h
        split at h
        · cases h; exact ⟨hr, hs⟩
        · exact hb p h
  · exact hb p h
theorem okD_F {L : List ZL} {now : Nat} : ∀ (n j : Nat) (b : Option (Nat × Nat)), okD L now b → okD L now (hnF L now n j b)
  | 0, _, _, hb => hb
  | n + 1, j, b, hb => okD_F n (j + 1) _ (okD_N hb)
/-- what fdF finds waits -/
def okW (rc : List ZP) (b : Option Nat) : Prop := ∀ r, b = some r → (rc.getD r dP).2.1 < 4
theorem okW_F {rc : List ZP} {now : Nat} : ∀ (n r : Nat) (b : Option Nat), okW rc b → okW rc (fdF rc now n r b)
  | 0, _, _, hb => hb
  | n + 1, r, b, hb => okW_F n (r + 1) _ (by
    intro q h
    unfold fdN at h
    split at h
    · rename_i hc
      have hw : (rc.getD r dP).2.1 < 4 := by
        unfold cand at hc
        rw [Bool.and_eq_true] at hc
        exact of_decide_eq_true hc.1
      cases b with
      | none => cases h; exact hw
      | some b' =>
        have h : (if (rc.getD r dP).2.2 < (rc.getD b' dP).2.2 then some r else some b') = some q := h
        split at h
        · cases h; exact hw
        · cases h; exact hb _ rfl
    · exact hb q h)
def rcode (x : Int32) : Bool := (!decide (x < 200) && decide (x ≤ 299)) || (!decide (x < 400) && !decide (599 < x))
theorem sp_P_isReplyCode {d : Nat} {x : Int32} {h : ZH} {Q : Int32 → ZH → Prop} (hq : Q (bI (rcode x)) h) : EvI d m_P_isReplyCode [vI x] h Q := by
  unfold rcode at hq
  have k14 : (!decide (x < 200) && decide (x ≤ 299)) = false → EvAt d m_P_isReplyCode 14 [some (vI x)] [] h (zQI Q) := by
    intro z
    rw [z, Bool.false_or] at hq
    refine w_P_isReplyCode_14 _ ⟨fun c => ?_, fun c => ⟨fun c2 => ?_, fun c2 => ?_⟩⟩
    · rw [decide_eq_true c] at hq; exact hq
    · rw [decide_eq_true c2, Bool.not_true, Bool.and_false] at hq; exact hq
    · rw [decide_eq_false c, decide_eq_false c2] at hq; exact hq
  refine e_P_isReplyCode _ ⟨fun c => k14 (by rw [decide_eq_true c]; rfl), fun c => ⟨fun c2 => ?_, fun c2 => k14 (by rw [decide_eq_false c2, Bool.and_false])⟩⟩
  rw [decide_eq_false c, decide_eq_true c2] at hq
  exact hq
def rplU (x : Int32) (now given : Nat) (wr : Option Nat) (line : ZT) (gr bg tk : Bool) (snd : ZT) (rcs : List ZT) (tx : ZT) (L : List ZL) (p : Nat × Nat) : Int32 × ZS :=
  if x < 300 then setlS now given wr line gr bg tk snd rcs tx L p.1 p.2 1
  else if x < 500 ∧ (rcp L p.1 p.2).2.1 < 3 then pstS now given wr line gr bg tk snd rcs tx L p.1 p.2
  else gbkS now given wr line gr bg tk snd rcs tx L p.1 p.2
def rplS (x : Int32) (up : Bool) (now given : Nat) (wr : Option Nat) (line : ZT) (gr bg tk : Bool) (snd : ZT) (rcs : List ZT) (tx : ZT) (L : List ZL) : Int32 × ZS :=
  if up = true ∧ rcode x = true then (match hnF L now L.length 0 none with
    | none => (-1, (up, now, given, wr, line, gr, bg, tk, snd, rcs, tx, L))
    | some p => rplU x now given wr line gr bg tk snd rcs tx L p) else (-1, (up, now, given, wr, line, gr, bg, tk, snd, rcs, tx, L))
theorem sp_P_reply {d : Nat} {x : Int32} {h : ZH} {up : Bool} {now given : Nat} {wr : Option Nat} {line : ZT} {gr bg tk : Bool} {snd : ZT} {rcs : List ZT} {tx : ZT} {L : List ZL} {Q : Int32 → ZH → Prop} (a : RC h (up, now, given, wr, line, gr, bg, tk, snd, rcs, tx, L)) (hgv : given + 1 < 2 ^ 29)
    (hq : ∀ h', RC h' (rplS x up now given wr line gr bg tk snd rcs tx L).2 → zSm PC h h' → Q (rplS x up now given wr line gr bg tk snd rcs tx L).1 h') : EvI (d + 7) m_P_reply [vQ (some (0, 0)), vI x] h Q := by
  have a0 := a
  obtain ⟨a1, a2, a3, a4, a5, ⟨π, a6⟩, a7⟩ := a
  have hL := a6.2.1
  unfold rplS at hq
  have same : zSm PC h h := ⟨fun _ _ _ _ => rfl, fun _ _ _ _ => rfl⟩
  refine e_P_reply x ⟨fun c => ?_, fun c => ?_⟩
  · have hup : up = true := by
      rw [a5, bI_0] at c
      cases up <;> simp_all
    subst hup
    rw [a1]
    refine sp_O_holderOfNext (d := d + 5) a6 (by omega) ?_
    have hok : okB L (hnF L now L.length 0 none) := okB_F L.length 0 none (by omega) (fun p e => (by cases e))
    have hod : okD L now (hnF L now L.length 0 none) := okD_F L.length 0 none (fun p e => (by cases e))
    cases hz : hnF L now L.length 0 none with
    | none =>
      rw [hz] at hq
      refine w_P_reply_25 _ none (fun i e => (by cases e)) ⟨fun _ => ?_, fun n e _ => (by cases e)⟩
      by_cases hc : rcode x = true
      · rw [if_pos ⟨rfl, hc⟩] at hq
        exact hq h a0 same
      · rw [if_neg (fun z => hc z.2)] at hq
        exact hq h a0 same
    | some p =>
      rw [hz] at hok hod hq
      obtain ⟨hp1, hp2⟩ := hok p rfl
      obtain ⟨hd1, hd2⟩ := hod p rfl
      have hqj := (a6.2.2.1 p.1 (by omega)).2
      refine w_P_reply_25 _ (some (π p.1)) (fun i e => (by cases e; exact hqj)) ⟨fun e => (by cases e), fun n e hn => ?_⟩
      cases e
      refine sp_P_isReplyCode ⟨fun c1 => ?_, fun c1 => ?_⟩
      · have hc := bI_t c1
        rw [if_pos ⟨rfl, hc⟩] at hq
        have hq : ∀ h', RC h' (rplU x now given wr line gr bg tk snd rcs tx L p).2 → zSm PC h h' → Q (rplU x now given wr line gr bg tk snd rcs tx L p).1 h' := hq
        rw [a1]
        refine sp_L_firstDue hqj (a6.2.2.2.2 p.1 hp1) (by omega) ?_
        have e0 : fdF (L.getD p.1 dL).2.2.2.1 now (L.getD p.1 dL).2.2.2.1.length 0 none = some p.2 := hd1
        rw [e0]
        refine ⟨fun e => (by cases e), fun n6 e hn6 => ?_⟩
        cases e
        have hw : (rcp L p.1 p.2).2.1 < 4 := okW_F _ _ none (fun r e => (by cases e)) p.2 e0
        have hrc := (a6.2.2.2.2 p.1 hp1).2.2.2.2.2.2.1 p.2 hp2
        have ht : zi h 9 (4 * π p.1 + p.2) 2 = nI (rcp L p.1 p.2).2.1 := by
          rcases hrc.2.1 with ⟨y1, y2, y3⟩ | ⟨y1, y2⟩ | ⟨y1, y2⟩
          · exact y3
          · have : (rcp L p.1 p.2).2.1 = 10 := y1
            omega
          · have : (rcp L p.1 p.2).2.1 = 20 := y1
            omega
        unfold rplU at hq
        refine ⟨fun c3 => ⟨fun c5 => ?_, fun c5 => ⟨fun c6 => ?_, fun c6 => ?_⟩⟩, fun c3 => ?_⟩
        · rw [if_neg (Int32.not_lt.mpr c3), if_neg (fun z => absurd z.1 (Int32.not_lt.mpr c5))] at hq
          exact sp_P_giveBack (d := d) a0 hgv a6 hp1 hp2 hq
        · rw [show zi h 9 ((fun r => 4 * π p.1 + r) p.2) 2 = nI (rcp L p.1 p.2).2.1 from ht, show (3 : Int32) = nI 3 from rfl, nI_leI (by omega) (by omega)] at c6
          rw [if_neg (Int32.not_lt.mpr c3), if_neg (fun z => by omega)] at hq
          exact sp_P_giveBack (d := d) a0 hgv a6 hp1 hp2 hq
        · rw [show zi h 9 ((fun r => 4 * π p.1 + r) p.2) 2 = nI (rcp L p.1 p.2).2.1 from ht, show (3 : Int32) = nI 3 from rfl, nI_leI (by omega) (by omega)] at c6
          rw [if_neg (Int32.not_lt.mpr c3), if_pos ⟨Int32.not_le.mp c5, by omega⟩] at hq
          exact sp_P_postpone (d := d + 5) a0 a6 hp1 hp2 (show (rcp L p.1 p.2).2.1 < 3 by omega) (fun e h' r' s' => by rw [pstS_n e] at hq; exact hq h' r' s') (fun w1 e h' r' s' => by rw [pstS_s e] at hq; exact hq h' r' s')
        · rw [if_pos (Int32.not_le.mp c3)] at hq
          exact sp_P_settleS (d := d + 5) (f := 1) a0 a6 hp1 hp2 (Or.inl rfl) hq
      · have hc := (bI_0 _).mp c1
        rw [if_neg (fun z => by rw [hc] at z; exact absurd z.2 (by decide))] at hq
        exact hq h a0 same
  · have hup : up = false := by
      rw [a5, bI_0] at c
      cases up <;> simp_all
    subst hup
    rw [if_neg (fun z => absurd z.1 (by decide))] at hq
    exact w_P_reply_25 _ none (fun i e => (by cases e)) ⟨fun _ => hq h a0 same, fun n e _ => (by cases e)⟩
