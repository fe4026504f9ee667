def rcAt (rc : List ZP) (r : Int32) : Option ZP := if r < 0 then none else rc[r.toNatClampNeg]?
theorem rcAt_some {rc : List ZP} {k : Nat} (hk : k < rc.length) (h31 : k < 2 ^ 31) : rcAt rc (nI k) = some (rc.getD k dP) := by
  unfold rcAt
  rw [if_neg (nI_pos h31), nI_clamp h31, List.getD_eq_getElem?_getD, List.getElem?_eq_getElem hk]
  rfl
theorem rcAt_none {rc : List ZP} {r : Int32} (h : ∀ k, k < rc.length → r ≠ nI k) (h31 : rc.length < 2 ^ 31) : rcAt rc r = none := by
  unfold rcAt
  split
  · rfl
  · rename_i c
    obtain ⟨k, hk, rfl⟩ := nI_of c
    rw [nI_clamp hk]
    refine List.getElem?_eq_none ?_
    rcases Nat.lt_or_ge k rc.length with z | z
    · exact absurd rfl (h k z)
    · exact z
def lget (L : List ZL) (x : Int32) : Option ZL := (lfF x 0 L).map (fun j => L.getD j dL)
def oText (L : List ZL) (x i : Int32) : Int32 := match lget L x with
  | none => 0
  | some l => rAt l.2.2.2.2 i
def oPath (L : List ZL) (x r i : Int32) : Int32 := match lget L x with
  | none => 0
  | some l => if r = -1 then rAt l.2.2.1 i else match rcAt l.2.2.2.1 r with
    | none => 0
    | some p => rAt p.1 i
def oRcp (L : List ZL) (x r : Int32) : Option ZP := match lget L x with
  | none => none
  | some l => rcAt l.2.2.2.1 r
def oRec (L : List ZL) (x r : Int32) : Int32 := match oRcp L x r with
  | none => -1
  | some p => nI p.2.1
def oDue (L : List ZL) (x r : Int32) : Int32 := match oRcp L x r with
  | none => -1
  | some p => if p.2.1 < 4 then nI p.2.2 else -1
theorem lget_of {L : List ZL} {x : Int32} {j : Nat} (h : lfF x 0 L = some j) : lget L x = some (L.getD j dL) ∧ j < L.length := by
  unfold lget
  rw [h]
  have := (lfF_lt L 0 j h).2.1
  exact ⟨rfl, by omega⟩
theorem sp_P_text {d : Nat} {x i : Int32} {h : ZH} {π : Nat → Nat} {L : List ZL} {Q : Int32 → ZH → Prop} (a : spIs h π L) (hq : Q (oText L x i) h) : EvI (d + 1) m_P_text [vQ (some (0, 0)), vI x, vI i] h Q := by
  have hL := a.2.1
  refine e_P_text _ _ (sp_O_find a ?_)
  unfold oText at hq
  cases hj : lfF x 0 L with
  | none =>
    unfold lget at hq
    rw [hj] at hq
    exact ⟨fun _ => hq, fun n e _ => by cases e⟩
  | some j =>
    obtain ⟨e1, e2⟩ := lget_of hj
    rw [e1] at hq
    refine ⟨fun e => (by cases e), fun n e hn => ?_⟩
    cases e
    have hl := a.2.2.2.2 j e2
    have hw := hl.2.2.2.2.2.2.2
    exact sp_R_at (by omega) hw ⟨zCh_narrow (rAt_ch hw.2.2.2 i), hq⟩
theorem sp_P_path {d : Nat} {x r i : Int32} {h : ZH} {π : Nat → Nat} {L : List ZL} {Q : Int32 → ZH → Prop} (a : spIs h π L) (hq : Q (oPath L x r i) h) : EvI (d + 1) m_P_path [vQ (some (0, 0)), vI x, vI r, vI i] h Q := by
  have hL := a.2.1
  refine e_P_path _ _ _ (sp_O_find a ?_)
  unfold oPath at hq
  cases hj : lfF x 0 L with
  | none =>
    unfold lget at hq
    rw [hj] at hq
    exact ⟨fun _ => hq, fun n e _ => by cases e⟩
  | some j =>
    obtain ⟨e1, e2⟩ := lget_of hj
    rw [e1] at hq
    refine ⟨fun e => (by cases e), fun n e hn => ?_⟩
    cases e
    have hl := a.2.2.2.2 j e2
    have h6 := hl.2.2.2.2.2.1
    refine ⟨fun c => ?_, fun c => ?_⟩
    · have hq : Q (if r = -1 then rAt (L.getD j dL).2.2.1 i else match rcAt (L.getD j dL).2.2.2.1 r with | none => 0 | some p => rAt p.1 i) h := hq
      rw [if_neg c] at hq
      refine sp_L_recipientAt hn hl (fun k hk e => ?_) (fun hno => ?_)
      · rw [e, rcAt_some hk (by omega)] at hq
        refine ⟨fun e => (by cases e), fun n e hn => ?_⟩
        cases e
        have hc := (hl.2.2.2.2.2.2.1 k hk).1
        exact sp_R_at (by omega) hc ⟨zCh_narrow (rAt_ch hc.2.2.2 i), hq⟩
      · rw [rcAt_none hno (by omega)] at hq
        exact ⟨fun _ => hq, fun n e _ => by cases e⟩
    · have hq : Q (if r = -1 then rAt (L.getD j dL).2.2.1 i else match rcAt (L.getD j dL).2.2.2.1 r with | none => 0 | some p => rAt p.1 i) h := hq
      rw [if_pos c] at hq
      have hw := hl.2.2.2.1
      exact sp_R_at (by omega) hw ⟨zCh_narrow (rAt_ch hw.2.2.2 i), hq⟩
theorem sp_P_findRecipient {d : Nat} {x r : Int32} {h : ZH} {π : Nat → Nat} {L : List ZL} {Q : Option Nat → ZH → Prop} (a : spIs h π L) (h0 : oRcp L x r = none → Q none h) (h1 : ∀ j k, j < L.length → k < (L.getD j dL).2.2.2.1.length → oRcp L x r = some ((L.getD j dL).2.2.2.1.getD k dP) → Q (some (4 * π j + k)) h) : EvR 9 (d + 1) m_P_findRecipient [vQ (some (0, 0)), vI x, vI r] h Q := by
  have hL := a.2.1
  refine e_P_findRecipient _ _ (sp_O_find a ?_)
  cases hj : lfF x 0 L with
  | none =>
    refine ⟨fun _ => h0 ?_, fun n e _ => by cases e⟩
    unfold oRcp lget
    rw [hj]
    rfl
  | some j =>
    obtain ⟨e1, e2⟩ := lget_of hj
    refine ⟨fun e => (by cases e), fun n e hn => ?_⟩
    cases e
    have hl := a.2.2.2.2 j e2
    have h6 := hl.2.2.2.2.2.1
    have eO : oRcp L x r = rcAt (L.getD j dL).2.2.2.1 r := by unfold oRcp; rw [e1]
    refine sp_L_recipientAt hn hl (fun k hk e => ?_) (fun hno => ?_)
    · refine h1 j k e2 hk ?_
      rw [eO, e, rcAt_some hk (by omega)]
    · refine h0 ?_
      rw [eO, rcAt_none hno (by omega)]
theorem sp_P_recipient {d : Nat} {x r : Int32} {h : ZH} {π : Nat → Nat} {L : List ZL} {Q : Int32 → ZH → Prop} (a : spIs h π L) (hq : Q (oRec L x r) h) : EvI (d + 2) m_P_recipient [vQ (some (0, 0)), vI x, vI r] h Q := by
  unfold oRec at hq
  refine e_P_recipient _ _ (sp_P_findRecipient a (fun e => ⟨fun _ => ?_, fun n e _ => by cases e⟩) (fun j k hj hk e => ⟨fun e => (by cases e), fun n e2 hn => ?_⟩))
  · rw [e] at hq
    exact hq
  · cases e2
    rw [e] at hq
    have hc := (a.2.2.2.2 j hj).2.2.2.2.2.2.1 k hk
    have hq : Q (nI ((L.getD j dL).2.2.2.1.getD k dP).2.1) h := hq
    refine ⟨fun c => ?_, fun c => ?_⟩
    · rcases hc.2.1 with ⟨b1, b2, b3⟩ | ⟨b1, b2⟩ | ⟨b1, b2⟩
      · exact absurd b2 c
      · rw [b2]; rw [b1] at hq; exact hq
      · rw [b2]; rw [b1] at hq; exact hq
    · rcases hc.2.1 with ⟨b1, b2, b3⟩ | ⟨b1, b2⟩ | ⟨b1, b2⟩
      · rw [b3]; exact hq
      · rw [b2] at c; exact absurd c (by decide)
      · rw [b2] at c; exact absurd c (by decide)
theorem sp_P_due {d : Nat} {x r : Int32} {h : ZH} {π : Nat → Nat} {L : List ZL} {Q : Int32 → ZH → Prop} (a : spIs h π L) (hq : Q (oDue L x r) h) : EvI (d + 2) m_P_due [vQ (some (0, 0)), vI x, vI r] h Q := by
  unfold oDue at hq
  refine e_P_due _ _ (sp_P_findRecipient a (fun e => ⟨fun _ => ?_, fun n e _ => by cases e⟩) (fun j k hj hk e => ⟨fun e => (by cases e), fun n e2 hn => ?_⟩))
  · rw [e] at hq
    exact hq
  · cases e2
    rw [e] at hq
    have hc := (a.2.2.2.2 j hj).2.2.2.2.2.2.1 k hk
    have hq : Q (if ((L.getD j dL).2.2.2.1.getD k dP).2.1 < 4 then nI ((L.getD j dL).2.2.2.1.getD k dP).2.2 else -1) h := hq
    refine ⟨fun c => ?_, fun c => ?_⟩
    · rw [hc.fate0] at c
      rw [if_pos c] at hq
      rw [hc.2.2.1]
      exact hq
    · rw [hc.fate0] at c
      rw [if_neg c] at hq
      exact hq
theorem sp_P_next {d : Nat} {h : ZH} {up : Bool} {now given : Nat} {wr : Option Nat} {line : ZT} {gr bg tk : Bool} {snd : ZT} {rcs : List ZT} {tx : ZT} {L : List ZL} {Q : Int32 → ZH → Prop} (a : RC h (up, now, given, wr, line, gr, bg, tk, snd, rcs, tx, L))
    (hq : Q (if up then (match hnF L now L.length 0 none with | none => -1 | some p => nI (L.getD p.1 dL).1) else -1) h) : EvI (d + 2) m_P_next [vQ (some (0, 0))] h Q := by
  obtain ⟨a1, a2, a3, a4, a5, ⟨π, a6⟩, a7⟩ := a
  refine e_P_next ⟨fun c => ?_, fun c => ?_⟩
  · rw [a5, bI_0] at c
    have hup : up = true := by cases up <;> simp_all
    rw [hup, if_pos rfl] at hq
    rw [a1]
    refine sp_O_holderOfNext a6 (by omega) ?_
    have hok : okB L (hnF L now L.length 0 none) := okB_F L.length 0 none (by omega) (fun p e => (by cases e))
    cases hz : hnF L now L.length 0 none with
    | none =>
      rw [hz] at hq
      exact w_P_next_25 none (fun i e => by cases e) ⟨fun _ => hq, fun n e _ => by cases e⟩
    | some p =>
      rw [hz] at hq hok
      have hp := (hok p rfl).1
      have hr := (a6.2.2.1 p.1 (by have := a6.2.1; omega)).2
      refine w_P_next_25 (some (π p.1)) (fun i e => by cases e; exact hr) ⟨fun e => (by cases e), fun n e _ => ?_⟩
      cases e
      rw [(a6.2.2.2.2 p.1 hp).1]
      exact hq
  · rw [a5, bI_0] at c
    have hup : up = false := by cases up <;> simp_all
    rw [hup] at hq
    exact w_P_next_25 none (fun i e => by cases e) ⟨fun _ => hq, fun n e _ => by cases e⟩
theorem sp_P_breakAfter {d : Nat} {x : Int32} {h : ZH} {up : Bool} {now given : Nat} {wr : Option Nat} {line : ZT} {gr bg tk : Bool} {snd : ZT} {rcs : List ZT} {tx : ZT} {L : List ZL} {Q : Int32 → ZH → Prop} (a : RC h (up, now, given, wr, line, gr, bg, tk, snd, rcs, tx, L))
    (h0 : (up = false ∨ x < 0 ∨ 20 < x) → Q 0 h) (h1 : ∀ n : Nat, up = true → n ≤ 20 → x = nI n → ∀ h', RC h' (up, now, given, some n, line, gr, bg, tk, snd, rcs, tx, L) → zSm PC h h' → Q 1 h') : EvI d m_P_breakAfter [vQ (some (0, 0)), vI x] h Q := by
  obtain ⟨a1, a2, a3, a4, a5, ⟨π, a6⟩, a7⟩ := a
  refine e_P_breakAfter x ⟨fun c => h0 (Or.inl ?_), fun c => ⟨fun c2 => h0 (Or.inr (Or.inl c2)), fun c2 => ⟨fun c3 => ?_, fun c3 => h0 (Or.inr (Or.inr (Int32.not_le.mp c3)))⟩⟩⟩
  · rw [a5, bI_0] at c
    cases up <;> simp_all
  · have hup : up = true := by
      rw [a5, bI_0] at c
      cases up <;> simp_all
    obtain ⟨n, hn, rfl⟩ := nI_of2 (M := 20) (n := 20) rfl c2 c3
    have s : zSame (fun k _ => k = 5) h (zw h 5 0 3 (nI n)) := zSame.w (P := fun k _ => k = 5) zSame.rfl rfl
    have n5 : ∀ j, j ≠ 3 → zi (zw h 5 0 3 (nI n)) 5 0 j = zi h 5 0 j := fun j hj => by rw [zi_zw, if_neg (by omega)]
    have nk : ∀ k i j, k ≠ 5 → zi (zw h 5 0 3 (nI n)) k i j = zi h k i j := fun k i j hk => by rw [zi_zw, if_neg (by omega)]
    refine h1 n hup hn rfl _ ⟨by rw [nk 0 0 4 (by decide)]; exact a1, a2, by rw [n5 2 (by decide)]; exact a3, a4, by rw [n5 4 (by decide)]; exact a5, ⟨π, a6.kept s (n5 1 (by decide)) (fun j hj k i z z5 => letP_ne5 (z5 ▸ z))⟩, fun hu => ?_⟩ (s.sm.mono (fun k i z => by show k < 10; omega))
    obtain ⟨b1, b2, b3, b4, b5, b6, b7, b8, b9, b10, b11⟩ := a7 hu
    have fr : ∀ r xs, rowIs h r xs → rowIs (zw h 5 0 3 (nI n)) r xs := fun r xs w => w.kept s (show ¬ 1 = 5 by decide) (show ¬ 2 = 5 by decide)
    refine ⟨by rw [zi_zw, if_pos ⟨rfl, rfl, rfl⟩]; rfl, fun m e => by cases e; exact hn, fr 0 _ b3, by rw [nk 3 0 4 (by decide)]; exact b4, by rw [nk 3 0 5 (by decide)]; exact b5, by rw [nk 3 0 6 (by decide)]; exact b6, b7, b8, fun z => ?_, fun z => by rw [nk 3 0 3 (by decide)]; exact b10 z, fun z => ?_⟩
    · obtain ⟨c1, c2, c3⟩ := b9 z
      exact ⟨by rw [nk 3 0 3 (by decide)]; exact c1, fr 1 _ c2, fun r hr => fr (2 + r) _ (c3 r hr)⟩
    · rcases b11 z with ⟨c1, c2, c3⟩ | ⟨c1, c2⟩
      · exact Or.inl ⟨by rw [nk 3 0 7 (by decide)]; exact c1, c2, fr 6 _ c3⟩
      · exact Or.inr ⟨by rw [nk 3 0 7 (by decide)]; exact c1, c2⟩
