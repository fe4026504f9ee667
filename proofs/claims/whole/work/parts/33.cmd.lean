/-! the command in a line -/
def cmdF (line : ZT) : Nat → Nat → Option Nat
  | 0, _ => none
  | n + 1, i => if mtB line 0 (zS i) then some i else cmdF line n (i + 1)
def cmdOf (line : ZT) : Option Nat := if 4 < line.length ∧ line.getD 4 0 ≠ 32 then none else cmdF line 8 0
theorem cmdF_lt {line : ZT} : ∀ (n i c : Nat), cmdF line n i = some c → i ≤ c ∧ c < i + n
  | 0, i, c, h => by cases h
  | n + 1, i, c, h => by
    rw [cmdF] at h
    split at h
    · cases h; omega
    · have := cmdF_lt n (i + 1) c h
      omega
theorem cmdOf_lt {line : ZT} {c : Nat} (h : cmdOf line = some c) : c < 8 := by
  unfold cmdOf at h
  split at h
  · cases h
  · have := cmdF_lt 8 0 c h
    omega
theorem sp_P_commandOfLine {d : Nat} {h : ZH} {line : ZT} {Q : Option Nat → ZH → Prop} (w : rowIs h 0 line) (hq : Q (cmdOf line) h) : EvR 20 (d + 5) m_P_commandOfLine [vQ (some (0, 0))] h Q := by
  have hl : line.length ≤ 72 := w.2.1
  have key : ∀ (n i : Nat), i + n = 8 → Q (cmdF line n i) h → EvAt (d + 5) m_P_commandOfLine 28 [some (vQ (some (0, 0))), some (vI (nI i))] [] h (zQR 20 Q) := by
    intro n
    induction n with
    | zero =>
      intro i hi hq
      have : i = 8 := by omega
      subst this
      exact w_P_commandOfLine_28 _ ⟨fun _ => hq, fun c => absurd (by decide) c⟩
    | succ n ih =>
      intro i hi hq
      rw [cmdF] at hq
      refine w_P_commandOfLine_28 _ ⟨fun c => absurd ((nI_leI (a := 8) (by omega) (by omega)).mp c) (by omega), fun _ => ⟨vp_in_nI (by omega) (by omega), ?_⟩⟩
      rw [nI_clamp (show i < 2 ^ 31 by omega)]
      refine sp_R_matches (a := 0) (by decide) (by omega) w (by decide) ⟨fun c => ?_, fun c => ⟨vp_in_nI (by omega) (by omega), ?_⟩⟩
      · rw [(bI_0 _).mp c, if_neg (by decide)] at hq
        rw [nI_inc]
        exact ih (i + 1) (by omega) hq
      · rw [bI_0, Bool.not_eq_false] at c
        rw [c, if_pos rfl] at hq
        exact hq
  have k26 : Q (cmdF line 8 0) h → EvAt (d + 5) m_P_commandOfLine 26 [some (vQ (some (0, 0))), none] [] h (zQR 20 Q) := fun z => w_P_commandOfLine_26 (key 8 0 rfl z)
  unfold cmdOf at hq
  refine e_P_commandOfLine ⟨fun c => k26 ?_, fun c => ?_⟩
  · rw [w.1] at c
    have := (nI_leI (b := 4) (by omega) (by omega)).mp c
    rw [if_neg (by omega)] at hq
    exact hq
  · rw [w.1] at c
    have h4 : 4 < line.length := by
      rcases Nat.lt_or_ge 4 line.length with z | z
      · exact z
      · exact absurd ((nI_leI (b := 4) (by omega) (by omega)).mpr z) c
    refine sp_R_at (by decide) w ?_
    rw [show (4 : Int32) = nI 4 from rfl, rAt_nI (by decide)]
    refine ⟨fun c2 => k26 ?_, fun c2 => ?_⟩
    · rw [if_neg (fun z => z.2 c2)] at hq
      exact hq
    · rw [if_pos ⟨h4, c2⟩] at hq
      exact hq
def brkB (line : ZT) (j : Nat) : Bool := mtB line 4 (zS j) && decide (line.getD (line.length - 1) 0 = 62)
theorem mtB_len {line : ZT} {a : Nat} {ws : ZT} (h : mtB line a ws = true) : a + ws.length ≤ line.length := by
  unfold mtB at h
  rw [Bool.and_eq_true] at h
  exact of_decide_eq_true h.1
theorem nI_m1 {n : Nat} (h : 0 < n) : nI n - (1 : Int32) = nI (n - 1) := by
  have := nI_pred (n - 1)
  rw [show n - 1 + 1 = n by omega] at this
  exact this
theorem sp_P_isBracketed {d j : Nat} {h : ZH} {line : ZT} {Q : Int32 → ZH → Prop} (hj : j < 14) (w : rowIs h 0 line) (hq : Q (bI (brkB line j)) h) : EvI (d + 5) m_P_isBracketed [vQ (some (0, 0)), vQ (some (22, j))] h Q := by
  have hl : line.length ≤ 72 := w.2.1
  unfold brkB at hq
  refine e_P_isBracketed j hj (sp_R_matches (a := 4) (by decide) hj w (by decide) ⟨fun c => ?_, fun c => ?_⟩)
  · rw [(bI_0 _).mp c, Bool.false_and] at hq
    exact hq
  · rw [bI_0, Bool.not_eq_false] at c
    have := mtB_len c
    rw [c, Bool.true_and] at hq
    rw [w.1, nI_m1 (by omega)]
    refine sp_R_at (by decide) w ?_
    rw [rAt_nI (by omega)]
    refine ⟨fun c2 => ?_, fun c2 => ?_⟩
    · rw [decide_eq_false c2] at hq
      exact hq
    · rw [decide_eq_true c2] at hq
      exact hq
theorem sp_P_bracketStart {d j : Nat} {h : ZH} {Q : Int32 → ZH → Prop} (hj : j < 14) (hq : Q (nI (4 + (zS j).length)) h) : EvI (d + 2) m_P_bracketStart [vQ (some (22, j))] h Q := by
  refine e_P_bracketStart j hj ?_
  rw [zS_len hj, show (4 : Int32) = nI 4 from rfl, nI_add]
  exact hq
theorem sp_P_isBracketEmpty {d j : Nat} {h : ZH} {line : ZT} {Q : Int32 → ZH → Prop} (hj : j < 14) (w : rowIs h 0 line) (h0 : 0 < line.length) (hq : Q (bI (decide (4 + (zS j).length = line.length - 1))) h) : EvI (d + 3) m_P_isBracketEmpty [vQ (some (0, 0)), vQ (some (22, j))] h Q := by
  have hl : line.length ≤ 72 := w.2.1
  have h20 := zS_lt hj
  refine e_P_isBracketEmpty j hj (sp_P_bracketStart hj ?_)
  rw [w.1, nI_m1 h0, nI_eq (by omega) (by omega)]
  refine ⟨fun c => ?_, fun c => ?_⟩
  · rw [decide_eq_false c] at hq
    exact hq
  · rw [decide_eq_true c] at hq
    exact hq
theorem sp_P_isPathIn {d j : Nat} {h : ZH} {line : ZT} {Q : Int32 → ZH → Prop} (hj : j < 14) (w : rowIs h 0 line) (h0 : 0 < line.length) (hq : Q (bI (pathB line (4 + (zS j).length) (line.length - 1))) h) : EvI (d + 3) m_P_isPathIn [vQ (some (0, 0)), vQ (some (22, j))] h Q := by
  have h20 := zS_lt hj
  refine e_P_isPathIn j hj (sp_P_bracketStart hj ?_)
  rw [w.1, nI_m1 h0]
  exact sp_G_isPath (by decide) w (by omega) (by omega) ⟨bI_nar _, hq⟩
def wrB (line : ZT) (c : Nat) : Bool := match c with
  | 0 => domB line 5 line.length
  | 1 => domB line 5 line.length
  | 2 => brkB line 8 && (decide (11 = line.length - 1) || pathB line 11 (line.length - 1))
  | 3 => brkB line 9 && pathB line 9 (line.length - 1)
  | _ => decide (line.length = 4)
theorem brkB_len {line : ZT} {j : Nat} (h : brkB line j = true) : 4 + (zS j).length ≤ line.length := by
  unfold brkB at h
  rw [Bool.and_eq_true] at h
  exact mtB_len h.1
theorem sp_P_isWrittenRight {d c : Nat} {h : ZH} {line : ZT} {Q : Int32 → ZH → Prop} (hc : c < 8) (w : rowIs h 0 line) (hq : Q (bI (wrB line c)) h) : EvI (d + 6) m_P_isWrittenRight [vQ (some (0, 0)), vQ (some (20, c))] h Q := by
  have hl : line.length ≤ 72 := w.2.1
  refine e_P_isWrittenRight c hc ⟨vp_in_nI hc (by omega), ?_⟩
  rw [nI_clamp (show c < 2 ^ 31 by omega)]
  have dom : Q (bI (domB line 5 line.length)) h → EvI (d + 5) m_G_isDomain [vQ (some (1, 0)), vI (5 : Int32), vI (zi h 1 0 1)] h (fun y2 g1 => (narrow .boolean (.int y2) = .int y2 ∧ Q y2 g1)) := by
    intro z
    rw [w.1]
    exact sp_G_isDomain (a := 5) (by decide) w (by decide) (Nat.le_refl _) ⟨bI_nar _, z⟩
  have four : Q (bI (decide (line.length = 4))) h → ((¬ (zi h 1 0 1) = (4 : Int32) → Q (0 : Int32) h) ∧ ((zi h 1 0 1) = (4 : Int32) → Q (1 : Int32) h)) := by
    intro z
    rw [w.1, show (4 : Int32) = nI 4 from rfl, nI_eq (by omega) (by omega)]
    refine ⟨fun c => ?_, fun c => ?_⟩
    · rw [decide_eq_false c] at z; exact z
    · rw [decide_eq_true c] at z; exact z
  match c, hc, hq with
  | 0, _, hq => exact ⟨fun _ => dom hq, fun z => absurd z (by decide), fun z => absurd z (by decide), fun z => absurd z (by decide), fun z => absurd rfl z.1⟩
  | 1, _, hq => exact ⟨fun z => absurd z (by decide), fun _ => dom hq, fun z => absurd z (by decide), fun z => absurd z (by decide), fun z => absurd rfl z.2.1⟩
  | 2, _, hq =>
    refine ⟨fun z => absurd z (by decide), fun z => absurd z (by decide), fun _ => ?_, fun z => absurd z (by decide), fun z => absurd rfl z.2.2.1⟩
    have hq : Q (bI (brkB line 8 && (decide (11 = line.length - 1) || pathB line 11 (line.length - 1)))) h := hq
    refine sp_P_isBracketed (by decide) w ⟨fun c => ?_, fun c => ?_⟩
    · rw [(bI_0 _).mp c, Bool.false_and] at hq
      exact hq
    · rw [bI_0, Bool.not_eq_false] at c
      have h11 : 11 ≤ line.length := brkB_len c
      rw [c, Bool.true_and] at hq
      refine sp_P_isBracketEmpty (d := d + 2) (j := 8) (by decide) w (by omega) ⟨fun c2 => ?_, fun c2 => ?_⟩
      · rw [bI_0, Bool.not_eq_false] at c2
        rw [show decide (11 = line.length - 1) = true from c2] at hq
        exact hq
      · rw [show decide (11 = line.length - 1) = false from (bI_0 _).mp c2, Bool.false_or] at hq
        refine sp_P_isPathIn (d := d + 2) (j := 8) (by decide) w (by omega) ⟨fun c3 => ?_, fun c3 => ?_⟩
        · rw [show pathB line 11 (line.length - 1) = false from (bI_0 _).mp c3] at hq
          exact hq
        · rw [bI_0, Bool.not_eq_false] at c3
          rw [show pathB line 11 (line.length - 1) = true from c3] at hq
          exact hq
  | 3, _, hq =>
    refine ⟨fun z => absurd z (by decide), fun z => absurd z (by decide), fun z => absurd z (by decide), fun _ => ?_, fun z => absurd rfl z.2.2.2⟩
    have hq : Q (bI (brkB line 9 && pathB line 9 (line.length - 1))) h := hq
    refine sp_P_isBracketed (by decide) w ⟨fun c => ?_, fun c => ?_⟩
    · rw [(bI_0 _).mp c, Bool.false_and] at hq
      exact hq
    · rw [bI_0, Bool.not_eq_false] at c
      have h9 : 9 ≤ line.length := brkB_len c
      rw [c, Bool.true_and] at hq
      refine sp_P_isPathIn (d := d + 2) (j := 9) (by decide) w (by omega) ⟨fun c3 => ?_, fun c3 => ?_⟩
      · rw [show pathB line 9 (line.length - 1) = false from (bI_0 _).mp c3] at hq
        exact hq
      · rw [bI_0, Bool.not_eq_false] at c3
        rw [show pathB line 9 (line.length - 1) = true from c3] at hq
        exact hq
  | 4, _, hq => exact ⟨fun z => absurd z (by decide), fun z => absurd z (by decide), fun z => absurd z (by decide), fun z => absurd z (by decide), fun _ => four hq⟩
  | 5, _, hq => exact ⟨fun z => absurd z (by decide), fun z => absurd z (by decide), fun z => absurd z (by decide), fun z => absurd z (by decide), fun _ => four hq⟩
  | 6, _, hq => exact ⟨fun z => absurd z (by decide), fun z => absurd z (by decide), fun z => absurd z (by decide), fun z => absurd z (by decide), fun _ => four hq⟩
  | 7, _, hq => exact ⟨fun z => absurd z (by decide), fun z => absurd z (by decide), fun z => absurd z (by decide), fun z => absurd z (by decide), fun _ => four hq⟩
