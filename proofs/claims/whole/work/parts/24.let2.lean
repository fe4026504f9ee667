theorem rcIs.fate0 {h : ZH} {t : Nat} {p : ZP} (a : rcIs h t p) : zi h 9 t 1 = 0 ↔ p.2.1 < 4 := by
  rcases a.2.1 with ⟨b1, b2, -⟩ | ⟨b1, b2⟩ | ⟨b1, b2⟩
  · exact ⟨fun _ => b1, fun _ => b2⟩
  · rw [b1, b2]; exact ⟨fun z => absurd z (by decide), fun z => absurd z (by decide)⟩
  · rw [b1, b2]; exact ⟨fun z => absurd z (by decide), fun z => absurd z (by decide)⟩
def awF : List ZP → Bool
  | [] => false
  | p :: t => decide (p.2.1 < 4) || awF t
theorem sp_L_isAwaited {d q : Nat} {h : ZH} {l : ZL} {Q : Int32 → ZH → Prop} (hq6 : q < 6) (a : ltIs h q l) (hq : Q (bI (awF l.2.2.2.1)) h) : EvI d m_L_isAwaited [vQ (some (7, q))] h Q := by
  obtain ⟨a1, a2, a3, a4, a5, a6, a7, a8⟩ := a
  have key : ∀ (n r : Nat), l.2.2.2.1.length - r = n → r ≤ l.2.2.2.1.length → Q (bI (awF (l.2.2.2.1.drop r))) h → EvAt d m_L_isAwaited 2 [some (vQ (some (7, q))), some (vI (nI r))] [] h (zQI Q) := by
    intro n
    induction n with
    | zero =>
      intro r hn hr hq
      rw [List.drop_eq_nil_of_le (by omega)] at hq
      refine w_L_isAwaited_2 q _ hq6 ⟨fun c => hq, fun c => ?_⟩
      rw [a5] at c
      exact absurd ((nI_leI (by omega) (by omega)).mpr (by omega)) c
    | succ n ih =>
      intro r hn hr hq
      rw [drop_consG (a := dP) (by omega), awF] at hq
      have hc := a7 r (by omega)
      refine w_L_isAwaited_2 q _ hq6 ⟨fun c => ?_, fun c => ?_⟩
      · rw [a5] at c
        exact absurd ((nI_leI (by omega) (by omega)).mp c) (by omega)
      · rw [nI_clamp (show r < 2 ^ 31 by omega)]
        refine ⟨vp_in_nI (by omega) (by omega), fun c1 => ?_, fun c1 => ?_⟩
        · rw [hc.fate0] at c1
          rw [decide_eq_false c1, Bool.false_or] at hq
          rw [nI_inc]
          exact ih (r + 1) (by omega) (by omega) hq
        · rw [hc.fate0] at c1
          rw [decide_eq_true c1, Bool.true_or] at hq
          exact hq
  exact e_L_isAwaited q hq6 (key _ 0 rfl (Nat.zero_le _) hq)
theorem sp_L_recipientAt {d q : Nat} {x : Int32} {h : ZH} {l : ZL} {Q : Option Nat → ZH → Prop} (hq6 : q < 6) (a : ltIs h q l) (h0 : ∀ r, r < l.2.2.2.1.length → x = nI r → Q (some (4 * q + r)) h) (h1 : (∀ r, r < l.2.2.2.1.length → x ≠ nI r) → Q none h) : EvR 9 d m_L_recipientAt [vQ (some (7, q)), vI x] h Q := by
  obtain ⟨a1, a2, a3, a4, a5, a6, a7, a8⟩ := a
  refine e_L_recipientAt q x hq6 ⟨fun c => h1 (fun r hr e => ?_), fun c => ⟨fun c2 => h1 (fun r hr e => ?_), fun c2 => ?_⟩⟩
  · rw [e] at c
    exact absurd c (nI_pos (by omega))
  · rw [e, a5] at c2
    exact absurd ((nI_leI (by omega) (by omega)).mp c2) (by omega)
  · obtain ⟨r, hr, rfl⟩ := nI_of c
    rw [a5] at c2
    have hl : r < l.2.2.2.1.length := by
      rcases Nat.lt_or_ge r l.2.2.2.1.length with z | z
      · exact z
      · exact absurd ((nI_leI (by omega) hr).mpr z) c2
    rw [nI_clamp hr]
    exact ⟨vp_in_nI (by omega) (by omega), h0 r hl rfl⟩
/-- a recipient who waits and is due -/
def cand (now : Nat) (p : ZP) : Bool := decide (p.2.1 < 4) && decide (p.2.2 ≤ now)
/-- the first of the earliest: b is the best so far -/
def fdN (rc : List ZP) (now r : Nat) (b : Option Nat) : Option Nat := if cand now (rc.getD r dP) then (match b with | none => some r | some b' => if (rc.getD r dP).2.2 < (rc.getD b' dP).2.2 then some r else some b') else b
def fdF (rc : List ZP) (now : Nat) : Nat → Nat → Option Nat → Option Nat
  | 0, _, b => b
  | n + 1, r, b => fdF rc now n (r + 1) (fdN rc now r b)
theorem sp_L_firstDue {d q now : Nat} {h : ZH} {l : ZL} {Q : Option Nat → ZH → Prop} (hq6 : q < 6) (a : ltIs h q l) (hnow : now < 2 ^ 30) (hq : Q ((fdF l.2.2.2.1 now l.2.2.2.1.length 0 none).map (fun r => 4 * q + r)) h) : EvR 9 d m_L_firstDue [vQ (some (7, q)), vI (nI now)] h Q := by
  obtain ⟨a1, a2, a3, a4, a5, a6, a7, a8⟩ := a
  have key : ∀ (n r : Nat) (b : Option Nat), l.2.2.2.1.length - r = n → r ≤ l.2.2.2.1.length → (∀ i, b = some i → i < l.2.2.2.1.length) → Q ((fdF l.2.2.2.1 now n r b).map (fun r => 4 * q + r)) h → EvAt d m_L_firstDue 4 [some (vQ (some (7, q))), some (vI (nI now)), some (vQ ((b.map (fun r => 4 * q + r)).map (Prod.mk 9))), some (vI (nI r)), none, none] [] h (zQR 9 Q) := by
    intro n
    induction n with
    | zero =>
      intro r b hn hr hb hq
      have hv : ∀ i, b.map (fun r => 4 * q + r) = some i → i < 24 := by
        intro i hi
        cases b with
        | none => cases hi
        | some b' => cases hi; have := hb b' rfl; show 4 * q + b' < 24; omega
      refine w_L_firstDue_4 q _ _ _ hq6 hv ⟨fun c => hq, fun c => ?_⟩
      rw [a5] at c
      exact absurd ((nI_leI (by omega) (by omega)).mpr (by omega)) c
    | succ n ih =>
      intro r b hn hr hb hq
      have hv : ∀ i, b.map (fun r => 4 * q + r) = some i → i < 24 := by
        intro i hi
        cases b with
        | none => cases hi
        | some b' => cases hi; have := hb b' rfl; show 4 * q + b' < 24; omega
      have hc := a7 r (by omega)
      rw [fdF] at hq
      unfold fdN at hq
      have skip : cand now (l.2.2.2.1.getD r dP) = false → EvAt d m_L_firstDue 68 [some (vQ (some (7, q))), some (vI (nI now)), some (vQ ((b.map (fun r => 4 * q + r)).map (Prod.mk 9))), some (vI (nI r)), none, none] [] h (zQR 9 Q) := by
        intro z
        rw [z, if_neg (by decide)] at hq
        refine w_L_firstDue_68 q _ _ _ hq6 hv ?_
        rw [nI_inc]
        exact ih (r + 1) b (by omega) (by omega) hb hq
      have no : cand now (l.2.2.2.1.getD r dP) = false → EvAt d m_L_firstDue 41 [some (vQ (some (7, q))), some (vI (nI now)), some (vQ ((b.map (fun r => 4 * q + r)).map (Prod.mk 9))), some (vI (nI r)), some (vQ (some (9, 4 * q + r))), none] [] h (zQR 9 Q) := by
        intro z
        exact w_L_firstDue_41 q _ _ _ _ hq6 hv (by omega) (w_L_firstDue_42 q _ _ _ _ _ hq6 hv (by omega) ⟨fun _ => skip z, fun c => absurd rfl c⟩)
      refine w_L_firstDue_4 q _ _ _ hq6 hv ⟨fun c => ?_, fun c => ?_⟩
      · rw [a5] at c
        exact absurd ((nI_leI (by omega) (by omega)).mp c) (by omega)
      · rw [nI_clamp (show r < 2 ^ 31 by omega)]
        refine ⟨vp_in_nI (by omega) (by omega), fun c1 => no ?_, fun c1 => ⟨fun c2 => no ?_, fun c2 => ?_⟩⟩
        · rw [hc.fate0] at c1
          unfold cand
          rw [decide_eq_false c1]
          rfl
        · rw [hc.2.2.1] at c2
          have h3 := hc.2.2.2
          have : ¬ (l.2.2.2.1.getD r dP).2.2 ≤ now := by
            have := (nI_ltI (by omega) (by omega)).mp c2
            omega
          unfold cand
          rw [decide_eq_false this, Bool.and_false]
        · rw [hc.fate0] at c1
          rw [hc.2.2.1] at c2
          have h3 := hc.2.2.2
          have hle : (l.2.2.2.1.getD r dP).2.2 ≤ now := by
            rcases Nat.lt_or_ge now (l.2.2.2.1.getD r dP).2.2 with z | z
            · exact absurd ((nI_ltI (by omega) (by omega)).mpr z) c2
            · exact z
          have hcd : cand now (l.2.2.2.1.getD r dP) = true := by
            unfold cand
            rw [decide_eq_true c1, decide_eq_true hle]
            rfl
          rw [hcd, if_pos rfl] at hq
          have k65 : Q ((fdF l.2.2.2.1 now n (r + 1) (some r)).map (fun r => 4 * q + r)) h → EvAt d m_L_firstDue 65 [some (vQ (some (7, q))), some (vI (nI now)), none, some (vI (nI r)), some (vQ (some (9, 4 * q + r))), none] [] h (zQR 9 Q) := by
            intro z
            refine w_L_firstDue_65 q _ _ _ hq6 (by omega) (w_L_firstDue_68 q _ (some (4 * q + r)) _ hq6 (fun i e => by cases e; omega) ?_)
            rw [nI_inc]
            exact ih (r + 1) (some r) (by omega) (by omega) (fun i e => by cases e; omega) z
          refine w_L_firstDue_42 q _ _ _ _ _ hq6 hv (by omega) ⟨fun c => absurd c (by decide), fun _ => ⟨fun e => ?_, fun n1 e hn1 => ?_⟩⟩
          · cases b with
            | none => exact k65 hq
            | some b' => cases e
          · cases b with
            | none => cases e
            | some b' =>
              cases e
              have hb' := hb b' rfl
              have hcb := a7 b' hb'
              have h4 := hcb.2.2.2
              have hq : Q (Option.map (fun r => 4 * q + r) (fdF l.2.2.2.1 now n (r + 1) (if (l.2.2.2.1.getD r dP).2.2 < (l.2.2.2.1.getD b' dP).2.2 then some r else some b'))) h := hq
              rw [hc.2.2.1, hcb.2.2.1]
              refine ⟨fun c3 => ?_, fun c3 => ?_⟩
              · have := (nI_leI (by omega) (by omega)).mp c3
                rw [if_neg (by omega)] at hq
                refine w_L_firstDue_68 q _ (some (4 * q + b')) _ hq6 (fun i e => by cases e; omega) ?_
                rw [nI_inc]
                exact ih (r + 1) (some b') (by omega) (by omega) hb hq
              · rw [if_pos (by
                  rcases Nat.lt_or_ge (l.2.2.2.1.getD r dP).2.2 (l.2.2.2.1.getD b' dP).2.2 with z | z
                  · exact z
                  · exact absurd ((nI_leI (by omega) (by omega)).mpr z) c3)] at hq
                exact k65 hq
  exact e_L_firstDue q _ hq6 (key _ 0 none rfl (Nat.zero_le _) (fun i e => by cases e) hq)
