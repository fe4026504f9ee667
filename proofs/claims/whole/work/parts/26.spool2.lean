def due2 (L : List ZL) (p : Nat × Nat) : Nat := ((L.getD p.1 dL).2.2.2.1.getD p.2 dP).2.2
def fd0 (L : List ZL) (now j : Nat) : Option Nat := fdF (L.getD j dL).2.2.2.1 now (L.getD j dL).2.2.2.1.length 0 none
def hnB (L : List ZL) (p : Nat × Nat) : Option (Nat × Nat) → Option (Nat × Nat)
  | none => some p
  | some b => if due2 L p < due2 L b then some p else some b
def hnN (L : List ZL) (now j : Nat) (b : Option (Nat × Nat)) : Option (Nat × Nat) := if (L.getD j dL).2.1 then (match fd0 L now j with | none => b | some r => hnB L (j, r) b) else b
def hnF (L : List ZL) (now : Nat) : Nat → Nat → Option (Nat × Nat) → Option (Nat × Nat)
  | 0, _, b => b
  | n + 1, j, b => hnF L now n (j + 1) (hnN L now j b)
theorem fdN_lt {rc : List ZP} {now r : Nat} {b : Option Nat} (hr : r < rc.length) (hb : ∀ i, b = some i → i < rc.length) : ∀ i, fdN rc now r b = some i → i < rc.length := by
  intro i h
  unfold fdN at h
  split at h
  · cases b with
    | none => cases h; exact hr
    | some b' =>
      have h : (if (rc.getD r dP).2.2 < (rc.getD b' dP).2.2 then some r else some b') = some i := h
      split at h
      · cases h; exact hr
      · cases h; exact hb _ rfl
  · exact hb i h
theorem fdF_lt {rc : List ZP} {now : Nat} : ∀ (n r : Nat) (b : Option Nat), r + n ≤ rc.length → (∀ i, b = some i → i < rc.length) → ∀ i, fdF rc now n r b = some i → i < rc.length
  | 0, r, b, _, hb, i, h => hb i h
  | n + 1, r, b, hr, hb, i, h => fdF_lt n (r + 1) (fdN rc now r b) (by omega) (fdN_lt (by omega) hb) i h
theorem fd0_lt {L : List ZL} {now j r : Nat} (h : fd0 L now j = some r) : r < (L.getD j dL).2.2.2.1.length := fdF_lt _ 0 none (by omega) (fun i e => by cases e) r h
def okB (L : List ZL) (b : Option (Nat × Nat)) : Prop := ∀ p, b = some p → p.1 < L.length ∧ p.2 < (L.getD p.1 dL).2.2.2.1.length
theorem okB_N {L : List ZL} {now j : Nat} {b : Option (Nat × Nat)} (hj : j < L.length) (hb : okB L b) : okB L (hnN L now j b) := by
  intro p h
  unfold hnN at h
  split at h
  · split at h
    · exact hb p h
    · rename_i r hr
      cases b with
      | none => cases h; exact ⟨hj, fd0_lt hr⟩
      | some b' =>
        have h : (if due2 L (j, r) < due2 L b' then some (j, r) else some b') = some p := h
        split at h
        · cases h; exact ⟨hj, fd0_lt hr⟩
        · exact hb p h
  · exact hb p h
theorem okB_F {L : List ZL} {now : Nat} : ∀ (n j : Nat) (b : Option (Nat × Nat)), j + n ≤ L.length → okB L b → okB L (hnF L now n j b)
  | 0, _, _, _, hb => hb
  | n + 1, j, b, hj, hb => okB_F n (j + 1) _ (by omega) (okB_N (by omega) hb)
theorem sp_O_holderOfNext {d now : Nat} {h : ZH} {π : Nat → Nat} {L : List ZL} {Q : Option Nat → ZH → Prop} (a : spIs h π L) (hnow : now < 2 ^ 30) (hq : Q ((hnF L now L.length 0 none).map (fun p => π p.1)) h) : EvR 7 (d + 1) m_O_holderOfNext [vQ (some (5, 0)), vI (nI now)] h Q := by
  have hL := a.2.1
  have key : ∀ (n j : Nat) (b : Option (Nat × Nat)), L.length - j = n → j ≤ L.length → okB L b → Q ((hnF L now n j b).map (fun p => π p.1)) h → EvAt (d + 1) m_O_holderOfNext 7 [some (vQ (some (5, 0))), some (vI (nI now)), some (vQ ((b.map (fun p => π p.1)).map (Prod.mk 7))), some (vQ ((b.map (fun p => 4 * π p.1 + p.2)).map (Prod.mk 9))), some (vI (nI j)), none] [] h (zQR 7 Q) := by
    intro n
    induction n with
    | zero =>
      intro j b hn hj hb hq
      have v2 : ∀ i, b.map (fun p => π p.1) = some i → i < 6 := by
        intro i e
        cases b with
        | none => cases e
        | some p => cases e; exact (a.2.2.1 p.1 (by have := hb p rfl; omega)).2
      have v3 : ∀ i, b.map (fun p => 4 * π p.1 + p.2) = some i → i < 24 := by
        intro i e
        cases b with
        | none => cases e
        | some p =>
          cases e
          have h1 := hb p rfl
          have h2 := (a.2.2.1 p.1 (by omega)).2
          have h3 := (a.2.2.2.2 p.1 h1.1).2.2.2.2.2.1
          show 4 * π p.1 + p.2 < 24
          omega
      refine w_O_holderOfNext_7 _ _ _ _ v2 v3 ⟨fun _ => hq, fun c => ?_⟩
      rw [a.1] at c
      exact absurd ((nI_leI (by omega) (by omega)).mpr (by omega)) c
    | succ n ih =>
      intro j b hn hj hb hq
      have v2 : ∀ i, b.map (fun p => π p.1) = some i → i < 6 := by
        intro i e
        cases b with
        | none => cases e
        | some p => cases e; exact (a.2.2.1 p.1 (by have := hb p rfl; omega)).2
      have v3 : ∀ i, b.map (fun p => 4 * π p.1 + p.2) = some i → i < 24 := by
        intro i e
        cases b with
        | none => cases e
        | some p =>
          cases e
          have h1 := hb p rfl
          have h2 := (a.2.2.1 p.1 (by omega)).2
          have h3 := (a.2.2.2.2 p.1 h1.1).2.2.2.2.2.1
          show 4 * π p.1 + p.2 < 24
          omega
      have hl := a.2.2.2.2 j (by omega)
      have hr := a.row (j := j) (by omega)
      rw [hnF] at hq
      have nxt : ∀ b' : Option (Nat × Nat), hnN L now j b = b' → EvAt (d + 1) m_O_holderOfNext 78 [some (vQ (some (5, 0))), some (vI (nI now)), some (vQ ((b'.map (fun p => π p.1)).map (Prod.mk 7))), some (vQ ((b'.map (fun p => 4 * π p.1 + p.2)).map (Prod.mk 9))), some (vI (nI j)), none] [] h (zQR 7 Q) := by
        intro b' e
        rw [e] at hq
        have hb' : okB L b' := e ▸ okB_N (by omega) hb
        refine w_O_holderOfNext_78 _ _ _ _ (fun i e => ?_) (fun i e => ?_) ?_
        · cases b' with
          | none => cases e
          | some p => cases e; exact (a.2.2.1 p.1 (by have := hb' p rfl; omega)).2
        · cases b' with
          | none => cases e
          | some p =>
            cases e
            have h1 := hb' p rfl
            have h2 := (a.2.2.1 p.1 (by omega)).2
            have h3 := (a.2.2.2.2 p.1 h1.1).2.2.2.2.2.1
            show 4 * π p.1 + p.2 < 24
            omega
        · rw [nI_inc]
          exact ih (j + 1) b' (by omega) (by omega) hb' hq
      have k44n : hnN L now j b = b → EvAt (d + 1) m_O_holderOfNext 44 [some (vQ (some (5, 0))), some (vI (nI now)), some (vQ ((b.map (fun p => π p.1)).map (Prod.mk 7))), some (vQ ((b.map (fun p => 4 * π p.1 + p.2)).map (Prod.mk 9))), some (vI (nI j)), none] [vQ none] h (zQR 7 Q) := by
        intro e
        exact w_O_holderOfNext_44 _ _ _ _ none v2 v3 (fun i e => by cases e) ⟨fun _ => nxt b e, fun n1 e _ => by cases e⟩
      refine w_O_holderOfNext_7 _ _ _ _ v2 v3 ⟨fun c => ?_, fun _ => ⟨hr.1, π j, hr.2.1, hr.2.2, fun c1 => ?_, fun c1 => ⟨hr.1, π j, hr.2.1, hr.2.2, ?_⟩⟩⟩
      · rw [a.1] at c
        exact absurd ((nI_leI (by omega) (by omega)).mp c) (by omega)
      · rw [hl.seal0] at c1
        refine k44n ?_
        unfold hnN
        rw [c1, if_neg (by decide)]
      · rw [hl.seal0, Bool.not_eq_false] at c1
        refine sp_L_firstDue hr.2.2 hl hnow ?_
        have e0 : fdF (L.getD j dL).2.2.2.1 now (L.getD j dL).2.2.2.1.length 0 none = fd0 L now j := rfl
        rw [e0]
        have eN : hnN L now j b = (match fd0 L now j with | none => b | some r => hnB L (j, r) b) := by
          unfold hnN
          rw [c1, if_pos rfl]
        cases hfd : fd0 L now j with
        | none =>
          rw [hfd] at eN
          exact k44n eN
        | some r =>
          rw [hfd] at eN
          have eN : hnN L now j b = hnB L (j, r) b := eN
          have hrl := fd0_lt hfd
          have h6 := hl.2.2.2.2.2.1
          have hv : 4 * π j + r < 24 := by omega
          have hrc := hl.2.2.2.2.2.2.1 r hrl
          have k67 : hnN L now j b = some (j, r) → EvAt (d + 1) m_O_holderOfNext 67 [some (vQ (some (5, 0))), some (vI (nI now)), none, none, some (vI (nI j)), some (vQ (some (9, 4 * π j + r)))] [] h (zQR 7 Q) := by
            intro e
            exact w_O_holderOfNext_67 _ _ _ hv ⟨hr.1, π j, hr.2.1, hr.2.2, nxt (some (j, r)) e⟩
          refine w_O_holderOfNext_44 _ _ _ _ (some (4 * π j + r)) v2 v3 (fun i e => by cases e; exact hv) ⟨fun e => (by cases e), fun n1 e1 _ => ?_⟩
          cases e1
          refine ⟨fun e3 => ?_, fun n2 e3 hn2 => ?_⟩
          · cases b with
            | none => exact k67 eN
            | some p => cases e3
          · cases b with
            | none => cases e3
            | some p =>
              cases e3
              have hp := hb p rfl
              have hlp := a.2.2.2.2 p.1 hp.1
              have hcp := hlp.2.2.2.2.2.2.1 p.2 hp.2
              have d1 : zi h 9 (4 * π p.1 + p.2) 3 = nI (due2 L p) := hcp.2.2.1
              have d2 : zi h 9 (4 * π j + r) 3 = nI (due2 L (j, r)) := hrc.2.2.1
              have b1 : due2 L p < 2 ^ 30 := hcp.2.2.2
              have b2 : due2 L (j, r) < 2 ^ 30 := hrc.2.2.2
              have eN : hnN L now j (some p) = if due2 L (j, r) < due2 L p then some (j, r) else some p := eN
              refine ⟨fun c3 => ?_, fun c3 => ?_⟩
              · have c3 : zi h 9 (4 * π p.1 + p.2) 3 ≤ zi h 9 (4 * π j + r) 3 := c3
                rw [d1, d2, nI_leI (by omega) (by omega)] at c3
                rw [if_neg (by omega)] at eN
                exact nxt (some p) eN
              · have c3 : ¬ zi h 9 (4 * π p.1 + p.2) 3 ≤ zi h 9 (4 * π j + r) 3 := c3
                rw [d1, d2, nI_leI (by omega) (by omega)] at c3
                rw [if_pos (by omega)] at eN
                exact k67 eN
  exact e_O_holderOfNext _ (key _ 0 none rfl (Nat.zero_le _) (fun p e => by cases e) hq)
