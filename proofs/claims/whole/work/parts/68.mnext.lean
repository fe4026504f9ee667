/-! the model's next -/
theorem gDE {α : Type} {l : List α} {n : Nat} {a : α} (h : n < l.length) : l.getD n a = l[n] := by
  rw [List.getD_eq_getElem?_getD, List.getElem?_eq_getElem h]
  rfl
def dueP (rc : List ZP) (r : Nat) : Nat := (rc.getD r dP).2.2
def fdI (rc : List ZP) (now r : Nat) (b : Option Nat) : Prop := (b = none → ∀ i, i < r → ¬ cand now (rc.getD i dP) = true) ∧ ∀ b', b = some b' → b' < r ∧ cand now (rc.getD b' dP) = true ∧ ∀ i, i < r → cand now (rc.getD i dP) = true → dueP rc b' < dueP rc i ∨ dueP rc b' = dueP rc i ∧ b' ≤ i
theorem fdI_N {rc : List ZP} {now r : Nat} {b : Option Nat} (a : fdI rc now r b) : fdI rc now (r + 1) (fdN rc now r b) := by
  obtain ⟨a1, a2⟩ := a
  unfold fdN
  by_cases c : cand now (rc.getD r dP) = true
  · rw [if_pos c]
    cases b with
    | none =>
      refine ⟨fun z => (by cases z), fun b' e => ?_⟩
      cases e
      refine ⟨by omega, c, fun i hi hc => ?_⟩
      by_cases e : i = r
      · subst e; exact Or.inr ⟨rfl, Nat.le_refl _⟩
      · exact absurd hc (a1 rfl i (by omega))
    | some b0 =>
      obtain ⟨f1, f2, f3⟩ := a2 b0 rfl
      show fdI rc now (r + 1) (if dueP rc r < dueP rc b0 then some r else some b0)
      by_cases c2 : dueP rc r < dueP rc b0
      · rw [if_pos c2]
        refine ⟨fun z => (by cases z), fun b' e => ?_⟩
        cases e
        refine ⟨by omega, c, fun i hi hc => ?_⟩
        by_cases e : i = r
        · subst e; exact Or.inr ⟨rfl, Nat.le_refl _⟩
        · have := f3 i (by omega) hc
          omega
      · rw [if_neg c2]
        refine ⟨fun z => (by cases z), fun b' e => ?_⟩
        cases e
        refine ⟨by omega, f2, fun i hi hc => ?_⟩
        by_cases e : i = r
        · subst e; omega
        · exact f3 i (by omega) hc
  · rw [if_neg c]
    refine ⟨fun z i hi hc => ?_, fun b' e => ?_⟩
    · by_cases e : i = r
      · subst e; exact c hc
      · exact a1 z i (by omega) hc
    · obtain ⟨f1, f2, f3⟩ := a2 b' e
      refine ⟨by omega, f2, fun i hi hc => ?_⟩
      by_cases e : i = r
      · subst e; exact absurd hc c
      · exact f3 i (by omega) hc
theorem fdI_F {rc : List ZP} {now : Nat} : ∀ (n r : Nat) (b : Option Nat), fdI rc now r b → fdI rc now (r + n) (fdF rc now n r b)
  | 0, _, _, a => a
  | n + 1, r, b, a => by
    rw [fdF, show r + (n + 1) = (r + 1) + n by omega]
    exact fdI_F n (r + 1) _ (fdI_N a)
theorem fdI_0 (L : List ZL) (now j : Nat) : fdI (L.getD j dL).2.2.2.1 now (L.getD j dL).2.2.2.1.length (fd0 L now j) := by
  have := fdI_F (rc := (L.getD j dL).2.2.2.1) (now := now) (L.getD j dL).2.2.2.1.length 0 none ⟨fun _ i hi => absurd hi (Nat.not_lt_zero _), fun b e => (by cases e)⟩
  rw [Nat.zero_add] at this
  exact this
/-- a recipient of a sealed letter that may be tried now -/
def cdL (L : List ZL) (now : Nat) (p : Nat × Nat) : Prop := p.1 < L.length ∧ (L.getD p.1 dL).2.1 = true ∧ p.2 < (L.getD p.1 dL).2.2.2.1.length ∧ cand now ((L.getD p.1 dL).2.2.2.1.getD p.2 dP) = true
def leL (L : List ZL) (p p' : Nat × Nat) : Prop := due2 L p < due2 L p' ∨ due2 L p = due2 L p' ∧ (p.1 < p'.1 ∨ p.1 = p'.1 ∧ p.2 ≤ p'.2)
def hnI (L : List ZL) (now j : Nat) (b : Option (Nat × Nat)) : Prop := (b = none → ∀ p, cdL L now p → p.1 < j → False) ∧ ∀ b', b = some b' → cdL L now b' ∧ b'.1 < j ∧ ∀ p, cdL L now p → p.1 < j → leL L b' p
theorem hnI_N {L : List ZL} {now j : Nat} {b : Option (Nat × Nat)} (hj : j < L.length) (a : hnI L now j b) : hnI L now (j + 1) (hnN L now j b) := by
  obtain ⟨a1, a2⟩ := a
  have skip : (∀ p, cdL L now p → p.1 = j → ∃ b', b = some b' ∧ leL L b' p) → hnI L now (j + 1) b := by
    intro z
    refine ⟨fun e p hp hlt => ?_, fun b' e => ?_⟩
    · by_cases e2 : p.1 = j
      · obtain ⟨b', e3, -⟩ := z p hp e2
        rw [e] at e3
        cases e3
      · exact a1 e p hp (by omega)
    · obtain ⟨f1, f2, f3⟩ := a2 b' e
      refine ⟨f1, by omega, fun p hp hlt => ?_⟩
      by_cases e2 : p.1 = j
      · obtain ⟨b'', e3, h3⟩ := z p hp e2
        rw [e] at e3
        cases e3
        exact h3
      · exact f3 p hp (by omega)
  have i0 := fdI_0 L now j
  unfold hnN
  by_cases c : (L.getD j dL).2.1 = true
  · rw [if_pos c]
    cases hr : fd0 L now j with
    | none =>
      refine skip (fun p hp e => ?_)
      obtain ⟨h1, h2, h3, h4⟩ := hp
      rw [e] at h3 h4
      exact absurd h4 (i0.1 hr p.2 h3)
    | some r =>
      obtain ⟨g1, g2, g3⟩ := i0.2 r hr
      have hc : cdL L now (j, r) := ⟨hj, c, g1, g2⟩
      have hmin : ∀ p, cdL L now p → p.1 = j → due2 L (j, r) < due2 L p ∨ due2 L (j, r) = due2 L p ∧ r ≤ p.2 := by
        intro p hp e
        obtain ⟨j', r'⟩ := p
        have e : j' = j := e
        subst e
        exact g3 r' hp.2.2.1 hp.2.2.2
      cases b with
      | none =>
        refine ⟨fun z => (by cases z), fun b' e => ?_⟩
        cases e
        refine ⟨hc, Nat.lt_succ_self j, fun p hp hlt => ?_⟩
        by_cases e2 : p.1 = j
        · rcases hmin p hp e2 with z | z
          · exact Or.inl z
          · exact Or.inr ⟨z.1, Or.inr ⟨e2.symm, z.2⟩⟩
        · exact (a1 rfl p hp (by omega)).elim
      | some b0 =>
        obtain ⟨f1, f2, f3⟩ := a2 b0 rfl
        show hnI L now (j + 1) (if due2 L (j, r) < due2 L b0 then some (j, r) else some b0)
        by_cases c2 : due2 L (j, r) < due2 L b0
        · rw [if_pos c2]
          refine ⟨fun z => (by cases z), fun b' e => ?_⟩
          cases e
          refine ⟨hc, Nat.lt_succ_self j, fun p hp hlt => ?_⟩
          by_cases e2 : p.1 = j
          · rcases hmin p hp e2 with z | z
            · exact Or.inl z
            · exact Or.inr ⟨z.1, Or.inr ⟨e2.symm, z.2⟩⟩
          · have := f3 p hp (by omega)
            rcases this with z | z
            · exact Or.inl (Nat.lt_trans c2 z)
            · exact Or.inl (by rw [← z.1]; exact c2)
        · rw [if_neg c2]
          refine skip (fun p hp e => ⟨b0, rfl, ?_⟩)
          rcases hmin p hp e with z | z
          · exact Or.inl (by omega)
          · rcases Nat.lt_or_ge (due2 L b0) (due2 L p) with y | y
            · exact Or.inl y
            · exact Or.inr ⟨by omega, Or.inl (by omega)⟩
  · rw [if_neg c]
    refine skip (fun p hp e => ?_)
    exact absurd (by rw [← e]; exact hp.2.1) c
theorem hnI_F {L : List ZL} {now : Nat} : ∀ (n j : Nat) (b : Option (Nat × Nat)), j + n = L.length → hnI L now j b → hnI L now L.length (hnF L now n j b)
  | 0, j, _, hj, a => by
    rw [Nat.add_zero] at hj
    subst hj
    exact a
  | n + 1, j, b, hj, a => hnI_F n (j + 1) _ (by omega) (hnI_N (by omega) a)
theorem hnI_0 (L : List ZL) (now : Nat) : hnI L now L.length (hnF L now L.length 0 none) :=
  hnI_F L.length 0 none (by omega) ⟨fun _ p _ hlt => absurd hlt (Nat.not_lt_zero _), fun b e => (by cases e)⟩
theorem pw_uniqP {P : List (Nat × ZL)} (pw : (P.map Prod.snd).Pairwise (fun a b => a.1 < b.1)) {a b : Nat × ZL} (ha : a ∈ P) (hb : b ∈ P) (e : a.2.1 = b.2.1) : a = b := by
  induction P with
  | nil => cases ha
  | cons x t ih =>
    rw [List.map_cons, List.pairwise_cons] at pw
    rcases List.mem_cons.mp ha with e1 | ha2
    · rcases List.mem_cons.mp hb with e2 | hb2
      · rw [e1, e2]
      · have := pw.1 b.2 (List.mem_map.mpr ⟨b, hb2, rfl⟩)
        rw [← e1] at this
        omega
    · rcases List.mem_cons.mp hb with e2 | hb2
      · have := pw.1 a.2 (List.mem_map.mpr ⟨a, ha2, rfl⟩)
        rw [← e2] at this
        omega
      · exact ih pw.2 ha2 hb2
def mcN (now : Nat) (q : Nat × ZL) (r : Nat) : Prop := q.2.2.1 = true ∧ r < q.2.2.2.2.1.length ∧ cand now (q.2.2.2.2.1.getD r dP) = true
def mleN (b c : (Nat × ZL) × Nat) : Prop := dueP b.1.2.2.2.2.1 b.2 < dueP c.1.2.2.2.2.1 c.2 ∨ dueP b.1.2.2.2.2.1 b.2 = dueP c.1.2.2.2.2.1 c.2 ∧ (b.1.2.1 < c.1.2.1 ∨ b.1.2.1 = c.1.2.1 ∧ b.2 ≤ c.2)
def mnI (P : List (Nat × ZL)) (now k : Nat) (o : Option ((Nat × ZL) × Nat)) : Prop := (o = none → ∀ q ∈ P, ∀ r, mcN now q r → 4 * q.1 + r < k → False) ∧ ∀ b, o = some b → b.1 ∈ P ∧ mcN now b.1 b.2 ∧ 4 * b.1.1 + b.2 < k ∧ ∀ q ∈ P, ∀ r, mcN now q r → 4 * q.1 + r < k → mleN b (q, r)
theorem mnI.skip {P : List (Nat × ZL)} {now k : Nat} {o : Option ((Nat × ZL) × Nat)} (a : mnI P now k o) (z : ∀ q ∈ P, ∀ r, mcN now q r → 4 * q.1 + r = k → ∃ b, o = some b ∧ mleN b (q, r)) : mnI P now (k + 1) o := by
  obtain ⟨a1, a2⟩ := a
  refine ⟨fun e q hq r hc hlt => ?_, fun b e => ?_⟩
  · by_cases e2 : 4 * q.1 + r = k
    · obtain ⟨b', e3, -⟩ := z q hq r hc e2
      rw [e] at e3
      cases e3
    · exact a1 e q hq r hc (by omega)
  · obtain ⟨f1, f2, f3, f4⟩ := a2 b e
    refine ⟨f1, f2, by omega, fun q hq r hc hlt => ?_⟩
    by_cases e2 : 4 * q.1 + r = k
    · obtain ⟨b', e3, h3⟩ := z q hq r hc e2
      rw [e] at e3
      cases e3
      exact h3
    · exact f4 q hq r hc (by omega)
theorem mnI.take {P : List (Nat × ZL)} {now k : Nat} {o : Option ((Nat × ZL) × Nat)} (a : mnI P now k o) {q : Nat × ZL} {r : Nat} (hq : q ∈ P) (hc : mcN now q r) (hk : 4 * q.1 + r = k) (hu : ∀ q' ∈ P, ∀ r', mcN now q' r' → 4 * q'.1 + r' = k → q' = q ∧ r' = r) (z : ∀ b, o = some b → mleN (q, r) b) : mnI P now (k + 1) (some (q, r)) := by
  refine ⟨fun e => (by cases e), fun b e => ?_⟩
  cases e
  refine ⟨hq, hc, by show 4 * q.1 + r < k + 1; omega, fun q' hq' r' hc' hlt => ?_⟩
  by_cases e2 : 4 * q'.1 + r' = k
  · obtain ⟨e3, e4⟩ := hu q' hq' r' hc' e2
    subst e3
    subst e4
    exact Or.inr ⟨rfl, Or.inr ⟨rfl, Nat.le_refl _⟩⟩
  · cases o with
    | none => exact (a.1 rfl q' hq' r' hc' (by omega)).elim
    | some b =>
      have h1 := z b rfl
      have h2 := (a.2 b rfl).2.2.2 q' hq' r' hc' (by omega)
      obtain ⟨bq, br⟩ := b
      unfold mleN at h1 h2 ⊢
      simp only at h1 h2 ⊢
      omega
theorem cand_iff {now : Nat} {p : ZP} : cand now p = true ↔ p.2.1 < 4 ∧ p.2.2 ≤ now := by
  unfold cand
  rw [Bool.and_eq_true, decide_eq_true_eq, decide_eq_true_eq]
def oK (o : Option ((Nat × ZL) × Nat)) : Option Nat := o.map (fun b => 4 * b.1.1 + b.2)
theorem sp_M_nextOne {d now : Nat} {h : ZH} {P : List (Nat × ZL)} {Q : Int32 → ZH → Prop} (m : msp h P) (pw : (P.map Prod.snd).Pairwise (fun a b => a.1 < b.1)) (hn : zi h 12 0 1 = nI now) (hn2 : now < 2 ^ 29)
    (h0 : hnF (P.map Prod.snd) now (P.map Prod.snd).length 0 none = none → Q (-1) h) (h1 : ∀ p q, hnF (P.map Prod.snd) now (P.map Prod.snd).length 0 none = some p → q ∈ P → q.2 = (P.map Prod.snd).getD p.1 dL → p.2 < q.2.2.2.2.1.length → q.2.2.1 = true → Q (nI (4 * q.1 + p.2)) h) : EvI (d + 1) m_M_nextOne [vQ (some (12, 0))] h Q := by
  have loop : ∀ (n k : Nat) (o : Option ((Nat × ZL) × Nat)), k + n = 24 → mnI P now k o → EvAt (d + 1) m_M_nextOne 4 [some (vQ (some (12, 0))), some (vI (oI (oK o))), some (vI (nI k)), none, none, none] [] h (zQI Q) := by
    intro n
    induction n with
    | zero =>
      intro k o hk i
      have : k = 24 := by omega
      subst this
      refine w_M_nextOne_4 _ _ (pk_le 24 24 (fun _ => ?_) (fun z => by omega))
      have hi := hnI_0 (P.map Prod.snd) now
      cases hr : hnF (P.map Prod.snd) now (P.map Prod.snd).length 0 none with
      | none =>
        cases o with
        | none => exact h0 hr
        | some b =>
          obtain ⟨f1, f2, f3, f4⟩ := i.2 b rfl
          obtain ⟨j, hj, e⟩ := List.getElem_of_mem (List.mem_map.mpr ⟨b.1, f1, rfl⟩ : b.1.2 ∈ P.map Prod.snd)
          have e2 : (P.map Prod.snd).getD j dL = b.1.2 := by rw [gDE hj]; exact e
          refine (hi.1 hr (j, b.2) ⟨hj, ?_, ?_, ?_⟩ hj).elim
          · show ((P.map Prod.snd).getD j dL).2.1 = true
            rw [e2]; exact f2.1
          · show b.2 < ((P.map Prod.snd).getD j dL).2.2.2.1.length
            rw [e2]; exact f2.2.1
          · show cand now (((P.map Prod.snd).getD j dL).2.2.2.1.getD b.2 dP) = true
            rw [e2]; exact f2.2.2
      | some p =>
        obtain ⟨⟨g1, g2, g3, g4⟩, -, g5⟩ := hi.2 p hr
        have hm : (P.map Prod.snd).getD p.1 dL ∈ P.map Prod.snd := zgetD_mem g1
        obtain ⟨q, hq, e⟩ := List.mem_map.mp hm
        have e : q.2 = (P.map Prod.snd).getD p.1 dL := e
        have hr4 : q.2.2.2.2.1.length ≤ 4 := (m.1 q hq).2.2.2.2.2.2.2.1
        have hq6 := (m.1 q hq).1
        have hmc : mcN now q p.2 := by
          unfold mcN
          rw [e]
          exact ⟨g2, g3, g4⟩
        have hlt : 4 * q.1 + p.2 < 24 := by
          have := hmc.2.1
          omega
        cases o with
        | none => exact (i.1 rfl q hq p.2 hmc hlt).elim
        | some b =>
          obtain ⟨f1, f2, f3, f4⟩ := i.2 b rfl
          have l1 := f4 q hq p.2 hmc hlt
          obtain ⟨j, hj, e1⟩ := List.getElem_of_mem (List.mem_map.mpr ⟨b.1, f1, rfl⟩ : b.1.2 ∈ P.map Prod.snd)
          have e2 : (P.map Prod.snd).getD j dL = b.1.2 := by rw [gDE hj]; exact e1
          have l2 := g5 (j, b.2) ⟨hj, by show ((P.map Prod.snd).getD j dL).2.1 = true; rw [e2]; exact f2.1, by show b.2 < ((P.map Prod.snd).getD j dL).2.2.2.1.length; rw [e2]; exact f2.2.1, by show cand now (((P.map Prod.snd).getD j dL).2.2.2.1.getD b.2 dP) = true; rw [e2]; exact f2.2.2⟩ hj
          have d1 : due2 (P.map Prod.snd) p = dueP q.2.2.2.2.1 p.2 := by unfold due2 dueP; rw [e]
          have d2 : due2 (P.map Prod.snd) (j, b.2) = dueP b.1.2.2.2.2.1 b.2 := by
            show (((P.map Prod.snd).getD j dL).2.2.2.1.getD b.2 dP).2.2 = _
            rw [e2]
            rfl
          have mono : p.1 < j → q.2.1 < b.1.2.1 := by
            intro z
            have := (List.pairwise_iff_getElem.mp pw) p.1 j g1 hj z
            rw [e1] at this
            rw [gDE g1] at e
            rw [e]
            exact this
          unfold leL at l2
          unfold mleN at l1
          rw [d1, d2] at l2
          simp only at l1 l2
          have hnum : b.1.2.1 = q.2.1 ∧ b.2 = p.2 := by
            by_cases c : p.1 < j
            · have := mono c
              omega
            · have hpj : p.1 = j ∨ j < p.1 := by omega
              rcases hpj with z | z
              · rw [z, e2] at e
                rw [e] at l1 ⊢
                exact ⟨rfl, by rw [e] at l2; omega⟩
              · rw [e] at l1 l2 ⊢
                omega
          have hb : b.1 = q := pw_uniqP pw f1 hq hnum.1
          have : Q (nI (4 * q.1 + p.2)) h := h1 p q hr hq e hmc.2.1 hmc.1
          show Q (nI (4 * b.1.1 + b.2)) h
          rw [hb, hnum.2]
          exact this
    | succ n ih =>
      intro k o hk i
      have hk4 : 4 * (k / 4) + k % 4 = k := Nat.div_add_mod k 4
      have hkm : k % 4 < 4 := Nat.mod_lt _ (by omega)
      have kuq : ∀ q ∈ P, ∀ r, mcN now q r → 4 * q.1 + r = k → q.1 = k / 4 ∧ r = k % 4 := by
        intro q hq r hc e
        have h4 : q.2.2.2.2.1.length ≤ 4 := (m.1 q hq).2.2.2.2.2.2.2.1
        have := hc.2.1
        omega
      have skip : (∀ q ∈ P, ∀ r, mcN now q r → 4 * q.1 + r = k → False) → EvAt (d + 1) m_M_nextOne 61 [some (vQ (some (12, 0))), some (vI (oI (oK o))), some (vI (nI k)), some (vI (nI (k / 4))), none, none] [] h (zQI Q) := by
        intro z
        refine w_M_nextOne_61 _ _ _ (w_M_nextOne_62 _ _ _ _ ⟨fun _ => w_M_nextOne_138 _ _ ?_, fun c => absurd rfl c⟩)
        rw [nI_inc]
        exact ih (k + 1) o (by omega) (i.skip (fun q hq r hc e => (z q hq r hc e).elim))
      refine w_M_nextOne_4 _ _ (pk_le 24 k (fun z => by omega) (fun _ => ?_))
      have ed : nI k / (4 : Int32) = nI (k / 4) := pk_div (a := k) (d := 4) (by omega) (by omega) (by omega)
      have er : nI k - nI k / (4 : Int32) * (4 : Int32) = nI (k % 4) := pk_rem (a := k) (d := 4) (by omega) (by omega) (by omega)
      rw [er, ed]
      refine sp_M_isLetterAt m (by omega) ⟨fun c => skip (fun q hq r hc e => ?_), fun c => ?_⟩
      · have := of_decide_eq_false ((bI_0 _).mp c)
        exact this (sPl_mem.mpr ⟨q, hq, hc.1, (kuq q hq r hc e).1⟩)
      · obtain ⟨q, hq, hs, e⟩ := sPl_mem.mp (of_decide_eq_true (bI_t c))
        obtain ⟨hq6, s1, s2, s3, s4, s5, s6, s7, s8⟩ := m.1 q hq
        have uq : ∀ q' ∈ P, ∀ r', mcN now q' r' → 4 * q'.1 + r' = k → q' = q ∧ r' = k % 4 := by
          intro q' hq' r' hc' e'
          obtain ⟨y1, y2⟩ := kuq q' hq' r' hc' e'
          exact ⟨fst_inj m.2.1 hq' hq (by omega), y2⟩
        rw [e] at s6
        rw [nI_clamp (by omega), s6]
        refine ⟨vp_in_nI (show k / 4 < 8 by omega) (by decide), pk_le q.2.2.2.2.1.length (k % 4) (fun z => skip (fun q' hq' r' hc' e' => ?_)) (fun z => ?_)⟩
        · obtain ⟨y1, y2⟩ := uq q' hq' r' hc' e'
          subst y1
          have := hc'.2.1
          omega
        · have hr : k % 4 < q.2.2.2.2.1.length := by omega
          obtain ⟨-, t1, t2, t3, t4⟩ := s8 _ hr
          rw [e, hk4] at t1 t3
          rw [nI_clamp (by omega), t1, t3, hn]
          refine ⟨vp_in_nI (show k < 24 by omega) (by decide), pk_le 4 (q.2.2.2.2.1.getD (k % 4) dP).2.1 (fun z2 => skip (fun q' hq' r' hc' e' => ?_)) (fun z2 => ⟨vp_in_nI (show k < 24 by omega) (by decide), pk_lt now (q.2.2.2.2.1.getD (k % 4) dP).2.2 (fun z3 => skip (fun q' hq' r' hc' e' => ?_)) (fun z3 => ?_)⟩)⟩
          · obtain ⟨y1, y2⟩ := uq q' hq' r' hc' e'
            subst y1 y2
            have := (cand_iff.mp hc'.2.2).1
            omega
          · obtain ⟨y1, y2⟩ := uq q' hq' r' hc' e'
            subst y1 y2
            have := (cand_iff.mp hc'.2.2).2
            omega
          · have hmc : mcN now q (k % 4) := ⟨hs, hr, cand_iff.mpr ⟨by omega, by omega⟩⟩
            have take : (∀ b, o = some b → mleN (q, k % 4) b) → EvAt (d + 1) m_M_nextOne 120 [some (vQ (some (12, 0))), some (vI (oI (oK o))), some (vI (nI k)), none, none, none] [] h (zQI Q) := by
              intro z
              refine w_M_nextOne_120 _ _ (w_M_nextOne_125 _ _ _ ⟨fun c => absurd c (by decide), fun _ => w_M_nextOne_137 _ _ (w_M_nextOne_138 _ _ ?_)⟩)
              rw [nI_inc]
              have := ih (k + 1) (some (q, k % 4)) (by omega) (i.take hq hmc (by omega) uq z)
              rw [show oI (oK (some (q, k % 4))) = nI k from by show nI (4 * q.1 + k % 4) = nI k; rw [e, hk4]] at this
              exact this
            have keep : (∀ q' ∈ P, ∀ r', mcN now q' r' → 4 * q'.1 + r' = k → ∃ b, o = some b ∧ mleN b (q', r')) → EvAt (d + 1) m_M_nextOne 124 [some (vQ (some (12, 0))), some (vI (oI (oK o))), some (vI (nI k)), none, none, none] [] h (zQI Q) := by
              intro z
              refine w_M_nextOne_124 _ _ (w_M_nextOne_125 _ _ _ ⟨fun _ => w_M_nextOne_137 _ _ (w_M_nextOne_138 _ _ ?_), fun c => absurd rfl c⟩)
              rw [nI_inc]
              exact ih (k + 1) o (by omega) (i.skip z)
            refine w_M_nextOne_62 _ _ _ _ ⟨fun c => absurd c (by decide), fun _ => ⟨fun c2 => take (fun b e2 => ?_), fun c2 => ?_⟩⟩
            · subst e2
              have hb6 := (m.1 b.1 (i.2 b rfl).1).1
              have := (i.2 b rfl).2.2.1
              exact absurd c2 (nI_pos (show 4 * b.1.1 + b.2 < 2 ^ 31 by omega))
            · cases o with
              | none => exact absurd (by decide) c2
              | some b =>
                obtain ⟨f1, f2, f3, f4⟩ := i.2 b rfl
                obtain ⟨hb6, u1, u2, u3, u4, u5, u6, u7, u8⟩ := m.1 b.1 f1
                obtain ⟨-, v1, v2, v3, v4⟩ := u8 _ f2.2.1
                show vp_in (nI k) _ ∧ vp_in (nI (4 * b.1.1 + b.2)) _ ∧ _
                have ex : oI (oK (some b)) = nI (4 * b.1.1 + b.2) := rfl
                have eb : nI (4 * b.1.1 + b.2) / (4 : Int32) = nI b.1.1 := by
                  have := pk_div (a := 4 * b.1.1 + b.2) (d := 4) (by omega) (by omega) (by omega)
                  rw [show (4 * b.1.1 + b.2) / 4 = b.1.1 by have := f2.2.1; omega] at this
                  exact this
                rw [ex, eb, nI_clamp (by omega), nI_clamp (show 4 * b.1.1 + b.2 < 2 ^ 31 by omega), nI_clamp (show b.1.1 < 2 ^ 31 by omega), nI_clamp (show k / 4 < 2 ^ 31 by omega), t3, v3, u1, ← e, s1]
                have i1 : vp_in (nI k) (zLen 13 8) := vp_in_nI (show k < 24 by omega) (by decide)
                have i2 : vp_in (nI (4 * b.1.1 + b.2)) (zLen 13 8) := vp_in_nI (show 4 * b.1.1 + b.2 < 24 by omega) (by decide)
                refine ⟨i1, i2, pk_lt (q.2.2.2.2.1.getD (k % 4) dP).2.2 (b.1.2.2.2.2.1.getD b.2 dP).2.2 (fun z4 => take (fun b' e2 => ?_)) (fun z4 => ⟨i1, i2, fun c5 => keep (fun q' hq' r' hc' e' => ⟨b, rfl, ?_⟩), fun c5 => ⟨vp_in_nI (show q.1 < 6 by omega) (by decide), vp_in_nI (show b.1.1 < 6 by omega) (by decide), pk_le b.1.2.1 q.2.1 (fun z6 => keep (fun q' hq' r' hc' e' => ⟨b, rfl, ?_⟩)) (fun z6 => take (fun b' e2 => ?_))⟩⟩)⟩
                · cases e2
                  exact Or.inl z4
                · obtain ⟨y1, y2⟩ := uq q' hq' r' hc' e'
                  subst y1 y2
                  refine Or.inl ?_
                  show (b.1.2.2.2.2.1.getD b.2 dP).2.2 < (q'.2.2.2.2.1.getD (k % 4) dP).2.2
                  rw [nI_eq (by omega) (by omega)] at c5
                  omega
                · obtain ⟨y1, y2⟩ := uq q' hq' r' hc' e'
                  subst y1 y2
                  rw [nI_eq (by omega) (by omega)] at c5
                  refine Or.inr ⟨c5.symm, ?_⟩
                  rcases Nat.lt_or_ge b.1.2.1 q'.2.1 with z | z
                  · exact Or.inl z
                  · have en : b.1.2.1 = q'.2.1 := by omega
                    refine Or.inr ⟨en, ?_⟩
                    have := pw_uniqP pw f1 hq' en
                    rw [this] at f3
                    show b.2 ≤ k % 4
                    omega
                · cases e2
                  rw [nI_eq (by omega) (by omega)] at c5
                  exact Or.inr ⟨c5, Or.inl (by show q.2.1 < b.1.2.1; omega)⟩
  refine e_M_nextOne ?_
  exact loop 24 0 none rfl ⟨fun _ q _ r _ hlt => absurd hlt (Nat.not_lt_zero _), fun b e => (by cases e)⟩
theorem sp_M_next {d : Nat} {h : ZH} {up : Bool} {now given : Nat} {wr : Option Nat} {line : ZT} {gr bg tk : Bool} {snd : ZT} {rcs : List ZT} {tx : ZT} {L : List ZL} {Q : Int32 → ZH → Prop} (a : RM h (up, now, given, wr, line, gr, bg, tk, snd, rcs, tx, L))
    (hq : Q (if up then (match hnF L now L.length 0 none with | none => -1 | some p => nI (L.getD p.1 dL).1) else -1) h) : EvI (d + 2) m_M_next [vQ (some (12, 0))] h Q := by
  obtain ⟨a1, a2, a3, a4, a5, a6, a7, ⟨⟨P, m, rfl⟩, pw, lt⟩⟩ := a
  refine e_M_next ?_
  rw [a1]
  refine ⟨fun c => ?_, fun c => ?_⟩
  · have hup := (bI_0 _).mp c
    rw [hup, if_neg (by decide)] at hq
    exact w_M_next_15 _ ⟨fun z => absurd z (by decide), fun _ => hq⟩
  · have hup := bI_t c
    rw [hup, if_pos rfl] at hq
    refine sp_M_nextOne m pw a2 a3 (fun e => ?_) (fun p q e hqP e2 hr _ => ?_)
    · rw [e] at hq
      exact w_M_next_15 _ ⟨fun z => absurd z (by decide), fun _ => hq⟩
    · rw [e] at hq
      have hq : Q (nI ((P.map Prod.snd).getD p.1 dL).1) h := hq
      rw [← e2] at hq
      obtain ⟨hq6, s1, s2, s3, s4, s5, s6, s7, s8⟩ := m.1 q hqP
      have ed : nI (4 * q.1 + p.2) / (4 : Int32) = nI q.1 := by
        have := pk_div (a := 4 * q.1 + p.2) (d := 4) (by omega) (by omega) (by omega)
        rw [show (4 * q.1 + p.2) / 4 = q.1 by omega] at this
        exact this
      refine w_M_next_15 _ ?_
      rw [ed, nI_clamp (by omega), s1]
      exact ⟨fun _ => ⟨vp_in_nI (show q.1 < 6 by omega) (by decide), hq⟩, fun z => absurd (nI_pos' (by omega)) z⟩
