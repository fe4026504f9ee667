/-! the model's letter -/
theorem snF_filter (x : Int32) : ∀ (L : List ZL) (c : Nat), snF x c L = snF x c (L.filter sld)
  | [], _ => rfl
  | l :: t, c => by
    rw [List.filter_cons]
    by_cases e : l.2.1 = true
    · rw [if_pos (show sld l = true from e), snF, snF, if_pos e, if_pos e, snF_filter x t (c + 1)]
    · rw [if_neg (show ¬ sld l = true from e), snF, if_neg e, snF_filter x t c]
def oB : Nat → Int32
  | 0 => -1
  | n + 1 => nI n
theorem oB_le {n B : Nat} (hn : n < 2 ^ 30) (hB : B < 2 ^ 30) : nI n ≤ oB B ↔ n < B := by
  cases B with
  | zero =>
    constructor
    · intro z
      exact absurd (Int32.lt_of_le_of_lt z (show oB 0 < 0 by decide)) (nI_pos (by omega))
    · intro z
      omega
  | succ B =>
    show nI n ≤ nI B ↔ _
    rw [nI_leI (by omega) (by omega)]
    omega
theorem oI_neg {o : Option Nat} (hb : ∀ n, o = some n → n < 2 ^ 30) : oI o < 0 ↔ o = none := by
  cases o with
  | none => exact ⟨fun _ => rfl, fun _ => by decide⟩
  | some n => exact ⟨fun z => absurd z (nI_pos (by have := hb n rfl; omega)), fun z => (by cases z)⟩
theorem sPl_mem {P : List (Nat × ZL)} {p : Nat} : p ∈ sPl P ↔ ∃ q ∈ P, q.2.2.1 = true ∧ q.1 = p := by
  unfold sPl
  rw [List.mem_map]
  constructor
  · rintro ⟨q, hq, e⟩
    exact ⟨q, (List.mem_filter.mp hq).1, (List.mem_filter.mp hq).2, e⟩
  · rintro ⟨q, hq, hs, e⟩
    exact ⟨q, List.mem_filter.mpr ⟨hq, hs⟩, e⟩
/-- the least number of a sealed letter that is at least B, among the places below p -/
def lsI (P : List (Nat × ZL)) (B p : Nat) (o : Option Nat) : Prop := (o = none → ∀ q ∈ P, q.1 < p → q.2.2.1 = true → q.2.1 < B) ∧ ∀ n, o = some n → (∃ q ∈ P, q.2.2.1 = true ∧ q.2.1 = n) ∧ B ≤ n ∧ ∀ q ∈ P, q.1 < p → q.2.2.1 = true → B ≤ q.2.1 → n ≤ q.2.1
theorem letter_in {d j B : Nat} {x : Int32} {h : ZH} {P : List (Nat × ZL)} {Q : Int32 → ZH → Prop} (m : msp h P) (hB : B < 2 ^ 30) (K0 : lsI P B 6 none → Q (-1) h) (K1 : ∀ n, lsI P B 6 (some n) → EvAt (d + 1) m_M_letter 4 [some (vQ (some (12, 0))), some (vI x), some (vI (nI n)), some (vI (nI (j + 1))), none, none, none] [] h (zQI Q)) :
    ∀ (n p : Nat) (o : Option Nat), p + n = 6 → lsI P B p o → EvAt (d + 1) m_M_letter 15 [some (vQ (some (12, 0))), some (vI x), some (vI (oB B)), some (vI (nI j)), some (vI (oI o)), some (vI (nI p)), none] [] h (zQI Q) := by
  have bnd : ∀ (p : Nat) (o : Option Nat), lsI P B p o → ∀ n, o = some n → n < 2 ^ 30 := by
    intro p o hl n e
    obtain ⟨⟨q, hq, -, e2⟩, -⟩ := hl.2 n e
    have := (m.1 q hq).2.2.1
    omega
  intro n
  induction n with
  | zero =>
    intro p o hp hl
    have : p = 6 := by omega
    subst this
    refine w_M_letter_15 _ _ _ _ _ (pk_le 6 6 (fun _ => ⟨fun c => ?_, fun c => ?_⟩) (fun z => by omega))
    · cases o with
      | none => exact absurd c (by decide)
      | some n =>
        rw [nI_inc]
        exact K1 n hl
    · have c := Int32.not_le.mp c
      rw [oI_neg (bnd 6 o hl)] at c
      subst c
      exact K0 hl
  | succ n ih =>
    intro p o hp hl
    have keep : (∀ q ∈ P, q.1 = p → q.2.2.1 = true → B ≤ q.2.1 → ∃ n, o = some n ∧ n ≤ q.2.1) → EvAt (d + 1) m_M_letter 63 [some (vQ (some (12, 0))), some (vI x), some (vI (oB B)), some (vI (nI j)), some (vI (oI o)), some (vI (nI p)), none] [] h (zQI Q) := by
      intro z
      refine w_M_letter_63 _ _ _ _ _ (w_M_letter_64 _ _ _ _ _ _ ⟨fun _ => w_M_letter_83 _ _ _ _ _ ?_, fun c => absurd rfl c⟩)
      rw [nI_inc]
      refine ih (p + 1) o (by omega) ⟨fun e q hq hlt hs => ?_, fun n e => ?_⟩
      · by_cases e2 : q.1 = p
        · rcases Nat.lt_or_ge q.2.1 B with y | y
          · exact y
          · obtain ⟨n, e3, -⟩ := z q hq e2 hs y
            rw [e] at e3
            cases e3
        · exact hl.1 e q hq (by omega) hs
      · obtain ⟨f1, f2, f3⟩ := hl.2 n e
        refine ⟨f1, f2, fun q hq hlt hs hb => ?_⟩
        by_cases e2 : q.1 = p
        · obtain ⟨n', e3, h3⟩ := z q hq e2 hs hb
          rw [e] at e3
          cases e3
          exact h3
        · exact f3 q hq (by omega) hs hb
    refine w_M_letter_15 _ _ _ _ _ (pk_le 6 p (fun z => by omega) (fun _ => ?_))
    refine sp_M_isLetterAt m (by omega) ⟨fun c => keep (fun q hq e hs _ => ?_), fun c => ?_⟩
    · have := of_decide_eq_false ((bI_0 _).mp c)
      exact absurd (sPl_mem.mpr ⟨q, hq, hs, e⟩) this
    · obtain ⟨q, hq, hs, e⟩ := sPl_mem.mp (of_decide_eq_true (bI_t c))
      have hnum := (m.1 q hq).2.1
      have hbd := (m.1 q hq).2.2.1
      have uq : ∀ q' ∈ P, q'.1 = p → q' = q := fun q' hq' e' => fst_inj m.2.1 hq' hq (by omega)
      rw [e] at hnum
      have take : B ≤ q.2.1 → (∀ n, o = some n → q.2.1 < n) → EvAt (d + 1) m_M_letter 59 [some (vQ (some (12, 0))), some (vI x), some (vI (oB B)), some (vI (nI j)), some (vI (oI o)), some (vI (nI p)), none] [] h (zQI Q) := by
        intro z1 z2
        refine w_M_letter_59 _ _ _ _ _ (w_M_letter_64 _ _ _ _ _ _ ⟨fun c => absurd c (by decide), fun _ => ⟨vp_in_nI (show p < 6 by omega) (by decide), w_M_letter_83 _ _ _ _ _ ?_⟩⟩)
        rw [nI_clamp (by omega), hnum, nI_inc]
        refine ih (p + 1) (some q.2.1) (by omega) ⟨fun e => (by cases e), fun n e2 => ?_⟩
        cases e2
        refine ⟨⟨q, hq, hs, rfl⟩, z1, fun q' hq' hlt hs' hb' => ?_⟩
        by_cases e3 : q'.1 = p
        · rw [uq q' hq' e3]
          exact Nat.le_refl _
        · cases o with
          | none =>
            have := hl.1 rfl q' hq' (by omega) hs'
            omega
          | some n =>
            have y1 := z2 n rfl
            have y2 := (hl.2 n rfl).2.2 q' hq' (by omega) hs' hb'
            omega
      rw [nI_clamp (by omega), hnum, oB_le (by omega) hB]
      refine ⟨vp_in_nI (show p < 6 by omega) (by decide), fun c2 => keep (fun q' hq' e' hs' hb' => ?_), fun c2 => ⟨fun c3 => take (by omega) (fun n e2 => ?_), fun c3 => ⟨vp_in_nI (show p < 6 by omega) (by decide), ?_⟩⟩⟩
      · rw [uq q' hq' e'] at hb'
        omega
      · rw [oI_neg (bnd p o hl)] at c3
        rw [c3] at e2
        cases e2
      · cases o with
        | none => exact absurd (by decide) c3
        | some n =>
          have hn := bnd p _ hl n rfl
          refine pk_le n q.2.1 (fun z => keep (fun q' hq' e' hs' hb' => ⟨n, rfl, ?_⟩)) (fun z => take (by omega) (fun n' e2 => ?_))
          · rw [uq q' hq' e']; exact z
          · cases e2; exact z
theorem sp_M_letter {d : Nat} {x : Int32} {h : ZH} {P : List (Nat × ZL)} {Q : Int32 → ZH → Prop} (m : msp h P) (pw : (P.map Prod.snd).Pairwise (fun a b => a.1 < b.1)) (hq : Q (snF x 0 (P.map Prod.snd)) h) : EvI (d + 1) m_M_letter [vQ (some (12, 0)), vI x] h Q := by
  have h6 := m.len
  have hfl : ∀ l, l ∈ (P.map Prod.snd).filter sld ↔ ∃ q ∈ P, q.2.2.1 = true ∧ q.2 = l := by
    intro l
    rw [List.mem_filter, List.mem_map]
    constructor
    · rintro ⟨⟨q, hq, rfl⟩, hs⟩
      exact ⟨q, hq, hs, rfl⟩
    · rintro ⟨q, hq, hs, rfl⟩
      exact ⟨⟨q, hq, rfl⟩, hs⟩
  have loop : ∀ (T : List ZL) (j B : Nat), j + T.length ≤ 6 → B < 2 ^ 30 → (∀ l, l ∈ T ↔ l ∈ (P.map Prod.snd).filter sld ∧ B ≤ l.1) → T.Pairwise (fun a b => a.1 < b.1) → Q (if x < nI j then oB B else snF x j T) h → EvAt (d + 1) m_M_letter 4 [some (vQ (some (12, 0))), some (vI x), some (vI (oB B)), some (vI (nI j)), none, none, none] [] h (zQI Q) := by
    intro T
    induction T with
    | nil =>
      intro j B hj hB hT hpw hq
      refine w_M_letter_4 _ _ _ ⟨fun c => ?_, fun c => ?_⟩
      · rw [if_pos c] at hq; exact hq
      · rw [if_neg c] at hq
        refine letter_in m hB (fun _ => hq) (fun n hl => ?_) 6 0 none rfl ⟨fun _ q _ hlt => absurd hlt (Nat.not_lt_zero _), fun n e => (by cases e)⟩
        obtain ⟨⟨q, hq1, hs, e⟩, hb, -⟩ := hl.2 n rfl
        have := (hT q.2).mpr ⟨(hfl q.2).mpr ⟨q, hq1, hs, rfl⟩, by omega⟩
        cases this
    | cons l t ih =>
      intro j B hj hB hT hpw hq
      rw [List.pairwise_cons] at hpw
      rw [List.length_cons] at hj
      have hl := (hT l).mp List.mem_cons_self
      obtain ⟨q0, hq0, hs0, e0⟩ := (hfl l).mp hl.1
      have hlb : l.1 < 2 ^ 29 := by rw [← e0]; exact (m.1 q0 hq0).2.2.1
      refine w_M_letter_4 _ _ _ ⟨fun c => ?_, fun c => ?_⟩
      · rw [if_pos c] at hq; exact hq
      · rw [if_neg c] at hq
        have hsl : l.2.1 = true := by rw [← e0]; exact hs0
        rw [snF, if_pos hsl] at hq
        refine letter_in m hB (fun hl0 => ?_) (fun n hln => ?_) 6 0 none rfl ⟨fun _ q _ hlt => absurd hlt (Nat.not_lt_zero _), fun n e => (by cases e)⟩
        · have := hl0.1 rfl q0 hq0 (m.1 q0 hq0).1 hs0
          rw [e0] at this
          omega
        · obtain ⟨⟨q, hq1, hs, e⟩, hb, hmin⟩ := hln.2 n rfl
          have h1 : n ≤ l.1 := by
            have := hmin q0 hq0 (m.1 q0 hq0).1 hs0 (by rw [e0]; exact hl.2)
            rw [e0] at this
            exact this
          have h2 : l.1 ≤ n := by
            have hin : q.2 ∈ l :: t := (hT q.2).mpr ⟨(hfl q.2).mpr ⟨q, hq1, hs, rfl⟩, by omega⟩
            rcases List.mem_cons.mp hin with z | z
            · rw [← e, z]
              exact Nat.le_refl _
            · have := hpw.1 q.2 z
              omega
          have hn : n = l.1 := by omega
          subst hn
          refine ih (j + 1) (l.1 + 1) (by omega) (by omega) (fun l' => ?_) hpw.2 ?_
          · constructor
            · intro z
              have := hpw.1 l' z
              exact ⟨((hT l').mp (List.mem_cons_of_mem _ z)).1, by omega⟩
            · rintro ⟨z1, z2⟩
              rcases List.mem_cons.mp ((hT l').mpr ⟨z1, by omega⟩) with y | y
              · rw [y] at z2
                omega
              · exact y
          · by_cases e5 : nI j = x
            · rw [if_pos e5] at hq
              rw [if_pos (by rw [← e5, nI_ltI (by omega) (by omega)]; omega)]
              exact hq
            · rw [if_neg e5] at hq
              rw [if_neg]
              · exact hq
              · intro z
                have h0 : ¬ x < 0 := fun y => c (Int32.lt_of_lt_of_le y (nI_pos' (by omega)))
                obtain ⟨k, hk, rfl⟩ := nI_of h0
                rw [nI_ltI (by omega) (by omega)] at z c
                exact e5 (by rw [show k = j by omega])
  refine e_M_letter _ ?_
  have hlen : ((P.map Prod.snd).filter sld).length ≤ 6 := by
    have := List.length_filter_le sld (P.map Prod.snd)
    rw [List.length_map] at this
    omega
  refine loop ((P.map Prod.snd).filter sld) 0 0 (by omega) (by omega) (fun l => ⟨fun z => ⟨z, Nat.zero_le _⟩, fun z => z.1⟩) (List.Pairwise.filter _ pw) ?_
  rw [snF_filter] at hq
  by_cases c : x < nI 0
  · rw [if_pos c]
    have : ∀ (T : List ZL) (c : Nat), c + T.length < 2 ^ 30 → snF x c T = -1 := by
      intro T
      induction T with
      | nil => intro c _; rfl
      | cons l t ih =>
        intro k hk
        rw [List.length_cons] at hk
        rw [snF, ih (k + 1) (by omega), ih k (by omega)]
        by_cases e : l.2.1 = true
        · rw [if_pos e, if_neg]
          intro z
          rw [← z, nI_0] at c
          exact nI_pos (by omega) c
        · rw [if_neg e]
    rw [this _ 0 (by omega)] at hq
    exact hq
  · rw [if_neg c]
    exact hq
