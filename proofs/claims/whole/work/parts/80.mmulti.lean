theorem ct_pre : ∀ k, k < 12 → (zS 11).getD k 0 = (wdM 11).getD k 0 := by decide +kernel
theorem ct_len : (wdM 11).length = 12 ∧ (zS 11).getD 12 0 = 58 := by decide +kernel
theorem ct_ch : ∀ n : Nat, n < 128 → ∀ k, k < 12 → cSm (nI n) = (wdM 11).getD k 0 → cAn (nI n) = true ∨ nI n = 45 := by decide +kernel
theorem sm58 : ∀ n : Nat, n < 128 → (cSm (nI n) = 58 ↔ nI n = 58) := by decide +kernel
theorem colF_skip {xs : ZT} {st : Nat} : ∀ (m n k : Nat), m ≤ n → (∀ j, j < m → cAn (xs.getD (k + j) 0) = true ∨ xs.getD (k + j) 0 = 45) → colF xs st n k = colF xs st (n - m) (k + m)
  | 0, n, k, _, _ => by rw [Nat.sub_zero, Nat.add_zero]
  | m + 1, n, k, hn, h => by
    obtain ⟨n, rfl⟩ : ∃ n', n = n' + 1 := ⟨n - 1, by omega⟩
    have h0 := h 0 (by omega)
    rw [Nat.add_zero] at h0
    rw [colF, if_pos h0, colF_skip m n (k + 1) (by omega) (fun j hj => by
      have := h (j + 1) (by omega)
      rw [show k + (j + 1) = k + 1 + j by omega] at this
      exact this)]
    rw [show n + 1 - (m + 1) = n - m by omega, show k + (m + 1) = k + 1 + m by omega]
/-- a line's field is content-type: the class's way and the model's -/
theorem ct_eq {xs : ZT} {i : Nat} (hc : ∀ x ∈ xs, zCh x) (hi : i < lC (stF xs)) : mtB xs (lS (stF xs) i) (zS 11) = true ↔ (col xs (stF xs) i = some (lS (stF xs) i + 12) ∧ mtF xs (lS (stF xs) i) (wdM 11) = true) := by
  obtain ⟨f1, f2, f3, f4, f5⟩ := ln_fact hi
  obtain ⟨s, hs⟩ : ∃ s, s = lS (stF xs) i := ⟨_, rfl⟩
  have ch : ∀ k, k < xs.length → ∃ n : Nat, n < 128 ∧ xs.getD k 0 = nI n := fun k hk => hc _ (zgetD_mem hk)
  obtain ⟨cl, c12⟩ := ct_len
  unfold col
  rw [← hs] at f1 f4 ⊢
  constructor
  · intro m
    have hpe := mt_line (by decide) (by decide) m f1 f3
    rw [zS_len13.1] at hpe
    obtain ⟨m1, m2⟩ := mtB_iff.mp m
    rw [zS_len13.1] at m1 m2
    have mf : mtF xs s (wdM 11) = true := by
      rw [mtF_iff, cl]
      intro k hk
      rw [← ct_pre k hk]
      exact m2 k (by omega)
    refine ⟨?_, mf⟩
    rw [colF_skip 12 _ s (by omega) (fun j hj => ?_)]
    · obtain ⟨n, hn⟩ : ∃ n, lE (stF xs) i - s - 12 = n + 1 := ⟨lE (stF xs) i - s - 13, by omega⟩
      have e58 : xs.getD (s + 12) 0 = 58 := by
        have := m2 12 (by omega)
        rw [c12] at this
        obtain ⟨n, h1, h2⟩ := ch (s + 12) (by omega)
        rw [h2] at this ⊢
        exact (sm58 n h1).mp this
      rw [hn, colF, e58, if_neg (fun z => z.elim (fun y => by rw [an58] at y; cases y) (fun y => absurd y (by decide))), if_pos ⟨by omega, rfl⟩]
    · obtain ⟨n, h1, h2⟩ := ch (s + j) (by omega)
      have := m2 j (by omega)
      rw [ct_pre j hj, h2] at this
      rw [h2]
      exact ct_ch n h1 j hj this
  · rintro ⟨h1, h2⟩
    obtain ⟨g1, g2, g3, g4⟩ := colF_bd _ _ _ h1
    rw [mtF_iff, cl] at h2
    rw [mtB_iff, zS_len13.1]
    refine ⟨by omega, fun k hk => ?_⟩
    by_cases e : k = 12
    · subst e
      rw [g4, c12]
      decide
    · rw [ct_pre k (by omega)]
      exact h2 k (by omega)
theorem sp_M_isMulti {d p st he : Nat} {h : ZH} {xs : ZT} {Q : Int32 → ZH → Prop} (a : mdI h p xs) (h1 : st ≤ he) (h2 : he ≤ lC (stF xs)) (q0 : bnF xs (stF xs) (he - st) st = none → ∀ h', zSa BDP h h' → Q 0 h') (q1 : ∀ b, bnF xs (stF xs) (he - st) st = some b → ∀ h', bdK h' p b → zSa BDP h h' → Q 1 h') : EvI (d + 3) m_M_isMulti [vQ (some (12, 0)), vI (nI st), vI (nI he)] h Q := by
  have hl := a.lc
  have hp := a.1
  have hxl := a.2.1.2
  obtain ⟨cl, c12⟩ := ct_len
  have loop : ∀ (n i : Nat), i + n = he → (bnF xs (stF xs) n i = none → ∀ h', zSa BDP h h' → Q 0 h') → (∀ b, bnF xs (stF xs) n i = some b → ∀ h', bdK h' p b → zSa BDP h h' → Q 1 h') → EvAt (d + 3) m_M_isMulti 2 [some (vQ (some (12, 0))), none, some (vI (nI he)), some (vI (nI i)), none] [] h (zQI Q) := by
    intro n
    induction n with
    | zero =>
      intro i hi q0 q1
      exact w_M_isMulti_2 _ _ (pk_le he i (fun _ => q0 rfl h zSa.rfl) (fun z => by omega))
    | succ n ih =>
      intro i hi q0 q1
      have hil : i < lC (stF xs) := by omega
      obtain ⟨f1, f2, f3, f4, f5⟩ := ln_fact hil
      rw [bnF] at q0
      have ce := ct_eq a.2.1.1.2.2 hil
      have no : ¬ mtB xs (lS (stF xs) i) (zS 11) = true → EvAt (d + 3) m_M_isMulti 61 [some (vQ (some (12, 0))), none, some (vI (nI he)), some (vI (nI i)), none] [] h (zQI Q) := by
        intro z
        rw [if_neg z] at q0
        refine w_M_isMulti_61 _ _ ?_
        rw [nI_inc]
        refine ih (i + 1) (by omega) q0 (fun b e => q1 b ?_)
        rw [bnF, if_neg z]
        exact e
      refine w_M_isMulti_2 _ _ (pk_le he i (fun z => by omega) (fun _ => sp_M_colon (d := d) a hil ⟨vp_in_nI (show i < 604 by omega) (by decide), ?_⟩))
      rw [nI_clamp (by omega), a.s hil, show nI (602 * p + lS (stF xs) i) + (12 : Int32) = nI (602 * p + (lS (stF xs) i + 12)) from nI_add _ 12]
      refine ⟨fun c => no (fun z => c (by rw [(ce.mp z).1]; rfl)), fun c => ⟨vp_in_nI (show i < 604 by omega) (by decide), ?_⟩⟩
      have hcol : col xs (stF xs) i = some (lS (stF xs) i + 12) := by
        cases hz : col xs (stF xs) i with
        | none =>
          rw [hz] at c
          exact absurd (show nI (602 * p + (lS (stF xs) i + 12)) < 0 by rw [← c]; exact (show (-1 : Int32) < 0 by decide)) (nI_pos (by omega))
        | some k =>
          rw [hz] at c
          have := (col_bd hil hxl k hz).2.2.1
          have c : nI (602 * p + k) = nI (602 * p + (lS (stF xs) i + 12)) := c
          rw [nI_eq (by omega) (by omega)] at c
          rw [show k = lS (stF xs) i + 12 by omega]
      obtain ⟨g1, g2, g3, g4⟩ := col_bd hil hxl _ hcol
      rw [c]
      refine sp_M_matches (d := d + 1) (j := 11) a (by decide) (by decide) (by omega) (by omega) ?_
      rw [cl, decide_eq_true (show lS (stF xs) i + 12 ≤ lS (stF xs) i + 12 from Nat.le_refl _), Bool.true_and]
      refine ⟨fun c2 => no (fun z => ?_), fun c2 => ?_⟩
      · rw [(ce.mp z).2] at c2
        exact absurd c2 (by decide)
      · have hm := ce.mpr ⟨hcol, bI_t c2⟩
        rw [if_pos hm] at q0
        rw [nI_inc]
        refine sp_M_boundary (d := d) (s := lS (stF xs) i + 13) a hil (by omega) (fun e h' s' => ⟨by decide, q0 e h' s'⟩) (fun b e h' bk s' => ⟨by decide, q1 b ?_ h' bk s'⟩)
        rw [bnF, if_pos hm]
        exact e
  exact e_M_isMulti _ _ (loop (he - st) st (by omega) q0 q1)
theorem rpB_iff {xs : ZT} {s b : Nat} : ∀ (n k : Nat), rpB xs s b n k = true ↔ ∀ j, k ≤ j → j < k + n → xs.getD (s + j) 0 = xs.getD (b + j) 0
  | 0, k => ⟨fun _ j h1 h2 => by omega, fun _ => rfl⟩
  | n + 1, k => by
    rw [rpB, Bool.and_eq_true, decide_eq_true_eq, rpB_iff n (k + 1)]
    constructor
    · rintro ⟨h1, h2⟩ j h3 h4
      by_cases e : j = k
      · subst e; exact h1
      · exact h2 j (by omega) (by omega)
    · intro h
      exact ⟨h k (Nat.le_refl _) (by omega), fun j h1 h2 => h j (by omega) (by omega)⟩
theorem sp_M_border {d p i : Nat} {b : Nat × Nat} {h : ZH} {xs : ZT} {Q : Int32 → ZH → Prop} (a : mdI h p xs) (bk : bdK h p b) (hb : b.1 + b.2 < xs.length) (hb20 : b.2 ≤ 20) (hi : i < lC (stF xs)) (hq : Q (nI (brF xs (stF xs) b i)) h) : EvI (d + 1) m_M_border [vQ (some (12, 0)), vI (nI i)] h Q := by
  have hl := a.lc
  have hp := a.1
  have hxl := a.2.1.2
  obtain ⟨f1, f2, f3, f4, f5⟩ := ln_fact hi
  obtain ⟨s, hs⟩ : ∃ s, s = lS (stF xs) i := ⟨_, rfl⟩
  obtain ⟨e, he⟩ : ∃ e, e = lE (stF xs) i := ⟨_, rfl⟩
  unfold brF at hq
  have as := a.s hi
  rw [← hs, ← he] at hq
  rw [← hs] at f1 as
  rw [← he] at f1 f2 f3
  -- rem: what is left of the line behind the boundary
  have k0 : ∀ x3 : Int32, Q 0 h → EvAt (d + 1) m_M_border 59 [some (vQ (some (12, 0))), none, some (vI (nI (602 * p + s))), some (vI x3), none, none] [] h (zQI Q) := by
    intro x3 hq0
    refine w_M_border_59 _ _ (w_M_border_60 _ _ _ (w_M_border_65 _ _ _ _ ?_))
    have k118 : EvAt (d + 1) m_M_border 118 [some (vQ (some (12, 0))), none, some (vI (nI (602 * p + s))), some (vI x3), some (vI (0 : Int32)), none] [] h (zQI Q) := w_M_border_118 _ _ _ ⟨fun _ => w_M_border_127 _ ⟨fun _ => hq0, fun z => absurd rfl z⟩, fun z => absurd rfl z⟩
    exact ⟨fun _ => k118, fun _ => ⟨fun _ => k118, fun z => absurd rfl z⟩⟩
  have rep : ∀ (m : Nat) (x3 : Int32), (x3 = 0 ∧ m = 0) ∨ (x3 = 2 ∧ m = 2) → s + 2 + b.2 + m = e → (∀ v, (rpB xs (s + 2) b.1 b.2 0 = true → (m = 0 → v = 1) ∧ (m = 2 → v = if dsB xs (s + 2 + b.2) = true then 2 else 0)) → (rpB xs (s + 2) b.1 b.2 0 = false → v = 0) → Q (nI v) h) → EvAt (d + 1) m_M_border 60 [some (vQ (some (12, 0))), none, some (vI (nI (602 * p + s))), some (vI x3), none, none] [vI (1 : Int32)] h (zQI Q) := by
    intro m x3 hx hm hv
    have k118 : ∀ bb : Bool, bb = rpB xs (s + 2) b.1 b.2 0 → EvAt (d + 1) m_M_border 118 [some (vQ (some (12, 0))), none, some (vI (nI (602 * p + s))), some (vI x3), some (vI (bI bb)), none] [] h (zQI Q) := by
      intro bb hbb
      refine w_M_border_118 _ _ _ ⟨fun c => w_M_border_127 _ ⟨fun _ => ?_, fun z => absurd c z⟩, fun c => ?_⟩
      · exact hv 0 (fun z => by rw [(bI_0 _).mp c] at hbb; rw [z] at hbb; cases hbb) (fun _ => rfl)
      · have hbt := bI_t c
        rw [hbt] at hbb
        rw [bk.2, show nI (602 * p + s) + (2 : Int32) = nI (602 * p + s + 2) from nI_add _ 2, show nI (602 * p + s) + (3 : Int32) = nI (602 * p + s + 3) from nI_add _ 3, nI_add, nI_add, nI_clamp (by omega), nI_clamp (by omega)]
        rcases hx with ⟨rfl, rfl⟩ | ⟨rfl, rfl⟩
        · refine ⟨fun z => absurd rfl z, fun _ => w_M_border_127 _ ⟨fun z => absurd z c, fun _ => ?_⟩⟩
          exact hv 1 (fun _ => ⟨fun _ => rfl, fun z => by omega⟩) (fun z => by rw [z] at hbb; cases hbb)
        · rw [show 602 * p + s + 2 + b.2 = 602 * p + (s + 2 + b.2) by omega, show 602 * p + s + 3 + b.2 = 602 * p + (s + 2 + b.2 + 1) by omega, a.c (by omega), a.c (by omega)]
          refine ⟨fun _ => ⟨vp_in_nI (show 602 * p + (s + 2 + b.2) < 4816 by omega) (by decide), fun c2 => ?_, fun c2 => ⟨vp_in_nI (show 602 * p + (s + 2 + b.2 + 1) < 4816 by omega) (by decide), fun c3 => ?_, fun c3 => ?_⟩⟩, fun z => absurd z (by decide)⟩
          · refine hv 0 (fun _ => ⟨fun z => by omega, fun _ => ?_⟩) (fun _ => rfl)
            unfold dsB
            rw [decide_eq_false c2]
            rfl
          · refine hv 0 (fun _ => ⟨fun z => by omega, fun _ => ?_⟩) (fun _ => rfl)
            unfold dsB
            rw [decide_eq_false c3, Bool.and_false]
            rfl
          · refine hv 2 (fun _ => ⟨fun z => by omega, fun _ => ?_⟩) (fun z => by rw [z] at hbb; cases hbb)
            unfold dsB
            rw [decide_eq_true c2, decide_eq_true c3]
            rfl
    have loop : ∀ (n k : Nat) (bb : Bool), k + n = b.2 → (bb && rpB xs (s + 2) b.1 n k) = rpB xs (s + 2) b.1 b.2 0 → EvAt (d + 1) m_M_border 65 [some (vQ (some (12, 0))), none, some (vI (nI (602 * p + s))), some (vI x3), some (vI (bI bb)), some (vI (nI k))] [] h (zQI Q) := by
      intro n
      induction n with
      | zero =>
        intro k bb hk hr
        rw [rpB, Bool.and_true] at hr
        refine w_M_border_65 _ _ _ _ ?_
        rw [bk.2]
        exact pk_le b.2 k (fun _ => k118 bb hr) (fun z => by omega)
      | succ n ih =>
        intro k bb hk hr
        refine w_M_border_65 _ _ _ _ ?_
        rw [bk.2, bk.1, show nI (602 * p + s) + (2 : Int32) = nI (602 * p + s + 2) from nI_add _ 2, nI_add, nI_add, nI_clamp (by omega), nI_clamp (by omega), show 602 * p + s + 2 + k = 602 * p + (s + 2 + k) by omega, show 602 * p + b.1 + k = 602 * p + (b.1 + k) by omega, a.c (by omega), a.c (by omega)]
        refine pk_le b.2 k (fun z => by omega) (fun _ => ⟨fun c => k118 bb ?_, fun c => ⟨vp_in_nI (show 602 * p + (s + 2 + k) < 4816 by omega) (by decide), vp_in_nI (show 602 * p + (b.1 + k) < 4816 by omega) (by decide), fun c2 => w_M_border_110 _ _ _ _ ?_, fun c2 => w_M_border_110 _ _ _ _ ?_⟩⟩)
        · rw [(bI_0 _).mp c, Bool.false_and] at hr
          rw [(bI_0 _).mp c]
          exact hr
        · rw [nI_inc]
          rw [rpB, decide_eq_false c2, Bool.false_and, Bool.and_false] at hr
          exact ih (k + 1) false (by omega) (by rw [Bool.false_and]; exact hr)
        · rw [nI_inc]
          rw [rpB, decide_eq_true c2, Bool.true_and, bI_t c] at hr
          exact ih (k + 1) true (by omega) hr
    exact w_M_border_60 _ _ _ (loop b.2 0 true (Nat.zero_add _) (by rw [Bool.true_and]))
  have k31 : ∀ (m : Nat) (x3 : Int32), (x3 = 0 ∧ m = 0) ∨ (x3 = 2 ∧ m = 2) → s + 2 + b.2 + m = e → EvAt (d + 1) m_M_border 31 [some (vQ (some (12, 0))), none, some (vI (nI (602 * p + s))), some (vI x3), none, none] [] h (zQI Q) := by
    intro m x3 hx hm
    have hm2 : m = 0 ∨ m = 2 := by omega
    refine w_M_border_31 _ _ ?_
    rw [nI_inc, nI_clamp (by omega), nI_clamp (by omega), show 602 * p + s + 1 = 602 * p + (s + 1) by omega, a.c (by omega), a.c (by omega)]
    refine ⟨vp_in_nI (show 602 * p + s < 4816 by omega) (by decide), fun c => k0 x3 ?_, fun c => ⟨vp_in_nI (show 602 * p + (s + 1) < 4816 by omega) (by decide), fun c2 => k0 x3 ?_, fun c2 => rep m x3 hx hm (fun v v1 v0 => ?_)⟩⟩
    · unfold dsB at hq
      rw [decide_eq_false c, Bool.false_and, Bool.false_and, if_neg (by decide)] at hq
      exact hq
    · unfold dsB at hq
      rw [decide_eq_false c2, Bool.and_false, Bool.false_and, if_neg (by decide)] at hq
      exact hq
    · have ds : dsB xs s = true := by unfold dsB; rw [decide_eq_true c, decide_eq_true c2]; rfl
      rw [ds, Bool.true_and] at hq
      cases hr : rpB xs (s + 2) b.1 b.2 0 with
      | false =>
        rw [hr, if_neg (by decide)] at hq
        rw [v0 hr]
        exact hq
      | true =>
        rw [hr, if_pos rfl] at hq
        obtain ⟨w0, w2⟩ := v1 hr
        rcases hm2 with rfl | rfl
        · rw [if_pos (by omega)] at hq
          rw [w0 rfl]
          exact hq
        · rw [if_neg (by omega)] at hq
          rw [w2 rfl]
          by_cases c5 : dsB xs (s + 2 + b.2) = true
          · rw [if_pos ⟨by omega, c5⟩] at hq
            rw [if_pos c5]
            exact hq
          · rw [if_neg (fun z => c5 z.2)] at hq
            rw [if_neg c5]
            exact hq
  have hq0 : s + 2 + b.2 ≠ e → s + 2 + b.2 + 2 ≠ e → Q 0 h := by
    intro z1 z2
    by_cases c : (dsB xs s && rpB xs (s + 2) b.1 b.2 0) = true
    · rw [if_pos c, if_neg z1, if_neg (fun y => z2 y.1)] at hq
      exact hq
    · rw [if_neg c] at hq
      exact hq
  refine e_M_border _ ⟨vp_in_nI (show i < 604 by omega) (by decide), sp_M_endOf a hi ?_⟩
  rw [nI_clamp (by omega), as, ← he, bk.2, pk_sub (show 602 * p + s ≤ 602 * p + e by omega), show 602 * p + e - (602 * p + s) = e - s by omega]
  have eqn : ∀ c : Nat, c ≤ 4 → (((nI (e - s) - (2 : Int32)) - nI b.2 = nI c) ↔ e = s + 2 + b.2 + c) := by
    intro c hc
    rw [Int32.sub_eq_iff_eq_add, Int32.sub_eq_iff_eq_add, nI_add, show nI (c + b.2) + (2 : Int32) = nI (c + b.2 + 2) from nI_add _ 2, nI_eq (by omega) (by omega)]
    omega
  refine ⟨fun c => ?_, fun c => ⟨fun c2 => ?_, fun c2 => ?_⟩⟩
  · have := (eqn 0 (by omega)).mp c
    exact k31 0 _ (Or.inl ⟨c, rfl⟩) (by omega)
  · exact k0 _ (hq0 (fun z => c ((eqn 0 (by omega)).mpr (by omega))) (fun z => c2 ((eqn 2 (by omega)).mpr (by omega))))
  · have := (eqn 2 (by omega)).mp c2
    exact k31 2 _ (Or.inr ⟨c2, rfl⟩) (by omega)
