theorem alF_le (xs : ZT) : ∀ n p, alF xs n p ≤ n
  | 0, _ => Nat.le_refl _
  | n + 1, p => by
    rw [alF]
    split
    · have := alF_le xs n (p + 1)
      omega
    · omega
/-- a run of letters and digits ends with its line -/
theorem alF_cut {xs : ZT} {e : Nat} (he : xs.getD e 0 = 10) : ∀ (n m p : Nat), p + n = e → n ≤ m → alF xs m p = alF xs n p
  | 0, m, p, hp, _ => by
    have : p = e := by omega
    subst this
    cases m with
    | zero => rfl
    | succ m =>
      show (if cAn (xs.getD p 0) = true then alF xs m (p + 1) + 1 else 0) = 0
      rw [he, an10]
      rfl
  | n + 1, m, p, hp, hm => by
    cases m with
    | zero => omega
    | succ m => rw [alF, alF, alF_cut he n m (p + 1) (by omega) (by omega)]
theorem sp_D_boundaryLength {d r b : Nat} {h : ZH} {xs : ZT} {Q : Int32 → ZH → Prop} (a : rdI h r xs) (hb : b ≤ xs.length) (hq : Q (nI (alF xs (xs.length - b) b)) h) : EvI (d + 1) m_D_boundaryLength [vQ (some (10, 0)), vI (nI b)] h Q := by
  have hxl := a.len
  have loop : ∀ (n p : Nat), p + n = xs.length → b ≤ p → Q (nI ((p - b) + alF xs n p)) h → EvAt (d + 1) m_D_boundaryLength 2 [some (vQ (some (10, 0))), some (vI (nI b)), some (vI (nI p))] [] h (zQI Q) := by
    intro n
    induction n with
    | zero =>
      intro p hp hbp hq
      have : p = xs.length := by omega
      subst this
      refine w_D_boundaryLength_2 _ _ ⟨r, a.1, a.2.1, ?_⟩
      rw [a.2.2.1.1, pk_sub hbp]
      exact pk_le xs.length xs.length (fun _ => hq) (fun z => (by omega))
    | succ n ih =>
      intro p hp hbp hq
      refine w_D_boundaryLength_2 _ _ ⟨r, a.1, a.2.1, ?_⟩
      rw [a.2.2.1.1, pk_sub hbp]
      refine pk_le xs.length p (fun z => by omega) (fun _ => ⟨r, a.1, a.2.1, sp_R_at a.2.1 a.2.2.1 (sp_G_an ?_)⟩)
      rw [rAt_nI (by omega), nI_inc]
      rw [alF] at hq
      refine ⟨fun c => ?_, fun c => ?_⟩
      · rw [if_neg (by rw [(bI_0 _).mp c]; decide)] at hq
        exact hq
      · rw [if_pos (bI_t c)] at hq
        refine ih (p + 1) (by omega) (by omega) ?_
        rw [show p + 1 - b + alF xs n (p + 1) = p - b + (alF xs n (p + 1) + 1) by omega]
        exact hq
  refine e_D_boundaryLength _ (loop (xs.length - b) b (by omega) (Nat.le_refl _) ?_)
  rw [Nat.sub_self, Nat.zero_add]
  exact hq
def bI1 (o : Option (Nat × Nat)) : Int32 := oI (o.map Prod.fst)
theorem skF_le (xs : ZT) : ∀ n p, p ≤ skF xs n p ∧ skF xs n p ≤ p + n
  | 0, p => ⟨Nat.le_refl _, Nat.le_refl _⟩
  | n + 1, p => by
    rw [skF]
    split
    · have := skF_le xs n (p + 1)
      omega
    · omega
theorem sp_D_findBoundaryBetween {d r s e : Nat} {h : ZH} {xs : ZT} {Q : Int32 → ZH → Prop} (a : rdI h r xs) (h1 : s ≤ e) (h2 : e < xs.length) (he : xs.getD e 0 = 10) (hq : Q (bI1 (bndF xs s e)) h) : EvI (d + 5) m_D_findBoundaryBetween [vQ (some (10, 0)), vI (nI s), vI (nI e)] h Q := by
  have hxl := a.len
  obtain ⟨l11, l12, l13⟩ := zS_len13
  have z13 : zSL.getD 13 0 = 9 := by rw [zS_len (by decide)]; exact l13
  have z12 : zSL.getD 12 0 = 10 := by rw [zS_len (by decide)]; exact l12
  have l50 : ∀ (n p : Nat), n = e - p → Q (bI1 (boF xs e n p)) h → p < 2 ^ 30 → EvAt (d + 5) m_D_findBoundaryBetween 50 [some (vQ (some (10, 0))), none, some (vI (nI e)), none, some (vI (nI p)), none, none] [] h (zQI Q) := by
    intro n
    induction n with
    | zero =>
      intro p hp hq hb
      exact w_D_findBoundaryBetween_50 _ _ (pk_le e p (fun _ => hq) (fun z => by omega))
    | succ n ih =>
      intro p hp hq hb
      refine w_D_findBoundaryBetween_50 _ _ (pk_le e p (fun z => by omega) (fun _ => ⟨r, a.1, a.2.1, sp_R_matches (d := d) a.2.1 (by decide) a.2.2.1 hb ?_⟩))
      rw [nI_inc, z13, nI_add]
      rw [boF] at hq
      refine ⟨fun c => ?_, fun c => ?_⟩
      · rw [if_neg (by rw [(bI_0 _).mp c]; decide)] at hq
        exact ih (p + 1) (by omega) hq (by omega)
      · have hm := bI_t c
        rw [if_pos hm] at hq
        have hpe := mt_line (by decide) (by decide) hm (show p ≤ e by omega) he
        rw [l13] at hpe
        refine sp_D_boundaryLength (d := d + 3) a (by omega) ?_
        rw [alF_cut he (e - (p + 9)) (xs.length - (p + 9)) (p + 9) (by omega) (by omega)]
        have hal := alF_le xs (e - (p + 9)) (p + 9)
        refine pk_lt (alF xs (e - (p + 9)) (p + 9)) 1 (fun z => ?_) (fun z => pk_lt 20 (alF xs (e - (p + 9)) (p + 9)) (fun z2 => ?_) (fun z2 => ?_))
        · rw [if_neg (by omega)] at hq
          exact hq
        · rw [if_neg (by omega)] at hq
          exact hq
        · rw [if_pos (by omega)] at hq
          exact hq
  have l26 : ∀ p, p < 2 ^ 30 → Q (bI1 (if mtB xs p (zS 12) = true then boF xs e (e - (p + 10)) (p + 10) else none)) h → EvAt (d + 5) m_D_findBoundaryBetween 26 [some (vQ (some (10, 0))), none, some (vI (nI e)), some (vI (nI p)), none, none, none] [] h (zQI Q) := by
    intro p hp hq
    refine w_D_findBoundaryBetween_26 _ _ ⟨r, a.1, a.2.1, sp_R_matches (d := d) a.2.1 (by decide) a.2.2.1 hp ⟨fun c => ?_, fun c => ?_⟩⟩
    · rw [if_pos (bI_t c)] at hq
      rw [z12, nI_add]
      exact l50 _ (p + 10) rfl hq (by
        have := mtB_iff.mp (bI_t c)
        omega)
    · rw [if_neg (by rw [(bI_0 _).mp c]; decide)] at hq
      exact hq
  have l2 : ∀ (n p : Nat), p + n = e → Q (bI1 (if mtB xs (skF xs n p) (zS 12) = true then boF xs e (e - (skF xs n p + 10)) (skF xs n p + 10) else none)) h → EvAt (d + 5) m_D_findBoundaryBetween 2 [some (vQ (some (10, 0))), none, some (vI (nI e)), some (vI (nI p)), none, none, none] [] h (zQI Q) := by
    intro n
    induction n with
    | zero =>
      intro p hp hq
      exact w_D_findBoundaryBetween_2 _ _ (pk_le e p (fun _ => l26 p (by omega) hq) (fun z => by omega))
    | succ n ih =>
      intro p hp hq
      refine w_D_findBoundaryBetween_2 _ _ (pk_le e p (fun z => by omega) (fun _ => ⟨r, a.1, a.2.1, sp_R_at a.2.1 a.2.2.1 ?_⟩))
      rw [rAt_nI (by omega), nI_inc]
      rw [skF] at hq
      refine ⟨fun c => ?_, fun c => ?_⟩
      · rw [if_neg c] at hq
        exact l26 p (by omega) hq
      · rw [if_pos c] at hq
        exact ih (p + 1) (by omega) hq
  exact e_D_findBoundaryBetween _ _ (l2 (e - s) s (by omega) hq)
theorem sp_D_findBoundary {d r st he : Nat} {h : ZH} {xs : ZT} {Q : Int32 → ZH → Prop} (a : rdI h r xs) (h1 : st ≤ he) (h2 : he ≤ lC (stF xs)) (hq : Q (bI1 (bnF xs (stF xs) (he - st) st)) h) : EvI (d + 6) m_D_findBoundary [vQ (some (10, 0)), vI (nI st), vI (nI he)] h Q := by
  have hl := a.lc
  have hxl := a.len
  obtain ⟨l11, l12, l13⟩ := zS_len13
  have z11 : zSL.getD 11 0 = 13 := by rw [zS_len (by decide)]; exact l11
  have loop : ∀ (n i : Nat), i + n = he → Q (bI1 (bnF xs (stF xs) n i)) h → EvAt (d + 6) m_D_findBoundary 2 [some (vQ (some (10, 0))), none, some (vI (nI he)), some (vI (nI i))] [] h (zQI Q) := by
    intro n
    induction n with
    | zero =>
      intro i hi hq
      exact w_D_findBoundary_2 _ _ (pk_le he i (fun _ => hq) (fun z => by omega))
    | succ n ih =>
      intro i hi hq
      have hil : i < lC (stF xs) := by omega
      obtain ⟨f1, f2, f3, f4, f5⟩ := ln_fact hil
      refine w_D_findBoundary_2 _ _ (pk_le he i (fun z => by omega) (fun _ => ⟨r, a.1, a.2.1, vp_in_nI (show i < 601 by omega) (by decide), ?_⟩))
      rw [nI_clamp (by omega), a.s hil, nI_inc]
      refine sp_R_matches (d := d + 1) a.2.1 (by decide) a.2.2.1 (by omega) ?_
      rw [bnF] at hq
      refine ⟨fun c => ?_, fun c => ⟨vp_in_nI (show i < 601 by omega) (by decide), ?_⟩⟩
      · rw [if_neg (by rw [(bI_0 _).mp c]; decide)] at hq
        exact ih (i + 1) (by omega) hq
      · have hm := bI_t c
        rw [if_pos hm] at hq
        have hpe := mt_line (by decide) (by decide) hm f1 f3
        rw [l11] at hpe
        refine sp_D_lineEnd a hil ?_
        rw [a.s hil, z11, nI_add]
        exact sp_D_findBoundaryBetween (d := d) a hpe f2 f3 hq
  exact e_D_findBoundary _ _ (loop (he - st) st (by omega) hq)
theorem sp_D_isDashed {d r p : Nat} {h : ZH} {xs : ZT} {Q : Int32 → ZH → Prop} (a : rdI h r xs) (hp : p < 2 ^ 30) (hq : Q (bI (dsB xs p)) h) : EvI (d + 1) m_D_isDashed [vQ (some (10, 0)), vI (nI p)] h Q := by
  unfold dsB at hq
  refine e_D_isDashed _ ⟨r, a.1, a.2.1, sp_R_at a.2.1 a.2.2.1 ?_⟩
  rw [rAt_nI (by omega)]
  refine ⟨fun c => ?_, fun c => ⟨r, a.1, a.2.1, sp_R_at a.2.1 a.2.2.1 ?_⟩⟩
  · rw [decide_eq_false c] at hq; exact hq
  · rw [nI_inc, rAt_nI (by omega)]
    rw [decide_eq_true c] at hq
    refine ⟨fun c2 => ?_, fun c2 => ?_⟩
    · rw [decide_eq_false c2] at hq; exact hq
    · rw [decide_eq_true c2] at hq; exact hq
theorem sp_D_repeats {d r p b len : Nat} {h : ZH} {xs : ZT} {Q : Int32 → ZH → Prop} (a : rdI h r xs) (hp : p < 2 ^ 29) (hb : b < 2 ^ 29) (hl : len < 2 ^ 29) (hq : Q (bI (rpB xs p b len 0)) h) : EvI (d + 1) m_D_repeats [vQ (some (10, 0)), vI (nI p), vI (nI b), vI (nI len)] h Q := by
  have loop : ∀ (n k : Nat), k + n = len → Q (bI (rpB xs p b n k)) h → EvAt (d + 1) m_D_repeats 3 [some (vQ (some (10, 0))), some (vI (nI p)), some (vI (nI b)), some (vI (nI len)), some (vI (nI k))] [] h (zQI Q) := by
    intro n
    induction n with
    | zero =>
      intro k hk hq
      exact w_D_repeats_3 _ _ _ _ (pk_le len k (fun _ => hq) (fun z => by omega))
    | succ n ih =>
      intro k hk hq
      rw [rpB] at hq
      refine w_D_repeats_3 _ _ _ _ (pk_le len k (fun z => by omega) (fun _ => ⟨r, a.1, a.2.1, sp_R_at a.2.1 a.2.2.1 ⟨r, a.1, a.2.1, sp_R_at a.2.1 a.2.2.1 ?_⟩⟩))
      rw [nI_add, nI_add, rAt_nI (by omega), rAt_nI (by omega), nI_inc]
      refine ⟨fun c => ?_, fun c => ?_⟩
      · rw [decide_eq_true c, Bool.true_and] at hq
        exact ih (k + 1) (by omega) hq
      · rw [decide_eq_false c] at hq
        exact hq
  exact e_D_repeats _ _ _ (loop len 0 (by omega) hq)
theorem sp_D_borderKind {d r i : Nat} {b : Nat × Nat} {h : ZH} {xs : ZT} {Q : Int32 → ZH → Prop} (a : rdI h r xs) (hi : i < lC (stF xs)) (h1 : b.1 < 2 ^ 28) (h2 : b.2 < 2 ^ 28) (hq : Q (nI (brF xs (stF xs) b i)) h) : EvI (d + 2) m_D_borderKind [vQ (some (10, 0)), vI (nI i), vI (nI b.1), vI (nI b.2)] h Q := by
  have hl := a.lc
  have hxl := a.len
  obtain ⟨f1, f2, f3, f4, f5⟩ := ln_fact hi
  unfold brF at hq
  refine e_D_borderKind _ _ _ ⟨vp_in_nI (show i < 601 by omega) (by decide), ?_⟩
  rw [nI_clamp (by omega), a.s hi]
  refine sp_D_isDashed (d := d) a (by omega) ⟨fun c => ?_, fun c => ?_⟩
  · rw [(bI_0 _).mp c, if_neg (by rw [Bool.false_and]; decide)] at hq
    exact hq
  · rw [bI_t c, Bool.true_and] at hq
    rw [show nI (lS (stF xs) i) + (2 : Int32) = nI (lS (stF xs) i + 2) from nI_add _ 2, nI_add]
    refine sp_D_repeats (d := d) a (by omega) (by omega) (by omega) ⟨fun c2 => ?_, fun c2 => ?_⟩
    · rw [bI_t c2, if_pos rfl] at hq
      refine sp_D_lineEnd a hi ⟨fun c3 => sp_D_lineEnd a hi ⟨fun c4 => ?_, fun c4 => ?_⟩, fun c3 => ?_⟩
      · rw [nI_eq (by omega) (by omega)] at c3
        rw [show nI (lS (stF xs) i + 2 + b.2) + (2 : Int32) = nI (lS (stF xs) i + 2 + b.2 + 2) from nI_add _ 2, nI_eq (by omega) (by omega)] at c4
        rw [if_neg c3, if_neg (fun z => c4 z.1)] at hq
        exact hq
      · rw [nI_eq (by omega) (by omega)] at c3
        rw [show nI (lS (stF xs) i + 2 + b.2) + (2 : Int32) = nI (lS (stF xs) i + 2 + b.2 + 2) from nI_add _ 2, nI_eq (by omega) (by omega)] at c4
        rw [if_neg c3] at hq
        refine sp_D_isDashed (d := d) a (by omega) ⟨fun c5 => ?_, fun c5 => ?_⟩
        · rw [if_neg (fun z => by rw [(bI_0 _).mp c5] at z; exact absurd z.2 (by decide))] at hq
          exact hq
        · rw [if_pos ⟨c4, bI_t c5⟩] at hq
          exact hq
      · rw [nI_eq (by omega) (by omega)] at c3
        rw [if_pos c3] at hq
        exact hq
    · rw [(bI_0 _).mp c2, if_neg (by decide)] at hq
      exact hq
