/-! THE CLASS's READER OF PARTS -/
theorem mtF_iff {xs : ZT} : ∀ (ws : ZT) (a : Nat), mtF xs a ws = true ↔ ∀ k, k < ws.length → cSm (xs.getD (a + k) 0) = ws.getD k 0
  | [], a => ⟨fun _ k hk => absurd hk (Nat.not_lt_zero _), fun _ => rfl⟩
  | w :: t, a => by
    rw [mtF, Bool.and_eq_true, decide_eq_true_eq, mtF_iff t (a + 1)]
    constructor
    · rintro ⟨h1, h2⟩ k hk
      cases k with
      | zero => exact h1
      | succ k =>
        rw [List.length_cons] at hk
        rw [show a + (k + 1) = a + 1 + k by omega]
        exact h2 k (by omega)
    · intro h
      refine ⟨h 0 (by rw [List.length_cons]; omega), fun k hk => ?_⟩
      have := h (k + 1) (by rw [List.length_cons]; omega)
      rw [show a + (k + 1) = a + 1 + k by omega] at this
      exact this
theorem mtB_iff {xs : ZT} {ws : ZT} {a : Nat} : mtB xs a ws = true ↔ a + ws.length ≤ xs.length ∧ ∀ k, k < ws.length → cSm (xs.getD (a + k) 0) = ws.getD k 0 := by
  unfold mtB
  rw [Bool.and_eq_true, decide_eq_true_eq, mtF_iff]
theorem zS_len13 : (zS 11).length = 13 ∧ (zS 12).length = 10 ∧ (zS 13).length = 9 := by decide +kernel
theorem zS_no10 : ∀ j, 11 ≤ j → j < 14 → ∀ k, k < (zS j).length → (zS j).getD k 0 ≠ 10 := by
  have : ∀ j, j < 14 → 11 ≤ j → ∀ k, k < (zS j).length → (zS j).getD k 0 ≠ 10 := by decide +kernel
  exact fun j h1 h2 => this j h2 h1
/-- a match stays in its line -/
theorem mt_line {xs : ZT} {j p e : Nat} (h1 : 11 ≤ j) (h2 : j < 14) (m : mtB xs p (zS j) = true) (hp : p ≤ e) (he : xs.getD e 0 = 10) : p + (zS j).length ≤ e := by
  obtain ⟨-, m2⟩ := mtB_iff.mp m
  rcases Nat.lt_or_ge e (p + (zS j).length) with z | z
  · have := m2 (e - p) (by omega)
    rw [show p + (e - p) = e by omega, he] at this
    exact absurd this.symm (zS_no10 j h1 h2 (e - p) (by omega))
  · exact z
def rdI (h : ZH) (r : Nat) (xs : ZT) : Prop := zr h 10 0 2 = some r ∧ r < 43 ∧ rowIs h r xs ∧ zi h 10 0 3 = nI (lC (stF xs)) ∧ ∀ i, i ≤ lC (stF xs) → zi h 11 0 i = nI ((stF xs).getD i 0)
theorem rdI.len {h : ZH} {r : Nat} {xs : ZT} (a : rdI h r xs) : xs.length ≤ 600 := Nat.le_trans a.2.2.1.2.1 (zcap_le r)
theorem rdI.lc {h : ZH} {r : Nat} {xs : ZT} (a : rdI h r xs) : lC (stF xs) ≤ 600 := Nat.le_trans (lC_le xs) a.len
theorem rdI.s {h : ZH} {r i : Nat} {xs : ZT} (a : rdI h r xs) (hi : i < lC (stF xs)) : zi h 11 0 i = nI (lS (stF xs) i) := a.2.2.2.2 i (by omega)
def DP : Nat → Nat → Nat → Prop := fun k i j => (k = 10 ∧ j = 4) ∨ (k = 11 ∧ i = 1)
theorem rdI.kept {h h' : ZH} {r : Nat} {xs : ZT} (a : rdI h r xs) (s : zSa DP h h') : rdI h' r xs := by
  obtain ⟨a1, a2, a3, a4, a5⟩ := a
  refine ⟨by rw [s.2]; exact a1, a2, ⟨by rw [s.1 1 r 1 (by unfold DP; omega)]; exact a3.1, a3.2.1, fun j hj => by rw [s.1 2 r j (by unfold DP; omega)]; exact a3.2.2.1 j hj, a3.2.2.2⟩, by rw [s.1 10 0 3 (by unfold DP; omega)]; exact a4, fun i hi => by rw [s.1 11 0 i (by unfold DP; omega)]; exact a5 i hi⟩
def slC (h : ZH) (S : List Nat) : Prop := zi h 10 0 3 = nI (S.length - 1) ∧ ∀ i, i < S.length → zi h 11 0 i = nI (S.getD i 0)
def SLP : Nat → Nat → Nat → Prop := fun k i j => (k = 10 ∧ j = 3) ∨ (k = 11 ∧ i = 0)
theorem rowIs.sa {C : Nat → Nat → Nat → Prop} {h h' : ZH} {r : Nat} {xs : ZT} (a : rowIs h r xs) (s : zSa C h h') (hC : ∀ k i j, k = 1 ∨ k = 2 → ¬ C k i j) : rowIs h' r xs :=
  ⟨by rw [s.1 1 r 1 (hC _ _ _ (Or.inl rfl))]; exact a.1, a.2.1, fun j hj => by rw [s.1 2 r j (hC _ _ _ (Or.inr rfl))]; exact a.2.2.1 j hj, a.2.2.2⟩
theorem sp_D_splitLines {d r : Nat} {h : ZH} {xs : ZT} {Q : ZH → Prop} (hr : r < 43) (e : zr h 10 0 2 = some r) (w : rowIs h r xs) (hq : ∀ h', rdI h' r xs → zSa SLP h h' → Q h') : EvV (d + 1) m_D_splitLines [vQ (some (10, 0))] h Q := by
  have hl : xs.length ≤ 600 := Nat.le_trans w.2.1 (zcap_le r)
  have loop : ∀ (n i : Nat) (g : ZH), i + n = xs.length → slC g (slN xs i) → zSa SLP h g → EvAt (d + 1) m_D_splitLines 14 [some (vQ (some (10, 0))), some (vI (nI i))] [] g (zQV Q) := by
    intro n
    induction n with
    | zero =>
      intro i g hi sc sg
      have : i = xs.length := by omega
      subst this
      have wg := w.sa sg (fun k i j z y => by unfold SLP at y; omega)
      have eg : zr g 10 0 2 = some r := by rw [sg.2]; exact e
      refine w_D_splitLines_14 _ ⟨r, eg, hr, ?_⟩
      rw [wg.1]
      exact pk_le xs.length xs.length (fun _ => hq g ⟨eg, hr, wg, sc.1, fun i hi => sc.2 i (by have := st_len xs; unfold stF at this hi; omega)⟩ sg) (fun z => (by omega))
    | succ n ih =>
      intro i g hi sc sg
      have wg := w.sa sg (fun k i j z y => by unfold SLP at y; omega)
      have eg : zr g 10 0 2 = some r := by rw [sg.2]; exact e
      obtain ⟨f1, f2, f3, f4, f5, f6⟩ := lnI_N xs i
      have nx : ∀ g', slC g' (slN xs (i + 1)) → zSa SLP h g' → EvAt (d + 1) m_D_splitLines 60 [some (vQ (some (10, 0))), some (vI (nI i))] [] g' (zQV Q) := by
        intro g' sc' sg'
        refine w_D_splitLines_60 _ ?_
        rw [nI_inc]
        exact ih (i + 1) g' (by omega) sc' sg'
      refine w_D_splitLines_14 _ ⟨r, eg, hr, ?_⟩
      rw [wg.1]
      refine pk_le xs.length i (fun z => by omega) (fun _ => ⟨r, eg, hr, sp_R_at hr wg ?_⟩)
      rw [rAt_nI (by omega)]
      refine ⟨fun c => nx g ?_ sg, fun c => ?_⟩
      · rw [slN, if_neg c]
        exact sc
      · have e3 : zi g 10 0 3 + (1 : Int32) = nI (slN xs i).length := by
          rw [sc.1, nI_inc]
          congr 1
          omega
        have e3' : zi (zw g 10 0 3 (zi g 10 0 3 + (1 : Int32))) 10 0 3 = nI (slN xs i).length := by rw [zi_zw, if_pos ⟨rfl, rfl, rfl⟩]; exact e3
        rw [e3', nI_clamp (by omega), nI_inc]
        refine ⟨vp_in_nI (show (slN xs i).length < 601 by omega) (by decide), nx _ ?_ ((sg.w (by unfold SLP; omega)).w (by unfold SLP; omega))⟩
        rw [slN, if_pos c]
        refine ⟨?_, fun k hk => ?_⟩
        · rw [zi_zw, if_neg (by omega), zi_zw, if_pos ⟨rfl, rfl, rfl⟩, e3, List.length_append]
          rfl
        · rw [List.length_append] at hk
          have hk : k < (slN xs i).length + 1 := hk
          rw [zi_zw]
          by_cases ek : k = (slN xs i).length
          · subst ek
            rw [if_pos ⟨rfl, rfl, rfl⟩, gd2]
          · rw [if_neg (by omega), zi_zw, if_neg (by omega), gd1 (by omega)]
            exact sc.2 k (by omega)
  refine e_D_splitLines ⟨vp_in_nI (show 0 < 601 by decide) (by decide), ?_⟩
  rw [show ((0 : Int32)).toNatClampNeg = 0 from rfl]
  refine loop xs.length 0 _ (Nat.zero_add _) ⟨by rw [zi_zw, if_neg (by omega), zi_zw, if_pos ⟨rfl, rfl, rfl⟩]; rfl, fun i hi => ?_⟩ ((zSa.rfl.w (by unfold SLP; omega)).w (by unfold SLP; omega))
  have hi : i < 1 := hi
  have : i = 0 := by omega
  subst this
  rw [zi_zw, if_pos ⟨rfl, rfl, rfl⟩]
  rfl
theorem sp_D_lineEnd {d r i : Nat} {h : ZH} {xs : ZT} {Q : Int32 → ZH → Prop} (a : rdI h r xs) (hi : i < lC (stF xs)) (hq : Q (nI (lE (stF xs) i)) h) : EvI d m_D_lineEnd [vQ (some (10, 0)), vI (nI i)] h Q := by
  have hl := a.lc
  refine e_D_lineEnd _ ?_
  rw [nI_inc, nI_clamp (by omega), a.2.2.2.2 (i + 1) (by omega), (ln_fact hi).2.2.2.2, nI_m1 (by omega), Nat.add_sub_cancel]
  exact ⟨vp_in_nI (show i + 1 < 601 by omega) (by decide), hq⟩
theorem sp_D_findHeadEnd {d r st en : Nat} {h : ZH} {xs : ZT} {Q : Int32 → ZH → Prop} (a : rdI h r xs) (h1 : st ≤ en) (h2 : en ≤ lC (stF xs)) (hq : Q (nI (hdF (stF xs) (en - st) st)) h) : EvI (d + 1) m_D_findHeadEnd [vQ (some (10, 0)), vI (nI st), vI (nI en)] h Q := by
  have hl := a.lc
  have loop : ∀ (n i : Nat), i + n = en → Q (nI (hdF (stF xs) n i)) h → EvAt (d + 1) m_D_findHeadEnd 2 [some (vQ (some (10, 0))), none, some (vI (nI en)), some (vI (nI i))] [] h (zQI Q) := by
    intro n
    induction n with
    | zero =>
      intro i hi hq2
      have e9 : i = en := by omega
      exact w_D_findHeadEnd_2 _ _ (pk_le en i (fun _ => by rw [← e9]; exact hq2) (fun z => by omega))
    | succ n ih =>
      intro i hi hq
      have hil : i < lC (stF xs) := by omega
      obtain ⟨f1, f2, -⟩ := ln_fact hil
      have hxl := a.len
      refine w_D_findHeadEnd_2 _ _ (pk_le en i (fun z => by omega) (fun _ => ⟨vp_in_nI (show i < 601 by omega) (by decide), sp_D_lineEnd a hil ?_⟩))
      rw [nI_clamp (by omega), a.s hil, nI_inc]
      rw [hdF] at hq
      refine ⟨fun c => ?_, fun c => ?_⟩
      · rw [nI_eq (by omega) (by omega)] at c
        rw [if_neg c] at hq
        exact ih (i + 1) (by omega) hq
      · rw [nI_eq (by omega) (by omega)] at c
        rw [if_pos c] at hq
        exact hq
  exact e_D_findHeadEnd _ _ (loop (en - st) st (by omega) hq)
theorem an58 : cAn 58 = false := by decide +kernel
theorem an10 : cAn 10 = false := by decide +kernel
theorem sp_D_isField {d r i : Nat} {h : ZH} {xs : ZT} {Q : Int32 → ZH → Prop} (a : rdI h r xs) (hi : i < lC (stF xs)) (hq : Q (bI (col xs (stF xs) i).isSome) h) : EvI (d + 3) m_D_isField [vQ (some (10, 0)), vI (nI i)] h Q := by
  have hl := a.lc
  have hxl := a.len
  obtain ⟨f1, f2, -⟩ := ln_fact hi
  have loop : ∀ (n p : Nat), p + n = lE (stF xs) i → Q (bI (colF xs (lS (stF xs) i) n p).isSome) h → EvAt (d + 3) m_D_isField 16 [some (vQ (some (10, 0))), none, some (vI (nI (lS (stF xs) i))), some (vI (nI (lE (stF xs) i))), some (vI (nI p)), none] [] h (zQI Q) := by
    intro n
    induction n with
    | zero =>
      intro p hp hq
      have : p = lE (stF xs) i := by omega
      subst this
      exact w_D_isField_16 _ _ _ (pk_le (lE (stF xs) i) (lE (stF xs) i) (fun _ => hq) (fun z => (by omega)))
    | succ n ih =>
      intro p hp hq
      have nx : cAn (xs.getD p 0) = true ∨ xs.getD p 0 = 45 → EvAt (d + 3) m_D_isField 69 [some (vQ (some (10, 0))), none, some (vI (nI (lS (stF xs) i))), some (vI (nI (lE (stF xs) i))), some (vI (nI p)), none] [] h (zQI Q) := by
        intro z
        refine w_D_isField_69 _ _ _ ?_
        rw [nI_inc]
        rw [colF, if_pos z] at hq
        exact ih (p + 1) (by omega) hq
      refine w_D_isField_16 _ _ _ (pk_le (lE (stF xs) i) p (fun z => by omega) (fun _ => ⟨r, a.1, a.2.1, sp_R_at a.2.1 a.2.2.1 ?_⟩))
      rw [rAt_nI (by omega)]
      refine ⟨fun c => sp_G_an ⟨fun c2 => nx (Or.inl (bI_t c2)), fun c2 => ⟨fun c3 => nx (Or.inr c3), fun c3 => ?_⟩⟩, fun c => ?_⟩
      · rw [colF, if_neg (fun z => z.elim (fun y => by rw [(bI_0 _).mp c2] at y; cases y) c3), if_neg (fun z => c z.2)] at hq
        exact hq
      · rw [colF, if_neg (fun z => by rw [c, an58] at z; exact z.elim (fun y => by cases y) (fun y => absurd y (by decide)))] at hq
        refine pk_le p (lS (stF xs) i) (fun z => ?_) (fun z => ?_)
        · rw [if_neg (fun y => by omega)] at hq
          exact hq
        · rw [if_pos ⟨z, c⟩] at hq
          exact hq
  refine e_D_isField _ ⟨vp_in_nI (show i < 601 by omega) (by decide), sp_D_lineEnd a hi ?_⟩
  rw [nI_clamp (by omega), a.s hi]
  exact loop _ _ (by omega) hq
theorem sp_D_isHeadRight {d r st he : Nat} {h : ZH} {xs : ZT} {Q : Int32 → ZH → Prop} (a : rdI h r xs) (h1 : st ≤ he) (h2 : he ≤ lC (stF xs)) (hq : Q (bI (rhF xs (stF xs) st (he - st) st)) h) : EvI (d + 4) m_D_isHeadRight [vQ (some (10, 0)), vI (nI st), vI (nI he)] h Q := by
  have hl := a.lc
  have hxl := a.len
  have loop : ∀ (n i : Nat), i + n = he → Q (bI (rhF xs (stF xs) st n i)) h → EvAt (d + 4) m_D_isHeadRight 2 [some (vQ (some (10, 0))), some (vI (nI st)), some (vI (nI he)), some (vI (nI i)), none] [] h (zQI Q) := by
    intro n
    induction n with
    | zero =>
      intro i hi hq2
      exact w_D_isHeadRight_2 _ _ _ (pk_le he i (fun _ => hq2) (fun z => by omega))
    | succ n ih =>
      intro i hi hq
      have hil : i < lC (stF xs) := by omega
      obtain ⟨f1, f2, -⟩ := ln_fact hil
      rw [rhF] at hq
      have k52 : ((decide (st < i) && decide (xs.getD (lS (stF xs) i) 0 = 32)) || (col xs (stF xs) i).isSome) = true → EvAt (d + 4) m_D_isHeadRight 52 [some (vQ (some (10, 0))), some (vI (nI st)), some (vI (nI he)), some (vI (nI i)), none] [] h (zQI Q) := by
        intro z
        refine w_D_isHeadRight_52 _ _ _ ?_
        rw [nI_inc]
        rw [z, Bool.true_and] at hq
        exact ih (i + 1) (by omega) hq
      have k34 : (decide (st < i) && decide (xs.getD (lS (stF xs) i) 0 = 32)) = false → EvAt (d + 4) m_D_isHeadRight 34 [some (vQ (some (10, 0))), some (vI (nI st)), some (vI (nI he)), some (vI (nI i)), none] [] h (zQI Q) := by
        intro z
        refine w_D_isHeadRight_34 _ _ _ (w_D_isHeadRight_35 _ _ _ _ ⟨fun c => absurd rfl c, fun _ => sp_D_isField a hil ⟨fun c => k52 (by rw [bI_t c, Bool.or_true]), fun c => ?_⟩⟩)
        rw [z, (bI_0 _).mp c] at hq
        exact hq
      refine w_D_isHeadRight_2 _ _ _ (pk_le he i (fun z => by omega) (fun _ => pk_le i st (fun z => k34 ?_) (fun z => ⟨r, a.1, a.2.1, vp_in_nI (show i < 601 by omega) (by decide), sp_R_at a.2.1 a.2.2.1 ?_⟩)))
      · rw [decide_eq_false (by omega)]; rfl
      · rw [nI_clamp (by omega), a.s hil, rAt_nI (by omega)]
        refine ⟨fun c => k34 (by rw [decide_eq_false c, Bool.and_false]), fun c => w_D_isHeadRight_35 _ _ _ _ ⟨fun _ => k52 ?_, fun y => absurd y (by decide)⟩⟩
        rw [decide_eq_true z, decide_eq_true c]
        rfl
  exact e_D_isHeadRight _ _ (loop (he - st) st (by omega) hq)
