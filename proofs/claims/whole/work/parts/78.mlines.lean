/-! THE MODEL's READER OF PARTS -/
def mdI (h : ZH) (p : Nat) (xs : ZT) : Prop := p < 6 ∧ (tsIs h p xs ∧ xs.length ≤ 600) ∧ zi h 12 0 18 = nI (lC (stF xs)) ∧ ∀ i, i ≤ lC (stF xs) → zi h 13 9 i = nI (602 * p + (stF xs).getD i 0)
theorem mdI.lc {h : ZH} {p : Nat} {xs : ZT} (a : mdI h p xs) : lC (stF xs) ≤ 600 := Nat.le_trans (lC_le xs) a.2.1.2
theorem mdI.s {h : ZH} {p i : Nat} {xs : ZT} (a : mdI h p xs) (hi : i < lC (stF xs)) : zi h 13 9 i = nI (602 * p + lS (stF xs) i) := a.2.2.2 i (by omega)
theorem mdI.c {h : ZH} {p k : Nat} {xs : ZT} (a : mdI h p xs) (hk : k < xs.length) : zi h 13 2 (602 * p + k) = xs.getD k 0 := a.2.1.1.2.1 k hk (by have := a.2.1.2; omega)
/-- the cells of a division, the lines apart -/
def DVP : Nat → Nat → Nat → Prop := fun k i j => (k = 12 ∧ (j = 20 ∨ j = 25 ∨ j = 29 ∨ j = 30)) ∨ (k = 13 ∧ 10 ≤ i ∧ i ≤ 15) ∨ (k = 14 ∧ i = 1)
theorem mdI.kept {h h' : ZH} {p : Nat} {xs : ZT} (a : mdI h p xs) (s : zSa DVP h h') : mdI h' p xs := by
  obtain ⟨a1, ⟨a2, a3⟩, a4, a5⟩ := a
  exact ⟨a1, ⟨a2.kept s (by unfold DVP; omega) (fun i hi => by unfold DVP; omega), a3⟩, by rw [s.1 12 0 18 (by unfold DVP; omega)]; exact a4, fun i hi => by rw [s.1 13 9 i (by unfold DVP; omega)]; exact a5 i hi⟩
def slM (h : ZH) (p : Nat) (S : List Nat) : Prop := zi h 12 0 18 = nI (S.length - 1) ∧ ∀ i, i < S.length → zi h 13 9 i = nI (602 * p + S.getD i 0)
def FLP : Nat → Nat → Nat → Prop := fun k i j => (k = 12 ∧ j = 18) ∨ (k = 13 ∧ i = 9)
theorem sp_M_findLines {d p : Nat} {h : ZH} {xs : ZT} {Q : ZH → Prop} (hp : p < 6) (t : tsIs h p xs) (hl : xs.length ≤ 600) (hq : ∀ h', mdI h' p xs → zSa FLP h h' → Q h') : EvV d m_M_findLines [vQ (some (12, 0)), vI (nI p)] h Q := by
  have loop : ∀ (n i : Nat) (g : ZH), i + n = xs.length → slM g p (slN xs i) → zSa FLP h g → EvAt d m_M_findLines 18 [some (vQ (some (12, 0))), some (vI (nI p)), some (vI (nI i))] [] g (zQV Q) := by
    intro n
    induction n with
    | zero =>
      intro i g hi sc sg
      have : i = xs.length := by omega
      subst this
      have tg := t.kept sg (by unfold FLP; omega) (fun i hi => by unfold FLP; omega)
      refine w_M_findLines_18 _ _ ?_
      rw [nI_clamp (by omega), tg.1, show min xs.length 602 = xs.length by omega]
      exact ⟨vp_in_nI (show p < 8 by omega) (by decide), pk_le xs.length xs.length (fun _ => hq g ⟨hp, ⟨tg, hl⟩, sc.1, fun i hi => sc.2 i (by have := st_len xs; unfold stF at this hi; omega)⟩ sg) (fun z => (by omega))⟩
    | succ n ih =>
      intro i g hi sc sg
      have tg := t.kept sg (by unfold FLP; omega) (fun i hi => by unfold FLP; omega)
      obtain ⟨f1, f2, f3, f4, f5, f6⟩ := lnI_N xs i
      have nx : ∀ g', slM g' p (slN xs (i + 1)) → zSa FLP h g' → EvAt d m_M_findLines 73 [some (vQ (some (12, 0))), some (vI (nI p)), some (vI (nI i))] [] g' (zQV Q) := by
        intro g' sc' sg'
        refine w_M_findLines_73 _ _ ?_
        rw [nI_inc]
        exact ih (i + 1) g' (by omega) sc' sg'
      refine w_M_findLines_18 _ _ ?_
      rw [nI_clamp (show p < 2 ^ 31 by omega), tg.1, show min xs.length 602 = xs.length by omega, show (602 : Int32) * nI p + nI i = nI (602 * p + i) from nI_ma 602 p i, nI_clamp (show 602 * p + i < 2 ^ 31 by omega), tg.2.1 i (by omega) (by omega)]
      refine ⟨vp_in_nI (show p < 8 by omega) (by decide), pk_le xs.length i (fun z => by omega) (fun _ => ⟨vp_in_nI (show 602 * p + i < 4816 by omega) (by decide), fun c => nx g ?_ sg, fun c => ?_⟩)⟩
      · rw [slN, if_neg c]
        exact sc
      · have e3 : zi g 12 0 18 + (1 : Int32) = nI (slN xs i).length := by
          rw [sc.1, nI_inc]
          congr 1
          omega
        have e3' : zi (zw g 12 0 18 (zi g 12 0 18 + (1 : Int32))) 12 0 18 = nI (slN xs i).length := by rw [zi_zw, if_pos ⟨rfl, rfl, rfl⟩]; exact e3
        rw [e3', nI_clamp (by omega), nI_inc]
        refine ⟨vp_in_nI (show (slN xs i).length < 604 by omega) (by decide), nx _ ?_ ((sg.w (by unfold FLP; omega)).w (by unfold FLP; omega))⟩
        rw [slN, if_pos c]
        refine ⟨?_, fun k hk => ?_⟩
        · rw [zi_zw, if_neg (by omega), zi_zw, if_pos ⟨rfl, rfl, rfl⟩, e3, List.length_append]
          rfl
        · rw [List.length_append] at hk
          have hk : k < (slN xs i).length + 1 := hk
          rw [zi_zw]
          by_cases ek : k = (slN xs i).length
          · subst ek
            rw [if_pos ⟨rfl, rfl, rfl⟩, gd2]
            rfl
          · rw [if_neg (by omega), zi_zw, if_neg (by omega), gd1 (by omega)]
            exact sc.2 k (by omega)
  refine e_M_findLines _ ⟨vp_in_nI (show 0 < 604 by decide) (by decide), ?_⟩
  rw [show ((0 : Int32)).toNatClampNeg = 0 from rfl, show (602 : Int32) * nI p = nI (602 * p) from pk_mul 602 p]
  refine loop xs.length 0 _ (Nat.zero_add _) ⟨by rw [zi_zw, if_neg (by omega), zi_zw, if_pos ⟨rfl, rfl, rfl⟩]; rfl, fun i hi => ?_⟩ ((zSa.rfl.w (by unfold FLP; omega)).w (by unfold FLP; omega))
  have hi : i < 1 := hi
  have : i = 0 := by omega
  subst this
  rw [zi_zw, if_pos ⟨rfl, rfl, rfl⟩]
  rfl
theorem sp_M_endOf {d p i : Nat} {h : ZH} {xs : ZT} {Q : Int32 → ZH → Prop} (a : mdI h p xs) (hi : i < lC (stF xs)) (hq : Q (nI (602 * p + lE (stF xs) i)) h) : EvI d m_M_endOf [vQ (some (12, 0)), vI (nI i)] h Q := by
  have hl := a.lc
  have hp := a.1
  refine e_M_endOf _ ?_
  rw [nI_inc, nI_clamp (by omega), a.2.2.2 (i + 1) (by omega), (ln_fact hi).2.2.2.2, nI_m1 (by omega), show 602 * p + (lE (stF xs) i + 1) - 1 = 602 * p + lE (stF xs) i by omega]
  exact ⟨vp_in_nI (show i + 1 < 604 by omega) (by decide), hq⟩
theorem sp_M_isEmpty {d p i : Nat} {h : ZH} {xs : ZT} {Q : Int32 → ZH → Prop} (a : mdI h p xs) (hi : i < lC (stF xs)) (h1 : lS (stF xs) i = lE (stF xs) i → Q 1 h) (h0 : lS (stF xs) i ≠ lE (stF xs) i → Q 0 h) : EvI (d + 1) m_M_isEmpty [vQ (some (12, 0)), vI (nI i)] h Q := by
  have hl := a.lc
  have hp := a.1
  have hxl := a.2.1.2
  obtain ⟨f1, f2, -⟩ := ln_fact hi
  refine e_M_isEmpty _ (sp_M_endOf a hi ⟨vp_in_nI (show i < 604 by omega) (by decide), ?_⟩)
  rw [nI_clamp (by omega), a.s hi]
  refine ⟨fun c => h0 (fun z => c (by rw [z])), fun c => h1 ?_⟩
  rw [nI_eq (by omega) (by omega)] at c
  omega
theorem sp_M_headEnd {d p st en : Nat} {h : ZH} {xs : ZT} {Q : Int32 → ZH → Prop} (a : mdI h p xs) (h1 : st ≤ en) (h2 : en ≤ lC (stF xs)) (hq : Q (nI (hdF (stF xs) (en - st) st)) h) : EvI (d + 2) m_M_headEnd [vQ (some (12, 0)), vI (nI st), vI (nI en)] h Q := by
  have hl := a.lc
  have loop : ∀ (n i : Nat), i + n = en → Q (nI (hdF (stF xs) n i)) h → EvAt (d + 2) m_M_headEnd 2 [some (vQ (some (12, 0))), none, some (vI (nI en)), some (vI (nI i))] [] h (zQI Q) := by
    intro n
    induction n with
    | zero =>
      intro i hi hq
      exact w_M_headEnd_2 _ _ (pk_le en i (fun _ => hq) (fun z => by omega))
    | succ n ih =>
      intro i hi hq
      have hil : i < lC (stF xs) := by omega
      rw [hdF] at hq
      refine w_M_headEnd_2 _ _ (pk_le en i (fun z => by omega) (fun _ => sp_M_isEmpty (d := d) a hil (fun c => ⟨fun _ => ?_, fun z => absurd z (by decide)⟩) (fun c => ⟨fun z => absurd rfl z, fun _ => ?_⟩)))
      · rw [if_pos c] at hq
        exact hq
      · rw [if_neg c] at hq
        rw [nI_inc]
        exact ih (i + 1) (by omega) hq
  exact e_M_headEnd _ _ (loop (en - st) st (by omega) hq)
/-- a place in the text, as the model counts -/
def oP (p : Nat) (o : Option Nat) : Int32 := oI (o.map (fun k => 602 * p + k))
theorem colF_bd {xs : ZT} {st : Nat} : ∀ (n k m : Nat), colF xs st n k = some m → k ≤ m ∧ m < k + n ∧ st < m ∧ xs.getD m 0 = 58
  | 0, _, _, h => by cases h
  | n + 1, k, m, h => by
    rw [colF] at h
    split at h
    · have := colF_bd n (k + 1) m h
      exact ⟨by omega, by omega, this.2.2.1, this.2.2.2⟩
    · split at h
      · rename_i c
        cases h
        exact ⟨Nat.le_refl _, by omega, c.1, c.2⟩
      · cases h
theorem sp_M_colon {d p i : Nat} {h : ZH} {xs : ZT} {Q : Int32 → ZH → Prop} (a : mdI h p xs) (hi : i < lC (stF xs)) (hq : Q (oP p (col xs (stF xs) i)) h) : EvI (d + 2) m_M_colon [vQ (some (12, 0)), vI (nI i)] h Q := by
  have hl := a.lc
  have hp := a.1
  have hxl := a.2.1.2
  obtain ⟨f1, f2, -⟩ := ln_fact hi
  have k46 : ∀ (n k : Nat), k + n = lE (stF xs) i → ¬ (0 < n ∧ (cAn (xs.getD k 0) = true ∨ xs.getD k 0 = 45)) → Q (oP p (colF xs (lS (stF xs) i) n k)) h → EvAt (d + 2) m_M_colon 46 [some (vQ (some (12, 0))), some (vI (nI i)), some (vI (nI (602 * p + k)))] [] h (zQI Q) := by
    intro n k hk hc hq
    refine w_M_colon_46 _ _ (sp_M_endOf a hi (pk_le (602 * p + lE (stF xs) i) (602 * p + k) (fun z => ?_) (fun z => ⟨vp_in_nI (show i < 604 by omega) (by decide), ?_⟩)))
    · have : n = 0 := by omega
      subst this
      exact hq
    · obtain ⟨n, rfl⟩ : ∃ m, n = m + 1 := ⟨n - 1, by omega⟩
      rw [colF, if_neg (fun y => hc ⟨by omega, y⟩)] at hq
      rw [nI_clamp (by omega), a.s hi, nI_clamp (by omega), a.c (by omega)]
      refine pk_le (602 * p + k) (602 * p + lS (stF xs) i) (fun z2 => ?_) (fun z2 => ⟨vp_in_nI (show 602 * p + k < 4816 by omega) (by decide), fun c => ?_, fun c => ?_⟩)
      · rw [if_neg (fun y => by omega)] at hq
        exact hq
      · rw [if_neg (fun y => c y.2)] at hq
        exact hq
      · rw [if_pos ⟨by omega, c⟩] at hq
        exact hq
  have loop : ∀ (n k : Nat), k + n = lE (stF xs) i → Q (oP p (colF xs (lS (stF xs) i) n k)) h → EvAt (d + 2) m_M_colon 7 [some (vQ (some (12, 0))), some (vI (nI i)), some (vI (nI (602 * p + k)))] [] h (zQI Q) := by
    intro n
    induction n with
    | zero =>
      intro k hk hq
      exact w_M_colon_7 _ _ (sp_M_endOf a hi (pk_le (602 * p + lE (stF xs) i) (602 * p + k) (fun _ => k46 0 k hk (fun z => by omega) hq) (fun z => by omega)))
    | succ n ih =>
      intro k hk hq
      have nx : cAn (xs.getD k 0) = true ∨ xs.getD k 0 = 45 → EvAt (d + 2) m_M_colon 39 [some (vQ (some (12, 0))), some (vI (nI i)), some (vI (nI (602 * p + k)))] [] h (zQI Q) := by
        intro z
        refine w_M_colon_39 _ _ ?_
        rw [nI_inc]
        rw [colF, if_pos z] at hq
        exact ih (k + 1) (by omega) hq
      refine w_M_colon_7 _ _ (sp_M_endOf a hi (pk_le (602 * p + lE (stF xs) i) (602 * p + k) (fun z => by omega) (fun _ => ⟨vp_in_nI (show 602 * p + k < 4816 by omega) (by decide), ?_⟩)))
      rw [nI_clamp (by omega), a.c (by omega)]
      refine sp_M_an (d := d) ⟨fun c => nx (Or.inl (bI_t c)), fun c => ⟨vp_in_nI (show 602 * p + k < 4816 by omega) (by decide), fun c2 => ?_, fun c2 => nx (Or.inr (by rw [a.c (by omega)] at c2; exact c2))⟩⟩
      rw [a.c (by omega)] at c2
      exact k46 (n + 1) k hk (fun z => z.2.elim (fun y => by rw [(bI_0 _).mp c] at y; cases y) c2) hq
  refine e_M_colon _ ⟨vp_in_nI (show i < 604 by omega) (by decide), ?_⟩
  rw [nI_clamp (by omega), a.s hi]
  exact loop _ _ (by omega) hq
theorem oP_neg {p : Nat} {o : Option Nat} (hp : p < 6) (hb : ∀ n, o = some n → n < 2 ^ 20) : 0 ≤ oP p o ↔ o.isSome = true := by
  cases o with
  | none => exact ⟨fun z => absurd z (show ¬ (0 : Int32) ≤ -1 by decide), fun z => (by cases z)⟩
  | some n => exact ⟨fun _ => rfl, fun _ => nI_pos' (show 602 * p + n < 2 ^ 31 by have := hb n rfl; omega)⟩
theorem col_bd {xs : ZT} {i : Nat} (hi : i < lC (stF xs)) (h6 : xs.length ≤ 600) : ∀ n, col xs (stF xs) i = some n → lS (stF xs) i < n ∧ n < lE (stF xs) i ∧ n < 2 ^ 20 ∧ xs.getD n 0 = 58 := by
  intro n e
  obtain ⟨f1, f2, -⟩ := ln_fact hi
  have := colF_bd _ _ n e
  exact ⟨this.2.2.1, by omega, by omega, this.2.2.2⟩
theorem sp_M_rightHead {d p st he : Nat} {h : ZH} {xs : ZT} {Q : Int32 → ZH → Prop} (a : mdI h p xs) (h1 : st ≤ he) (h2 : he ≤ lC (stF xs)) (hq : Q (bI (rhF xs (stF xs) st (he - st) st)) h) : EvI (d + 3) m_M_rightHead [vQ (some (12, 0)), vI (nI st), vI (nI he)] h Q := by
  have hl := a.lc
  have hp := a.1
  have hxl := a.2.1.2
  have nb : ∀ b : Bool, narrow .boolean (.int (bI b)) = .int (bI b) := by decide
  have loop : ∀ (n i : Nat) (b : Bool), i + n = he → Q (bI (b && rhF xs (stF xs) st n i)) h → EvAt (d + 3) m_M_rightHead 5 [some (vQ (some (12, 0))), some (vI (nI st)), some (vI (nI he)), some (vI (bI b)), some (vI (nI i))] [] h (zQI Q) := by
    intro n
    induction n with
    | zero =>
      intro i b hi hq
      rw [rhF, Bool.and_true] at hq
      exact w_M_rightHead_5 _ _ _ _ (pk_le he i (fun _ => ⟨nb b, hq⟩) (fun z => by omega))
    | succ n ih =>
      intro i b hi hq
      have hil : i < lC (stF xs) := by omega
      obtain ⟨f1, f2, -⟩ := ln_fact hil
      rw [rhF] at hq
      have k51 : (b && ((decide (st < i) && decide (xs.getD (lS (stF xs) i) 0 = 32)) || (col xs (stF xs) i).isSome)) = false → EvAt (d + 3) m_M_rightHead 51 [some (vQ (some (12, 0))), some (vI (nI st)), some (vI (nI he)), none, some (vI (nI i))] [] h (zQI Q) := by
        intro z
        refine w_M_rightHead_51 _ _ _ (w_M_rightHead_52 _ _ _ _ ?_)
        rw [nI_inc]
        refine ih (i + 1) false (by omega) ?_
        rw [← Bool.and_assoc, z] at hq
        exact hq
      have k47 : (b && ((decide (st < i) && decide (xs.getD (lS (stF xs) i) 0 = 32)) || (col xs (stF xs) i).isSome)) = true → EvAt (d + 3) m_M_rightHead 47 [some (vQ (some (12, 0))), some (vI (nI st)), some (vI (nI he)), none, some (vI (nI i))] [] h (zQI Q) := by
        intro z
        refine w_M_rightHead_47 _ _ _ (w_M_rightHead_52 _ _ _ _ ?_)
        rw [nI_inc]
        refine ih (i + 1) true (by omega) ?_
        rw [← Bool.and_assoc, z] at hq
        exact hq
      refine w_M_rightHead_5 _ _ _ _ (pk_le he i (fun z => by omega) (fun _ => ⟨fun c => k51 (by rw [(bI_0 _).mp c]; rfl), fun c => sp_M_colon (d := d) a hil ?_⟩))
      have hb := bI_t c
      rw [oP_neg hp (fun n e => (col_bd hil hxl n e).2.2.1), nI_clamp (by omega), a.s hil, nI_clamp (by omega), a.c (by omega)]
      refine ⟨fun c2 => k47 (by rw [hb, c2, Bool.or_true]; rfl), fun c2 => ⟨vp_in_nI (show i < 604 by omega) (by decide), vp_in_nI (show 602 * p + lS (stF xs) i < 4816 by omega) (by decide), fun c3 => k51 ?_, fun c3 => pk_le i st (fun z => k51 ?_) (fun z => k47 ?_)⟩⟩
      · rw [decide_eq_false c3, Bool.and_false, Bool.false_or, Bool.eq_false_iff.mpr c2, Bool.and_false]
      · rw [decide_eq_false (show ¬ st < i by omega), Bool.false_and, Bool.false_or, Bool.eq_false_iff.mpr c2, Bool.and_false]
      · rw [hb, decide_eq_true z, decide_eq_true c3]
        rfl
  refine e_M_rightHead _ _ (loop (he - st) st true (by omega) ?_)
  rw [Bool.true_and]
  exact hq
