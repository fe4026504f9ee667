def spIs (h : ZH) (π : Nat → Nat) (L : List ZL) : Prop := zi h 5 0 1 = nI L.length ∧ L.length ≤ 6 ∧ (∀ j, j < 6 → zr h 6 0 j = some (π j) ∧ π j < 6) ∧ (∀ i j, i < 6 → j < 6 → π i = π j → i = j) ∧ ∀ j, j < L.length → ltIs h (π j) (L.getD j dL)
theorem spIs.row {h : ZH} {π : Nat → Nat} {L : List ZL} (a : spIs h π L) {j : Nat} (hj : j < 6) : vp_in (nI j) 6 ∧ zr h 6 0 (nI j).toNatClampNeg = some (π j) ∧ π j < 6 := by
  rw [nI_clamp (by omega)]
  exact ⟨vp_in_nI hj (by omega), (a.2.2.1 j hj).1, (a.2.2.1 j hj).2⟩
theorem ltIs.seal0 {h : ZH} {q : Nat} {l : ZL} (a : ltIs h q l) : zi h 7 q 5 = 0 ↔ l.2.1 = false := by
  rw [a.2.2.1]
  exact bI_0 _
theorem sp_O_isFull {d : Nat} {h : ZH} {π : Nat → Nat} {L : List ZL} {Q : Int32 → ZH → Prop} (a : spIs h π L) (hq : Q (bI (decide (6 ≤ L.length))) h) : EvI d m_O_isFull [vQ (some (5, 0))] h Q := by
  have hL := a.2.1
  refine e_O_isFull ⟨fun c => ?_, fun c => ?_⟩
  · rw [a.1] at c
    have := (nI_ltI (b := 6) (by omega) (by omega)).mp c
    rw [decide_eq_false (by omega)] at hq
    exact hq
  · rw [a.1] at c
    have : 6 ≤ L.length := by
      rcases Nat.lt_or_ge L.length 6 with z | z
      · exact absurd ((nI_ltI (b := 6) (by omega) (by omega)).mpr z) c
      · exact z
    rw [decide_eq_true this] at hq
    exact hq
def wrE : Option Nat → Int32
  | none => -1
  | some n => nI n
theorem sp_O_write {d : Nat} {h : ZH} {w : Option Nat} {Q : Int32 → ZH → Prop} (hw : zi h 5 0 3 = wrE w) (hb : ∀ n, w = some n → n < 2 ^ 30) (h0 : w = none → Q 1 h) (h1 : w = some 0 → Q 0 (zw h 5 0 4 1)) (h2 : ∀ n, w = some (n + 1) → Q 1 (zw h 5 0 3 (nI n))) : EvI d m_O_write [vQ (some (5, 0))] h Q := by
  refine e_O_write ⟨fun c => ⟨fun c2 => ?_, fun c2 => ?_⟩, fun c => ?_⟩
  · rw [hw] at c c2
    match w, hb, h0, c, c2 with
    | none, _, h0, _, _ => exact h0 rfl
    | some 0, _, _, c, _ => exact absurd nI_0 c
    | some (n + 1), hb, _, _, c2 => exact absurd c2 (nI_nle (by omega) (by have := hb (n + 1) rfl; omega))
  · rw [hw] at c2 ⊢
    match w, hb, h2, c2 with
    | none, _, _, c2 => exact absurd (by decide) c2
    | some 0, _, _, c2 => exact absurd (by show nI 0 ≤ 0; rw [nI_0]; decide) c2
    | some (n + 1), hb, h2, _ =>
      have := h2 n rfl
      rw [← nI_pred n] at this
      exact this
  · rw [hw] at c
    match w, hb, h1, c with
    | none, _, _, c => exact absurd c (by decide)
    | some 0, _, h1, _ => exact h1 rfl
    | some (n + 1), hb, _, c => exact absurd c (nI_ne0 (by omega) (by have := hb (n + 1) rfl; omega))
def scF : List ZL → Nat
  | [] => 0
  | l :: t => (if l.2.1 then 1 else 0) + scF t
theorem scF_le : ∀ L : List ZL, scF L ≤ L.length
  | [] => Nat.le_refl _
  | l :: t => by
    have := scF_le t
    rw [scF, List.length_cons]
    split <;> omega
theorem sp_O_sealedCount {d : Nat} {h : ZH} {π : Nat → Nat} {L : List ZL} {Q : Int32 → ZH → Prop} (a : spIs h π L) (hq : Q (nI (scF L)) h) : EvI d m_O_sealedCount [vQ (some (5, 0))] h Q := by
  have hL := a.2.1
  have key : ∀ (n j c : Nat), L.length - j = n → j ≤ L.length → Q (nI (c + scF (L.drop j))) h → EvAt d m_O_sealedCount 4 [some (vQ (some (5, 0))), some (vI (nI c)), some (vI (nI j))] [] h (zQI Q) := by
    intro n
    induction n with
    | zero =>
      intro j c hn hj hq
      rw [List.drop_eq_nil_of_le (by omega)] at hq
      refine w_O_sealedCount_4 _ _ ⟨fun _ => hq, fun c => ?_⟩
      rw [a.1] at c
      exact absurd ((nI_leI (by omega) (by omega)).mpr (by omega)) c
    | succ n ih =>
      intro j c hn hj hq
      rw [drop_consG (a := dL) (by omega), scF] at hq
      have hl := a.2.2.2.2 j (by omega)
      have hr := a.row (j := j) (by omega)
      refine w_O_sealedCount_4 _ _ ⟨fun c => ?_, fun _ => ⟨hr.1, π j, hr.2.1, hr.2.2, fun c1 => ?_, fun c1 => ?_⟩⟩
      · rw [a.1] at c
        exact absurd ((nI_leI (by omega) (by omega)).mp c) (by omega)
      · rw [hl.seal0] at c1
        rw [c1] at hq
        refine w_O_sealedCount_27 _ _ ?_
        rw [nI_inc]
        refine ih (j + 1) c (by omega) (by omega) ?_
        rw [if_neg (by decide), Nat.zero_add] at hq
        exact hq
      · rw [hl.seal0] at c1
        rw [Bool.not_eq_false] at c1
        rw [c1, if_pos rfl] at hq
        refine w_O_sealedCount_27 _ _ ?_
        rw [nI_inc, nI_inc]
        refine ih (j + 1) (c + 1) (by omega) (by omega) ?_
        rw [Nat.add_assoc]
        exact hq
  exact e_O_sealedCount (key _ 0 0 rfl (Nat.zero_le _) (by rw [Nat.zero_add]; exact hq))
def snF (x : Int32) : Nat → List ZL → Int32
  | _, [] => -1
  | c, l :: t => if l.2.1 then (if nI c = x then nI l.1 else snF x (c + 1) t) else snF x c t
theorem sp_O_sealedNumber {d : Nat} {x : Int32} {h : ZH} {π : Nat → Nat} {L : List ZL} {Q : Int32 → ZH → Prop} (a : spIs h π L) (hq : Q (snF x 0 L) h) : EvI d m_O_sealedNumber [vQ (some (5, 0)), vI x] h Q := by
  have hL := a.2.1
  have key : ∀ (n j c : Nat), L.length - j = n → j ≤ L.length → Q (snF x c (L.drop j)) h → EvAt d m_O_sealedNumber 4 [some (vQ (some (5, 0))), some (vI x), some (vI (nI c)), some (vI (nI j))] [] h (zQI Q) := by
    intro n
    induction n with
    | zero =>
      intro j c hn hj hq
      rw [List.drop_eq_nil_of_le (by omega)] at hq
      refine w_O_sealedNumber_4 _ _ _ ⟨fun _ => hq, fun c => ?_⟩
      rw [a.1] at c
      exact absurd ((nI_leI (by omega) (by omega)).mpr (by omega)) c
    | succ n ih =>
      intro j c hn hj hq
      rw [drop_consG (a := dL) (by omega), snF] at hq
      have hl := a.2.2.2.2 j (by omega)
      have hr := a.row (j := j) (by omega)
      refine w_O_sealedNumber_4 _ _ _ ⟨fun c => ?_, fun _ => ⟨hr.1, π j, hr.2.1, hr.2.2, fun c1 => ?_, fun c1 => ⟨fun c2 => ?_, fun c2 => ⟨hr.1, π j, hr.2.1, hr.2.2, ?_⟩⟩⟩⟩
      · rw [a.1] at c
        exact absurd ((nI_leI (by omega) (by omega)).mp c) (by omega)
      · rw [hl.seal0] at c1
        rw [c1, if_neg (by decide)] at hq
        refine w_O_sealedNumber_42 _ _ _ ?_
        rw [nI_inc]
        exact ih (j + 1) c (by omega) (by omega) hq
      · rw [hl.seal0, Bool.not_eq_false] at c1
        rw [c1, if_pos rfl, if_neg c2] at hq
        refine w_O_sealedNumber_42 _ _ _ ?_
        rw [nI_inc, nI_inc]
        exact ih (j + 1) (c + 1) (by omega) (by omega) hq
      · rw [hl.seal0, Bool.not_eq_false] at c1
        rw [c1, if_pos rfl, if_pos c2] at hq
        rw [hl.1]
        exact hq
  exact e_O_sealedNumber _ (key _ 0 0 rfl (Nat.zero_le _) hq)
def lfF (x : Int32) : Nat → List ZL → Option Nat
  | _, [] => none
  | j, l :: t => if l.2.1 = true ∧ nI l.1 = x then some j else lfF x (j + 1) t
theorem lfF_lt {x : Int32} : ∀ (L : List ZL) (j i : Nat), lfF x j L = some i → j ≤ i ∧ i < j + L.length ∧ (L.getD (i - j) dL).2.1 = true ∧ nI (L.getD (i - j) dL).1 = x
  | [], j, i, h => by cases h
  | l :: t, j, i, h => by
    rw [lfF] at h
    split at h
    · rename_i c
      cases h
      rw [Nat.sub_self]
      exact ⟨Nat.le_refl _, by rw [List.length_cons]; omega, c.1, c.2⟩
    · have ih := lfF_lt t (j + 1) i h
      rw [List.length_cons]
      refine ⟨by omega, by omega, ?_⟩
      rw [show i - j = (i - (j + 1)) + 1 by omega]
      exact ih.2.2
theorem sp_O_find {d : Nat} {x : Int32} {h : ZH} {π : Nat → Nat} {L : List ZL} {Q : Option Nat → ZH → Prop} (a : spIs h π L) (hq : Q ((lfF x 0 L).map π) h) : EvR 7 d m_O_find [vQ (some (5, 0)), vI x] h Q := by
  have hL := a.2.1
  have key : ∀ (n j : Nat), L.length - j = n → j ≤ L.length → Q ((lfF x j (L.drop j)).map π) h → EvAt d m_O_find 2 [some (vQ (some (5, 0))), some (vI x), some (vI (nI j))] [] h (zQR 7 Q) := by
    intro n
    induction n with
    | zero =>
      intro j hn hj hq
      rw [List.drop_eq_nil_of_le (by omega)] at hq
      refine w_O_find_2 _ _ ⟨fun _ => hq, fun c => ?_⟩
      rw [a.1] at c
      exact absurd ((nI_leI (by omega) (by omega)).mpr (by omega)) c
    | succ n ih =>
      intro j hn hj hq
      rw [drop_consG (a := dL) (by omega), lfF] at hq
      have hl := a.2.2.2.2 j (by omega)
      have hr := a.row (j := j) (by omega)
      have go : ¬ ((L.getD j dL).2.1 = true ∧ nI (L.getD j dL).1 = x) → EvAt d m_O_find 42 [some (vQ (some (5, 0))), some (vI x), some (vI (nI j))] [] h (zQR 7 Q) := by
        intro z
        rw [if_neg z] at hq
        refine w_O_find_42 _ _ ?_
        rw [nI_inc]
        exact ih (j + 1) (by omega) (by omega) hq
      refine w_O_find_2 _ _ ⟨fun c => ?_, fun _ => ⟨hr.1, π j, hr.2.1, hr.2.2, fun c1 => go ?_, fun c1 => ⟨hr.1, π j, hr.2.1, hr.2.2, fun c2 => go ?_, fun c2 => ⟨hr.1, π j, hr.2.1, hr.2.2, ?_⟩⟩⟩⟩
      · rw [a.1] at c
        exact absurd ((nI_leI (by omega) (by omega)).mp c) (by omega)
      · rw [hl.seal0] at c1
        rw [c1]
        exact fun z => absurd z.1 (by decide)
      · rw [hl.1] at c2
        exact fun z => c2 z.2
      · rw [hl.seal0, Bool.not_eq_false] at c1
        rw [hl.1] at c2
        rw [if_pos ⟨c1, c2⟩] at hq
        exact hq
  exact e_O_find _ (key _ 0 rfl (Nat.zero_le _) hq)
