/-! a letter, its recipients, the spool: what the class's cells mean -/
abbrev ZP : Type := ZT × Nat × Nat
abbrev ZL : Type := Nat × Bool × ZT × List ZP × ZT
def dP : ZP := ([], 0, 0)
def dL : ZL := (0, false, [], [], [])
theorem drop_consG {α : Type} {l : List α} {k : Nat} {a : α} (h : k < l.length) : l.drop k = l.getD k a :: l.drop (k + 1) := by
  rw [List.drop_eq_getElem_cons h, List.getD_eq_getElem?_getD, List.getElem?_eq_getElem h]
  rfl
theorem getD_appG1 {α : Type} {xs ys : List α} {a : α} {j : Nat} (h : j < xs.length) : (xs ++ ys).getD j a = xs.getD j a := by
  rw [List.getD_eq_getElem?_getD, List.getD_eq_getElem?_getD, List.getElem?_append_left h]
theorem getD_appG2 {α : Type} {xs : List α} {a b : α} : (xs ++ [b]).getD xs.length a = b := by
  rw [List.getD_eq_getElem?_getD, List.getElem?_append_right (Nat.le_refl _)]
  simp
def rcIs (h : ZH) (t : Nat) (p : ZP) : Prop := rowIs h (19 + t) p.1 ∧ ((p.2.1 < 4 ∧ zi h 9 t 1 = 0 ∧ zi h 9 t 2 = nI p.2.1) ∨ (p.2.1 = 10 ∧ zi h 9 t 1 = 1) ∨ (p.2.1 = 20 ∧ zi h 9 t 1 = 2)) ∧ zi h 9 t 3 = nI p.2.2 ∧ p.2.2 < 2 ^ 30
def ltIs (h : ZH) (q : Nat) (l : ZL) : Prop := zi h 7 q 4 = nI l.1 ∧ l.1 < 2 ^ 30 ∧ zi h 7 q 5 = bI l.2.1 ∧ rowIs h (7 + q) l.2.2.1 ∧ zi h 7 q 3 = nI l.2.2.2.1.length ∧ l.2.2.2.1.length ≤ 4 ∧ (∀ r, r < l.2.2.2.1.length → rcIs h (4 * q + r) (l.2.2.2.1.getD r dP)) ∧ rowIs h (13 + q) l.2.2.2.2
def letP (q : Nat) : Nat → Nat → Prop := fun k i => (k = 7 ∧ i = q) ∨ (k = 9 ∧ 4 * q ≤ i ∧ i < 4 * q + 4) ∨ ((k = 1 ∨ k = 2) ∧ (i = 7 + q ∨ i = 13 + q ∨ (19 + 4 * q ≤ i ∧ i < 23 + 4 * q)))
theorem rcIs.kept {h h' : ZH} {t : Nat} {p : ZP} (a : rcIs h t p) {P : Nat → Nat → Prop} (s : zSame P h h') (h1 : ¬ P 1 (19 + t)) (h2 : ¬ P 2 (19 + t)) (h9 : ¬ P 9 t) : rcIs h' t p := by
  obtain ⟨a1, a2, a3, a4⟩ := a
  refine ⟨a1.kept s h1 h2, ?_, by rw [s.1 9 t 3 h9]; exact a3, a4⟩
  rw [s.1 9 t 1 h9, s.1 9 t 2 h9]
  exact a2
theorem ltIs.kept {h h' : ZH} {q : Nat} {l : ZL} (a : ltIs h q l) {P : Nat → Nat → Prop} (s : zSame P h h') (hp : ∀ k i, letP q k i → ¬ P k i) : ltIs h' q l := by
  obtain ⟨a1, a2, a3, a4, a5, a6, a7, a8⟩ := a
  have h7 : ¬ P 7 q := hp 7 q (Or.inl ⟨rfl, rfl⟩)
  refine ⟨by rw [s.1 7 q 4 h7]; exact a1, a2, by rw [s.1 7 q 5 h7]; exact a3, a4.kept s (hp _ _ ?_) (hp _ _ ?_), by rw [s.1 7 q 3 h7]; exact a5, a6, fun r hr => (a7 r hr).kept s (hp _ _ ?_) (hp _ _ ?_) (hp _ _ ?_), a8.kept s (hp _ _ ?_) (hp _ _ ?_)⟩
  · exact Or.inr (Or.inr ⟨Or.inl rfl, Or.inl rfl⟩)
  · exact Or.inr (Or.inr ⟨Or.inr rfl, Or.inl rfl⟩)
  · exact Or.inr (Or.inr ⟨Or.inl rfl, Or.inr (Or.inr ⟨by omega, by omega⟩)⟩)
  · exact Or.inr (Or.inr ⟨Or.inr rfl, Or.inr (Or.inr ⟨by omega, by omega⟩)⟩)
  · exact Or.inr (Or.inl ⟨rfl, by omega, by omega⟩)
  · exact Or.inr (Or.inr ⟨Or.inl rfl, Or.inr (Or.inl rfl)⟩)
  · exact Or.inr (Or.inr ⟨Or.inr rfl, Or.inr (Or.inl rfl)⟩)
theorem sp_L_begin {d q n : Nat} {h : ZH} {Q : ZH → Prop} (hq6 : q < 6) (hn : n < 2 ^ 30) (hq : ∀ h', ltIs h' q (n, false, [], [], []) → zSame (letP q) h h' → Q h') : EvV (d + 1) m_L_begin [vQ (some (7, q)), vI (nI n)] h Q := by
  refine e_L_begin q _ hq6 (sp_R_clear (by omega) (sp_R_clear (by omega) (hq _ ?_ ?_)))
  · refine ⟨?_, hn, ?_, ?_, ?_, Nat.zero_le _, fun r hr => absurd hr (Nat.not_lt_zero _), rowIs_clear _ _⟩
    · simp [zi_zw]
    · simp [zi_zw, bI]
    · refine rowIs_nil ?_
      rw [zi_zw, if_neg (by omega), zi_zw, if_pos ⟨rfl, rfl, rfl⟩]
    · simp [zi_zw, nI_0]
  · refine ((((zSame.rfl.w ?_).w ?_).w ?_).w ?_).w ?_
    · exact Or.inl ⟨rfl, rfl⟩
    · exact Or.inl ⟨rfl, rfl⟩
    · exact Or.inl ⟨rfl, rfl⟩
    · exact Or.inr (Or.inr ⟨Or.inl rfl, Or.inl rfl⟩)
    · exact Or.inr (Or.inr ⟨Or.inl rfl, Or.inr (Or.inl rfl)⟩)
theorem letP_row {q t : Nat} (h : 4 * q ≤ t ∧ t < 4 * q + 4) : ∀ k i, rowP (19 + t) k i → letP q k i := fun k i z => Or.inr (Or.inr ⟨z.1, Or.inr (Or.inr ⟨by have := z.2; omega, by have := z.2; omega⟩)⟩)
theorem sp_L_address {d q f n : Nat} {h : ZH} {l : ZL} {xs : ZT} {Q : ZH → Prop} (hq6 : q < 6) (hf : f < 43) (hff : f < 7 ∨ ∃ q', q' < 6 ∧ q' ≠ q ∧ f = 7 + q') (a : ltIs h q l) (hr : l.2.2.2.1.length < 4) (w : rowIs h f xs) (hx : xs.length ≤ 40) (hn : n < 2 ^ 30)
    (hq : ∀ h', ltIs h' q (l.1, l.2.1, l.2.2.1, l.2.2.2.1 ++ [(xs, 0, n)], l.2.2.2.2) → zSame (letP q) h h' → Q h') : EvV (d + 2) m_L_address [vQ (some (7, q)), vQ (some (1, f)), vI (nI n)] h Q := by
  obtain ⟨a1, a2, a3, a4, a5, a6, a7, a8⟩ := a
  obtain ⟨m, hm⟩ : ∃ m, m = l.2.2.2.1.length := ⟨_, rfl⟩
  rw [← hm] at a5 a6 a7 hr
  have hc : (zi h 7 q 3).toNatClampNeg = m := by rw [a5, nI_clamp (by omega)]
  refine e_L_address q f _ hq6 hf ⟨fun c => ?_, fun c => ?_⟩
  · rw [a5] at c
    exact absurd ((nI_leI (a := 4) (by omega) (by omega)).mp c) (by omega)
  · rw [hc]
    refine ⟨by rw [a5]; exact vp_in_nI hr (by omega), ?_⟩
    refine sp_R_clear (by omega) ?_
    have s1 : zSame (rowP (19 + (4 * q + m))) h (zw h 1 (19 + (4 * q + m)) 1 0) := zSame.rfl.w ⟨Or.inl rfl, rfl⟩
    have hfne : f ≠ 19 + (4 * q + m) := by
      rcases hff with z | ⟨q', z1, z2, z3⟩ <;> omega
    refine sp_R_addRow (by omega) hf hfne (rowIs_clear _ _) (w.kept s1 (rowP_ne hfne) (rowP_ne hfne)) (by
      show 0 + xs.length ≤ zcap _
      unfold zcap
      rw [if_neg (by omega), if_neg (by omega), if_neg (by omega)]
      omega) (fun h' w' s' => ?_)
    have s2 := s1.trans s'
    have sL : zSame (letP q) h h' := s2.mono (letP_row ⟨by omega, by omega⟩)
    have n7 : ¬ rowP (19 + (4 * q + m)) 7 q := by rintro ⟨z | z, -⟩ <;> omega
    have e5 : zi (zw (zw (zw h' 9 (4 * q + m) 1 0) 9 (4 * q + m) 2 0) 9 (4 * q + m) 3 (nI n)) 7 q 3 + (1 : Int32) = nI (m + 1) := by
      rw [zi_zw, if_neg (by omega), zi_zw, if_neg (by omega), zi_zw, if_neg (by omega), s2.1 7 q 3 n7, a5, nI_inc]
    rw [e5]
    refine hq _ ⟨?_, a2, ?_, ?_, ?_, ?_, fun r hr2 => ?_, ?_⟩ ?_
    · simp only [zi_zw]
      simp [s2.1 7 q 4 n7, a1]
    · simp only [zi_zw]
      simp [s2.1 7 q 5 n7, a3]
    · refine (a4.kept s2 (rowP_ne (by omega)) (rowP_ne (by omega))).kept (P := fun k _ => k = 7 ∨ k = 9) ((((zSame.rfl.w (Or.inr rfl)).w (Or.inr rfl)).w (Or.inr rfl)).w (Or.inl rfl)) (by omega) (by omega)
    · rw [zi_zw, if_pos ⟨rfl, rfl, rfl⟩, List.length_append, ← hm]
      rfl
    · rw [List.length_append, ← hm]
      show m + 1 ≤ 4
      omega
    · rw [List.length_append, ← hm] at hr2
      have hr2 : r < m + 1 := hr2
      by_cases e : r = m
      · subst e
        show rcIs _ _ ((l.2.2.2.1 ++ [(xs, 0, n)]).getD r dP)
        rw [hm, getD_appG2, ← hm]
        refine ⟨?_, Or.inl ⟨show 0 < 4 by decide, ?_, ?_⟩, ?_, hn⟩
        · exact w'.kept (P := fun k _ => k = 7 ∨ k = 9) ((((zSame.rfl.w (Or.inr rfl)).w (Or.inr rfl)).w (Or.inr rfl)).w (Or.inl rfl)) (by omega) (by omega)
        · simp [zi_zw]
        · simp [zi_zw, nI_0]
        · simp [zi_zw]
      · show rcIs _ _ ((l.2.2.2.1 ++ [(xs, 0, n)]).getD r dP)
        rw [getD_appG1 (by omega)]
        refine ((a7 r (by omega)).kept s2 (rowP_ne (by omega)) (rowP_ne (by omega)) (by rintro ⟨z | z, -⟩ <;> omega)).kept (P := fun k i => k = 7 ∨ (k = 9 ∧ i = 4 * q + m)) ((((zSame.rfl.w (Or.inr ⟨rfl, rfl⟩)).w (Or.inr ⟨rfl, rfl⟩)).w (Or.inr ⟨rfl, rfl⟩)).w (Or.inl rfl)) (by omega) (by omega) (by omega)
    · refine (a8.kept s2 (rowP_ne (by omega)) (rowP_ne (by omega))).kept (P := fun k _ => k = 7 ∨ k = 9) ((((zSame.rfl.w (Or.inr rfl)).w (Or.inr rfl)).w (Or.inr rfl)).w (Or.inl rfl)) (by omega) (by omega)
    · refine (((sL.w ?_).w ?_).w ?_).w ?_
      · exact Or.inr (Or.inl ⟨rfl, by omega, by omega⟩)
      · exact Or.inr (Or.inl ⟨rfl, by omega, by omega⟩)
      · exact Or.inr (Or.inl ⟨rfl, by omega, by omega⟩)
      · exact Or.inl ⟨rfl, rfl⟩
