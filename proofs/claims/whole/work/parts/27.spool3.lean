theorem zw_self (h : ZH) (k i j : Nat) : zw h k i j (zi h k i j) = h := by
  unfold zw zi
  refine Prod.ext ?_ rfl
  funext a b c
  show (if a = k ∧ b = i ∧ c = j then h.1 k i j else h.1 a b c) = h.1 a b c
  split
  · rename_i z
    rw [z.1, z.2.1, z.2.2]
  · rfl
def wrN : Option Nat → Option (Option Nat)
  | none => some none
  | some 0 => none
  | some (n + 1) => some (some n)
theorem sp_O_write2 {d : Nat} {h : ZH} {w : Option Nat} {Q : Int32 → ZH → Prop} (hw : zi h 5 0 3 = wrE w) (hb : ∀ n, w = some n → n < 2 ^ 30) (h1 : wrN w = none → Q 0 (zw h 5 0 4 1)) (h2 : ∀ w', wrN w = some w' → Q 1 (zw h 5 0 3 (wrE w'))) : EvI d m_O_write [vQ (some (5, 0))] h Q := by
  refine sp_O_write hw hb (fun e => ?_) (fun e => h1 (by rw [e]; rfl)) (fun n e => h2 (some n) (by rw [e]; rfl))
  have := h2 none (by rw [e]; rfl)
  rw [← show wrE w = wrE none by rw [e], ← hw, zw_self] at this
  exact this
theorem spIs.kept {h h' : ZH} {π : Nat → Nat} {L : List ZL} {P : Nat → Nat → Prop} (a : spIs h π L) (s : zSame P h h') (hc : zi h' 5 0 1 = zi h 5 0 1) (hp : ∀ j, j < L.length → ∀ k i, letP (π j) k i → ¬ P k i) : spIs h' π L :=
  ⟨by rw [hc]; exact a.1, a.2.1, fun j hj => by rw [s.2 6 0 j]; exact a.2.2.1 j hj, a.2.2.2.1, fun j hj => (a.2.2.2.2 j hj).kept s (hp j hj)⟩
theorem letP_ne5 {q i : Nat} : ¬ letP q 5 i := by
  rintro (⟨z, -⟩ | ⟨z, -⟩ | ⟨z | z, -⟩) <;> omega
theorem letP_apart {q q' k i : Nat} (h6 : q < 6) (h6' : q' < 6) (hne : q ≠ q') (z : letP q k i) : ¬ letP q' k i := by
  intro y
  rcases z with ⟨a1, a2⟩ | ⟨a1, a2, a3⟩ | ⟨a1, a2⟩ <;> rcases y with ⟨b1, b2⟩ | ⟨b1, b2, b3⟩ | ⟨b1, b2⟩ <;> omega
theorem sp_O_begin {d g : Nat} {h : ZH} {π : Nat → Nat} {L : List ZL} {w : Option Nat} {Q : Option Nat → ZH → Prop} (a : spIs h π L) (hL : L.length < 6) (hg : zi h 5 0 2 = nI g) (hgb : g + 1 < 2 ^ 30) (hw : zi h 5 0 3 = wrE w) (hb : ∀ n, w = some n → n < 2 ^ 30)
    (h1 : wrN w = none → Q none (zw (zw h 5 0 2 (nI (g + 1))) 5 0 4 1))
    (h2 : ∀ w', wrN w = some w' → ∀ h', spIs h' π (L ++ [(g, false, [], [], [])]) → zi h' 5 0 2 = nI (g + 1) → zi h' 5 0 3 = wrE w' → zi h' 5 0 4 = zi h 5 0 4 → zSame (fun k i => k = 5 ∨ letP (π L.length) k i) h h' → Q (some (π L.length)) h') : EvR 7 (d + 2) m_O_begin [vQ (some (5, 0))] h Q := by
  refine e_O_begin (sp_O_isFull a ⟨fun _ => ?_, fun c => ?_⟩)
  · rw [hg, nI_inc]
    have w1 : zi (zw h 5 0 2 (nI (g + 1))) 5 0 3 = wrE w := by rw [zi_zw, if_neg (by omega)]; exact hw
    refine sp_O_write2 w1 hb (fun e => ⟨fun c => absurd rfl c, fun _ => h1 e⟩) (fun w' e => ⟨fun _ => ?_, fun c => absurd c (by decide)⟩)
    have e1 : zi (zw (zw h 5 0 2 (nI (g + 1))) 5 0 3 (wrE w')) 5 0 1 = nI L.length := by
      rw [zi_zw, if_neg (by omega), zi_zw, if_neg (by omega)]; exact a.1
    have hr := a.row (j := L.length) hL
    rw [e1]
    refine ⟨hr.1, π L.length, hr.2.1, hr.2.2, ?_⟩
    refine sp_L_begin hr.2.2 (by omega) (fun h' l' s' => ?_)
    have s1 : zSame (fun k i => k = 5 ∨ letP (π L.length) k i) h (zw (zw h 5 0 2 (nI (g + 1))) 5 0 3 (wrE w')) := (zSame.rfl.w (Or.inl rfl)).w (Or.inl rfl)
    have s2 := s1.trans (s'.mono (fun k i z => Or.inr z))
    have f5 : ∀ j, zi h' 5 0 j = zi (zw (zw h 5 0 2 (nI (g + 1))) 5 0 3 (wrE w')) 5 0 j := fun j => s'.1 5 0 j letP_ne5
    rw [f5 1, e1, nI_inc]
    have s3 : zSame (fun k i => k = 5 ∨ letP (π L.length) k i) h (zw h' 5 0 1 (nI (L.length + 1))) := s2.w (Or.inl rfl)
    refine h2 w' e _ ⟨?_, ?_, fun j hj => ?_, a.2.2.2.1, fun j hj => ?_⟩ ?_ ?_ ?_ s3
    · rw [zi_zw, if_pos ⟨rfl, rfl, rfl⟩, List.length_append]
      rfl
    · rw [List.length_append]
      exact hL
    · rw [s3.2 6 0 j]
      exact a.2.2.1 j hj
    · rw [List.length_append] at hj
      have hj : j < L.length + 1 := hj
      by_cases e2 : j = L.length
      · subst e2
        rw [getD_appG2]
        exact l'.kept (P := fun k _ => k = 5) (zSame.rfl.w rfl) (fun k i z z5 => letP_ne5 (z5 ▸ z))
      · rw [getD_appG1 (by omega)]
        refine (a.2.2.2.2 j (by omega)).kept s3 (fun k i z => ?_)
        rintro (z5 | z5)
        · exact letP_ne5 (z5 ▸ z)
        · exact letP_apart (a.2.2.1 j (by omega)).2 hr.2.2 (fun y => e2 (a.2.2.2.1 j L.length (by omega) hL y)) z z5
    · rw [zi_zw, if_neg (by omega), f5 2, zi_zw, if_neg (by omega), zi_zw, if_pos ⟨rfl, rfl, rfl⟩]
    · rw [zi_zw, if_neg (by omega), f5 3, zi_zw, if_pos ⟨rfl, rfl, rfl⟩]
    · rw [zi_zw, if_neg (by omega), f5 4, zi_zw, if_neg (by omega), zi_zw, if_neg (by omega)]
  · rw [decide_eq_false (by omega)] at c
    exact absurd rfl c
theorem sp_O_seal {d q : Nat} {h : ZH} {w : Option Nat} {Q : Int32 → ZH → Prop} (hq6 : q < 6) (hw : zi h 5 0 3 = wrE w) (hb : ∀ n, w = some n → n < 2 ^ 30) (h1 : wrN w = none → Q 0 (zw (zw h 5 0 4 1) 7 q 5 0)) (h2 : ∀ w', wrN w = some w' → Q 1 (zw (zw h 5 0 3 (wrE w')) 7 q 5 1)) : EvI (d + 1) m_O_seal [vQ (some (5, 0)), vQ (some (7, q))] h Q := by
  refine e_O_seal q hq6 (sp_O_write2 hw hb (fun e => ?_) (fun w' e => ?_))
  · rw [zi_zw, if_pos ⟨rfl, rfl, rfl⟩]
    exact ⟨Or.inl rfl, rfl, h1 e⟩
  · rw [zi_zw, if_pos ⟨rfl, rfl, rfl⟩]
    exact ⟨Or.inr rfl, rfl, h2 w' e⟩
/-- as zSame, but the row of letters may be ordered anew -/
def zSm (P : Nat → Nat → Prop) (h h' : ZH) : Prop := (∀ k i j, ¬ P k i → zi h' k i j = zi h k i j) ∧ ∀ k i j, k ≠ 6 → zr h' k i j = zr h k i j
theorem zSame.sm {P : Nat → Nat → Prop} {h h' : ZH} (a : zSame P h h') : zSm P h h' := ⟨a.1, fun k i j _ => a.2 k i j⟩
theorem zSm.trans {P : Nat → Nat → Prop} {h h' h'' : ZH} (a : zSm P h h') (b : zSm P h' h'') : zSm P h h'' :=
  ⟨fun k i j hp => (b.1 k i j hp).trans (a.1 k i j hp), fun k i j hk => (b.2 k i j hk).trans (a.2 k i j hk)⟩
theorem zSm.mono {P P' : Nat → Nat → Prop} {h h' : ZH} (a : zSm P h h') (hp : ∀ k i, P k i → P' k i) : zSm P' h h' :=
  ⟨fun k i j hn => a.1 k i j (fun z => hn (hp k i z)), a.2⟩
theorem ltIs.keptI {h h' : ZH} {q : Nat} {l : ZL} (a : ltIs h q l) (s : ∀ k i j, k ≠ 5 → zi h' k i j = zi h k i j) : ltIs h' q l :=
  a.kept (h' := (h'.1, h.2)) (P := fun k _ => k = 5) ⟨fun k i j hp => s k i j hp, fun _ _ _ => rfl⟩ (fun k i z z5 => letP_ne5 (z5 ▸ z))
