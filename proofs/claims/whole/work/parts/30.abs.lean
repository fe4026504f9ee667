/-! THE STATE BEHIND BOTH SIDES: up now given writes line greeted begun taking sender recipients text letters -/
abbrev ZS : Type := Bool × Nat × Nat × Option Nat × ZT × Bool × Bool × Bool × ZT × List ZT × ZT × List ZL
/-- the text that is being taken, on the class's side -/
def txC (h : ZH) (tx : ZT) : Prop := (zi h 3 0 7 = 0 ∧ tx.length ≤ 600 ∧ rowIs h 6 tx) ∨ (zi h 3 0 7 = 1 ∧ 600 < tx.length)
def seC (h : ZH) (wr : Option Nat) (line : ZT) (gr bg tk : Bool) (snd : ZT) (rcs : List ZT) (tx : ZT) : Prop :=
  zi h 5 0 3 = wrE wr ∧ (∀ n, wr = some n → n ≤ 20) ∧ rowIs h 0 line ∧ zi h 3 0 4 = bI gr ∧ zi h 3 0 5 = bI bg ∧ zi h 3 0 6 = bI tk ∧ (tk = true → bg = true) ∧ rcs.length ≤ 4 ∧ (bg = true → zi h 3 0 3 = nI rcs.length ∧ rowIs h 1 snd ∧ ∀ r, r < rcs.length → rowIs h (2 + r) (rcs.getD r [])) ∧ (bg = false → zi h 3 0 3 = 0) ∧ (tk = true → txC h tx)
/-- the class's cells mean this state -/
def RC (h : ZH) (S : ZS) : Prop := match S with
  | (up, now, given, wr, line, gr, bg, tk, snd, rcs, tx, L) => zi h 0 0 4 = nI now ∧ now < 2 ^ 29 ∧ zi h 5 0 2 = nI given ∧ given < 2 ^ 29 ∧ zi h 5 0 4 = bI (!up) ∧ (∃ π, spIs h π L) ∧ (up = true → seC h wr line gr bg tk snd rcs tx)
def PC : Nat → Nat → Prop := fun k _ => k < 10
theorem seC.kept {h h' : ZH} {wr : Option Nat} {line : ZT} {gr bg tk : Bool} {snd : ZT} {rcs : List ZT} {tx : ZT} (b : seC h wr line gr bg tk snd rcs tx) (n3 : ∀ j, zi h' 3 0 j = zi h 3 0 j) (n5 : zi h' 5 0 3 = zi h 5 0 3) (fr : ∀ r, r < 7 → ∀ xs, rowIs h r xs → rowIs h' r xs) : seC h' wr line gr bg tk snd rcs tx := by
  obtain ⟨b1, b2, b3, b4, b5, b6, b7, b8, b9, b10, b11⟩ := b
  refine ⟨by rw [n5]; exact b1, b2, fr 0 (by decide) _ b3, by rw [n3]; exact b4, by rw [n3]; exact b5, by rw [n3]; exact b6, b7, b8, fun z => ?_, fun z => by rw [n3]; exact b10 z, fun z => ?_⟩
  · obtain ⟨c1, c2, c3⟩ := b9 z
    exact ⟨by rw [n3]; exact c1, fr 1 (by decide) _ c2, fun r hr => fr (2 + r) (by omega) _ (c3 r hr)⟩
  · rcases b11 z with ⟨c1, c2, c3⟩ | ⟨c1, c2⟩
    · exact Or.inl ⟨by rw [n3]; exact c1, c2, fr 6 (by decide) _ c3⟩
    · exact Or.inr ⟨by rw [n3]; exact c1, c2⟩
/-- the state of a server that is down -/
def dnS (now given : Nat) (L : List ZL) : ZS := (false, now, given, none, [], false, false, false, [], [], [], L)
theorem sp_P_state {d : Nat} {h : ZH} {up : Bool} {now given : Nat} {wr : Option Nat} {line : ZT} {gr bg tk : Bool} {snd : ZT} {rcs : List ZT} {tx : ZT} {L : List ZL} {Q : Int32 → ZH → Prop} (a : RC h (up, now, given, wr, line, gr, bg, tk, snd, rcs, tx, L))
    (hq : Q (if up then (if tk then 4 else if bg then 3 else if gr then 2 else 1) else 0) h) : EvI d m_P_state [vQ (some (0, 0))] h Q := by
  obtain ⟨a1, a2, a3, a4, a5, a6, a7⟩ := a
  refine e_P_state ⟨fun c => ?_, fun c => ?_⟩
  · rw [a5, bI_0] at c
    have hup : up = true := by cases up <;> simp_all
    obtain ⟨b1, b2, b3, b4, b5, b6, -⟩ := a7 hup
    rw [hup, if_pos rfl] at hq
    rw [b4, b5, b6]
    refine ⟨fun c1 => ⟨fun c2 => ⟨fun c3 => ?_, fun c3 => ?_⟩, fun c2 => ?_⟩, fun c1 => ?_⟩
    · rw [(bI_0 _).mp c1, (bI_0 _).mp c2, (bI_0 _).mp c3] at hq
      exact hq
    · rw [bI_0, Bool.not_eq_false] at c3
      rw [(bI_0 _).mp c1, (bI_0 _).mp c2, c3] at hq
      exact hq
    · rw [bI_0, Bool.not_eq_false] at c2
      rw [(bI_0 _).mp c1, c2] at hq
      exact hq
    · rw [bI_0, Bool.not_eq_false] at c1
      rw [c1] at hq
      exact hq
  · rw [a5, bI_0] at c
    have hup : up = false := by cases up <;> simp_all
    rw [hup] at hq
    exact hq
theorem sp_P_letters {d : Nat} {h : ZH} {up : Bool} {now given : Nat} {wr : Option Nat} {line : ZT} {gr bg tk : Bool} {snd : ZT} {rcs : List ZT} {tx : ZT} {L : List ZL} {Q : Int32 → ZH → Prop} (a : RC h (up, now, given, wr, line, gr, bg, tk, snd, rcs, tx, L))
    (hq : Q (nI (scF L)) h) : EvI (d + 1) m_P_letters [vQ (some (0, 0))] h Q := by
  obtain ⟨a1, a2, a3, a4, a5, ⟨π, a6⟩, a7⟩ := a
  exact e_P_letters (sp_O_sealedCount a6 hq)
theorem sp_P_letter {d : Nat} {x : Int32} {h : ZH} {up : Bool} {now given : Nat} {wr : Option Nat} {line : ZT} {gr bg tk : Bool} {snd : ZT} {rcs : List ZT} {tx : ZT} {L : List ZL} {Q : Int32 → ZH → Prop} (a : RC h (up, now, given, wr, line, gr, bg, tk, snd, rcs, tx, L))
    (hq : Q (snF x 0 L) h) : EvI (d + 1) m_P_letter [vQ (some (0, 0)), vI x] h Q := by
  obtain ⟨a1, a2, a3, a4, a5, ⟨π, a6⟩, a7⟩ := a
  exact e_P_letter _ (sp_O_sealedNumber a6 hq)
theorem sp_P_pass {d : Nat} {x : Int32} {h : ZH} {up : Bool} {now given : Nat} {wr : Option Nat} {line : ZT} {gr bg tk : Bool} {snd : ZT} {rcs : List ZT} {tx : ZT} {L : List ZL} {Q : Int32 → ZH → Prop} (a : RC h (up, now, given, wr, line, gr, bg, tk, snd, rcs, tx, L)) (hn : now + 1000 < 2 ^ 29)
    (h0 : (x < 0 ∨ 1000 < x) → Q (-1) h) (h1 : ∀ n : Nat, n ≤ 1000 → x = nI n → ∀ h', RC h' (up, now + n, given, wr, line, gr, bg, tk, snd, rcs, tx, L) → zSm PC h h' → Q (nI (now + n)) h') : EvI d m_P_pass [vQ (some (0, 0)), vI x] h Q := by
  obtain ⟨a1, a2, a3, a4, a5, ⟨π, a6⟩, a7⟩ := a
  refine e_P_pass x ⟨fun c => h0 (Or.inl c), fun c => ⟨fun c2 => ?_, fun c2 => h0 (Or.inr (Int32.not_le.mp c2))⟩⟩
  obtain ⟨n, hn2, rfl⟩ := nI_of2 (M := 1000) (n := 1000) rfl c c2
  rw [zi_zw, if_pos ⟨rfl, rfl, rfl⟩, a1, nI_add]
  have s : zSame (fun k _ => k = 0) h (zw h 0 0 4 (nI (now + n))) := zSame.w (P := fun k _ => k = 0) zSame.rfl rfl
  have n5 : ∀ i j, zi (zw h 0 0 4 (nI (now + n))) 5 i j = zi h 5 i j := fun i j => s.1 5 i j (show ¬ 5 = 0 by decide)
  have n3 : ∀ i j, zi (zw h 0 0 4 (nI (now + n))) 3 i j = zi h 3 i j := fun i j => s.1 3 i j (show ¬ 3 = 0 by decide)
  refine h1 n hn2 rfl _ ⟨?_, by omega, by rw [n5]; exact a3, a4, by rw [n5]; exact a5, ⟨π, ?_⟩, fun hu => ?_⟩ (zSm.mono s.sm (fun k i z => by show k < 10; omega))
  · rw [zi_zw, if_pos ⟨rfl, rfl, rfl⟩]
  · refine a6.kept s (n5 0 1) (fun j hj k i z z0 => ?_)
    rcases z with ⟨y, -⟩ | ⟨y, -⟩ | ⟨y | y, -⟩ <;> omega
  · exact (a7 hu).kept (n3 0) (n5 0 3) (fun r hr xs w => w.kept s (show ¬ 1 = 0 by decide) (show ¬ 2 = 0 by decide))
