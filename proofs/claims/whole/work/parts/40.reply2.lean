def rcp (L : List ZL) (j r : Nat) : ZP := (L.getD j dL).2.2.2.1.getD r dP
def note (p : ZT) : ZT := [] ++ [10] ++ zS 10 ++ p ++ [10]
def retL (g now : Nat) (L : List ZL) (j r : Nat) (b : Bool) : ZL := (g, b, [], [((L.getD j dL).2.2.1, 0, now)], note (rcp L j r).1)
def setlS (now given : Nat) (wr : Option Nat) (line : ZT) (gr bg tk : Bool) (snd : ZT) (rcs : List ZT) (tx : ZT) (L : List ZL) (j r f : Nat) : Int32 × ZS := match wrN wr with
  | none => (0, dnS now given L)
  | some w1 => (nI f, (true, now, given, w1, line, gr, bg, tk, snd, rcs, tx, dropS (upR L j r ((rcp L j r).1, 10 * f, (rcp L j r).2.2)) j))
def pstS (now given : Nat) (wr : Option Nat) (line : ZT) (gr bg tk : Bool) (snd : ZT) (rcs : List ZT) (tx : ZT) (L : List ZL) (j r : Nat) : Int32 × ZS := match wrN wr with
  | none => (0, dnS now given L)
  | some w1 => (0, (true, now, given, w1, line, gr, bg, tk, snd, rcs, tx, upR L j r ((rcp L j r).1, (rcp L j r).2.1 + 1, now + 4 ^ ((rcp L j r).2.1 + 1))))
def telS (now given : Nat) (wr : Option Nat) (line : ZT) (gr bg tk : Bool) (snd : ZT) (rcs : List ZT) (tx : ZT) (L : List ZL) (j r : Nat) : Int32 × ZS := match wrN wr with
  | none => (0, dnS now (given + 1) L)
  | some w1 => match wrN w1 with
    | none => (0, dnS now (given + 1) (L ++ [retL given now L j r false]))
    | some w2 => setlS now (given + 1) w2 line gr bg tk snd rcs tx (L ++ [retL given now L j r true]) j r 2
def gbkS (now given : Nat) (wr : Option Nat) (line : ZT) (gr bg tk : Bool) (snd : ZT) (rcs : List ZT) (tx : ZT) (L : List ZL) (j r : Nat) : Int32 × ZS :=
  if 0 < (L.getD j dL).2.2.1.length ∧ L.length < 6 then telS now given wr line gr bg tk snd rcs tx L j r else setlS now given wr line gr bg tk snd rcs tx L j r 2
theorem setlS_n {now given : Nat} {wr : Option Nat} {line : ZT} {gr bg tk : Bool} {snd : ZT} {rcs : List ZT} {tx : ZT} {L : List ZL} {j r f : Nat} (e : wrN wr = none) : setlS now given wr line gr bg tk snd rcs tx L j r f = (0, dnS now given L) := by
  unfold setlS
  rw [e]
theorem setlS_s {now given : Nat} {wr w1 : Option Nat} {line : ZT} {gr bg tk : Bool} {snd : ZT} {rcs : List ZT} {tx : ZT} {L : List ZL} {j r f : Nat} (e : wrN wr = some w1) : setlS now given wr line gr bg tk snd rcs tx L j r f = (nI f, (true, now, given, w1, line, gr, bg, tk, snd, rcs, tx, dropS (upR L j r ((rcp L j r).1, 10 * f, (rcp L j r).2.2)) j)) := by
  unfold setlS
  rw [e]
theorem pstS_n {now given : Nat} {wr : Option Nat} {line : ZT} {gr bg tk : Bool} {snd : ZT} {rcs : List ZT} {tx : ZT} {L : List ZL} {j r : Nat} (e : wrN wr = none) : pstS now given wr line gr bg tk snd rcs tx L j r = (0, dnS now given L) := by
  unfold pstS
  rw [e]
theorem pstS_s {now given : Nat} {wr w1 : Option Nat} {line : ZT} {gr bg tk : Bool} {snd : ZT} {rcs : List ZT} {tx : ZT} {L : List ZL} {j r : Nat} (e : wrN wr = some w1) : pstS now given wr line gr bg tk snd rcs tx L j r = (0, (true, now, given, w1, line, gr, bg, tk, snd, rcs, tx, upR L j r ((rcp L j r).1, (rcp L j r).2.1 + 1, now + 4 ^ ((rcp L j r).2.1 + 1)))) := by
  unfold pstS
  rw [e]
theorem telS_n {now given : Nat} {wr : Option Nat} {line : ZT} {gr bg tk : Bool} {snd : ZT} {rcs : List ZT} {tx : ZT} {L : List ZL} {j r : Nat} (e : wrN wr = none) : telS now given wr line gr bg tk snd rcs tx L j r = (0, dnS now (given + 1) L) := by
  unfold telS
  rw [e]
theorem telS_u {now given : Nat} {wr w1 : Option Nat} {line : ZT} {gr bg tk : Bool} {snd : ZT} {rcs : List ZT} {tx : ZT} {L : List ZL} {j r : Nat} (e : wrN wr = some w1) (e2 : wrN w1 = none) : telS now given wr line gr bg tk snd rcs tx L j r = (0, dnS now (given + 1) (L ++ [retL given now L j r false])) := by
  unfold telS
  rw [e]
  show (match wrN w1 with | none => _ | some w2 => _) = _
  rw [e2]
theorem telS_s {now given : Nat} {wr w1 w2 : Option Nat} {line : ZT} {gr bg tk : Bool} {snd : ZT} {rcs : List ZT} {tx : ZT} {L : List ZL} {j r : Nat} (e : wrN wr = some w1) (e2 : wrN w1 = some w2) : telS now given wr line gr bg tk snd rcs tx L j r = setlS now (given + 1) w2 line gr bg tk snd rcs tx (L ++ [retL given now L j r true]) j r 2 := by
  unfold telS
  rw [e]
  show (match wrN w1 with | none => _ | some w2 => _) = _
  rw [e2]
theorem sp_P_spoolReturn {d j r : Nat} {h : ZH} {π : Nat → Nat} {now given : Nat} {wr : Option Nat} {line : ZT} {gr bg tk : Bool} {snd : ZT} {rcs : List ZT} {tx : ZT} {L : List ZL} {Q : Int32 → ZH → Prop} (a : RC h (true, now, given, wr, line, gr, bg, tk, snd, rcs, tx, L)) (hgv : given + 1 < 2 ^ 29) (a6 : spIs h π L) (hL : L.length < 6) (hj : j < L.length) (hr : r < (L.getD j dL).2.2.2.1.length)
    (h1 : wrN wr = none → ∀ h', RC h' (dnS now (given + 1) L) → zSm PC h h' → Q 0 h')
    (h2 : ∀ w1, wrN wr = some w1 → wrN w1 = none → ∀ h', RC h' (dnS now (given + 1) (L ++ [retL given now L j r false])) → zSm PC h h' → Q 0 h')
    (h3 : ∀ w1 w2, wrN wr = some w1 → wrN w1 = some w2 → ∀ h', RC h' (true, now, given + 1, w2, line, gr, bg, tk, snd, rcs, tx, L ++ [retL given now L j r true]) → spIs h' π (L ++ [retL given now L j r true]) → zSm PC h h' → Q 1 h') : EvI (d + 5) m_P_spoolReturn [vQ (some (0, 0)), vQ (some (7, π j)), vQ (some (9, 4 * π j + r))] h Q := by
  have a0 := a
  obtain ⟨a1, a2, a3, a4, a5, -, a7⟩ := a
  have b := a7 rfl
  have hb30 : ∀ n, wr = some n → n < 2 ^ 30 := fun n e => by have := b.2.1 n e; omega
  have hq6 := (a6.2.2.1 L.length hL).2
  have hqj := (a6.2.2.1 j (by omega)).2
  have h46 := (a6.2.2.2.2 j hj).2.2.2.2.2.1
  have hne : π j ≠ π L.length := fun z => absurd (a6.2.2.2.1 j L.length (by omega) hL z) (by omega)
  have lj := a6.2.2.2.2 j hj
  have hrc := lj.2.2.2.2.2.2.1 r hr
  have hsl : (L.getD j dL).2.2.1.length ≤ 40 := by
    have := lj.2.2.2.1.2.1
    rw [(zcap_l hqj).1] at this
    exact this
  have hpl : (rcp L j r).1.length ≤ 40 := by
    have := hrc.1.2.1
    unfold zcap at this
    rw [if_neg (by omega), if_neg (by omega), if_neg (by omega)] at this
    exact this
  have n0 : ∀ {g' : ZH}, zSame (PB (π L.length)) h g' → zi g' 0 0 4 = nI now := fun s => by rw [s.1 0 0 4 (by rintro (z | ⟨z, -⟩ | ⟨z, -⟩ | ⟨z | z, -⟩) <;> omega)]; exact a1
  have n5 : ∀ q r, ¬ rowP r 5 q := by rintro q r ⟨z | z, -⟩ <;> omega
  refine e_P_spoolReturn (π j) (4 * π j + r) hqj (by omega) (sp_O_begin (d := d + 2) a6 hL a3 (by omega) b.1 hb30 (fun e => ⟨fun _ => h1 e _ ?_ ?_, fun n e _ => (by cases e)⟩) (fun w1 e1 g1 p1 f2 f3 f4 s1 => ⟨fun e => (by cases e), fun n e hn => ?_⟩))
  · have s : zSame (fun k _ => k = 5) h (zw (zw h 5 0 2 (nI (given + 1))) 5 0 4 1) := zSame.w (P := fun k _ => k = 5) (zSame.w (P := fun k _ => k = 5) zSame.rfl rfl) rfl
    refine ⟨by simp [zi_zw, a1], a2, by simp [zi_zw], by omega, by simp [zi_zw, bI], ⟨π, a6.kept s (by simp [zi_zw]) (fun j hj k i z y => letP_ne5 (y ▸ z))⟩, fun z => (by cases z)⟩
  · have s : zSame (fun k _ => k = 5) h (zw (zw h 5 0 2 (nI (given + 1))) 5 0 4 1) := zSame.w (P := fun k _ => k = 5) (zSame.w (P := fun k _ => k = 5) zSame.rfl rfl) rfl
    exact s.sm.mono (fun k i z => by show k < 10; omega)
  · cases e
    have s1 : zSame (PB (π L.length)) h g1 := s1
    have l1 : ltIs g1 (π L.length) (given, false, [], [], []) := by
      have := p1.2.2.2.2 L.length (by rw [List.length_append]; show L.length < L.length + 1; omega)
      rw [getD_appG2] at this
      exact this
    have hc1 : zi g1 5 0 1 = nI (L.length + 1) := by
      have := p1.1
      rw [List.length_append] at this
      exact this
    have apt : ∀ k i, letP (π j) k i → ¬ PB (π L.length) k i := by
      intro k i z
      rintro (y | y)
      · exact letP_ne5 (y ▸ z)
      · exact letP_apart hqj hq6 hne z y
    have lj1 := lj.kept s1 apt
    rw [n0 s1]
    refine sp_L_address (d := d + 2) hq6 (by omega) (Or.inr ⟨π j, hqj, hne, rfl⟩) l1 (show 0 < 4 by decide) lj1.2.2.2.1 hsl (by omega) (fun g2 l2 s2 => ?_)
    have s2' : zSame (PB (π L.length)) h g2 := s1.trans (s2.mono (fun k i z => Or.inr z))
    have l2 : ltIs g2 (π L.length) (given, false, [], [((L.getD j dL).2.2.1, 0, now)], []) := l2
    have c6 := (zcap_l hq6).2
    refine sp_R_add (by omega) l2.2.2.2.2.2.2.2 (by rw [c6]; show 0 < 600; decide) ⟨10, by decide, rfl⟩ (fun g3 w3 s3 => ?_)
    refine sp_R_addWords (d := d) (by omega) (by decide) w3 (by rw [c6]; have := zS_lt (j := 10) (by decide); show 1 + _ ≤ 600; omega) (fun g4 w4 s4 => ?_)
    have s4' : zSame (PB (π L.length)) h g4 := s2'.trans ((s3.trans s4).mono (PB_row (Or.inr rfl)))
    have lj4 := lj.kept s4' apt
    have hrc4 := (lj4.2.2.2.2.2.2.1 r hr).1
    refine sp_R_addRow (d := d + 3) (by omega) (by omega) (by omega) w4 hrc4 (by
      rw [c6, List.length_append]
      have := zS_lt (j := 10) (by decide)
      have : (rcp L j r).1.length ≤ 40 := hpl
      show 1 + _ + (rcp L j r).1.length ≤ 600
      omega) (fun g5 w5 s5 => ?_)
    refine sp_R_add (by omega) w5 (by
      rw [c6, List.length_append, List.length_append]
      have := zS_lt (j := 10) (by decide)
      have : (rcp L j r).1.length ≤ 40 := hpl
      show 1 + _ + (rcp L j r).1.length < 600
      omega) ⟨10, by decide, rfl⟩ (fun g6 w6 s6 => ?_)
    have sR : zSame (rowP (13 + π L.length)) g2 g6 := ((s3.trans s4).trans s5).trans s6
    have l6 := l2.txt sR hq6 w6
    have s6' : zSame (PB (π L.length)) h g6 := s2'.trans (sR.mono (PB_row (Or.inr rfl)))
    have f6 : ∀ j, zi g6 5 0 j = zi g1 5 0 j := fun j => (sR.1 5 0 j (n5 _ _)).trans (s2.1 5 0 j letP_ne5)
    have l6 : ltIs g6 (π L.length) (retL given now L j r false) := l6
    refine seal_end (d := d + 3) a6 hL s6' (by rw [f6]; exact hc1) (by rw [f6]; exact f3) (wrN_b hb30 e1) l6 (fun e2 h' q1 q2 q3 q4 => ⟨rfl, ?_⟩) (fun w2 e2 h' q1 q2 q3 q4 q5 => ⟨rfl, ?_⟩)
    · exact h2 w1 e1 e2 h' ⟨n0 q4, a2, by rw [q2, f6]; exact f2, by omega, by rw [q3]; rfl, ⟨π, q1⟩, fun z => (by cases z)⟩ (PB_PC q4)
    · exact h3 w1 w2 e1 e2 h' ⟨n0 q5, a2, by rw [q2, f6]; exact f2, by omega, by rw [q4, f6, f4]; exact a5, ⟨π, q1⟩, fun _ => PB_se b q5 q3 (wrN_20 (wrN_20 b.2.1 e1) e2)⟩ q1 (PB_PC q5)
theorem sp_P_settleS {d f j r : Nat} {h : ZH} {π : Nat → Nat} {now given : Nat} {wr : Option Nat} {line : ZT} {gr bg tk : Bool} {snd : ZT} {rcs : List ZT} {tx : ZT} {L : List ZL} {Q : Int32 → ZH → Prop} (a : RC h (true, now, given, wr, line, gr, bg, tk, snd, rcs, tx, L)) (a6 : spIs h π L) (hj : j < L.length) (hr : r < (L.getD j dL).2.2.2.1.length) (hf : f = 1 ∨ f = 2)
    (hq : ∀ h', RC h' (setlS now given wr line gr bg tk snd rcs tx L j r f).2 → zSm PC h h' → Q (setlS now given wr line gr bg tk snd rcs tx L j r f).1 h') : EvI (d + 1) m_P_settle [vQ (some (0, 0)), vQ (some (7, π j)), vQ (some (9, 4 * π j + r)), vI (nI f)] h Q :=
  sp_P_settle a a6 hj hr hf (fun e h' r' s' => by rw [setlS_n e] at hq; exact hq h' r' s') (fun w1 e h' r' s' => by rw [setlS_s e] at hq; exact hq h' r' s')
theorem sp_P_giveBack {d j r : Nat} {h : ZH} {π : Nat → Nat} {now given : Nat} {wr : Option Nat} {line : ZT} {gr bg tk : Bool} {snd : ZT} {rcs : List ZT} {tx : ZT} {L : List ZL} {Q : Int32 → ZH → Prop} (a : RC h (true, now, given, wr, line, gr, bg, tk, snd, rcs, tx, L)) (hgv : given + 1 < 2 ^ 29) (a6 : spIs h π L) (hj : j < L.length) (hr : r < (L.getD j dL).2.2.2.1.length)
    (hq : ∀ h', RC h' (gbkS now given wr line gr bg tk snd rcs tx L j r).2 → zSm PC h h' → Q (gbkS now given wr line gr bg tk snd rcs tx L j r).1 h') : EvI (d + 6) m_P_giveBack [vQ (some (0, 0)), vQ (some (7, π j)), vQ (some (9, 4 * π j + r))] h Q := by
  have hqj := (a6.2.2.1 j (by have := a6.2.1; omega)).2
  have h46 := (a6.2.2.2.2 j hj).2.2.2.2.2.1
  have lj := a6.2.2.2.2 j hj
  have hs := lj.2.2.2.1
  have hsl := hs.lt
  unfold gbkS at hq
  have no : ¬ (0 < (L.getD j dL).2.2.1.length ∧ L.length < 6) → EvAt (d + 6) m_P_giveBack 24 [some (vQ (some (0, 0))), some (vQ (some (7, π j))), some (vQ (some (9, 4 * π j + r))), none] [] h (zQI Q) := by
    intro z
    rw [if_neg z] at hq
    exact w_P_giveBack_24 _ _ hqj (by omega) (w_P_giveBack_25 _ _ _ hqj (by omega) ⟨fun _ => sp_P_settleS (d := d + 4) (f := 2) a a6 hj hr (Or.inr rfl) hq, fun c => absurd rfl c⟩)
  refine e_P_giveBack (π j) (4 * π j + r) hqj (by omega) ⟨fun c => no ?_, fun c => ?_⟩
  · rw [hs.1, ← nI_0, nI_leI (by omega) (by omega)] at c
    omega
  · rw [hs.1, ← nI_0, nI_leI (by omega) (by omega)] at c
    refine sp_O_isFull a6 ⟨fun c2 => no ?_, fun c2 => ?_⟩
    · have := of_decide_eq_true (bI_t c2)
      omega
    · have hL : ¬ 6 ≤ L.length := of_decide_eq_false ((bI_0 _).mp c2)
      rw [if_pos ⟨by omega, by omega⟩] at hq
      refine w_P_giveBack_25 _ _ _ hqj (by omega) ⟨fun c => absurd c (by decide), fun _ => ?_⟩
      refine sp_P_spoolReturn (d := d) a hgv a6 (by omega) hj hr (fun e h' r' s' => ⟨fun c => absurd rfl c, fun _ => ?_⟩) (fun w1 e1 e2 h' r' s' => ⟨fun c => absurd rfl c, fun _ => ?_⟩) (fun w1 w2 e1 e2 h' r' a' s' => ⟨fun _ => ?_, fun c => absurd c (by decide)⟩)
      · rw [telS_n e] at hq
        exact hq h' r' s'
      · rw [telS_u e1 e2] at hq
        exact hq h' r' s'
      · rw [telS_s e1 e2] at hq
        have hj2 : j < (L ++ [retL given now L j r true]).length := by rw [List.length_append]; omega
        have hr2 : r < ((L ++ [retL given now L j r true]).getD j dL).2.2.2.1.length := by rw [getD_appG1 hj]; exact hr
        exact sp_P_settleS (d := d + 4) (f := 2) r' a' hj2 hr2 (Or.inr rfl) (fun h'' r'' s'' => hq h'' r'' (s'.trans s''))
