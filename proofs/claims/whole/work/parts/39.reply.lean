def upR (L : List ZL) (j r : Nat) (p : ZP) : List ZL := L.set j ((L.getD j dL).1, (L.getD j dL).2.1, (L.getD j dL).2.2.1, (L.getD j dL).2.2.2.1.set r p, (L.getD j dL).2.2.2.2)
theorem setGetD {α : Type} {l : List α} {j i : Nat} {a d : α} (hj : j < l.length) : (l.set j a).getD i d = if i = j then a else l.getD i d := by
  rw [List.getD_eq_getElem?_getD, List.getD_eq_getElem?_getD]
  split
  · rename_i e
    subst e
    rw [List.getElem?_set_self hj]
    rfl
  · rename_i e
    rw [List.getElem?_set_ne (Ne.symm e)]
theorem upR_len (L : List ZL) (j r : Nat) (p : ZP) : (upR L j r p).length = L.length := List.length_set
theorem spIs.upd {h h' : ZH} {π : Nat → Nat} {L : List ZL} {j r : Nat} {p : ZP} (a : spIs h π L) (hj : j < L.length) (hr : r < (L.getD j dL).2.2.2.1.length) (s : zSame (fun k i => k = 9 ∧ i = 4 * π j + r) h h') (hp : rcIs h' (4 * π j + r) p) : spIs h' π (upR L j r p) := by
  have hL := a.2.1
  have hq6 := (a.2.2.1 j (by omega)).2
  have f : ∀ k i x, k ≠ 9 → zi h' k i x = zi h k i x := fun k i x hk => s.1 k i x (fun z => hk z.1)
  refine ⟨by rw [upR_len, f 5 0 1 (by decide)]; exact a.1, by rw [upR_len]; exact hL, fun i hi => by rw [s.2 6 0 i]; exact a.2.2.1 i hi, a.2.2.2.1, fun i hi => ?_⟩
  rw [upR_len] at hi
  unfold upR
  rw [setGetD hj]
  have l0 := a.2.2.2.2 i hi
  have h46 := (a.2.2.2.2 j hj).2.2.2.2.2.1
  by_cases e : i = j
  · subst e
    rw [if_pos rfl]
    obtain ⟨a1, a2, a3, a4, a5, a6, a7, a8⟩ := l0
    refine ⟨by rw [f 7 _ 4 (by decide)]; exact a1, a2, by rw [f 7 _ 5 (by decide)]; exact a3, a4.kept s (by omega) (by omega), by rw [f 7 _ 3 (by decide)]; show _ = nI (List.set _ r p).length; rw [List.length_set]; exact a5, by show (List.set _ r p).length ≤ 4; rw [List.length_set]; exact a6, fun r' hr' => ?_, a8.kept s (by omega) (by omega)⟩
    have hr' : r' < ((L.getD i dL).2.2.2.1.set r p).length := hr'
    rw [List.length_set] at hr'
    show rcIs h' _ (((L.getD i dL).2.2.2.1.set r p).getD r' dP)
    rw [setGetD hr]
    by_cases e2 : r' = r
    · rw [if_pos e2, e2]
      exact hp
    · rw [if_neg e2]
      exact (a7 r' hr').kept s (by omega) (by omega) (by omega)
  · rw [if_neg e]
    refine l0.kept s (fun k x z y => ?_)
    have hne : π i ≠ π j := fun z => e (a.2.2.2.1 i j (by omega) (by omega) z)
    have h6i := (a.2.2.1 i (by omega)).2
    rcases z with ⟨z, -⟩ | ⟨z, z2, z3⟩ | ⟨z, -⟩
    · omega
    · omega
    · omega
def dropS (L : List ZL) (j : Nat) : List ZL := if awF (L.getD j dL).2.2.2.1 then L else L.eraseIdx j
theorem seC.keptI {h h' : ZH} {wr : Option Nat} {line : ZT} {gr bg tk : Bool} {snd : ZT} {rcs : List ZT} {tx : ZT} (b : seC h wr line gr bg tk snd rcs tx) (f : ∀ k i j, k = 1 ∨ k = 2 ∨ k = 3 ∨ (k = 5 ∧ j = 3) → zi h' k i j = zi h k i j) : seC h' wr line gr bg tk snd rcs tx :=
  b.kept (fun j => f 3 0 j (by omega)) (f 5 0 3 (by omega)) (fun r _ xs w => ⟨by rw [f 1 r 1 (by omega)]; exact w.1, w.2.1, fun j hj => by rw [f 2 r j (by omega)]; exact w.2.2.1 j hj, w.2.2.2⟩)
/-- a write that fails: the server is down -/
theorem RC_down {h : ZH} {up : Bool} {now given : Nat} {wr : Option Nat} {line : ZT} {gr bg tk : Bool} {snd : ZT} {rcs : List ZT} {tx : ZT} {L : List ZL} (a : RC h (up, now, given, wr, line, gr, bg, tk, snd, rcs, tx, L)) : RC (zw h 5 0 4 1) (dnS now given L) ∧ zSm PC h (zw h 5 0 4 1) := by
  obtain ⟨a1, a2, a3, a4, a5, ⟨π, a6⟩, a7⟩ := a
  have s : zSame (fun k _ => k = 5) h (zw h 5 0 4 1) := zSame.w (P := fun k _ => k = 5) zSame.rfl rfl
  refine ⟨⟨by rw [zi_zw, if_neg (by omega)]; exact a1, a2, by rw [zi_zw, if_neg (by omega)]; exact a3, a4, by rw [zi_zw, if_pos ⟨rfl, rfl, rfl⟩]; rfl, ⟨π, a6.kept s (by rw [zi_zw, if_neg (by omega)]) (fun j hj k i z y => letP_ne5 (y ▸ z))⟩, fun z => (by cases z)⟩, s.sm.mono (fun k i z => by show k < 10; omega)⟩
theorem sp_P_settle {d f j r : Nat} {h : ZH} {π : Nat → Nat} {now given : Nat} {wr : Option Nat} {line : ZT} {gr bg tk : Bool} {snd : ZT} {rcs : List ZT} {tx : ZT} {L : List ZL} {Q : Int32 → ZH → Prop} (a : RC h (true, now, given, wr, line, gr, bg, tk, snd, rcs, tx, L)) (a6 : spIs h π L) (hj : j < L.length) (hr : r < (L.getD j dL).2.2.2.1.length) (hf : f = 1 ∨ f = 2)
    (h0 : wrN wr = none → ∀ h', RC h' (dnS now given L) → zSm PC h h' → Q 0 h')
    (h1 : ∀ w1, wrN wr = some w1 → ∀ h', RC h' (true, now, given, w1, line, gr, bg, tk, snd, rcs, tx, dropS (upR L j r (((L.getD j dL).2.2.2.1.getD r dP).1, 10 * f, ((L.getD j dL).2.2.2.1.getD r dP).2.2)) j) → zSm PC h h' → Q (nI f) h') : EvI (d + 1) m_P_settle [vQ (some (0, 0)), vQ (some (7, π j)), vQ (some (9, 4 * π j + r)), vI (nI f)] h Q := by
  have a0 := a
  obtain ⟨a1, a2, a3, a4, a5, -, a7⟩ := a
  have b := a7 rfl
  have hL := a6.2.1
  have hq6 := (a6.2.2.1 j (by omega)).2
  have h46 := (a6.2.2.2.2 j hj).2.2.2.2.2.1
  have hrc := (a6.2.2.2.2 j hj).2.2.2.2.2.2.1 r hr
  refine e_P_settle (π j) (4 * π j + r) _ hq6 (by omega) (sp_O_write2 b.1 (fun n e => by have := b.2.1 n e; omega) (fun e => ⟨fun c => absurd rfl c, fun _ => h0 e _ (RC_down a0).1 (RC_down a0).2⟩) (fun w1 e => ⟨fun _ => ?_, fun c => absurd c (by decide)⟩))
  -- the write, the fate
  have s5 : zSame (fun k _ => k = 5) h (zw h 5 0 3 (wrE w1)) := zSame.w (P := fun k _ => k = 5) zSame.rfl rfl
  have a6' : spIs (zw h 5 0 3 (wrE w1)) π L := a6.kept s5 (by rw [zi_zw, if_neg (by omega)]) (fun j hj k i z y => letP_ne5 (y ▸ z))
  have s9 : zSame (fun k i => k = 9 ∧ i = 4 * π j + r) (zw h 5 0 3 (wrE w1)) (zw (zw h 5 0 3 (wrE w1)) 9 (4 * π j + r) 1 (nI f)) := zSame.w (P := fun k i => k = 9 ∧ i = 4 * π j + r) zSame.rfl ⟨rfl, rfl⟩
  have hp : rcIs (zw (zw h 5 0 3 (wrE w1)) 9 (4 * π j + r) 1 (nI f)) (4 * π j + r) (((L.getD j dL).2.2.2.1.getD r dP).1, 10 * f, ((L.getD j dL).2.2.2.1.getD r dP).2.2) := by
    refine ⟨(hrc.1.kept s5 (by omega) (by omega)).kept s9 (by omega) (by omega), ?_, ?_, hrc.2.2.2⟩
    · rw [zi_zw, if_pos ⟨rfl, rfl, rfl⟩]
      rcases hf with rfl | rfl
      · exact Or.inr (Or.inl ⟨rfl, rfl⟩)
      · exact Or.inr (Or.inr ⟨rfl, rfl⟩)
    · rw [zi_zw, if_neg (by omega), zi_zw, if_neg (by omega)]
      exact hrc.2.2.1
  have a8 := a6'.upd hj hr s9 hp
  obtain ⟨L1, hL1⟩ : ∃ L1, L1 = upR L j r (((L.getD j dL).2.2.2.1.getD r dP).1, 10 * f, ((L.getD j dL).2.2.2.1.getD r dP).2.2) := ⟨_, rfl⟩
  rw [← hL1] at a8 h1
  have hj1 : j < L1.length := by rw [hL1, upR_len]; exact hj
  have fz : ∀ k i x, ¬ (k = 5 ∧ x = 3) → k ≠ 9 → zi (zw (zw h 5 0 3 (wrE w1)) 9 (4 * π j + r) 1 (nI f)) k i x = zi h k i x := fun k i x z1 z2 => by rw [zi_zw, if_neg (by omega), zi_zw, if_neg (by omega)]
  have e53 : zi (zw (zw h 5 0 3 (wrE w1)) 9 (4 * π j + r) 1 (nI f)) 5 0 3 = wrE w1 := by rw [zi_zw, if_neg (by omega), zi_zw, if_pos ⟨rfl, rfl, rfl⟩]
  have se1 : seC (zw (zw h 5 0 3 (wrE w1)) 9 (4 * π j + r) 1 (nI f)) w1 line gr bg tk snd rcs tx := by
    obtain ⟨b1, b2, b3⟩ := b
    have bb : seC (zw h 5 0 3 (wrE w1)) w1 line gr bg tk snd rcs tx := by
      have q := PB_se (q := 0) (w' := w1) (h' := zw h 5 0 3 (wrE w1)) ⟨b1, b2, b3⟩ (zSame.rfl.w (Or.inl rfl)) (by rw [zi_zw, if_pos ⟨rfl, rfl, rfl⟩]) (wrN_20 b2 e)
      exact q
    exact bb.keptI (fun k i x hk => by rw [zi_zw, if_neg (by omega)])
  have m1 : zSm PC h (zw (zw h 5 0 3 (wrE w1)) 9 (4 * π j + r) 1 (nI f)) := ((s5.sm.mono (fun k i z => by show k < 10; omega)).trans (s9.sm.mono (fun k i z => by show k < 10; omega)))
  refine sp_L_isAwaited hq6 (a8.2.2.2.2 j hj1) ⟨fun c => ?_, fun c => ?_⟩
  · have ca := bI_t c
    refine h1 w1 e _ ⟨by rw [fz 0 0 4 (by omega) (by decide)]; exact a1, a2, by rw [fz 5 0 2 (by omega) (by decide)]; exact a3, a4, by rw [fz 5 0 4 (by omega) (by decide)]; exact a5, ⟨π, ?_⟩, fun _ => se1⟩ m1
    unfold dropS
    rw [if_pos ca]
    exact a8
  · have ca := (bI_0 _).mp c
    refine sp_O_drop a8 hj1 (fun h' π' p1 p2 p3 => ?_)
    refine h1 w1 e h' ⟨by rw [p2 0 0 4 (by omega), fz 0 0 4 (by omega) (by decide)]; exact a1, a2, by rw [p2 5 0 2 (by omega), fz 5 0 2 (by omega) (by decide)]; exact a3, a4, by rw [p2 5 0 4 (by omega), fz 5 0 4 (by omega) (by decide)]; exact a5, ⟨π', ?_⟩, fun _ => se1.keptI (fun k i x hk => p2 k i x (by omega))⟩ (m1.trans ⟨fun k i x hp => p2 k i x (fun z => hp (by show k < 10; omega)), fun k i x hk => p3 k i x hk⟩)
    unfold dropS
    rw [ca, if_neg (by decide)]
    exact p1
theorem shl4 {f : Nat} (hf : f < 3) : (1 : Int32) <<< (((2 : Int32) * nI (f + 1)) &&& 31) = nI (4 ^ (f + 1)) := by
  match f, hf with
  | 0, _ => decide +kernel
  | 1, _ => decide +kernel
  | 2, _ => decide +kernel
theorem pow4 {f : Nat} (hf : f < 3) : 4 ^ (f + 1) ≤ 64 := by
  match f, hf with
  | 0, _ => decide
  | 1, _ => decide
  | 2, _ => decide
theorem sp_P_postpone {d j r : Nat} {h : ZH} {π : Nat → Nat} {now given : Nat} {wr : Option Nat} {line : ZT} {gr bg tk : Bool} {snd : ZT} {rcs : List ZT} {tx : ZT} {L : List ZL} {Q : Int32 → ZH → Prop} (a : RC h (true, now, given, wr, line, gr, bg, tk, snd, rcs, tx, L)) (a6 : spIs h π L) (hj : j < L.length) (hr : r < (L.getD j dL).2.2.2.1.length) (hf : ((L.getD j dL).2.2.2.1.getD r dP).2.1 < 3)
    (h0 : wrN wr = none → ∀ h', RC h' (dnS now given L) → zSm PC h h' → Q 0 h')
    (h1 : ∀ w1, wrN wr = some w1 → ∀ h', RC h' (true, now, given, w1, line, gr, bg, tk, snd, rcs, tx, upR L j r (((L.getD j dL).2.2.2.1.getD r dP).1, ((L.getD j dL).2.2.2.1.getD r dP).2.1 + 1, now + 4 ^ (((L.getD j dL).2.2.2.1.getD r dP).2.1 + 1))) → zSm PC h h' → Q 0 h') : EvI (d + 1) m_P_postpone [vQ (some (0, 0)), vQ (some (9, 4 * π j + r))] h Q := by
  have a0 := a
  obtain ⟨a1, a2, a3, a4, a5, -, a7⟩ := a
  have b := a7 rfl
  have hL := a6.2.1
  have hq6 := (a6.2.2.1 j (by omega)).2
  have h46 := (a6.2.2.2.2 j hj).2.2.2.2.2.1
  have hrc := (a6.2.2.2.2 j hj).2.2.2.2.2.2.1 r hr
  obtain ⟨F, hF⟩ : ∃ F, F = ((L.getD j dL).2.2.2.1.getD r dP).2.1 := ⟨_, rfl⟩
  rw [← hF] at hf h1
  have hp4 := pow4 hf
  have htr : zi h 9 (4 * π j + r) 1 = 0 ∧ zi h 9 (4 * π j + r) 2 = nI F := by
    rcases hrc.2.1 with ⟨y1, y2, y3⟩ | ⟨y1, y2⟩ | ⟨y1, y2⟩
    · exact ⟨y2, by rw [hF]; exact y3⟩
    · omega
    · omega
  refine e_P_postpone (4 * π j + r) (by omega) (sp_O_write2 b.1 (fun n e => by have := b.2.1 n e; omega) (fun e => ⟨fun _ => h0 e _ (RC_down a0).1 (RC_down a0).2, fun c => absurd rfl c⟩) (fun w1 e => ⟨fun c => absurd c (by decide), fun _ => ?_⟩))
  have e1 : zi (zw h 5 0 3 (wrE w1)) 9 (4 * π j + r) 2 + (1 : Int32) = nI (F + 1) := by rw [zi_zw, if_neg (by omega), htr.2, nI_inc]
  rw [e1]
  have e2 : zi (zw (zw h 5 0 3 (wrE w1)) 9 (4 * π j + r) 2 (nI (F + 1))) 9 (4 * π j + r) 2 = nI (F + 1) := by rw [zi_zw, if_pos ⟨rfl, rfl, rfl⟩]
  have e3 : zi (zw (zw h 5 0 3 (wrE w1)) 9 (4 * π j + r) 2 (nI (F + 1))) 0 0 4 = nI now := by rw [zi_zw, if_neg (by omega), zi_zw, if_neg (by omega)]; exact a1
  rw [e2, e3, shl4 hf, nI_add]
  have s5 : zSame (fun k _ => k = 5) h (zw h 5 0 3 (wrE w1)) := zSame.w (P := fun k _ => k = 5) zSame.rfl rfl
  have a6' : spIs (zw h 5 0 3 (wrE w1)) π L := a6.kept s5 (by rw [zi_zw, if_neg (by omega)]) (fun j hj k i z y => letP_ne5 (y ▸ z))
  have s9 : zSame (fun k i => k = 9 ∧ i = 4 * π j + r) (zw h 5 0 3 (wrE w1)) (zw (zw (zw h 5 0 3 (wrE w1)) 9 (4 * π j + r) 2 (nI (F + 1))) 9 (4 * π j + r) 3 (nI (now + 4 ^ (F + 1)))) := zSame.w (P := fun k i => k = 9 ∧ i = 4 * π j + r) (zSame.w (P := fun k i => k = 9 ∧ i = 4 * π j + r) zSame.rfl ⟨rfl, rfl⟩) ⟨rfl, rfl⟩
  have fz : ∀ k i x, ¬ (k = 5 ∧ x = 3) → k ≠ 9 → zi (zw (zw (zw h 5 0 3 (wrE w1)) 9 (4 * π j + r) 2 (nI (F + 1))) 9 (4 * π j + r) 3 (nI (now + 4 ^ (F + 1)))) k i x = zi h k i x := fun k i x z1 z2 => by rw [zi_zw, if_neg (by omega), zi_zw, if_neg (by omega), zi_zw, if_neg (by omega)]
  refine h1 w1 e _ ⟨by rw [fz 0 0 4 (by omega) (by decide)]; exact a1, a2, by rw [fz 5 0 2 (by omega) (by decide)]; exact a3, a4, by rw [fz 5 0 4 (by omega) (by decide)]; exact a5, ⟨π, a6'.upd hj hr s9 ⟨?_, Or.inl ⟨?_, ?_, ?_⟩, ?_, ?_⟩⟩, fun _ => ?_⟩ ((s5.sm.mono (fun k i z => by show k < 10; omega)).trans (s9.sm.mono (fun k i z => by show k < 10; omega)))
  · exact (hrc.1.kept s5 (by omega) (by omega)).kept s9 (by omega) (by omega)
  · show F + 1 < 4
    omega
  · rw [zi_zw, if_neg (by omega), zi_zw, if_neg (by omega), zi_zw, if_neg (by omega)]
    exact htr.1
  · rw [zi_zw, if_neg (by omega), zi_zw, if_pos ⟨rfl, rfl, rfl⟩]
  · rw [zi_zw, if_pos ⟨rfl, rfl, rfl⟩]
  · show now + 4 ^ (F + 1) < 2 ^ 30
    omega
  · obtain ⟨b1, b2, b3⟩ := b
    have bb : seC (zw h 5 0 3 (wrE w1)) w1 line gr bg tk snd rcs tx := PB_se (q := 0) (w' := w1) (h' := zw h 5 0 3 (wrE w1)) ⟨b1, b2, b3⟩ (zSame.rfl.w (Or.inl rfl)) (by rw [zi_zw, if_pos ⟨rfl, rfl, rfl⟩]) (wrN_20 b2 e)
    exact bb.keptI (fun k i x hk => by rw [zi_zw, if_neg (by omega), zi_zw, if_neg (by omega)])
