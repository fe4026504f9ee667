/-! THE MODEL's STATE -/
def zSa (P : Nat → Nat → Nat → Prop) (h h' : ZH) : Prop := (∀ k i j, ¬ P k i j → zi h' k i j = zi h k i j) ∧ ∀ k i j, zr h' k i j = zr h k i j
theorem zSa.rfl {P : Nat → Nat → Nat → Prop} {h : ZH} : zSa P h h := ⟨fun _ _ _ _ => Eq.refl _, fun _ _ _ => Eq.refl _⟩
theorem zSa.trans {P : Nat → Nat → Nat → Prop} {h h' h'' : ZH} (a : zSa P h h') (b : zSa P h' h'') : zSa P h h'' :=
  ⟨fun k i j hp => (b.1 k i j hp).trans (a.1 k i j hp), fun k i j => (b.2 k i j).trans (a.2 k i j)⟩
theorem zSa.mono {P P' : Nat → Nat → Nat → Prop} {h h' : ZH} (a : zSa P h h') (hp : ∀ k i j, P k i j → P' k i j) : zSa P' h h' :=
  ⟨fun k i j hn => a.1 k i j (fun z => hn (hp k i j z)), a.2⟩
theorem zSa.w {P : Nat → Nat → Nat → Prop} {h h' : ZH} (a : zSa P h h') {k i j : Nat} {x : Int32} (hp : P k i j) : zSa P h (zw h' k i j x) := by
  refine ⟨fun k' i' j' hn => ?_, fun k' i' j' => a.2 k' i' j'⟩
  rw [zi_zw, if_neg]
  · exact a.1 k' i' j' hn
  · rintro ⟨rfl, rfl, rfl⟩
    exact hn hp
def PMM : Nat → Nat → Nat → Prop := fun k _ _ => 12 ≤ k ∧ k < 15
/-- a path's place, a text's place -/
def ptIs (h : ZH) (n : Nat) (xs : ZT) : Prop := zi h 13 5 n = nI xs.length ∧ xs.length ≤ 40 ∧ (∀ i, i < xs.length → zi h 13 4 (40 * n + i) = xs.getD i 0) ∧ ∀ x ∈ xs, zCh x
def tsIs (h : ZH) (q : Nat) (xs : ZT) : Prop := zi h 13 3 q = nI (min xs.length 602) ∧ (∀ i, i < xs.length → i < 602 → zi h 13 2 (602 * q + i) = xs.getD i 0) ∧ ∀ x ∈ xs, zCh x
theorem ptIs.kept {P : Nat → Nat → Nat → Prop} {h h' : ZH} {n : Nat} {xs : ZT} (a : ptIs h n xs) (s : zSa P h h') (h1 : ¬ P 13 5 n) (h2 : ∀ i, i < 40 → ¬ P 13 4 (40 * n + i)) : ptIs h' n xs :=
  ⟨by rw [s.1 13 5 n h1]; exact a.1, a.2.1, fun i hi => by rw [s.1 13 4 _ (h2 i (by have := a.2.1; omega))]; exact a.2.2.1 i hi, a.2.2.2⟩
theorem tsIs.kept {P : Nat → Nat → Nat → Prop} {h h' : ZH} {q : Nat} {xs : ZT} (a : tsIs h q xs) (s : zSa P h h') (h1 : ¬ P 13 3 q) (h2 : ∀ i, i < 602 → ¬ P 13 2 (602 * q + i)) : tsIs h' q xs :=
  ⟨by rw [s.1 13 3 q h1]; exact a.1, fun i hi hj => by rw [s.1 13 2 _ (h2 i hj)]; exact a.2.1 i hi hj, a.2.2⟩
/-- the cells of a letter's place -/
def slP (p : Nat) : Nat → Nat → Nat → Prop := fun k i j => (k = 14 ∧ i = 0 ∧ j = p) ∨ (k = 13 ∧ ((i = 1 ∧ j = p) ∨ (i = 3 ∧ j = p) ∨ (i = 6 ∧ j = p) ∨ (i = 2 ∧ 602 * p ≤ j ∧ j < 602 * p + 602) ∨ (i = 5 ∧ 5 * p ≤ j ∧ j < 5 * p + 5) ∨ (i = 4 ∧ 200 * p ≤ j ∧ j < 200 * p + 200) ∨ ((i = 7 ∨ i = 8) ∧ 4 * p ≤ j ∧ j < 4 * p + 4)))
def rpIs (h : ZH) (p r : Nat) (x : ZP) : Prop := ptIs h (5 * p + r) x.1 ∧ zi h 13 7 (4 * p + r) = nI x.2.1 ∧ x.2.1 < 2 ^ 30 ∧ zi h 13 8 (4 * p + r) = nI x.2.2 ∧ x.2.2 < 2 ^ 30
def slIs (h : ZH) (p : Nat) (l : ZL) : Prop := zi h 13 1 p = nI l.1 ∧ l.1 < 2 ^ 29 ∧ zi h 14 0 p = bI l.2.1 ∧ (tsIs h p l.2.2.2.2 ∧ l.2.2.2.2.length ≤ 600) ∧ ptIs h (5 * p + 4) l.2.2.1 ∧ zi h 13 6 p = nI l.2.2.2.1.length ∧ l.2.2.2.1.length ≤ 4 ∧ ∀ r, r < l.2.2.2.1.length → rpIs h p r (l.2.2.2.1.getD r dP)
theorem rpIs.kept {P : Nat → Nat → Nat → Prop} {h h' : ZH} {p r : Nat} {x : ZP} (a : rpIs h p r x) (hr : r < 4) (s : zSa P h h') (hp : ∀ k i j, slP p k i j → ¬ P k i j) : rpIs h' p r x := by
  obtain ⟨a1, a2, a3, a4, a5⟩ := a
  refine ⟨a1.kept s (hp _ _ _ ?_) (fun i hi => hp _ _ _ ?_), by rw [s.1 13 7 _ (hp _ _ _ (by unfold slP; omega))]; exact a2, a3, by rw [s.1 13 8 _ (hp _ _ _ (by unfold slP; omega))]; exact a4, a5⟩ <;> (unfold slP; omega)
theorem slIs.kept {P : Nat → Nat → Nat → Prop} {h h' : ZH} {p : Nat} {l : ZL} (a : slIs h p l) (s : zSa P h h') (hp : ∀ k i j, slP p k i j → ¬ P k i j) : slIs h' p l := by
  obtain ⟨a1, a2, a3, ⟨a4, a5⟩, a6, a7, a8, a9⟩ := a
  refine ⟨by rw [s.1 13 1 p (hp _ _ _ (by unfold slP; omega))]; exact a1, a2, by rw [s.1 14 0 p (hp _ _ _ (by unfold slP; omega))]; exact a3, ⟨a4.kept s (hp _ _ _ ?_) (fun i hi => hp _ _ _ ?_), a5⟩, a6.kept s (hp _ _ _ ?_) (fun i hi => hp _ _ _ ?_), by rw [s.1 13 6 p (hp _ _ _ (by unfold slP; omega))]; exact a7, a8, fun r hr => (a9 r hr).kept (by omega) s hp⟩ <;> (unfold slP; omega)
def msp (h : ZH) (P : List (Nat × ZL)) : Prop := (∀ q ∈ P, q.1 < 6 ∧ slIs h q.1 q.2) ∧ (P.map Prod.fst).Nodup ∧ ∀ p, p < 6 → p ∉ P.map Prod.fst → zi h 13 1 p = -1
theorem msp.kept {C : Nat → Nat → Nat → Prop} {h h' : ZH} {P : List (Nat × ZL)} (a : msp h P) (s : zSa C h h') (hp : ∀ p, p < 6 → ∀ k i j, slP p k i j → ¬ C k i j) : msp h' P :=
  ⟨fun q hq => ⟨(a.1 q hq).1, (a.1 q hq).2.kept s (hp q.1 (a.1 q hq).1)⟩, a.2.1, fun p hp6 hn => by rw [s.1 13 1 p (hp p hp6 _ _ _ (by unfold slP; omega))]; exact a.2.2 p hp6 hn⟩
def spM (h : ZH) (given : Nat) (L : List ZL) : Prop := (∃ P, msp h P ∧ P.map Prod.snd = L) ∧ L.Pairwise (fun a b => a.1 < b.1) ∧ ∀ l ∈ L, l.1 < given
theorem spM.kept {C : Nat → Nat → Nat → Prop} {h h' : ZH} {given : Nat} {L : List ZL} (a : spM h given L) (s : zSa C h h') (hp : ∀ p, p < 6 → ∀ k i j, slP p k i j → ¬ C k i j) : spM h' given L := by
  obtain ⟨⟨P, a1, a2⟩, a3, a4⟩ := a
  exact ⟨⟨P, a1.kept s hp, a2⟩, a3, a4⟩
def ssM (h : ZH) (snd : ZT) (rcs : List ZT) : Prop := zi h 13 6 6 = nI rcs.length ∧ rcs.length ≤ 4 ∧ ptIs h 34 snd ∧ ∀ r, r < rcs.length → ptIs h (30 + r) (rcs.getD r [])
def seM (h : ZH) (up : Bool) (wr : Option Nat) (line : ZT) (gr bg tk : Bool) (snd : ZT) (rcs : List ZT) (tx : ZT) : Prop :=
  zi h 12 0 3 = wrE wr ∧ (∀ n, wr = some n → n ≤ 20) ∧ zi h 12 0 6 = bI gr ∧ zi h 12 0 7 = bI bg ∧ zi h 12 0 8 = bI tk ∧ (up = true → lnM h line) ∧ (tk = true → bg = true ∧ tsIs h 6 tx) ∧ (bg = true → ssM h snd rcs)
/-- the model's cells mean this state -/
def RM (h : ZH) (S : ZS) : Prop := match S with
  | (up, now, given, wr, line, gr, bg, tk, snd, rcs, tx, L) => zi h 12 0 0 = bI up ∧ zi h 12 0 1 = nI now ∧ now < 2 ^ 29 ∧ zi h 12 0 2 = nI given ∧ given < 2 ^ 29 ∧ (up = false → gr = false ∧ bg = false ∧ tk = false) ∧ seM h up wr line gr bg tk snd rcs tx ∧ spM h given L
theorem lnM.kept {P : Nat → Nat → Nat → Prop} {h h' : ZH} {xs : ZT} (a : lnM h xs) (s : zSa P h h') (h1 : ¬ P 12 0 5) (h2 : ∀ j, j < 72 → ¬ P 13 0 j) : lnM h' xs :=
  ⟨by rw [s.1 12 0 5 h1]; exact a.1, a.2.1, fun j hj => by rw [s.1 13 0 j (h2 j (by have := a.2.1; omega))]; exact a.2.2.1 j hj, a.2.2.2⟩
theorem ssM.kept {P : Nat → Nat → Nat → Prop} {h h' : ZH} {snd : ZT} {rcs : List ZT} (a : ssM h snd rcs) (s : zSa P h h') (h1 : ¬ P 13 6 6) (h2 : ∀ j, 30 ≤ j → j < 35 → ¬ P 13 5 j) (h3 : ∀ j, 1200 ≤ j → j < 1400 → ¬ P 13 4 j) : ssM h' snd rcs := by
  obtain ⟨a1, a2, a3, a4⟩ := a
  exact ⟨by rw [s.1 13 6 6 h1]; exact a1, a2, a3.kept s (h2 _ (by omega) (by omega)) (fun i hi => h3 _ (by omega) (by omega)), fun r hr => (a4 r hr).kept s (h2 _ (by omega) (by omega)) (fun i hi => h3 _ (by omega) (by omega))⟩
/-- a change off the session's cells -/
theorem seM.kept {P : Nat → Nat → Nat → Prop} {h h' : ZH} {up : Bool} {wr : Option Nat} {line : ZT} {gr bg tk : Bool} {snd : ZT} {rcs : List ZT} {tx : ZT} (a : seM h up wr line gr bg tk snd rcs tx) (s : zSa P h h') (hp : ∀ k i j, (k = 12 ∧ (j = 3 ∨ (5 ≤ j ∧ j ≤ 8))) ∨ (k = 13 ∧ (i = 0 ∨ (i = 3 ∧ j = 6) ∨ (i = 6 ∧ j = 6) ∨ (i = 2 ∧ 3612 ≤ j ∧ j < 4214) ∨ (i = 5 ∧ 30 ≤ j ∧ j < 35) ∨ (i = 4 ∧ 1200 ≤ j ∧ j < 1400))) → ¬ P k i j) : seM h' up wr line gr bg tk snd rcs tx := by
  obtain ⟨a1, a2, a3, a4, a5, a6, a7, a8⟩ := a
  refine ⟨by rw [s.1 12 0 3 (hp _ _ _ (by omega))]; exact a1, a2, by rw [s.1 12 0 6 (hp _ _ _ (by omega))]; exact a3, by rw [s.1 12 0 7 (hp _ _ _ (by omega))]; exact a4, by rw [s.1 12 0 8 (hp _ _ _ (by omega))]; exact a5, fun z => (a6 z).kept s (hp _ _ _ (by omega)) (fun j hj => hp _ _ _ (by omega)), fun z => ⟨(a7 z).1, (a7 z).2.kept s (hp _ _ _ (by omega)) (fun j hj => hp _ _ _ (by omega))⟩, fun z => (a8 z).kept s (hp _ _ _ (by omega)) (fun j h1 h2 => hp _ _ _ (by omega)) (fun j h1 h2 => hp _ _ _ (by omega))⟩
theorem sp_M_state {d : Nat} {h : ZH} {up : Bool} {now given : Nat} {wr : Option Nat} {line : ZT} {gr bg tk : Bool} {snd : ZT} {rcs : List ZT} {tx : ZT} {L : List ZL} {Q : Int32 → ZH → Prop} (a : RM h (up, now, given, wr, line, gr, bg, tk, snd, rcs, tx, L))
    (hq : Q (if up then (if tk then 4 else if bg then 3 else if gr then 2 else 1) else 0) h) : EvI d m_M_state [vQ (some (12, 0))] h Q := by
  obtain ⟨a1, a2, a3, a4, a5, a6, ⟨b1, b2, b3, b4, b5, -⟩, a8⟩ := a
  refine e_M_state ?_
  rw [a1, b3, b4, b5]
  refine ⟨fun c => ⟨fun c1 => ⟨fun c2 => ⟨fun c3 => ?_, fun c3 => ?_⟩, fun c2 => ?_⟩, fun c1 => ?_⟩, fun c => ?_⟩
  · rw [bI_t c, (bI_0 _).mp c1, (bI_0 _).mp c2, (bI_0 _).mp c3] at hq; exact hq
  · rw [bI_t c, (bI_0 _).mp c1, (bI_0 _).mp c2, bI_t c3] at hq; exact hq
  · rw [bI_t c, (bI_0 _).mp c1, bI_t c2] at hq; exact hq
  · rw [bI_t c, bI_t c1] at hq; exact hq
  · rw [(bI_0 _).mp c] at hq; exact hq
theorem slP_12 {p k i j : Nat} (h : slP p k i j) : k = 13 ∨ k = 14 := by
  rcases h with h | h <;> omega
theorem sp_M_pass {d : Nat} {x : Int32} {h : ZH} {up : Bool} {now given : Nat} {wr : Option Nat} {line : ZT} {gr bg tk : Bool} {snd : ZT} {rcs : List ZT} {tx : ZT} {L : List ZL} {Q : Int32 → ZH → Prop} (a : RM h (up, now, given, wr, line, gr, bg, tk, snd, rcs, tx, L)) (hn : now + 1000 < 2 ^ 29)
    (h0 : (x < 0 ∨ 1000 < x) → Q (-1) h) (h1 : ∀ n : Nat, n ≤ 1000 → x = nI n → ∀ h', RM h' (up, now + n, given, wr, line, gr, bg, tk, snd, rcs, tx, L) → zSa PMM h h' → Q (nI (now + n)) h') : EvI d m_M_pass [vQ (some (12, 0)), vI x] h Q := by
  obtain ⟨a1, a2, a3, a4, a5, a6, a7, a8⟩ := a
  refine e_M_pass x ⟨fun c => h0 (Or.inl c), fun c => ⟨fun c2 => ?_, fun c2 => h0 (Or.inr (Int32.not_le.mp c2))⟩⟩
  obtain ⟨n, hn2, rfl⟩ := nI_of2 (M := 1000) (n := 1000) rfl c c2
  rw [zi_zw, if_pos ⟨rfl, rfl, rfl⟩, a2, nI_add]
  have s : zSa (fun k _ j => k = 12 ∧ j = 1) h (zw h 12 0 1 (nI (now + n))) := zSa.w (P := fun k _ j => k = 12 ∧ j = 1) zSa.rfl ⟨rfl, rfl⟩
  refine h1 n hn2 rfl _ ⟨by rw [zi_zw, if_neg (by omega)]; exact a1, by rw [zi_zw, if_pos ⟨rfl, rfl, rfl⟩], by omega, by rw [zi_zw, if_neg (by omega)]; exact a4, a5, a6, a7.kept s (fun k i j z => by omega), a8.kept s (fun p hp k i j z y => by have := slP_12 z; omega)⟩ (s.mono (fun k i j z => by unfold PMM; omega))
theorem sp_M_breakAfter {d : Nat} {x : Int32} {h : ZH} {up : Bool} {now given : Nat} {wr : Option Nat} {line : ZT} {gr bg tk : Bool} {snd : ZT} {rcs : List ZT} {tx : ZT} {L : List ZL} {Q : Int32 → ZH → Prop} (a : RM h (up, now, given, wr, line, gr, bg, tk, snd, rcs, tx, L))
    (h0 : (up = false ∨ x < 0 ∨ 20 < x) → Q 0 h) (h1 : ∀ n : Nat, up = true → n ≤ 20 → x = nI n → ∀ h', RM h' (up, now, given, some n, line, gr, bg, tk, snd, rcs, tx, L) → zSa PMM h h' → Q 1 h') : EvI d m_M_breakAfter [vQ (some (12, 0)), vI x] h Q := by
  obtain ⟨a1, a2, a3, a4, a5, a6, a7, a8⟩ := a
  refine e_M_breakAfter x ?_
  rw [a1]
  refine ⟨fun c => h0 (Or.inl ((bI_0 _).mp c)), fun c => ⟨fun c2 => h0 (Or.inr (Or.inl c2)), fun c2 => ⟨fun c3 => ?_, fun c3 => h0 (Or.inr (Or.inr (Int32.not_le.mp c3)))⟩⟩⟩
  have hup := bI_t c
  obtain ⟨n, hn, rfl⟩ := nI_of2 (M := 20) (n := 20) rfl c2 c3
  have s : zSa (fun k _ j => k = 12 ∧ j = 3) h (zw h 12 0 3 (nI n)) := zSa.w (P := fun k _ j => k = 12 ∧ j = 3) zSa.rfl ⟨rfl, rfl⟩
  obtain ⟨b1, b2, b3, b4, b5, b6, b7, b8⟩ := a7
  refine h1 n hup hn rfl _ ⟨by rw [zi_zw, if_neg (by omega)]; exact a1, by rw [zi_zw, if_neg (by omega)]; exact a2, a3, by rw [zi_zw, if_neg (by omega)]; exact a4, a5, a6, ⟨by rw [zi_zw, if_pos ⟨rfl, rfl, rfl⟩]; rfl, fun m e => by cases e; exact hn, by rw [zi_zw, if_neg (by omega)]; exact b3, by rw [zi_zw, if_neg (by omega)]; exact b4, by rw [zi_zw, if_neg (by omega)]; exact b5, fun z => (b6 z).kept s (by omega) (fun j hj => by omega), fun z => ⟨(b7 z).1, (b7 z).2.kept s (by omega) (fun j hj => by omega)⟩, fun z => (b8 z).kept s (by omega) (fun j h1 h2 => by omega) (fun j h1 h2 => by omega)⟩, a8.kept s (fun p hp k i j z y => by have := slP_12 z; omega)⟩ (s.mono (fun k i j z => by unfold PMM; omega))
