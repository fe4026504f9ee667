def PB (q : Nat) : Nat → Nat → Prop := fun k i => k = 5 ∨ letP q k i
theorem spIs.push {h h' : ZH} {π : Nat → Nat} {L : List ZL} {l : ZL} (a : spIs h π L) (hL : L.length < 6) (s : zSame (PB (π L.length)) h h') (hc : zi h' 5 0 1 = nI (L.length + 1)) (l' : ltIs h' (π L.length) l) : spIs h' π (L ++ [l]) := by
  refine ⟨?_, ?_, fun j hj => ?_, a.2.2.2.1, fun j hj => ?_⟩
  · rw [hc, List.length_append]
    rfl
  · rw [List.length_append]
    exact hL
  · rw [s.2 6 0 j]
    exact a.2.2.1 j hj
  · rw [List.length_append] at hj
    have hj : j < L.length + 1 := hj
    by_cases e2 : j = L.length
    · subst e2
      rw [getD_appG2]
      exact l'
    · rw [getD_appG1 (by omega)]
      refine (a.2.2.2.2 j (by omega)).kept s (fun k i z => ?_)
      rintro (z5 | z5)
      · exact letP_ne5 (z5 ▸ z)
      · exact letP_apart (a.2.2.1 j (by omega)).2 (a.2.2.1 L.length hL).2 (fun y => e2 (a.2.2.2.1 j L.length (by omega) hL y)) z z5
theorem letP_low {q k i : Nat} (hk : k = 1 ∨ k = 2) (hi : i < 7) : ¬ PB q k i := by
  rintro (z | ⟨z, -⟩ | ⟨z, -⟩ | ⟨-, z⟩)
  · omega
  · omega
  · omega
  · omega
theorem PB_row {q r : Nat} (hr : r = 7 + q ∨ r = 13 + q) : ∀ k i, rowP r k i → PB q k i := fun k i z => Or.inr (Or.inr (Or.inr ⟨z.1, by have := z.2; omega⟩))
def mkRc (rcs : List ZT) (now : Nat) : List ZP := rcs.map (fun p => (p, 0, now))
theorem mkRc_len (rcs : List ZT) (now : Nat) : (mkRc rcs now).length = rcs.length := List.length_map _
theorem mkRc_take {rcs : List ZT} {now r : Nat} (hr : r < rcs.length) : mkRc (rcs.take (r + 1)) now = mkRc (rcs.take r) now ++ [(rcs.getD r [], 0, now)] := by
  unfold mkRc
  rw [List.take_add_one, List.map_append, List.getD_eq_getElem?_getD, List.getElem?_eq_getElem hr]
  rfl
theorem ltIs.snd {h h' : ZH} {q : Nat} {l : ZL} {xs : ZT} (a : ltIs h q l) (s : zSame (rowP (7 + q)) h h') (hq6 : q < 6) (w : rowIs h' (7 + q) xs) : ltIs h' q (l.1, l.2.1, xs, l.2.2.2.1, l.2.2.2.2) := by
  obtain ⟨a1, a2, a3, a4, a5, a6, a7, a8⟩ := a
  have f : ∀ k i j, k ≠ 1 → k ≠ 2 → zi h' k i j = zi h k i j := fun k i j y1 y2 => s.1 k i j (by rintro ⟨z | z, -⟩ <;> omega)
  refine ⟨by rw [f 7 q 4 (by decide) (by decide)]; exact a1, a2, by rw [f 7 q 5 (by decide) (by decide)]; exact a3, w, by rw [f 7 q 3 (by decide) (by decide)]; exact a5, a6, fun r hr => (a7 r hr).kept s (rowP_ne (by omega)) (rowP_ne (by omega)) (by rintro ⟨z | z, -⟩ <;> omega), a8.kept s (rowP_ne (by omega)) (rowP_ne (by omega))⟩
theorem ltIs.txt {h h' : ZH} {q : Nat} {l : ZL} {xs : ZT} (a : ltIs h q l) (s : zSame (rowP (13 + q)) h h') (hq6 : q < 6) (w : rowIs h' (13 + q) xs) : ltIs h' q (l.1, l.2.1, l.2.2.1, l.2.2.2.1, xs) := by
  obtain ⟨a1, a2, a3, a4, a5, a6, a7, a8⟩ := a
  have f : ∀ k i j, k ≠ 1 → k ≠ 2 → zi h' k i j = zi h k i j := fun k i j y1 y2 => s.1 k i j (by rintro ⟨z | z, -⟩ <;> omega)
  refine ⟨by rw [f 7 q 4 (by decide) (by decide)]; exact a1, a2, by rw [f 7 q 5 (by decide) (by decide)]; exact a3, a4.kept s (rowP_ne (by omega)) (rowP_ne (by omega)), by rw [f 7 q 3 (by decide) (by decide)]; exact a5, a6, fun r hr => (a7 r hr).kept s (rowP_ne (by omega)) (rowP_ne (by omega)) (by rintro ⟨z | z, -⟩ <;> omega), w⟩
theorem zcap_l {q : Nat} (h : q < 6) : zcap (7 + q) = 40 ∧ zcap (13 + q) = 600 := by
  unfold zcap
  refine ⟨?_, ?_⟩
  · rw [if_neg (by omega), if_neg (by omega), if_neg (by omega)]
  · rw [if_neg (by omega), if_neg (by omega), if_pos (by omega)]
/-- the end of both ways to spool: the seal -/
theorem seal_end {d : Nat} {h0 h : ZH} {π : Nat → Nat} {L : List ZL} {g : Nat} {w1 : Option Nat} {sd tx : ZT} {rc : List ZP} {Q : Int32 → ZH → Prop} (a : spIs h0 π L) (hL : L.length < 6) (s : zSame (PB (π L.length)) h0 h) (hc : zi h 5 0 1 = nI (L.length + 1)) (hw : zi h 5 0 3 = wrE w1) (hb : ∀ n, w1 = some n → n < 2 ^ 30) (l' : ltIs h (π L.length) (g, false, sd, rc, tx))
    (h2 : wrN w1 = none → ∀ h', spIs h' π (L ++ [(g, false, sd, rc, tx)]) → zi h' 5 0 2 = zi h 5 0 2 → zi h' 5 0 4 = 1 → zSame (PB (π L.length)) h0 h' → Q 0 h')
    (h3 : ∀ w2, wrN w1 = some w2 → ∀ h', spIs h' π (L ++ [(g, true, sd, rc, tx)]) → zi h' 5 0 2 = zi h 5 0 2 → zi h' 5 0 3 = wrE w2 → zi h' 5 0 4 = zi h 5 0 4 → zSame (PB (π L.length)) h0 h' → Q 1 h') : EvI (d + 1) m_O_seal [vQ (some (5, 0)), vQ (some (7, π L.length))] h Q := by
  have hq6 := (a.2.2.1 L.length hL).2
  have lt : ∀ (h1 : ZH) (b : Bool), (∀ k i j, k ≠ 5 → zi h1 k i j = zi h k i j) → ltIs (zw h1 7 (π L.length) 5 (bI b)) (π L.length) (g, b, sd, rc, tx) := by
    intro h1 b f
    have l1 : ltIs h1 (π L.length) (g, false, sd, rc, tx) := l'.keptI f
    obtain ⟨a1, a2, a3, a4, a5, a6, a7, a8⟩ := l1
    have s7 : zSame (fun k _ => k = 7) h1 (zw h1 7 (π L.length) 5 (bI b)) := zSame.w (P := fun k _ => k = 7) zSame.rfl rfl
    refine ⟨by rw [zi_zw, if_neg (by omega)]; exact a1, a2, by rw [zi_zw, if_pos ⟨rfl, rfl, rfl⟩], a4.kept s7 (show ¬ 1 = 7 by decide) (show ¬ 2 = 7 by decide), by rw [zi_zw, if_neg (by omega)]; exact a5, a6, fun r hr => (a7 r hr).kept s7 (show ¬ 1 = 7 by decide) (show ¬ 2 = 7 by decide) (show ¬ 9 = 7 by decide), a8.kept s7 (show ¬ 1 = 7 by decide) (show ¬ 2 = 7 by decide)⟩
  refine sp_O_seal hq6 hw hb (fun e => ?_) (fun w2 e => ?_)
  · have s1 : zSame (PB (π L.length)) h0 (zw (zw h 5 0 4 1) 7 (π L.length) 5 0) := (s.w (Or.inl rfl)).w (Or.inr (Or.inl ⟨rfl, rfl⟩))
    refine h2 e _ (a.push hL s1 (by rw [zi_zw, if_neg (by omega), zi_zw, if_neg (by omega)]; exact hc) (lt _ false (fun k i j hk => by rw [zi_zw, if_neg (by omega)]))) ?_ ?_ s1
    · rw [zi_zw, if_neg (by omega), zi_zw, if_neg (by omega)]
    · rw [zi_zw, if_neg (by omega), zi_zw, if_pos ⟨rfl, rfl, rfl⟩]
  · have s1 : zSame (PB (π L.length)) h0 (zw (zw h 5 0 3 (wrE w2)) 7 (π L.length) 5 1) := (s.w (Or.inl rfl)).w (Or.inr (Or.inl ⟨rfl, rfl⟩))
    refine h3 w2 e _ (a.push hL s1 (by rw [zi_zw, if_neg (by omega), zi_zw, if_neg (by omega)]; exact hc) (lt _ true (fun k i j hk => by rw [zi_zw, if_neg (by omega)]))) ?_ ?_ ?_ s1
    · rw [zi_zw, if_neg (by omega), zi_zw, if_neg (by omega)]
    · rw [zi_zw, if_neg (by omega), zi_zw, if_pos ⟨rfl, rfl, rfl⟩]
    · rw [zi_zw, if_neg (by omega), zi_zw, if_neg (by omega)]
theorem wrN_b {w w1 : Option Nat} (hb : ∀ n, w = some n → n < 2 ^ 30) (e : wrN w = some w1) : ∀ n, w1 = some n → n < 2 ^ 30 := by
  intro n hn
  match w, hb, e with
  | none, _, e => cases e; cases hn
  | some (m + 1), hb, e =>
    have hm := hb (m + 1) rfl
    have e : some m = w1 := Option.some.inj e
    rw [hn] at e
    have := Option.some.inj e
    omega
theorem sp_P_spoolSession {d : Nat} {h : ZH} {π : Nat → Nat} {L : List ZL} {now g : Nat} {w : Option Nat} {snd tx : ZT} {rcs : List ZT} {Q : Int32 → ZH → Prop} (a : spIs h π L) (hL : L.length < 6) (hnow : zi h 0 0 4 = nI now) (hnb : now < 2 ^ 30) (hg : zi h 5 0 2 = nI g) (hgb : g + 1 < 2 ^ 30) (hw : zi h 5 0 3 = wrE w) (hb : ∀ n, w = some n → n < 2 ^ 30)
    (c3 : zi h 3 0 3 = nI rcs.length) (c4 : rcs.length ≤ 4) (ws : rowIs h 1 snd) (wr : ∀ r, r < rcs.length → rowIs h (2 + r) (rcs.getD r [])) (wt : rowIs h 6 tx) (ht : tx.length ≤ 600)
    (h1 : wrN w = none → Q 0 (zw (zw h 5 0 2 (nI (g + 1))) 5 0 4 1))
    (h2 : ∀ w1, wrN w = some w1 → wrN w1 = none → ∀ h', spIs h' π (L ++ [(g, false, snd, mkRc rcs now, tx)]) → zi h' 5 0 2 = nI (g + 1) → zi h' 5 0 4 = 1 → zSame (PB (π L.length)) h h' → Q 0 h')
    (h3 : ∀ w1 w2, wrN w = some w1 → wrN w1 = some w2 → ∀ h', spIs h' π (L ++ [(g, true, snd, mkRc rcs now, tx)]) → zi h' 5 0 2 = nI (g + 1) → zi h' 5 0 3 = wrE w2 → zi h' 5 0 4 = zi h 5 0 4 → zSame (PB (π L.length)) h h' → Q 250 h') : EvI (d + 3) m_P_spoolSession [vQ (some (0, 0))] h Q := by
  have hq6 := (a.2.2.1 L.length hL).2
  refine e_P_spoolSession (sp_O_begin (d := d) a hL hg hgb hw hb (fun e => ⟨fun _ => h1 e, fun n e _ => (by cases e)⟩) (fun w1 e1 g1 a1 f2 f3 f4 s1 => ⟨fun e => (by cases e), fun n e hn => ?_⟩))
  cases e
  have s1 : zSame (PB (π L.length)) h g1 := s1
  have l1 : ltIs g1 (π L.length) (g, false, [], [], []) := by
    have := a1.2.2.2.2 L.length (by rw [List.length_append]; show L.length < L.length + 1; omega)
    rw [getD_appG2] at this
    exact this
  have hc1 : zi g1 5 0 1 = nI (L.length + 1) := by
    have := a1.1
    rw [List.length_append] at this
    exact this
  have lo : ∀ {g' : ZH}, zSame (PB (π L.length)) h g' → ∀ r xs, r < 7 → rowIs h r xs → rowIs g' r xs := fun s r xs hr ww => ww.kept s (letP_low (Or.inl rfl) hr) (letP_low (Or.inr rfl) hr)
  have n5 : ∀ q r, ¬ rowP r 5 q := by rintro q r ⟨z | z, -⟩ <;> omega
  have hs40 : snd.length ≤ 40 := ws.2.1
  refine sp_R_addRow (d := d + 1) (by omega) (by decide) (by omega) l1.2.2.2.1 (lo s1 1 _ (by decide) ws) (by rw [(zcap_l hq6).1]; show 0 + _ ≤ 40; omega) (fun g2 w2 s2 => ?_)
  have l2 := l1.snd s2 hq6 w2
  have s2' : zSame (PB (π L.length)) h g2 := s1.trans (s2.mono (PB_row (Or.inl rfl)))
  -- the recipients
  have key : ∀ (n r : Nat) (g3 : ZH), rcs.length - r = n → r ≤ rcs.length → zSame (PB (π L.length)) h g3 → (∀ j, zi g3 5 0 j = zi g1 5 0 j) → ltIs g3 (π L.length) (g, false, snd, mkRc (rcs.take r) now, []) → EvAt (d + 3) m_P_spoolSession 30 [some (vQ (some (0, 0))), some (vQ (some (7, π L.length))), some (vI (nI r))] [] g3 (zQI Q) := by
    intro n
    induction n with
    | zero =>
      intro r g3 hn hr s3 f5 l3
      have e33 : zi g3 3 0 3 = nI rcs.length := by rw [s3.1 3 0 3 (by rintro (z | ⟨z, -⟩ | ⟨z, -⟩ | ⟨z | z, -⟩) <;> omega)]; exact c3
      refine w_P_spoolSession_30 _ _ hq6 ⟨fun _ => ?_, fun c => ?_⟩
      · refine sp_R_addRow (d := d + 1) (by omega) (by decide) (by omega) l3.2.2.2.2.2.2.2 (lo s3 6 _ (by decide) wt) (by rw [(zcap_l hq6).2]; show 0 + _ ≤ 600; omega) (fun g4 w4 s4 => ?_)
        have l4 := l3.txt s4 hq6 w4
        rw [show rcs.take r = rcs from List.take_of_length_le (by omega)] at l4
        have s5 : zSame (PB (π L.length)) h g4 := s3.trans (s4.mono (PB_row (Or.inr rfl)))
        have f6 : ∀ j, zi g4 5 0 j = zi g1 5 0 j := fun j => (s4.1 5 0 j (n5 _ _)).trans (f5 j)
        refine seal_end (d := d + 1) a hL s5 (by rw [f6]; exact hc1) (by rw [f6]; exact f3) (wrN_b hb e1) l4 (fun e2 h' p1 p2 p3 p4 => ⟨fun _ => ?_, fun c => absurd rfl c⟩) (fun w2' e2 h' p1 p2 p3 p4 p5 => ⟨fun c => absurd c (by decide), fun _ => ?_⟩)
        · exact h2 w1 e1 e2 h' p1 (by rw [p2, f6]; exact f2) p3 p4
        · exact h3 w1 w2' e1 e2 h' p1 (by rw [p2, f6]; exact f2) p3 (by rw [p4, f6]; exact f4) p5
      · rw [e33] at c
        exact absurd ((nI_leI (by omega) (by omega)).mpr (by omega)) c
    | succ n ih =>
      intro r g3 hn hr s3 f5 l3
      have e33 : zi g3 3 0 3 = nI rcs.length := by rw [s3.1 3 0 3 (by rintro (z | ⟨z, -⟩ | ⟨z, -⟩ | ⟨z | z, -⟩) <;> omega)]; exact c3
      have e04 : zi g3 0 0 4 = nI now := by rw [s3.1 0 0 4 (by rintro (z | ⟨z, -⟩ | ⟨z, -⟩ | ⟨z | z, -⟩) <;> omega)]; exact hnow
      refine w_P_spoolSession_30 _ _ hq6 ⟨fun c => ?_, fun _ => ⟨vp_in_nI (by omega) (by omega), ?_⟩⟩
      · rw [e33] at c
        exact absurd ((nI_leI (by omega) (by omega)).mp c) (by omega)
      · rw [nI_clamp (show r < 2 ^ 31 by omega), e04]
        have wr' := wr r (by omega)
        have hcap : (rcs.getD r []).length ≤ 40 := by
          have := wr'.2.1
          rw [zcap_s (by omega) (by omega)] at this
          exact this
        refine sp_L_address (d := d) hq6 (by omega) (Or.inl (by omega)) l3 (by
          show (mkRc (rcs.take r) now).length < 4
          rw [mkRc_len, List.length_take]
          omega) (lo s3 (2 + r) _ (by omega) wr') hcap hnb (fun g4 l4 s4 => ?_)
        rw [nI_inc]
        refine ih (r + 1) g4 (by omega) (by omega) (s3.trans (s4.mono (fun k i z => Or.inr z))) (fun j => (s4.1 5 0 j letP_ne5).trans (f5 j)) ?_
        rw [mkRc_take (by omega)]
        exact l4
  have := key _ 0 g2 rfl (Nat.zero_le _) s2' (fun j => s2.1 5 0 j (n5 _ _)) l2
  rw [nI_0] at this
  exact this
