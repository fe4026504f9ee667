/-! the model's enter and restart -/
theorem lnM_nil {h : ZH} (e : zi h 12 0 5 = 0) : lnM h [] := ⟨by rw [e]; exact nI_0.symm, Nat.zero_le _, fun j hj => absurd hj (Nat.not_lt_zero _), fun x hx => by cases hx⟩
theorem seM_line {h : ZH} {wr : Option Nat} {line : ZT} {gr bg tk : Bool} {snd : ZT} {rcs : List ZT} {tx : ZT} (b : seM h true wr line gr bg tk snd rcs tx) : seM (zw h 12 0 5 0) true wr [] gr bg tk snd rcs tx := by
  obtain ⟨b1, b2, b3, b4, b5, b6, b7, b8⟩ := b
  have s : zSa (fun k i j => k = 12 ∧ j = 5) h (zw h 12 0 5 0) := zSa.rfl.w (by omega)
  exact ⟨by rw [s.1 12 0 3 (by omega)]; exact b1, b2, by rw [s.1 12 0 6 (by omega)]; exact b3, by rw [s.1 12 0 7 (by omega)]; exact b4, by rw [s.1 12 0 8 (by omega)]; exact b5, fun _ => lnM_nil (by rw [zi_zw, if_pos ⟨rfl, rfl, rfl⟩]), fun z => ⟨(b7 z).1, (b7 z).2.kept s (by omega) (fun j hj => by omega)⟩, fun z => (b8 z).kept s (by omega) (fun j h1 h2 => by omega) (fun j h1 h2 => by omega)⟩
theorem RM_ps {h h' : ZH} {now given : Nat} {wr : Option Nat} {line line' : ZT} {gr bg tk gr' bg' tk' : Bool} {snd snd' : ZT} {rcs rcs' : List ZT} {tx tx' : ZT} {L : List ZL} (a : RM h (true, now, given, wr, line, gr, bg, tk, snd, rcs, tx, L)) (s : zSa PSM h h') (b : seM h' true wr line' gr' bg' tk' snd' rcs' tx') : RM h' (true, now, given, wr, line', gr', bg', tk', snd', rcs', tx', L) := by
  obtain ⟨a1, a2, a3, a4, a5, a6, a7, a8⟩ := a
  exact ⟨by rw [s.1 12 0 0 (by unfold PSM; omega)]; exact a1, by rw [s.1 12 0 1 (by unfold PSM; omega)]; exact a2, a3, by rw [s.1 12 0 2 (by unfold PSM; omega)]; exact a4, a5, fun z => (by cases z), b, a8.ps s⟩
theorem PSM_PMM : ∀ k i j, PSM k i j → PMM k i j := fun k i j z => by unfold PSM at z; unfold PMM; omega
theorem spF2_PMM {p : Nat} : ∀ k i j, spF2 p k i j → PMM k i j := fun k i j z => by
  unfold PMM
  rcases z with ⟨z, -⟩ | z
  · omega
  · have := slP_12 z
    omega
theorem ln5_PMM {h g : ZH} (s : zSa PMM h g) : zSa PMM h (zw g 12 0 5 0) := s.w (by unfold PMM; omega)
theorem bd_PMM {h g : ZH} (s : zSa PMM h g) : zSa PMM h (bdM g) := s.trans ((bdM_sa g).mono (fun k i j z => by unfold PMM; omega))
theorem spM.push {g : ZH} {P : List (Nat × ZL)} {given : Nat} {l : ZL} {p : Nat} (h1 : (P.map Prod.snd).Pairwise (fun a b => a.1 < b.1)) (h2 : ∀ l ∈ P.map Prod.snd, l.1 < given) (hl : l.1 = given) (m : msp g (P ++ [(p, l)])) : spM g (given + 1) (P.map Prod.snd ++ [l]) := by
  refine ⟨⟨_, m, by rw [List.map_append]; rfl⟩, List.pairwise_append.mpr ⟨h1, List.pairwise_singleton _ _, fun a ha b hb => ?_⟩, fun x hx => ?_⟩
  · rw [List.mem_singleton.mp hb, hl]
    exact h2 a ha
  · rcases List.mem_append.mp hx with z | z
    · have := h2 x z
      omega
    · rw [List.mem_singleton.mp z, hl]
      omega
theorem spM.more {h : ZH} {given : Nat} {L : List ZL} (a : spM h given L) : spM h (given + 1) L := ⟨a.1, a.2.1, fun l hl => by have := a.2.2 l hl; omega⟩
theorem slP_ne {p p' : Nat} (hne : p' ≠ p) : ∀ k i j, slP p' k i j → ¬ spF2 p k i j := by
  intro k i j z y
  rcases y with ⟨y, -⟩ | y
  · have := slP_12 z
    omega
  · rcases z with ⟨rfl, rfl, rfl⟩ | ⟨rfl, z⟩
    · rcases y with ⟨-, -, y⟩ | ⟨y, -⟩ <;> omega
    · rcases y with ⟨y, -⟩ | ⟨-, y⟩
      · omega
      · omega
/-- the model's session is off the letters' places -/
theorem seM_spF2 {h g : ZH} {p : Nat} {up : Bool} {wr w2 : Option Nat} {line : ZT} {gr bg tk : Bool} {snd : ZT} {rcs : List ZT} {tx : ZT} (hp : p < 6) (b : seM h up wr line gr bg tk snd rcs tx) (s : zSa (spF2 p) h g) (e : zi g 12 0 3 = wrE w2) (hb : ∀ n, w2 = some n → n ≤ 20) : seM g up w2 line gr bg tk snd rcs tx := by
  obtain ⟨b1, b2, b3, b4, b5, b6, b7, b8⟩ := b
  refine ⟨e, hb, by rw [s.1 12 0 6 (by unfold spF2 slP; omega)]; exact b3, by rw [s.1 12 0 7 (by unfold spF2 slP; omega)]; exact b4, by rw [s.1 12 0 8 (by unfold spF2 slP; omega)]; exact b5, fun z => (b6 z).kept s (by unfold spF2 slP; omega) (fun j hj => by unfold spF2 slP; omega), fun z => ⟨(b7 z).1, (b7 z).2.kept s (by unfold spF2 slP; omega) (fun j hj => by unfold spF2 slP; omega)⟩, fun z => (b8 z).kept s (by unfold spF2 slP; omega) (fun j h1 h2 => by unfold spF2 slP; omega) (fun j h1 h2 => by unfold spF2 slP; omega)⟩
theorem tx_step {d s : Nat} {h : ZH} {line tx : ZT} {Q : Int32 → ZH → Prop} (hs : s ≤ line.length) (w : lnM h line) (t : tsIs h 6 tx) (hq : ∀ h', tsIs h' 6 (tx ++ seg line s line.length ++ [10]) → zSa (putP 6) h h' → Q 0 h') : ∀ (n i : Nat) (g : ZH), s ≤ i → i + n = line.length → tsIs g 6 (tx ++ seg line s i) → zSa (putP 6) h g → EvAt (d + 1) m_M_textLine 43 [some (vQ (some (12, 0))), some (vI (nI i))] [] g (zQI Q) := by
  have hl := w.2.1
  intro n
  induction n with
  | zero =>
    intro i g hi he t' s'
    have : i = line.length := by omega
    subst this
    have wg := w.kept s' (by unfold putP; omega) (fun j hj => by unfold putP; omega)
    refine w_M_textLine_43 _ ?_
    rw [wg.1]
    exact pk_le line.length line.length (fun _ => sp_M_put (q := 6) (by decide) t' ⟨10, by decide, rfl⟩ (fun h' t2 s2 => hq h' t2 (s'.trans s2))) (fun z => by omega)
  | succ n ih =>
    intro i g hi he t' s'
    have wg := w.kept s' (by unfold putP; omega) (fun j hj => by unfold putP; omega)
    refine w_M_textLine_43 _ ?_
    rw [wg.1]
    refine pk_le line.length i (fun z => by omega) (fun _ => ?_)
    rw [nI_clamp (by omega), wg.2.2.1 i (by omega)]
    refine ⟨vp_in_nI (show i < 72 by omega) (by decide), sp_M_put (q := 6) (by decide) t' (w.2.2.2 _ (zgetD_mem (by omega))) (fun h' t2 s2 => ?_)⟩
    rw [nI_inc]
    refine ih (i + 1) h' (by omega) (by omega) ?_ (s'.trans s2)
    rw [seg_snoc hi (by omega), ← List.append_assoc]
    exact t2
theorem putP6 : ∀ k i j, putP 6 k i j → PSM k i j := fun k i j z => by unfold putP at z; unfold PSM; omega
theorem sp_M_textLine {d : Nat} {h : ZH} {now given : Nat} {wr : Option Nat} {line : ZT} {gr : Bool} {snd : ZT} {rcs : List ZT} {tx : ZT} {L : List ZL} {Q : Int32 → ZH → Prop} (a : RM h (true, now, given, wr, line, gr, true, true, snd, rcs, tx, L)) (hgv : given + 1 < 2 ^ 29)
    (hq : ∀ h', RM (zw h' 12 0 5 0) (txtS now given wr line gr snd rcs tx L).2 → zSa PMM h (zw h' 12 0 5 0) → Q (txtS now given wr line gr snd rcs tx L).1 h') : EvI (d + 3) m_M_textLine [vQ (some (12, 0))] h Q := by
  have a0 := a
  obtain ⟨a1, a2, a3, a4, a5, a6, a7, a8⟩ := a
  have a7' := a7
  obtain ⟨b1, b2, b3, b4, b5, b6, b7, b8⟩ := a7
  have w := b6 rfl
  have hl := w.2.1
  have t := (b7 rfl).2
  have i0 : vp_in (0 : Int32) (zLen 13 0) := vp_in_nI (show 0 < 72 by decide) (by decide)
  have e0 : ((0 : Int32)).toNatClampNeg = 0 := rfl
  have e6 : ((6 : Int32)).toNatClampNeg = 6 := rfl
  have i6 : vp_in (6 : Int32) (zLen 13 3) := vp_in_nI (show 6 < 8 by decide) (by decide)
  unfold txtS at hq
  -- a line of the text
  have k19 : ¬ (line.getD 0 0 = 46 ∧ line.length = 1) → EvAt (d + 3) m_M_textLine 19 [some (vQ (some (12, 0))), none] [] h (zQI Q) := by
    intro z
    rw [if_neg z] at hq
    have fin : ∀ s, s ≤ line.length → txL line = seg line s line.length → EvAt (d + 3) m_M_textLine 43 [some (vQ (some (12, 0))), some (vI (nI s))] [] h (zQI Q) := by
      intro s hs e
      rw [e] at hq
      refine tx_step (d := d + 2) hs w t (fun h' t' s' => hq h' ?_ ?_) (line.length - s) s h (Nat.le_refl _) (by omega) (by rw [seg_nil (Nat.le_refl _), List.append_nil]; exact t) zSa.rfl
      · have sP : zSa PSM h (zw h' 12 0 5 0) := (s'.mono putP6).w (by unfold PSM; omega)
        refine RM_ps a0 sP (seM_line (line := line) ?_)
        refine ⟨by rw [s'.1 12 0 3 (by unfold putP; omega)]; exact b1, b2, by rw [s'.1 12 0 6 (by unfold putP; omega)]; exact b3, by rw [s'.1 12 0 7 (by unfold putP; omega)]; exact b4, by rw [s'.1 12 0 8 (by unfold putP; omega)]; exact b5, fun z => (b6 z).kept s' (by unfold putP; omega) (fun j hj => by unfold putP; omega), fun _ => ⟨rfl, t'⟩, fun z => (b8 z).kept s' (by unfold putP; omega) (fun j h1 h2 => by unfold putP; omega) (fun j h1 h2 => by unfold putP; omega)⟩
      · exact ln5_PMM (s'.mono (fun k i j z => PSM_PMM k i j (putP6 k i j z)))
    have k0 : ¬ line.getD 0 0 = 46 → EvAt (d + 3) m_M_textLine 41 [some (vQ (some (12, 0))), none] [] h (zQI Q) := fun y => w_M_textLine_41 (w_M_textLine_42 _ (fin 0 (Nat.zero_le _) (by unfold txL; rw [if_neg y])))
    refine w_M_textLine_19 ?_
    rw [w.1, e0]
    refine pk_le line.length 0 (fun z => k0 ?_) (fun z => ⟨i0, ?_⟩)
    · rw [getD_ge (by omega)]; decide
    · rw [w.2.2.1 0 (by omega)]
      exact ⟨fun c => k0 c, fun c => w_M_textLine_42 _ (fin 1 (by omega) (by unfold txL; rw [if_pos c]))⟩
  refine e_M_textLine ?_
  rw [w.1, e0, e6]
  refine ⟨fun c => k19 (fun z => c (by rw [z.2]; rfl)), fun c => ⟨i0, ?_⟩⟩
  have h1 : line.length = 1 := by
    rw [show (1 : Int32) = nI 1 from rfl, nI_eq (by omega) (by omega)] at c
    exact c
  rw [w.2.2.1 0 (by omega)]
  refine ⟨fun c1 => ⟨i6, ?_⟩, fun c1 => k19 (fun z => c1 z.1)⟩
  rw [if_pos ⟨c1, h1⟩] at hq
  unfold endS at hq
  have s1 : zSa (fun k i j => k = 12 ∧ (j = 7 ∨ j = 8)) h (zw (zw h 12 0 8 0) 12 0 7 0) := (zSa.rfl.w (by omega)).w (by omega)
  have e7 : zi (zw (zw h 12 0 8 0) 12 0 7 0) 12 0 7 = bI false := by simp [zi_zw, bI]
  have e8 : zi (zw (zw h 12 0 8 0) 12 0 7 0) 12 0 8 = bI false := by simp [zi_zw, bI]
  obtain ⟨g, hg⟩ : ∃ g, g = zw (zw h 12 0 8 0) 12 0 7 0 := ⟨_, rfl⟩
  rw [← hg] at s1 e7 e8 ⊢
  have sg : zSa PSM h g := s1.mono (fun k i j z => by unfold PSM; omega)
  have ag : RM g (true, now, given, wr, line, gr, false, false, snd, rcs, tx, L) := RM_ps a0 sg ⟨by rw [s1.1 12 0 3 (by omega)]; exact b1, b2, by rw [s1.1 12 0 6 (by omega)]; exact b3, e7, e8, fun z => (b6 z).kept s1 (by omega) (fun j hj => by omega), fun z => (by cases z), fun z => (by cases z)⟩
  have tg := t.kept s1 (by omega) (fun j hj => by omega)
  have lineRM : RM (zw g 12 0 5 0) (true, now, given, wr, [], gr, false, false, snd, rcs, tx, L) := RM_ps ag (zSa.rfl.w (by unfold PSM; omega)) (seM_line ag.2.2.2.2.2.2.1)
  have gP : zSa PMM h g := sg.mono PSM_PMM
  rw [tg.1]
  refine pk_le (min tx.length 602) 600 (fun z => ?_) (fun z => ?_)
  · have hx : tx.length ≤ 600 := by omega
    rw [if_neg (by omega)] at hq
    obtain ⟨c1', c2', c3', c4', c5', c6', c7', ⟨⟨P, m, rfl⟩, pw, lt⟩⟩ := ag
    have h6 := m.len
    have hPL : (P.map Prod.snd).length = P.length := List.length_map ..
    rw [hPL] at hq
    refine sp_M_spooled m ⟨fun c => ?_, fun c => ?_⟩
    · have hlt : ¬ 6 ≤ P.length := fun z => c (by rw [show P.length = 6 by omega]; rfl)
      rw [if_neg hlt] at hq
      have ss := (b8 rfl).kept s1 (by omega) (fun j h1 h2 => by omega) (fun j h1 h2 => by omega)
      refine sp_M_spool (d := d) (q := 6) (by decide) (by decide) m (by omega) ⟨tg, hx, ss.2.2.1, ss.1, ss.2.1, ss.2.2.2⟩ c2' c3' c4' hgv c7'.1 c7'.2.1 (fun e => ⟨fun _ => ?_, fun c => absurd rfl c⟩) (fun p g' w1 ew1 ew2 hp hpn sl e2 s' => ⟨fun _ => ?_, fun c => absurd rfl c⟩) (fun p g' w1 w2 ew1 ew2 hp hpn sl e2 e3 s' => ⟨fun c => absurd c (by decide), fun _ => ?_⟩)
      · rw [spoolS_n e] at hq
        have sb : zSa (fun k i j => k = 12 ∧ j = 2) g (zw g 12 0 2 (nI (given + 1))) := zSa.rfl.w (by omega)
        have spb : spM (zw g 12 0 2 (nI (given + 1))) (given + 1) (P.map Prod.snd) := (spM.more ⟨⟨P, m, rfl⟩, pw, lt⟩).kept sb (fun p hp k i j z y => by have := slP_12 z; omega)
        have r1 := RM_bd (h := zw g 12 0 2 (nI (given + 1))) (by rw [sb.1 12 0 1 (by omega)]; exact c2') c3' (by rw [zi_zw, if_pos ⟨rfl, rfl, rfl⟩]) hgv spb
        refine hq _ ?_ (ln5_PMM (bd_PMM (gP.trans (sb.mono (fun k i j z => by unfold PMM; omega)))))
        have s5 : zSa (fun k i j => k = 12 ∧ j = 5) (bdM (zw g 12 0 2 (nI (given + 1)))) (zw (bdM (zw g 12 0 2 (nI (given + 1)))) 12 0 5 0) := zSa.rfl.w (by omega)
        obtain ⟨r1, r2, r3, r4, r5, r6, ⟨q1, q2, q3, q4, q5, q6, q7, q8⟩, r8⟩ := r1
        exact ⟨by rw [s5.1 12 0 0 (by omega)]; exact r1, by rw [s5.1 12 0 1 (by omega)]; exact r2, r3, by rw [s5.1 12 0 2 (by omega)]; exact r4, r5, r6, ⟨by rw [s5.1 12 0 3 (by omega)]; exact q1, q2, by rw [s5.1 12 0 6 (by omega)]; exact q3, by rw [s5.1 12 0 7 (by omega)]; exact q4, by rw [s5.1 12 0 8 (by omega)]; exact q5, fun z => (by cases z), fun z => (by cases z), fun z => (by cases z)⟩, r8.kept s5 (fun p hp k i j z y => by have := slP_12 z; omega)⟩
      · rw [spoolS_u ew1 ew2] at hq
        have mp := m.push hp hpn s' (fun p' _ hne => slP_ne hne) sl
        have spb := spM.push pw lt rfl mp
        have r1 := RM_bd (h := g') (by rw [s'.1 12 0 1 (by unfold spF2 slP; omega)]; exact c2') c3' e2 hgv spb
        refine hq _ ?_ (ln5_PMM (bd_PMM (gP.trans (s'.mono spF2_PMM))))
        have s5 : zSa (fun k i j => k = 12 ∧ j = 5) (bdM g') (zw (bdM g') 12 0 5 0) := zSa.rfl.w (by omega)
        obtain ⟨r1, r2, r3, r4, r5, r6, ⟨q1, q2, q3, q4, q5, q6, q7, q8⟩, r8⟩ := r1
        exact ⟨by rw [s5.1 12 0 0 (by omega)]; exact r1, by rw [s5.1 12 0 1 (by omega)]; exact r2, r3, by rw [s5.1 12 0 2 (by omega)]; exact r4, r5, r6, ⟨by rw [s5.1 12 0 3 (by omega)]; exact q1, q2, by rw [s5.1 12 0 6 (by omega)]; exact q3, by rw [s5.1 12 0 7 (by omega)]; exact q4, by rw [s5.1 12 0 8 (by omega)]; exact q5, fun z => (by cases z), fun z => (by cases z), fun z => (by cases z)⟩, r8.kept s5 (fun p hp k i j z y => by have := slP_12 z; omega)⟩
      · rw [spoolS_s ew1 ew2] at hq
        have mp := m.push hp hpn s' (fun p' _ hne => slP_ne hne) sl
        have spb := spM.push pw lt rfl mp
        have seg' := seM_spF2 hp c7' s' e3 (wrN_20 (wrN_20 b2 ew1) ew2)
        have f : ∀ j, j ≠ 2 → j ≠ 3 → zi g' 12 0 j = zi g 12 0 j := fun j y1 y2 => s'.1 12 0 j (by
          rintro (⟨-, z⟩ | z)
          · omega
          · have := slP_12 z
            omega)
        have rg : RM g' (true, now, given + 1, w2, line, gr, false, false, snd, rcs, tx, P.map Prod.snd ++ [(given, true, snd, mkRc rcs now, tx)]) := ⟨by rw [f 0 (by decide) (by decide)]; exact c1', by rw [f 1 (by decide) (by decide)]; exact c2', c3', e2, hgv, fun z => (by cases z), seg', spb⟩
        exact hq _ (RM_ps rg (zSa.rfl.w (by unfold PSM; omega)) (seM_line seg')) (ln5_PMM (gP.trans (s'.mono spF2_PMM)))
    · have : P.length = 6 := by
        rw [show (6 : Int32) = nI 6 from rfl, nI_eq (by omega) (by omega)] at c
        exact c
      rw [if_pos (by omega)] at hq
      exact hq g lineRM (ln5_PMM gP)
  · rw [if_pos (by omega)] at hq
    exact hq g lineRM (ln5_PMM gP)
