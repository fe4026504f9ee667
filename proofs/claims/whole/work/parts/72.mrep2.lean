theorem sp_M_replyU {d : Nat} {x : Int32} {h : ZH} {P : List (Nat × ZL)} {p : Nat × Nat} {q : Nat × ZL} {now given : Nat} {wr : Option Nat} {line : ZT} {gr bg tk : Bool} {snd : ZT} {rcs : List ZT} {tx : ZT} {Q : Int32 → ZH → Prop} (a : RM h (true, now, given, wr, line, gr, bg, tk, snd, rcs, tx, P.map Prod.snd)) (m : msp h P) (w : atJ P p.1 p.2 q) (hw : (rcp (P.map Prod.snd) p.1 p.2).2.1 < 4) (hgv : given + 1 < 2 ^ 29)
    (hx : ¬ ((300 : Int32) ≤ x ∧ x < (400 : Int32)))
    (hq : ∀ h', RM h' (rplU x now given wr line gr bg tk snd rcs tx (P.map Prod.snd) p).2 → zSa PMM h h' → Q (rplU x now given wr line gr bg tk snd rcs tx (P.map Prod.snd) p).1 h') :
    EvAt (d + 4) m_M_reply 50 [some (vQ (some (12, 0))), some (vI x), some (vI (nI (4 * q.1 + p.2))), none] [] h (zQI Q) := by
  obtain ⟨hj, eq, hr⟩ := id w
  obtain ⟨h6, sl⟩ := m.1 q w.mem
  have hr4 : q.2.2.2.2.1.length ≤ 4 := sl.2.2.2.2.2.2.1
  obtain ⟨-, t1, t2, t3, t4⟩ := sl.2.2.2.2.2.2.2 p.2 hr
  have ps := sl.2.2.2.2.1
  have er : rcp (P.map Prod.snd) p.1 p.2 = q.2.2.2.2.1.getD p.2 dP := by unfold rcp; rw [w.get]
  have ed : nI (4 * q.1 + p.2) / (4 : Int32) = nI q.1 := by
    have := pk_div (a := 4 * q.1 + p.2) (d := 4) (by omega) (by omega) (by omega)
    rw [show (4 * q.1 + p.2) / 4 = q.1 by omega] at this
    exact this
  have em : nI (4 * q.1 + p.2) - nI (4 * q.1 + p.2) / (4 : Int32) * (4 : Int32) = nI p.2 := by
    have := pk_rem (a := 4 * q.1 + p.2) (d := 4) (by omega) (by omega) (by omega)
    rw [show (4 * q.1 + p.2) % 4 = p.2 by omega] at this
    exact this
  unfold rplU at hq
  rw [er] at hw hq
  have k122 : ¬ (¬ x < 300 ∧ x < 500 ∧ (q.2.2.2.2.1.getD p.2 dP).2.1 < 3) → EvAt (d + 4) m_M_reply 122 [some (vQ (some (12, 0))), some (vI x), some (vI (nI (4 * q.1 + p.2))), some (vI (nI q.1))] [] h (zQI Q) := by
    intro z
    refine w_M_reply_122 _ _ _ ⟨fun c => ?_, fun c => ?_⟩
    · rw [if_pos c] at hq
      exact reply_164 a m w (Or.inl ⟨rfl, Int32.not_le.mpr c⟩) hq
    · rw [if_neg c, if_neg (fun y => z ⟨c, y⟩)] at hq
      have c3 := Int32.not_lt.mp c
      unfold gbkS at hq
      rw [w.get, List.length_map] at hq
      rw [show ((5 : Int32) * nI q.1) + (4 : Int32) = nI (5 * q.1 + 4) from nI_ma 5 q.1 4, nI_clamp (by omega), ps.1]
      have h40 := ps.2.1
      refine ⟨vp_in_nI (show 5 * q.1 + 4 < 40 by omega) (by decide), pk_le q.2.2.2.1.length 0 (fun c4 => ?_) (fun c4 => ?_)⟩
      · rw [if_neg (by omega)] at hq
        exact reply_164 a m w (Or.inr ⟨rfl, c3⟩) hq
      · have hP6 := m.len
        refine sp_M_spooled m (pk_le 6 P.length (fun c5 => ?_) (fun c5 => ?_))
        · rw [if_neg (by omega)] at hq
          exact reply_164 a m w (Or.inr ⟨rfl, c3⟩) hq
        · rw [if_pos ⟨by omega, by omega⟩] at hq
          rw [em]
          refine sp_M_tell (d := d) a m w (by omega) hgv (fun e h' r' s' => ⟨fun c => absurd rfl c, fun _ => ?_⟩) (fun w1 e1 e2 h' r' s' => ⟨fun c => absurd rfl c, fun _ => ?_⟩) (fun w1 w2 e1 e2 h' p' r' m' s' => ⟨fun _ => ?_, fun c => absurd c (by decide)⟩)
          · rw [telS_n e] at hq
            exact hq h' r' s'
          · rw [telS_u e1 e2] at hq
            exact hq h' r' s'
          · rw [telS_s e1 e2] at hq
            have e9 : P.map Prod.snd ++ [retL given now (P.map Prod.snd) p.1 p.2 true] = (P ++ [(p', retL given now (P.map Prod.snd) p.1 p.2 true)]).map Prod.snd := by rw [List.map_append]; rfl
            rw [e9] at hq r'
            exact reply_164 r' m' w.more (Or.inr ⟨rfl, c3⟩) (fun h'' r'' s'' => hq h'' r'' (s'.trans s''))
  refine w_M_reply_50 _ _ ?_
  rw [ed, nI_clamp (by omega), t1]
  refine ⟨fun c => k122 (fun z => hx ⟨Int32.not_lt.mp z.1, c⟩), fun c => ⟨fun c2 => k122 (fun z => absurd z.2.1 (Int32.not_lt.mpr c2)), fun c2 => ⟨vp_in_nI (show 4 * q.1 + p.2 < 24 by omega) (by decide), pk_le 3 (q.2.2.2.2.1.getD p.2 dP).2.1 (fun c3 => k122 (fun z => by omega)) (fun c3 => ?_)⟩⟩⟩
  have n300 : ¬ x < 300 := fun z => c (Int32.lt_trans z (by decide))
  rw [if_neg n300, if_pos ⟨Int32.not_le.mp c2, by omega⟩] at hq
  have b1 := a.2.2.2.2.2.2.1.1
  have b2 := a.2.2.2.2.2.2.1.2.1
  refine sp_M_write b1 (fun n e => by have := b2 n e; omega) (fun e => ⟨fun _ => ?_, fun c => absurd rfl c⟩) (fun w1 ew => ⟨fun c => absurd c (by decide), fun _ => ?_⟩)
  · rw [pstS_n e] at hq
    exact hq _ (RM_bd a.2.1 a.2.2.1 a.2.2.2.1 a.2.2.2.2.1 a.2.2.2.2.2.2.2) (bd_PMM zSa.rfl)
  · rw [pstS_s ew, er] at hq
    have i7 : vp_in (nI (4 * q.1 + p.2)) (zLen 13 7) := vp_in_nI (show 4 * q.1 + p.2 < 24 by omega) (by decide)
    have i8 : vp_in (nI (4 * q.1 + p.2)) (zLen 13 8) := vp_in_nI (show 4 * q.1 + p.2 < 24 by omega) (by decide)
    refine ⟨i7, i7, i7, i8, ?_⟩
    have f1 : zi (zw h 12 0 3 (wrE w1)) 13 7 (4 * q.1 + p.2) = nI (q.2.2.2.2.1.getD p.2 dP).2.1 := by rw [zi_zw, if_neg (by omega)]; exact t1
    rw [f1, show nI (q.2.2.2.2.1.getD p.2 dP).2.1 + (1 : Int32) = nI ((q.2.2.2.2.1.getD p.2 dP).2.1 + 1) from nI_inc _]
    have f2 : zi (zw (zw h 12 0 3 (wrE w1)) 13 7 (4 * q.1 + p.2) (nI ((q.2.2.2.2.1.getD p.2 dP).2.1 + 1))) 13 7 (4 * q.1 + p.2) = nI ((q.2.2.2.2.1.getD p.2 dP).2.1 + 1) := by rw [zi_zw, if_pos ⟨rfl, rfl, rfl⟩]
    have f3 : zi (zw (zw h 12 0 3 (wrE w1)) 13 7 (4 * q.1 + p.2) (nI ((q.2.2.2.2.1.getD p.2 dP).2.1 + 1))) 12 0 1 = nI now := by rw [zi_zw, if_neg (by omega), zi_zw, if_neg (by omega)]; exact a.2.1
    rw [f2, f3, shl4 (by omega), nI_add]
    have p4 := pow4 (f := (q.2.2.2.2.1.getD p.2 dP).2.1) (by omega)
    obtain ⟨y, hy⟩ : ∃ y : ZP, y = ((q.2.2.2.2.1.getD p.2 dP).1, (q.2.2.2.2.1.getD p.2 dP).2.1 + 1, now + 4 ^ ((q.2.2.2.2.1.getD p.2 dP).2.1 + 1)) := ⟨_, rfl⟩
    rw [← hy] at hq
    have y1 : (q.2.2.2.2.1.getD p.2 dP).2.1 + 1 = y.2.1 := by rw [hy]
    have y2 : now + 4 ^ ((q.2.2.2.2.1.getD p.2 dP).2.1 + 1) = y.2.2 := by rw [hy]
    have hn := a.2.2.1
    have s : zSa (fcP q.1 p.2) h (zw (zw (zw h 12 0 3 (wrE w1)) 13 7 (4 * q.1 + p.2) (nI ((q.2.2.2.2.1.getD p.2 dP).2.1 + 1))) 13 8 (4 * q.1 + p.2) (nI (now + 4 ^ ((q.2.2.2.2.1.getD p.2 dP).2.1 + 1)))) := ((zSa.rfl.w (by unfold fcP; omega)).w (by unfold fcP; omega)).w (by unfold fcP; omega)
    refine hq _ (RM_fate (x := y) a m w (by rw [hy]) s ?_ (wrN_20 b2 ew) ?_ ?_ (by omega) (by omega)).1 (s.mono fcP_PMM)
    · rw [zi_zw, if_neg (by omega), zi_zw, if_neg (by omega), zi_zw, if_pos ⟨rfl, rfl, rfl⟩]
    · rw [zi_zw, if_neg (by omega), zi_zw, if_pos ⟨rfl, rfl, rfl⟩, y1]
    · rw [zi_zw, if_pos ⟨rfl, rfl, rfl⟩, y2]
theorem sp_M_reply {d : Nat} {x : Int32} {h : ZH} {up : Bool} {now given : Nat} {wr : Option Nat} {line : ZT} {gr bg tk : Bool} {snd : ZT} {rcs : List ZT} {tx : ZT} {L : List ZL} {Q : Int32 → ZH → Prop} (a : RM h (up, now, given, wr, line, gr, bg, tk, snd, rcs, tx, L)) (hgv : given + 1 < 2 ^ 29)
    (hq : ∀ h', RM h' (rplS x up now given wr line gr bg tk snd rcs tx L).2 → zSa PMM h h' → Q (rplS x up now given wr line gr bg tk snd rcs tx L).1 h') : EvI (d + 4) m_M_reply [vQ (some (12, 0)), vI x] h Q := by
  have a0 := a
  obtain ⟨a1, a2, a3, a4, a5, a6, a7, ⟨⟨P, m, rfl⟩, pw, lt⟩⟩ := a
  unfold rplS at hq
  refine e_M_reply x ?_
  rw [a1]
  refine ⟨fun c => ?_, fun c => ?_⟩
  · have hup := (bI_0 _).mp c
    rw [if_neg (fun z => by rw [hup] at z; exact absurd z.1 (by decide))] at hq
    exact w_M_reply_15 _ _ ⟨fun _ => hq h a0 zSa.rfl, fun z => absurd (by decide) z⟩
  · have hup := bI_t c
    subst hup
    refine sp_M_nextOne (d := d + 2) m pw a2 a3 (fun e => ?_) (fun p q e hqP e2 hr hs => ?_)
    · rw [e] at hq
      refine w_M_reply_15 _ _ ⟨fun _ => ?_, fun z => absurd (by decide) z⟩
      by_cases hc : rcode x = true
      · rw [if_pos ⟨rfl, hc⟩] at hq
        exact hq h a0 zSa.rfl
      · rw [if_neg (fun z => hc z.2)] at hq
        exact hq h a0 zSa.rfl
    · rw [e] at hq
      have hi := ((hnI_0 (P.map Prod.snd) now).2 p e).1
      have hj : p.1 < P.length := by have := hi.1; rw [List.length_map] at this; exact this
      have w : atJ P p.1 p.2 q := by
        refine ⟨hj, pw_uniqP pw (List.getElem_mem hj) hqP ?_, hr⟩
        rw [e2, gDE hi.1, List.getElem_map]
      have hw : (rcp (P.map Prod.snd) p.1 p.2).2.1 < 4 := (cand_iff.mp hi.2.2.2).1
      have h6 := (m.1 q hqP).1
      have hr4 : q.2.2.2.2.1.length ≤ 4 := (m.1 q hqP).2.2.2.2.2.2.2.1
      have no : rcode x = false → Q (-1) h := by
        intro z
        rw [if_neg (fun y => by rw [z] at y; exact absurd y.2 (by decide))] at hq
        exact hq h a0 zSa.rfl
      have yes : rcode x = true → EvAt (d + 4) m_M_reply 50 [some (vQ (some (12, 0))), some (vI x), some (vI (nI (4 * q.1 + p.2))), none] [] h (zQI Q) := by
        intro z
        rw [if_pos ⟨rfl, z⟩] at hq
        refine sp_M_replyU a0 m w hw hgv ?_ hq
        rintro ⟨y1, y2⟩
        unfold rcode at z
        rw [decide_eq_false (show ¬ x ≤ 299 from fun y3 => absurd (Int32.le_trans y1 y3) (by decide)), decide_eq_true y2, Bool.and_false] at z
        cases z
      refine w_M_reply_15 _ _ ⟨fun z => absurd z (nI_pos (by omega)), fun _ => ⟨fun c1 => no ?_, fun c1 => ⟨fun c2 => no ?_, fun c2 => ⟨fun c3 => yes ?_, fun c3 => ⟨fun c4 => yes ?_, fun c4 => no ?_⟩⟩⟩⟩⟩
      · unfold rcode
        rw [decide_eq_true c1, decide_eq_true (Int32.lt_trans c1 (show (200 : Int32) < 400 by decide))]
        rfl
      · unfold rcode
        rw [decide_eq_true c2, decide_eq_false (show ¬ x ≤ 299 from fun y => absurd (Int32.lt_of_lt_of_le c2 y) (by decide)), Bool.and_false, Bool.not_true, Bool.and_false]
        rfl
      · unfold rcode
        rw [decide_eq_false c1, decide_eq_true c3]
        rfl
      · unfold rcode
        rw [decide_eq_false (Int32.not_lt.mpr c4), decide_eq_false c2, Bool.not_false, Bool.and_true, Bool.or_true]
      · unfold rcode
        rw [decide_eq_false c3, decide_eq_true (Int32.not_le.mp c4), Bool.and_false]
        rfl
