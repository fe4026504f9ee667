/-! the model's tell and reply -/
theorem at_ret : ∀ j, j < 10 → ((8 : Int32) ≤ nI j → (((8250 : Int64) >>> (((8 : Int32) * (nI j - (8 : Int32))).toInt64 &&& 63)) &&& (255 : Int64)).toInt32 = (zS 10).getD j 0) ∧ (¬ (8 : Int32) ≤ nI j → (((7234309814316459346 : Int64) >>> (((8 : Int32) * nI j).toInt64 &&& 63)) &&& (255 : Int64)).toInt32 = (zS 10).getD j 0) := by decide +kernel
theorem sp_M_atR {d j : Nat} {h : ZH} {Q : Int32 → ZH → Prop} (hj : j < 10) (hq : Q ((zS 10).getD j 0) h) : EvI d m_M_at [vL (7234309814316459346 : Int64), vL (8250 : Int64), vI (nI j)] h Q := by
  obtain ⟨h1, h2⟩ := at_ret j hj
  exact e_M_at _ _ _ ⟨fun c => by rw [h1 c]; exact hq, fun c => by rw [h2 c]; exact hq⟩
theorem seg_all (xs : ZT) : seg xs 0 xs.length = xs := by
  unfold seg
  rw [Nat.sub_zero, List.drop_zero, List.take_length]
def tl7 : Nat → Nat → Nat → Prop := fun k i j => k = 13 ∧ ((i = 3 ∧ j = 7) ∨ (i = 2 ∧ 4214 ≤ j ∧ j < 4816) ∨ (i = 6 ∧ j = 7) ∨ (i = 5 ∧ (j = 35 ∨ j = 39)) ∨ (i = 4 ∧ 1400 ≤ j ∧ j < 1440))
theorem putP7 : ∀ k i j, putP 7 k i j → tl7 k i j := fun k i j z => by unfold putP at z; unfold tl7; omega
theorem cpP35 : ∀ k i j, cpP 35 k i j → tl7 k i j := fun k i j z => by unfold cpP at z; unfold tl7; omega
theorem slP_tl7 {p : Nat} (hp : p < 6) : ∀ k i j, slP p k i j → ¬ tl7 k i j := by
  intro k i j z y
  unfold tl7 at y
  rcases z with ⟨rfl, rfl, rfl⟩ | ⟨rfl, z⟩
  · omega
  · omega
theorem tl7_PMM : ∀ k i j, tl7 k i j → PMM k i j := fun k i j z => by unfold tl7 at z; unfold PMM; omega
theorem RM_tl7 {h g : ZH} {now given : Nat} {wr : Option Nat} {line : ZT} {gr bg tk : Bool} {snd : ZT} {rcs : List ZT} {tx : ZT} {L : List ZL} (a : RM h (true, now, given, wr, line, gr, bg, tk, snd, rcs, tx, L)) (s : zSa tl7 h g) : RM g (true, now, given, wr, line, gr, bg, tk, snd, rcs, tx, L) := by
  obtain ⟨a1, a2, a3, a4, a5, a6, a7, a8⟩ := a
  exact ⟨by rw [s.1 12 0 0 (by unfold tl7; omega)]; exact a1, by rw [s.1 12 0 1 (by unfold tl7; omega)]; exact a2, a3, by rw [s.1 12 0 2 (by unfold tl7; omega)]; exact a4, a5, a6, a7.kept s (fun k i j z y => by unfold tl7 at y; omega), a8.kept s (fun p hp => slP_tl7 hp)⟩
theorem sp_M_tell {d j r : Nat} {h : ZH} {P : List (Nat × ZL)} {q : Nat × ZL} {now given : Nat} {wr : Option Nat} {line : ZT} {gr bg tk : Bool} {snd : ZT} {rcs : List ZT} {tx : ZT} {Q : Int32 → ZH → Prop} (a : RM h (true, now, given, wr, line, gr, bg, tk, snd, rcs, tx, P.map Prod.snd)) (m : msp h P) (w : atJ P j r q) (hP : P.length < 6) (hgv : given + 1 < 2 ^ 29)
    (h0 : wrN wr = none → ∀ h', RM h' (dnS now (given + 1) (P.map Prod.snd)) → zSa PMM h h' → Q 0 h')
    (h1 : ∀ w1, wrN wr = some w1 → wrN w1 = none → ∀ h', RM h' (dnS now (given + 1) (P.map Prod.snd ++ [retL given now (P.map Prod.snd) j r false])) → zSa PMM h h' → Q 0 h')
    (h2 : ∀ w1 w2, wrN wr = some w1 → wrN w1 = some w2 → ∀ h' p, RM h' (true, now, given + 1, w2, line, gr, bg, tk, snd, rcs, tx, P.map Prod.snd ++ [retL given now (P.map Prod.snd) j r true]) → msp h' (P ++ [(p, retL given now (P.map Prod.snd) j r true)]) → zSa PMM h h' → Q 1 h') :
    EvI (d + 3) m_M_tell [vQ (some (12, 0)), vI (nI q.1), vI (nI r)] h Q := by
  obtain ⟨hj, eq, hr⟩ := id w
  obtain ⟨h6, sl⟩ := m.1 q w.mem
  have hr4 : q.2.2.2.2.1.length ≤ 4 := sl.2.2.2.2.2.2.1
  have pt := (sl.2.2.2.2.2.2.2 r hr).1
  have ps := sl.2.2.2.2.1
  have er : rcp (P.map Prod.snd) j r = q.2.2.2.2.1.getD r dP := by unfold rcp; rw [w.get]
  have rl : ∀ b, retL given now (P.map Prod.snd) j r b = (given, b, [], mkRc [q.2.2.2.1] now, note (q.2.2.2.2.1.getD r dP).1) := by
    intro b
    unfold retL
    rw [er, w.get]
    rfl
  obtain ⟨path, hpath⟩ : ∃ path, path = (q.2.2.2.2.1.getD r dP).1 := ⟨_, rfl⟩
  rw [← hpath] at pt rl
  have hl40 := pt.2.1
  -- the end
  have fin : ∀ g, tsIs g 7 (note path) → zSa tl7 h g → (vp_in (7 : Int32) (zLen 13 6) ∧ (vp_in (39 : Int32) (zLen 13 5) ∧ EvV (d + 2) m_M_copyPath [vQ (some (12, 0)), vI (((5 : Int32) * nI q.1) + (4 : Int32)), vI (35 : Int32)] (zw (zw g 13 6 (7 : Int32).toNatClampNeg (1 : Int32)) 13 5 (39 : Int32).toNatClampNeg (0 : Int32)) (fun g2 => EvI (d + 2) m_M_spool [vQ (some (12, 0)), vI (7 : Int32)] g2 (fun y4 g3 => (narrow .boolean (.int y4) = .int y4 ∧ Q y4 g3))))) := by
    intro g tg sg
    refine ⟨vp_in_nI (show 7 < 8 by decide) (by decide), vp_in_nI (show 39 < 40 by decide) (by decide), ?_⟩
    rw [show ((7 : Int32)).toNatClampNeg = 7 from rfl, show ((39 : Int32)).toNatClampNeg = 39 from rfl, show ((5 : Int32) * nI q.1) + (4 : Int32) = nI (5 * q.1 + 4) from nI_ma 5 q.1 4]
    have s1 : zSa tl7 h (zw (zw g 13 6 7 1) 13 5 39 0) := (sg.w (by unfold tl7; omega)).w (by unfold tl7; omega)
    have f6 : zi (zw (zw g 13 6 7 1) 13 5 39 0) 13 6 7 = 1 := by rw [zi_zw, if_neg (by omega), zi_zw, if_pos ⟨rfl, rfl, rfl⟩]
    have f5 : zi (zw (zw g 13 6 7 1) 13 5 39 0) 13 5 39 = 0 := by rw [zi_zw, if_pos ⟨rfl, rfl, rfl⟩]
    have sk : zSa (fun k i j => k = 13 ∧ (i = 6 ∨ i = 5)) g (zw (zw g 13 6 7 1) 13 5 39 0) := (zSa.rfl.w (by omega)).w (by omega)
    have t1 := tg.kept sk (by omega) (fun i hi => by omega)
    obtain ⟨g1, hg1⟩ : ∃ g1, g1 = zw (zw g 13 6 7 1) 13 5 39 0 := ⟨_, rfl⟩
    rw [← hg1] at s1 f6 f5 t1 ⊢
    refine sp_M_copyPath (a := 5 * q.1 + 4) (b := 35) (by omega) (by decide) (by omega) (fun g2 c5 c4 s2 => ?_)
    have s3 : zSa tl7 h g2 := s1.trans (s2.mono cpP35)
    have ps1 : ptIs g1 (5 * q.1 + 4) q.2.2.2.1 := ps.kept s1 (by unfold tl7; omega) (fun i hi => by unfold tl7; omega)
    have p35 : ptIs g2 35 q.2.2.2.1 := ps1.copied c5 c4
    have src : srcM g2 7 [] [q.2.2.2.1] (note path) := by
      refine ⟨t1.kept s2 (by unfold cpP; omega) (fun i hi => by unfold cpP; omega), ?_, ⟨by rw [s2.1 13 5 _ (by unfold cpP; omega)]; rw [f5]; rfl, by decide, fun i hi => absurd hi (Nat.not_lt_zero _), fun x hx => (by cases hx)⟩, by rw [s2.1 13 6 _ (by unfold cpP; omega)]; rw [f6]; rfl, by show 1 ≤ 4; omega, fun i hi => ?_⟩
      · show ([] ++ [10] ++ zS 10 ++ path ++ [10]).length ≤ 600
        rw [List.length_append, List.length_append, List.length_append]
        have : (zS 10).length = 10 := by decide +kernel
        rw [this]
        show 0 + 1 + 10 + path.length + 1 ≤ 600
        omega
      · have hi : i < 1 := hi
        have : i = 0 := by omega
        subst this
        exact p35
    have ag := RM_tl7 a s3
    have mg := m.kept s3 (fun p hp => slP_tl7 hp)
    have a0 := ag
    obtain ⟨a1, a2, a3, a4, a5, a6, a7, a8⟩ := ag
    have sP : zSa PMM h g2 := s3.mono tl7_PMM
    refine sp_M_spool (d := d) (q := 7) (by decide) (by decide) mg hP src a2 a3 a4 hgv a7.1 a7.2.1 (fun e => ⟨by decide, ?_⟩) (fun p g' w1 ew1 ew2 hp hpn sl' e2 s' => ⟨by decide, ?_⟩) (fun p g' w1 w2 ew1 ew2 hp hpn sl' e2 e3 s' => ⟨by decide, ?_⟩)
    · have sb : zSa (fun k i j => k = 12 ∧ j = 2) g2 (zw g2 12 0 2 (nI (given + 1))) := zSa.rfl.w (by omega)
      have spb : spM (zw g2 12 0 2 (nI (given + 1))) (given + 1) (P.map Prod.snd) := (spM.more a8).kept sb (fun p hp k i j z y => by have := slP_12 z; omega)
      have r1 := RM_bd (h := zw g2 12 0 2 (nI (given + 1))) (by rw [sb.1 12 0 1 (by omega)]; exact a2) a3 (by rw [zi_zw, if_pos ⟨rfl, rfl, rfl⟩]) hgv spb
      exact h0 e _ r1 (bd_PMM (sP.trans (sb.mono (fun k i j z => by unfold PMM; omega))))
    · have mp := mg.push hp hpn s' (fun p' _ hne => slP_ne hne) sl'
      have spb := spM.push a8.2.1 a8.2.2 rfl mp
      have r1 := RM_bd (h := g') (by rw [s'.1 12 0 1 (by unfold spF2 slP; omega)]; exact a2) a3 e2 hgv spb
      rw [← rl] at r1
      exact h1 w1 ew1 ew2 _ r1 (bd_PMM (sP.trans (s'.mono spF2_PMM)))
    · have mp := mg.push hp hpn s' (fun p' _ hne => slP_ne hne) sl'
      have spb := spM.push a8.2.1 a8.2.2 rfl mp
      have rg := RM_sp a0 hp s' e2 hgv e3 (wrN_20 (wrN_20 a7.2.1 ew1) ew2) spb
      rw [← rl] at rg mp
      exact h2 w1 w2 ew1 ew2 _ p rg mp (sP.trans (s'.mono spF2_PMM))
  -- the path
  have l48 : ∀ (n i : Nat) (g : ZH), i + n = path.length → tsIs g 7 ([] ++ [10] ++ zS 10 ++ seg path 0 i) → zSa (putP 7) h g → EvAt (d + 3) m_M_tell 48 [some (vQ (some (12, 0))), some (vI (nI q.1)), some (vI (nI r)), some (vI (nI i))] [] g (zQI Q) := by
    intro n
    induction n with
    | zero =>
      intro i g hi tg sg
      have : i = path.length := by omega
      subst this
      have ptg := pt.kept sg (by unfold putP; omega) (fun i hi => by unfold putP; omega)
      refine w_M_tell_48 _ _ _ ?_
      rw [show ((5 : Int32) * nI q.1) + nI r = nI (5 * q.1 + r) from nI_ma 5 q.1 r, nI_clamp (by omega), ptg.1]
      refine ⟨vp_in_nI (show 5 * q.1 + r < 40 by omega) (by decide), pk_le path.length path.length (fun _ => ?_) (fun z => (by omega))⟩
      rw [seg_all] at tg
      exact sp_M_put (q := 7) (by decide) tg ⟨10, by decide, rfl⟩ (fun g' t' s' => fin g' t' ((sg.trans s').mono putP7))
    | succ n ih =>
      intro i g hi tg sg
      have ptg := pt.kept sg (by unfold putP; omega) (fun i hi => by unfold putP; omega)
      refine w_M_tell_48 _ _ _ ?_
      rw [show ((5 : Int32) * nI q.1) + nI r = nI (5 * q.1 + r) from nI_ma 5 q.1 r, nI_clamp (by omega), ptg.1, show ((40 : Int32) * nI (5 * q.1 + r)) + nI i = nI (40 * (5 * q.1 + r) + i) from nI_ma 40 _ i, nI_clamp (by omega), ptg.2.2.1 i (by omega)]
      refine ⟨vp_in_nI (show 5 * q.1 + r < 40 by omega) (by decide), pk_le path.length i (fun z => absurd z (by omega)) (fun _ => ⟨vp_in_nI (show 40 * (5 * q.1 + r) + i < 1600 by omega) (by decide), ?_⟩)⟩
      refine sp_M_put (q := 7) (by decide) tg (ptg.2.2.2 _ (zgetD_mem (by omega))) (fun g' t' s' => ?_)
      rw [nI_inc]
      refine ih (i + 1) g' (by omega) ?_ (sg.trans s')
      rw [seg_snoc (Nat.zero_le _) (by omega), ← List.append_assoc]
      exact t'
  -- the word
  have l18 : ∀ (n i : Nat) (g : ZH), i + n = 10 → tsIs g 7 ([] ++ [10] ++ seg (zS 10) 0 i) → zSa (putP 7) h g → EvAt (d + 3) m_M_tell 18 [some (vQ (some (12, 0))), some (vI (nI q.1)), some (vI (nI r)), some (vI (nI i))] [] g (zQI Q) := by
    have z10 : (zS 10).length = 10 := by decide +kernel
    intro n
    induction n with
    | zero =>
      intro i g hi tg sg
      have : i = 10 := by omega
      subst this
      refine w_M_tell_18 _ _ _ (pk_le 10 10 (fun _ => ?_) (fun z => by omega))
      have e10 : seg (zS 10) 0 10 = zS 10 := by
        have := seg_all (zS 10)
        rw [z10] at this
        exact this
      rw [e10] at tg
      exact l48 path.length 0 g (Nat.zero_add _) (by rw [seg_nil (Nat.le_refl _), List.append_nil]; exact tg) sg
    | succ n ih =>
      intro i g hi tg sg
      refine w_M_tell_18 _ _ _ (pk_le 10 i (fun z => by omega) (fun _ => ?_))
      refine sp_M_atR (by omega) (sp_M_put (q := 7) (by decide) tg (zS_ch 10 (by decide) _ (zgetD_mem (by omega))) (fun g' t' s' => ?_))
      rw [nI_inc]
      refine ih (i + 1) g' (by omega) ?_ (sg.trans s')
      rw [seg_snoc (Nat.zero_le _) (by omega), ← List.append_assoc]
      exact t'
  refine e_M_tell _ _ ⟨vp_in_nI (show 7 < 8 by decide) (by decide), ?_⟩
  rw [show ((7 : Int32)).toNatClampNeg = 7 from rfl]
  have s0 : zSa (putP 7) h (zw h 13 3 7 0) := zSa.rfl.w (by unfold putP; omega)
  have t0 : tsIs (zw h 13 3 7 0) 7 [] := ⟨by rw [zi_zw, if_pos ⟨rfl, rfl, rfl⟩]; rfl, fun i hi => absurd hi (Nat.not_lt_zero _), fun x hx => (by cases hx)⟩
  refine sp_M_put (q := 7) (by decide) t0 ⟨10, by decide, rfl⟩ (fun g' t' s' => ?_)
  exact l18 10 0 g' rfl (by rw [seg_nil (Nat.le_refl _), List.append_nil]; exact t') (s0.trans s')
