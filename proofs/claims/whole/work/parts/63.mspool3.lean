theorem slP_14 {p : Nat} : slP p 14 0 p := Or.inl ⟨rfl, rfl, rfl⟩
theorem slP_1 {p : Nat} : slP p 13 1 p := Or.inr ⟨rfl, Or.inl ⟨rfl, rfl⟩⟩
theorem slP_3 {p : Nat} : slP p 13 3 p := Or.inr ⟨rfl, Or.inr (Or.inl ⟨rfl, rfl⟩)⟩
theorem slP_6 {p : Nat} : slP p 13 6 p := Or.inr ⟨rfl, Or.inr (Or.inr (Or.inl ⟨rfl, rfl⟩))⟩
theorem slP_2 {p j : Nat} (h : 602 * p ≤ j ∧ j < 602 * p + 602) : slP p 13 2 j := Or.inr ⟨rfl, Or.inr (Or.inr (Or.inr (Or.inl ⟨rfl, h⟩)))⟩
theorem slP_5 {p j : Nat} (h : 5 * p ≤ j ∧ j < 5 * p + 5) : slP p 13 5 j := Or.inr ⟨rfl, Or.inr (Or.inr (Or.inr (Or.inr (Or.inl ⟨rfl, h⟩))))⟩
theorem slP_4 {p j : Nat} (h : 200 * p ≤ j ∧ j < 200 * p + 200) : slP p 13 4 j := Or.inr ⟨rfl, Or.inr (Or.inr (Or.inr (Or.inr (Or.inr (Or.inl ⟨rfl, h⟩)))))⟩
theorem slP_78 {p i j : Nat} (hi : i = 7 ∨ i = 8) (h : 4 * p ≤ j ∧ j < 4 * p + 4) : slP p 13 i j := Or.inr ⟨rfl, Or.inr (Or.inr (Or.inr (Or.inr (Or.inr (Or.inr ⟨hi, h⟩)))))⟩
/-- g holds at p what h holds at q -/
def cop (h : ZH) (q p given : Nat) (g : ZH) : Prop := zi g 13 1 p = nI given ∧ zi g 13 3 p = zi h 13 3 q ∧ (∀ j, j < 600 → zi g 13 2 (602 * p + j) = zi h 13 2 (602 * q + j)) ∧ (∀ r, r < 5 → zi g 13 5 (5 * p + r) = zi h 13 5 (5 * q + r) ∧ ∀ i, i < 40 → zi g 13 4 (40 * (5 * p + r) + i) = zi h 13 4 (40 * (5 * q + r) + i)) ∧ zi g 13 6 p = zi h 13 6 q
theorem cop.kept {C : Nat → Nat → Nat → Prop} {h g g' : ZH} {q p given : Nat} (a : cop h q p given g) (s : zSa C g g') (hC : ∀ i j, i < 7 → ¬ C 13 i j) : cop h q p given g' := by
  obtain ⟨a1, a2, a3, a4, a5⟩ := a
  have f : ∀ i j, i < 7 → zi g' 13 i j = zi g 13 i j := fun i j hi => s.1 13 i j (hC i j hi)
  exact ⟨by rw [f 1 _ (by decide)]; exact a1, by rw [f 3 _ (by decide)]; exact a2, fun j hj => by rw [f 2 _ (by decide)]; exact a3 j hj, fun r hr => ⟨by rw [f 5 _ (by decide)]; exact (a4 r hr).1, fun i hi => by rw [f 4 _ (by decide)]; exact (a4 r hr).2 i hi⟩, by rw [f 6 _ (by decide)]; exact a5⟩
theorem cop.sl {h g : ZH} {q p now given : Nat} {b : Bool} {snd : ZT} {rcs : List ZT} {tx : ZT} (a : cop h q p given g) (src : srcM h q snd rcs tx) (hn : now < 2 ^ 29) (hg : given < 2 ^ 29) (eb : zi g 14 0 p = bI b) (ef : ∀ r, r < 4 → zi g 13 7 (4 * p + r) = 0 ∧ zi g 13 8 (4 * p + r) = nI now) : slIs g p (given, b, snd, mkRc rcs now, tx) := by
  obtain ⟨a1, a2, a3, a4, a5⟩ := a
  obtain ⟨t1, t2, t3, t4, t5, t6⟩ := src
  have hml : (mkRc rcs now).length = rcs.length := by unfold mkRc; rw [List.length_map]
  refine ⟨a1, hg, eb, ⟨⟨by rw [a2]; exact t1.1, fun i hi hj => ?_, t1.2.2⟩, t2⟩, t3.copied (a4 4 (by decide)).1 (a4 4 (by decide)).2, ?_, ?_, fun r hr => ?_⟩
  · rw [a3 i (by have : i < tx.length := hi; omega)]
    exact t1.2.1 i hi hj
  · show _ = nI (mkRc rcs now).length
    rw [hml, a5]
    exact t4
  · show (mkRc rcs now).length ≤ 4
    rw [hml]
    exact t5
  · have hr : r < (mkRc rcs now).length := hr
    rw [hml] at hr
    show rpIs g p r ((mkRc rcs now).getD r dP)
    rw [mkRc_getD hr]
    refine ⟨(t6 r hr).copied (a4 r (by omega)).1 (a4 r (by omega)).2, ?_, by show 0 < 2 ^ 30; decide, ?_, by show now < 2 ^ 30; omega⟩
    · rw [(ef r (by omega)).1]; exact nI_0.symm
    · rw [(ef r (by omega)).2]
/-- the recipients' fates, and the seal -/
theorem spool_157 {d p q : Nat} {h h6 : ZH} {now given : Nat} {w1 : Option Nat} {snd : ZT} {rcs : List ZT} {tx : ZT} {Q : Int32 → ZH → Prop} (hp : p < 6) (src : srcM h q snd rcs tx) (c6 : cop h q p given h6) (hn : now < 2 ^ 29) (hg : given < 2 ^ 29) (e1 : zi h6 12 0 1 = nI now) (e3 : zi h6 12 0 3 = wrE w1) (hb : ∀ n, w1 = some n → n ≤ 20) (b6 : zi h6 14 0 p = 0)
    (h1 : ∀ g, wrN w1 = none → slIs g p (given, false, snd, mkRc rcs now, tx) → zSa (fun k i j => k = 13 ∧ (i = 7 ∨ i = 8) ∧ 4 * p ≤ j ∧ j < 4 * p + 4) h6 g → Q 0 (bdM g))
    (h2 : ∀ g w2, wrN w1 = some w2 → slIs g p (given, true, snd, mkRc rcs now, tx) → zi g 12 0 3 = wrE w2 → zSa (fun k i j => (k = 12 ∧ j = 3) ∨ (k = 14 ∧ i = 0 ∧ j = p) ∨ (k = 13 ∧ (i = 7 ∨ i = 8) ∧ 4 * p ≤ j ∧ j < 4 * p + 4)) h6 g → Q 1 g) :
    ∀ (n i : Nat) (g : ZH), i + n = 4 → (∀ r, r < i → zi g 13 7 (4 * p + r) = 0 ∧ zi g 13 8 (4 * p + r) = nI now) → zSa (fun k i j => k = 13 ∧ (i = 7 ∨ i = 8) ∧ 4 * p ≤ j ∧ j < 4 * p + 4) h6 g → EvAt (d + 2) m_M_spool 157 [some (vQ (some (12, 0))), none, none, some (vI (nI p)), some (vI (nI i))] [] g (zQI Q) := by
  intro n
  induction n with
  | zero =>
    intro i g hi e s
    have : i = 4 := by omega
    subst this
    refine w_M_spool_157 _ _ (pk_le 4 4 (fun _ => ?_) (fun z => by omega))
    rw [nI_clamp (by omega)]
    have ip : vp_in (nI p) (zLen 14 0) := vp_in_nI (show p < 6 by omega) (by decide)
    have c7 : cop h q p given g := c6.kept s (fun i j hi z => by omega)
    have bg : zi g 14 0 p = 0 := by rw [s.1 14 0 p (by omega)]; exact b6
    refine sp_M_write (d := d) (w := w1) (by rw [s.1 12 0 3 (by omega)]; exact e3) (fun n e => by have := hb n e; omega) (fun ew2 => ?_) (fun w2 ew2 => ?_)
    · have hv : vp_nar .boolean (0 : Int32) = 0 := by decide
      have b0 : zi (bdM g) 14 0 p = 0 := by rw [(bdM_sa g).1 14 0 p (by omega), bg]
      rw [hv, zw_id (bdM g) 14 0 p b0, b0]
      exact ⟨ip, ip, by decide, h1 g ew2 (c7.sl src hn hg (by rw [bg]; rfl) e) s⟩
    · have hv : vp_nar .boolean (1 : Int32) = 1 := by decide
      rw [hv, zi_zw, if_pos ⟨rfl, rfl, rfl⟩]
      have s' : zSa (fun k i j => (k = 12 ∧ j = 3) ∨ (k = 14 ∧ i = 0 ∧ j = p)) g (zw (zw g 12 0 3 (wrE w2)) 14 0 p 1) := (zSa.rfl.w (by omega)).w (by omega)
      refine ⟨ip, ip, by decide, h2 _ w2 ew2 ((c7.kept s' (fun i j hi z => by omega)).sl src hn hg (by simp [zi_zw, bI]) (fun r hr => ?_)) (by simp [zi_zw]) ((s.mono (fun k i j z => by omega)).trans (s'.mono (fun k i j z => by omega)))⟩
      rw [s'.1 13 7 _ (by omega), s'.1 13 8 _ (by omega)]
      exact e r hr
  | succ n ih =>
    intro i g hi e s
    refine w_M_spool_157 _ _ (pk_le 4 i (fun z => by omega) (fun _ => ?_))
    rw [show (4 : Int32) * nI p + nI i = nI (4 * p + i) from nI_ma 4 p i, nI_clamp (by omega), nI_inc]
    have nw : zi (zw g 13 7 (4 * p + i) 0) 12 0 1 = nI now := by
      rw [zi_zw, if_neg (by omega), s.1 12 0 1 (by omega)]; exact e1
    rw [nw]
    refine ⟨vp_in_nI (show 4 * p + i < 24 by omega) (by decide), vp_in_nI (show 4 * p + i < 24 by omega) (by decide), ih (i + 1) _ (by omega) (fun r hr => ?_) ((s.w (by omega)).w (by omega))⟩
    by_cases e2 : r = i
    · subst e2
      refine ⟨?_, by rw [zi_zw, if_pos ⟨rfl, rfl, rfl⟩]⟩
      rw [zi_zw, if_neg (by omega), zi_zw, if_pos ⟨rfl, rfl, rfl⟩]
    · obtain ⟨f1, f2⟩ := e r (by omega)
      refine ⟨?_, ?_⟩
      · rw [zi_zw, if_neg (by omega), zi_zw, if_neg (by omega)]; exact f1
      · rw [zi_zw, if_neg (by omega), zi_zw, if_neg (by omega)]; exact f2
/-- from the free place p on -/
theorem spool_fin {d p q : Nat} {h h3 : ZH} {now given : Nat} {w1 : Option Nat} {snd : ZT} {rcs : List ZT} {tx : ZT} {Q : Int32 → ZH → Prop} (hp : p < 6) (hq6 : 6 ≤ q) (hq8 : q < 8) (src : srcM h q snd rcs tx) (e1 : zi h 12 0 1 = nI now) (hn : now < 2 ^ 29) (hg : given + 1 < 2 ^ 29) (s0 : zSa (fun k i j => k = 12 ∧ (j = 2 ∨ j = 3)) h h3) (g2 : zi h3 12 0 2 = nI (given + 1)) (g3 : zi h3 12 0 3 = wrE w1) (hb : ∀ n, w1 = some n → n ≤ 20)
    (h1 : ∀ g, wrN w1 = none → slIs g p (given, false, snd, mkRc rcs now, tx) → zi g 12 0 2 = nI (given + 1) → zSa (spF2 p) h g → Q 0 (bdM g))
    (h2 : ∀ g w2, wrN w1 = some w2 → slIs g p (given, true, snd, mkRc rcs now, tx) → zi g 12 0 2 = nI (given + 1) → zi g 12 0 3 = wrE w2 → zSa (spF2 p) h g → Q 1 g) :
    EvAt (d + 2) m_M_spool 71 [some (vQ (some (12, 0))), some (vI (nI q)), none, some (vI (nI p)), some (vI (0 : Int32))] [] (zw (zw (zw h3 13 1 p (nI given)) 14 0 p (vp_nar .boolean (0 : Int32))) 13 3 p (zi (zw (zw h3 13 1 p (nI given)) 14 0 p (vp_nar .boolean (0 : Int32))) 13 3 q)) (zQI Q) := by
  obtain ⟨h4, hh4⟩ : ∃ h4, h4 = zw (zw (zw h3 13 1 p (nI given)) 14 0 p (vp_nar .boolean (0 : Int32))) 13 3 p (zi (zw (zw h3 13 1 p (nI given)) 14 0 p (vp_nar .boolean (0 : Int32))) 13 3 q) := ⟨_, rfl⟩
  have s4 : zSa (fun k i j => (k = 12 ∧ (j = 2 ∨ j = 3)) ∨ (k = 13 ∧ (i = 1 ∨ i = 3) ∧ j = p) ∨ (k = 14 ∧ i = 0 ∧ j = p)) h h4 := by
    rw [hh4]
    exact (((s0.mono (fun k i j z => by omega)).w (by omega)).w (by omega)).w (by omega)
  have n4 : zi h4 13 1 p = nI given := by rw [hh4]; simp [zi_zw]
  have b4 : zi h4 14 0 p = 0 := by rw [hh4]; simp [zi_zw]; decide
  have t4 : zi h4 13 3 p = zi h 13 3 q := by
    rw [hh4, zi_zw, if_pos ⟨rfl, rfl, rfl⟩, zi_zw, if_neg (by omega), zi_zw, if_neg (by omega)]
    exact s0.1 13 3 q (by omega)
  have c4 : zi h4 12 0 2 = nI (given + 1) ∧ zi h4 12 0 3 = wrE w1 := by
    rw [hh4]
    simp [zi_zw, g2, g3]
  rw [← hh4]
  refine spool_71 (h := h4) (d := d + 1) hp hq6 hq8 (fun g5 x5 s5 m5 => ?_) 600 0 h4 rfl (fun j hj => by omega) zSa.rfl
  refine spool_126 (h := g5) (d := d + 1) hp hq6 hq8 (fun g6 x6 s6 => ?_) 5 0 g5 rfl (fun j hj => by omega) zSa.rfl
  have f6 : ∀ k i j, ¬ (k = 13 ∧ (i = 2 ∨ i = 4 ∨ i = 5 ∨ i = 6)) → zi g6 k i j = zi h4 k i j := fun k i j z => (s6.1 k i j (by omega)).trans (s5.1 k i j (by omega))
  have c6 : cop h q p given g6 := by
    refine ⟨by rw [f6 13 1 p (by omega)]; exact n4, by rw [f6 13 3 p (by omega)]; exact t4, fun j hj => ?_, fun r hr => ⟨?_, fun i hi => ?_⟩, ?_⟩
    · rw [s6.1 13 2 _ (by omega), x5 j hj, s4.1 13 2 _ (by omega)]
    · rw [(x6 r hr).1, s5.1 13 5 _ (by omega), s4.1 13 5 _ (by omega)]
    · rw [(x6 r hr).2 i hi, s5.1 13 4 _ (by omega), s4.1 13 4 _ (by omega)]
    · rw [s6.1 13 6 _ (by omega), m5, s4.1 13 6 _ (by omega)]
  have m4 : zSa (spF2 p) h h4 := s4.mono (fun k i j z => by
    rcases z with ⟨rfl, z⟩ | ⟨rfl, rfl | rfl, rfl⟩ | ⟨rfl, rfl, rfl⟩
    · exact Or.inl ⟨rfl, z⟩
    · exact Or.inr slP_1
    · exact Or.inr slP_3
    · exact Or.inr slP_14)
  have m5' : zSa (spF2 p) h4 g5 := s5.mono (fun k i j z => by
    rcases z with ⟨rfl, ⟨rfl, z⟩ | ⟨rfl, rfl⟩⟩
    · exact Or.inr (slP_2 z)
    · exact Or.inr slP_6)
  have m6 : zSa (spF2 p) g5 g6 := s6.mono (fun k i j z => by
    rcases z with ⟨rfl, ⟨rfl, z⟩ | ⟨rfl, z⟩⟩
    · exact Or.inr (slP_5 z)
    · exact Or.inr (slP_4 z))
  have m7 : zSa (spF2 p) h g6 := (m4.trans m5').trans m6
  refine spool_157 (d := d) (h := h) (h6 := g6) hp src c6 hn (by omega) (by rw [f6 12 0 1 (by omega), s4.1 12 0 1 (by omega)]; exact e1) (by rw [f6 12 0 3 (by omega)]; exact c4.2) hb (by rw [f6 14 0 p (by omega)]; exact b4) (fun g ew sl s => ?_) (fun g w2 ew sl ewr s => ?_) 4 0 g6 rfl (fun r hr => by omega) zSa.rfl
  · refine h1 g ew sl (by rw [s.1 12 0 2 (by omega), f6 12 0 2 (by omega)]; exact c4.1) (m7.trans (s.mono (fun k i j z => by
      rcases z with ⟨rfl, z, z2⟩
      exact Or.inr (slP_78 z z2))))
  · refine h2 g w2 ew sl (by rw [s.1 12 0 2 (by omega), f6 12 0 2 (by omega)]; exact c4.1) ewr (m7.trans (s.mono (fun k i j z => by
      rcases z with ⟨rfl, z⟩ | ⟨rfl, rfl, rfl⟩ | ⟨rfl, z, z2⟩
      · exact Or.inl ⟨rfl, Or.inr z⟩
      · exact Or.inr slP_14
      · exact Or.inr (slP_78 z z2))))
theorem sp_M_spool {d q : Nat} {h : ZH} {P : List (Nat × ZL)} {now given : Nat} {wr : Option Nat} {snd : ZT} {rcs : List ZT} {tx : ZT} {Q : Int32 → ZH → Prop} (hq6 : 6 ≤ q) (hq8 : q < 8) (a : msp h P) (hP : P.length < 6) (src : srcM h q snd rcs tx) (e1 : zi h 12 0 1 = nI now) (hn : now < 2 ^ 29) (e2 : zi h 12 0 2 = nI given) (hg : given + 1 < 2 ^ 29) (e3 : zi h 12 0 3 = wrE wr) (hb : ∀ n, wr = some n → n ≤ 20)
    (h0 : wrN wr = none → Q 0 (bdM (zw h 12 0 2 (nI (given + 1)))))
    (h1 : ∀ p g w1, wrN wr = some w1 → wrN w1 = none → p < 6 → p ∉ P.map Prod.fst → slIs g p (given, false, snd, mkRc rcs now, tx) → zi g 12 0 2 = nI (given + 1) → zSa (spF2 p) h g → Q 0 (bdM g))
    (h2 : ∀ p g w1 w2, wrN wr = some w1 → wrN w1 = some w2 → p < 6 → p ∉ P.map Prod.fst → slIs g p (given, true, snd, mkRc rcs now, tx) → zi g 12 0 2 = nI (given + 1) → zi g 12 0 3 = wrE w2 → zSa (spF2 p) h g → Q 1 g) : EvI (d + 2) m_M_spool [vQ (some (12, 0)), vI (nI q)] h Q := by
  have hb30 : ∀ n, wr = some n → n < 2 ^ 30 := fun n e => by have := hb n e; omega
  refine e_M_spool _ ?_
  rw [e2, nI_inc]
  refine sp_M_write (d := d) (by rw [zi_zw, if_neg (by omega)]; exact e3) hb30 (fun e => ⟨fun c => absurd rfl c, fun _ => h0 e⟩) (fun w1 ew1 => ⟨fun _ => ?_, fun c => absurd c (by decide)⟩)
  have s0 : zSa (fun k i j => k = 12 ∧ (j = 2 ∨ j = 3)) h (zw (zw h 12 0 2 (nI (given + 1))) 12 0 3 (wrE w1)) := (zSa.rfl.w (by omega)).w (by omega)
  have g2 : zi (zw (zw h 12 0 2 (nI (given + 1))) 12 0 3 (wrE w1)) 12 0 2 = nI (given + 1) := by simp [zi_zw]
  have g3 : zi (zw (zw h 12 0 2 (nI (given + 1))) 12 0 3 (wrE w1)) 12 0 3 = wrE w1 := by simp [zi_zw]
  obtain ⟨h3, hh3⟩ : ∃ h3, h3 = zw (zw h 12 0 2 (nI (given + 1))) 12 0 3 (wrE w1) := ⟨_, rfl⟩
  rw [← hh3] at s0 g2 g3 ⊢
  have a3 : msp h3 P := a.kept s0 (fun p hp k i j z y => by have := slP_12 z; omega)
  have fin := fun (p : Nat) (hp : p < 6) (hpn : p ∉ P.map Prod.fst) => spool_fin (d := d) (Q := Q) hp hq6 hq8 src e1 hn hg s0 g2 g3 (wrN_20 hb ew1) (fun g ew sl x s => h1 p g w1 ew1 ew hp hpn sl x s) (fun g w2 ew sl x y s => h2 p g w1 w2 ew1 ew hp hpn sl x y s)
  obtain ⟨p0, hp0, hn0⟩ := a.free hP
  have find : ∀ (n p : Nat), p + n = p0 → EvAt (d + 2) m_M_spool 26 [some (vQ (some (12, 0))), some (vI (nI q)), some (vI (nI given)), some (vI (nI p)), none] [] h3 (zQI Q) := by
    intro n
    induction n with
    | zero =>
      intro p hp
      have : p = p0 := by omega
      subst this
      refine w_M_spool_26 _ _ _ ?_
      rw [nI_clamp (by omega), nI_clamp (by omega)]
      refine ⟨vp_in_nI (show p < 6 by omega) (by decide), fun _ => ⟨vp_in_nI (show p < 6 by omega) (by decide), vp_in_nI (show p < 6 by omega) (by decide), vp_in_nI (show q < 8 by omega) (by decide), vp_in_nI (show p < 8 by omega) (by decide), fin p hp0 hn0⟩, fun c => absurd ((a3.num hp0).mpr hn0) c⟩
    | succ n ih =>
      intro p hp
      refine w_M_spool_26 _ _ _ ?_
      rw [nI_clamp (by omega), nI_clamp (by omega)]
      refine ⟨vp_in_nI (show p < 6 by omega) (by decide), fun c => ⟨vp_in_nI (show p < 6 by omega) (by decide), vp_in_nI (show p < 6 by omega) (by decide), vp_in_nI (show q < 8 by omega) (by decide), vp_in_nI (show p < 8 by omega) (by decide), fin p (by omega) ((a3.num (by omega)).mp c)⟩, fun c => ?_⟩
      rw [nI_inc]
      exact ih (p + 1) (by omega)
  exact find p0 0 (by omega)
