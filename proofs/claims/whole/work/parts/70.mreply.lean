/-! the model's reply -/
/-- the state of a letter in the model: place and letter -/
def atJ (P : List (Nat × ZL)) (j r : Nat) (q : Nat × ZL) : Prop := ∃ hj : j < P.length, P[j] = q ∧ r < q.2.2.2.2.1.length
theorem atJ.get {P : List (Nat × ZL)} {j r : Nat} {q : Nat × ZL} (a : atJ P j r q) : (P.map Prod.snd).getD j dL = q.2 := by
  obtain ⟨hj, e, -⟩ := a
  rw [gDE (by rw [List.length_map]; exact hj), List.getElem_map, e]
theorem atJ.mem {P : List (Nat × ZL)} {j r : Nat} {q : Nat × ZL} (a : atJ P j r q) : q ∈ P := by
  obtain ⟨hj, e, -⟩ := a
  rw [← e]
  exact List.getElem_mem hj
theorem atJ.more {P : List (Nat × ZL)} {j r : Nat} {q x : Nat × ZL} (a : atJ P j r q) : atJ (P ++ [x]) j r q := by
  obtain ⟨hj, e, hr⟩ := a
  exact ⟨by rw [List.length_append]; omega, by rw [List.getElem_append_left hj]; exact e, hr⟩
theorem atJ.upRE {P : List (Nat × ZL)} {j r : Nat} {q : Nat × ZL} (a : atJ P j r q) (x : ZP) : upR (P.map Prod.snd) j r x = (P.map Prod.snd).set j (q.2.1, q.2.2.1, q.2.2.2.1, q.2.2.2.2.1.set r x, q.2.2.2.2.2) := by
  unfold upR
  rw [a.get]
/-- one recipient's fate and due are written -/
theorem RM_fate {h g : ZH} {P : List (Nat × ZL)} {j r : Nat} {q : Nat × ZL} {x : ZP} {now given : Nat} {wr w1 : Option Nat} {line : ZT} {gr bg tk : Bool} {snd : ZT} {rcs : List ZT} {tx : ZT} (a : RM h (true, now, given, wr, line, gr, bg, tk, snd, rcs, tx, P.map Prod.snd)) (m : msp h P) (w : atJ P j r q) (hx : x.1 = (q.2.2.2.2.1.getD r dP).1) (s : zSa (fcP q.1 r) h g) (e3 : zi g 12 0 3 = wrE w1) (hb : ∀ n, w1 = some n → n ≤ 20) (e7 : zi g 13 7 (4 * q.1 + r) = nI x.2.1) (e8 : zi g 13 8 (4 * q.1 + r) = nI x.2.2) (b7 : x.2.1 < 2 ^ 30) (b8 : x.2.2 < 2 ^ 30) :
    RM g (true, now, given, w1, line, gr, bg, tk, snd, rcs, tx, upR (P.map Prod.snd) j r x) ∧ msp g (P.set j (q.1, q.2.1, q.2.2.1, q.2.2.2.1, q.2.2.2.2.1.set r x, q.2.2.2.2.2)) := by
  obtain ⟨hj, eq, hr⟩ := id w
  obtain ⟨h6, sl⟩ := m.1 q w.mem
  have hr4 : q.2.2.2.2.1.length ≤ 4 := sl.2.2.2.2.2.2.1
  have s2 : zSa (spF2 q.1) h g := s.mono (fcP_sl (by omega))
  have m2 := m.set hj (by rw [eq]) s2 (fun p' _ hne => slP_ne hne) (sl.upd hr hx s e7 e8 b7 b8)
  refine ⟨?_, m2⟩
  have a5 := a.2.2.2.2.1
  have a4 := a.2.2.2.1
  refine RM_sp a h6 s2 (by rw [s.1 12 0 2 (by unfold fcP; omega)]; exact a4) a5 e3 hb ?_
  rw [w.upRE]
  exact spM.set a.2.2.2.2.2.2.2 hj (by rw [eq]) m2
theorem fcP_PMM {p r : Nat} : ∀ k i j, fcP p r k i j → PMM k i j := by
  rintro k i j (⟨rfl, z⟩ | ⟨rfl, z, rfl⟩) <;> (unfold PMM; omega)
theorem reply_164 {d f j r : Nat} {x : Int32} {h : ZH} {P : List (Nat × ZL)} {q : Nat × ZL} {now given : Nat} {wr : Option Nat} {line : ZT} {gr bg tk : Bool} {snd : ZT} {rcs : List ZT} {tx : ZT} {Q : Int32 → ZH → Prop} (a : RM h (true, now, given, wr, line, gr, bg, tk, snd, rcs, tx, P.map Prod.snd)) (m : msp h P) (w : atJ P j r q) (hf : (f = 1 ∧ ¬ (300 : Int32) ≤ x) ∨ (f = 2 ∧ (300 : Int32) ≤ x))
    (hq : ∀ h', RM h' (setlS now given wr line gr bg tk snd rcs tx (P.map Prod.snd) j r f).2 → zSa PMM h h' → Q (setlS now given wr line gr bg tk snd rcs tx (P.map Prod.snd) j r f).1 h') :
    EvAt (d + 2) m_M_reply 164 [some (vQ (some (12, 0))), some (vI x), some (vI (nI (4 * q.1 + r))), some (vI (nI q.1))] [] h (zQI Q) := by
  obtain ⟨hj, eq, hr⟩ := id w
  obtain ⟨h6, sl⟩ := m.1 q w.mem
  have hr4 : q.2.2.2.2.1.length ≤ 4 := sl.2.2.2.2.2.2.1
  have b1 := a.2.2.2.2.2.2.1.1
  have b2 := a.2.2.2.2.2.2.1.2.1
  refine w_M_reply_164 _ _ _ (sp_M_write b1 (fun n e => by have := b2 n e; omega) (fun e => ⟨fun c => absurd rfl c, fun _ => ?_⟩) (fun w1 ew => ⟨fun _ => ?_, fun c => absurd c (by decide)⟩))
  · rw [setlS_n e] at hq
    exact hq _ (RM_bd a.2.1 a.2.2.1 a.2.2.2.1 a.2.2.2.2.1 a.2.2.2.2.2.2.2) (bd_PMM zSa.rfl)
  · rw [setlS_s ew] at hq
    obtain ⟨-, t1, t2, t3, t4⟩ := sl.2.2.2.2.2.2.2 r hr
    have er : rcp (P.map Prod.snd) j r = q.2.2.2.2.1.getD r dP := by unfold rcp; rw [w.get]
    rw [er] at hq
    obtain ⟨y, hy⟩ : ∃ y : ZP, y = ((q.2.2.2.2.1.getD r dP).1, 10 * f, (q.2.2.2.2.1.getD r dP).2.2) := ⟨_, rfl⟩
    rw [← hy] at hq
    have fin : EvAt (d + 2) m_M_reply 192 [some (vQ (some (12, 0))), some (vI x), none, some (vI (nI q.1))] [vI (nI (10 * f)), vI (nI (4 * q.1 + r)), vQ (some (13, 7))] (zw h 12 0 3 (wrE w1)) (zQI Q) := by
      refine w_M_reply_192 _ _ _ _ ⟨vp_in_nI (show 4 * q.1 + r < 24 by omega) (by decide), ?_⟩
      rw [nI_clamp (by omega)]
      have s : zSa (fcP q.1 r) h (zw (zw h 12 0 3 (wrE w1)) 13 7 (4 * q.1 + r) (nI (10 * f))) := (zSa.rfl.w (by unfold fcP; omega)).w (by unfold fcP; omega)
      have e3 : zi (zw (zw h 12 0 3 (wrE w1)) 13 7 (4 * q.1 + r) (nI (10 * f))) 12 0 3 = wrE w1 := by rw [zi_zw, if_neg (by omega), zi_zw, if_pos ⟨rfl, rfl, rfl⟩]
      have e7 : zi (zw (zw h 12 0 3 (wrE w1)) 13 7 (4 * q.1 + r) (nI (10 * f))) 13 7 (4 * q.1 + r) = nI (10 * f) := by rw [zi_zw, if_pos ⟨rfl, rfl, rfl⟩]
      have e8 : zi (zw (zw h 12 0 3 (wrE w1)) 13 7 (4 * q.1 + r) (nI (10 * f))) 13 8 (4 * q.1 + r) = nI (q.2.2.2.2.1.getD r dP).2.2 := by rw [zi_zw, if_neg (by omega), zi_zw, if_neg (by omega)]; exact t3
      obtain ⟨g, hg⟩ : ∃ g, g = zw (zw h 12 0 3 (wrE w1)) 13 7 (4 * q.1 + r) (nI (10 * f)) := ⟨_, rfl⟩
      rw [← hg] at s e3 e7 e8 ⊢
      obtain ⟨rg, mg⟩ := RM_fate (x := y) a m w (by rw [hy]) s e3 (wrN_20 b2 ew) (by rw [hy]; exact e7) (by rw [hy]; exact e8) (by rw [hy]; show 10 * f < 2 ^ 30; omega) (by rw [hy]; exact t4)
      have hj' : j < (P.set j (q.1, q.2.1, q.2.2.1, q.2.2.2.1, q.2.2.2.2.1.set r y, q.2.2.2.2.2)).length := by rw [List.length_set]; exact hj
      have slg := (mg.1 (q.1, q.2.1, q.2.2.1, q.2.2.2.1, q.2.2.2.2.1.set r y, q.2.2.2.2.2) (by
        have : (P.set j (q.1, q.2.1, q.2.2.1, q.2.2.2.1, q.2.2.2.2.1.set r y, q.2.2.2.2.2))[j] = (q.1, q.2.1, q.2.2.1, q.2.2.2.1, q.2.2.2.2.1.set r y, q.2.2.2.2.2) := by rw [List.getElem_set_self]
        exact List.mem_iff_getElem.mpr ⟨j, hj', this⟩)).2
      have gd : (upR (P.map Prod.snd) j r y).getD j dL = (q.2.1, q.2.2.1, q.2.2.2.1, q.2.2.2.2.1.set r y, q.2.2.2.2.2) := by
        rw [w.upRE, setGetD (by rw [List.length_map]; exact hj), if_pos rfl]
      have out : ∀ g' : ZH, RM g' (true, now, given, w1, line, gr, bg, tk, snd, rcs, tx, dropS (upR (P.map Prod.snd) j r y) j) → zSa PMM h g' → ((300 : Int32) ≤ x → Q 2 g') ∧ (¬ (300 : Int32) ≤ x → Q 1 g') := by
        intro g' r1 s1
        have := hq g' r1 s1
        rcases hf with ⟨rfl, z⟩ | ⟨rfl, z⟩
        · exact ⟨fun c => absurd c z, fun _ => this⟩
        · exact ⟨fun _ => this, fun c => absurd z c⟩
      refine sp_M_tidy h6 slg (fun e => out g ?_ (s.mono fcP_PMM)) (fun e => out _ ?_ ((s.mono fcP_PMM).w (by unfold PMM; omega)))
      · unfold dropS
        rw [gd, if_pos e]
        exact rg
      · unfold dropS
        rw [gd, if_neg (by rw [e]; decide)]
        have sz : zSa (spF2 q.1) g (zw g 13 1 q.1 (-1)) := zSa.rfl.w (Or.inr slP_1)
        have rg8 := rg.2.2.2.2.2.2.2
        have em : (P.set j (q.1, q.2.1, q.2.2.1, q.2.2.2.1, q.2.2.2.2.1.set r y, q.2.2.2.2.2)).map Prod.snd = upR (P.map Prod.snd) j r y := by rw [List.map_set, w.upRE]
        rw [← em] at rg8 ⊢
        refine RM_sp rg h6 sz (by rw [zi_zw, if_neg (by omega)]; exact rg.2.2.2.1) rg.2.2.2.2.1 (by rw [zi_zw, if_neg (by omega)]; exact e3) (wrN_20 b2 ew) (spM.erase mg rg8 hj' (by rw [List.getElem_set_self]))
    rcases hf with ⟨rfl, z⟩ | ⟨rfl, z⟩
    · exact ⟨fun c => absurd c z, fun _ => fin⟩
    · exact ⟨fun _ => fin, fun c => absurd z c⟩
