theorem boF_bd {xs : ZT} {e : Nat} (h2 : e < xs.length) (he : xs.getD e 0 = 10) : ∀ (n p : Nat) (b : Nat × Nat), n = e - p → boF xs e n p = some b → b.1 + b.2 ≤ e ∧ 1 ≤ b.2 ∧ b.2 ≤ 20 ∧ b.2 = alF xs (e - b.1) b.1
  | 0, p, b, _, h => by cases h
  | n + 1, p, b, hn, h => by
    rw [boF] at h
    split at h
    · rename_i hm
      split at h
      · rename_i hc
        cases h
        have hpe := mt_line (by decide) (by decide) hm (show p ≤ e by omega) he
        rw [zS_len13.2.2] at hpe
        have hal := alF_le xs (e - (p + 9)) (p + 9)
        exact ⟨by show p + 9 + alF xs (e - (p + 9)) (p + 9) ≤ e; omega, hc.1, hc.2, rfl⟩
      · cases h
    · exact boF_bd h2 he n (p + 1) b (by omega) h
theorem bndF_bd {xs : ZT} {s e : Nat} {b : Nat × Nat} (h2 : e < xs.length) (he : xs.getD e 0 = 10) (h : bndF xs s e = some b) : b.1 + b.2 ≤ e ∧ 1 ≤ b.2 ∧ b.2 ≤ 20 ∧ b.2 = alF xs (e - b.1) b.1 := by
  unfold bndF at h
  split at h
  · exact boF_bd h2 he _ _ b rfl h
  · cases h
theorem bnF_bd {xs : ZT} {b : Nat × Nat} : ∀ (n i : Nat), i + n ≤ lC (stF xs) → bnF xs (stF xs) n i = some b → b.1 + b.2 < xs.length ∧ 1 ≤ b.2 ∧ b.2 ≤ 20 ∧ b.2 = alF xs (xs.length - b.1) b.1
  | 0, _, _, h => by cases h
  | n + 1, i, hi, h => by
    obtain ⟨f1, f2, f3, f4, f5⟩ := ln_fact (xs := xs) (i := i) (by omega)
    rw [bnF] at h
    split at h
    · obtain ⟨g1, g2, g3, g4⟩ := bndF_bd f2 f3 h
      refine ⟨by omega, g2, g3, ?_⟩
      rw [alF_cut f3 (lE (stF xs) i - b.1) (xs.length - b.1) b.1 (by omega) (by omega)]
      exact g4
    · exact bnF_bd n (i + 1) (by omega) h
def fkI (h : ZH) (k : Nat) (x : ZK) : Prop := zi h 11 1 (4 * k) = nI x.1 ∧ zi h 11 1 (4 * k + 1) = bI x.2.1 ∧ zi h 11 1 (4 * k + 2) = nI x.2.2.1 ∧ zi h 11 1 (4 * k + 3) = nI x.2.2.2
def accIs (h : ZH) (acc : List ZK) : Prop := zi h 10 0 4 = nI acc.length ∧ acc.length ≤ 16 ∧ ∀ k, k < acc.length → fkI h k (acc.getD k dK)
theorem gdK1 {acc : List ZK} {x : ZK} {i : Nat} (h : i < acc.length) : (acc ++ [x]).getD i dK = acc.getD i dK := by
  rw [List.getD_eq_getElem?_getD, List.getElem?_append_left h, ← List.getD_eq_getElem?_getD]
theorem gdK2 {acc : List ZK} {x : ZK} : (acc ++ [x]).getD acc.length dK = x := by
  rw [List.getD_eq_getElem?_getD, List.getElem?_append_right (Nat.le_refl _), Nat.sub_self]
  rfl
theorem oI_m1 {o : Option Nat} (hb : ∀ n, o = some n → n < 2 ^ 30) : oI o = -1 ↔ o = none := by
  cases o with
  | none => exact ⟨fun _ => rfl, fun _ => rfl⟩
  | some n =>
    refine ⟨fun z => ?_, fun z => (by cases z)⟩
    have z : nI n = -1 := z
    have hn := hb n rfl
    exact absurd (show nI n < 0 by rw [z]; decide) (nI_pos (by omega))
/-- the class's takePart, f levels from the deepest -/
def spTk (f : Nat) : Prop := ∀ (D r st en : Nat) (h : ZH) (xs : ZT) (acc : List ZK) (Q : Int32 → ZH → Prop), 7 + 2 * f ≤ D → f ≤ 5 → rdI h r xs → accIs h acc → st ≤ en → en ≤ lC (stF xs) → (tkP xs (stF xs) f st en acc = none → ∀ h', zSa DP h h' → Q 0 h') → (∀ acc', tkP xs (stF xs) f st en acc = some acc' → ∀ h', accIs h' acc' → zSa DP h h' → Q 1 h') → EvI D m_D_takePart [vQ (some (10, 0)), vI (nI st), vI (nI en), vI (nI (5 - f))] h Q
theorem take_body {f D r en : Nat} {xs : ZT} {b : Nat × Nat} {h : ZH} {Q : Int32 → ZH → Prop} (T : spTk f) (hD : 7 + 2 * f ≤ D) (hf : f ≤ 4) (hen : en ≤ lC (stF xs)) (hb : b.1 + b.2 < xs.length) (a0 : rdI h r xs) :
    ∀ (n i : Nat) (ps : Option Nat) (acc : List ZK) (g : ZH), n = en - i → i ≤ en + 1 → (∀ p, ps = some p → p ≤ i) → accIs g acc → zSa DP h g →
    ((ksF (brF xs (stF xs) b) n i ps).bind (fun C => C.foldlM (fun a c => tkP xs (stF xs) f c.1 c.2 a) acc) = none → ∀ h', zSa DP h h' → Q 0 h') →
    (∀ acc', (ksF (brF xs (stF xs) b) n i ps).bind (fun C => C.foldlM (fun a c => tkP xs (stF xs) f c.1 c.2 a) acc) = some acc' → ∀ h', accIs h' acc' → zSa DP h h' → Q 1 h') →
    EvAt (D + 1) m_D_takeBody 13 [some (vQ (some (10, 0))), none, some (vI (nI en)), some (vI (nI b.1)), some (vI (nI (4 - f))), some (vI (nI b.2)), some (vI (oI ps)), some (vI (nI i)), none] [] g (zQI Q) := by
  have hl := a0.lc
  have hxl := a0.len
  intro n
  induction n with
  | zero =>
    intro i ps acc g hn hi1 hps ag sg h0 h1
    exact w_D_takeBody_13 _ _ _ _ _ _ (pk_le en i (fun _ => h0 rfl g sg) (fun z => by omega))
  | succ n ih =>
    intro i ps acc g hn hi1 hps ag sg h0 h1
    have hil : i < lC (stF xs) := by omega
    have rg := a0.kept sg
    obtain ⟨d, rfl⟩ : ∃ d, D = d + 2 := ⟨D - 2, by omega⟩
    have hps30 : ∀ p, ps = some p → p < 2 ^ 30 := fun p e => by have := hps p e; omega
    have b3 := brF_3 xs (stF xs) b i
    refine w_D_takeBody_13 _ _ _ _ _ _ (pk_le en i (fun z => by omega) (fun _ => sp_D_borderKind (d := d) rg hil (by omega) (by omega) ⟨fun c => ?_, fun c => ?_⟩))
    · have hb0 : brF xs (stF xs) b i ≠ 0 := fun z => c (by rw [z]; rfl)
      have k61 : ∀ acc2 g2, accIs g2 acc2 → zSa DP h g2 → (∀ C, (preK ps i ++ C).foldlM (fun a c => tkP xs (stF xs) f c.1 c.2 a) acc = C.foldlM (fun a c => tkP xs (stF xs) f c.1 c.2 a) acc2) → EvAt (d + 2 + 1) m_D_takeBody 61 [some (vQ (some (10, 0))), none, some (vI (nI en)), some (vI (nI b.1)), some (vI (nI (4 - f))), some (vI (nI b.2)), some (vI (oI ps)), some (vI (nI i)), some (vI (nI (brF xs (stF xs) b i)))] [] g2 (zQI Q) := by
        intro acc2 g2 ag2 sg2 hC
        refine w_D_takeBody_61 _ _ _ _ _ _ _ ⟨fun c2 => ?_, fun c2 => ?_⟩
        · have hb1 : brF xs (stF xs) b i = 1 := by
            rcases b3 with z | z | z
            · exact absurd z hb0
            · exact z
            · exact absurd (by rw [z]; rfl) c2
          rw [nI_inc]
          refine w_D_takeBody_85 _ _ _ _ _ _ ?_
          rw [nI_inc]
          rw [ksF, if_neg hb0, if_pos hb1] at h0 h1
          have em : ((ksF (brF xs (stF xs) b) n (i + 1) (some (i + 1))).map (fun C => preK ps i ++ C)).bind (fun C => C.foldlM (fun a c => tkP xs (stF xs) f c.1 c.2 a) acc) = (ksF (brF xs (stF xs) b) n (i + 1) (some (i + 1))).bind (fun C => C.foldlM (fun a c => tkP xs (stF xs) f c.1 c.2 a) acc2) := by
            cases ksF (brF xs (stF xs) b) n (i + 1) (some (i + 1)) with
            | none => rfl
            | some C => exact hC C
          rw [em] at h0 h1
          exact ih (i + 1) (some (i + 1)) acc2 g2 (by omega) (by omega) (fun p e => by cases e; exact Nat.le_refl _) ag2 sg2 h0 h1
        · have hb2 : brF xs (stF xs) b i = 2 := by
            rcases b3 with z | z | z
            · exact absurd z hb0
            · rw [z] at c2; exact absurd c2 (by decide)
            · exact z
          rw [ksF, if_neg hb0, if_neg (by omega)] at h0 h1
          rw [oI_m1 hps30]
          cases ps with
          | none => exact ⟨fun _ => h0 rfl g2 sg2, fun z => absurd rfl z⟩
          | some p =>
            refine ⟨fun z => (by cases z), fun _ => h1 acc2 ?_ g2 ag2 sg2⟩
            exact hC []
      rw [oI_m1 hps30]
      cases ps with
      | none => exact ⟨fun _ => k61 acc g ag sg (fun C => rfl), fun z => absurd rfl z⟩
      | some p =>
        refine ⟨fun z => (by cases z), fun _ => ?_⟩
        have hpi := hps p rfl
        rw [nI_inc, show 4 - f + 1 = 5 - f by omega]
        refine T (d + 2) r p i g xs acc _ hD (by omega) rg ag hpi (by omega) (fun e h' s' => ⟨fun z => absurd rfl z, fun _ => h0 ?_ h' (sg.trans s')⟩) (fun acc2 e h' ag2 s' => ⟨fun _ => k61 acc2 h' ag2 (sg.trans s') (fun C => ?_), fun z => absurd z (by decide)⟩)
        · rw [ksF, if_neg hb0]
          split
          · cases ksF (brF xs (stF xs) b) n (i + 1) (some (i + 1)) with
            | none => rfl
            | some C =>
              show (tkP xs (stF xs) f p i acc >>= fun s => C.foldlM _ s) = none
              rw [e]
              rfl
          · show (tkP xs (stF xs) f p i acc >>= fun s => [].foldlM _ s) = none
            rw [e]
            rfl
        · show (tkP xs (stF xs) f p i acc >>= fun s => C.foldlM _ s) = _
          rw [e]
          rfl
    · have hb0 : brF xs (stF xs) b i = 0 := by
        rcases b3 with z | z | z
        · exact z
        · rw [z] at c; exact absurd c (by decide)
        · rw [z] at c; exact absurd c (by decide)
      refine w_D_takeBody_85 _ _ _ _ _ _ ?_
      rw [nI_inc]
      rw [ksF, if_pos hb0] at h0 h1
      exact ih (i + 1) ps acc g (by omega) (by omega) (fun p e => by have := hps p e; omega) ag sg h0 h1
theorem acc_put {h g : ZH} {acc : List ZK} {x : ZK} (a : accIs h acc) (hl : acc.length < 16) (s : ∀ j, j < 4 * acc.length → zi g 11 1 j = zi h 11 1 j) (e4 : zi g 10 0 4 = nI (acc.length + 1)) (e : fkI g acc.length x) : accIs g (acc ++ [x]) := by
  refine ⟨by rw [List.length_append]; exact e4, by rw [List.length_append]; show acc.length + 1 ≤ 16; omega, fun k hk => ?_⟩
  rw [List.length_append] at hk
  have hk : k < acc.length + 1 := hk
  by_cases c : k = acc.length
  · subst c
    rw [gdK2]
    exact e
  · rw [gdK1 (by omega)]
    obtain ⟨b1, b2, b3, b4⟩ := a.2.2 k (by omega)
    exact ⟨by rw [s _ (by omega)]; exact b1, by rw [s _ (by omega)]; exact b2, by rw [s _ (by omega)]; exact b3, by rw [s _ (by omega)]; exact b4⟩
theorem take_92 {d f st en he : Nat} {h g : ZH} {x6 : Int32} {m : Bool} {acc : List ZK} {Q : Int32 → ZH → Prop} (ac : accIs h acc) (c16 : acc.length < 16) (h1 : st ≤ en) (s1 : zSa DP h g) (e4 : zi g 10 0 4 = nI (acc.length + 1)) (e11 : ∀ j, zi g 11 1 j = zi h 11 1 j)
    (K : ∀ g', accIs g' (acc ++ [(4 - f, m, st, en - st)]) → zSa DP h g' → (x6 = (-1 : Int32) → Q (1 : Int32) g') ∧ (¬ x6 = (-1 : Int32) → EvI d m_D_takeBody [vQ (some (10, 0)), vI (nI he + (1 : Int32)), vI (nI en), vI x6, vI (nI (4 - f))] g' (fun y2 g1 => ((y2 = 0 → Q (0 : Int32) g1) ∧ (¬ y2 = 0 → Q (1 : Int32) g1))))) :
    EvAt (d + 1) m_D_takePart 92 [some (vQ (some (10, 0))), some (vI (nI st)), some (vI (nI en)), some (vI (nI (4 - f))), some (vI (nI (acc.length * 4))), some (vI (nI he)), some (vI x6)] [vI (bI m), vI (nI (acc.length * 4 + 1)), vQ (some (11, 1))] (zw g 11 1 (acc.length * 4) (nI (4 - f))) (zQI Q) := by
  refine w_D_takePart_92 _ _ _ _ _ _ _ _ ?_
  rw [show nI (acc.length * 4) + (2 : Int32) = nI (acc.length * 4 + 2) from nI_add _ 2, show nI (acc.length * 4) + (3 : Int32) = nI (acc.length * 4 + 3) from nI_add _ 3, nI_clamp (show acc.length * 4 + 1 < 2 ^ 31 by omega), nI_clamp (show acc.length * 4 + 2 < 2 ^ 31 by omega), nI_clamp (show acc.length * 4 + 3 < 2 ^ 31 by omega), pk_sub h1]
  refine ⟨vp_in_nI (show acc.length * 4 + 1 < 64 by omega) (by decide), vp_in_nI (show acc.length * 4 + 2 < 64 by omega) (by decide), vp_in_nI (show acc.length * 4 + 3 < 64 by omega) (by decide), K _ (acc_put ac c16 (fun j hj => ?_) ?_ ⟨?_, ?_, ?_, ?_⟩) ((((s1.w (by unfold DP; omega)).w (by unfold DP; omega)).w (by unfold DP; omega)).w (by unfold DP; omega))⟩
  · rw [zi_zw, if_neg (by omega), zi_zw, if_neg (by omega), zi_zw, if_neg (by omega), zi_zw, if_neg (by omega)]
    exact e11 j
  · rw [zi_zw, if_neg (by omega), zi_zw, if_neg (by omega), zi_zw, if_neg (by omega), zi_zw, if_neg (by omega)]
    exact e4
  · rw [zi_zw, if_neg (by omega), zi_zw, if_neg (by omega), zi_zw, if_neg (by omega), zi_zw, if_pos (by omega)]
  · rw [zi_zw, if_neg (by omega), zi_zw, if_neg (by omega), zi_zw, if_pos (by omega)]
  · rw [zi_zw, if_neg (by omega), zi_zw, if_pos (by omega)]
  · rw [zi_zw, if_pos (by omega)]
theorem take_step {f : Nat} (T : spTk f) : spTk (f + 1) := by
  intro D r st en h xs acc Q hD hf a ac h1 h2 q0 q1
  have hl := a.lc
  have hxl := a.len
  obtain ⟨d, rfl⟩ : ∃ d, D = (d + 8) + 1 := ⟨D - 9, by omega⟩
  have h16 := ac.2.1
  rw [tkP] at q0
  have q1 : ∀ acc', (if 16 ≤ acc.length then none else if rhF xs (stF xs) st (hdF (stF xs) (en - st) st - st) st = false then none else match bnF xs (stF xs) (hdF (stF xs) (en - st) st - st) st with
    | none => some (acc ++ [(4 - f, false, st, en - st)])
    | some b => (ksF (brF xs (stF xs) b) (en - (hdF (stF xs) (en - st) st + 1)) (hdF (stF xs) (en - st) st + 1) none).bind (fun C => C.foldlM (fun a c => tkP xs (stF xs) f c.1 c.2 a) (acc ++ [(4 - f, true, st, en - st)]))) = some acc' → ∀ h', accIs h' acc' → zSa DP h h' → Q 1 h' := fun acc' e => q1 acc' (by rw [tkP]; exact e)
  rw [show 5 - (f + 1) = 4 - f by omega]
  refine e_D_takePart _ _ _ ?_
  rw [ac.1]
  refine pk_lt 4 (4 - f) (fun z => by omega) (fun _ => pk_lt acc.length 16 (fun c16 => ?_) (fun c16 => ?_))
  · rw [if_neg (by omega)] at q0 q1
    rw [nI_inc]
    have s1 : zSa DP h (zw h 10 0 4 (nI (acc.length + 1))) := zSa.rfl.w (by unfold DP; omega)
    have e4 : zi (zw h 10 0 4 (nI (acc.length + 1))) 10 0 4 = nI (acc.length + 1) := by rw [zi_zw, if_pos ⟨rfl, rfl, rfl⟩]
    have e11 : ∀ j, zi (zw h 10 0 4 (nI (acc.length + 1))) 11 1 j = zi h 11 1 j := fun j => by rw [zi_zw, if_neg (by omega)]
    obtain ⟨g, hg⟩ : ∃ g, g = zw h 10 0 4 (nI (acc.length + 1)) := ⟨_, rfl⟩
    rw [← hg] at s1 e4 e11 ⊢
    have rg := a.kept s1
    obtain ⟨he1, he2⟩ := hdF_le (stF xs) (en - st) st
    obtain ⟨he, hhe⟩ : ∃ he, he = hdF (stF xs) (en - st) st := ⟨_, rfl⟩
    rw [← hhe] at he1 he2 q0 q1
    refine sp_D_findHeadEnd (d := d + 7) rg h1 h2 ?_
    rw [← hhe]
    refine sp_D_isHeadRight (d := d + 4) rg he1 (by omega) ⟨fun c => ?_, fun c => q0 (by rw [if_pos ((bI_0 _).mp c)]) g s1⟩
    rw [if_neg (by rw [bI_t c]; decide)] at q0 q1
    refine sp_D_findBoundary (d := d + 2) rg he1 (by omega) ?_
    have hx4 : nI acc.length * (4 : Int32) = nI (acc.length * 4) := pk_mul _ 4
    rw [hx4, show nI (acc.length * 4) + (0 : Int32) = nI (acc.length * 4) from nI_add _ 0, show nI (acc.length * 4) + (1 : Int32) = nI (acc.length * 4 + 1) from nI_add _ 1, nI_clamp (by omega)]
    refine ⟨vp_in_nI (show acc.length * 4 < 64 by omega) (by decide), ?_⟩
    cases hb : bnF xs (stF xs) (he - st) st with
    | none =>
      rw [hb] at q1
      refine ⟨fun z => absurd rfl z, fun _ => take_92 (m := false) ac c16 h1 s1 e4 e11 (fun g' ag sg => ⟨fun _ => q1 _ rfl g' ag sg, fun z => absurd rfl z⟩)⟩
    | some b =>
      rw [hb] at q0 q1
      obtain ⟨b1, b2, b3, b4⟩ := bnF_bd (he - st) st (by omega) hb
      have hne : ¬ bI1 (some b) = -1 := fun z => by
        have := (oI_m1 (o := some b.1) (fun n e => by cases e; omega)).mp z
        cases this
      refine ⟨fun _ => take_92 (m := true) ac c16 h1 s1 e4 e11 (fun g' ag sg => ⟨fun z => absurd z hne, fun _ => ?_⟩), fun z => absurd z hne⟩
      show EvI (d + 8) m_D_takeBody [vQ (some (10, 0)), vI (nI he + (1 : Int32)), vI (nI en), vI (nI b.1), vI (nI (4 - f))] g' _
      rw [nI_inc]
      have rg' := a.kept sg
      refine e_D_takeBody _ _ _ _ (sp_D_boundaryLength (d := d + 6) rg' (by omega) ?_)
      rw [← b4]
      refine take_body (D := d + 7) (h := g') T (by omega) (by omega) h2 b1 rg' (en - (he + 1)) (he + 1) none _ g' rfl (by omega) (fun p e => (by cases e)) ag zSa.rfl (fun e h' s' => ⟨fun _ => q0 e h' (sg.trans s'), fun z => absurd rfl z⟩) (fun acc' e h' ac' s' => ⟨fun z => absurd z (by decide), fun _ => q1 acc' e h' ac' (sg.trans s')⟩)
  · rw [if_pos (by omega)] at q0
    exact q0 rfl h zSa.rfl
theorem take_0 : spTk 0 := by
  intro D r st en h xs acc Q hD hf a ac h1 h2 q0 q1
  obtain ⟨d, rfl⟩ : ∃ d, D = d + 1 := ⟨D - 1, by omega⟩
  exact e_D_takePart _ _ _ (pk_lt 4 5 (fun _ => q0 rfl h zSa.rfl) (fun z => by omega))
theorem take_all : ∀ f, spTk f
  | 0 => take_0
  | f + 1 => take_step (take_all f)
