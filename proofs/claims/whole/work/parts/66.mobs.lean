/-! what the model shows -/
theorem pw_uniq {L : List ZL} (pw : L.Pairwise (fun a b => a.1 < b.1)) {a b : ZL} (ha : a ∈ L) (hb : b ∈ L) (e : a.1 = b.1) : a = b := by
  induction L with
  | nil => cases ha
  | cons x t ih =>
    rw [List.pairwise_cons] at pw
    rcases List.mem_cons.mp ha with e1 | ha2
    · rcases List.mem_cons.mp hb with e2 | hb2
      · rw [e1, e2]
      · have := pw.1 b hb2
        rw [← e1] at this
        omega
    · rcases List.mem_cons.mp hb with e2 | hb2
      · have := pw.1 a ha2
        rw [← e2] at this
        omega
      · exact ih pw.2 ha2 hb2
theorem lfF_none {x : Int32} : ∀ (L : List ZL) (j : Nat), lfF x j L = none → ∀ l ∈ L, ¬ (l.2.1 = true ∧ nI l.1 = x)
  | [], _, _, l, hl => by cases hl
  | y :: t, j, h, l, hl => by
    rw [lfF] at h
    split at h
    · cases h
    · rename_i c
      rcases List.mem_cons.mp hl with e | e
      · rw [e]; exact c
      · exact lfF_none t (j + 1) h l e
theorem lget_some {L : List ZL} {x : Int32} {l : ZL} (pw : L.Pairwise (fun a b => a.1 < b.1)) (hb : ∀ l ∈ L, l.1 < 2 ^ 29) (hl : l ∈ L) (hs : l.2.1 = true) (hx : nI l.1 = x) : lget L x = some l := by
  cases hj : lfF x 0 L with
  | none => exact absurd ⟨hs, hx⟩ (lfF_none L 0 hj l hl)
  | some j =>
    obtain ⟨e1, e2⟩ := lget_of hj
    obtain ⟨-, -, f1, f2⟩ := lfF_lt L 0 j hj
    rw [Nat.sub_zero] at f1 f2
    have hm : L.getD j dL ∈ L := zgetD_mem e2
    have h1 := hb l hl
    have h2 := hb _ hm
    rw [← hx, nI_eq (by omega) (by omega)] at f2
    rw [e1, pw_uniq pw hm hl f2]
theorem lget_none {L : List ZL} {x : Int32} (h : ∀ l ∈ L, ¬ (l.2.1 = true ∧ nI l.1 = x)) : lget L x = none := by
  cases hj : lfF x 0 L with
  | none => unfold lget; rw [hj]; rfl
  | some j =>
    obtain ⟨e1, e2⟩ := lget_of hj
    obtain ⟨-, -, f1, f2⟩ := lfF_lt L 0 j hj
    rw [Nat.sub_zero] at f1 f2
    exact absurd ⟨f1, f2⟩ (h _ (zgetD_mem e2))
theorem msp.lt {h : ZH} {P : List (Nat × ZL)} (m : msp h P) : ∀ l ∈ P.map Prod.snd, l.1 < 2 ^ 29 := fun l hl => by
  obtain ⟨q, hq, e⟩ := List.mem_map.mp hl
  rw [← e]
  exact (m.1 q hq).2.2.1
theorem sp_M_placeOf {d : Nat} {x : Int32} {h : ZH} {P : List (Nat × ZL)} {Q : Int32 → ZH → Prop} (m : msp h P) (pw : (P.map Prod.snd).Pairwise (fun a b => a.1 < b.1)) (h0 : lget (P.map Prod.snd) x = none → Q (-1) h) (h1 : ∀ q ∈ P, q.2.2.1 = true → lget (P.map Prod.snd) x = some q.2 → Q (nI q.1) h) : EvI d m_M_placeOf [vQ (some (12, 0)), vI x] h Q := by
  have loop : ∀ (n p : Nat) (o : Option (Nat × ZL)), p + n = 6 → (o = none → ∀ q ∈ P, q.1 < p → ¬ (q.2.2.1 = true ∧ nI q.2.1 = x)) → (∀ q, o = some q → q ∈ P ∧ q.2.2.1 = true ∧ nI q.2.1 = x) → EvAt d m_M_placeOf 4 [some (vQ (some (12, 0))), some (vI x), some (vI (oI (o.map Prod.fst))), some (vI (nI p))] [] h (zQI Q) := by
    intro n
    induction n with
    | zero =>
      intro p o hp f0 f1
      have : p = 6 := by omega
      subst this
      refine w_M_placeOf_4 _ _ _ (pk_le 6 6 (fun _ => ?_) (fun z => by omega))
      cases o with
      | none =>
        refine h0 (lget_none (fun l hl => ?_))
        obtain ⟨q, hq, e⟩ := List.mem_map.mp hl
        rw [← e]
        exact f0 rfl q hq (m.1 q hq).1
      | some q =>
        obtain ⟨z1, z2, z3⟩ := f1 q rfl
        exact h1 q z1 z2 (lget_some pw m.lt (List.mem_map.mpr ⟨q, z1, rfl⟩) z2 z3)
    | succ n ih =>
      intro p o hp f0 f1
      have no : (∀ q ∈ P, q.1 = p → ¬ (q.2.2.1 = true ∧ nI q.2.1 = x)) → EvAt d m_M_placeOf 37 [some (vQ (some (12, 0))), some (vI x), some (vI (oI (o.map Prod.fst))), some (vI (nI p))] [] h (zQI Q) := by
        intro z
        refine w_M_placeOf_37 _ _ _ (w_M_placeOf_38 _ _ _ ?_)
        rw [nI_inc]
        refine ih (p + 1) o (by omega) (fun e q hq hlt => ?_) f1
        by_cases e2 : q.1 = p
        · exact z q hq e2
        · exact f0 e q hq (by omega)
      refine w_M_placeOf_4 _ _ _ (pk_le 6 p (fun z => by omega) (fun _ => ?_))
      rw [nI_clamp (by omega)]
      refine ⟨fun c => no (fun q hq e z => ?_), fun c => ⟨vp_in_nI (show p < 6 by omega) (by decide), fun c2 => no (fun q hq e z => ?_), fun c2 => ⟨vp_in_nI (show p < 6 by omega) (by decide), fun c3 => no (fun q hq e z => ?_), fun c3 => ?_⟩⟩⟩
      · rw [← z.2] at c
        exact nI_pos (by have := (m.1 q hq).2.2.1; omega) c
      · have := (m.1 q hq).2.1
        rw [e] at this
        exact c2 (this.trans z.2)
      · have := (m.1 q hq).2.2.2.1
        rw [e, c3, z.1] at this
        exact absurd this (by decide)
      · have hin : p ∈ P.map Prod.fst := by
          apply Classical.byContradiction
          intro z
          rw [m.2.2 p (by omega) z] at c2
          rw [← c2] at c
          exact c (by decide)
        obtain ⟨q, hq, e⟩ := List.mem_map.mp hin
        have hs := (m.1 q hq).2.2.2.1
        have hn := (m.1 q hq).2.1
        rw [e] at hs hn
        rw [hs] at c3
        have c3 := bI_t c3
        refine w_M_placeOf_38 _ _ _ ?_
        rw [nI_inc]
        have := ih (p + 1) (some q) (by omega) (fun z => (by cases z)) (fun q' e' => by cases e'; exact ⟨hq, c3, hn.symm.trans c2⟩)
        rw [← e]
        rw [← e] at this
        exact this
  refine e_M_placeOf _ ?_
  exact loop 6 0 none rfl (fun _ q _ hlt => absurd hlt (Nat.not_lt_zero _)) (fun q e => (by cases e))
theorem rAt_neg {xs : ZT} {i : Int32} (h : i < 0) : rAt xs i = 0 := by unfold rAt; rw [if_pos h]
theorem rAt_ge {xs : ZT} {j : Nat} (hj : j < 2 ^ 31) (h : xs.length ≤ j) : rAt xs (nI j) = 0 := by rw [rAt_nI hj, getD_ge h]
theorem sp_M_text {d : Nat} {x i : Int32} {h : ZH} {P : List (Nat × ZL)} {Q : Int32 → ZH → Prop} (m : msp h P) (pw : (P.map Prod.snd).Pairwise (fun a b => a.1 < b.1)) (hq : Q (oText (P.map Prod.snd) x i) h) : EvI (d + 1) m_M_text [vQ (some (12, 0)), vI x, vI i] h Q := by
  unfold oText at hq
  refine e_M_text _ _ (sp_M_placeOf m pw (fun e => ?_) (fun q hqP hs e => ?_))
  · rw [e] at hq
    exact ⟨fun _ => hq, fun z => absurd (by decide) z⟩
  · rw [e] at hq
    have hq : Q (rAt q.2.2.2.2.2 i) h := hq
    obtain ⟨p6, sl⟩ := m.1 q hqP
    obtain ⟨⟨t1, t2, t3⟩, t4⟩ := sl.2.2.2.1
    refine ⟨fun z => absurd z (nI_pos (by omega)), fun _ => ⟨fun c => ?_, fun c => ?_⟩⟩
    · rw [rAt_neg c] at hq; exact hq
    · obtain ⟨j, hj, rfl⟩ := nI_of c
      rw [nI_clamp (by omega), t1, Nat.min_eq_left (by omega)]
      refine ⟨vp_in_nI (show q.1 < 8 by omega) (by decide), pk_lt j q.2.2.2.2.2.length (fun z => ?_) (fun z => ?_)⟩
      · rw [show (602 : Int32) * nI q.1 + nI j = nI (602 * q.1 + j) from nI_ma 602 q.1 j, nI_clamp (by omega), t2 j z (by omega)]
        have hc := t3 _ (zgetD_mem (a := 0) z)
        rw [zCh_i2c hc]
        rw [rAt_nI hj] at hq
        exact ⟨vp_in_nI (show 602 * q.1 + j < 4816 by omega) (by decide), zCh_narrow hc, hq⟩
      · rw [rAt_ge hj z] at hq; exact hq
theorem sp_M_path {d : Nat} {x r i : Int32} {h : ZH} {P : List (Nat × ZL)} {Q : Int32 → ZH → Prop} (m : msp h P) (pw : (P.map Prod.snd).Pairwise (fun a b => a.1 < b.1)) (hq : Q (oPath (P.map Prod.snd) x r i) h) : EvI (d + 1) m_M_path [vQ (some (12, 0)), vI x, vI r, vI i] h Q := by
  unfold oPath at hq
  refine e_M_path _ _ _ (sp_M_placeOf m pw (fun e => ?_) (fun q hqP hs e => ?_))
  · rw [e] at hq
    exact ⟨fun _ => hq, fun z => absurd (by decide) z⟩
  · rw [e] at hq
    have hq : Q (if r = -1 then rAt q.2.2.2.1 i else match rcAt q.2.2.2.2.1 r with | none => 0 | some p => rAt p.1 i) h := hq
    obtain ⟨p6, sl⟩ := m.1 q hqP
    obtain ⟨s1, s2, s3, s4, s5, s6, s7, s8⟩ := sl
    -- a path at its place
    have k43 : ∀ (n : Nat) (xs : ZT), n < 5 → ptIs h (5 * q.1 + n) xs → Q (rAt xs i) h → EvAt (d + 1) m_M_path 43 [some (vQ (some (12, 0))), none, none, some (vI i), none, none] [vI (nI n), vI ((5 : Int32) * nI q.1)] h (zQI Q) := by
      intro n xs hn w hqx
      refine w_M_path_43 _ _ _ ⟨fun c => ?_, fun c => ?_⟩
      · rw [rAt_neg c] at hqx; exact hqx
      · obtain ⟨j, hj, rfl⟩ := nI_of c
        have hl := w.2.1
        rw [show (5 : Int32) * nI q.1 + nI n = nI (5 * q.1 + n) from nI_ma 5 q.1 n, nI_clamp (by omega), w.1]
        refine ⟨vp_in_nI (show 5 * q.1 + n < 40 by omega) (by decide), pk_lt j xs.length (fun z => ?_) (fun z => ?_)⟩
        · rw [show (40 : Int32) * nI (5 * q.1 + n) + nI j = nI (40 * (5 * q.1 + n) + j) from nI_ma 40 _ j, nI_clamp (by omega), w.2.2.1 j z]
          have hc := w.2.2.2 _ (zgetD_mem (a := 0) z)
          rw [zCh_i2c hc]
          rw [rAt_nI hj] at hqx
          exact ⟨vp_in_nI (show 40 * (5 * q.1 + n) + j < 1600 by omega) (by decide), zCh_narrow hc, hqx⟩
        · rw [rAt_ge hj z] at hqx; exact hqx
    refine ⟨fun z => absurd z (nI_pos (by omega)), fun _ => ⟨fun c => ?_, fun c => ?_⟩⟩
    · have hne : r ≠ -1 := fun z => by rw [z] at c; exact absurd c (by decide)
      have h0 : r < 0 := Int32.lt_trans c (by decide)
      rw [if_neg hne] at hq
      unfold rcAt at hq
      rw [if_pos h0] at hq
      exact hq
    · rw [nI_clamp (by omega), s6]
      refine ⟨vp_in_nI (show q.1 < 8 by omega) (by decide), fun c2 => ⟨fun c3 => ?_, fun c3 => ?_⟩, fun c2 => ?_⟩
      · obtain ⟨n, hn, rfl⟩ := nI_of (Int32.not_lt.mpr c3)
        rw [nI_ltI (by omega) (by omega)] at c2
        have hne : nI n ≠ -1 := fun z => by rw [z] at c3; exact absurd c3 (by decide)
        rw [if_neg hne, rcAt_some c2 (by omega)] at hq
        exact k43 n _ (by omega) (s8 n c2).1 hq
      · have h0 : r < 0 := Int32.not_le.mp c3
        have hne : r = -1 := by
          apply Int32.toInt_inj.mp
          rw [Int32.lt_iff_toInt_lt] at c h0
          have e1 : (-1 : Int32).toInt = -1 := rfl
          have e2 : (0 : Int32).toInt = 0 := rfl
          rw [e1] at c ⊢
          rw [e2] at h0
          omega
        rw [if_pos hne] at hq
        exact k43 4 _ (by decide) s5 hq
      · have h0 : ¬ r < 0 := fun z => c2 (Int32.lt_of_lt_of_le z (nI_pos' (by omega)))
        obtain ⟨n, hn, rfl⟩ := nI_of h0
        rw [nI_ltI (by omega) (by omega)] at c2
        have hne : nI n ≠ -1 := fun z => by rw [z] at h0; exact absurd (by decide) h0
        rw [if_neg hne, rcAt_none (fun k hk e => by rw [nI_eq (by omega) (by omega)] at e; omega) (by omega)] at hq
        exact hq
theorem sp_M_recipient1 {d : Nat} {x r : Int32} {h : ZH} {P : List (Nat × ZL)} {Q : Int32 → ZH → Prop} (m : msp h P) (pw : (P.map Prod.snd).Pairwise (fun a b => a.1 < b.1)) (hq : Q (oRec (P.map Prod.snd) x r) h) : EvI (d + 1) m_M_recipient1 [vQ (some (12, 0)), vI x, vI r] h Q := by
  unfold oRec oRcp at hq
  refine e_M_recipient1 _ _ (sp_M_placeOf m pw (fun e => ?_) (fun q hqP hs e => ?_))
  · rw [e] at hq
    exact ⟨fun _ => hq, fun z => absurd (by decide) z⟩
  · rw [e] at hq
    have hq : Q (match rcAt q.2.2.2.2.1 r with | none => -1 | some p => nI p.2.1) h := hq
    obtain ⟨p6, sl⟩ := m.1 q hqP
    obtain ⟨s1, s2, s3, s4, s5, s6, s7, s8⟩ := sl
    refine ⟨fun z => absurd z (nI_pos (by omega)), fun _ => ⟨fun c => ?_, fun c => ?_⟩⟩
    · unfold rcAt at hq
      rw [if_pos c] at hq
      exact hq
    · obtain ⟨n, hn, rfl⟩ := nI_of c
      rw [nI_clamp (by omega), s6]
      refine ⟨vp_in_nI (show q.1 < 8 by omega) (by decide), pk_lt n q.2.2.2.2.1.length (fun z => ?_) (fun z => ?_)⟩
      · rw [rcAt_some z (by omega)] at hq
        rw [show (4 : Int32) * nI q.1 + nI n = nI (4 * q.1 + n) from nI_ma 4 q.1 n, nI_clamp (by omega), (s8 n z).2.1]
        exact ⟨vp_in_nI (show 4 * q.1 + n < 24 by omega) (by decide), hq⟩
      · rw [rcAt_none (fun k hk e => by rw [nI_eq (by omega) (by omega)] at e; omega) (by omega)] at hq
        exact hq
theorem sp_M_due {d : Nat} {x r : Int32} {h : ZH} {P : List (Nat × ZL)} {Q : Int32 → ZH → Prop} (m : msp h P) (pw : (P.map Prod.snd).Pairwise (fun a b => a.1 < b.1)) (hq : Q (oDue (P.map Prod.snd) x r) h) : EvI (d + 1) m_M_due [vQ (some (12, 0)), vI x, vI r] h Q := by
  unfold oDue oRcp at hq
  refine e_M_due _ _ (sp_M_placeOf m pw (fun e => ?_) (fun q hqP hs e => ?_))
  · rw [e] at hq
    exact ⟨fun _ => hq, fun z => absurd (by decide) z⟩
  · rw [e] at hq
    have hq : Q (match rcAt q.2.2.2.2.1 r with | none => -1 | some p => if p.2.1 < 4 then nI p.2.2 else -1) h := hq
    obtain ⟨p6, sl⟩ := m.1 q hqP
    obtain ⟨s1, s2, s3, s4, s5, s6, s7, s8⟩ := sl
    refine ⟨fun z => absurd z (nI_pos (by omega)), fun _ => ⟨fun c => ?_, fun c => ?_⟩⟩
    · unfold rcAt at hq
      rw [if_pos c] at hq
      exact hq
    · obtain ⟨n, hn, rfl⟩ := nI_of c
      rw [nI_clamp (by omega), s6]
      refine ⟨vp_in_nI (show q.1 < 8 by omega) (by decide), pk_le q.2.2.2.2.1.length n (fun z => ?_) (fun z => ?_)⟩
      · rw [rcAt_none (fun k hk e => by rw [nI_eq (by omega) (by omega)] at e; omega) (by omega)] at hq
        exact hq
      · rw [rcAt_some z (by omega)] at hq
        have hq : Q (if (q.2.2.2.2.1.getD n dP).2.1 < 4 then nI (q.2.2.2.2.1.getD n dP).2.2 else -1) h := hq
        obtain ⟨u1, u2, u3, u4, u5⟩ := s8 n z
        rw [show (4 : Int32) * nI q.1 + nI n = nI (4 * q.1 + n) from nI_ma 4 q.1 n, nI_clamp (by omega), u2, u4]
        refine ⟨vp_in_nI (show 4 * q.1 + n < 24 by omega) (by decide), pk_le (q.2.2.2.2.1.getD n dP).2.1 3 (fun z2 => ⟨vp_in_nI (show 4 * q.1 + n < 24 by omega) (by decide), ?_⟩) (fun z2 => ?_)⟩
        · rw [if_pos (by omega)] at hq; exact hq
        · rw [if_neg (by omega)] at hq; exact hq
