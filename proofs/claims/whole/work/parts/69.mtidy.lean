/-! the model's reply: what it changes -/
theorem awF_take {rc : List ZP} : ∀ (r : Nat), r ≤ rc.length → r < rc.length → awF (rc.take (r + 1)) = (awF (rc.take r) || decide ((rc.getD r dP).2.1 < 4)) := by
  induction rc with
  | nil => intro r _ h; exact absurd h (Nat.not_lt_zero _)
  | cons p t ih =>
    intro r h1 h2
    cases r with
    | zero =>
      rw [List.take_succ_cons, List.take_zero, List.take_zero]
      show (decide (p.2.1 < 4) || awF []) = (awF [] || decide (p.2.1 < 4))
      rw [Bool.or_comm]
    | succ r =>
      rw [List.length_cons] at h1 h2
      rw [List.take_succ_cons, List.take_succ_cons]
      show (decide (p.2.1 < 4) || awF (t.take (r + 1))) = ((decide (p.2.1 < 4) || awF (t.take r)) || decide ((t.getD r dP).2.1 < 4))
      rw [ih r (by omega) (by omega), Bool.or_assoc]
theorem sp_M_tidy {d p : Nat} {h : ZH} {l : ZL} {Q : ZH → Prop} (hp : p < 6) (a : slIs h p l) (h1 : awF l.2.2.2.1 = true → Q h) (h0 : awF l.2.2.2.1 = false → Q (zw h 13 1 p (-1))) : EvV d m_M_tidy [vQ (some (12, 0)), vI (nI p)] h Q := by
  obtain ⟨s1, s2, s3, s4, s5, s6, s7, s8⟩ := a
  have loop : ∀ (n r : Nat), r + n = l.2.2.2.1.length → EvAt d m_M_tidy 4 [some (vQ (some (12, 0))), some (vI (nI p)), some (vI (bI (awF (l.2.2.2.1.take r)))), some (vI (nI r))] [] h (zQV Q) := by
    intro n
    induction n with
    | zero =>
      intro r hr
      have : r = l.2.2.2.1.length := by omega
      subst this
      refine w_M_tidy_4 _ _ _ ?_
      rw [nI_clamp (by omega), s6, List.take_length]
      refine ⟨vp_in_nI (show p < 8 by omega) (by decide), pk_le l.2.2.2.1.length l.2.2.2.1.length (fun _ => ⟨fun c => ⟨vp_in_nI (show p < 6 by omega) (by decide), h0 ((bI_0 _).mp c)⟩, fun c => ⟨vp_in_nI (show p < 6 by omega) (by decide), vp_in_nI (show p < 6 by omega) (by decide), ?_⟩⟩) (fun z => (by omega))⟩
      rw [zw_id h 13 1 p rfl]
      exact h1 (bI_t c)
    | succ n ih =>
      intro r hr
      have hr2 : r < l.2.2.2.1.length := by omega
      obtain ⟨-, t1, t2, t3, t4⟩ := s8 r hr2
      have nx := ih (r + 1) (by omega)
      rw [awF_take r (by omega) hr2] at nx
      have k32 : (awF (l.2.2.2.1.take r) || decide ((l.2.2.2.1.getD r dP).2.1 < 4)) = true → EvAt d m_M_tidy 32 [some (vQ (some (12, 0))), some (vI (nI p)), none, some (vI (nI r))] [] h (zQV Q) := by
        intro z
        rw [z] at nx
        refine w_M_tidy_32 _ _ (w_M_tidy_37 _ _ _ ?_)
        rw [nI_inc]
        exact nx
      refine w_M_tidy_4 _ _ _ ?_
      have ex : (4 : Int32) * nI p + nI r = nI (4 * p + r) := nI_ma 4 p r
      rw [ex, nI_clamp (show p < 2 ^ 31 by omega), nI_clamp (show 4 * p + r < 2 ^ 31 by omega), s6, t1]
      refine ⟨vp_in_nI (show p < 8 by omega) (by decide), pk_le l.2.2.2.1.length r (fun z => absurd hr2 (by omega)) (fun _ => ⟨fun c => k32 (by rw [bI_t c]; rfl), fun c => ⟨vp_in_nI (show 4 * p + r < 24 by omega) (by decide), pk_le 4 (l.2.2.2.1.getD r dP).2.1 (fun z => w_M_tidy_37 _ _ _ ?_) (fun z => k32 (by rw [decide_eq_true (show (l.2.2.2.1.getD r dP).2.1 < 4 by omega), Bool.or_true]))⟩⟩)⟩
      rw [(bI_0 _).mp c, decide_eq_false (show ¬ (l.2.2.2.1.getD r dP).2.1 < 4 by omega)] at nx
      rw [nI_inc]
      exact nx
  exact e_M_tidy _ (loop _ 0 (Nat.zero_add _))
theorem nd_ne {P : List (Nat × ZL)} (h : (P.map Prod.fst).Nodup) {i j : Nat} (hi : i < P.length) (hj : j < P.length) (e : i ≠ j) : P[i].1 ≠ P[j].1 := by
  have pw := List.pairwise_iff_getElem.mp h
  rcases Nat.lt_or_ge i j with z | z
  · have := pw i j (by rw [List.length_map]; exact hi) (by rw [List.length_map]; exact hj) z
    rw [List.getElem_map, List.getElem_map] at this
    exact this
  · have := pw j i (by rw [List.length_map]; exact hj) (by rw [List.length_map]; exact hi) (by omega)
    rw [List.getElem_map, List.getElem_map] at this
    exact fun y => this y.symm
theorem msp.set {h h' : ZH} {P : List (Nat × ZL)} {j p : Nat} {C : Nat → Nat → Nat → Prop} {l' : ZL} (m : msp h P) (hj : j < P.length) (hp : P[j].1 = p) (s : zSa C h h') (hC : ∀ p', p' < 6 → p' ≠ p → ∀ k i j, slP p' k i j → ¬ C k i j) (sl : slIs h' p l') : msp h' (P.set j (p, l')) := by
  have hfst : (P.set j (p, l')).map Prod.fst = P.map Prod.fst := by
    rw [List.map_set]
    have : (P.map Prod.fst)[j]'(by rw [List.length_map]; exact hj) = p := by rw [List.getElem_map]; exact hp
    show (P.map Prod.fst).set j p = _
    rw [← this, List.set_getElem_self]
  refine ⟨fun q hq => ?_, by rw [hfst]; exact m.2.1, fun p' hp6 hn => ?_⟩
  · obtain ⟨i, hi, e⟩ := List.getElem_of_mem hq
    rw [List.length_set] at hi
    rw [List.getElem_set] at e
    split at e
    · rw [← e]
      refine ⟨?_, sl⟩
      show p < 6
      rw [← hp]
      exact (m.1 _ (List.getElem_mem hj)).1
    · rename_i ne
      have hm := m.1 _ (List.getElem_mem hi)
      rw [← e]
      refine ⟨hm.1, hm.2.kept s (hC _ hm.1 ?_)⟩
      rw [← hp]
      exact nd_ne m.2.1 hi hj (fun z => ne z.symm)
  · rw [hfst] at hn
    have hne : p' ≠ p := fun z => hn (List.mem_map.mpr ⟨P[j], List.getElem_mem hj, by rw [hp, z]⟩)
    rw [s.1 13 1 p' (hC p' hp6 hne _ _ _ slP_1)]
    exact m.2.2 p' hp6 hn
theorem slP_ne2 {p p' : Nat} (hne : p' ≠ p) : ∀ k i j, slP p' k i j → ¬ slP p k i j := fun k i j z y => slP_ne hne k i j z (Or.inr y)
theorem msp.drop {h : ZH} {P : List (Nat × ZL)} {j p : Nat} (m : msp h P) (hj : j < P.length) (hp : P[j].1 = p) : msp (zw h 13 1 p (-1)) (P.eraseIdx j) := by
  have s : zSa (slP p) h (zw h 13 1 p (-1)) := zSa.rfl.w slP_1
  refine ⟨fun q hq => ?_, List.Sublist.nodup (List.Sublist.map _ (List.eraseIdx_sublist P j)) m.2.1, fun p' hp6 hn => ?_⟩
  · obtain ⟨i, hi, ne, e⟩ := List.mem_eraseIdx_iff_getElem.mp hq
    have hm := m.1 _ (List.getElem_mem hi)
    rw [← e]
    refine ⟨hm.1, hm.2.kept s (slP_ne2 ?_)⟩
    rw [← hp]
    exact nd_ne m.2.1 hi hj ne
  · rw [zi_zw]
    split
    · rfl
    · rename_i ne
      refine m.2.2 p' hp6 (fun z => hn ?_)
      obtain ⟨q, hq, e⟩ := List.mem_map.mp z
      obtain ⟨i, hi, e2⟩ := List.getElem_of_mem hq
      refine List.mem_map.mpr ⟨q, List.mem_eraseIdx_iff_getElem.mpr ⟨i, hi, ?_, e2⟩, e⟩
      intro y
      subst y
      exact ne ⟨rfl, rfl, by rw [← e, ← e2]; exact hp⟩
/-- the cells of a recipient's fate -/
def fcP (p r : Nat) : Nat → Nat → Nat → Prop := fun k i j => (k = 12 ∧ j = 3) ∨ (k = 13 ∧ (i = 7 ∨ i = 8) ∧ j = 4 * p + r)
theorem fcP_sl {p r : Nat} (hr : r < 4) : ∀ k i j, fcP p r k i j → spF2 p k i j := by
  rintro k i j (⟨rfl, z⟩ | ⟨rfl, z, rfl⟩)
  · exact Or.inl ⟨rfl, Or.inr z⟩
  · exact Or.inr (slP_78 z (by omega))
theorem setRc {rc : List ZP} {r r' : Nat} {x : ZP} (hr : r < rc.length) : (rc.set r x).getD r' dP = if r' = r then x else rc.getD r' dP := setGetD hr
theorem slIs.upd {h g : ZH} {p r : Nat} {l : ZL} {x : ZP} (a : slIs h p l) (hr : r < l.2.2.2.1.length) (hx : x.1 = (l.2.2.2.1.getD r dP).1) (s : zSa (fcP p r) h g) (e7 : zi g 13 7 (4 * p + r) = nI x.2.1) (e8 : zi g 13 8 (4 * p + r) = nI x.2.2) (b7 : x.2.1 < 2 ^ 30) (b8 : x.2.2 < 2 ^ 30) : slIs g p (l.1, l.2.1, l.2.2.1, l.2.2.2.1.set r x, l.2.2.2.2) := by
  obtain ⟨a1, a2, a3, ⟨a4, a5⟩, a6, a7, a8, a9⟩ := a
  refine ⟨by rw [s.1 13 1 p (by unfold fcP; omega)]; exact a1, a2, by rw [s.1 14 0 p (by unfold fcP; omega)]; exact a3, ⟨a4.kept s (by unfold fcP; omega) (fun i hi => by unfold fcP; omega), a5⟩, a6.kept s (by unfold fcP; omega) (fun i hi => by unfold fcP; omega), by rw [s.1 13 6 p (by unfold fcP; omega)]; show _ = nI (l.2.2.2.1.set r x).length; rw [List.length_set]; exact a7, by show (l.2.2.2.1.set r x).length ≤ 4; rw [List.length_set]; exact a8, fun r' hr' => ?_⟩
  have hr' : r' < (l.2.2.2.1.set r x).length := hr'
  rw [List.length_set] at hr'
  show rpIs g p r' ((l.2.2.2.1.set r x).getD r' dP)
  rw [setRc hr]
  obtain ⟨c1, c2, c3, c4, c5⟩ := a9 r' hr'
  by_cases e : r' = r
  · subst e
    rw [if_pos rfl]
    exact ⟨by rw [hx]; exact c1.kept s (by unfold fcP; omega) (fun i hi => by unfold fcP; omega), e7, b7, e8, b8⟩
  · rw [if_neg e]
    exact ⟨c1.kept s (by unfold fcP; omega) (fun i hi => by unfold fcP; omega), by rw [s.1 13 7 _ (by unfold fcP; omega)]; exact c2, c3, by rw [s.1 13 8 _ (by unfold fcP; omega)]; exact c4, c5⟩
/-- the change of a letter's place: the state -/
theorem RM_sp {h g : ZH} {p : Nat} {now given given' : Nat} {wr w2 : Option Nat} {line : ZT} {gr bg tk : Bool} {snd : ZT} {rcs : List ZT} {tx : ZT} {L L' : List ZL} (a : RM h (true, now, given, wr, line, gr, bg, tk, snd, rcs, tx, L)) (hp : p < 6) (s : zSa (spF2 p) h g) (e2 : zi g 12 0 2 = nI given') (hg : given' < 2 ^ 29) (e3 : zi g 12 0 3 = wrE w2) (hb : ∀ n, w2 = some n → n ≤ 20) (sp : spM g given' L') : RM g (true, now, given', w2, line, gr, bg, tk, snd, rcs, tx, L') := by
  obtain ⟨a1, a2, a3, a4, a5, a6, a7, a8⟩ := a
  have f : ∀ j, j ≠ 2 → j ≠ 3 → zi g 12 0 j = zi h 12 0 j := fun j y1 y2 => s.1 12 0 j (by
    rintro (⟨-, z⟩ | z)
    · omega
    · have := slP_12 z
      omega)
  exact ⟨by rw [f 0 (by decide) (by decide)]; exact a1, by rw [f 1 (by decide) (by decide)]; exact a2, a3, e2, hg, fun z => (by cases z), seM_spF2 hp a7 s e3 hb, sp⟩
theorem pw_set {L : List ZL} {j : Nat} {l' : ZL} (pw : L.Pairwise (fun a b => a.1 < b.1)) (hj : j < L.length) (e : l'.1 = L[j].1) : (L.set j l').Pairwise (fun a b => a.1 < b.1) := by
  have : (L.set j l').map Prod.fst = L.map Prod.fst := by
    rw [List.map_set]
    have e2 : (L.map Prod.fst)[j]'(by rw [List.length_map]; exact hj) = l'.1 := by rw [List.getElem_map]; exact e.symm
    rw [← e2, List.set_getElem_self]
  have h2 : (L.map Prod.fst).Pairwise (fun a b => a < b) := List.pairwise_map.mpr pw
  rw [← this] at h2
  exact List.pairwise_map.mp h2
theorem spM.set {h g : ZH} {P : List (Nat × ZL)} {given j : Nat} {l' : ZL} {p : Nat} (a : spM h given (P.map Prod.snd)) (hj : j < P.length) (e : l'.1 = (P[j]).2.1) (m : msp g (P.set j (p, l'))) : spM g given ((P.map Prod.snd).set j l') := by
  have hj2 : j < (P.map Prod.snd).length := by rw [List.length_map]; exact hj
  have e2 : l'.1 = ((P.map Prod.snd)[j]).1 := by rw [List.getElem_map]; exact e
  refine ⟨⟨_, m, by rw [List.map_set]⟩, pw_set a.2.1 hj2 e2, fun l hl => ?_⟩
  rcases List.mem_or_eq_of_mem_set hl with z | z
  · exact a.2.2 l z
  · rw [z, e2]
    exact a.2.2 _ (List.getElem_mem hj2)
theorem map_eraseI {α β : Type} (f : α → β) : ∀ (l : List α) (j : Nat), (l.eraseIdx j).map f = (l.map f).eraseIdx j
  | [], _ => rfl
  | _ :: _, 0 => rfl
  | a :: t, j + 1 => by
    show f a :: (t.eraseIdx j).map f = f a :: (t.map f).eraseIdx j
    rw [map_eraseI f t j]
theorem spM.erase {h : ZH} {P : List (Nat × ZL)} {given j p : Nat} (m : msp h P) (a : spM h given (P.map Prod.snd)) (hj : j < P.length) (hp : P[j].1 = p) : spM (zw h 13 1 p (-1)) given ((P.map Prod.snd).eraseIdx j) :=
  ⟨⟨_, m.drop hj hp, map_eraseI ..⟩, a.2.1.sublist (List.eraseIdx_sublist ..), fun l hl => a.2.2 l ((List.eraseIdx_sublist ..).subset hl)⟩
