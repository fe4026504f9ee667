/-- what stands at place q is to be spooled -/
def srcM (h : ZH) (q : Nat) (snd : ZT) (rcs : List ZT) (tx : ZT) : Prop := tsIs h q tx ∧ tx.length ≤ 600 ∧ ptIs h (5 * q + 4) snd ∧ zi h 13 6 q = nI rcs.length ∧ rcs.length ≤ 4 ∧ ∀ r, r < rcs.length → ptIs h (5 * q + r) (rcs.getD r [])
def spF2 (p : Nat) : Nat → Nat → Nat → Prop := fun k i j => (k = 12 ∧ (j = 2 ∨ j = 3)) ∨ slP p k i j
theorem mkRc_getD {rcs : List ZT} {now r : Nat} (hr : r < rcs.length) : (mkRc rcs now).getD r dP = (rcs.getD r [], 0, now) := by
  unfold mkRc
  rw [List.getD_eq_getElem?_getD, List.getD_eq_getElem?_getD, List.getElem?_map, List.getElem?_eq_getElem hr]
  rfl
/-- the copying of the text -/
theorem spool_71 {d p q : Nat} {h : ZH} {Q : Int32 → ZH → Prop} (hp : p < 6) (hq6 : 6 ≤ q) (hq8 : q < 8) (K : ∀ g, (∀ j, j < 600 → zi g 13 2 (602 * p + j) = zi h 13 2 (602 * q + j)) → zSa (fun k i j => k = 13 ∧ ((i = 2 ∧ 602 * p ≤ j ∧ j < 602 * p + 602) ∨ (i = 6 ∧ j = p))) h g → zi g 13 6 p = zi h 13 6 q → EvAt (d + 1) m_M_spool 126 [some (vQ (some (12, 0))), some (vI (nI q)), none, some (vI (nI p)), some (vI (0 : Int32))] [] g (zQI Q)) :
    ∀ (n i : Nat) (g : ZH), i + n = 600 → (∀ j, j < i → zi g 13 2 (602 * p + j) = zi h 13 2 (602 * q + j)) → zSa (fun k i j => k = 13 ∧ ((i = 2 ∧ 602 * p ≤ j ∧ j < 602 * p + 602) ∨ (i = 6 ∧ j = p))) h g → EvAt (d + 1) m_M_spool 71 [some (vQ (some (12, 0))), some (vI (nI q)), none, some (vI (nI p)), some (vI (nI i))] [] g (zQI Q) := by
  intro n
  induction n with
  | zero =>
    intro i g hi e s
    have : i = 600 := by omega
    subst this
    refine w_M_spool_71 _ _ _ (pk_le 600 600 (fun _ => ?_) (fun z => by omega))
    rw [nI_clamp (by omega), nI_clamp (by omega)]
    refine ⟨vp_in_nI (show q < 8 by omega) (by decide), vp_in_nI (show p < 8 by omega) (by decide), K _ (fun j hj => ?_) (s.w (by omega)) ?_⟩
    · rw [zi_zw, if_neg (by omega)]; exact e j hj
    · rw [zi_zw, if_pos ⟨rfl, rfl, rfl⟩]
      exact s.1 13 6 q (by omega)
  | succ n ih =>
    intro i g hi e s
    refine w_M_spool_71 _ _ _ (pk_le 600 i (fun z => by omega) (fun _ => ?_))
    rw [show (602 : Int32) * nI q + nI i = nI (602 * q + i) from nI_ma 602 q i, show (602 : Int32) * nI p + nI i = nI (602 * p + i) from nI_ma 602 p i, nI_clamp (by omega), nI_clamp (by omega), nI_inc]
    refine ⟨vp_in_nI (show 602 * q + i < 4816 by omega) (by decide), vp_in_nI (show 602 * p + i < 4816 by omega) (by decide), ih (i + 1) _ (by omega) (fun j hj => ?_) (s.w (by omega))⟩
    rw [zi_zw]
    by_cases e2 : j = i
    · rw [if_pos (by omega), e2]
      exact s.1 13 2 _ (by omega)
    · rw [if_neg (by omega)]
      exact e j (by omega)
/-- the copying of the paths -/
theorem spool_126 {d p q : Nat} {h : ZH} {Q : Int32 → ZH → Prop} (hp : p < 6) (hq6 : 6 ≤ q) (hq8 : q < 8) (K : ∀ g, (∀ r, r < 5 → zi g 13 5 (5 * p + r) = zi h 13 5 (5 * q + r) ∧ ∀ i, i < 40 → zi g 13 4 (40 * (5 * p + r) + i) = zi h 13 4 (40 * (5 * q + r) + i)) → zSa (fun k i j => k = 13 ∧ ((i = 5 ∧ 5 * p ≤ j ∧ j < 5 * p + 5) ∨ (i = 4 ∧ 200 * p ≤ j ∧ j < 200 * p + 200))) h g → EvAt (d + 1) m_M_spool 157 [some (vQ (some (12, 0))), none, none, some (vI (nI p)), some (vI (0 : Int32))] [] g (zQI Q)) :
    ∀ (n i : Nat) (g : ZH), i + n = 5 → (∀ r, r < i → zi g 13 5 (5 * p + r) = zi h 13 5 (5 * q + r) ∧ ∀ i, i < 40 → zi g 13 4 (40 * (5 * p + r) + i) = zi h 13 4 (40 * (5 * q + r) + i)) → zSa (fun k i j => k = 13 ∧ ((i = 5 ∧ 5 * p ≤ j ∧ j < 5 * p + 5) ∨ (i = 4 ∧ 200 * p ≤ j ∧ j < 200 * p + 200))) h g → EvAt (d + 1) m_M_spool 126 [some (vQ (some (12, 0))), some (vI (nI q)), none, some (vI (nI p)), some (vI (nI i))] [] g (zQI Q) := by
  intro n
  induction n with
  | zero =>
    intro i g hi e s
    have : i = 5 := by omega
    subst this
    exact w_M_spool_126 _ _ _ (pk_le 5 5 (fun _ => K g e s) (fun z => by omega))
  | succ n ih =>
    intro i g hi e s
    refine w_M_spool_126 _ _ _ (pk_le 5 i (fun z => by omega) (fun _ => ?_))
    rw [show (5 : Int32) * nI q + nI i = nI (5 * q + i) from nI_ma 5 q i, show (5 : Int32) * nI p + nI i = nI (5 * p + i) from nI_ma 5 p i]
    refine sp_M_copyPath (by omega) (by omega) (by omega) (fun g' e5 e4 s' => ?_)
    rw [nI_inc]
    refine ih (i + 1) g' (by omega) (fun r hr => ?_) (s.trans (s'.mono (fun k i j z => by unfold cpP at z; omega)))
    by_cases e2 : r = i
    · subst e2
      refine ⟨?_, fun x hx => ?_⟩
      · rw [e5]; exact s.1 13 5 _ (by omega)
      · rw [e4 x hx]; exact s.1 13 4 _ (by omega)
    · obtain ⟨f1, f2⟩ := e r (by omega)
      refine ⟨?_, fun x hx => ?_⟩
      · rw [s'.1 13 5 _ (by unfold cpP; omega)]; exact f1
      · rw [s'.1 13 4 _ (by unfold cpP; omega)]; exact f2 x hx
