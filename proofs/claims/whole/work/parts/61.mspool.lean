/-! the model's spooling -/
theorem nI_ma (c a b : Nat) : nI c * nI a + nI b = nI (c * a + b) := by rw [pk_mul, nI_add]
def putP (q : Nat) : Nat → Nat → Nat → Prop := fun k i j => k = 13 ∧ ((i = 3 ∧ j = q) ∨ (i = 2 ∧ 602 * q ≤ j ∧ j < 602 * q + 602))
theorem sp_M_put {d q : Nat} {c : Int32} {h : ZH} {xs : ZT} {Q : ZH → Prop} (hq8 : q < 8) (a : tsIs h q xs) (hc : zCh c) (hq : ∀ h', tsIs h' q (xs ++ [c]) → zSa (putP q) h h' → Q h') : EvV d m_M_put [vQ (some (12, 0)), vI (nI q), vI c] h Q := by
  obtain ⟨a1, a2, a3⟩ := a
  have hch : ∀ x ∈ xs ++ [c], zCh x := fun x hx => by
    rcases List.mem_append.mp hx with z | z
    · exact a3 x z
    · rw [List.mem_singleton.mp z]; exact hc
  have hlen : (xs ++ [c]).length = xs.length + 1 := by rw [List.length_append]; rfl
  have i3 : vp_in (nI q) (zLen 13 3) := vp_in_nI (show q < 8 by omega) (by decide)
  refine e_M_put _ _ ?_
  rw [nI_clamp (by omega), a1]
  refine ⟨i3, pk_le 602 (min xs.length 602) (fun z => hq h ⟨?_, fun i hi hj => ?_, hch⟩ zSa.rfl) (fun z => ⟨i3, ?_⟩)⟩
  · rw [hlen, a1]
    congr 1
    omega
  · rw [getD_app1 (by omega)]
    exact a2 i (by omega) hj
  · rw [Nat.min_eq_left (by omega)] at z ⊢
    rw [show (602 : Int32) * nI q + nI xs.length = nI (602 * q + xs.length) from nI_ma 602 q _, nI_clamp (by omega)]
    refine ⟨vp_in_nI (show 602 * q + xs.length < 4816 by omega) (by decide), i3, i3, ?_⟩
    rw [zi_zw, if_neg (by omega), a1, Nat.min_eq_left (by omega), nI_inc]
    refine hq _ ⟨?_, fun i hi hj => ?_, hch⟩ ((zSa.rfl.w (by unfold putP; omega)).w (by unfold putP; omega))
    · rw [zi_zw, if_pos ⟨rfl, rfl, rfl⟩, hlen, Nat.min_eq_left (by omega)]
    · rw [zi_zw, if_neg (by omega), zi_zw]
      by_cases e : i = xs.length
      · rw [if_pos (by omega), e, getD_appG2]
      · rw [if_neg (by omega), getD_app1 (by omega)]
        exact a2 i (by omega) hj
def cpP (b : Nat) : Nat → Nat → Nat → Prop := fun k i j => k = 13 ∧ ((i = 5 ∧ j = b) ∨ (i = 4 ∧ 40 * b ≤ j ∧ j < 40 * b + 40))
theorem sp_M_copyPath {d a b : Nat} {h : ZH} {Q : ZH → Prop} (ha : a < 40) (hb : b < 40) (hab : a ≠ b) (hq : ∀ h', zi h' 13 5 b = zi h 13 5 a → (∀ i, i < 40 → zi h' 13 4 (40 * b + i) = zi h 13 4 (40 * a + i)) → zSa (cpP b) h h' → Q h') : EvV d m_M_copyPath [vQ (some (12, 0)), vI (nI a), vI (nI b)] h Q := by
  refine e_M_copyPath _ _ ?_
  rw [nI_clamp (by omega), nI_clamp (by omega)]
  refine ⟨vp_in_nI ha (by decide), vp_in_nI hb (by decide), ?_⟩
  have key : ∀ (n i : Nat) (g : ZH), i + n = 40 → zi g 13 5 b = zi h 13 5 a → (∀ j, j < i → zi g 13 4 (40 * b + j) = zi h 13 4 (40 * a + j)) → zSa (cpP b) h g → EvAt d m_M_copyPath 14 [some (vQ (some (12, 0))), some (vI (nI a)), some (vI (nI b)), some (vI (nI i))] [] g (zQV Q) := by
    intro n
    induction n with
    | zero =>
      intro i g hi e5 e4 s
      have : i = 40 := by omega
      subst this
      exact w_M_copyPath_14 _ _ _ (pk_le 40 40 (fun _ => hq g e5 e4 s) (fun z => by omega))
    | succ n ih =>
      intro i g hi e5 e4 s
      refine w_M_copyPath_14 _ _ _ (pk_le 40 i (fun z => by omega) (fun _ => ?_))
      rw [show (40 : Int32) * nI a + nI i = nI (40 * a + i) from nI_ma 40 a i, show (40 : Int32) * nI b + nI i = nI (40 * b + i) from nI_ma 40 b i, nI_clamp (by omega), nI_clamp (by omega), nI_inc]
      refine ⟨vp_in_nI (show 40 * a + i < 1600 by omega) (by decide), vp_in_nI (show 40 * b + i < 1600 by omega) (by decide), ih (i + 1) _ (by omega) ?_ (fun j hj => ?_) (s.w (by unfold cpP; omega))⟩
      · rw [zi_zw, if_neg (by omega)]; exact e5
      · rw [zi_zw]
        by_cases e : j = i
        · rw [if_pos (by omega), e]
          exact s.1 13 4 _ (by unfold cpP; omega)
        · rw [if_neg (by omega)]
          exact e4 j (by omega)
  exact key 40 0 _ rfl (by rw [zi_zw, if_pos ⟨rfl, rfl, rfl⟩]) (fun j hj => by omega) (zSa.rfl.w (by unfold cpP; omega))
theorem ptIs.copied {h h' : ZH} {a b : Nat} {xs : ZT} (w : ptIs h a xs) (e5 : zi h' 13 5 b = zi h 13 5 a) (e4 : ∀ i, i < 40 → zi h' 13 4 (40 * b + i) = zi h 13 4 (40 * a + i)) : ptIs h' b xs :=
  ⟨by rw [e5]; exact w.1, w.2.1, fun i hi => by rw [e4 i (by have := w.2.1; omega)]; exact w.2.2.1 i hi, w.2.2.2⟩
theorem zw_id (h : ZH) (k i j : Nat) {x : Int32} (e : zi h k i j = x) : zw h k i j x = h := by
  refine Prod.ext ?_ rfl
  funext a b c
  show (if a = k ∧ b = i ∧ c = j then x else h.1 a b c) = h.1 a b c
  by_cases z : a = k ∧ b = i ∧ c = j
  · rw [if_pos z, z.1, z.2.1, z.2.2]
    exact e.symm
  · rw [if_neg z]
theorem msp.free {h : ZH} {P : List (Nat × ZL)} (a : msp h P) (h6 : P.length < 6) : ∃ p, p < 6 ∧ p ∉ P.map Prod.fst := by
  have tot := cntF_mem 6 0 (P.map Prod.fst) a.2.1 (fun x hx => by
    obtain ⟨q, hq, e⟩ := List.mem_map.mp hx
    have := (a.1 q hq).1
    omega)
  rw [List.length_map] at tot
  apply Classical.byContradiction
  intro z
  have h2 : ∀ p, p < 6 → p ∈ P.map Prod.fst := fun p hp => Classical.byContradiction (fun y => z ⟨p, hp, y⟩)
  have h3 : cntF (fun i => decide (i ∈ P.map Prod.fst)) 6 0 = cntF (fun _ => true) 6 0 := cntF_congr 6 0 (fun i h1 h2' => decide_eq_true (h2 i (by omega)))
  have h4 : cntF (fun _ => true) 6 0 = 6 := rfl
  omega
theorem msp.push {h g : ZH} {P : List (Nat × ZL)} {p : Nat} {l : ZL} {C : Nat → Nat → Nat → Prop} (a : msp h P) (hp : p < 6) (hn : p ∉ P.map Prod.fst) (s : zSa C h g) (hC : ∀ p', p' < 6 → p' ≠ p → ∀ k i j, slP p' k i j → ¬ C k i j) (hl : slIs g p l) : msp g (P ++ [(p, l)]) := by
  refine ⟨fun q hq => ?_, ?_, fun p' hp' hn' => ?_⟩
  · rcases List.mem_append.mp hq with z | z
    · obtain ⟨b1, b2⟩ := a.1 q z
      refine ⟨b1, b2.kept s (hC q.1 b1 (fun e => hn (List.mem_map.mpr ⟨q, z, e⟩)))⟩
    · rw [List.mem_singleton.mp z]
      exact ⟨hp, hl⟩
  · rw [List.map_append]
    refine List.nodup_append.mpr ⟨a.2.1, by simp, fun x hx y hy e => ?_⟩
    have : y = p := List.mem_singleton.mp hy
    rw [e, this] at hx
    exact hn hx
  · rw [List.map_append, List.mem_append, not_or] at hn'
    have hne : p' ≠ p := fun e => hn'.2 (by rw [e]; exact List.mem_singleton.mpr rfl)
    rw [s.1 13 1 p' (hC p' hp' hne _ _ _ (by unfold slP; omega))]
    exact a.2.2 p' hp' hn'.1
