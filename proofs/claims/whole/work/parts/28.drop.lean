def kpt (k i : Nat) : Nat := if i ≤ k then i else i - 1
def rwv (π : Nat → Nat) (k i j : Nat) : Nat := if j < kpt k i then (if j < k then π j else π (j + 1)) else π j
def sgm (n k j : Nat) : Nat := if j = n - 1 then k else if j < n - 1 then (if j < k then j else j + 1) else j
theorem sgm_lt {n k j : Nat} (hk : k < n) (hn : n ≤ 6) (hj : j < 6) : sgm n k j < 6 := by
  unfold sgm
  split
  · omega
  · split
    · split <;> omega
    · omega
theorem sgm_inj {n k i j : Nat} (hk : k < n) (e : sgm n k i = sgm n k j) : i = j := by
  unfold sgm at e
  grind
theorem rwv_sgm (π : Nat → Nat) {n k j : Nat} (hk : k < n) (e : j ≠ n - 1) : rwv π k n j = π (sgm n k j) := by
  unfold rwv sgm
  have hkp : kpt k n = n - 1 := by unfold kpt; rw [if_neg (by omega)]
  rw [hkp, if_neg e]
  by_cases h1 : j < n - 1
  · rw [if_pos h1, if_pos h1]
    by_cases h2 : j < k
    · rw [if_pos h2, if_pos h2]
    · rw [if_neg h2, if_neg h2]
  · rw [if_neg h1, if_neg h1]
theorem eraseIdx_getD {L : List ZL} {k j : Nat} (hj : j < L.length - 1) (hk : k < L.length) : (L.eraseIdx k).getD j dL = if j < k then L.getD j dL else L.getD (j + 1) dL := by
  rw [List.getD_eq_getElem?_getD, List.getElem?_eraseIdx]
  split
  · rw [List.getD_eq_getElem?_getD]
  · rw [List.getD_eq_getElem?_getD]
theorem sp_O_drop {d k : Nat} {h : ZH} {π : Nat → Nat} {L : List ZL} {Q : ZH → Prop} (a : spIs h π L) (hk : k < L.length)
    (hq : ∀ h' π', spIs h' π' (L.eraseIdx k) → (∀ x y z, ¬ (x = 5 ∧ y = 0 ∧ z = 1) → zi h' x y z = zi h x y z) → (∀ x y z, x ≠ 6 → zr h' x y z = zr h x y z) → Q h') : EvV d m_O_drop [vQ (some (5, 0)), vQ (some (7, π k))] h Q := by
  have hL := a.2.1
  have hk6 := (a.2.2.1 k (by omega)).2
  have key : ∀ (n i : Nat) (g : ZH), L.length - i = n → i ≤ L.length → (∀ x y z, zi g x y z = zi h x y z) → (∀ x y z, x ≠ 6 → zr g x y z = zr h x y z) → (∀ j, j < 6 → zr g 6 0 j = some (rwv π k i j)) → EvAt d m_O_drop 4 [some (vQ (some (5, 0))), some (vQ (some (7, π k))), some (vI (nI (kpt k i))), some (vI (nI i)), none] [] g (zQV Q) := by
    intro n
    induction n with
    | zero =>
      intro i g hn hi hI hR hrow
      have hi : i = L.length := by omega
      subst hi
      have hkp : kpt k L.length = L.length - 1 := by unfold kpt; rw [if_neg (by omega)]
      rw [hkp]
      refine w_O_drop_4 (π k) _ _ hk6 ⟨fun _ => ⟨fun c => ?_, fun _ => ⟨vp_in_nI (by omega) (by omega), ?_⟩⟩, fun c => ?_⟩
      · rw [hI, a.1] at c
        exact absurd ((nI_leI (by omega) (by omega)).mp c) (by omega)
      · rw [nI_clamp (show L.length - 1 < 2 ^ 31 by omega)]
        refine hq _ (fun j => π (sgm L.length k j)) ⟨?_, ?_, fun j hj => ?_, fun i j hi hj e => ?_, fun j hj => ?_⟩ (fun x y z hne => ?_) (fun x y z hx => ?_)
        · rw [zi_zw, if_pos ⟨rfl, rfl, rfl⟩, List.length_eraseIdx_of_lt hk]
        · rw [List.length_eraseIdx_of_lt hk]; omega
        · refine ⟨?_, (a.2.2.1 _ (sgm_lt hk hL hj)).2⟩
          rw [zr_zw, zr_zwr]
          by_cases e : j = L.length - 1
          · rw [if_pos ⟨rfl, rfl, e⟩]
            show some (π k) = some (π (sgm L.length k j))
            unfold sgm
            rw [if_pos e]
          · rw [if_neg (by omega), hrow j hj, rwv_sgm π hk e]
        · exact sgm_inj hk (a.2.2.2.1 _ _ (sgm_lt hk hL hi) (sgm_lt hk hL hj) e)
        · rw [List.length_eraseIdx_of_lt hk] at hj
          rw [eraseIdx_getD hj hk]
          have hI2 : ∀ x y z, x ≠ 5 → zi (zw (zwr g 6 0 (L.length - 1) (some (π k))) 5 0 1 (nI (L.length - 1))) x y z = zi h x y z := by
            intro x y z hx
            rw [zi_zw, if_neg (by omega), zi_zwr, hI]
          have e2 : sgm L.length k j = if j < k then j else j + 1 := by
            unfold sgm
            rw [if_neg (by omega), if_pos hj]
          show ltIs _ (π (sgm L.length k j)) _
          rw [e2]
          split
          · exact (a.2.2.2.2 j (by omega)).keptI hI2
          · exact (a.2.2.2.2 (j + 1) (by omega)).keptI hI2
        · rw [zi_zw, if_neg hne, zi_zwr, hI]
        · rw [zr_zw, zr_zwr, if_neg (by omega)]
          exact hR x y z hx
      · rw [hI, a.1] at c
        exact absurd ((nI_leI (by omega) (by omega)).mpr (Nat.le_refl _)) c
    | succ n ih =>
      intro i g hn hi hI hR hrow
      have hv : rwv π k i i = π i := by
        unfold rwv kpt
        split <;> split <;> omega
      have hzr : zr g 6 0 (nI i).toNatClampNeg = some (π i) := by
        rw [nI_clamp (by omega), hrow i (by omega), hv]
      refine w_O_drop_4 (π k) _ _ hk6 ⟨fun c => ?_, fun _ => ⟨vp_in_nI (by omega) (by omega), π i, hzr, (a.2.2.1 i (by omega)).2, fun e => ?_, fun e => ⟨vp_in_nI (show kpt k i < 6 by unfold kpt; split <;> omega) (by omega), ?_⟩⟩⟩
      · rw [hI, a.1] at c
        exact absurd ((nI_leI (by omega) (by omega)).mp c) (by omega)
      · have hik : i = k := a.2.2.2.1 i k (by omega) (by omega) e
        subst hik
        refine w_O_drop_37 (π i) _ _ hk6 ?_
        rw [nI_inc]
        have e1 : kpt i i = kpt i (i + 1) := by unfold kpt; rw [if_pos (Nat.le_refl _), if_neg (by omega)]; omega
        rw [e1]
        refine ih (i + 1) g (by omega) (by omega) hI hR (fun j hj => ?_)
        rw [hrow j hj]
        unfold rwv
        rw [e1]
      · have hik : i ≠ k := fun z => e (by rw [z])
        have e1 : kpt k i + 1 = kpt k (i + 1) := by unfold kpt; split <;> split <;> omega
        refine w_O_drop_37 (π k) _ _ hk6 ?_
        rw [nI_inc, nI_inc, e1]
        have hkp : kpt k i < 6 := by unfold kpt; split <;> omega
        refine ih (i + 1) _ (by omega) (by omega) (fun x y z => by rw [zi_zwr]; exact hI x y z) (fun x y z hx => ?_) (fun j hj => ?_)
        · rw [zr_zwr, if_neg (by omega)]
          exact hR x y z hx
        · rw [zr_zwr, nI_clamp (show kpt k i < 2 ^ 31 by omega)]
          by_cases ej : j = kpt k i
          · rw [if_pos ⟨rfl, rfl, ej⟩]
            unfold rwv
            rw [← e1, if_pos (by omega)]
            unfold kpt at ej
            split at ej
            · rw [if_pos (by omega), ej]
            · rw [if_neg (by omega), show j + 1 = i by omega]
          · rw [if_neg (by omega), hrow j hj]
            unfold rwv
            rw [← e1]
            by_cases hlt : j < kpt k i
            · rw [if_pos hlt, if_pos (show j < kpt k i + 1 by omega)]
            · rw [if_neg hlt, if_neg (show ¬ j < kpt k i + 1 by omega)]
  have k0 : kpt k 0 = 0 := by unfold kpt; rw [if_pos (Nat.zero_le _)]
  have := key _ 0 h rfl (Nat.zero_le _) (fun _ _ _ => rfl) (fun _ _ _ _ => rfl) (fun j hj => by
    rw [(a.2.2.1 j hj).1]
    unfold rwv
    rw [k0, if_neg (by omega)])
  rw [k0, nI_0] at this
  exact e_O_drop (π k) hk6 this
def sld (l : ZL) : Bool := l.2.1
theorem sp_O_recover {d : Nat} {h : ZH} {π : Nat → Nat} {L : List ZL} {Q : ZH → Prop} (a : spIs h π L)
    (hq : ∀ h' π', spIs h' π' (L.filter sld) → zi h' 5 0 3 = -1 → zi h' 5 0 4 = 0 → (∀ x y z, ¬ (x = 5 ∧ y = 0 ∧ (z = 1 ∨ z = 3 ∨ z = 4)) → zi h' x y z = zi h x y z) → (∀ x y z, x ≠ 6 → zr h' x y z = zr h x y z) → Q h') : EvV (d + 1) m_O_recover [vQ (some (5, 0))] h Q := by
  have hL := a.2.1
  have key : ∀ (i : Nat) (g : ZH) (ρ : Nat → Nat), i ≤ L.length → spIs g ρ (L.take i ++ (L.drop i).filter sld) → (∀ x y z, ¬ (x = 5 ∧ y = 0 ∧ z = 1) → zi g x y z = zi h x y z) → (∀ x y z, x ≠ 6 → zr g x y z = zr h x y z) → EvAt (d + 1) m_O_recover 7 [some (vQ (some (5, 0))), some (vI (nI i - 1))] [] g (zQV Q) := by
    intro i
    induction i with
    | zero =>
      intro g ρ hi hs hI hR
      refine w_O_recover_7 _ ⟨fun _ => ?_, fun c => absurd (by rw [nI_0]; decide) c⟩
      refine hq _ ρ ?_ ?_ ?_ (fun x y z hne => ?_) (fun x y z hx => hR x y z hx)
      · exact hs.kept (P := fun k _ => k = 5) (zSame.w (P := fun k _ => k = 5) (zSame.w (P := fun k _ => k = 5) zSame.rfl rfl) rfl) (by rw [zi_zw, if_neg (by omega), zi_zw, if_neg (by omega)]) (fun j hj k i z z5 => letP_ne5 (z5 ▸ z))
      · rw [zi_zw, if_neg (by omega), zi_zw, if_pos ⟨rfl, rfl, rfl⟩]
      · rw [zi_zw, if_pos ⟨rfl, rfl, rfl⟩]
      · rw [zi_zw, if_neg (by omega), zi_zw, if_neg (by omega)]
        exact hI x y z (by omega)
    | succ i ih =>
      intro g ρ hi hs hI hR
      rw [nI_pred]
      have htl : (L.take (i + 1)).length = i + 1 := by rw [List.length_take]; omega
      have hget : (L.take (i + 1) ++ (L.drop (i + 1)).filter sld).getD i dL = L.getD i dL := by
        rw [getD_appG1 (by omega), List.getD_eq_getElem?_getD, List.getD_eq_getElem?_getD, List.getElem?_take, if_pos (by omega)]
      have hlen : i < (L.take (i + 1) ++ (L.drop (i + 1)).filter sld).length := by rw [List.length_append]; omega
      have hl := hs.2.2.2.2 i hlen
      rw [hget] at hl
      have hr := hs.row (j := i) (by omega)
      have hdr : L.drop i = L.getD i dL :: L.drop (i + 1) := drop_consG (by omega)
      have htk : L.take (i + 1) = L.take i ++ [L.getD i dL] := by
        rw [List.take_add_one, List.getElem?_eq_getElem (by omega), List.getD_eq_getElem?_getD, List.getElem?_eq_getElem (by omega)]
        rfl
      have nx : ∀ (g' : ZH) (ρ' : Nat → Nat), spIs g' ρ' (L.take i ++ (L.drop i).filter sld) → (∀ x y z, ¬ (x = 5 ∧ y = 0 ∧ z = 1) → zi g' x y z = zi h x y z) → (∀ x y z, x ≠ 6 → zr g' x y z = zr h x y z) → EvAt (d + 1) m_O_recover 33 [some (vQ (some (5, 0))), some (vI (nI i))] [] g' (zQV Q) := by
        intro g' ρ' h1 h2 h3
        refine w_O_recover_33 _ ?_
        have e : nI i + (-1) = nI i - 1 := by rw [Int32.sub_eq_add_neg]
        rw [e]
        exact ih g' ρ' (by omega) h1 h2 h3
      refine w_O_recover_7 _ ⟨fun c => absurd c (nI_pos (by omega)), fun _ => ⟨hr.1, ρ i, hr.2.1, hr.2.2, fun c1 => ?_, fun c1 => ⟨hr.1, ρ i, hr.2.1, hr.2.2, ?_⟩⟩⟩
      · rw [hl.seal0, Bool.not_eq_false] at c1
        refine nx g ρ ?_ hI hR
        rw [hdr, List.filter_cons_of_pos (show sld (L.getD i dL) = true from c1)]
        rw [htk, List.append_assoc] at hs
        exact hs
      · rw [hl.seal0] at c1
        refine sp_O_drop hs hlen (fun g' ρ' s' i' r' => nx g' ρ' ?_ (fun x y z hne => (i' x y z hne).trans (hI x y z hne)) (fun x y z hx => (r' x y z hx).trans (hR x y z hx)))
        rw [hdr, List.filter_cons_of_neg (by rw [show sld (L.getD i dL) = false from c1]; decide)]
        have e2 : (L.take (i + 1) ++ (L.drop (i + 1)).filter sld).eraseIdx i = L.take i ++ (L.drop (i + 1)).filter sld := by
          rw [htk, List.append_assoc, List.eraseIdx_append_of_length_le (by rw [List.length_take]; omega)]
          have : i - (L.take i).length = 0 := by rw [List.length_take]; omega
          rw [this]
          rfl
        rw [e2] at s'
        exact s'
  refine e_O_recover ?_
  rw [a.1]
  exact key L.length h π (Nat.le_refl _) (by rw [List.take_length, List.drop_length]; exact (List.append_nil L).symm ▸ a) (fun _ _ _ _ => rfl) (fun _ _ _ _ => rfl)
