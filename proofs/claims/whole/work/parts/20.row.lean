/-! PURE WORDS, and the specs of Row and Grammar -/
abbrev ZT : Type := List Int32
def zCh (x : Int32) : Prop := ∃ n : Nat, n < 128 ∧ x = nI n
theorem zCh_narrow {x : Int32} (h : zCh x) : narrow .char (.int x) = .int x := by
  obtain ⟨n, hn, rfl⟩ := h
  exact (pk_charN (by omega)).1
theorem zCh_fits {x : Int32} (h : zCh x) : fits .char (.int x) = true := by
  obtain ⟨n, hn, rfl⟩ := h
  exact (pk_charN (by omega)).2
theorem zCh_i2c {x : Int32} (h : zCh x) : (x.toUInt32 % 65536).toInt32 = x := by
  obtain ⟨n, hn, rfl⟩ := h
  refine lg_i2c_word ?_ ?_ <;> rw [nI_toInt (by omega)] <;> omega
theorem zCh_nar {x : Int32} (h : zCh x) : vp_nar .char x = x := by
  rw [vp_nar_char, ← lg_i2c_nf]
  exact zCh_i2c h
theorem zCh_0 : zCh 0 := ⟨0, by omega, nI_0.symm⟩
/-- nothing but the cells of P has changed -/
def zSame (P : Nat → Nat → Prop) (h h' : ZH) : Prop := (∀ k i j, ¬ P k i → zi h' k i j = zi h k i j) ∧ ∀ k i j, zr h' k i j = zr h k i j
theorem zSame.rfl {P : Nat → Nat → Prop} {h : ZH} : zSame P h h := ⟨fun _ _ _ _ => Eq.refl _, fun _ _ _ => Eq.refl _⟩
theorem zSame.trans {P : Nat → Nat → Prop} {h h' h'' : ZH} (a : zSame P h h') (b : zSame P h' h'') : zSame P h h'' :=
  ⟨fun k i j hp => (b.1 k i j hp).trans (a.1 k i j hp), fun k i j => (b.2 k i j).trans (a.2 k i j)⟩
theorem zSame.mono {P P' : Nat → Nat → Prop} {h h' : ZH} (a : zSame P h h') (hp : ∀ k i, P k i → P' k i) : zSame P' h h' :=
  ⟨fun k i j hn => a.1 k i j (fun z => hn (hp k i z)), a.2⟩
theorem zSame.w {P : Nat → Nat → Prop} {h h' : ZH} (a : zSame P h h') {k i j : Nat} {x : Int32} (hp : P k i) : zSame P h (zw h' k i j x) := by
  refine ⟨fun k' i' j' hn => ?_, fun k' i' j' => a.2 k' i' j'⟩
  rw [zi_zw, if_neg]
  · exact a.1 k' i' j' hn
  · rintro ⟨rfl, rfl, -⟩
    exact hn hp
def rowP (r : Nat) : Nat → Nat → Prop := fun k i => (k = 1 ∨ k = 2) ∧ i = r
/-- the row r holds xs -/
def rowIs (h : ZH) (r : Nat) (xs : ZT) : Prop := zi h 1 r 1 = nI xs.length ∧ xs.length ≤ zcap r ∧ (∀ j, j < xs.length → zi h 2 r j = xs.getD j 0) ∧ ∀ x ∈ xs, zCh x
theorem zcap_le (r : Nat) : zcap r ≤ 600 := by
  unfold zcap
  split
  · omega
  · split
    · omega
    · split <;> omega
theorem rowIs.lt {h : ZH} {r : Nat} {xs : ZT} (a : rowIs h r xs) : xs.length < 2 ^ 30 := by
  have := zcap_le r
  have := a.2.1
  omega
theorem rowIs.kept {h h' : ZH} {r : Nat} {xs : ZT} (a : rowIs h r xs) {P : Nat → Nat → Prop} (s : zSame P h h') (h1 : ¬ P 1 r) (h2 : ¬ P 2 r) : rowIs h' r xs :=
  ⟨by rw [s.1 1 r 1 h1]; exact a.1, a.2.1, fun j hj => by rw [s.1 2 r j h2]; exact a.2.2.1 j hj, a.2.2.2⟩
theorem rowIs_nil {h : ZH} {r : Nat} (e : zi h 1 r 1 = 0) : rowIs h r [] := ⟨by rw [e]; exact nI_0.symm, Nat.zero_le _, fun j hj => absurd hj (Nat.not_lt_zero _), fun x hx => by cases hx⟩
theorem rowIs_clear (h : ZH) (r : Nat) : rowIs (zw h 1 r 1 0) r [] := rowIs_nil (by rw [zi_zw, if_pos ⟨rfl, rfl, rfl⟩])
theorem rowIs.nth {h : ZH} {r j : Nat} {xs : ZT} (a : rowIs h r xs) (hj : j < xs.length) : zCh (xs.getD j 0) := a.2.2.2 _ (zgetD_mem hj)
def rAt (xs : ZT) (i : Int32) : Int32 := if i < 0 then 0 else xs.getD i.toNatClampNeg 0
theorem rAt_nI {xs : ZT} {j : Nat} (hj : j < 2 ^ 31) : rAt xs (nI j) = xs.getD j 0 := by
  unfold rAt
  rw [if_neg (nI_pos hj), nI_clamp hj]
theorem getD_ge {xs : ZT} {j : Nat} (h : xs.length ≤ j) : xs.getD j 0 = 0 := by
  rw [List.getD_eq_getElem?_getD, List.getElem?_eq_none h]
  rfl
theorem rAt_ch {xs : ZT} (h : ∀ x ∈ xs, zCh x) (i : Int32) : zCh (rAt xs i) := by
  unfold rAt
  split
  · exact zCh_0
  · rcases Nat.lt_or_ge i.toNatClampNeg xs.length with q | q
    · exact h _ (zgetD_mem q)
    · rw [getD_ge q]; exact zCh_0
theorem sp_R_at {d r : Nat} {i : Int32} {h : ZH} {xs : ZT} {Q : Int32 → ZH → Prop} (hr : r < 43) (a : rowIs h r xs) (hq : Q (rAt xs i) h) : EvI d m_R_at [vQ (some (1, r)), vI i] h Q := by
  refine e_R_at r i hr ⟨fun c => ?_, fun c => ⟨fun c2 => ?_, fun c2 => ?_⟩⟩
  · unfold rAt at hq
    rw [if_pos c] at hq
    exact hq
  · obtain ⟨j, hj, rfl⟩ := nI_of c
    have := a.lt
    rw [a.1, nI_leI (by omega) hj] at c2
    rw [rAt_nI hj, getD_ge c2] at hq
    exact hq
  · obtain ⟨j, hj, rfl⟩ := nI_of c
    have := a.lt
    rw [a.1, nI_leI (by omega) hj] at c2
    have hl : j < xs.length := by omega
    rw [rAt_nI hj] at hq
    rw [nI_clamp hj, a.2.2.1 j hl]
    exact ⟨vp_in_nI (Nat.lt_of_lt_of_le hl a.2.1) (by have := zcap_le r; show zcap r < _; omega), zCh_narrow (a.nth hl), hq⟩
theorem sp_R_clear {d r : Nat} {h : ZH} {Q : ZH → Prop} (hr : r < 43) (hq : Q (zw h 1 r 1 0)) : EvV d m_R_clear [vQ (some (1, r))] h Q := e_R_clear r hr hq
theorem getD_app1 {xs ys : ZT} {j : Nat} (h : j < xs.length) : (xs ++ ys).getD j 0 = xs.getD j 0 := by
  rw [List.getD_eq_getElem?_getD, List.getD_eq_getElem?_getD, List.getElem?_append_left h]
theorem getD_app2 {xs ys : ZT} {j : Nat} : (xs ++ ys).getD (xs.length + j) 0 = ys.getD j 0 := by
  rw [List.getD_eq_getElem?_getD, List.getD_eq_getElem?_getD, List.getElem?_append_right (by omega)]
  congr 2
  omega
theorem rowIs_add {h : ZH} {r : Nat} {xs : ZT} {c : Int32} (a : rowIs h r xs) (hl : xs.length < zcap r) (hc : zCh c) : rowIs (zw (zw h 2 r xs.length c) 1 r 1 (nI (xs.length + 1))) r (xs ++ [c]) := by
  refine ⟨?_, ?_, fun j hj => ?_, fun x hx => ?_⟩
  · rw [zi_zw, if_pos ⟨rfl, rfl, rfl⟩, List.length_append]
    rfl
  · rw [List.length_append]
    exact hl
  · rw [zi_zw, if_neg (by omega), zi_zw]
    rw [List.length_append] at hj
    have hj : j < xs.length + 1 := hj
    by_cases e : j = xs.length
    · subst e
      rw [if_pos ⟨rfl, rfl, rfl⟩]
      have := getD_app2 (xs := xs) (ys := [c]) (j := 0)
      rw [Nat.add_zero] at this
      rw [this]
      rfl
    · rw [if_neg (by omega), getD_app1 (by omega)]
      exact a.2.2.1 j (by omega)
  · rcases List.mem_append.mp hx with z | z
    · exact a.2.2.2 x z
    · rw [List.mem_singleton.mp z]; exact hc
theorem sp_R_add {d r : Nat} {c : Int32} {h : ZH} {xs : ZT} {Q : ZH → Prop} (hr : r < 43) (a : rowIs h r xs) (hl : xs.length < zcap r) (hc : zCh c) (hq : ∀ h', rowIs h' r (xs ++ [c]) → zSame (rowP r) h h' → Q h') : EvV d m_R_add [vQ (some (1, r)), vI c] h Q := by
  have hz := zcap_le r
  refine e_R_add r c hr ⟨fun c1 => ?_, fun c1 => ?_⟩
  · rw [a.1] at c1
    exact absurd c1 (nI_ge hl (show zcap r < 2 ^ 31 by omega))
  · have e1 : zi (zw h 2 r (zi h 1 r 1).toNatClampNeg (vp_nar FieldType.char c)) 1 r 1 = nI xs.length := by
      rw [zi_zw, if_neg (by omega)]; exact a.1
    rw [e1, nI_1, a.1, nI_clamp (by omega), zCh_nar hc]
    refine ⟨vp_in_nI hl (by show zcap r < _; omega), hq _ (rowIs_add a hl hc) ?_⟩
    exact (zSame.rfl.w ⟨Or.inr rfl, rfl⟩).w ⟨Or.inl rfl, rfl⟩
