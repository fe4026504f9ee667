/-! CLASS AND MODEL TOGETHER -/
theorem RM_ext {h h' : ZH} {S : ZS} (a : RM h S) (f : ∀ k i j, 12 ≤ k → zi h' k i j = zi h k i j) : RM h' S := by
  have s : zSa (fun k _ _ => k < 12) h (h'.1, h.2) := ⟨fun k i j hn => f k i j (by omega), fun _ _ _ => rfl⟩
  have key : RM (h'.1, h.2) S := by
    obtain ⟨up, now, given, wr, line, gr, bg, tk, snd, rcs, tx, L⟩ := S
    obtain ⟨a1, a2, a3, a4, a5, a6, a7, a8⟩ := a
    exact ⟨by rw [s.1 12 0 0 (by omega)]; exact a1, by rw [s.1 12 0 1 (by omega)]; exact a2, a3, by rw [s.1 12 0 2 (by omega)]; exact a4, a5, a6, a7.kept s (fun k i j z y => by omega), a8.kept s (fun p hp k i j z y => by have := slP_12 z; omega)⟩
  exact key
def relL (given : Nat) (L L' : List ZL) : Prop := ∀ l ∈ L', given ≤ l.1 ∨ ∃ l0 ∈ L, l0.1 = l.1 ∧ l0.2.2.2.2 = l.2.2.2.2
theorem relL.rfl' {given : Nat} {L : List ZL} : relL given L L := fun l hl => Or.inr ⟨l, hl, rfl, rfl⟩
theorem rdC_next {h h' : ZH} {gv gv' : Nat} {L L' : List ZL} (a : rdC h gv L) (e : ∀ k i j, k = 10 ∨ k = 11 → zi h' k i j = zi h k i j) (hg : gv ≤ gv') (r : relL gv L L') : rdC h' gv' L' := by
  rcases a with z | ⟨n, tx, a1, a2, a3, a4⟩
  · exact Or.inl (by rw [e 10 0 5 (Or.inl rfl)]; exact z)
  · refine Or.inr ⟨n, tx, by rw [e 10 0 5 (Or.inl rfl)]; exact a1, by omega, a3.e (e 10 0 4 (Or.inl rfl)) (fun j => e 11 1 j (Or.inr rfl)), fun l hl hn => ?_⟩
    rcases r l hl with z | ⟨l0, h0, h1, h2⟩
    · omega
    · rw [← h2]
      exact a4 l0 h0 (by omega)
def sNow (S : ZS) : Nat := S.2.1
def sGiv (S : ZS) : Nat := S.2.2.1
def sLet (S : ZS) : List ZL := S.2.2.2.2.2.2.2.2.2.2.2
def Inv (h : ZH) (S : ZS) : Prop := RC h S ∧ rdC h (sGiv S) (sLet S) ∧ RM h S
def stp (S S' : ZS) : Prop := sNow S' ≤ sNow S + 1000 ∧ sGiv S' ≤ sGiv S + 1 ∧ sGiv S ≤ sGiv S' ∧ relL (sGiv S) (sLet S) (sLet S')
theorem stp.rfl' {S : ZS} : stp S S := ⟨Nat.le_add_right _ _, Nat.le_add_right _ _, Nat.le_refl _, relL.rfl'⟩
theorem Inv.mid {h h1 : ZH} {S : ZS} (a : Inv h S) (z : zSm PC h h1) : RM h1 S := RM_ext a.2.2 (fun k i j hk => z.1 k i j (by show ¬ k < 10; omega))
theorem Inv.fin {h h1 h2 : ZH} {S S' : ZS} (a : Inv h S) (r1 : RC h1 S') (z : zSm PC h h1) (r2 : RM h2 S') (y : zSa PMM h1 h2) (t : stp S S') : Inv h2 S' := by
  refine ⟨RC_ext r1 (fun k i j hk => y.1 k i j (by unfold PMM; omega)) (fun k i j _ => y.2 k i j), rdC_next a.2.1 (fun k i j hk => ?_) t.2.2.1 t.2.2.2, r2⟩
  rw [y.1 k i j (by unfold PMM; omega), z.1 k i j (by show ¬ k < 10; omega)]
theorem zSm_rfl {P : Nat → Nat → Prop} {h : ZH} : zSm P h h := ⟨fun _ _ _ _ => rfl, fun _ _ _ _ => rfl⟩
/-- behind both calls -/
def tieQ (S : ZS) (y1 : Int32) : Int32 → ZH → Prop := fun y2 h2 => y1 = y2 ∧ ∃ S', Inv h2 S' ∧ stp S S'
def bnd (S : ZS) : Prop := sNow S + 1000 < 2 ^ 29 ∧ sGiv S + 1 < 2 ^ 29
theorem spoolS_st {now given : Nat} {wr : Option Nat} {line : ZT} {gr bg tk : Bool} {snd : ZT} {rcs : List ZT} {tx : ZT} {up : Bool} {L : List ZL} : stp (up, now, given, wr, line, gr, bg, tk, snd, rcs, tx, L) (spoolS now given wr gr snd rcs tx L).2 := by
  have ap : ∀ b : Bool, relL given L (L ++ [(given, b, snd, mkRc rcs now, tx)]) := by
    intro b l hl
    rcases List.mem_append.mp hl with z | z
    · exact Or.inr ⟨l, z, rfl, rfl⟩
    · rw [List.mem_singleton.mp z]
      exact Or.inl (Nat.le_refl _)
  cases e1 : wrN wr with
  | none =>
    rw [spoolS_n e1]
    exact ⟨Nat.le_add_right _ _, Nat.le_refl _, Nat.le_add_right _ _, relL.rfl'⟩
  | some w1 =>
    cases e2 : wrN w1 with
    | none =>
      rw [spoolS_u e1 e2]
      exact ⟨Nat.le_add_right _ _, Nat.le_refl _, Nat.le_add_right _ _, ap false⟩
    | some w2 =>
      rw [spoolS_s e1 e2]
      exact ⟨Nat.le_add_right _ _, Nat.le_refl _, Nat.le_add_right _ _, ap true⟩
theorem entS_st {up : Bool} {now given : Nat} {wr : Option Nat} {line : ZT} {gr bg tk : Bool} {snd : ZT} {rcs : List ZT} {tx : ZT} {L : List ZL} : stp (up, now, given, wr, line, gr, bg, tk, snd, rcs, tx, L) (entS up now given wr line gr bg tk snd rcs tx L).2 := by
  have same : ∀ S' : ZS, sNow S' = now → sGiv S' = given → sLet S' = L → stp (up, now, given, wr, line, gr, bg, tk, snd, rcs, tx, L) S' := by
    intro S' e1 e2 e3
    refine ⟨by rw [e1]; exact Nat.le_add_right _ _, by rw [e2]; exact Nat.le_add_right _ _, by rw [e2]; exact Nat.le_refl _, ?_⟩
    rw [e3]
    exact relL.rfl'
  unfold entS
  split
  · split
    · unfold txtS
      split
      · unfold endS
        split
        · exact same _ rfl rfl rfl
        · split
          · exact same _ rfl rfl rfl
          · exact spoolS_st
      · exact same _ rfl rfl rfl
    · exact same _ rfl rfl rfl
  · exact same _ rfl rfl rfl
theorem rstS_st {up : Bool} {now given : Nat} {wr : Option Nat} {line : ZT} {gr bg tk : Bool} {snd : ZT} {rcs : List ZT} {tx : ZT} {L : List ZL} : stp (up, now, given, wr, line, gr, bg, tk, snd, rcs, tx, L) (rstS up now given wr line gr bg tk snd rcs tx L).2 := by
  unfold rstS
  split
  · exact stp.rfl'
  · exact ⟨Nat.le_add_right _ _, Nat.le_add_right _ _, Nat.le_refl _, fun l hl => Or.inr ⟨l, (List.mem_filter.mp hl).1, rfl, rfl⟩⟩
theorem upR_rel {given : Nat} {L : List ZL} {j r : Nat} {x : ZP} (hj : j < L.length) : relL given L (upR L j r x) := by
  intro l hl
  unfold upR at hl
  rcases List.mem_or_eq_of_mem_set hl with z | z
  · exact Or.inr ⟨l, z, rfl, rfl⟩
  · exact Or.inr ⟨L.getD j dL, zgetD_mem hj, by rw [z], by rw [z]⟩
theorem dropS_rel {given : Nat} {L L' : List ZL} {j : Nat} (a : relL given L L') : relL given L (dropS L' j) := by
  unfold dropS
  split
  · exact a
  · exact fun l hl => a l ((List.eraseIdx_sublist ..).subset hl)
theorem setlS_st {now given given0 : Nat} {wr : Option Nat} {line : ZT} {gr bg tk : Bool} {snd : ZT} {rcs : List ZT} {tx : ZT} {L L0 : List ZL} {j r f : Nat} {S : ZS} (hj : j < L.length) (e1 : sNow S = now) (e2 : sGiv S = given0) (e3 : sLet S = L0) (g1 : given0 ≤ given) (g2 : given ≤ given0 + 1) (hr : ∀ l ∈ L, given0 ≤ l.1 ∨ l ∈ L0) : stp S (setlS now given wr line gr bg tk snd rcs tx L j r f).2 := by
  have lift : ∀ L', relL given0 L L' → relL given0 L0 L' := by
    intro L' a l hl
    rcases a l hl with z | ⟨l0, h0, h1, h2⟩
    · exact Or.inl z
    · rcases hr l0 h0 with z | z
      · exact Or.inl (by omega)
      · exact Or.inr ⟨l0, z, h1, h2⟩
  cases e : wrN wr with
  | none =>
    rw [setlS_n e]
    refine ⟨by rw [e1]; exact Nat.le_add_right _ _, by rw [e2]; exact g2, by rw [e2]; exact g1, ?_⟩
    rw [e2, e3]
    exact lift L relL.rfl'
  | some w1 =>
    rw [setlS_s e]
    refine ⟨by rw [e1]; exact Nat.le_add_right _ _, by rw [e2]; exact g2, by rw [e2]; exact g1, ?_⟩
    rw [e2, e3]
    exact lift _ (dropS_rel (upR_rel hj))
theorem rplS_st {x : Int32} {up : Bool} {now given : Nat} {wr : Option Nat} {line : ZT} {gr bg tk : Bool} {snd : ZT} {rcs : List ZT} {tx : ZT} {L : List ZL} : stp (up, now, given, wr, line, gr, bg, tk, snd, rcs, tx, L) (rplS x up now given wr line gr bg tk snd rcs tx L).2 := by
  unfold rplS
  split
  · cases hz : hnF L now L.length 0 none with
    | none => exact stp.rfl'
    | some p =>
      have hj : p.1 < L.length := ((hnI_0 L now).2 p hz).1.1
      show stp _ (rplU x now given wr line gr bg tk snd rcs tx L p).2
      have st1 : ∀ f, stp (up, now, given, wr, line, gr, bg, tk, snd, rcs, tx, L) (setlS now given wr line gr bg tk snd rcs tx L p.1 p.2 f).2 := fun f => setlS_st hj rfl rfl rfl (Nat.le_refl _) (Nat.le_add_right _ _) (fun l hl => Or.inr hl)
      unfold rplU
      split
      · exact st1 1
      · split
        · cases e : wrN wr with
          | none =>
            rw [pstS_n e]
            exact ⟨Nat.le_add_right _ _, Nat.le_add_right _ _, Nat.le_refl _, relL.rfl'⟩
          | some w1 =>
            rw [pstS_s e]
            exact ⟨Nat.le_add_right _ _, Nat.le_add_right _ _, Nat.le_refl _, upR_rel hj⟩
        · unfold gbkS
          split
          · have ap : ∀ b, ∀ l ∈ L ++ [retL given now L p.1 p.2 b], given ≤ l.1 ∨ l ∈ L := by
              intro b l hl
              rcases List.mem_append.mp hl with z | z
              · exact Or.inr z
              · rw [List.mem_singleton.mp z]
                exact Or.inl (Nat.le_refl _)
            cases e1 : wrN wr with
            | none =>
              rw [telS_n e1]
              exact ⟨Nat.le_add_right _ _, Nat.le_refl _, Nat.le_add_right _ _, relL.rfl'⟩
            | some w1 =>
              cases e2 : wrN w1 with
              | none =>
                rw [telS_u e1 e2]
                refine ⟨Nat.le_add_right _ _, Nat.le_refl _, Nat.le_add_right _ _, fun l hl => ?_⟩
                rcases ap false l hl with z | z
                · exact Or.inl z
                · exact Or.inr ⟨l, z, rfl, rfl⟩
              | some w2 =>
                rw [telS_s e1 e2]
                exact setlS_st (by rw [List.length_append]; omega) rfl rfl rfl (Nat.le_add_right _ _) (Nat.le_refl _) (ap true)
          · exact st1 2
  · exact stp.rfl'
