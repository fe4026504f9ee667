/-! type, breakAfter, restart, next -/
def tcd (row : Int64) (i : Nat) : Int32 := (((row.toUInt64 >>> (((8 : Int32) * nI i).toInt64.toUInt64 &&& Int64.toUInt64 63)).toInt64) &&& (255 : Int64)).toInt32
def tlF (row : Int64) : Nat → Nat → Option Nat
  | 0, i => some i
  | n + 1, i => if tcd row i = 0 then some i else if tcd row i < 32 then none else if tcd row i ≤ 126 then tlF row n (i + 1) else none
def oI : Option Nat → Int32
  | none => -1
  | some n => nI n
theorem code_ch {c : Int32} (h1 : ¬ c < 32) (h2 : c ≤ 126) : zCh c := by
  have h0 : ¬ c < 0 := by
    intro z
    apply h1
    rw [Int32.lt_iff_toInt_lt] at z ⊢
    exact Int.lt_trans z (by decide)
  obtain ⟨n, hn, rfl⟩ := nI_of2 (M := 126) (n := 126) rfl h0 h2
  exact ⟨n, by omega, rfl⟩
theorem sp_P_typedCode {d i : Nat} {row : Int64} {h : ZH} {Q : Int32 → ZH → Prop} (hq : Q (tcd row i) h) : EvI d m_P_typedCode [vL row, vI (nI i)] h Q := e_P_typedCode _ _ hq
theorem sp_P_typedLength {d : Nat} {row : Int64} {h : ZH} {Q : Int32 → ZH → Prop} (hq : Q (oI (tlF row 8 0)) h) : EvI (d + 1) m_P_typedLength [vL row] h Q := by
  have key : ∀ (n i : Nat), i + n = 8 → Q (oI (tlF row n i)) h → EvAt (d + 1) m_P_typedLength 2 [some (vL row), none, some (vI (nI i)), none] [] h (zQI Q) := by
    intro n
    induction n with
    | zero =>
      intro i hi hq
      have : i = 8 := by omega
      subst this
      exact w_P_typedLength_2 _ _ ⟨fun _ => hq, fun c => absurd (by decide) c⟩
    | succ n ih =>
      intro i hi hq
      rw [tlF] at hq
      refine w_P_typedLength_2 _ _ ⟨fun c => ?_, fun _ => ?_⟩
      · exact absurd ((nI_leI (a := 8) (by omega) (by omega)).mp c) (by omega)
      · refine sp_P_typedCode ⟨fun c => ⟨fun c2 => ?_, fun c2 => ⟨fun c3 => ?_, fun c3 => ?_⟩⟩, fun c => ?_⟩
        · rw [if_neg c, if_pos c2] at hq
          exact hq
        · rw [if_neg c, if_neg c2, if_pos c3] at hq
          rw [nI_inc]
          exact ih (i + 1) (by omega) hq
        · rw [if_neg c, if_neg c2, if_neg c3] at hq
          exact hq
        · rw [if_pos c] at hq
          exact hq
  exact e_P_typedLength _ (key 8 0 rfl hq)
theorem tlF_ok {row : Int64} : ∀ (n i m : Nat), tlF row n i = some m → i ≤ m ∧ m ≤ i + n ∧ ∀ j, i ≤ j → j < m → zCh (tcd row j)
  | 0, i, m, h => by
    cases h
    exact ⟨Nat.le_refl _, Nat.le_refl _, fun j h1 h2 => by omega⟩
  | n + 1, i, m, h => by
    rw [tlF] at h
    split at h
    · cases h
      exact ⟨Nat.le_refl _, by omega, fun j h1 h2 => by omega⟩
    · split at h
      · cases h
      · split at h
        · rename_i c1 c2 c3
          obtain ⟨r1, r2, r3⟩ := tlF_ok n (i + 1) m h
          refine ⟨by omega, by omega, fun j h1 h2 => ?_⟩
          by_cases e : j = i
          · rw [e]; exact code_ch c2 c3
          · exact r3 j (by omega) h2
        · cases h
def tchs (row : Int64) (n : Nat) : ZT := (List.range n).map (tcd row)
theorem tchs_succ (row : Int64) (n : Nat) : tchs row (n + 1) = tchs row n ++ [tcd row n] := by
  unfold tchs
  rw [List.range_succ, List.map_append]
  rfl
theorem sp_P_type {d : Nat} {row : Int64} {h : ZH} {up : Bool} {now given : Nat} {wr : Option Nat} {line : ZT} {gr bg tk : Bool} {snd : ZT} {rcs : List ZT} {tx : ZT} {L : List ZL} {Q : Int32 → ZH → Prop} (a : RC h (up, now, given, wr, line, gr, bg, tk, snd, rcs, tx, L))
    (h0 : ¬ (up = true ∧ ∃ n, tlF row 8 0 = some n ∧ line.length + n ≤ 72) → Q 0 h) (h1 : ∀ n, up = true → tlF row 8 0 = some n → line.length + n ≤ 72 → ∀ h', RC h' (up, now, given, wr, line ++ tchs row n, gr, bg, tk, snd, rcs, tx, L) → zSm PC h h' → Q 1 h') : EvI (d + 2) m_P_type [vQ (some (0, 0)), vL row] h Q := by
  obtain ⟨a1, a2, a3, a4, a5, ⟨π, a6⟩, a7⟩ := a
  refine e_P_type _ (sp_P_typedLength ⟨fun c => h0 ?_, fun c => ⟨fun c2 => h0 ?_, fun c2 => ?_⟩⟩)
  · rintro ⟨z, -⟩
    rw [a5, z] at c
    exact c rfl
  · rintro ⟨-, n, z, -⟩
    rw [z] at c2
    have hz := (tlF_ok 8 0 n z).2.1
    exact nI_pos (n := n) (by omega) (by rw [show nI n = -1 from c2]; decide)
  · have hup : up = true := by
      rw [a5, bI_0] at c
      cases up <;> simp_all
    have b := a7 hup
    obtain ⟨n, hn⟩ : ∃ n, tlF row 8 0 = some n := by
      cases hz : tlF row 8 0 with
      | none => rw [hz] at c2; exact absurd rfl c2
      | some n => exact ⟨n, rfl⟩
    obtain ⟨-, hn8, hch⟩ := tlF_ok 8 0 n hn
    have hl := b.2.2.1.2.1
    have hl72 : line.length ≤ 72 := hl
    rw [hn]
    show ((zi h 1 0 1 + nI n ≤ 72 → _) ∧ (¬ zi h 1 0 1 + nI n ≤ 72 → _))
    rw [b.2.2.1.1, nI_add]
    refine ⟨fun c3 => ?_, fun c3 => h0 ?_⟩
    · have c3 := (nI_leI (b := 72) (by omega) (by omega)).mp c3
      have key : ∀ (m i : Nat) (g : ZH), i + m = n → rowIs g 0 (line ++ tchs row i) → zSame (rowP 0) h g → EvAt (d + 2) m_P_type 39 [some (vQ (some (0, 0))), some (vL row), none, some (vI (nI n)), some (vI (nI i))] [] g (zQI Q) := by
        intro m
        induction m with
        | zero =>
          intro i g hi hr hs
          have : i = n := by omega
          subst this
          refine w_P_type_39 _ _ _ ⟨fun _ => ?_, fun c => absurd ((nI_leI (by omega) (by omega)).mpr (Nat.le_refl _)) c⟩
          have f : ∀ k i j, k ≠ 1 → k ≠ 2 → zi g k i j = zi h k i j := fun k i j y1 y2 => hs.1 k i j (by rintro ⟨z | z, -⟩ <;> omega)
          refine h1 i hup hn c3 g ⟨by rw [f 0 0 4 (by decide) (by decide)]; exact a1, a2, by rw [f 5 0 2 (by decide) (by decide)]; exact a3, a4, by rw [f 5 0 4 (by decide) (by decide)]; exact a5, ⟨π, ?_⟩, fun _ => ?_⟩ (hs.sm.mono (fun k i z => by rcases z.1 with y | y <;> (show k < 10; omega)))
          · refine a6.kept hs (f 5 0 1 (by decide) (by decide)) (fun j hj k i z z0 => ?_)
            have := z0.2
            rcases z with ⟨y, -⟩ | ⟨y, -⟩ | ⟨y, y2⟩
            · rcases z0.1 with q | q <;> omega
            · rcases z0.1 with q | q <;> omega
            · omega
          · obtain ⟨b1, b2, b3, b4, b5, b6, b7, b8, b9, b10, b11⟩ := b
            have fr : ∀ r, 0 < r → ∀ xs, rowIs h r xs → rowIs g r xs := fun r hr xs w => w.kept hs (rowP_ne (by omega)) (rowP_ne (by omega))
            have n3 : ∀ j, zi g 3 0 j = zi h 3 0 j := fun j => f 3 0 j (by decide) (by decide)
            refine ⟨by rw [f 5 0 3 (by decide) (by decide)]; exact b1, b2, hr, by rw [n3]; exact b4, by rw [n3]; exact b5, by rw [n3]; exact b6, b7, b8, fun z => ?_, fun z => by rw [n3]; exact b10 z, fun z => ?_⟩
            · obtain ⟨c1, c2, c3⟩ := b9 z
              exact ⟨by rw [n3]; exact c1, fr 1 (by decide) _ c2, fun r hr => fr (2 + r) (by omega) _ (c3 r hr)⟩
            · rcases b11 z with ⟨c1, c2, c3⟩ | ⟨c1, c2⟩
              · exact Or.inl ⟨by rw [n3]; exact c1, c2, fr 6 (by decide) _ c3⟩
              · exact Or.inr ⟨by rw [n3]; exact c1, c2⟩
        | succ m ih =>
          intro i g hi hr hs
          refine w_P_type_39 _ _ _ ⟨fun c => absurd ((nI_leI (by omega) (by omega)).mp c) (by omega), fun _ => ?_⟩
          refine sp_P_typedCode ?_
          have hc : zCh (tcd row i) := hch i (Nat.zero_le _) (by omega)
          rw [zCh_i2c hc]
          refine sp_R_add (by decide) hr ?_ hc (fun g' hr' hs' => ?_)
          · rw [List.length_append]
            unfold tchs
            rw [List.length_map, List.length_range]
            show line.length + i < 72
            omega
          · rw [nI_inc]
            refine ih (i + 1) g' (by omega) ?_ (hs.trans hs')
            rw [tchs_succ, ← List.append_assoc]
            exact hr'
      have := key n 0 h (by omega) (by
        show rowIs h 0 (line ++ [])
        rw [List.append_nil]
        exact b.2.2.1) zSame.rfl
      rw [nI_0] at this
      exact this
    · rintro ⟨-, n', z, z2⟩
      rw [hn] at z
      cases z
      exact c3 ((nI_leI (b := 72) (by omega) (by omega)).mpr z2)
