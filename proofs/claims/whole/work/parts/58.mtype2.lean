theorem tchs_len (row : Int64) (n : Nat) : (tchs row n).length = n := by
  unfold tchs
  rw [List.length_map, List.length_range]
theorem lnM_add {h : ZH} {xs : ZT} {c : Int32} (a : lnM h xs) (hl : xs.length < 72) (hc : zCh c) : lnM (zw (zw h 13 0 xs.length c) 12 0 5 (nI (xs.length + 1))) (xs ++ [c]) := by
  refine ⟨?_, by rw [List.length_append]; exact hl, fun j hj => ?_, fun x hx => ?_⟩
  · rw [zi_zw, if_pos ⟨rfl, rfl, rfl⟩, List.length_append]
    rfl
  · rw [zi_zw, if_neg (by omega), zi_zw]
    rw [List.length_append] at hj
    have hj : j < xs.length + 1 := hj
    by_cases e : j = xs.length
    · subst e
      rw [if_pos ⟨rfl, rfl, rfl⟩, getD_appG2]
    · rw [if_neg (by omega), getD_app1 (by omega)]
      exact a.2.2.1 j (by omega)
  · rcases List.mem_append.mp hx with z | z
    · exact a.2.2.2 x z
    · rw [List.mem_singleton.mp z]; exact hc
theorem sp_M_type {d : Nat} {row : Int64} {h : ZH} {up : Bool} {now given : Nat} {wr : Option Nat} {line : ZT} {gr bg tk : Bool} {snd : ZT} {rcs : List ZT} {tx : ZT} {L : List ZL} {Q : Int32 → ZH → Prop} (a : RM h (up, now, given, wr, line, gr, bg, tk, snd, rcs, tx, L))
    (h0 : ¬ (up = true ∧ ∃ n, tlF row 8 0 = some n ∧ line.length + n ≤ 72) → Q 0 h) (h1 : ∀ n, up = true → tlF row 8 0 = some n → line.length + n ≤ 72 → ∀ h', RM h' (up, now, given, wr, line ++ tchs row n, gr, bg, tk, snd, rcs, tx, L) → zSa PMM h h' → Q 1 h') : EvI d m_M_type [vQ (some (12, 0)), vL row] h Q := by
  obtain ⟨a1, a2, a3, a4, a5, a6, a7, a8⟩ := a
  have end_ : ∀ n, tlF row 8 0 = some n → EvAt d m_M_type 59 [some (vQ (some (12, 0))), some (vL row), none, some (vI (nI n)), none] [] h (zQI Q) := by
    intro n hn
    obtain ⟨-, hn8, hch⟩ := tlF_ok 8 0 n hn
    refine w_M_type_59 _ _ ?_
    rw [a1]
    refine ⟨fun c => h0 ?_, fun c => ?_⟩
    · rintro ⟨z, -⟩
      rw [z] at c
      exact absurd c (by decide)
    · have hup := bI_t c
      obtain ⟨b1, b2, b3, b4, b5, b6, b7, b8⟩ := a7
      have w := b6 hup
      have hl := w.2.1
      rw [w.1, nI_add]
      refine pk_le (line.length + n) 72 (fun c3 => ?_) (fun c3 => h0 ?_)
      · have key : ∀ (m i : Nat) (g : ZH), i + m = n → lnM g (line ++ tchs row i) → zSa (fun k x j => (k = 12 ∧ j = 5) ∨ (k = 13 ∧ x = 0)) h g → EvAt d m_M_type 82 [some (vQ (some (12, 0))), some (vL row), none, some (vI (nI n)), some (vI (nI i))] [] g (zQI Q) := by
          intro m
          induction m with
          | zero =>
            intro i g hi hr s
            have : i = n := by omega
            subst this
            refine w_M_type_82 _ _ _ (pk_le i i (fun _ => ?_) (fun z => by omega))
            refine h1 i hup hn c3 g ⟨by rw [s.1 12 0 0 (by omega)]; exact a1, by rw [s.1 12 0 1 (by omega)]; exact a2, a3, by rw [s.1 12 0 2 (by omega)]; exact a4, a5, a6, ⟨by rw [s.1 12 0 3 (by omega)]; exact b1, b2, by rw [s.1 12 0 6 (by omega)]; exact b3, by rw [s.1 12 0 7 (by omega)]; exact b4, by rw [s.1 12 0 8 (by omega)]; exact b5, fun _ => hr, fun z => ⟨(b7 z).1, (b7 z).2.kept s (by omega) (fun j hj => by omega)⟩, fun z => (b8 z).kept s (by omega) (fun j h1 h2 => by omega) (fun j h1 h2 => by omega)⟩, a8.kept s (fun p hp k i j z y => by unfold slP at z; omega)⟩ (s.mono (fun k i j z => by unfold PMM; omega))
          | succ m ih =>
            intro i g hi hr s
            refine w_M_type_82 _ _ _ (pk_le n i (fun z => by omega) (fun _ => ?_))
            have hlen : (line ++ tchs row i).length = line.length + i := by rw [List.length_append, tchs_len]
            have e5 : zi g 12 0 5 = nI (line.length + i) := by rw [hr.1, hlen]
            have e6 : ∀ x, zi (zw g 13 0 (line.length + i) x) 12 0 5 = nI (line.length + i) := fun x => by rw [zi_zw, if_neg (by omega)]; exact e5
            have hc : zCh (tcd row i) := hch i (Nat.zero_le _) (by omega)
            rw [e5, nI_clamp (by omega), e6, tcd_v (by omega), nI_inc, nI_inc]
            refine ⟨vp_in_nI (show _ < 72 by omega) (by decide), ih (i + 1) _ (by omega) ?_ ((s.w (Or.inr ⟨rfl, rfl⟩)).w (Or.inl ⟨rfl, rfl⟩))⟩
            have := lnM_add hr (by rw [hlen]; omega) hc
            rw [hlen, List.append_assoc, ← tchs_succ] at this
            exact this
        have := key n 0 h (by omega) (by
          show lnM h (line ++ [])
          rw [List.append_nil]
          exact w) zSa.rfl
        exact this
      · rintro ⟨-, n', z, z2⟩
        rw [hn] at z
        cases z
        omega
  have key : ∀ (n i : Nat), i + n = 8 → tlF row 8 0 = tlF row n i → EvAt d m_M_type 2 [some (vQ (some (12, 0))), some (vL row), none, some (vI (nI i)), none] [] h (zQI Q) := by
    intro n
    induction n with
    | zero =>
      intro i hi he
      exact w_M_type_2 _ _ (pk_le 8 i (fun _ => end_ i he) (fun z => by omega))
    | succ n ih =>
      intro i hi he
      have he : tlF row 8 0 = if tcd row i = 0 then some i else if tcd row i < 32 then none else if tcd row i ≤ 126 then tlF row n (i + 1) else none := he
      have none_ : tlF row 8 0 = none → Q 0 h := fun z => h0 (by
        rintro ⟨-, m, y, -⟩
        rw [z] at y
        cases y)
      refine w_M_type_2 _ _ (pk_le 8 i (fun z => by omega) (fun _ => ?_))
      rw [cmp_tcd (by omega), tcd_v (by omega)]
      refine ⟨fun c => end_ i ?_, fun c => ⟨fun c2 => none_ ?_, fun c2 => ⟨fun c3 => ?_, fun c3 => none_ ?_⟩⟩⟩
      · rw [if_pos c] at he; exact he
      · rw [if_neg c, if_pos c2] at he; exact he
      · rw [if_neg c, if_neg c2, if_pos c3] at he
        rw [nI_inc]
        exact ih (i + 1) (by omega) he
      · rw [if_neg c, if_neg c2, if_neg c3] at he; exact he
  exact e_M_type _ (key 8 0 rfl rfl)
