/-! each call, of the class and of the model -/
theorem tie_state {h : ZH} {up : Bool} {now given : Nat} {wr : Option Nat} {line : ZT} {gr bg tk : Bool} {snd : ZT} {rcs : List ZT} {tx : ZT} {L : List ZL} (a : Inv h (up, now, given, wr, line, gr, bg, tk, snd, rcs, tx, L)) (b : bnd (up, now, given, wr, line, gr, bg, tk, snd, rcs, tx, L)) : EvI 30 m_P_state [vQ (some (0, 0))] h (fun y1 h1 => EvI 30 m_M_state [vQ (some (12, 0))] h1 (tieQ (up, now, given, wr, line, gr, bg, tk, snd, rcs, tx, L) y1)) := by
  have a0 := a
  obtain ⟨r1, r2, r3⟩ := a
  refine sp_P_state (d := 30) r1 ?_
  refine sp_M_state (d := 30) r3 ?_
  exact ⟨rfl, _, a0, stp.rfl'⟩
theorem tie_next {h : ZH} {up : Bool} {now given : Nat} {wr : Option Nat} {line : ZT} {gr bg tk : Bool} {snd : ZT} {rcs : List ZT} {tx : ZT} {L : List ZL} (a : Inv h (up, now, given, wr, line, gr, bg, tk, snd, rcs, tx, L)) (b : bnd (up, now, given, wr, line, gr, bg, tk, snd, rcs, tx, L)) : EvI 30 m_P_next [vQ (some (0, 0))] h (fun y1 h1 => EvI 30 m_M_next [vQ (some (12, 0))] h1 (tieQ (up, now, given, wr, line, gr, bg, tk, snd, rcs, tx, L) y1)) := by
  have a0 := a
  obtain ⟨r1, r2, r3⟩ := a
  refine sp_P_next (d := 28) r1 ?_
  refine sp_M_next (d := 28) r3 ?_
  exact ⟨rfl, _, a0, stp.rfl'⟩
theorem tie_letters {h : ZH} {up : Bool} {now given : Nat} {wr : Option Nat} {line : ZT} {gr bg tk : Bool} {snd : ZT} {rcs : List ZT} {tx : ZT} {L : List ZL} (a : Inv h (up, now, given, wr, line, gr, bg, tk, snd, rcs, tx, L)) (b : bnd (up, now, given, wr, line, gr, bg, tk, snd, rcs, tx, L)) : EvI 30 m_P_letters [vQ (some (0, 0))] h (fun y1 h1 => EvI 30 m_M_letters [vQ (some (12, 0))] h1 (tieQ (up, now, given, wr, line, gr, bg, tk, snd, rcs, tx, L) y1)) := by
  have a0 := a
  obtain ⟨r1, r2, r3⟩ := a
  obtain ⟨-, -, -, -, -, -, -, ⟨⟨P, m, rfl⟩, pw, lt⟩⟩ := id r3
  refine sp_P_letters (d := 29) r1 ?_
  refine sp_M_letters (d := 29) m ?_
  exact ⟨rfl, _, a0, stp.rfl'⟩
theorem tie_letter {x : Int32} {h : ZH} {up : Bool} {now given : Nat} {wr : Option Nat} {line : ZT} {gr bg tk : Bool} {snd : ZT} {rcs : List ZT} {tx : ZT} {L : List ZL} (a : Inv h (up, now, given, wr, line, gr, bg, tk, snd, rcs, tx, L)) (b : bnd (up, now, given, wr, line, gr, bg, tk, snd, rcs, tx, L)) : EvI 30 m_P_letter [vQ (some (0, 0)), vI x] h (fun y1 h1 => EvI 30 m_M_letter [vQ (some (12, 0)), vI x] h1 (tieQ (up, now, given, wr, line, gr, bg, tk, snd, rcs, tx, L) y1)) := by
  have a0 := a
  obtain ⟨r1, r2, r3⟩ := a
  obtain ⟨-, -, -, -, -, -, -, ⟨⟨P, m, rfl⟩, pw, lt⟩⟩ := id r3
  refine sp_P_letter (d := 29) r1 ?_
  refine sp_M_letter (d := 29) m pw ?_
  exact ⟨rfl, _, a0, stp.rfl'⟩
theorem tie_text {x y : Int32} {h : ZH} {up : Bool} {now given : Nat} {wr : Option Nat} {line : ZT} {gr bg tk : Bool} {snd : ZT} {rcs : List ZT} {tx : ZT} {L : List ZL} (a : Inv h (up, now, given, wr, line, gr, bg, tk, snd, rcs, tx, L)) (b : bnd (up, now, given, wr, line, gr, bg, tk, snd, rcs, tx, L)) : EvI 30 m_P_text [vQ (some (0, 0)), vI x, vI y] h (fun y1 h1 => EvI 30 m_M_text [vQ (some (12, 0)), vI x, vI y] h1 (tieQ (up, now, given, wr, line, gr, bg, tk, snd, rcs, tx, L) y1)) := by
  have a0 := a
  obtain ⟨r1, r2, r3⟩ := a
  obtain ⟨-, -, -, -, -, ⟨π, sp⟩, -⟩ := id r1
  obtain ⟨-, -, -, -, -, -, -, ⟨⟨P, m, rfl⟩, pw, lt⟩⟩ := id r3
  refine sp_P_text (d := 29) sp ?_
  refine sp_M_text (d := 29) m pw ?_
  exact ⟨rfl, _, a0, stp.rfl'⟩
theorem tie_path {x y z : Int32} {h : ZH} {up : Bool} {now given : Nat} {wr : Option Nat} {line : ZT} {gr bg tk : Bool} {snd : ZT} {rcs : List ZT} {tx : ZT} {L : List ZL} (a : Inv h (up, now, given, wr, line, gr, bg, tk, snd, rcs, tx, L)) (b : bnd (up, now, given, wr, line, gr, bg, tk, snd, rcs, tx, L)) : EvI 30 m_P_path [vQ (some (0, 0)), vI x, vI y, vI z] h (fun y1 h1 => EvI 30 m_M_path [vQ (some (12, 0)), vI x, vI y, vI z] h1 (tieQ (up, now, given, wr, line, gr, bg, tk, snd, rcs, tx, L) y1)) := by
  have a0 := a
  obtain ⟨r1, r2, r3⟩ := a
  obtain ⟨-, -, -, -, -, ⟨π, sp⟩, -⟩ := id r1
  obtain ⟨-, -, -, -, -, -, -, ⟨⟨P, m, rfl⟩, pw, lt⟩⟩ := id r3
  refine sp_P_path (d := 29) sp ?_
  refine sp_M_path (d := 29) m pw ?_
  exact ⟨rfl, _, a0, stp.rfl'⟩
theorem tie_recipient {x y : Int32} {h : ZH} {up : Bool} {now given : Nat} {wr : Option Nat} {line : ZT} {gr bg tk : Bool} {snd : ZT} {rcs : List ZT} {tx : ZT} {L : List ZL} (a : Inv h (up, now, given, wr, line, gr, bg, tk, snd, rcs, tx, L)) (b : bnd (up, now, given, wr, line, gr, bg, tk, snd, rcs, tx, L)) : EvI 30 m_P_recipient [vQ (some (0, 0)), vI x, vI y] h (fun y1 h1 => EvI 30 m_M_recipient1 [vQ (some (12, 0)), vI x, vI y] h1 (tieQ (up, now, given, wr, line, gr, bg, tk, snd, rcs, tx, L) y1)) := by
  have a0 := a
  obtain ⟨r1, r2, r3⟩ := a
  obtain ⟨-, -, -, -, -, ⟨π, sp⟩, -⟩ := id r1
  obtain ⟨-, -, -, -, -, -, -, ⟨⟨P, m, rfl⟩, pw, lt⟩⟩ := id r3
  refine sp_P_recipient (d := 28) sp ?_
  refine sp_M_recipient1 (d := 29) m pw ?_
  exact ⟨rfl, _, a0, stp.rfl'⟩
theorem tie_due {x y : Int32} {h : ZH} {up : Bool} {now given : Nat} {wr : Option Nat} {line : ZT} {gr bg tk : Bool} {snd : ZT} {rcs : List ZT} {tx : ZT} {L : List ZL} (a : Inv h (up, now, given, wr, line, gr, bg, tk, snd, rcs, tx, L)) (b : bnd (up, now, given, wr, line, gr, bg, tk, snd, rcs, tx, L)) : EvI 30 m_P_due [vQ (some (0, 0)), vI x, vI y] h (fun y1 h1 => EvI 30 m_M_due [vQ (some (12, 0)), vI x, vI y] h1 (tieQ (up, now, given, wr, line, gr, bg, tk, snd, rcs, tx, L) y1)) := by
  have a0 := a
  obtain ⟨r1, r2, r3⟩ := a
  obtain ⟨-, -, -, -, -, ⟨π, sp⟩, -⟩ := id r1
  obtain ⟨-, -, -, -, -, -, -, ⟨⟨P, m, rfl⟩, pw, lt⟩⟩ := id r3
  refine sp_P_due (d := 28) sp ?_
  refine sp_M_due (d := 29) m pw ?_
  exact ⟨rfl, _, a0, stp.rfl'⟩
theorem tie_enter {h : ZH} {up : Bool} {now given : Nat} {wr : Option Nat} {line : ZT} {gr bg tk : Bool} {snd : ZT} {rcs : List ZT} {tx : ZT} {L : List ZL} (a : Inv h (up, now, given, wr, line, gr, bg, tk, snd, rcs, tx, L)) (b : bnd (up, now, given, wr, line, gr, bg, tk, snd, rcs, tx, L)) : EvI 30 m_P_enter [vQ (some (0, 0))] h (fun y1 h1 => EvI 30 m_M_enter [vQ (some (12, 0))] h1 (tieQ (up, now, given, wr, line, gr, bg, tk, snd, rcs, tx, L) y1)) := by
  refine sp_P_enter (d := 22) a.1 b.2 (fun h1 r1 z => ?_)
  refine sp_M_enter (d := 24) (a.mid z) b.2 (fun h2 r2 y => ?_)
  exact ⟨rfl, _, a.fin r1 z r2 y entS_st, entS_st⟩
theorem tie_restart {h : ZH} {up : Bool} {now given : Nat} {wr : Option Nat} {line : ZT} {gr bg tk : Bool} {snd : ZT} {rcs : List ZT} {tx : ZT} {L : List ZL} (a : Inv h (up, now, given, wr, line, gr, bg, tk, snd, rcs, tx, L)) (b : bnd (up, now, given, wr, line, gr, bg, tk, snd, rcs, tx, L)) : EvI 30 m_P_restart [vQ (some (0, 0))] h (fun y1 h1 => EvI 30 m_M_restart [vQ (some (12, 0))] h1 (tieQ (up, now, given, wr, line, gr, bg, tk, snd, rcs, tx, L) y1)) := by
  refine sp_P_restart (d := 28) a.1 (fun h1 r1 z => ?_)
  refine sp_M_restart (d := 28) (a.mid z) (fun h2 r2 y => ?_)
  exact ⟨rfl, _, a.fin r1 z r2 y rstS_st, rstS_st⟩
theorem tie_reply {x : Int32} {h : ZH} {up : Bool} {now given : Nat} {wr : Option Nat} {line : ZT} {gr bg tk : Bool} {snd : ZT} {rcs : List ZT} {tx : ZT} {L : List ZL} (a : Inv h (up, now, given, wr, line, gr, bg, tk, snd, rcs, tx, L)) (b : bnd (up, now, given, wr, line, gr, bg, tk, snd, rcs, tx, L)) : EvI 30 m_P_reply [vQ (some (0, 0)), vI x] h (fun y1 h1 => EvI 30 m_M_reply [vQ (some (12, 0)), vI x] h1 (tieQ (up, now, given, wr, line, gr, bg, tk, snd, rcs, tx, L) y1)) := by
  refine sp_P_reply (d := 23) a.1 b.2 (fun h1 r1 z => ?_)
  refine sp_M_reply (d := 26) (a.mid z) b.2 (fun h2 r2 y => ?_)
  exact ⟨rfl, _, a.fin r1 z r2 y rplS_st, rplS_st⟩
theorem tie_type {row : Int64} {h : ZH} {up : Bool} {now given : Nat} {wr : Option Nat} {line : ZT} {gr bg tk : Bool} {snd : ZT} {rcs : List ZT} {tx : ZT} {L : List ZL} (a : Inv h (up, now, given, wr, line, gr, bg, tk, snd, rcs, tx, L)) (b : bnd (up, now, given, wr, line, gr, bg, tk, snd, rcs, tx, L)) : EvI 30 m_P_type [vQ (some (0, 0)), vL row] h (fun y1 h1 => EvI 30 m_M_type [vQ (some (12, 0)), vL row] h1 (tieQ (up, now, given, wr, line, gr, bg, tk, snd, rcs, tx, L) y1)) := by
  refine sp_P_type (d := 28) a.1 (fun c => ?_) (fun n c1 c2 c3 h1 r1 z => ?_)
  · exact sp_M_type (d := 30) a.2.2 (fun _ => ⟨rfl, _, a, stp.rfl'⟩) (fun n c1 c2 c3 => absurd ⟨c1, n, c2, c3⟩ c)
  · refine sp_M_type (d := 30) (a.mid z) (fun c => absurd ⟨c1, n, c2, c3⟩ c) (fun n' d1 d2 d3 h2 r2 y => ?_)
    have : n' = n := Option.some.inj (d2.symm.trans c2)
    subst this
    exact ⟨rfl, _, a.fin r1 z r2 y ⟨Nat.le_add_right _ _, Nat.le_add_right _ _, Nat.le_refl _, relL.rfl'⟩, ⟨Nat.le_add_right _ _, Nat.le_add_right _ _, Nat.le_refl _, relL.rfl'⟩⟩
theorem tie_breakAfter {x : Int32} {h : ZH} {up : Bool} {now given : Nat} {wr : Option Nat} {line : ZT} {gr bg tk : Bool} {snd : ZT} {rcs : List ZT} {tx : ZT} {L : List ZL} (a : Inv h (up, now, given, wr, line, gr, bg, tk, snd, rcs, tx, L)) (b : bnd (up, now, given, wr, line, gr, bg, tk, snd, rcs, tx, L)) : EvI 30 m_P_breakAfter [vQ (some (0, 0)), vI x] h (fun y1 h1 => EvI 30 m_M_breakAfter [vQ (some (12, 0)), vI x] h1 (tieQ (up, now, given, wr, line, gr, bg, tk, snd, rcs, tx, L) y1)) := by
  have no : ∀ n : Nat, up = true → n ≤ 20 → x = nI n → (up = false ∨ x < 0 ∨ 20 < x) → False := by
    rintro n rfl hn rfl (z | z | z)
    · cases z
    · exact nI_pos (by omega) z
    · rw [show (20 : Int32) = nI 20 from rfl, nI_ltI (by omega) (by omega)] at z
      omega
  refine sp_P_breakAfter (d := 30) a.1 (fun c => ?_) (fun n c1 c2 c3 h1 r1 z => ?_)
  · exact sp_M_breakAfter (d := 30) a.2.2 (fun _ => ⟨rfl, _, a, stp.rfl'⟩) (fun n c1 c2 c3 => (no n c1 c2 c3 c).elim)
  · refine sp_M_breakAfter (d := 30) (a.mid z) (fun c => (no n c1 c2 c3 c).elim) (fun n' d1 d2 d3 h2 r2 y => ?_)
    have : n' = n := by
      rw [c3, nI_eq (by omega) (by omega)] at d3
      exact d3.symm
    subst this
    exact ⟨rfl, _, a.fin r1 z r2 y ⟨Nat.le_add_right _ _, Nat.le_add_right _ _, Nat.le_refl _, relL.rfl'⟩, ⟨Nat.le_add_right _ _, Nat.le_add_right _ _, Nat.le_refl _, relL.rfl'⟩⟩
theorem tie_pass {x : Int32} {h : ZH} {up : Bool} {now given : Nat} {wr : Option Nat} {line : ZT} {gr bg tk : Bool} {snd : ZT} {rcs : List ZT} {tx : ZT} {L : List ZL} (a : Inv h (up, now, given, wr, line, gr, bg, tk, snd, rcs, tx, L)) (b : bnd (up, now, given, wr, line, gr, bg, tk, snd, rcs, tx, L)) : EvI 30 m_P_pass [vQ (some (0, 0)), vI x] h (fun y1 h1 => EvI 30 m_M_pass [vQ (some (12, 0)), vI x] h1 (tieQ (up, now, given, wr, line, gr, bg, tk, snd, rcs, tx, L) y1)) := by
  have no : ∀ n : Nat, n ≤ 1000 → x = nI n → (x < 0 ∨ 1000 < x) → False := by
    rintro n hn rfl (z | z)
    · exact nI_pos (by omega) z
    · rw [show (1000 : Int32) = nI 1000 from rfl, nI_ltI (by omega) (by omega)] at z
      omega
  refine sp_P_pass (d := 30) a.1 b.1 (fun c => ?_) (fun n c2 c3 h1 r1 z => ?_)
  · exact sp_M_pass (d := 30) a.2.2 b.1 (fun _ => ⟨rfl, _, a, stp.rfl'⟩) (fun n c2 c3 => (no n c2 c3 c).elim)
  · refine sp_M_pass (d := 30) (a.mid z) b.1 (fun c => (no n c2 c3 c).elim) (fun n' d2 d3 h2 r2 y => ?_)
    have : n' = n := by
      rw [c3, nI_eq (by omega) (by omega)] at d3
      exact d3.symm
    subst this
    have t : stp (up, now, given, wr, line, gr, bg, tk, snd, rcs, tx, L) (up, now + n', given, wr, line, gr, bg, tk, snd, rcs, tx, L) := ⟨Nat.add_le_add_left c2 _, Nat.le_add_right _ _, Nat.le_refl _, relL.rfl'⟩
    exact ⟨rfl, _, a.fin r1 z r2 y t, t⟩
theorem tie_parts {x : Int32} {h : ZH} {up : Bool} {now given : Nat} {wr : Option Nat} {line : ZT} {gr bg tk : Bool} {snd : ZT} {rcs : List ZT} {tx : ZT} {L : List ZL} (a : Inv h (up, now, given, wr, line, gr, bg, tk, snd, rcs, tx, L)) (b : bnd (up, now, given, wr, line, gr, bg, tk, snd, rcs, tx, L)) : EvI 30 m_P_parts [vQ (some (0, 0)), vI x] h (fun y1 h1 => EvI 30 m_M_parts [vQ (some (12, 0)), vI x] h1 (tieQ (up, now, given, wr, line, gr, bg, tk, snd, rcs, tx, L) y1)) := by
  have r3 := a.2.2
  obtain ⟨-, -, -, -, -, -, -, ⟨-, pw, lt⟩⟩ := id r3
  refine sp_P_parts (d := 11) a.1 a.2.1 lt pw (fun h1 r1 rd1 u => ?_)
  have m1 : RM h1 (up, now, given, wr, line, gr, bg, tk, snd, rcs, tx, L) := RM_ext r3 (fun k i j hk => u.1 k i j (by omega))
  refine sp_M_parts (d := 25) m1 (fun h2 r2 y => ?_)
  refine ⟨rfl, _, ⟨RC_ext r1 (fun k i j hk => y.1 k i j (by unfold PMM; omega)) (fun k i j _ => y.2 k i j), rdC_next rd1 (fun k i j hk => y.1 k i j (by unfold PMM; omega)) (Nat.le_refl _) relL.rfl', r2⟩, stp.rfl'⟩
theorem tie_part {x y z : Int32} {h : ZH} {up : Bool} {now given : Nat} {wr : Option Nat} {line : ZT} {gr bg tk : Bool} {snd : ZT} {rcs : List ZT} {tx : ZT} {L : List ZL} (a : Inv h (up, now, given, wr, line, gr, bg, tk, snd, rcs, tx, L)) (b : bnd (up, now, given, wr, line, gr, bg, tk, snd, rcs, tx, L)) : EvI 30 m_P_part [vQ (some (0, 0)), vI x, vI y, vI z] h (fun y1 h1 => EvI 30 m_M_part [vQ (some (12, 0)), vI x, vI y, vI z] h1 (tieQ (up, now, given, wr, line, gr, bg, tk, snd, rcs, tx, L) y1)) := by
  have r3 := a.2.2
  obtain ⟨-, -, -, -, -, -, -, ⟨-, pw, lt⟩⟩ := id r3
  refine sp_P_part (d := 11) a.1 a.2.1 lt pw (fun h1 r1 rd1 u => ?_)
  have m1 : RM h1 (up, now, given, wr, line, gr, bg, tk, snd, rcs, tx, L) := RM_ext r3 (fun k i j hk => u.1 k i j (by omega))
  refine sp_M_part (d := 25) m1 (fun h2 r2 y => ?_)
  refine ⟨rfl, _, ⟨RC_ext r1 (fun k i j hk => y.1 k i j (by unfold PMM; omega)) (fun k i j _ => y.2 k i j), rdC_next rd1 (fun k i j hk => y.1 k i j (by unfold PMM; omega)) (Nat.le_refl _) relL.rfl', r2⟩, stp.rfl'⟩
