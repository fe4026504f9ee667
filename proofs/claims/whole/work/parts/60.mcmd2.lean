theorem pathB_pos {line : ZT} {a b : Nat} (h : pathB line a b = true) : a < b := by
  unfold pathB at h
  rw [Bool.and_eq_true] at h
  rcases Nat.lt_or_ge a b with z | z
  · exact z
  · rw [show b - a = 0 by omega, pathF] at h
    cases h.2
theorem sp_M_recipient0 {d : Nat} {h : ZH} {wr : Option Nat} {line : ZT} {gr bg : Bool} {snd : ZT} {rcs : List ZT} {tx : ZT} {Q : Int32 → ZH → Prop} (b : seM h true wr line gr bg false snd rcs tx) (hw : wrB line 3 = true)
    (hq : ∀ h', seMo h' wr line (ob3 line gr bg snd rcs tx) → zSa PSM h h' → Q (ob3 line gr bg snd rcs tx).1 h') : EvI (d + 1) m_M_recipient0 [vQ (some (12, 0))] h Q := by
  have b' := b
  obtain ⟨b1, b2, b3, b4, b5, b6, b7, b8⟩ := b
  have w := b6 rfl
  have hl := w.2.1
  have hw2 : brkB line 9 = true ∧ pathB line 9 (line.length - 1) = true := by
    have hw : (brkB line 9 && pathB line 9 (line.length - 1)) = true := hw
    rw [Bool.and_eq_true] at hw
    exact hw
  have h9 := pathB_pos hw2.2
  have h49 := pathB_len hw2.2
  unfold ob3 at hq
  have e6 : ((6 : Int32)).toNatClampNeg = 6 := rfl
  have i6 : vp_in (6 : Int32) (zLen 13 6) := vp_in_nI (show 6 < 8 by decide) (by decide)
  refine e_M_recipient0 ?_
  rw [b4, e6]
  refine ⟨fun c => ⟨i6, ?_⟩, fun c => ?_⟩
  · have hb := bI_t c
    rw [if_neg (by rw [hb]; decide)] at hq
    obtain ⟨c1, c2, c3, c4⟩ := b8 hb
    rw [c1, show (4 : Int32) = nI 4 from rfl, nI_eq (by omega) (by omega)]
    refine ⟨fun z => ⟨i6, ?_⟩, fun z => ?_⟩
    · rw [if_neg (by omega)] at hq
      refine sp_M_keepPath (a := 9) w (by omega) (by omega) (by omega) h49 (fun h' p' s' => ⟨i6, i6, ?_⟩)
      have f : ∀ k i j, k = 12 ∨ (k = 13 ∧ i = 6) → zi h' k i j = zi h k i j := fun k i j z => s'.1 k i j (by unfold kpP; omega)
      rw [f 13 6 6 (by omega), c1, nI_inc]
      have s2 : zSa (fun k i j => k = 13 ∧ i = 6 ∧ j = 6) h' (zw h' 13 6 6 (nI (rcs.length + 1))) := zSa.w (P := fun k i j => k = 13 ∧ i = 6 ∧ j = 6) zSa.rfl ⟨rfl, rfl, rfl⟩
      have sk : zSa (fun k i j => k = 13 ∧ ((i = 6 ∧ j = 6) ∨ (i = 5 ∧ j = 30 + rcs.length) ∨ (i = 4 ∧ 40 * (30 + rcs.length) ≤ j ∧ j < 40 * (30 + rcs.length) + 40))) h (zw h' 13 6 6 (nI (rcs.length + 1))) := (s'.mono (fun k i j z => by unfold kpP at z; omega)).trans (s2.mono (fun k i j z => by omega))
      refine hq _ ⟨by rw [sk.1 12 0 3 (by omega)]; exact b1, b2, by rw [sk.1 12 0 6 (by omega)]; exact b3, by rw [sk.1 12 0 7 (by omega)]; exact b4, by rw [sk.1 12 0 8 (by omega)]; exact b5, fun _ => w.kept sk (by omega) (fun j hj => by omega), fun z => (by cases z), fun _ => ⟨?_, ?_, c3.kept sk (by omega) (fun i hi => by omega), fun r hr => ?_⟩⟩ (sk.mono (fun k i j z => by unfold PSM; omega))
      · rw [zi_zw, if_pos ⟨rfl, rfl, rfl⟩]
        show _ = nI (rcs ++ [_]).length
        rw [List.length_append]
        rfl
      · show (rcs ++ [_]).length ≤ 4
        rw [List.length_append]
        show rcs.length + 1 ≤ 4
        omega
      · have hr : r < (rcs ++ [seg line 9 (line.length - 1)]).length := hr
        rw [List.length_append] at hr
        have hr : r < rcs.length + 1 := hr
        show ptIs _ (30 + r) ((rcs ++ [seg line 9 (line.length - 1)]).getD r [])
        by_cases e : r = rcs.length
        · subst e
          rw [getD_appG2]
          exact p'.kept s2 (by omega) (fun i hi => by omega)
        · rw [getD_appG1 (by omega)]
          exact (c4 r (by omega)).kept sk (by omega) (fun i hi => by omega)
    · rw [if_pos (by omega)] at hq
      exact hq h b' zSa.rfl
  · rw [if_pos ((bI_0 _).mp c)] at hq
    exact hq h b' zSa.rfl
/-- the flags alone change -/
theorem seM_flags {h h' : ZH} {wr : Option Nat} {line : ZT} {gr bg gr' bg' : Bool} {snd : ZT} {rcs : List ZT} {tx : ZT} (b : seM h true wr line gr bg false snd rcs tx) (s : zSa (fun k i j => k = 12 ∧ (j = 6 ∨ j = 7)) h h') (e6 : zi h' 12 0 6 = bI gr') (e7 : zi h' 12 0 7 = bI bg') (hb : bg' = true → bg = true) : seM h' true wr line gr' bg' false snd rcs tx := by
  obtain ⟨b1, b2, b3, b4, b5, b6, b7, b8⟩ := b
  exact ⟨by rw [s.1 12 0 3 (by omega)]; exact b1, b2, e6, e7, by rw [s.1 12 0 8 (by omega)]; exact b5, fun z => (b6 z).kept s (by omega) (fun j hj => by omega), fun z => (by cases z), fun z => (b8 (hb z)).kept s (by omega) (fun j h1 h2 => by omega) (fun j h1 h2 => by omega)⟩
theorem sp_M_command {d : Nat} {h : ZH} {P : List (Nat × ZL)} {wr : Option Nat} {line : ZT} {gr bg : Bool} {snd : ZT} {rcs : List ZT} {tx : ZT} {Q : Int32 → ZH → Prop} (a : msp h P) (b : seM h true wr line gr bg false snd rcs tx)
    (hq : ∀ h', seMo h' wr line (obF line gr bg snd rcs tx P.length) → zSa PSM h h' → Q (obF line gr bg snd rcs tx P.length).1 h') : EvI (d + 5) m_M_command [vQ (some (12, 0))] h Q := by
  have b' := b
  obtain ⟨b1, b2, b3, b4, b5, b6, b7, b8⟩ := b
  have w := b6 rfl
  have hl := w.2.1
  have e6 : ((6 : Int32)).toNatClampNeg = 6 := rfl
  have i6 : vp_in (6 : Int32) (zLen 13 6) := vp_in_nI (show 6 < 8 by decide) (by decide)
  have i3 : vp_in (6 : Int32) (zLen 13 3) := vp_in_nI (show 6 < 8 by decide) (by decide)
  refine e_M_command (sp_M_wordCode (d := d + 2) w ?_)
  cases hc : cmdOf line with
  | none =>
    have ho : obF line gr bg snd rcs tx P.length = (500, gr, bg, false, snd, rcs, tx) := by unfold obF; rw [hc]
    rw [ho] at hq
    have hn := cmd_none w.2.2.2 hc
    refine ⟨fun z => absurd z (hn 0 (by decide)), fun _ => ⟨fun z => absurd z (hn 1 (by decide)), fun _ => ⟨fun z => absurd z (hn 2 (by decide)), fun _ => ⟨fun z => absurd z (hn 3 (by decide)), fun _ => ⟨fun z => absurd z (hn 4 (by decide)), fun _ => ⟨fun z => absurd z (hn 5 (by decide)), fun _ => ⟨fun z => absurd z (hn 6 (by decide)), fun _ => ⟨fun _ => ?_, fun z => absurd z (hn 7 (by decide))⟩⟩⟩⟩⟩⟩⟩⟩
    exact w_M_command_58 _ _ ⟨fun _ => w_M_command_71 _ ⟨fun _ => hq h b' zSa.rfl, fun z => absurd rfl z⟩, fun z => absurd rfl z⟩
  | some c =>
    have hc8 := cmdOf_lt hc
    have ho : obF line gr bg snd rcs tx P.length = if wrB line c then obC c line gr bg snd rcs tx P.length else (501, gr, bg, false, snd, rcs, tx) := by unfold obF; rw [hc]
    rw [ho] at hq
    have hwc := (cmd_wc w.2.2.2 hc8).mp hc
    have go : EvAt (d + 5) m_M_command 53 [some (vQ (some (12, 0))), some (vI (wcM line)), none] [] h (zQI Q) := by
      refine w_M_command_53 _ (w_M_command_58 _ _ ⟨fun z => absurd z (by decide), fun _ => ?_⟩)
      rw [hwc]
      refine sp_M_fits (d := d) w hc ⟨fun y => ?_, fun y => ?_⟩
      · have hwr := bI_t y
        rw [if_pos hwr] at hq
        have k97 : (∀ h', seM h' true wr line true false false snd rcs tx → zSa PSM h h' → Q 250 h') → EvAt (d + 5) m_M_command 97 [some (vQ (some (12, 0))), none, none] [] h (zQI Q) := by
          intro z
          have s : zSa (fun k i j => k = 12 ∧ (j = 6 ∨ j = 7)) h (zw (zw h 12 0 6 1) 12 0 7 0) := (zSa.rfl.w (by omega)).w (by omega)
          exact w_M_command_97 (z _ (seM_flags b' s (by simp [zi_zw, bI]) (by simp [zi_zw, bI]) (fun z => (by cases z))) (s.mono (fun k i j z => by unfold PSM; omega)))
        -- the last commands: begun and greeted are set
        have k196 : ∀ (x : Int32) (xs : Bool), (xs = true → bg = true) → (∀ h' (r : Bool), r = (decide (x ≠ 1903520116) && gr) → seM h' true wr line r xs false snd rcs tx → zSa PSM h h' → Q (if x = 1903520116 then 221 else 250) h') → EvAt (d + 5) m_M_command 196 [some (vQ (some (12, 0))), some (vI x), none] [vI (bI xs), vQ (some (12, 0))] h (zQI Q) := by
          intro x xs hxs z
          have k218 : ∀ (r : Bool), r = (decide (x ≠ 1903520116) && gr) → EvAt (d + 5) m_M_command 218 [none, some (vI x), none] [vI (bI r), vQ (some (12, 0))] (zw h 12 0 7 (bI xs)) (zQI Q) := by
            intro r hr
            have s : zSa (fun k i j => k = 12 ∧ (j = 6 ∨ j = 7)) h (zw (zw h 12 0 7 (bI xs)) 12 0 6 (bI r)) := (zSa.rfl.w (by omega)).w (by omega)
            have zz := z _ r hr (seM_flags b' s (by simp [zi_zw]) (by simp [zi_zw]) hxs) (s.mono (fun k i j z => by unfold PSM; omega))
            refine w_M_command_218 _ _ ⟨by cases r <;> simp [bI], fun y => ?_, fun y => ?_⟩
            · rw [if_neg y] at zz; exact zz
            · rw [if_pos y] at zz; exact zz
          refine w_M_command_196 _ _ ⟨by cases xs <;> simp [bI], fun y => ?_, fun y => ?_⟩
          · exact w_M_command_217 _ (k218 false (by simp [y]))
          · rw [zi_zw, if_neg (by omega), b3]
            refine ⟨fun y2 => w_M_command_217 _ (k218 false (by rw [(bI_0 _).mp y2, Bool.and_false])), fun y2 => k218 true (by rw [bI_t y2]; simp [y])⟩
        match c, hc8, hwr, hq with
        | 0, _, _, hq => exact ⟨fun _ => k97 hq, fun z => absurd rfl z⟩
        | 1, _, _, hq => exact ⟨fun z => absurd z (by decide), fun _ => ⟨fun z => absurd rfl z, fun _ => k97 hq⟩⟩
        | 2, _, hwr, hq => exact ⟨fun z => absurd z (by decide), fun _ => ⟨fun _ => ⟨fun z => absurd rfl z, fun _ => sp_M_mail (d := d + 3) a b' hwr hq⟩, fun z => absurd z (by decide)⟩⟩
        | 3, _, hwr, hq => exact ⟨fun z => absurd z (by decide), fun _ => ⟨fun _ => ⟨fun _ => ⟨fun z => absurd rfl z, fun _ => sp_M_recipient0 (d := d + 3) b' hwr hq⟩, fun z => absurd z (by decide)⟩, fun z => absurd z (by decide)⟩⟩
        | 4, _, _, hq =>
          refine ⟨fun z => absurd z (by decide), fun _ => ⟨fun _ => ⟨fun _ => ⟨fun _ => ⟨fun z => absurd rfl z, fun _ => ?_⟩, fun z => absurd z (by decide)⟩, fun z => absurd z (by decide)⟩, fun z => absurd z (by decide)⟩⟩
          have hq : ∀ h', seMo h' wr line (ob4 gr bg snd rcs tx) → zSa PSM h h' → Q (ob4 gr bg snd rcs tx).1 h' := hq
          unfold ob4 at hq
          rw [b4, e6]
          refine ⟨fun z => ?_, fun z => ⟨i6, fun z2 => ⟨i3, ?_⟩, fun z2 => ?_⟩⟩
          · rw [if_pos (Or.inl ((bI_0 _).mp z))] at hq
            exact hq h b' zSa.rfl
          · have hb := bI_t z
            obtain ⟨c1, c2, c3, c4⟩ := b8 hb
            have hne : rcs.length ≠ 0 := fun y => z2 (by rw [c1, y]; rfl)
            rw [if_neg (by rw [hb]; simp [hne])] at hq
            have s : zSa (fun k i j => (k = 12 ∧ j = 8) ∨ (k = 13 ∧ i = 3 ∧ j = 6)) h (zw (zw h 12 0 8 1) 13 3 6 0) := (zSa.rfl.w (by omega)).w (by omega)
            refine hq _ ⟨by rw [s.1 12 0 3 (by omega)]; exact b1, b2, by rw [s.1 12 0 6 (by omega)]; exact b3, by rw [s.1 12 0 7 (by omega)]; exact b4, by simp [zi_zw, bI], fun _ => w.kept s (by omega) (fun j hj => by omega), fun _ => ⟨hb, ⟨by simp [zi_zw, nI_0], fun i hi => absurd hi (Nat.not_lt_zero _), fun x hx => by cases hx⟩⟩, fun _ => (b8 hb).kept s (by omega) (fun j h1 h2 => by omega) (fun j h1 h2 => by omega)⟩ (s.mono (fun k i j z => by unfold PSM; omega))
          · have hb := bI_t z
            obtain ⟨c1, c2, c3, c4⟩ := b8 hb
            rw [c1] at z2
            have h0 : rcs.length = 0 := by
              rw [← nI_0, nI_eq (by omega) (by omega)] at z2
              exact z2
            rw [if_pos (Or.inr h0)] at hq
            exact hq h b' zSa.rfl
        | 5, _, _, hq =>
          refine ⟨fun z => absurd z (by decide), fun _ => ⟨fun _ => ⟨fun _ => ⟨fun _ => ⟨fun _ => ⟨fun _ => ?_, fun z => absurd z (by decide)⟩, fun z => absurd z (by decide)⟩, fun z => absurd z (by decide)⟩, fun z => absurd z (by decide)⟩, fun z => absurd z (by decide)⟩⟩
          exact w_M_command_195 _ (k196 _ false (fun z => (by cases z)) (fun h' r hr se s => hq h' (by rw [show gr = r by rw [hr]; rfl]; exact se) s))
        | 6, _, _, hq =>
          refine ⟨fun z => absurd z (by decide), fun _ => ⟨fun _ => ⟨fun _ => ⟨fun _ => ⟨fun _ => ⟨fun z => absurd rfl z, fun _ => ?_⟩, fun z => absurd z (by decide)⟩, fun z => absurd z (by decide)⟩, fun z => absurd z (by decide)⟩, fun z => absurd z (by decide)⟩⟩
          rw [b4]
          refine ⟨fun z => w_M_command_195 _ (k196 _ false (fun z => (by cases z)) (fun h' r hr se s => hq h' ?_ s)), fun z => k196 _ true (fun _ => bI_t z) (fun h' r hr se s => hq h' ?_ s)⟩
          · rw [show gr = r by rw [hr]; rfl, (bI_0 _).mp z]; exact se
          · rw [show gr = r by rw [hr]; rfl, bI_t z]; exact se
        | 7, _, _, hq =>
          refine ⟨fun z => absurd z (by decide), fun _ => ⟨fun _ => ⟨fun _ => ⟨fun _ => ⟨fun _ => ⟨fun _ => ?_, fun z => absurd z (by decide)⟩, fun z => absurd z (by decide)⟩, fun z => absurd z (by decide)⟩, fun z => absurd z (by decide)⟩, fun z => absurd z (by decide)⟩⟩
          exact w_M_command_195 _ (k196 _ false (fun z => (by cases z)) (fun h' r hr se s => hq h' (by rw [show r = false by rw [hr]; rfl] at se; exact se) s))
      · rw [(bI_0 _).mp y, if_neg (by decide)] at hq
        exact w_M_command_71 _ ⟨fun z => absurd z (by decide), fun _ => hq h b' zSa.rfl⟩
    match c, hc8, hwc with
    | 0, _, hwc => exact ⟨fun _ => go, fun z => absurd hwc z⟩
    | 1, _, hwc => exact ⟨fun _ => go, fun _ => ⟨fun _ => go, fun z => absurd hwc z⟩⟩
    | 2, _, hwc => exact ⟨fun _ => go, fun _ => ⟨fun _ => go, fun _ => ⟨fun _ => go, fun z => absurd hwc z⟩⟩⟩
    | 3, _, hwc => exact ⟨fun _ => go, fun _ => ⟨fun _ => go, fun _ => ⟨fun _ => go, fun _ => ⟨fun _ => go, fun z => absurd hwc z⟩⟩⟩⟩
    | 4, _, hwc => exact ⟨fun _ => go, fun _ => ⟨fun _ => go, fun _ => ⟨fun _ => go, fun _ => ⟨fun _ => go, fun _ => ⟨fun _ => go, fun z => absurd hwc z⟩⟩⟩⟩⟩
    | 5, _, hwc => exact ⟨fun _ => go, fun _ => ⟨fun _ => go, fun _ => ⟨fun _ => go, fun _ => ⟨fun _ => go, fun _ => ⟨fun _ => go, fun _ => ⟨fun _ => go, fun z => absurd hwc z⟩⟩⟩⟩⟩⟩
    | 6, _, hwc => exact ⟨fun _ => go, fun _ => ⟨fun _ => go, fun _ => ⟨fun _ => go, fun _ => ⟨fun _ => go, fun _ => ⟨fun _ => go, fun _ => ⟨fun _ => go, fun _ => ⟨fun _ => go, fun z => absurd hwc z⟩⟩⟩⟩⟩⟩⟩
    | 7, _, hwc => exact ⟨fun _ => go, fun _ => ⟨fun _ => go, fun _ => ⟨fun _ => go, fun _ => ⟨fun _ => go, fun _ => ⟨fun _ => go, fun _ => ⟨fun _ => go, fun _ => ⟨fun _ => go, fun _ => ⟨fun z => absurd hwc z, fun _ => go⟩⟩⟩⟩⟩⟩⟩⟩
