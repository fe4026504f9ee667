/-! the model's commands -/
theorem seg_get {xs : ZT} {a b j : Nat} (hj : j < b - a) : (seg xs a b).getD j 0 = xs.getD (a + j) 0 := by
  unfold seg
  rw [List.getD_eq_getElem?_getD, List.getD_eq_getElem?_getD, List.getElem?_take, if_pos hj, List.getElem?_drop]
def PSM : Nat → Nat → Nat → Prop := fun k i j => (k = 12 ∧ 5 ≤ j ∧ j ≤ 8) ∨ (k = 13 ∧ ((i = 3 ∧ j = 6) ∨ (i = 6 ∧ j = 6) ∨ (i = 2 ∧ 3612 ≤ j ∧ j < 4214) ∨ (i = 5 ∧ 30 ≤ j ∧ j < 35) ∨ (i = 4 ∧ 1200 ≤ j ∧ j < 1400)))
theorem spM.ps {h h' : ZH} {given : Nat} {L : List ZL} (a : spM h given L) (s : zSa PSM h h') : spM h' given L := a.kept s (fun p hp k i j z y => by unfold slP at z; unfold PSM at y; omega)
theorem msp.ps {h h' : ZH} {P : List (Nat × ZL)} (a : msp h P) (s : zSa PSM h h') : msp h' P := a.kept s (fun p hp k i j z y => by unfold slP at z; unfold PSM at y; omega)
def kpP (r : Nat) : Nat → Nat → Nat → Prop := fun k i j => k = 13 ∧ ((i = 5 ∧ j = 30 + r) ∨ (i = 4 ∧ 40 * (30 + r) ≤ j ∧ j < 40 * (30 + r) + 40))
theorem sp_M_keepPath {d a r : Nat} {h : ZH} {line : ZT} {Q : ZH → Prop} (w : lnM h line) (hr : r < 5) (h1 : a ≤ line.length - 1) (h0 : 0 < line.length) (h2 : line.length - 1 ≤ a + 40)
    (hq : ∀ h', ptIs h' (30 + r) (seg line a (line.length - 1)) → zSa (kpP r) h h' → Q h') : EvV d m_M_keepPath [vQ (some (12, 0)), vI (nI a), vI (nI r)] h Q := by
  have hl := w.2.1
  refine e_M_keepPath _ _ ?_
  rw [w.1, nI_m1 h0, pk_sub h1, show (30 : Int32) + nI r = nI (30 + r) from nI_add 30 r, nI_clamp (by omega)]
  refine ⟨vp_in_nI (show 30 + r < 40 by omega) (by decide), ?_⟩
  have key : ∀ (n i : Nat) (g : ZH), a ≤ i → i + n = line.length - 1 → zi g 13 5 (30 + r) = nI (line.length - 1 - a) → (∀ j, j < i - a → zi g 13 4 (40 * (30 + r) + j) = line.getD (a + j) 0) → zSa (kpP r) h g → EvAt d m_M_keepPath 19 [some (vQ (some (12, 0))), some (vI (nI a)), some (vI (nI r)), some (vI (nI i))] [] g (zQV Q) := by
    intro n
    induction n with
    | zero =>
      intro i g ha hi e5 e4 s
      have wg := w.kept s (by unfold kpP; omega) (fun j hj => by unfold kpP; omega)
      refine w_M_keepPath_19 _ _ _ ?_
      rw [wg.1, nI_m1 h0]
      refine pk_le (line.length - 1) i (fun _ => hq g ⟨?_, ?_, fun j hj => ?_, seg_ch w.2.2.2⟩ s) (fun z => by omega)
      · rw [seg_len (by omega)]; exact e5
      · rw [seg_len (by omega)]; omega
      · rw [seg_len (by omega)] at hj
        rw [seg_get hj]
        exact e4 j (by omega)
    | succ n ih =>
      intro i g ha hi e5 e4 s
      have wg := w.kept s (by unfold kpP; omega) (fun j hj => by unfold kpP; omega)
      refine w_M_keepPath_19 _ _ _ ?_
      rw [wg.1, nI_m1 h0]
      refine pk_le (line.length - 1) i (fun z => by omega) (fun _ => ?_)
      have e : (((40 : Int32) * ((30 : Int32) + nI r)) + nI i) - nI a = nI (40 * (30 + r) + (i - a)) := by
        rw [show (30 : Int32) + nI r = nI (30 + r) from nI_add 30 r, show (40 : Int32) * nI (30 + r) = nI (40 * (30 + r)) from pk_mul 40 _, nI_add, pk_sub (by omega)]
        congr 1
        omega
      rw [e, nI_clamp (by omega), nI_clamp (by omega), nI_inc, wg.2.2.1 i (by omega)]
      refine ⟨vp_in_nI (show i < 72 by omega) (by decide), vp_in_nI (show 40 * (30 + r) + (i - a) < 1600 by omega) (by decide), ih (i + 1) _ (by omega) (by omega) ?_ (fun j hj => ?_) (s.w ?_)⟩
      · rw [zi_zw, if_neg (by omega)]; exact e5
      · rw [zi_zw]
        by_cases e : j = i - a
        · rw [if_pos (by omega), e, show a + (i - a) = i by omega]
        · rw [if_neg (by omega)]
          exact e4 j (by omega)
      · unfold kpP; omega
  exact key (line.length - 1 - a) a _ (Nat.le_refl _) (by omega) (by rw [zi_zw, if_pos ⟨rfl, rfl, rfl⟩]) (fun j hj => by omega) (zSa.rfl.w (by unfold kpP; omega))
theorem kpP_PSM {r : Nat} (hr : r < 5) : ∀ k i j, kpP r k i j → PSM k i j := fun k i j z => by unfold kpP at z; unfold PSM; omega
/-- the model's session after o -/
def seMo (h : ZH) (wr : Option Nat) (line : ZT) (o : ZO) : Prop := seM h true wr line o.2.1 o.2.2.1 o.2.2.2.1 o.2.2.2.2.1 o.2.2.2.2.2.1 o.2.2.2.2.2.2
theorem sp_M_mail {d : Nat} {h : ZH} {P : List (Nat × ZL)} {wr : Option Nat} {line : ZT} {gr bg : Bool} {snd : ZT} {rcs : List ZT} {tx : ZT} {Q : Int32 → ZH → Prop} (a : msp h P) (b : seM h true wr line gr bg false snd rcs tx) (hw : wrB line 2 = true)
    (hq : ∀ h', seMo h' wr line (ob2 line gr bg snd rcs tx P.length) → zSa PSM h h' → Q (ob2 line gr bg snd rcs tx P.length).1 h') : EvI (d + 1) m_M_mail [vQ (some (12, 0))] h Q := by
  have b' := b
  obtain ⟨b1, b2, b3, b4, b5, b6, b7, b8⟩ := b
  have w := b6 rfl
  have hl := w.2.1
  have hw2 : brkB line 8 = true ∧ (11 = line.length - 1 ∨ pathB line 11 (line.length - 1) = true) := by
    have hw : (brkB line 8 && (decide (11 = line.length - 1) || pathB line 11 (line.length - 1))) = true := hw
    rw [Bool.and_eq_true, Bool.or_eq_true] at hw
    exact ⟨hw.1, hw.2.imp of_decide_eq_true id⟩
  have h11 : 11 ≤ line.length := brkB_len hw2.1
  have h51 : line.length - 1 ≤ 11 + 40 := by
    rcases hw2.2 with z | z
    · omega
    · exact pathB_len z
  have h12 : 12 ≤ line.length := by
    have := brk_m (xs := line) (by
      right
      have := hw2.1
      unfold brkB mtB at this
      rw [Bool.and_eq_true, Bool.and_eq_true] at this
      have h7 : mtF line 4 [32, 102, 114, 111, 109, 58, 60] = true := this.1.2
      have h7 := (mtF7.mp h7).1
      unfold cSm at h7
      split at h7
      · exact h7
      · split at h7
        · exact h7
        · rename_i c1 c2
          exfalso
          have c1 : ¬ line.getD 4 0 < 65 := c1
          have c2 : ¬ 90 < line.getD 4 0 := c2
          obtain ⟨n, hn, e⟩ := nI_of2 (x := line.getD 4 0) (M := 90) (n := 90) rfl (fun z => c1 (Int32.lt_trans z (by decide))) (Int32.not_lt.mp c2)
          rw [e, show (32 : Int32) = nI 32 from rfl, nI_add, nI_eq (by omega) (by omega)] at h7
          have : n = 0 := by omega
          rw [this, nI_0] at e
          rw [e] at c1
          exact c1 (by decide))
    rw [hw2.1] at this
    unfold brM at this
    rw [if_pos rfl, Bool.and_eq_true] at this
    have h2 := this.1
    unfold frB at h2
    simp only [Bool.and_eq_true, decide_eq_true_eq] at h2
    omega
  unfold ob2 at hq
  refine e_M_mail ?_
  rw [b3, b4]
  refine ⟨fun c => ?_, fun c => ⟨fun c1 => ?_, fun c1 => ?_⟩⟩
  · rw [if_pos (Or.inl ((bI_0 _).mp c))] at hq
    exact hq h b' zSa.rfl
  · have hg := bI_t c
    have hb := (bI_0 _).mp c1
    rw [if_neg (by rw [hg, hb]; simp)] at hq
    have h6 := a.len
    refine sp_M_spooled a ⟨fun c2 => ?_, fun c2 => ?_⟩
    · have hlt : ¬ 6 ≤ P.length := fun z => c2 (by rw [show P.length = 6 by omega]; rfl)
      rw [if_neg hlt] at hq
      refine ⟨Nat.le_of_ble_eq_true rfl |> fun (_ : 0 ≤ 1) => vp_in_nI (show 6 < 8 by decide) (by decide), ?_⟩
      rw [show ((6 : Int32)).toNatClampNeg = 6 from rfl]
      have s1 : zSa PSM h (zw (zw h 12 0 7 1) 13 6 6 0) := (zSa.rfl.w (by unfold PSM; omega)).w (by unfold PSM; omega)
      have w1 : lnM (zw (zw h 12 0 7 1) 13 6 6 0) line := w.kept (P := fun k i j => (k = 12 ∧ j = 7) ∨ (k = 13 ∧ i = 6)) ((zSa.rfl.w (by omega)).w (by omega)) (by omega) (fun j hj => by omega)
      refine sp_M_keepPath (a := 11) (r := 4) w1 (by decide) (by omega) (by omega) h51 (fun h' p' s' => ?_)
      have f : ∀ k i j, k = 12 ∨ (k = 13 ∧ i = 6) → zi h' k i j = zi (zw (zw h 12 0 7 1) 13 6 6 0) k i j := fun k i j z => s'.1 k i j (by unfold kpP; omega)
      refine hq h' ⟨?_, b2, ?_, ?_, ?_, fun _ => w1.kept s' (by unfold kpP; omega) (fun j hj => by unfold kpP; omega), fun z => (by cases z), fun _ => ⟨?_, Nat.zero_le _, p', fun r hr => absurd hr (Nat.not_lt_zero _)⟩⟩ (s1.trans (s'.mono (kpP_PSM (by decide))))
      · rw [f 12 0 3 (by omega)]; simp [zi_zw, b1]
      · rw [f 12 0 6 (by omega)]; simp [zi_zw, b3]
      · rw [f 12 0 7 (by omega)]; simp [zi_zw, bI]
      · rw [f 12 0 8 (by omega)]; simp [zi_zw, b5]
      · rw [f 13 6 6 (by omega)]; simp [zi_zw, nI_0]
    · have : P.length = 6 := by
        rw [show (6 : Int32) = nI 6 from rfl, nI_eq (by omega) (by omega)] at c2
        exact c2
      rw [if_pos (by omega)] at hq
      exact hq h b' zSa.rfl
  · rw [if_pos (Or.inr (bI_t c1))] at hq
    exact hq h b' zSa.rfl
