theorem mtF7 {xs : ZT} {a : Nat} {w0 w1 w2 w3 w4 w5 w6 : Int32} : mtF xs a [w0, w1, w2, w3, w4, w5, w6] = true ↔ (cSm (xs.getD a 0) = w0 ∧ cSm (xs.getD (a + 1) 0) = w1 ∧ cSm (xs.getD (a + 2) 0) = w2 ∧ cSm (xs.getD (a + 3) 0) = w3 ∧ cSm (xs.getD (a + 4) 0) = w4 ∧ cSm (xs.getD (a + 5) 0) = w5 ∧ cSm (xs.getD (a + 6) 0) = w6) := by
  simp only [mtF, Bool.and_eq_true, decide_eq_true_eq, and_true]
theorem mtF5 {xs : ZT} {a : Nat} {w0 w1 w2 w3 w4 : Int32} : mtF xs a [w0, w1, w2, w3, w4] = true ↔ (cSm (xs.getD a 0) = w0 ∧ cSm (xs.getD (a + 1) 0) = w1 ∧ cSm (xs.getD (a + 2) 0) = w2 ∧ cSm (xs.getD (a + 3) 0) = w3 ∧ cSm (xs.getD (a + 4) 0) = w4) := by
  simp only [mtF, Bool.and_eq_true, decide_eq_true_eq, and_true]
theorem cSm32 : cSm 32 = 32 := by decide +kernel
theorem cSm62 : cSm 62 = 62 := by decide +kernel
theorem brk_m {xs : ZT} (h4 : xs.length = 4 ∨ xs.getD 4 0 = 32) : brM xs true = brkB xs 8 := by
  rw [Bool.eq_iff_iff]
  unfold brM brkB mtB
  rw [if_pos rfl, Bool.and_eq_true, Bool.and_eq_true, Bool.and_eq_true, decide_eq_true_eq, decide_eq_true_eq]
  show (frB xs = true ∧ _) ↔ ((4 + 7 ≤ xs.length ∧ mtF xs 4 [32, 102, 114, 111, 109, 58, 60] = true) ∧ _)
  rw [mtF7]
  unfold frB
  simp only [Bool.and_eq_true, decide_eq_true_eq]
  constructor
  · rintro ⟨⟨z5, z6, z7, z8, z9, z10, z11⟩, z⟩
    have : xs.getD 4 0 = 32 := by
      rcases h4 with y | y
      · omega
      · exact y
    exact ⟨⟨by omega, by rw [this]; exact cSm32, z5, z6, z7, z8, z9, z10⟩, z⟩
  · rintro ⟨⟨y, z4, z5, z6, z7, z8, z9, z10⟩, z⟩
    refine ⟨⟨z5, z6, z7, z8, z9, z10, ?_⟩, z⟩
    by_cases e : xs.length = 11
    · rw [e] at z
      have z : xs.getD 10 0 = 62 := z
      rw [show xs.getD (4 + 6) 0 = xs.getD 10 0 from rfl, z, cSm62] at z10
      exact absurd z10 (by decide)
    · omega
theorem brk_r {xs : ZT} (h4 : xs.length = 4 ∨ xs.getD 4 0 = 32) : brM xs false = brkB xs 9 := by
  rw [Bool.eq_iff_iff]
  unfold brM brkB mtB
  rw [if_neg (by decide), Bool.and_eq_true, Bool.and_eq_true, Bool.and_eq_true, decide_eq_true_eq, decide_eq_true_eq]
  show (toB xs = true ∧ _) ↔ ((4 + 5 ≤ xs.length ∧ mtF xs 4 [32, 116, 111, 58, 60] = true) ∧ _)
  rw [mtF5]
  unfold toB
  simp only [Bool.and_eq_true, decide_eq_true_eq]
  constructor
  · rintro ⟨⟨z5, z6, z7, z8, z11⟩, z⟩
    have : xs.getD 4 0 = 32 := by
      rcases h4 with y | y
      · omega
      · exact y
    exact ⟨⟨by omega, by rw [this]; exact cSm32, z5, z6, z7, z8⟩, z⟩
  · rintro ⟨⟨y, z4, z5, z6, z7, z8⟩, z⟩
    refine ⟨⟨z5, z6, z7, z8, ?_⟩, z⟩
    by_cases e : xs.length = 9
    · rw [e] at z
      have z : xs.getD 8 0 = 62 := z
      rw [show xs.getD (4 + 4) 0 = xs.getD 8 0 from rfl, z, cSm62] at z8
      exact absurd z8 (by decide)
    · omega
theorem cmd_4 {xs : ZT} {c : Nat} (h : cmdOf xs = some c) : xs.length = 4 ∨ xs.getD 4 0 = 32 := by
  have hc := cmdOf_lt h
  unfold cmdOf at h
  split at h
  · cases h
  · rename_i z
    have := (mtB_4 hc).mp ((cmdF_spec _ _ _).mp h).2.2.1
    by_cases e : xs.length = 4
    · exact Or.inl e
    · refine Or.inr ?_
      by_cases u : xs.getD 4 0 = 32
      · exact u
      · exact absurd ⟨by omega, u⟩ z
theorem bI_1 {b : Bool} (h : b = true) : bI b = 1 := by rw [h]; rfl
theorem sp_M_fits {d c : Nat} {h : ZH} {xs : ZT} {Q : Int32 → ZH → Prop} (w : lnM h xs) (hc : cmdOf xs = some c) (hq : Q (bI (wrB xs c)) h) : EvI (d + 4) m_M_fits [vQ (some (12, 0)), vI (wdC c)] h Q := by
  have hl := w.2.1
  have h4 := cmd_4 hc
  have hc8 := cmdOf_lt hc
  have bool : ∀ (b : Bool), Q (bI b) h → ((bI b = 0 → Q (0 : Int32) h) ∧ (¬ bI b = 0 → Q (1 : Int32) h)) := by
    intro b z
    refine ⟨fun y => ?_, fun y => ?_⟩
    · rw [y] at z; exact z
    · rw [bI_1 (bI_t y)] at z; exact z
  have dom : Q (bI (domB xs 5 xs.length)) h → EvAt (d + 4) m_M_fits 12 [some (vQ (some (12, 0))), none] [] h (zQI Q) := by
    intro z
    refine w_M_fits_12 ⟨fun y => ?_, fun y => ?_⟩
    · rw [w.1, show (5 : Int32) = nI 5 from rfl, nI_leI (by omega) (by omega)] at y
      unfold domB at z
      rw [seg_nil y, domF, an46, Bool.and_false] at z
      exact z
    · rw [w.1]
      exact sp_M_isDomain (d := d + 1) (a := 5) w (by decide) (Nat.le_refl _) (bool _ z)
  have four : Q (bI (decide (xs.length = 4))) h → ((¬ (zi h 12 0 5) = (4 : Int32) → Q (0 : Int32) h) ∧ ((zi h 12 0 5) = (4 : Int32) → Q (1 : Int32) h)) := by
    intro z
    rw [w.1, show (4 : Int32) = nI 4 from rfl, nI_eq (by omega) (by omega)]
    refine ⟨fun y => ?_, fun y => ?_⟩
    · rw [decide_eq_false y] at z; exact z
    · rw [decide_eq_true y] at z; exact z
  match c, hc8, hq with
  | 0, _, hq => exact e_M_fits _ ⟨fun _ => dom hq, fun z => absurd rfl z⟩
  | 1, _, hq => exact e_M_fits _ ⟨fun z => absurd z (by decide), fun _ => ⟨fun z => absurd rfl z, fun _ => dom hq⟩⟩
  | 2, _, hq =>
    refine e_M_fits _ ⟨fun z => absurd z (by decide), fun _ => ⟨fun _ => ⟨fun z => absurd rfl z, fun _ => ?_⟩, fun z => absurd z (by decide)⟩⟩
    have hq : Q (bI (brkB xs 8 && (decide (11 = xs.length - 1) || pathB xs 11 (xs.length - 1)))) h := hq
    refine sp_M_bracketed (d := d + 1) (m := true) w ?_
    rw [brk_m h4]
    refine ⟨fun y => ?_, fun y => ?_⟩
    · rw [(bI_0 _).mp y, Bool.false_and] at hq; exact hq
    · have h11 : 11 ≤ xs.length := brkB_len (bI_t y)
      rw [bI_t y, Bool.true_and] at hq
      rw [w.1, show (12 : Int32) = nI 12 from rfl, nI_eq (by omega) (by omega), nI_m1 (by omega)]
      refine ⟨fun z => ?_, fun z => ?_⟩
      · rw [decide_eq_true (show 11 = xs.length - 1 by omega), Bool.true_or] at hq; exact hq
      · rw [decide_eq_false (show ¬ 11 = xs.length - 1 by omega), Bool.false_or] at hq
        exact sp_M_isPath (d := d) (a := 11) w (by decide) (by omega) (bool _ hq)
  | 3, _, hq =>
    refine e_M_fits _ ⟨fun z => absurd z (by decide), fun _ => ⟨fun _ => ⟨fun _ => ⟨fun z => absurd rfl z, fun _ => ?_⟩, fun z => absurd z (by decide)⟩, fun z => absurd z (by decide)⟩⟩
    have hq : Q (bI (brkB xs 9 && pathB xs 9 (xs.length - 1))) h := hq
    refine sp_M_bracketed (d := d + 1) (m := false) w ?_
    rw [brk_r h4]
    refine ⟨fun y => ?_, fun y => ?_⟩
    · rw [(bI_0 _).mp y, Bool.false_and] at hq; exact hq
    · have h9 : 9 ≤ xs.length := brkB_len (bI_t y)
      rw [bI_t y, Bool.true_and] at hq
      rw [w.1, nI_m1 (by omega)]
      exact sp_M_isPath (d := d) (a := 9) w (by decide) (by omega) (bool _ hq)
  | 4, _, hq => exact e_M_fits _ ⟨fun z => absurd z (by decide), fun _ => ⟨fun _ => ⟨fun _ => ⟨fun _ => four hq, fun z => absurd z (by decide)⟩, fun z => absurd z (by decide)⟩, fun z => absurd z (by decide)⟩⟩
  | 5, _, hq => exact e_M_fits _ ⟨fun z => absurd z (by decide), fun _ => ⟨fun _ => ⟨fun _ => ⟨fun _ => four hq, fun z => absurd z (by decide)⟩, fun z => absurd z (by decide)⟩, fun z => absurd z (by decide)⟩⟩
  | 6, _, hq => exact e_M_fits _ ⟨fun z => absurd z (by decide), fun _ => ⟨fun _ => ⟨fun _ => ⟨fun _ => four hq, fun z => absurd z (by decide)⟩, fun z => absurd z (by decide)⟩, fun z => absurd z (by decide)⟩⟩
  | 7, _, hq => exact e_M_fits _ ⟨fun z => absurd z (by decide), fun _ => ⟨fun _ => ⟨fun _ => ⟨fun _ => four hq, fun z => absurd z (by decide)⟩, fun z => absurd z (by decide)⟩, fun z => absurd z (by decide)⟩⟩
