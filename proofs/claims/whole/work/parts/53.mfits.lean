theorem zS_uniq : ∀ c, c < 8 → ∀ c', c' < 8 → (∀ k, k < 4 → (zS c).getD k 0 = (zS c').getD k 0) → c = c' := by decide +kernel
theorem cmdF_spec {xs : ZT} : ∀ (n i c : Nat), cmdF xs n i = some c ↔ (i ≤ c ∧ c < i + n ∧ mtB xs 0 (zS c) = true ∧ ∀ j, i ≤ j → j < c → mtB xs 0 (zS j) = false)
  | 0, i, c => by
    rw [cmdF]
    constructor
    · intro z; cases z
    · intro z; omega
  | n + 1, i, c => by
    rw [cmdF]
    by_cases hm : mtB xs 0 (zS i) = true
    · rw [if_pos hm]
      constructor
      · intro z
        cases z
        exact ⟨Nat.le_refl _, by omega, hm, fun j h1 h2 => by omega⟩
      · rintro ⟨z1, z2, z3, z4⟩
        by_cases e : i = c
        · rw [e]
        · have := z4 i (Nat.le_refl _) (by omega)
          rw [hm] at this
          cases this
    · rw [if_neg hm, cmdF_spec n (i + 1) c]
      rw [Bool.not_eq_true] at hm
      constructor
      · rintro ⟨z1, z2, z3, z4⟩
        refine ⟨by omega, by omega, z3, fun j h1 h2 => ?_⟩
        by_cases e : j = i
        · rw [e]; exact hm
        · exact z4 j (by omega) h2
      · rintro ⟨z1, z2, z3, z4⟩
        have : c ≠ i := fun e => by rw [e, hm] at z3; cases z3
        exact ⟨by omega, by omega, z3, fun j h1 h2 => z4 j (by omega) h2⟩
theorem cmd_wc {xs : ZT} (hch : ∀ x ∈ xs, zCh x) {c : Nat} (hc : c < 8) : cmdOf xs = some c ↔ wcM xs = wdC c := by
  rw [wc_iff hch hc]
  unfold cmdOf
  by_cases h4 : 4 < xs.length ∧ xs.getD 4 0 ≠ 32
  · rw [if_pos h4]
    constructor
    · intro z; cases z
    · intro z; exact absurd h4 z.1
  · rw [if_neg h4, cmdF_spec]
    constructor
    · rintro ⟨-, -, z, -⟩
      exact ⟨h4, z⟩
    · rintro ⟨-, z⟩
      refine ⟨Nat.zero_le _, by omega, z, fun j _ hj => ?_⟩
      cases hm : mtB xs 0 (zS j) with
      | false => rfl
      | true =>
        have u := (mtB_4 (c := j) (by omega)).mp hm
        have v := (mtB_4 hc).mp z
        have := zS_uniq j (by omega) c hc (fun k hk => (u.2 k hk).symm.trans (v.2 k hk))
        omega
theorem cmd_none {xs : ZT} (hch : ∀ x ∈ xs, zCh x) (h : cmdOf xs = none) : ∀ c, c < 8 → wcM xs ≠ wdC c := by
  intro c hc e
  rw [(cmd_wc hch hc).mpr e] at h
  cases h
def frB (xs : ZT) : Bool := decide (cSm (xs.getD 5 0) = 102) && (decide (cSm (xs.getD 6 0) = 114) && (decide (cSm (xs.getD 7 0) = 111) && (decide (cSm (xs.getD 8 0) = 109) && (decide (cSm (xs.getD 9 0) = 58) && (decide (cSm (xs.getD 10 0) = 60) && decide (11 < xs.length))))))
def toB (xs : ZT) : Bool := decide (cSm (xs.getD 5 0) = 116) && (decide (cSm (xs.getD 6 0) = 111) && (decide (cSm (xs.getD 7 0) = 58) && (decide (cSm (xs.getD 8 0) = 60) && decide (9 < xs.length))))
def brM (xs : ZT) (m : Bool) : Bool := (if m then frB xs else toB xs) && decide (xs.getD (xs.length - 1) 0 = 62)
theorem frB_len {xs : ZT} (h : frB xs = true) : 11 < xs.length := by
  unfold frB at h
  simp only [Bool.and_eq_true, decide_eq_true_eq] at h
  exact h.2.2.2.2.2.2
theorem toB_len {xs : ZT} (h : toB xs = true) : 9 < xs.length := by
  unfold toB at h
  simp only [Bool.and_eq_true, decide_eq_true_eq] at h
  exact h.2.2.2.2
theorem sp_M_bracketed {d : Nat} {h : ZH} {xs : ZT} {m : Bool} {Q : Int32 → ZH → Prop} (w : lnM h xs) (hq : Q (bI (brM xs m)) h) : EvI (d + 2) m_M_bracketed [vQ (some (12, 0)), vI (bI m)] h Q := by
  have hl := w.2.1
  unfold brM at hq
  have k153 : 9 < xs.length → Q (bI (decide (xs.getD (xs.length - 1) 0 = 62))) h → EvAt (d + 2) m_M_bracketed 153 [some (vQ (some (12, 0))), none, none, none] [] h (zQI Q) := by
    intro h9 z
    refine w_M_bracketed_153 ?_
    rw [w.1, nI_m1 (by omega), nI_clamp (show xs.length - 1 < 2 ^ 31 by omega), w.2.2.1 _ (by omega)]
    refine ⟨vp_in_nI (show xs.length - 1 < 72 by omega) (by decide), fun c => ?_, fun c => ?_⟩
    · rw [decide_eq_false c] at z; exact z
    · rw [decide_eq_true c] at z; exact z
  have k137 : EvAt (d + 2) m_M_bracketed 137 [some (vQ (some (12, 0))), some (vI (bI m)), some (vI (bI (frB xs))), none] [vI (bI (toB xs))] h (zQI Q) := by
    refine w_M_bracketed_137 _ _ _ ⟨fun c => ⟨fun c2 => ?_, fun c2 => ?_⟩, fun c => ⟨fun c2 => ?_, fun c2 => ?_⟩⟩
    · rw [(bI_0 _).mp c, if_neg (by decide), (bI_0 _).mp c2, Bool.false_and] at hq; exact hq
    · rw [(bI_0 _).mp c, if_neg (by decide), bI_t c2, Bool.true_and] at hq
      exact k153 (toB_len (bI_t c2)) hq
    · rw [bI_t c, if_pos rfl, (bI_0 _).mp c2, Bool.false_and] at hq; exact hq
    · rw [bI_t c, if_pos rfl, bI_t c2, Bool.true_and] at hq
      exact k153 (by have := frB_len (bI_t c2); omega) hq
  have k136 : toB xs = false → EvAt (d + 2) m_M_bracketed 136 [some (vQ (some (12, 0))), some (vI (bI m)), some (vI (bI (frB xs))), none] [] h (zQI Q) := by
    intro z
    rw [z] at k137
    exact w_M_bracketed_136 _ _ k137
  have k79 : EvAt (d + 2) m_M_bracketed 79 [some (vQ (some (12, 0))), some (vI (bI m)), none, none] [vI (bI (frB xs))] h (zQI Q) := by
    refine w_M_bracketed_79 _ _ (sp_M_charAt (k := 5) w (by decide) ⟨fun c5 => k136 (by unfold toB; rw [decide_eq_false c5]; rfl), fun c5 => sp_M_charAt (k := 6) w (by decide) ⟨fun c6 => k136 (by unfold toB; rw [decide_eq_false c6, Bool.false_and, Bool.and_false]), fun c6 => sp_M_charAt (k := 7) w (by decide) ⟨fun c7 => k136 (by unfold toB; rw [decide_eq_false c7, Bool.false_and, Bool.and_false, Bool.and_false]), fun c7 => sp_M_charAt (k := 8) w (by decide) ⟨fun c8 => k136 (by unfold toB; rw [decide_eq_false c8, Bool.false_and, Bool.and_false, Bool.and_false, Bool.and_false]), fun c8 => ⟨fun c9 => k136 ?_, fun c9 => ?_⟩⟩⟩⟩⟩)
    · rw [w.1, show (9 : Int32) = nI 9 from rfl, nI_leI (by omega) (by omega)] at c9
      unfold toB
      rw [decide_eq_false (show ¬ 9 < xs.length by omega), Bool.and_false, Bool.and_false, Bool.and_false, Bool.and_false]
    · rw [w.1, show (9 : Int32) = nI 9 from rfl, nI_leI (by omega) (by omega)] at c9
      have : toB xs = true := by
        unfold toB
        rw [decide_eq_true c5, decide_eq_true c6, decide_eq_true c7, decide_eq_true c8, decide_eq_true (show 9 < xs.length by omega)]
        rfl
      rw [this] at k137
      exact k137
  have k78 : frB xs = false → EvAt (d + 2) m_M_bracketed 78 [some (vQ (some (12, 0))), some (vI (bI m)), none, none] [] h (zQI Q) := by
    intro z
    rw [z] at k79
    exact w_M_bracketed_78 _ k79
  refine e_M_bracketed _ (sp_M_charAt (k := 5) w (by decide) ⟨fun c5 => k78 (by unfold frB; rw [decide_eq_false c5]; rfl), fun c5 => sp_M_charAt (k := 6) w (by decide) ⟨fun c6 => k78 (by unfold frB; rw [decide_eq_false c6, Bool.false_and, Bool.and_false]), fun c6 => sp_M_charAt (k := 7) w (by decide) ⟨fun c7 => k78 (by unfold frB; rw [decide_eq_false c7, Bool.false_and, Bool.and_false, Bool.and_false]), fun c7 => sp_M_charAt (k := 8) w (by decide) ⟨fun c8 => k78 (by unfold frB; rw [decide_eq_false c8, Bool.false_and, Bool.and_false, Bool.and_false, Bool.and_false]), fun c8 => sp_M_charAt (k := 9) w (by decide) ⟨fun c9 => k78 (by unfold frB; rw [decide_eq_false c9, Bool.false_and, Bool.and_false, Bool.and_false, Bool.and_false, Bool.and_false]), fun c9 => sp_M_charAt (k := 10) w (by decide) ⟨fun c10 => k78 (by unfold frB; rw [decide_eq_false c10, Bool.false_and, Bool.and_false, Bool.and_false, Bool.and_false, Bool.and_false, Bool.and_false]), fun c10 => ⟨fun c11 => k78 ?_, fun c11 => ?_⟩⟩⟩⟩⟩⟩⟩)
  · rw [w.1, show (11 : Int32) = nI 11 from rfl, nI_leI (by omega) (by omega)] at c11
    unfold frB
    rw [decide_eq_false (show ¬ 11 < xs.length by omega), Bool.and_false, Bool.and_false, Bool.and_false, Bool.and_false, Bool.and_false, Bool.and_false]
  · rw [w.1, show (11 : Int32) = nI 11 from rfl, nI_leI (by omega) (by omega)] at c11
    have : frB xs = true := by
      unfold frB
      rw [decide_eq_true c5, decide_eq_true c6, decide_eq_true c7, decide_eq_true c8, decide_eq_true c9, decide_eq_true c10, decide_eq_true (show 11 < xs.length by omega)]
      rfl
    rw [this] at k79
    exact k79
