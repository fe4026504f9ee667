theorem at46 : cAt 46 = false := by decide +kernel
theorem mloc_loop {d b : Nat} {h : ZH} {xs : ZT} {Q : Int32 → ZH → Prop} (w : lnM h xs) (hb : b ≤ xs.length) : ∀ (n i : Nat) (g bg : Bool) (bf : Int32), i < 2 ^ 30 → b - i = n → (g = true → (bf = 46 ↔ bg = false)) → Q (bI (g && locF bg (seg xs i b))) h → EvAt (d + 2) m_M_isLocal 18 [some (vQ (some (12, 0))), none, some (vI (nI b)), some (vI (bI g)), some (vI bf), some (vI (nI i)), none] [] h (zQI Q) := by
  have hl := w.2.1
  intro n
  induction n with
  | zero =>
    intro i g bg bf hi hn hg hq
    rw [seg_nil (by omega), locF] at hq
    refine w_M_isLocal_18 _ _ _ _ ⟨fun _ => ⟨fun c => ?_, fun c => ⟨fun c2 => ?_, fun c2 => ?_⟩⟩, fun c => ?_⟩
    · rw [(bI_0 _).mp c, Bool.false_and] at hq; exact hq
    · rw [(hg (bI_t c)).mp c2, Bool.and_false] at hq; exact hq
    · have hgt := bI_t c
      have : bg = true := by
        cases bg with
        | true => rfl
        | false => exact absurd ((hg hgt).mpr rfl) c2
      rw [hgt, this] at hq
      exact hq
    · exact absurd ((nI_leI (by omega) (by omega)).mpr (by omega)) c
  | succ n ih =>
    intro i g bg bf hi hn hg hq
    rw [seg_cons (by omega) hb] at hq
    have go : ∀ v bg' : Bool, (v = true → (xs.getD i 0 = 46 ↔ bg' = false)) → Q (bI (v && locF bg' (seg xs (i + 1) b))) h → EvAt (d + 2) m_M_isLocal 85 [some (vQ (some (12, 0))), none, some (vI (nI b)), none, none, some (vI (nI i)), some (vI (xs.getD i 0))] [vI (bI v)] h (zQI Q) := by
      intro v bg' hv hqv
      refine w_M_isLocal_85 _ _ _ _ ?_
      rw [nI_inc]
      exact ih (i + 1) v bg' _ (by omega) (by omega) hv hqv
    have bad : Q 0 h → EvAt (d + 2) m_M_isLocal 84 [some (vQ (some (12, 0))), none, some (vI (nI b)), none, none, some (vI (nI i)), some (vI (xs.getD i 0))] [] h (zQI Q) := fun z => w_M_isLocal_84 _ _ _ (go false false (fun z => (by cases z)) z)
    have good : ∀ bg' : Bool, (xs.getD i 0 = 46 ↔ bg' = false) → Q (bI (locF bg' (seg xs (i + 1) b))) h → EvAt (d + 2) m_M_isLocal 80 [some (vQ (some (12, 0))), none, some (vI (nI b)), none, none, some (vI (nI i)), some (vI (xs.getD i 0))] [] h (zQI Q) := fun bg' y z => w_M_isLocal_80 _ _ _ (go true bg' (fun _ => y) (by rw [Bool.true_and]; exact z))
    refine w_M_isLocal_18 _ _ _ _ ⟨fun c => absurd ((nI_leI (by omega) (by omega)).mp c) (by omega), fun _ => ?_⟩
    rw [nI_clamp (show i < 2 ^ 31 by omega), w.2.2.1 i (by omega)]
    refine ⟨vp_in_nI (show i < 72 by omega) (by decide), fun c => bad ?_, fun c => ?_⟩
    · rw [(bI_0 _).mp c, Bool.false_and] at hq; exact hq
    · have hgt := bI_t c
      rw [hgt, Bool.true_and, locF] at hq
      have atom : cAt (xs.getD i 0) = true → EvAt (d + 2) m_M_isLocal 80 [some (vQ (some (12, 0))), none, some (vI (nI b)), none, none, some (vI (nI i)), some (vI (xs.getD i 0))] [] h (zQI Q) := by
        intro z
        rw [if_pos z] at hq
        refine good true ⟨fun e => ?_, fun e => (by cases e)⟩ hq
        rw [e, at46] at z
        cases z
      refine sp_M_an ⟨fun c1 => atom ?_, fun c1 => ⟨fun c2 => atom (by unfold cAt; rw [c2]; decide), fun c2 => ⟨fun c3 => atom (by unfold cAt; rw [c3]; decide), fun c3 => ⟨fun c4 => atom (by unfold cAt; rw [c4]; decide), fun c4 => ?_⟩⟩⟩⟩
      · unfold cAt
        rw [bI_t c1]
        rfl
      · have hc : cAt (xs.getD i 0) = false := by
          unfold cAt
          rw [(bI_0 _).mp c1, decide_eq_false c2, decide_eq_false c3, decide_eq_false c4]
          rfl
        rw [hc, if_neg (by decide)] at hq
        refine ⟨fun c5 => bad ?_, fun c5 => ⟨fun c6 => bad ?_, fun c6 => ?_⟩⟩
        · rw [if_neg (fun z => c5 z.1)] at hq; exact hq
        · rw [if_neg (fun z => by rw [(hg hgt).mp c6] at z; exact absurd z.2 (by decide))] at hq; exact hq
        · have : bg = true := by
            cases bg with
            | true => rfl
            | false => exact absurd ((hg hgt).mpr rfl) c6
          rw [if_pos ⟨c5, this⟩] at hq
          exact good false ⟨fun _ => rfl, fun _ => c5⟩ hq
theorem sp_M_isLocal {d a b : Nat} {h : ZH} {xs : ZT} {Q : Int32 → ZH → Prop} (w : lnM h xs) (ha : a < 2 ^ 30) (hb : b ≤ xs.length) (hq : Q (bI (locF false (seg xs a b))) h) : EvI (d + 2) m_M_isLocal [vQ (some (12, 0)), vI (nI a), vI (nI b)] h Q := by
  have hl := w.2.1
  refine e_M_isLocal _ _ ⟨fun c => ?_, fun c => ?_⟩
  · rw [nI_leI (by omega) (by omega)] at c
    rw [seg_nil c] at hq
    refine w_M_isLocal_10 _ _ _ (mloc_loop w hb _ a false false 46 ha rfl (fun z => (by cases z)) ?_)
    exact hq
  · refine w_M_isLocal_10 _ _ _ (mloc_loop w hb _ a true false 46 ha rfl (fun _ => ⟨fun _ => rfl, fun _ => rfl⟩) ?_)
    rw [Bool.true_and]
    exact hq
theorem sp_M_isPath {d a b : Nat} {h : ZH} {xs : ZT} {Q : Int32 → ZH → Prop} (w : lnM h xs) (ha : a < 2 ^ 30) (hb : b ≤ xs.length) (hq : Q (bI (pathB xs a b)) h) : EvI (d + 3) m_M_isPath [vQ (some (12, 0)), vI (nI a), vI (nI b)] h Q := by
  have hl := w.2.1
  have e : (40 : Int32) < nI b - nI a ↔ ¬ b ≤ a + 40 := by
    rw [Int32.lt_iff_toInt_lt, pk_sub_toInt (by omega) ha]
    have : (40 : Int32).toInt = 40 := rfl
    rw [this]
    omega
  unfold pathB at hq
  have key : ∀ (n i : Nat), i < 2 ^ 30 → b - i = n → Q (bI (decide (b ≤ a + 40) && pathF xs a b n i)) h → EvAt (d + 3) m_M_isPath 2 [some (vQ (some (12, 0))), some (vI (nI a)), some (vI (nI b)), some (vI (nI i))] [] h (zQI Q) := by
    intro n
    induction n with
    | zero =>
      intro i hi hn hq
      rw [pathF, Bool.and_false] at hq
      have hle : nI b ≤ nI i := (nI_leI (by omega) (by omega)).mpr (by omega)
      exact w_M_isPath_2 _ _ _ ⟨fun _ => w_M_isPath_25 _ _ _ ⟨fun _ => hq, fun _ => ⟨fun _ => hq, fun c => absurd hle c⟩⟩, fun c => absurd hle c⟩
    | succ n ih =>
      intro i hi hn hq
      rw [pathF] at hq
      refine w_M_isPath_2 _ _ _ ⟨fun c => absurd ((nI_leI (by omega) (by omega)).mp c) (by omega), fun _ => ?_⟩
      rw [nI_clamp (show i < 2 ^ 31 by omega), w.2.2.1 i (by omega)]
      refine ⟨vp_in_nI (show i < 72 by omega) (by decide), fun c => ?_, fun c => ?_⟩
      · rw [if_pos c] at hq
        refine w_M_isPath_25 _ _ _ ⟨fun c2 => ?_, fun c2 => ⟨fun c3 => absurd ((nI_leI (by omega) (by omega)).mp c3) (by omega), fun _ => ?_⟩⟩
        · rw [decide_eq_false (e.mp c2), Bool.false_and] at hq
          exact hq
        · rw [e, Decidable.not_not] at c2
          rw [decide_eq_true c2, Bool.true_and] at hq
          refine sp_M_isLocal (d := d) w ha (by omega) ⟨fun c4 => ?_, fun c4 => ?_⟩
          · rw [(bI_0 _).mp c4, Bool.false_and] at hq; exact hq
          · rw [bI_t c4, Bool.true_and] at hq
            rw [nI_inc]
            refine sp_M_isDomain (d := d) w (by omega) hb ⟨fun c5 => ?_, fun c5 => ?_⟩
            · rw [(bI_0 _).mp c5] at hq; exact hq
            · rw [bI_t c5] at hq; exact hq
      · rw [if_neg c] at hq
        rw [nI_inc]
        exact ih (i + 1) (by omega) (by omega) hq
  exact e_M_isPath _ _ (key _ a ha rfl hq)
