/-! THE MODEL's GRAMMAR -/
def lnM (h : ZH) (xs : ZT) : Prop := zi h 12 0 5 = nI xs.length ∧ xs.length ≤ 72 ∧ (∀ j, j < xs.length → zi h 13 0 j = xs.getD j 0) ∧ ∀ x ∈ xs, zCh x
theorem sp_M_an {d : Nat} {c : Int32} {h : ZH} {Q : Int32 → ZH → Prop} (hq : Q (bI (cAn c)) h) : EvI (d + 1) m_M_isAlnum [vI c] h Q := by
  unfold cAn at hq
  have dg : (!decide (c < 97) && decide (c ≤ 122)) = false → (!decide (c < 65) && decide (c ≤ 90)) = false → ((c < (48 : Int32) → Q (0 : Int32) h) ∧ (¬ c < (48 : Int32) → (((57 : Int32) < c → Q (0 : Int32) h) ∧ (¬ (57 : Int32) < c → Q (1 : Int32) h)))) := by
    intro a1 a2
    rw [a1, a2, Bool.false_or, Bool.false_or] at hq
    refine ⟨fun c1 => ?_, fun c1 => ⟨fun c2 => ?_, fun c2 => ?_⟩⟩
    · rw [decide_eq_true c1] at hq; exact hq
    · rw [decide_eq_true c2, Bool.not_true, Bool.and_false] at hq; exact hq
    · rw [decide_eq_false c1, decide_eq_false c2] at hq; exact hq
  have k12 : (!decide (c < 97) && decide (c ≤ 122)) = false → EvAt d m_M_isLetter 12 [some (vI c)] [] h (zQI (fun y2 g1 => ((¬ y2 = 0 → Q (1 : Int32) g1) ∧ (y2 = 0 → ((c < (48 : Int32) → Q (0 : Int32) g1) ∧ (¬ c < (48 : Int32) → (((57 : Int32) < c → Q (0 : Int32) g1) ∧ (¬ (57 : Int32) < c → Q (1 : Int32) g1)))))))) := by
    intro a1
    refine w_M_isLetter_12 _ ⟨fun c1 => ⟨fun z => absurd rfl z, fun _ => dg a1 (by rw [decide_eq_true c1]; rfl)⟩, fun c1 => ⟨fun c2 => ⟨fun z => absurd rfl z, fun _ => dg a1 (by rw [decide_eq_false (Int32.not_le.mpr c2), Bool.and_false])⟩, fun c2 => ⟨fun _ => ?_, fun z => absurd z (by decide)⟩⟩⟩
    rw [a1, decide_eq_false c1, decide_eq_true (Int32.not_lt.mp c2)] at hq
    exact hq
  refine e_M_isAlnum c (e_M_isLetter c ⟨fun c1 => k12 (by rw [decide_eq_true c1]; rfl), fun c1 => ⟨fun c2 => ⟨fun _ => ?_, fun z => absurd z (by decide)⟩, fun c2 => k12 (by rw [decide_eq_false c2, Bool.and_false])⟩⟩)
  rw [decide_eq_false c1, decide_eq_true c2] at hq
  exact hq
theorem sp_M_lower {d : Nat} {c : Int32} {h : ZH} {Q : Int32 → ZH → Prop} (hq : Q (cSm c) h) : EvI d m_M_lower [vI c] h Q := by
  unfold cSm at hq
  refine e_M_lower c ⟨fun c1 => ?_, fun c1 => ⟨fun c2 => ?_, fun c2 => ?_⟩⟩
  · rw [if_pos c1] at hq; exact hq
  · rw [if_neg c1, if_pos c2] at hq; exact hq
  · rw [if_neg c1, if_neg c2] at hq; exact hq
theorem sp_M_charAt {d k : Nat} {h : ZH} {xs : ZT} {Q : Int32 → ZH → Prop} (w : lnM h xs) (hk : k < 2 ^ 30) (hq : Q (cSm (xs.getD k 0)) h) : EvI (d + 1) m_M_charAt [vQ (some (12, 0)), vI (nI k)] h Q := by
  have hl := w.2.1
  refine e_M_charAt _ ⟨fun c => ?_, fun c => ?_⟩
  · rw [w.1, nI_leI (by omega) (by omega)] at c
    rw [getD_ge c] at hq
    exact hq
  · rw [w.1, nI_leI (by omega) (by omega)] at c
    rw [nI_clamp (show k < 2 ^ 31 by omega), w.2.2.1 k (by omega)]
    exact ⟨vp_in_nI (show k < 72 by omega) (by decide), sp_M_lower hq⟩
def okc (b : Int32) : Prop := cAn b = true ∨ b = 46 ∨ b = 45
theorem an46 : cAn 46 = false := by decide +kernel
theorem an45 : cAn 45 = false := by decide +kernel
theorem okc_an {b : Int32} (h : okc b) : cAn b = true ↔ (b ≠ 46 ∧ b ≠ 45) := by
  constructor
  · intro z
    refine ⟨fun e => ?_, fun e => ?_⟩
    · rw [e, an46] at z; cases z
    · rw [e, an45] at z; cases z
  · rintro ⟨z1, z2⟩
    rcases h with y | y | y
    · exact y
    · exact absurd y z1
    · exact absurd y z2
theorem mdom_loop {d b : Nat} {h : ZH} {xs : ZT} {Q : Int32 → ZH → Prop} (w : lnM h xs) (hb : b ≤ xs.length) : ∀ (n i : Nat) (g : Bool) (bf : Int32), i < 2 ^ 30 → b - i = n → (g = true → okc bf) → Q (bI (g && domF bf (seg xs i b))) h → EvAt (d + 2) m_M_isDomain 26 [some (vQ (some (12, 0))), none, some (vI (nI b)), some (vI (bI g)), some (vI bf), some (vI (nI i)), none] [] h (zQI Q) := by
  have hl := w.2.1
  intro n
  induction n with
  | zero =>
    intro i g bf hi hn hg hq
    rw [seg_nil (by omega), domF] at hq
    refine w_M_isDomain_26 _ _ _ _ ⟨fun _ => ⟨fun c => ?_, fun c => ⟨fun c2 => ?_, fun c2 => ⟨fun c3 => ?_, fun c3 => ?_⟩⟩⟩, fun c => ?_⟩
    · rw [(bI_0 _).mp c, Bool.false_and] at hq; exact hq
    · rw [c2, an46, Bool.and_false] at hq; exact hq
    · rw [c3, an45, Bool.and_false] at hq; exact hq
    · have hgt := bI_t c
      rw [hgt, (okc_an (hg hgt)).mpr ⟨c2, c3⟩] at hq
      exact hq
    · exact absurd ((nI_leI (by omega) (by omega)).mpr (by omega)) c
  | succ n ih =>
    intro i g bf hi hn hg hq
    rw [seg_cons (by omega) hb] at hq
    have go : ∀ v : Bool, (v = true → okc (xs.getD i 0)) → Q (bI (v && domF (xs.getD i 0) (seg xs (i + 1) b))) h → EvAt (d + 2) m_M_isDomain 93 [some (vQ (some (12, 0))), none, some (vI (nI b)), none, none, some (vI (nI i)), some (vI (xs.getD i 0))] [vI (bI v)] h (zQI Q) := by
      intro v hv hqv
      refine w_M_isDomain_93 _ _ _ _ ?_
      rw [nI_inc]
      exact ih (i + 1) v _ (by omega) (by omega) hv hqv
    have bad : Q 0 h → EvAt (d + 2) m_M_isDomain 92 [some (vQ (some (12, 0))), none, some (vI (nI b)), none, none, some (vI (nI i)), some (vI (xs.getD i 0))] [] h (zQI Q) := fun z => w_M_isDomain_92 _ _ _ (go false (fun z => (by cases z)) z)
    have good : okc (xs.getD i 0) → Q (bI (domF (xs.getD i 0) (seg xs (i + 1) b))) h → EvAt (d + 2) m_M_isDomain 88 [some (vQ (some (12, 0))), none, some (vI (nI b)), none, none, some (vI (nI i)), some (vI (xs.getD i 0))] [] h (zQI Q) := fun y z => w_M_isDomain_88 _ _ _ (go true (fun _ => y) (by rw [Bool.true_and]; exact z))
    refine w_M_isDomain_26 _ _ _ _ ⟨fun c => absurd ((nI_leI (by omega) (by omega)).mp c) (by omega), fun _ => ?_⟩
    rw [nI_clamp (show i < 2 ^ 31 by omega), w.2.2.1 i (by omega)]
    refine ⟨vp_in_nI (show i < 72 by omega) (by decide), fun c => bad ?_, fun c => ?_⟩
    · rw [(bI_0 _).mp c, Bool.false_and] at hq; exact hq
    · have hgt := bI_t c
      have hok := okc_an (hg hgt)
      rw [hgt, Bool.true_and, domF] at hq
      refine sp_M_an ⟨fun c1 => ?_, fun c1 => ⟨fun c2 => ?_, fun c2 => ⟨fun c3 => ?_, fun c3 => ?_⟩⟩⟩
      · have ha := bI_t c1
        have n46 : xs.getD i 0 ≠ 46 := fun z => by rw [z, an46] at ha; cases ha
        have n45 : xs.getD i 0 ≠ 45 := fun z => by rw [z, an45] at ha; cases ha
        rw [if_neg n46, if_neg n45, ha, Bool.true_and] at hq
        exact good (Or.inl ha) hq
      · have ha := (bI_0 _).mp c1
        rw [if_neg c2, ha] at hq
        refine w_M_isDomain_67 _ _ _ _ ⟨fun c4 => bad ?_, fun c4 => ⟨fun c5 => bad ?_, fun c5 => ⟨fun c6 => bad ?_, fun c6 => good (Or.inr (Or.inl c4)) ?_⟩⟩⟩
        · rw [if_neg c4, Bool.false_and] at hq; exact hq
        · rw [if_pos c4, c5, an46, Bool.false_and] at hq; exact hq
        · rw [if_pos c4, c6, an45, Bool.false_and] at hq; exact hq
        · rw [if_pos c4, hok.mpr ⟨c5, c6⟩, Bool.true_and] at hq; exact hq
      · have n46 : xs.getD i 0 ≠ 46 := fun z => absurd (c2.symm.trans z) (by decide)
        rw [if_neg n46, if_pos c2, decide_eq_false c3, Bool.not_false, Bool.true_and] at hq
        exact good (Or.inr (Or.inr c2)) hq
      · have n46 : xs.getD i 0 ≠ 46 := fun z => absurd (c2.symm.trans z) (by decide)
        rw [if_neg n46, if_pos c2, decide_eq_true c3, Bool.not_true, Bool.false_and] at hq
        exact w_M_isDomain_67 _ _ _ _ ⟨fun _ => bad hq, fun c4 => absurd c4 n46⟩
theorem sp_M_isDomain {d a b : Nat} {h : ZH} {xs : ZT} {Q : Int32 → ZH → Prop} (w : lnM h xs) (ha : a < 2 ^ 30) (hb : b ≤ xs.length) (hq : Q (bI (domB xs a b)) h) : EvI (d + 2) m_M_isDomain [vQ (some (12, 0)), vI (nI a), vI (nI b)] h Q := by
  have hl := w.2.1
  have e := sub_le (k := 32) (x := 32) ha (b := b) (by omega) rfl
  have e1 : nI b - nI a < 1 ↔ b ≤ a := by
    rw [Int32.lt_iff_toInt_lt, pk_sub_toInt (by omega) ha]
    have : (1 : Int32).toInt = 1 := rfl
    rw [this]
    omega
  unfold domB at hq
  refine e_M_isDomain _ _ ⟨fun c => ?_, fun c => ⟨fun c2 => ?_, fun c2 => ?_⟩⟩
  · rw [seg_nil (e1.mp c), domF, an46, Bool.and_false] at hq
    exact hq
  · rw [decide_eq_true (e.mp c2)] at hq
    exact mdom_loop w hb _ a true 46 ha rfl (fun _ => Or.inr (Or.inl rfl)) hq
  · rw [decide_eq_false (fun z => c2 (e.mpr z)), Bool.false_and] at hq
    exact hq
