/-- the model's words: content-type, multipart/, boundary= -/
def wdM : Nat → ZT
  | 11 => (zS 11).take 12
  | j => zS j
def wdA : Nat → Int64
  | 11 => 3275364211029340003
  | 12 => 8241992391291860333
  | _ => 8751164109912108898
def wdB : Nat → Int64
  | 11 => 1701869940
  | 12 => 12148
  | _ => 61
theorem wdM_at : ∀ j, j < 14 → 11 ≤ j → ∀ k, k < (wdM j).length → ((8 : Int32) ≤ nI k → ((wdB j >>> (((8 : Int32) * (nI k - (8 : Int32))).toInt64 &&& 63)) &&& (255 : Int64)).toInt32 = (wdM j).getD k 0) ∧ (¬ (8 : Int32) ≤ nI k → ((wdA j >>> (((8 : Int32) * nI k).toInt64 &&& 63)) &&& (255 : Int64)).toInt32 = (wdM j).getD k 0) := by decide +kernel
theorem wdM_len : ∀ j, j < 14 → 11 ≤ j → (wdM j).length ≤ 12 := by decide +kernel
theorem sp_M_matches {d p j s e : Nat} {h : ZH} {xs : ZT} {Q : Int32 → ZH → Prop} (a : mdI h p xs) (h1 : 11 ≤ j) (h2 : j < 14) (hs : s ≤ 600) (he : e ≤ xs.length) (hq : Q (bI (decide (s + (wdM j).length ≤ e) && mtF xs s (wdM j))) h) : EvI (d + 1) m_M_matches [vQ (some (12, 0)), vI (nI (602 * p + s)), vI (nI (602 * p + e)), vL (wdA j), vL (wdB j), vI (nI (wdM j).length)] h Q := by
  have hp := a.1
  have hxl := a.2.1.2
  have h12 := wdM_len j h2 h1
  have nb : ∀ b : Bool, narrow .boolean (.int (bI b)) = .int (bI b) := by decide
  have loop : ∀ (n k : Nat) (b : Bool), k + n = (wdM j).length → (b = true → s + (wdM j).length ≤ e) → Q (bI (b && mtF xs (s + k) ((wdM j).drop k))) h → EvAt (d + 1) m_M_matches 18 [some (vQ (some (12, 0))), some (vI (nI (602 * p + s))), none, some (vL (wdA j)), none, some (vL (wdB j)), none, some (vI (nI (wdM j).length)), some (vI (bI b)), some (vI (nI k))] [] h (zQI Q) := by
    intro n
    induction n with
    | zero =>
      intro k b hk hb hq
      have : k = (wdM j).length := by omega
      subst this
      rw [List.drop_length, mtF, Bool.and_true] at hq
      exact w_M_matches_18 _ _ _ _ _ _ (pk_le (wdM j).length (wdM j).length (fun _ => ⟨nb b, hq⟩) (fun z => absurd (Nat.le_refl (wdM j).length) (by omega)))
    | succ n ih =>
      intro k b hk hb hq
      have hkl : k < (wdM j).length := by omega
      refine w_M_matches_18 _ _ _ _ _ _ (pk_le (wdM j).length k (fun z => by omega) (fun _ => ⟨fun c => ⟨nb b, ?_⟩, fun c => ?_⟩))
      · rw [(bI_0 _).mp c, Bool.false_and] at hq
        rw [(bI_0 _).mp c]
        exact hq
      · have hbt := bI_t c
        have hse := hb hbt
        rw [hbt, Bool.true_and, drop_cons hkl, mtF] at hq
        rw [nI_add, nI_clamp (by omega), show 602 * p + s + k = 602 * p + (s + k) by omega, a.c (by omega)]
        refine ⟨vp_in_nI (show 602 * p + (s + k) < 4816 by omega) (by decide), sp_M_lower ?_⟩
        obtain ⟨m1, m2⟩ := wdM_at j h2 h1 k hkl
        refine e_M_at _ _ _ ?_
        have fin : ((¬ cSm (xs.getD (s + k) 0) = (wdM j).getD k 0 → EvAt (d + 1) m_M_matches 58 [some (vQ (some (12, 0))), some (vI (nI (602 * p + s))), none, some (vL (wdA j)), none, some (vL (wdB j)), none, some (vI (nI (wdM j).length)), none, some (vI (nI k))] [vI (0 : Int32)] h (zQI Q)) ∧ (cSm (xs.getD (s + k) 0) = (wdM j).getD k 0 → EvAt (d + 1) m_M_matches 58 [some (vQ (some (12, 0))), some (vI (nI (602 * p + s))), none, some (vL (wdA j)), none, some (vL (wdB j)), none, some (vI (nI (wdM j).length)), none, some (vI (nI k))] [vI (1 : Int32)] h (zQI Q))) := by
          refine ⟨fun c => w_M_matches_58 _ _ _ _ _ _ ?_, fun c => w_M_matches_58 _ _ _ _ _ _ ?_⟩
          · rw [nI_inc]
            rw [decide_eq_false c, Bool.false_and] at hq
            exact ih (k + 1) false (by omega) (fun z => (by cases z)) (by rw [Bool.false_and]; exact hq)
          · rw [nI_inc]
            rw [decide_eq_true c, Bool.true_and] at hq
            exact ih (k + 1) true (by omega) (fun _ => hse) (by rw [Bool.true_and]; exact hq)
        exact ⟨fun c => by rw [m1 c]; exact fin, fun c => by rw [m2 c]; exact fin⟩
  refine e_M_matches _ _ _ _ _ ?_
  rw [nI_add]
  refine pk_lt (602 * p + e) (602 * p + s + (wdM j).length) (fun z => w_M_matches_13 _ _ _ _ _ ?_) (fun z => w_M_matches_13 _ _ _ _ _ ?_)
  · rw [decide_eq_false (by omega), Bool.false_and] at hq
    exact loop _ 0 false (Nat.zero_add _) (fun z => (by cases z)) (by rw [Bool.false_and]; exact hq)
  · rw [decide_eq_true (by omega), Bool.true_and] at hq
    exact loop _ 0 true (Nat.zero_add _) (fun _ => by omega) (by rw [Bool.true_and]; exact hq)
/-- in a line, the model's match is the class's -/
theorem mtM_eq {xs : ZT} {j s e : Nat} (h1 : 12 ≤ j) (h2 : j < 14) (hs : s ≤ e) (he : e < xs.length) (h10 : xs.getD e 0 = 10) : (decide (s + (wdM j).length ≤ e) && mtF xs s (wdM j)) = mtB xs s (zS j) := by
  have ew : wdM j = zS j := by
    match j, h1, h2 with
    | 12, _, _ => rfl
    | 13, _, _ => rfl
  rw [ew]
  cases hm : mtB xs s (zS j) with
  | true =>
    have := mt_line (by omega) h2 hm hs h10
    have m2 := hm
    unfold mtB at m2
    rw [Bool.and_eq_true] at m2
    rw [decide_eq_true this, m2.2]
    rfl
  | false =>
    unfold mtB at hm
    rw [Bool.and_eq_false_iff] at hm ⊢
    rcases hm with z | z
    · have := of_decide_eq_false z
      exact Or.inl (decide_eq_false (by omega))
    · exact Or.inr z
def BDP : Nat → Nat → Nat → Prop := fun k i j => k = 12 ∧ (j = 29 ∨ j = 30)
theorem BDP_DVP : ∀ k i j, BDP k i j → DVP k i j := fun k i j z => by unfold BDP at z; unfold DVP; omega
/-- the boundary is kept -/
def bdK (h : ZH) (p : Nat) (b : Nat × Nat) : Prop := zi h 12 0 29 = nI (602 * p + b.1) ∧ zi h 12 0 30 = nI b.2
theorem sp_M_boundary {d p i s : Nat} {h : ZH} {xs : ZT} {Q : Int32 → ZH → Prop} (a : mdI h p xs) (hi : i < lC (stF xs)) (hs : s ≤ lE (stF xs) i) (h0 : bndF xs s (lE (stF xs) i) = none → ∀ h', zSa BDP h h' → Q 0 h') (h1 : ∀ b, bndF xs s (lE (stF xs) i) = some b → ∀ h', bdK h' p b → zSa BDP h h' → Q 1 h') : EvI (d + 2) m_M_boundary [vQ (some (12, 0)), vI (nI i), vI (nI (602 * p + s))] h Q := by
  have hl := a.lc
  have hp := a.1
  have hxl := a.2.1.2
  obtain ⟨f1, f2, f3, -⟩ := ln_fact hi
  obtain ⟨e, he⟩ : ∃ e, e = lE (stF xs) i := ⟨_, rfl⟩
  rw [← he] at f1 f2 f3 h0 h1 hs
  -- the count
  have k149 : ∀ (k n : Nat) (g : ZH), n ≤ 600 → bdK g p (k + 9, n) → zSa BDP h g → (k < e → ((1 ≤ n ∧ n ≤ 20) → ∀ h', bdK h' p (k + 9, n) → zSa BDP h h' → Q 1 h') ∧ (¬ (1 ≤ n ∧ n ≤ 20) → ∀ h', zSa BDP h h' → Q 0 h')) → (e ≤ k → ∀ h', zSa BDP h h' → Q 0 h') → k ≤ 600 → EvAt (d + 2) m_M_boundary 149 [some (vQ (some (12, 0))), none, none, some (vI (nI (602 * p + k))), some (vI (nI (602 * p + e)))] [] g (zQI Q) := by
    intro k n g hn bk sg c1 c2 hk
    refine w_M_boundary_149 _ _ ?_
    rw [bk.2]
    refine pk_le (602 * p + e) (602 * p + k) (fun z => c2 (by omega) g sg) (fun z => pk_le n 0 (fun z2 => (c1 (by omega)).2 (by omega) g sg) (fun z2 => pk_lt 20 n (fun z3 => (c1 (by omega)).2 (by omega) g sg) (fun z3 => (c1 (by omega)).1 (by omega) g bk sg)))
  have k102 : ∀ (n k m : Nat) (g : ZH), n = e - (k + 9 + m) → k ≤ 600 → m ≤ 600 → k + 9 + m ≤ e ∨ m = 0 → bdK g p (k + 9, m) → zSa BDP h g → (k < e → ((1 ≤ m + alF xs n (k + 9 + m) ∧ m + alF xs n (k + 9 + m) ≤ 20) → ∀ h', bdK h' p (k + 9, m + alF xs n (k + 9 + m)) → zSa BDP h h' → Q 1 h') ∧ (¬ (1 ≤ m + alF xs n (k + 9 + m) ∧ m + alF xs n (k + 9 + m) ≤ 20) → ∀ h', zSa BDP h h' → Q 0 h')) → (e ≤ k → ∀ h', zSa BDP h h' → Q 0 h') → EvAt (d + 2) m_M_boundary 102 [some (vQ (some (12, 0))), none, none, some (vI (nI (602 * p + k))), some (vI (nI (602 * p + e)))] [] g (zQI Q) := by
    intro n
    induction n with
    | zero =>
      intro k m g hn hk hm hor bk sg c1 c2
      refine w_M_boundary_102 _ _ ?_
      rw [bk.1, bk.2, nI_add]
      refine pk_le (602 * p + e) (602 * p + (k + 9) + m) (fun z => k149 k m g hm bk sg c1 c2 hk) (fun z => by omega)
    | succ n ih =>
      intro k m g hn hk hm hor bk sg c1 c2
      refine w_M_boundary_102 _ _ ?_
      rw [bk.1, bk.2, nI_add]
      have ag := a.kept (sg.mono BDP_DVP)
      refine pk_le (602 * p + e) (602 * p + (k + 9) + m) (fun z => by omega) (fun z => ⟨vp_in_nI (show 602 * p + (k + 9) + m < 4816 by omega) (by decide), ?_⟩)
      rw [nI_clamp (by omega), show 602 * p + (k + 9) + m = 602 * p + (k + 9 + m) by omega, ag.c (by omega)]
      rw [alF] at c1
      refine sp_M_an (d := d) ⟨fun c => ?_, fun c => ?_⟩
      · rw [if_neg (by rw [(bI_0 _).mp c]; decide)] at c1
        exact k149 k m g hm bk sg c1 c2 hk
      · rw [if_pos (bI_t c)] at c1
        rw [bk.2, nI_inc]
        have e1 : m + (alF xs n (k + 9 + m + 1) + 1) = (m + 1) + alF xs n (k + 9 + (m + 1)) := by
          rw [show k + 9 + (m + 1) = k + 9 + m + 1 by omega]
          omega
        rw [e1] at c1
        refine ih k (m + 1) _ (by omega) hk (by omega) (Or.inl (by omega)) ⟨by rw [zi_zw, if_neg (by omega)]; exact bk.1, by rw [zi_zw, if_pos ⟨rfl, rfl, rfl⟩]⟩ (sg.w (by unfold BDP; omega)) c1 c2
  have k89 : ∀ k, k ≤ 600 → (k < e → ((1 ≤ alF xs (e - (k + 9)) (k + 9) ∧ alF xs (e - (k + 9)) (k + 9) ≤ 20) → ∀ h', bdK h' p (k + 9, alF xs (e - (k + 9)) (k + 9)) → zSa BDP h h' → Q 1 h') ∧ (¬ (1 ≤ alF xs (e - (k + 9)) (k + 9) ∧ alF xs (e - (k + 9)) (k + 9) ≤ 20) → ∀ h', zSa BDP h h' → Q 0 h')) → (e ≤ k → ∀ h', zSa BDP h h' → Q 0 h') → EvAt (d + 2) m_M_boundary 89 [some (vQ (some (12, 0))), none, none, some (vI (nI (602 * p + k))), some (vI (nI (602 * p + e)))] [] h (zQI Q) := by
    intro k hk c1 c2
    refine w_M_boundary_89 _ _ ?_
    rw [show nI (602 * p + k) + (9 : Int32) = nI (602 * p + (k + 9)) from nI_add _ 9]
    refine k102 (e - (k + 9)) k 0 _ (by omega) hk (by omega) (Or.inr rfl) ⟨by rw [zi_zw, if_neg (by omega), zi_zw, if_pos ⟨rfl, rfl, rfl⟩], by rw [zi_zw, if_pos ⟨rfl, rfl, rfl⟩]; rfl⟩ ((zSa.rfl.w (by unfold BDP; omega)).w (by unfold BDP; omega)) ?_ c2
    rw [Nat.zero_add, Nat.add_zero]
    exact c1
  have k58 : ∀ (n k : Nat), n = e - k → k ≤ e → (boF xs e n k = none → ∀ h', zSa BDP h h' → Q 0 h') → (∀ b, boF xs e n k = some b → ∀ h', bdK h' p b → zSa BDP h h' → Q 1 h') → EvAt (d + 2) m_M_boundary 58 [some (vQ (some (12, 0))), none, none, some (vI (nI (602 * p + k))), some (vI (nI (602 * p + e)))] [] h (zQI Q) := by
    intro n
    induction n with
    | zero =>
      intro k hn hk c0 c1
      exact w_M_boundary_58 _ _ (pk_le (602 * p + e) (602 * p + k) (fun _ => k89 k (by omega) (fun z => by omega) (fun _ => c0 rfl)) (fun z => by omega))
    | succ n ih =>
      intro k hn hk c0 c1
      rw [boF] at c0
      refine w_M_boundary_58 _ _ (pk_le (602 * p + e) (602 * p + k) (fun z => by omega) (fun _ => sp_M_matches (d := d) (j := 13) a (by decide) (by decide) (by omega) (by omega) ?_))
      rw [mtM_eq (by decide) (by decide) hk f2 f3]
      refine ⟨fun c => ?_, fun c => ?_⟩
      · have hm := bI_t c
        rw [if_pos hm] at c0
        refine k89 k (by omega) (fun _ => ⟨fun z h' bk s' => c1 _ ?_ h' bk s', fun z => c0 (by rw [if_neg z])⟩) (fun z => by omega)
        rw [boF, if_pos hm, if_pos z]
      · have hm := (bI_0 _).mp c
        rw [if_neg (by rw [hm]; decide)] at c0
        rw [nI_inc]
        refine ih (k + 1) (by omega) (by omega) c0 (fun b e1 => c1 b ?_)
        rw [boF, if_neg (by rw [hm]; decide)]
        exact e1
  have k33 : ∀ k, k ≤ e → ((if mtB xs k (zS 12) = true then boF xs e (e - (k + 10)) (k + 10) else none) = none → ∀ h', zSa BDP h h' → Q 0 h') → (∀ b, (if mtB xs k (zS 12) = true then boF xs e (e - (k + 10)) (k + 10) else none) = some b → ∀ h', bdK h' p b → zSa BDP h h' → Q 1 h') → EvAt (d + 2) m_M_boundary 33 [some (vQ (some (12, 0))), none, none, some (vI (nI (602 * p + k))), some (vI (nI (602 * p + e)))] [] h (zQI Q) := by
    intro k hk c0 c1
    refine w_M_boundary_33 _ _ (sp_M_matches (d := d) (j := 12) a (by decide) (by decide) (by omega) (by omega) ?_)
    rw [mtM_eq (by decide) (by decide) hk f2 f3]
    refine ⟨fun c => ?_, fun c => ?_⟩
    · have hm := bI_t c
      rw [if_pos hm] at c0 c1
      have := mt_line (by decide) (by decide) hm hk f3
      rw [zS_len13.2.1] at this
      rw [show nI (602 * p + k) + (10 : Int32) = nI (602 * p + (k + 10)) from nI_add _ 10]
      exact k58 _ (k + 10) rfl this c0 c1
    · rw [if_neg (by rw [(bI_0 _).mp c]; decide)] at c0
      exact c0 rfl h zSa.rfl
  have k9 : ∀ (n k : Nat), k + n = e → ((if mtB xs (skF xs n k) (zS 12) = true then boF xs e (e - (skF xs n k + 10)) (skF xs n k + 10) else none) = none → ∀ h', zSa BDP h h' → Q 0 h') → (∀ b, (if mtB xs (skF xs n k) (zS 12) = true then boF xs e (e - (skF xs n k + 10)) (skF xs n k + 10) else none) = some b → ∀ h', bdK h' p b → zSa BDP h h' → Q 1 h') → EvAt (d + 2) m_M_boundary 9 [some (vQ (some (12, 0))), none, none, some (vI (nI (602 * p + k))), some (vI (nI (602 * p + e)))] [] h (zQI Q) := by
    intro n
    induction n with
    | zero =>
      intro k hk c0 c1
      exact w_M_boundary_9 _ _ (pk_le (602 * p + e) (602 * p + k) (fun _ => k33 k (by omega) c0 c1) (fun z => by omega))
    | succ n ih =>
      intro k hk c0 c1
      refine w_M_boundary_9 _ _ (pk_le (602 * p + e) (602 * p + k) (fun z => by omega) (fun _ => ⟨vp_in_nI (show 602 * p + k < 4816 by omega) (by decide), ?_⟩))
      rw [nI_clamp (by omega), a.c (by omega)]
      rw [skF] at c0 c1
      refine ⟨fun c => ?_, fun c => ?_⟩
      · rw [if_neg c] at c0 c1
        exact k33 k (by omega) c0 c1
      · rw [if_pos c] at c0 c1
        rw [nI_inc]
        exact ih (k + 1) (by omega) c0 c1
  refine e_M_boundary _ _ (sp_M_endOf a hi ?_)
  rw [← he]
  exact k9 (e - s) s (by omega) h0 h1
