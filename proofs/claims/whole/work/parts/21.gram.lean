def bI (b : Bool) : Int32 := if b then 1 else 0
theorem bI_nar (b : Bool) : narrow .boolean (.int (bI b)) = .int (bI b) := by cases b <;> rfl
theorem bI_0 (b : Bool) : bI b = 0 ↔ b = false := by cases b <;> simp [bI]
def cSm (c : Int32) : Int32 := if c < 65 then c else if 90 < c then c else c + 32
def cAn (c : Int32) : Bool := (!decide (c < 97) && decide (c ≤ 122)) || (!decide (c < 65) && decide (c ≤ 90)) || (!decide (c < 48) && !decide (57 < c))
theorem cSm_ch {c : Int32} (h : zCh c) : zCh (cSm c) := by
  unfold cSm
  split
  · exact h
  · split
    · exact h
    · rename_i h1 h2
      obtain ⟨n, hn, rfl⟩ := h
      have e1 : ¬ n < 65 := fun z => h1 ((nI_ltI (b := 65) (by omega) (by omega)).mpr z)
      have e2 : ¬ 90 < n := fun z => h2 ((nI_ltI (a := 90) (by omega) (by omega)).mpr z)
      exact ⟨n + 32, by omega, (nI_add n 32)⟩
theorem sp_G_small {d : Nat} {c : Int32} {h : ZH} {Q : Int32 → ZH → Prop} (hc : zCh c) (hq : Q (cSm c) h) : EvI d m_G_small [vI c] h Q := by
  have hs := cSm_ch hc
  unfold cSm at hq hs
  refine e_G_small c ⟨fun c1 => ?_, fun c1 => ⟨fun c2 => ?_, fun c2 => ?_⟩⟩
  · rw [if_pos c1] at hq
    exact ⟨zCh_narrow hc, hq⟩
  · rw [if_neg c1, if_pos c2] at hq
    exact ⟨zCh_narrow hc, hq⟩
  · rw [if_neg c1, if_neg c2] at hq hs
    rw [zCh_i2c hs]
    exact ⟨zCh_narrow hs, hq⟩
theorem sp_G_an {d : Nat} {c : Int32} {h : ZH} {Q : Int32 → ZH → Prop} (hq : Q (bI (cAn c)) h) : EvI d m_G_isLetterOrDigit [vI c] h Q := by
  unfold cAn bI at hq
  have k24 : (!decide (c < 97) && decide (c ≤ 122)) = false → (!decide (c < 65) && decide (c ≤ 90)) = false → EvAt d m_G_isLetterOrDigit 24 [some (vI c)] [] h (zQI Q) := by
    intro a1 a2
    rw [a1, a2, Bool.false_or, Bool.false_or] at hq
    refine w_G_isLetterOrDigit_24 c ⟨fun c1 => ?_, fun c1 => ⟨fun c2 => ?_, fun c2 => ?_⟩⟩
    · simpa [c1] using hq
    · simpa [c1, c2] using hq
    · rw [decide_eq_false c1, decide_eq_false c2] at hq
      exact hq
  have k12 : (!decide (c < 97) && decide (c ≤ 122)) = false → EvAt d m_G_isLetterOrDigit 12 [some (vI c)] [] h (zQI Q) := by
    intro a1
    refine w_G_isLetterOrDigit_12 c ⟨fun c1 => k24 a1 (by simp [c1]), fun c1 => ⟨fun c2 => ?_, fun c2 => k24 a1 (by rw [decide_eq_false c2, Bool.and_false])⟩⟩
    rw [a1, decide_eq_false c1, decide_eq_true c2] at hq
    exact hq
  refine e_G_isLetterOrDigit c ⟨fun c1 => k12 (by simp [c1]), fun c1 => ⟨fun c2 => ?_, fun c2 => k12 (by rw [decide_eq_false c2, Bool.and_false])⟩⟩
  rw [decide_eq_false c1, decide_eq_true c2] at hq
  exact hq
def seg (xs : ZT) (a b : Nat) : ZT := (xs.drop a).take (b - a)
theorem seg_nil {xs : ZT} {a b : Nat} (h : b ≤ a) : seg xs a b = [] := by
  unfold seg
  rw [show b - a = 0 by omega]
  rfl
theorem seg_cons {xs : ZT} {a b : Nat} (h : a < b) (hb : b ≤ xs.length) : seg xs a b = xs.getD a 0 :: seg xs (a + 1) b := by
  unfold seg
  have hl : a < xs.length := by omega
  rw [List.drop_eq_getElem_cons hl, show b - a = (b - (a + 1)) + 1 by omega, List.take_succ_cons]
  rw [List.getD_eq_getElem?_getD, List.getElem?_eq_getElem hl]
  rfl
theorem nI_inc (i : Nat) : nI i + (1 : Int32) = nI (i + 1) := nI_1 i
theorem sub_le {a b k : Nat} {x : Int32} (ha : a < 2 ^ 30) (hb : b < 2 ^ 30) (hx : x.toInt = k) : nI b - nI a ≤ x ↔ b ≤ a + k := by
  rw [Int32.le_iff_toInt_le, pk_sub_toInt hb ha, hx]
  omega
def domF : Int32 → ZT → Bool
  | b, [] => cAn b
  | b, c :: t => (if c = 46 then cAn b else if c = 45 then !decide (b = 46) else cAn c) && domF c t
def domB (xs : ZT) (a b : Nat) : Bool := decide (b ≤ a + 32) && domF 46 (seg xs a b)
theorem dom_loop {d r b : Nat} {h : ZH} {xs : ZT} {Q : Int32 → ZH → Prop} (hr : r < 43) (a : rowIs h r xs) (hb : b ≤ xs.length) : ∀ (n i : Nat) (before : Int32), i < 2 ^ 30 → b - i = n → Q (bI (domF before (seg xs i b))) h → EvAt (d + 1) m_G_isDomain 16 [some (vQ (some (1, r))), none, some (vI (nI b)), some (vI before), some (vI (nI i)), none, none] [] h (zQI Q) := by
  have hl := a.lt
  intro n
  induction n with
  | zero =>
    intro i before hi hn hq
    rw [seg_nil (by omega)] at hq
    refine w_G_isDomain_16 r _ _ _ hr ⟨fun c => sp_G_an ⟨bI_nar _, hq⟩, fun c => ?_⟩
    exact absurd ((nI_leI (by omega) (by omega)).mpr (by omega)) c
  | succ n ih =>
    intro i before hi hn hq
    rw [seg_cons (by omega) hb] at hq
    have step : ∀ v : Bool, Q (bI (v && domF (xs.getD i 0) (seg xs (i + 1) b))) h → EvAt (d + 1) m_G_isDomain 70 [some (vQ (some (1, r))), none, some (vI (nI b)), none, some (vI (nI i)), some (vI (xs.getD i 0)), none] [vI (bI v)] h (zQI Q) := by
      intro v hv
      refine w_G_isDomain_70 r _ _ _ _ hr ⟨fun c => ?_, fun c => ?_⟩
      · rw [nI_inc]
        refine ih (i + 1) _ (by omega) (by omega) ?_
        cases v with
        | true => exact hv
        | false => exact absurd rfl c
      · cases v with
        | true => exact absurd c (by decide)
        | false => exact hv
    refine w_G_isDomain_16 r _ _ _ hr ⟨fun c => ?_, fun c => ?_⟩
    · exact absurd ((nI_leI (by omega) (by omega)).mp c) (by omega)
    · refine sp_R_at hr a ?_
      rw [rAt_nI (by omega)]
      unfold domF at hq
      refine ⟨fun c1 => ⟨fun c2 => ?_, fun c2 => ⟨fun c3 => ?_, fun c3 => ?_⟩⟩, fun c1 => ?_⟩
      · rw [if_neg c1, if_neg c2] at hq
        exact sp_G_an (step _ hq)
      · rw [if_neg c1, if_pos c2, c3] at hq
        exact step false hq
      · rw [if_neg c1, if_pos c2] at hq
        refine step true ?_
        simpa [c3] using hq
      · rw [if_pos c1] at hq
        exact sp_G_an (step _ hq)
theorem sp_G_isDomain {d r a b : Nat} {h : ZH} {xs : ZT} {Q : Int32 → ZH → Prop} (hr : r < 43) (w : rowIs h r xs) (ha : a < 2 ^ 30) (hb : b ≤ xs.length) (hq : Q (bI (domB xs a b)) h) : EvI (d + 1) m_G_isDomain [vQ (some (1, r)), vI (nI a), vI (nI b)] h Q := by
  have hl := w.lt
  have e := sub_le (k := 32) (x := 32) ha (b := b) (by omega) rfl
  unfold domB at hq
  refine e_G_isDomain r _ _ hr ⟨fun c => ?_, fun c => ?_⟩
  · refine dom_loop hr w hb _ a 46 ha rfl ?_
    rw [decide_eq_true (e.mp c)] at hq
    exact hq
  · rw [decide_eq_false (fun z => c (e.mpr z))] at hq
    exact hq
def cAt (c : Int32) : Bool := cAn c || decide (c = 45) || decide (c = 95) || decide (c = 43)
def locF : Bool → ZT → Bool
  | b, [] => b
  | b, c :: t => if cAt c then locF true t else if c = 46 ∧ b = true then locF false t else false
theorem loc_loop {d r b : Nat} {h : ZH} {xs : ZT} {Q : Int32 → ZH → Prop} (hr : r < 43) (a : rowIs h r xs) (hb : b ≤ xs.length) : ∀ (n i : Nat) (bg : Bool), i < 2 ^ 30 → b - i = n → Q (bI (locF bg (seg xs i b))) h → EvAt (d + 1) m_G_isLocal 5 [some (vQ (some (1, r))), none, some (vI (nI b)), some (vI (bI bg)), some (vI (nI i)), none, none] [] h (zQI Q) := by
  have hl := a.lt
  intro n
  induction n with
  | zero =>
    intro i bg hi hn hq
    rw [seg_nil (by omega)] at hq
    refine w_G_isLocal_5 r _ _ _ hr ⟨fun c => ⟨bI_nar _, hq⟩, fun c => ?_⟩
    exact absurd ((nI_leI (by omega) (by omega)).mpr (by omega)) c
  | succ n ih =>
    intro i bg hi hn hq
    rw [seg_cons (by omega) hb] at hq
    have k73 : ∀ v : Bool, Q (bI (locF v (seg xs (i + 1) b))) h → EvAt (d + 1) m_G_isLocal 73 [some (vQ (some (1, r))), none, some (vI (nI b)), none, some (vI (nI i)), none, some (vI (bI v))] [] h (zQI Q) := by
      intro v hv
      refine w_G_isLocal_73 r _ _ _ hr ?_
      rw [nI_inc]
      exact ih (i + 1) v (by omega) (by omega) hv
    have k48 : cAt (xs.getD i 0) = true → EvAt (d + 1) m_G_isLocal 48 [some (vQ (some (1, r))), none, some (vI (nI b)), some (vI (bI bg)), some (vI (nI i)), some (vI (xs.getD i 0)), none] [] h (zQI Q) := by
      intro hc
      rw [locF, if_pos hc] at hq
      refine w_G_isLocal_48 r _ _ _ _ hr (w_G_isLocal_53 r _ _ _ _ _ hr ⟨fun c => k73 true hq, fun c => absurd c (by decide)⟩)
    refine w_G_isLocal_5 r _ _ _ hr ⟨fun c => ?_, fun c => ?_⟩
    · exact absurd ((nI_leI (by omega) (by omega)).mp c) (by omega)
    · refine sp_R_at hr a ?_
      rw [rAt_nI (by omega)]
      refine sp_G_an ⟨fun c1 => k48 ?_, fun c1 => ⟨fun c2 => k48 (by unfold cAt; rw [c2]; decide), fun c2 => ⟨fun c3 => k48 (by unfold cAt; rw [c3]; decide), fun c3 => ⟨fun c4 => ?_, fun c4 => k48 (by unfold cAt; rw [c4]; decide)⟩⟩⟩⟩
      · unfold cAt
        cases hz : cAn (xs.getD i 0) with
        | true => rfl
        | false => rw [hz] at c1; exact absurd rfl c1
      · have hz : cAn (xs.getD i 0) = false := (bI_0 _).mp c1
        have hc : cAt (xs.getD i 0) = false := by
          unfold cAt
          rw [hz, decide_eq_false c2, decide_eq_false c3, decide_eq_false c4]
          rfl
        rw [locF, hc, if_neg (by decide)] at hq
        refine w_G_isLocal_53 r _ _ _ _ _ hr ⟨fun c => absurd rfl c, fun _ => ⟨fun c5 => ?_, fun c5 => ⟨fun c6 => ?_, fun c6 => ?_⟩⟩⟩
        · rw [if_neg (fun z => c5 z.1)] at hq
          exact hq
        · have : bg = true := by
            cases bg with
            | true => rfl
            | false => exact absurd rfl c6
          rw [if_pos ⟨c5, this⟩] at hq
          exact k73 false hq
        · rw [if_neg (fun z => by rw [z.2] at c6; exact absurd c6 (by decide))] at hq
          exact hq
theorem sp_G_isLocal {d r a b : Nat} {h : ZH} {xs : ZT} {Q : Int32 → ZH → Prop} (hr : r < 43) (w : rowIs h r xs) (ha : a < 2 ^ 30) (hb : b ≤ xs.length) (hq : Q (bI (locF false (seg xs a b))) h) : EvI (d + 1) m_G_isLocal [vQ (some (1, r)), vI (nI a), vI (nI b)] h Q :=
  e_G_isLocal r _ _ hr (loc_loop hr w hb _ a false ha rfl hq)
/-- from i on, is there an @ ahead of b, with a local part and a domain about it -/
def pathF (xs : ZT) (a b : Nat) : Nat → Nat → Bool
  | 0, _ => false
  | n + 1, i => if xs.getD i 0 = 64 then locF false (seg xs a i) && domB xs (i + 1) b else pathF xs a b n (i + 1)
def pathB (xs : ZT) (a b : Nat) : Bool := decide (b ≤ a + 40) && pathF xs a b (b - a) a
theorem path_loop {d r a b : Nat} {h : ZH} {xs : ZT} {Q : Int32 → ZH → Prop} (hr : r < 43) (w : rowIs h r xs) (ha : a < 2 ^ 30) (hb : b ≤ xs.length) : ∀ (n i : Nat), i < 2 ^ 30 → b - i = n → Q (bI (pathF xs a b n i)) h → EvAt (d + 2) m_G_isPath 12 [some (vQ (some (1, r))), some (vI (nI a)), some (vI (nI b)), some (vI (nI i))] [] h (zQI Q) := by
  have hl := w.lt
  intro n
  induction n with
  | zero =>
    intro i hi hn hq
    refine w_G_isPath_12 r _ _ _ hr ⟨fun c => hq, fun c => ?_⟩
    exact absurd ((nI_leI (by omega) (by omega)).mpr (by omega)) c
  | succ n ih =>
    intro i hi hn hq
    rw [pathF] at hq
    refine w_G_isPath_12 r _ _ _ hr ⟨fun c => ?_, fun c => ?_⟩
    · exact absurd ((nI_leI (by omega) (by omega)).mp c) (by omega)
    · refine sp_R_at hr w ?_
      rw [rAt_nI (by omega)]
      refine ⟨fun c1 => ?_, fun c1 => ?_⟩
      · rw [if_neg c1] at hq
        rw [nI_inc]
        exact ih (i + 1) (by omega) (by omega) hq
      · rw [if_pos c1] at hq
        refine sp_G_isLocal hr w ha (by omega) ⟨fun c2 => ?_, fun c2 => ?_⟩
        · rw [(bI_0 _).mp c2] at hq
          exact hq
        · have e2 : locF false (seg xs a i) = true := by
            cases hz : locF false (seg xs a i) with
            | true => rfl
            | false => rw [hz] at c2; exact absurd rfl c2
          rw [e2, Bool.true_and] at hq
          rw [nI_inc]
          refine sp_G_isDomain hr w (by omega) hb ⟨fun c3 => ?_, fun c3 => ?_⟩
          · rw [(bI_0 _).mp c3] at hq
            exact hq
          · cases hz : domB xs (i + 1) b with
            | true => rw [hz] at hq; exact hq
            | false => rw [hz] at c3; exact absurd rfl c3
theorem sp_G_isPath {d r a b : Nat} {h : ZH} {xs : ZT} {Q : Int32 → ZH → Prop} (hr : r < 43) (w : rowIs h r xs) (ha : a < 2 ^ 30) (hb : b ≤ xs.length) (hq : Q (bI (pathB xs a b)) h) : EvI (d + 2) m_G_isPath [vQ (some (1, r)), vI (nI a), vI (nI b)] h Q := by
  have hl := w.lt
  have e := sub_le (k := 40) (x := 40) ha (b := b) (by omega) rfl
  unfold pathB at hq
  refine e_G_isPath r _ _ hr ⟨fun c => ?_, fun c => ?_⟩
  · refine path_loop hr w ha hb _ a ha rfl ?_
    rw [decide_eq_true (e.mp c)] at hq
    exact hq
  · rw [decide_eq_false (fun z => c (e.mpr z))] at hq
    exact hq
