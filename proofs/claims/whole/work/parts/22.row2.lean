abbrev zS (j : Nat) : ZT := zSB.getD j []
theorem zS_len {j : Nat} (hj : j < 14) : zSL.getD j 0 = (zS j).length := (zSB_ok j hj).1
theorem zS_lt {j : Nat} (hj : j < 14) : (zS j).length < 20 := by
  revert j
  decide +kernel
theorem zS_ch : ∀ j, j < 14 → ∀ x ∈ zS j, zCh x := by
  have key : ∀ j, j < 14 → ∀ x ∈ zS j, x.toNatClampNeg < 128 ∧ x = nI x.toNatClampNeg := by decide +kernel
  exact fun j hj x hx => ⟨x.toNatClampNeg, (key j hj x hx).1, (key j hj x hx).2⟩
def mtF (xs : ZT) : Nat → ZT → Bool
  | _, [] => true
  | a, w :: t => decide (cSm (xs.getD a 0) = w) && mtF xs (a + 1) t
def mtB (xs : ZT) (a : Nat) (ws : ZT) : Bool := decide (a + ws.length ≤ xs.length) && mtF xs a ws
theorem drop_cons {ws : ZT} {k : Nat} (h : k < ws.length) : ws.drop k = ws.getD k 0 :: ws.drop (k + 1) := by
  rw [List.drop_eq_getElem_cons h, List.getD_eq_getElem?_getD, List.getElem?_eq_getElem h]
  rfl
theorem mt_loop {d r a j : Nat} {h : ZH} {xs : ZT} {Q : Int32 → ZH → Prop} (hr : r < 43) (hj : j < 14) (w : rowIs h r xs) (hb : a + (zS j).length ≤ xs.length) : ∀ (n k : Nat), (zS j).length - k = n → k ≤ (zS j).length → Q (bI (mtF xs (a + k) ((zS j).drop k))) h → EvAt (d + 4) m_R_matches 21 [some (vQ (some (1, r))), some (vI (nI a)), some (vQ (some (22, j))), some (vI (nI k))] [] h (zQI Q) := by
  have hl := w.lt
  have h20 := zS_lt hj
  have hc := w.2.1
  intro n
  induction n with
  | zero =>
    intro k hn hk hq
    rw [List.drop_eq_nil_of_le (by omega)] at hq
    refine w_R_matches_21 r _ j _ hr hj ⟨fun c => hq, fun c => ?_⟩
    rw [zS_len hj] at c
    exact absurd ((nI_leI (by omega) (by omega)).mpr (by omega)) c
  | succ n ih =>
    intro k hn hk hq
    rw [drop_cons (by omega), mtF] at hq
    refine w_R_matches_21 r _ j _ hr hj ⟨fun c => ?_, fun c => ?_⟩
    · rw [zS_len hj] at c
      exact absurd ((nI_leI (by omega) (by omega)).mp c) (by omega)
    · rw [nI_add, nI_clamp (show a + k < 2 ^ 31 by omega), w.2.2.1 (a + k) (by omega), nI_clamp (show k < 2 ^ 31 by omega)]
      refine ⟨vp_in_nI (show a + k < zcap r by omega) (show zcap r < 2 ^ 31 by have := zcap_le r; omega), ?_⟩
      refine sp_G_small (w.nth (by omega)) ⟨vp_in_nI (by rw [zS_len hj]; omega) (zSL_lt j hj), fun c1 => ?_, fun c1 => ?_⟩
      · rw [decide_eq_true c1, Bool.true_and] at hq
        rw [nI_inc]
        exact ih (k + 1) (by omega) (by omega) hq
      · rw [decide_eq_false c1, Bool.false_and] at hq
        exact hq
theorem sp_R_matches {d r a j : Nat} {h : ZH} {xs : ZT} {Q : Int32 → ZH → Prop} (hr : r < 43) (hj : j < 14) (w : rowIs h r xs) (ha : a < 2 ^ 30) (hq : Q (bI (mtB xs a (zS j))) h) : EvI (d + 4) m_R_matches [vQ (some (1, r)), vI (nI a), vQ (some (22, j))] h Q := by
  have hl := w.lt
  have h20 := zS_lt hj
  have e : nI a ≤ nI xs.length - nI (zS j).length ↔ a + (zS j).length ≤ xs.length := by
    rw [Int32.le_iff_toInt_le, pk_sub_toInt hl (by omega), nI_toInt (by omega)]
    omega
  unfold mtB at hq
  refine e_R_matches r _ j hr hj ⟨fun c => absurd c (nI_pos (by omega)), fun _ => ⟨fun c => ?_, fun c => ?_⟩⟩
  · rw [w.1, zS_len hj] at c
    rw [decide_eq_true (e.mp c), Bool.true_and] at hq
    exact mt_loop hr hj w (e.mp c) _ 0 rfl (Nat.zero_le _) hq
  · rw [w.1, zS_len hj] at c
    rw [decide_eq_false (fun z => c (e.mpr z)), Bool.false_and] at hq
    exact hq
theorem rowP_ne {r f k : Nat} (hf : f ≠ r) : ¬ rowP r k f := fun z => hf z.2
theorem seg_snoc {xs : ZT} {a b : Nat} (h : a ≤ b) (hb : b < xs.length) : seg xs a (b + 1) = seg xs a b ++ [xs.getD b 0] := by
  unfold seg
  have hl : b - a < (xs.drop a).length := by rw [List.length_drop]; omega
  rw [show b + 1 - a = (b - a) + 1 by omega, List.take_add_one, List.getElem?_eq_getElem hl]
  congr 1
  rw [List.getElem_drop, List.getD_eq_getElem?_getD, List.getElem?_eq_getElem hb]
  simp [show a + (b - a) = b by omega]
theorem seg_len {xs : ZT} {a b : Nat} (hb : b ≤ xs.length) : (seg xs a b).length = b - a := by
  unfold seg
  rw [List.length_take, List.length_drop]
  omega
theorem seg_ch {xs : ZT} {a b : Nat} (h : ∀ x ∈ xs, zCh x) : ∀ x ∈ seg xs a b, zCh x := fun x hx => h x (List.mem_of_mem_drop (List.mem_of_mem_take hx))
theorem piece_loop {d r f b : Nat} {h0 : ZH} {xs ys : ZT} {Q : ZH → Prop} (hr : r < 43) (hf : f < 43) (hne : f ≠ r) (wf : rowIs h0 f ys) (hb : b ≤ ys.length) : ∀ (n i : Nat) (h : ZH) (zs : ZT), i < 2 ^ 30 → b - i = n → rowIs h r zs → zSame (rowP r) h0 h → zs ++ seg ys i b = xs → xs.length ≤ zcap r → (∀ h', rowIs h' r xs → zSame (rowP r) h0 h' → Q h') →
    EvAt (d + 1) m_R_addPiece 3 [some (vQ (some (1, r))), some (vQ (some (1, f))), none, some (vI (nI b)), some (vI (nI i))] [] h (zQV Q) := by
  have hl := wf.lt
  intro n
  induction n with
  | zero =>
    intro i h zs hi hn hz hs hx hcap hq
    rw [seg_nil (by omega), List.append_nil] at hx
    subst hx
    refine w_R_addPiece_3 r f _ _ hr hf ⟨fun c => hq h hz hs, fun c => ?_⟩
    exact absurd ((nI_leI (by omega) (by omega)).mpr (by omega)) c
  | succ n ih =>
    intro i h zs hi hn hz hs hx hcap hq
    have wf' : rowIs h f ys := wf.kept hs (rowP_ne hne) (rowP_ne hne)
    rw [seg_cons (by omega) hb] at hx
    have hlen : zs.length + 1 ≤ xs.length := by rw [← hx, List.length_append, List.length_cons]; omega
    refine w_R_addPiece_3 r f _ _ hr hf ⟨fun c => ?_, fun c => ?_⟩
    · exact absurd ((nI_leI (by omega) (by omega)).mp c) (by omega)
    · refine sp_R_at hf wf' ?_
      rw [rAt_nI (by omega)]
      refine sp_R_add hr hz (by omega) (wf.nth (by omega)) (fun h' w' s' => ?_)
      rw [nI_inc]
      exact ih (i + 1) h' _ (by omega) (by omega) w' (hs.trans s') (by rw [List.append_assoc]; exact hx) hcap hq
theorem sp_R_addPiece {d r f a b : Nat} {h : ZH} {xs ys : ZT} {Q : ZH → Prop} (hr : r < 43) (hf : f < 43) (hne : f ≠ r) (w : rowIs h r xs) (wf : rowIs h f ys) (ha : a < 2 ^ 30) (hb : b ≤ ys.length) (hcap : xs.length + (b - a) ≤ zcap r) (hq : ∀ h', rowIs h' r (xs ++ seg ys a b) → zSame (rowP r) h h' → Q h') : EvV (d + 1) m_R_addPiece [vQ (some (1, r)), vQ (some (1, f)), vI (nI a), vI (nI b)] h Q :=
  e_R_addPiece r f _ _ hr hf (piece_loop hr hf hne wf hb _ a h xs ha rfl w zSame.rfl rfl (by rw [List.length_append, seg_len hb]; exact hcap) hq)
theorem words_loop {d r j : Nat} {h0 : ZH} {xs : ZT} {Q : ZH → Prop} (hr : r < 43) (hj : j < 14) : ∀ (n k : Nat) (h : ZH) (zs : ZT), (zS j).length - k = n → k ≤ (zS j).length → rowIs h r zs → zSame (rowP r) h0 h → zs ++ (zS j).drop k = xs → xs.length ≤ zcap r → (∀ h', rowIs h' r xs → zSame (rowP r) h0 h' → Q h') →
    EvAt (d + 4) m_R_addWords 2 [some (vQ (some (1, r))), some (vQ (some (22, j))), some (vI (nI k))] [] h (zQV Q) := by
  have h20 := zS_lt hj
  intro n
  induction n with
  | zero =>
    intro k h zs hn hk hz hs hx hcap hq
    rw [List.drop_eq_nil_of_le (by omega), List.append_nil] at hx
    subst hx
    refine w_R_addWords_2 r j _ hr hj ⟨fun c => hq h hz hs, fun c => ?_⟩
    rw [zS_len hj] at c
    exact absurd ((nI_leI (by omega) (by omega)).mpr (by omega)) c
  | succ n ih =>
    intro k h zs hn hk hz hs hx hcap hq
    rw [drop_cons (by omega)] at hx
    have hlen : zs.length + 1 ≤ xs.length := by rw [← hx, List.length_append, List.length_cons]; omega
    refine w_R_addWords_2 r j _ hr hj ⟨fun c => ?_, fun c => ?_⟩
    · rw [zS_len hj] at c
      exact absurd ((nI_leI (by omega) (by omega)).mp c) (by omega)
    · rw [nI_clamp (show k < 2 ^ 31 by omega)]
      refine ⟨vp_in_nI (by rw [zS_len hj]; omega) (zSL_lt j hj), ?_⟩
      refine sp_R_add hr hz (by omega) (zS_ch j hj _ (zgetD_mem (by omega))) (fun h' w' s' => ?_)
      rw [nI_inc]
      exact ih (k + 1) h' _ (by omega) (by omega) w' (hs.trans s') (by rw [List.append_assoc]; exact hx) hcap hq
theorem sp_R_addWords {d r j : Nat} {h : ZH} {xs : ZT} {Q : ZH → Prop} (hr : r < 43) (hj : j < 14) (w : rowIs h r xs) (hcap : xs.length + (zS j).length ≤ zcap r) (hq : ∀ h', rowIs h' r (xs ++ zS j) → zSame (rowP r) h h' → Q h') : EvV (d + 4) m_R_addWords [vQ (some (1, r)), vQ (some (22, j))] h Q :=
  e_R_addWords r j hr hj (words_loop hr hj _ 0 h xs rfl (Nat.zero_le _) w zSame.rfl rfl (by rw [List.length_append]; exact hcap) hq)
theorem sp_R_addRow {d r f : Nat} {h : ZH} {xs ys : ZT} {Q : ZH → Prop} (hr : r < 43) (hf : f < 43) (hne : f ≠ r) (w : rowIs h r xs) (wf : rowIs h f ys) (hcap : xs.length + ys.length ≤ zcap r) (hq : ∀ h', rowIs h' r (xs ++ ys) → zSame (rowP r) h h' → Q h') : EvV (d + 1) m_R_addRow [vQ (some (1, r)), vQ (some (1, f))] h Q := by
  have h1 := w.lt
  have h2 := wf.lt
  have hz := zcap_le r
  have hzf := wf.2.1
  have e : (if nI (zLen 2 r) - zi h 1 r 1 < zi h 1 f 1 then nI (zLen 2 r) - zi h 1 r 1 else zi h 1 f 1) = nI ys.length := by
    rw [w.1, wf.1, if_neg]
    show ¬ nI (zcap r) - nI xs.length < nI ys.length
    rw [Int32.lt_iff_toInt_lt, pk_sub_toInt (by omega) h1, nI_toInt (by omega)]
    omega
  refine e_R_addRow r f hr hf ?_
  rw [e, w.1, sb_cl0, nI_clamp (show xs.length < 2 ^ 31 by omega), nI_clamp (show ys.length < 2 ^ 31 by omega)]
  refine ⟨⟨by decide, nI_pos (by omega), nI_pos (by omega), by rw [Nat.zero_add]; exact hzf, hcap, fun i hi => ?_⟩, ?_⟩
  · rw [Nat.zero_add, wf.2.2.1 i hi]
    exact zCh_fits (wf.nth hi)
  · have e2 : zi (zcp h 2 f r 0 xs.length ys.length) 1 r 1 = nI xs.length := by
      rw [zi_zcp, if_neg (by omega)]
      exact w.1
    rw [e2, nI_add]
    refine hq _ ⟨?_, by rw [List.length_append]; exact hcap, fun j hj => ?_, fun x hx => ?_⟩ ⟨fun k i j hp => ?_, fun _ _ _ => rfl⟩
    · rw [zi_zw, if_pos ⟨rfl, rfl, rfl⟩, List.length_append]
    · rw [List.length_append] at hj
      rw [zi_zw, if_neg (by omega), zi_zcp]
      by_cases hc : xs.length ≤ j
      · rw [if_pos ⟨rfl, rfl, hc, by omega⟩, Nat.zero_add, wf.2.2.1 _ (by omega)]
        have := getD_app2 (xs := xs) (ys := ys) (j := j - xs.length)
        rw [show xs.length + (j - xs.length) = j by omega] at this
        exact this.symm
      · rw [if_neg (by omega), getD_app1 (by omega)]
        exact w.2.2.1 j (by omega)
    · rcases List.mem_append.mp hx with z | z
      · exact w.2.2.2 x z
      · exact wf.2.2.2 x z
    · rw [zi_zw, if_neg, zi_zcp, if_neg]
      · rintro ⟨rfl, rfl, -⟩
        exact hp ⟨Or.inr rfl, rfl⟩
      · rintro ⟨rfl, rfl, -⟩
        exact hp ⟨Or.inl rfl, rfl⟩
