/-! the model's divide -/
theorem ksF_no2 {br : Nat → Nat} : ∀ (n i : Nat) (ps : Option Nat), (∀ k, i ≤ k → k < i + n → br k ≠ 2 ∧ (br k = 0 ∨ br k = 1 ∨ br k = 2)) → ksF br n i ps = none
  | 0, _, _, _ => rfl
  | n + 1, i, ps, h => by
    obtain ⟨h1, h2⟩ := h i (Nat.le_refl _) (by omega)
    rw [ksF]
    split
    · exact ksF_no2 n (i + 1) ps (fun k h3 h4 => h k (by omega) (by omega))
    · split
      · rw [ksF_no2 n (i + 1) _ (fun k h3 h4 => h k (by omega) (by omega))]
        rfl
      · omega
/-- going back from the last border: x the first border from i on, C the rows behind it -/
def kI (br : Nat → Nat) (en i x : Nat) (C : List (Nat × Nat)) : Prop := (∀ p, ksF br (en - i) i (some p) = some ((p, x) :: C)) ∧ ksF br (en - i) i none = (if C = [] then none else some C)
theorem kI_last {br : Nat → Nat} {en e0 : Nat} (h : br e0 = 2) (he : e0 < en) : kI br en e0 e0 [] := by
  obtain ⟨n, hn⟩ : ∃ n, en - e0 = n + 1 := ⟨en - e0 - 1, by omega⟩
  unfold kI
  rw [hn]
  refine ⟨fun p => ?_, ?_⟩
  · rw [ksF, if_neg (by omega), if_neg (by omega)]
    rfl
  · rw [ksF, if_neg (by omega), if_neg (by omega)]
    rfl
theorem kI_1 {br : Nat → Nat} {en i x : Nat} {C : List (Nat × Nat)} (h : br i = 1) (hi : i < en) (a : kI br en (i + 1) x C) : kI br en i i ((i + 1, x) :: C) := by
  obtain ⟨n, hn⟩ : ∃ n, en - i = n + 1 := ⟨en - i - 1, by omega⟩
  obtain ⟨a1, a2⟩ := a
  rw [show en - (i + 1) = n by omega] at a1 a2
  unfold kI
  rw [hn]
  refine ⟨fun p => ?_, ?_⟩
  · rw [ksF, if_neg (by omega), if_pos h, a1]
    rfl
  · rw [ksF, if_neg (by omega), if_pos h, a1, if_neg (by simp)]
    rfl
theorem kI_0 {br : Nat → Nat} {en i x : Nat} {C : List (Nat × Nat)} (h : br i = 0) (hi : i < en) (a : kI br en (i + 1) x C) : kI br en i x C := by
  obtain ⟨n, hn⟩ : ∃ n, en - i = n + 1 := ⟨en - i - 1, by omega⟩
  obtain ⟨a1, a2⟩ := a
  rw [show en - (i + 1) = n by omega] at a1 a2
  unfold kI
  rw [hn]
  refine ⟨fun p => ?_, ?_⟩
  · rw [ksF, if_pos h, a1]
  · rw [ksF, if_pos h, a2]
abbrev ZW := Nat × Nat × Nat
def dW : ZW := (0, 0, 0)
/-- the rows that wait: the last one is taken first; b: no row begins before -/
def stkI (h : ZH) (R : List ZW) : Prop := zi h 12 0 25 = nI R.length ∧ ∀ k, k < R.length → zi h 13 13 k = nI (R.getD (R.length - 1 - k) dW).1 ∧ zi h 13 14 k = nI (R.getD (R.length - 1 - k) dW).2.1 ∧ zi h 13 15 k = nI (R.getD (R.length - 1 - k) dW).2.2
/-- the rows follow each other, each behind a border -/
def incR : Nat → Nat → List ZW → Prop
  | b, N, [] => b ≤ N + 1
  | b, N, c :: R => b ≤ c.1 ∧ c.1 ≤ c.2.1 ∧ incR (c.2.1 + 1) N R
theorem incR_len {N : Nat} : ∀ (R : List ZW) (b : Nat), incR b N R → b + R.length ≤ N + 1
  | [], b, h => h
  | c :: R, b, h => by
    have := incR_len R _ h.2.2
    rw [List.length_cons]
    have h1 := h.1
    have h2 := h.2.1
    omega
theorem incR_mono {N : Nat} : ∀ (R : List ZW) {b b' : Nat}, b' ≤ b → incR b N R → incR b' N R
  | [], b, b', h1, h => by show b' ≤ N + 1; have : b ≤ N + 1 := h; omega
  | c :: R, b, b', h1, h => ⟨Nat.le_trans h1 h.1, h.2⟩
theorem stk_push {h g : ZH} {R : List ZW} {c : ZW} (a : stkI h R) (e : g = zw (zw (zw (zw h 13 13 R.length (nI c.1)) 13 14 R.length (nI c.2.1)) 13 15 R.length (nI c.2.2)) 12 0 25 (nI (R.length + 1))) : stkI g (c :: R) := by
  subst e
  refine ⟨by rw [zi_zw, if_pos ⟨rfl, rfl, rfl⟩]; rfl, fun k hk => ?_⟩
  rw [List.length_cons] at hk ⊢
  by_cases ek : k = R.length
  · subst ek
    rw [show R.length + 1 - 1 - R.length = 0 by omega]
    refine ⟨?_, ?_, ?_⟩
    · rw [zi_zw, if_neg (by omega), zi_zw, if_neg (by omega), zi_zw, if_neg (by omega), zi_zw, if_pos ⟨rfl, rfl, rfl⟩]; rfl
    · rw [zi_zw, if_neg (by omega), zi_zw, if_neg (by omega), zi_zw, if_pos ⟨rfl, rfl, rfl⟩]; rfl
    · rw [zi_zw, if_neg (by omega), zi_zw, if_pos ⟨rfl, rfl, rfl⟩]; rfl
  · obtain ⟨b1, b2, b3⟩ := a.2 k (by omega)
    rw [show R.length + 1 - 1 - k = (R.length - 1 - k) + 1 by omega]
    refine ⟨?_, ?_, ?_⟩
    · rw [zi_zw, if_neg (by omega), zi_zw, if_neg (by omega), zi_zw, if_neg (by omega), zi_zw, if_neg (by omega)]; exact b1
    · rw [zi_zw, if_neg (by omega), zi_zw, if_neg (by omega), zi_zw, if_neg (by omega), zi_zw, if_neg (by omega)]; exact b2
    · rw [zi_zw, if_neg (by omega), zi_zw, if_neg (by omega), zi_zw, if_neg (by omega), zi_zw, if_neg (by omega)]; exact b3
def STP : Nat → Nat → Nat → Prop := fun k i j => (k = 12 ∧ j = 25) ∨ (k = 13 ∧ (i = 13 ∨ i = 14 ∨ i = 15))
theorem STP_DVP : ∀ k i j, STP k i j → DVP k i j := fun k i j z => by unfold STP at z; unfold DVP; omega
def kidsW (dp : Nat) (C : List (Nat × Nat)) : List ZW := C.map (fun c => (c.1, c.2, dp))
theorem sp_M_divide {d p fr en dp : Nat} {b : Nat × Nat} {h : ZH} {xs : ZT} {R : List ZW} {Q : Int32 → ZH → Prop} (a : mdI h p xs) (bk : bdK h p b) (hb : b.1 + b.2 < xs.length) (hb20 : b.2 ≤ 20) (sk : stkI h R) (hR : incR (en + 1) (lC (stF xs)) R) (h2 : en ≤ lC (stF xs)) (hfr : fr ≤ en) (hdp : dp < 100)
    (q0 : (∀ C, ksF (brF xs (stF xs) b) (en - fr) fr none = some C → ¬ dp ≤ 4) → ∀ h', zSa STP h h' → Q 0 h')
    (q1 : ∀ C, ksF (brF xs (stF xs) b) (en - fr) fr none = some C → dp ≤ 4 → ∀ h', stkI h' (kidsW dp C ++ R) → incR fr (lC (stF xs)) (kidsW dp C ++ R) → zSa STP h h' → Q 1 h') : EvI (d + 2) m_M_divide [vQ (some (12, 0)), vI (nI fr), vI (nI en), vI (nI dp)] h Q := by
  have hl := a.lc
  have hp := a.1
  have hxl := a.2.1.2
  have b3 := brF_3 xs (stF xs) b
  -- back from the last border
  have l49 : ∀ (n x e0 : Nat) (C : List (Nat × Nat)) (g : ZH), fr + n ≤ e0 → e0 < en → (∀ k, fr ≤ k → k < fr + n → brF xs (stF xs) b k ≠ 2) → fr + n ≤ x → x ≤ e0 → kI (brF xs (stF xs) b) en (fr + n) x C → stkI g (kidsW dp C ++ R) → incR (x + 1) (lC (stF xs)) (kidsW dp C ++ R) → zSa STP h g → EvAt (d + 2) m_M_divide 49 [some (vQ (some (12, 0))), some (vI (nI fr)), none, some (vI (nI dp)), none, some (vI (nI x)), some (vI (nI C.length)), some (vI (nI (fr + n) - (1 : Int32)))] [] g (zQI Q) := by
    intro n
    induction n with
    | zero =>
      intro x e0 C g hn he0 hno hx1 hx2 ki sg ic zs
      rw [Nat.add_zero] at ki hn
      have hl9 := incR_len _ _ ic
      have hCl : C.length ≤ (kidsW dp C ++ R).length := by unfold kidsW; rw [List.length_append, List.length_map]; omega
      refine w_M_divide_49 _ _ _ _ _ ⟨fun _ => pk_le C.length 0 (fun z => q0 (fun C' e => ?_) g zs) (fun z => pk_lt 4 dp (fun z2 => q0 (fun C' e => by omega) g zs) (fun z2 => ?_)), fun c => ?_⟩
      · have : C = [] := List.length_eq_zero_iff.mp (by omega)
        rw [ki.2, if_pos this] at e
        cases e
      · have hne : ¬ C = [] := fun y => by rw [y] at z; exact absurd z (by decide)
        exact q1 C (by rw [ki.2, if_neg hne]) (by omega) g sg (incR_mono _ (by omega) ic) zs
      · refine absurd ?_ c
        rw [Nat.add_zero]
        by_cases e : fr = 0
        · subst e
          decide
        · rw [nI_m1 (by omega), nI_ltI (by omega) (by omega)]
          omega
    | succ n ih =>
      intro x e0 C g hn he0 hno hx1 hx2 ki sg ic zs
      have hi : fr + n < lC (stF xs) := by omega
      have em : nI (fr + (n + 1)) - (1 : Int32) = nI (fr + n) := by rw [nI_m1 (by omega)]; rfl
      have em2 : nI (fr + n) + (-1 : Int32) = nI (fr + n) - (1 : Int32) := by
        rw [Int32.sub_eq_add_neg]
      have hl9 := incR_len _ _ ic
      have ag := a.kept (zs.mono STP_DVP)
      have bg : bdK g p b := ⟨by rw [zs.1 12 0 29 (by unfold STP; omega)]; exact bk.1, by rw [zs.1 12 0 30 (by unfold STP; omega)]; exact bk.2⟩
      rw [em]
      refine w_M_divide_49 _ _ _ _ _ (pk_lt (fr + n) fr (fun z => by omega) (fun _ => sp_M_border (d := d) ag bg hb hb20 hi ⟨fun c => w_M_divide_119 _ _ _ _ _ ?_, fun c => ?_⟩))
      · have h0 : brF xs (stF xs) b (fr + n) = 0 := by
          rcases b3 (fr + n) with z | z | z
          · exact z
          · rw [z] at c; exact absurd rfl c
          · exact absurd z (hno (fr + n) (by omega) (by omega))
        rw [em2]
        exact ih x e0 C g (by omega) he0 (fun k h3 h4 => hno k h3 (by omega)) (by omega) hx2 (kI_0 h0 (by omega) ki) sg ic zs
      · have h1 : brF xs (stF xs) b (fr + n) = 1 := by
          rcases b3 (fr + n) with z | z | z
          · rw [z] at c; exact absurd c (by decide)
          · exact z
          · exact absurd z (hno (fr + n) (by omega) (by omega))
        have sz := sg.1
        obtain ⟨K, hK⟩ : ∃ K, K = kidsW dp C ++ R := ⟨_, rfl⟩
        rw [← hK] at sz sg ic hl9
        have s1 : zi (zw g 13 13 K.length (nI (fr + n + 1))) 12 0 25 = nI K.length := by rw [zi_zw, if_neg (by omega)]; exact sz
        have s2 : zi (zw (zw g 13 13 K.length (nI (fr + n + 1))) 13 14 K.length (nI x)) 12 0 25 = nI K.length := by rw [zi_zw, if_neg (by omega)]; exact s1
        have s3 : zi (zw (zw (zw g 13 13 K.length (nI (fr + n + 1))) 13 14 K.length (nI x)) 13 15 K.length (nI dp)) 12 0 25 = nI K.length := by rw [zi_zw, if_neg (by omega)]; exact s2
        rw [sz, nI_clamp (by omega), nI_inc, s1, nI_clamp (by omega), s2, nI_clamp (by omega), s3, nI_inc, nI_inc]
        refine ⟨vp_in_nI (show K.length < 700 by omega) (by decide), vp_in_nI (show K.length < 700 by omega) (by decide), vp_in_nI (show K.length < 700 by omega) (by decide), w_M_divide_119 _ _ _ _ _ ?_⟩
        rw [em2]
        have ek : kidsW dp ((fr + n + 1, x) :: C) ++ R = (fr + n + 1, x, dp) :: K := by rw [hK]; rfl
        refine ih (fr + n) e0 ((fr + n + 1, x) :: C) _ (by omega) he0 (fun k h3 h4 => hno k h3 (by omega)) (Nat.le_refl _) (by omega) (kI_1 h1 (by omega) ki) ?_ ?_ ((((zs.w (by unfold STP; omega)).w (by unfold STP; omega)).w (by unfold STP; omega)).w (by unfold STP; omega))
        · rw [ek]
          exact stk_push (c := (fr + n + 1, x, dp)) sg rfl
        · rw [ek]
          exact ⟨Nat.le_refl _, by show fr + n + 1 ≤ x; omega, ic⟩
  -- the last border
  have l3 : ∀ (n i : Nat), i + n = en → fr ≤ i → (∀ k, fr ≤ k → k < i → brF xs (stF xs) b k ≠ 2) → EvAt (d + 2) m_M_divide 3 [some (vQ (some (12, 0))), some (vI (nI fr)), some (vI (nI en)), some (vI (nI dp)), some (vI (nI i)), none, none, none] [] h (zQI Q) := by
    intro n
    induction n with
    | zero =>
      intro i hi hfi hno
      have : i = en := by omega
      subst this
      refine w_M_divide_3 _ _ _ _ (pk_le i i (fun _ => w_M_divide_28 _ _ _ _ ⟨fun c => absurd rfl c, fun _ => q0 (fun C e => ?_) h zSa.rfl⟩) (fun z => by omega))
      rw [ksF_no2 _ _ _ (fun k h3 h4 => ⟨hno k h3 (by omega), b3 k⟩)] at e
      cases e
    | succ n ih =>
      intro i hi hfi hno
      refine w_M_divide_3 _ _ _ _ (pk_le en i (fun z => by omega) (fun _ => sp_M_border (d := d) a bk hb hb20 (by omega) ⟨fun c => ?_, fun c => ?_⟩))
      · have h2' : brF xs (stF xs) b i = 2 := by
          rcases b3 i with z | z | z
          · rw [z] at c; exact absurd c (by decide)
          · rw [z] at c; exact absurd c (by decide)
          · exact z
        refine w_M_divide_28 _ _ _ _ ⟨fun _ => ?_, fun z => ?_⟩
        · have := l49 (i - fr) i i [] h (by omega) (by omega) (fun k h3 h4 => hno k h3 (by omega)) (by omega) (Nat.le_refl _) (by rw [show fr + (i - fr) = i by omega]; exact kI_last h2' (by omega)) sk (incR_mono _ (by omega) hR) zSa.rfl
          rw [show fr + (i - fr) = i by omega] at this
          exact this
        · rw [nI_eq (by omega) (by omega)] at z
          omega
      · rw [nI_inc]
        refine ih (i + 1) (by omega) (by omega) (fun k h3 h4 => ?_)
        by_cases e : k = i
        · subst e
          intro z
          exact c (by rw [z]; rfl)
        · exact hno k h3 (by omega)
  exact e_M_divide _ _ _ (l3 (en - fr) fr (by omega) (Nat.le_refl _) (fun k h3 h4 => by omega))
