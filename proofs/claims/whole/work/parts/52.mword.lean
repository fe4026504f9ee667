theorem nI_or (a b : Nat) : nI a ||| nI b = nI (a ||| b) := by
  unfold nI
  apply Int32.toBitVec_inj.mp
  show BitVec.ofNat 32 a ||| BitVec.ofNat 32 b = BitVec.ofNat 32 (a ||| b)
  rw [BitVec.ofNat_or]
def pkN (a b c d : Nat) : Nat := ((a * 256 + b) * 256 + c) * 256 + d
theorem or_add {a b k : Nat} (h : b < 2 ^ k) : a * 2 ^ k ||| b = a * 2 ^ k + b := by
  have := Nat.shiftLeft_add_eq_or_of_lt h a
  rw [Nat.shiftLeft_eq] at this
  exact this.symm
theorem pack {a b c d : Nat} (ha : a < 128) (hb : b < 128) (hc : c < 128) (hd : d < 128) : (((nI a <<< ((24 : Int32) &&& 31)) ||| (nI b <<< ((16 : Int32) &&& 31))) ||| (nI c <<< ((8 : Int32) &&& 31))) ||| nI d = nI (pkN a b c d) := by
  rw [pk_shlN (n := a) ((24 : Int32) &&& 31) 24 (by decide) (by omega), pk_shlN (n := b) ((16 : Int32) &&& 31) 16 (by decide) (by omega), pk_shlN (n := c) ((8 : Int32) &&& 31) 8 (by decide) (by omega), nI_or, nI_or, nI_or]
  congr 1
  have e1 : a * 2 ^ 24 ||| b * 2 ^ 16 = (a * 256 + b) * 2 ^ 16 := by
    rw [or_add (k := 24) (by omega)]
    omega
  have e2 : (a * 256 + b) * 2 ^ 16 ||| c * 2 ^ 8 = ((a * 256 + b) * 256 + c) * 2 ^ 8 := by
    rw [or_add (k := 16) (by omega)]
    omega
  rw [e1, e2, or_add (k := 8) (by omega)]
  unfold pkN
  omega
theorem pkN_inj {a b c d a' b' c' d' : Nat} (h : a < 128 ∧ b < 128 ∧ c < 128 ∧ d < 128) (h' : a' < 128 ∧ b' < 128 ∧ c' < 128 ∧ d' < 128) : pkN a b c d = pkN a' b' c' d' ↔ a = a' ∧ b = b' ∧ c = c' ∧ d = d' := by
  unfold pkN
  omega
theorem pkN_lt {a b c d : Nat} (ha : a < 128) (hb : b < 128) (hc : c < 128) (hd : d < 128) : pkN a b c d < 2 ^ 31 := by
  unfold pkN
  omega
/-- the first space from i on, ahead of n -/
def spF (xs : ZT) : Nat → Nat → Nat
  | 0, i => i
  | n + 1, i => if xs.getD i 0 = 32 then i else spF xs n (i + 1)
def cN (x : Int32) : Nat := x.toNatClampNeg
def pkL (xs : ZT) : Int32 := nI (pkN (cN (cSm (xs.getD 0 0))) (cN (cSm (xs.getD 1 0))) (cN (cSm (xs.getD 2 0))) (cN (cSm (xs.getD 3 0))))
def wcM (xs : ZT) : Int32 := if spF xs xs.length 0 = 4 then pkL xs else 0
theorem cN_ch {x : Int32} (h : zCh x) : cN x < 128 ∧ x = nI (cN x) := by
  obtain ⟨n, hn, rfl⟩ := h
  unfold cN
  rw [nI_clamp (by omega)]
  exact ⟨hn, rfl⟩
theorem ln_ch {xs : ZT} (h : ∀ x ∈ xs, zCh x) (k : Nat) : zCh (xs.getD k 0) := by
  rcases Nat.lt_or_ge k xs.length with z | z
  · exact h _ (zgetD_mem z)
  · rw [getD_ge z]; exact zCh_0
theorem sp_M_wordCode {d : Nat} {h : ZH} {xs : ZT} {Q : Int32 → ZH → Prop} (w : lnM h xs) (hq : Q (wcM xs) h) : EvI (d + 2) m_M_wordCode [vQ (some (12, 0))] h Q := by
  have hl := w.2.1
  unfold wcM at hq
  have fin : ∀ i, i < 2 ^ 30 → spF xs xs.length 0 = i → EvAt (d + 2) m_M_wordCode 28 [some (vQ (some (12, 0))), some (vI (nI i))] [] h (zQI Q) := by
    intro i hi e
    rw [e] at hq
    refine w_M_wordCode_28 _ ⟨fun c => ?_, fun c => ?_⟩
    · rw [show (4 : Int32) = nI 4 from rfl, nI_eq (by omega) (by omega)] at c
      rw [if_neg c] at hq
      exact hq
    · rw [show (4 : Int32) = nI 4 from rfl, nI_eq (by omega) (by omega)] at c
      rw [if_pos c] at hq
      refine sp_M_charAt (k := 0) w (by decide) (sp_M_charAt (k := 1) w (by decide) (sp_M_charAt (k := 2) w (by decide) (sp_M_charAt (k := 3) w (by decide) ?_)))
      have q : ∀ k, cN (cSm (xs.getD k 0)) < 128 ∧ cSm (xs.getD k 0) = nI (cN (cSm (xs.getD k 0))) := fun k => cN_ch (cSm_ch (ln_ch w.2.2.2 k))
      rw [(q 0).2, (q 1).2, (q 2).2, (q 3).2, pack (q 0).1 (q 1).1 (q 2).1 (q 3).1]
      exact hq
  have key : ∀ (n i : Nat), i < 2 ^ 30 → xs.length - i = n → i ≤ xs.length → spF xs xs.length 0 = spF xs n i → EvAt (d + 2) m_M_wordCode 2 [some (vQ (some (12, 0))), some (vI (nI i))] [] h (zQI Q) := by
    intro n
    induction n with
    | zero =>
      intro i hi hn hil e
      refine w_M_wordCode_2 _ ⟨fun _ => fin i hi e, fun c => ?_⟩
      rw [w.1] at c
      exact absurd ((nI_leI (by omega) (by omega)).mpr (by omega)) c
    | succ n ih =>
      intro i hi hn hil e
      rw [spF] at e
      refine w_M_wordCode_2 _ ⟨fun c => ?_, fun _ => ?_⟩
      · rw [w.1] at c
        exact absurd ((nI_leI (by omega) (by omega)).mp c) (by omega)
      · rw [nI_clamp (show i < 2 ^ 31 by omega), w.2.2.1 i (by omega)]
        refine ⟨vp_in_nI (show i < 72 by omega) (by decide), fun c => ?_, fun c => ?_⟩
        · rw [if_pos c] at e
          exact fin i hi e
        · rw [if_neg c] at e
          rw [nI_inc]
          exact ih (i + 1) (by omega) (by omega) (by omega) e
  exact e_M_wordCode (key _ 0 (by decide) rfl (Nat.zero_le _) rfl)
def wdC (c : Nat) : Int32 := ([1751477359, 1701342319, 1835100524, 1919119476, 1684108385, 1920165236, 1852796784, 1903520116] : List Int32).getD c 0
theorem wdC_pk : ∀ c, c < 8 → wdC c = nI (pkN (cN ((zS c).getD 0 0)) (cN ((zS c).getD 1 0)) (cN ((zS c).getD 2 0)) (cN ((zS c).getD 3 0))) ∧ (zS c).length = 4 ∧ wdC c ≠ 0 := by decide +kernel
theorem zS_no32 : ∀ c, c < 8 → ∀ k, k < 4 → (zS c).getD k 0 ≠ 32 := by decide +kernel
theorem spF_4 {xs : ZT} : spF xs xs.length 0 = 4 ↔ (4 ≤ xs.length ∧ (∀ k, k < 4 → xs.getD k 0 ≠ 32) ∧ (xs.length = 4 ∨ xs.getD 4 0 = 32)) := by
  have key : ∀ (n i : Nat), i + n = xs.length → i ≤ 4 → (∀ k, k < i → xs.getD k 0 ≠ 32) → (spF xs n i = 4 ↔ (4 ≤ xs.length ∧ (∀ k, k < 4 → xs.getD k 0 ≠ 32) ∧ (xs.length = 4 ∨ xs.getD 4 0 = 32))) := by
    intro n
    induction n with
    | zero =>
      intro i hi h4 hno
      rw [spF]
      constructor
      · intro e
        subst e
        exact ⟨by omega, hno, Or.inl (by omega)⟩
      · intro z
        omega
    | succ n ih =>
      intro i hi h4 hno
      rw [spF]
      by_cases hc : xs.getD i 0 = 32
      · rw [if_pos hc]
        constructor
        · intro e
          subst e
          exact ⟨by omega, hno, Or.inr hc⟩
        · rintro ⟨z1, z2, z3⟩
          rcases Nat.lt_or_ge i 4 with y | y
          · exact absurd hc (z2 i y)
          · omega
      · rw [if_neg hc]
        rcases Nat.lt_or_ge i 4 with y | y
        · refine ih (i + 1) (by omega) (by omega) (fun k hk => ?_)
          by_cases e : k = i
          · rw [e]; exact hc
          · exact hno k (by omega)
        · have : i = 4 := by omega
          subst this
          have big : ∀ (n i : Nat), i ≤ spF xs n i := by
            intro n
            induction n with
            | zero => intro i; exact Nat.le_refl _
            | succ n ih2 =>
              intro i
              rw [spF]
              split
              · exact Nat.le_refl _
              · have := ih2 (i + 1)
                omega
          constructor
          · intro e
            have h5 := big n (4 + 1)
            rw [e] at h5
            omega
          · rintro ⟨z1, z2, z3 | z3⟩
            · omega
            · exact absurd z3 hc
  exact key _ 0 (by omega) (by omega) (fun k hk => by omega)
theorem mtB_4 {xs : ZT} {c : Nat} (hc : c < 8) : mtB xs 0 (zS c) = true ↔ (4 ≤ xs.length ∧ ∀ k, k < 4 → cSm (xs.getD k 0) = (zS c).getD k 0) := by
  have h4 := (wdC_pk c hc).2.1
  unfold mtB
  rw [h4, Bool.and_eq_true, decide_eq_true_eq]
  have key : ∀ ws : ZT, ws.length = 4 → (mtF xs 0 ws = true ↔ ∀ k, k < 4 → cSm (xs.getD k 0) = ws.getD k 0) := by
    intro ws hw
    match ws, hw with
    | [a, b, e, f], _ =>
      simp only [mtF, Bool.and_eq_true, decide_eq_true_eq, and_true]
      constructor
      · rintro ⟨z0, z1, z2, z3⟩ k hk
        match k, hk with
        | 0, _ => exact z0
        | 1, _ => exact z1
        | 2, _ => exact z2
        | 3, _ => exact z3
      · intro z
        exact ⟨z 0 (by decide), z 1 (by decide), z 2 (by decide), z 3 (by decide)⟩
  rw [key _ h4, Nat.zero_add]
theorem wc_iff {xs : ZT} (hch : ∀ x ∈ xs, zCh x) {c : Nat} (hc : c < 8) : wcM xs = wdC c ↔ (¬ (4 < xs.length ∧ xs.getD 4 0 ≠ 32) ∧ mtB xs 0 (zS c) = true) := by
  obtain ⟨e1, e2, e3⟩ := wdC_pk c hc
  have q : ∀ k, cN (cSm (xs.getD k 0)) < 128 ∧ cSm (xs.getD k 0) = nI (cN (cSm (xs.getD k 0))) := fun k => cN_ch (cSm_ch (ln_ch hch k))
  have q2 : ∀ k, k < 4 → cN ((zS c).getD k 0) < 128 ∧ (zS c).getD k 0 = nI (cN ((zS c).getD k 0)) := fun k hk => cN_ch (zS_ch c (by omega) _ (zgetD_mem (by omega)))
  have pk : pkL xs = wdC c ↔ ∀ k, k < 4 → cSm (xs.getD k 0) = (zS c).getD k 0 := by
    unfold pkL
    rw [e1, nI_eq (pkN_lt (q 0).1 (q 1).1 (q 2).1 (q 3).1) (pkN_lt (q2 0 (by decide)).1 (q2 1 (by decide)).1 (q2 2 (by decide)).1 (q2 3 (by decide)).1), pkN_inj ⟨(q 0).1, (q 1).1, (q 2).1, (q 3).1⟩ ⟨(q2 0 (by decide)).1, (q2 1 (by decide)).1, (q2 2 (by decide)).1, (q2 3 (by decide)).1⟩]
    constructor
    · rintro ⟨z0, z1, z2, z3⟩ k hk
      rw [(q k).2, (q2 k hk).2]
      match k, hk with
      | 0, _ => rw [z0]
      | 1, _ => rw [z1]
      | 2, _ => rw [z2]
      | 3, _ => rw [z3]
    · intro z
      exact ⟨by rw [z 0 (by decide)], by rw [z 1 (by decide)], by rw [z 2 (by decide)], by rw [z 3 (by decide)]⟩
  rw [mtB_4 hc]
  unfold wcM
  by_cases h4 : spF xs xs.length 0 = 4
  · rw [if_pos h4, pk]
    have z := spF_4.mp h4
    constructor
    · intro y
      exact ⟨fun u => by rcases z.2.2 with v | v; omega; exact u.2 v, z.1, y⟩
    · intro y
      exact y.2.2
  · rw [if_neg h4]
    constructor
    · intro y
      exact absurd y.symm e3
    · rintro ⟨y1, y2, y3⟩
      refine absurd (spF_4.mpr ⟨y2, fun k hk u => ?_, ?_⟩) h4
      · have v := y3 k hk
        rw [u] at v
        exact zS_no32 c hc k hk (v.symm.trans (by decide))
      · by_cases e : xs.length = 4
        · exact Or.inl e
        · refine Or.inr ?_
          by_cases u : xs.getD 4 0 = 32
          · exact u
          · exact absurd ⟨by omega, u⟩ y1
