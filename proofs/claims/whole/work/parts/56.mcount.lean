/-! the model: write, spooled, letters -/
def bdM (h : ZH) : ZH := zw (zw (zw (zw (zw h 12 0 0 (0 : Int32)) 12 0 6 (0 : Int32)) 12 0 7 (0 : Int32)) 12 0 8 (0 : Int32)) 12 0 3 (-1 : Int32)
theorem sp_M_write {d : Nat} {h : ZH} {w : Option Nat} {Q : Int32 → ZH → Prop} (hw : zi h 12 0 3 = wrE w) (hb : ∀ n, w = some n → n < 2 ^ 30) (h0 : wrN w = none → Q 0 (bdM h)) (h1 : ∀ w1, wrN w = some w1 → Q 1 (zw h 12 0 3 (wrE w1))) : EvI (d + 1) m_M_write [vQ (some (12, 0))] h Q := by
  refine e_M_write ?_
  rw [hw]
  match w, hb, h0, h1 with
  | none, _, _, h1 => exact ⟨fun _ => ⟨fun _ => h1 none rfl, fun c => absurd (by decide) c⟩, fun c => absurd c (by decide)⟩
  | some 0, _, h0, _ => exact ⟨fun c => absurd nI_0 c, fun _ => e_M_breakDown (h0 rfl)⟩
  | some (n + 1), hb, _, h1 =>
    have := hb (n + 1) rfl
    refine ⟨fun _ => ⟨fun c => absurd c (nI_nle (by omega) (by omega)), fun _ => ?_⟩, fun c => absurd c (nI_ne0 (by omega) (by omega))⟩
    show Q 1 (zw h 12 0 3 (nI (n + 1) - 1))
    rw [nI_pred]
    exact h1 (some n) rfl
theorem bdM_sa (h : ZH) : zSa (fun k i j => k = 12 ∧ i = 0 ∧ (j = 0 ∨ j = 6 ∨ j = 7 ∨ j = 8 ∨ j = 3)) h (bdM h) := by
  unfold bdM
  refine ((((zSa.rfl.w ?_).w ?_).w ?_).w ?_).w ?_ <;> omega
theorem RM_bd {h : ZH} {now given : Nat} {L : List ZL} (e1 : zi h 12 0 1 = nI now) (hn : now < 2 ^ 29) (e2 : zi h 12 0 2 = nI given) (hg : given < 2 ^ 29) (a : spM h given L) : RM (bdM h) (dnS now given L) := by
  have s := bdM_sa h
  refine ⟨by simp [bdM, zi_zw, bI], by rw [s.1 12 0 1 (by omega)]; exact e1, hn, by rw [s.1 12 0 2 (by omega)]; exact e2, hg, fun _ => ⟨rfl, rfl, rfl⟩, ⟨by simp [bdM, zi_zw, wrE], fun n e => (by cases e), by simp [bdM, zi_zw, bI], by simp [bdM, zi_zw, bI], by simp [bdM, zi_zw, bI], fun z => (by cases z), fun z => (by cases z), fun z => (by cases z)⟩, a.kept s (fun p hp k i j z y => by have := slP_12 z; omega)⟩
/-- counting -/
def cntF (f : Nat → Bool) : Nat → Nat → Nat
  | 0, _ => 0
  | n + 1, p => (if f p then 1 else 0) + cntF f n (p + 1)
theorem cntF_le (f : Nat → Bool) : ∀ n p, cntF f n p ≤ n
  | 0, _ => Nat.le_refl _
  | n + 1, p => by
    have := cntF_le f n (p + 1)
    rw [cntF]
    split <;> omega
theorem cntF_congr {f g : Nat → Bool} : ∀ (n p : Nat), (∀ i, p ≤ i → i < p + n → f i = g i) → cntF f n p = cntF g n p
  | 0, _, _ => rfl
  | n + 1, p, h => by
    rw [cntF, cntF, h p (Nat.le_refl _) (by omega), cntF_congr n (p + 1) (fun i h1 h2 => h i (by omega) (by omega))]
theorem cntF_mem : ∀ (n p : Nat) (A : List Nat), A.Nodup → (∀ a ∈ A, p ≤ a ∧ a < p + n) → cntF (fun i => decide (i ∈ A)) n p = A.length := by
  intro n
  induction n with
  | zero =>
    intro p A _ h
    cases A with
    | nil => rfl
    | cons a t =>
      have := h a List.mem_cons_self
      omega
  | succ n ih =>
    intro p A hn h
    rw [cntF]
    by_cases hp : p ∈ A
    · rw [if_pos (decide_eq_true hp)]
      have h2 := ih (p + 1) (A.erase p) (hn.erase p) (fun a ha => by
        rw [hn.mem_erase_iff] at ha
        have := h a ha.2
        have := ha.1
        omega)
      rw [List.length_erase_of_mem hp] at h2
      have hpos : 0 < A.length := List.length_pos_of_mem hp
      have h3 : cntF (fun i => decide (i ∈ A)) n (p + 1) = cntF (fun i => decide (i ∈ A.erase p)) n (p + 1) := cntF_congr n (p + 1) (fun i h1 h2 => by
        have : i ∈ A ↔ i ∈ A.erase p := by
          rw [hn.mem_erase_iff]
          constructor
          · exact fun z => ⟨by omega, z⟩
          · exact fun z => z.2
        rw [decide_eq_decide]
        exact this)
      omega
    · rw [if_neg (by simpa using hp), Nat.zero_add]
      refine ih (p + 1) A hn (fun a ha => ?_)
      have h1 := h a ha
      have h2 : a ≠ p := fun z => hp (z ▸ ha)
      omega
theorem msp.num {h : ZH} {P : List (Nat × ZL)} (a : msp h P) {p : Nat} (hp : p < 6) : zi h 13 1 p < 0 ↔ p ∉ P.map Prod.fst := by
  constructor
  · intro z y
    obtain ⟨q, hq, e⟩ := List.mem_map.mp y
    have := (a.1 q hq).2
    rw [← e, this.1] at z
    have hl := this.2.1
    exact nI_pos (by omega) z
  · intro z
    rw [a.2.2 p hp z]
    decide
theorem msp.len {h : ZH} {P : List (Nat × ZL)} (a : msp h P) : P.length ≤ 6 := by
  have := cntF_mem 6 0 (P.map Prod.fst) a.2.1 (fun x hx => by
    obtain ⟨q, hq, e⟩ := List.mem_map.mp hx
    have := (a.1 q hq).1
    omega)
  rw [List.length_map] at this
  rw [← this]
  exact cntF_le _ _ _
theorem sp_M_spooled {d : Nat} {h : ZH} {P : List (Nat × ZL)} {Q : Int32 → ZH → Prop} (a : msp h P) (hq : Q (nI P.length) h) : EvI d m_M_spooled [vQ (some (12, 0))] h Q := by
  have tot := cntF_mem 6 0 (P.map Prod.fst) a.2.1 (fun x hx => by
    obtain ⟨q, hq, e⟩ := List.mem_map.mp hx
    have := (a.1 q hq).1
    omega)
  rw [List.length_map] at tot
  have key : ∀ (n p c : Nat), p + n = 6 → Q (nI (c + cntF (fun i => decide (i ∈ P.map Prod.fst)) n p)) h → EvAt d m_M_spooled 4 [some (vQ (some (12, 0))), some (vI (nI c)), some (vI (nI p))] [] h (zQI Q) := by
    intro n
    induction n with
    | zero =>
      intro p c hp hq
      exact w_M_spooled_4 _ _ (pk_le 6 p (fun _ => hq) (fun z => by omega))
    | succ n ih =>
      intro p c hp hq
      rw [cntF] at hq
      refine w_M_spooled_4 _ _ (pk_le 6 p (fun z => by omega) (fun _ => ?_))
      rw [nI_clamp (by omega)]
      refine ⟨vp_in_nI (show p < 6 by omega) (by decide), fun c1 => w_M_spooled_26 _ _ ?_, fun c1 => w_M_spooled_26 _ _ ?_⟩
      · rw [a.num (by omega)] at c1
        rw [if_neg (by simpa using c1), Nat.zero_add] at hq
        rw [nI_inc]
        exact ih (p + 1) c (by omega) hq
      · rw [a.num (by omega), Decidable.not_not] at c1
        rw [if_pos (decide_eq_true c1)] at hq
        rw [nI_inc, nI_inc]
        exact ih (p + 1) (c + 1) (by omega) (by rw [Nat.add_assoc]; exact hq)
  refine e_M_spooled ?_
  have := key 6 0 0 rfl (by rw [tot, Nat.zero_add]; exact hq)
  exact this
/-- the places of sealed letters -/
def sPl (P : List (Nat × ZL)) : List Nat := (P.filter (fun q => q.2.2.1)).map Prod.fst
theorem fst_inj {P : List (Nat × ZL)} (h : (P.map Prod.fst).Nodup) {a b : Nat × ZL} (ha : a ∈ P) (hb : b ∈ P) (e : a.1 = b.1) : a = b := by
  induction P with
  | nil => cases ha
  | cons x t ih =>
    rw [List.map_cons, List.nodup_cons] at h
    rcases List.mem_cons.mp ha with rfl | ha2
    · rcases List.mem_cons.mp hb with rfl | hb
      · rfl
      · exact absurd (List.mem_map.mpr ⟨b, hb, e.symm⟩) h.1
    · rcases List.mem_cons.mp hb with rfl | hb
      · exact absurd (List.mem_map.mpr ⟨a, ha2, e⟩) h.1
      · exact ih h.2 ha2 hb
theorem sp_M_isLetterAt {d p : Nat} {h : ZH} {P : List (Nat × ZL)} {Q : Int32 → ZH → Prop} (a : msp h P) (hp : p < 6) (hq : Q (bI (decide (p ∈ sPl P))) h) : EvI d m_M_isLetterAt [vQ (some (12, 0)), vI (nI p)] h Q := by
  refine e_M_isLetterAt _ ?_
  rw [nI_clamp (by omega)]
  have no : p ∉ sPl P → Q 0 h := fun z => by rw [decide_eq_false z] at hq; exact hq
  refine ⟨vp_in_nI (show p < 6 by omega) (by decide), fun c => no ?_, fun c => ⟨vp_in_nI (show p < 6 by omega) (by decide), fun c1 => no ?_, fun c1 => ?_⟩⟩
  · rw [a.num hp] at c
    intro z
    obtain ⟨q, hq, e⟩ := List.mem_map.mp z
    exact c (List.mem_map.mpr ⟨q, (List.mem_filter.mp hq).1, e⟩)
  · intro z
    obtain ⟨q, hq, e⟩ := List.mem_map.mp z
    have hm := List.mem_filter.mp hq
    have := (a.1 q hm.1).2.2.2.1
    rw [e, c1] at this
    have h2 : q.2.2.1 = true := hm.2
    rw [h2] at this
    exact absurd this (by decide)
  · rw [a.num hp, Decidable.not_not] at c
    obtain ⟨q, hq1, e⟩ := List.mem_map.mp c
    have := (a.1 q hq1).2.2.2.1
    rw [e] at this
    rw [this] at c1
    have hin : p ∈ sPl P := List.mem_map.mpr ⟨q, List.mem_filter.mpr ⟨hq1, bI_t c1⟩, e⟩
    rw [decide_eq_true hin] at hq
    exact hq
theorem sPl_nd {P : List (Nat × ZL)} (h : (P.map Prod.fst).Nodup) : (sPl P).Nodup := by
  unfold sPl
  exact List.Sublist.nodup (List.Sublist.map Prod.fst List.filter_sublist) h
theorem scF_eq : ∀ P : List (Nat × ZL), scF (P.map Prod.snd) = (sPl P).length
  | [] => rfl
  | q :: t => by
    have := scF_eq t
    unfold sPl at this ⊢
    rw [List.map_cons, scF, List.filter_cons]
    by_cases e : q.2.2.1 = true
    · rw [if_pos e, if_pos e, List.map_cons, List.length_cons, this]
      omega
    · rw [if_neg e, if_neg e, this, Nat.zero_add]
theorem sp_M_letters {d : Nat} {h : ZH} {P : List (Nat × ZL)} {Q : Int32 → ZH → Prop} (a : msp h P) (hq : Q (nI (scF (P.map Prod.snd))) h) : EvI (d + 1) m_M_letters [vQ (some (12, 0))] h Q := by
  have tot := cntF_mem 6 0 (sPl P) (sPl_nd a.2.1) (fun x hx => by
    obtain ⟨q, hq, e⟩ := List.mem_map.mp hx
    have := (a.1 q (List.mem_filter.mp hq).1).1
    omega)
  rw [← scF_eq] at tot
  have key : ∀ (n p c : Nat), p + n = 6 → Q (nI (c + cntF (fun i => decide (i ∈ sPl P)) n p)) h → EvAt (d + 1) m_M_letters 4 [some (vQ (some (12, 0))), some (vI (nI c)), some (vI (nI p))] [] h (zQI Q) := by
    intro n
    induction n with
    | zero =>
      intro p c hp hq
      exact w_M_letters_4 _ _ (pk_le 6 p (fun _ => hq) (fun z => by omega))
    | succ n ih =>
      intro p c hp hq
      rw [cntF] at hq
      refine w_M_letters_4 _ _ (pk_le 6 p (fun z => by omega) (fun _ => ?_))
      refine sp_M_isLetterAt a (by omega) ⟨fun c1 => w_M_letters_25 _ _ ?_, fun c1 => w_M_letters_25 _ _ ?_⟩
      · rw [if_neg (by rw [(bI_0 _).mp c1]; decide), Nat.zero_add] at hq
        rw [nI_inc]
        exact ih (p + 1) c (by omega) hq
      · rw [if_pos (bI_t c1)] at hq
        rw [nI_inc, nI_inc]
        exact ih (p + 1) (c + 1) (by omega) (by rw [Nat.add_assoc]; exact hq)
  refine e_M_letters ?_
  exact key 6 0 0 rfl (by rw [tot, Nat.zero_add]; exact hq)
