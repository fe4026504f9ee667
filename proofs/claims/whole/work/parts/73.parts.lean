/-! OF WHAT PARTS A TEXT IS MADE -/
def slN (xs : ZT) : Nat → List Nat
  | 0 => [0]
  | n + 1 => if xs.getD n 0 = 10 then slN xs n ++ [n + 1] else slN xs n
/-- the lines of a text: where they begin -/
def stF (xs : ZT) : List Nat := slN xs xs.length
def lnI (xs : ZT) (n : Nat) (S : List Nat) : Prop := 0 < S.length ∧ S.length ≤ n + 1 ∧ S.getD 0 0 = 0 ∧ (∀ i, i + 1 < S.length → S.getD i 0 < S.getD (i + 1) 0 ∧ S.getD (i + 1) 0 ≤ n ∧ xs.getD (S.getD (i + 1) 0 - 1) 0 = 10 ∧ ∀ k, S.getD i 0 ≤ k → k < S.getD (i + 1) 0 - 1 → xs.getD k 0 ≠ 10) ∧ (∀ k, S.getD (S.length - 1) 0 ≤ k → k < n → xs.getD k 0 ≠ 10) ∧ S.getD (S.length - 1) 0 ≤ n
theorem gd1 {S : List Nat} {x i : Nat} (h : i < S.length) : (S ++ [x]).getD i 0 = S.getD i 0 := by
  rw [List.getD_eq_getElem?_getD, List.getElem?_append_left h, ← List.getD_eq_getElem?_getD]
theorem gd2 {S : List Nat} {x : Nat} : (S ++ [x]).getD S.length 0 = x := by
  rw [List.getD_eq_getElem?_getD, List.getElem?_append_right (Nat.le_refl _), Nat.sub_self]
  rfl
theorem lnI_N (xs : ZT) : ∀ n, lnI xs n (slN xs n)
  | 0 => ⟨show 0 < 1 by decide, show 1 ≤ 0 + 1 by decide, rfl, fun i hi => absurd hi (by show ¬ i + 1 < 1; omega), fun k _ hk => absurd hk (Nat.not_lt_zero _), show 0 ≤ 0 by decide⟩
  | n + 1 => by
    obtain ⟨a1, a2, a3, a4, a5, a6⟩ := lnI_N xs n
    rw [slN]
    split
    · rename_i e
      refine ⟨by rw [List.length_append]; omega, by rw [List.length_append]; show (slN xs n).length + 1 ≤ _; omega, by rw [gd1 a1]; exact a3, fun i hi => ?_, fun k h1 h2 => ?_, ?_⟩
      · rw [List.length_append] at hi
        have hi : i + 1 < (slN xs n).length + 1 := hi
        rw [gd1 (show i < (slN xs n).length by omega)]
        by_cases c : i + 1 < (slN xs n).length
        · rw [gd1 c]
          obtain ⟨b1, b2, b3, b4⟩ := a4 i c
          exact ⟨b1, by omega, b3, b4⟩
        · have hil : i + 1 = (slN xs n).length := by omega
          have hi2 : i = (slN xs n).length - 1 := by omega
          rw [hil, gd2]
          refine ⟨by rw [hi2]; omega, Nat.le_refl _, e, fun k h1 h2 => ?_⟩
          rw [hi2] at h1
          exact a5 k h1 (by omega)
      · rw [List.length_append] at h1
        have h1 : (slN xs n ++ [n + 1]).getD (slN xs n).length 0 ≤ k := h1
        rw [gd2] at h1
        omega
      · rw [List.length_append]
        show (slN xs n ++ [n + 1]).getD (slN xs n).length 0 ≤ n + 1
        rw [gd2]
        exact Nat.le_refl _
    · rename_i e
      refine ⟨a1, by omega, a3, fun i hi => ?_, fun k h1 h2 => ?_, by omega⟩
      · obtain ⟨b1, b2, b3, b4⟩ := a4 i hi
        exact ⟨b1, by omega, b3, b4⟩
      · by_cases c : k = n
        · rw [c]; exact e
        · exact a5 k h1 (by omega)
def lS (S : List Nat) (i : Nat) : Nat := S.getD i 0
def lE (S : List Nat) (i : Nat) : Nat := S.getD (i + 1) 0 - 1
/-- how many lines -/
def lC (S : List Nat) : Nat := S.length - 1
theorem ln_fact {xs : ZT} {i : Nat} (hi : i < lC (stF xs)) : lS (stF xs) i ≤ lE (stF xs) i ∧ lE (stF xs) i < xs.length ∧ xs.getD (lE (stF xs) i) 0 = 10 ∧ (∀ k, lS (stF xs) i ≤ k → k < lE (stF xs) i → xs.getD k 0 ≠ 10) ∧ (stF xs).getD (i + 1) 0 = lE (stF xs) i + 1 := by
  obtain ⟨a1, a2, a3, a4, a5, a6⟩ := lnI_N xs xs.length
  have hi : i + 1 < (slN xs xs.length).length := by unfold lC stF at hi; omega
  obtain ⟨b1, b2, b3, b4⟩ := a4 i hi
  have e : stF xs = slN xs xs.length := rfl
  unfold lS lE
  rw [e]
  exact ⟨by omega, by omega, b3, b4, by omega⟩
theorem lC_le (xs : ZT) : lC (stF xs) ≤ xs.length := by
  have := (lnI_N xs xs.length).2.1
  unfold lC stF
  omega
theorem st_len (xs : ZT) : (stF xs).length = lC (stF xs) + 1 := by
  have := (lnI_N xs xs.length).1
  unfold lC stF
  omega
def hdF (S : List Nat) : Nat → Nat → Nat
  | 0, i => i
  | n + 1, i => if lS S i = lE S i then i else hdF S n (i + 1)
theorem hdF_le (S : List Nat) : ∀ n i, i ≤ hdF S n i ∧ hdF S n i ≤ i + n
  | 0, i => ⟨Nat.le_refl _, Nat.le_refl _⟩
  | n + 1, i => by
    rw [hdF]
    split
    · omega
    · have := hdF_le S n (i + 1)
      omega
/-- a field's colon: st the line's begin -/
def colF (xs : ZT) (st : Nat) : Nat → Nat → Option Nat
  | 0, _ => none
  | n + 1, p => if cAn (xs.getD p 0) = true ∨ xs.getD p 0 = 45 then colF xs st n (p + 1) else if st < p ∧ xs.getD p 0 = 58 then some p else none
def col (xs : ZT) (S : List Nat) (i : Nat) : Option Nat := colF xs (lS S i) (lE S i - lS S i) (lS S i)
def rhF (xs : ZT) (S : List Nat) (st : Nat) : Nat → Nat → Bool
  | 0, _ => true
  | n + 1, i => ((decide (st < i) && decide (xs.getD (lS S i) 0 = 32)) || (col xs S i).isSome) && rhF xs S st n (i + 1)
def skF (xs : ZT) : Nat → Nat → Nat
  | 0, p => p
  | n + 1, p => if xs.getD p 0 = 32 then skF xs n (p + 1) else p
def alF (xs : ZT) : Nat → Nat → Nat
  | 0, _ => 0
  | n + 1, p => if cAn (xs.getD p 0) = true then alF xs n (p + 1) + 1 else 0
def boF (xs : ZT) (e : Nat) : Nat → Nat → Option (Nat × Nat)
  | 0, _ => none
  | n + 1, p => if mtB xs p (zS 13) = true then (if 1 ≤ alF xs (e - (p + 9)) (p + 9) ∧ alF xs (e - (p + 9)) (p + 9) ≤ 20 then some (p + 9, alF xs (e - (p + 9)) (p + 9)) else none) else boF xs e n (p + 1)
def bndF (xs : ZT) (a e : Nat) : Option (Nat × Nat) := if mtB xs (skF xs (e - a) a) (zS 12) = true then boF xs e (e - (skF xs (e - a) a + 10)) (skF xs (e - a) a + 10) else none
def bnF (xs : ZT) (S : List Nat) : Nat → Nat → Option (Nat × Nat)
  | 0, _ => none
  | n + 1, i => if mtB xs (lS S i) (zS 11) = true then bndF xs (lS S i + 13) (lE S i) else bnF xs S n (i + 1)
def dsB (xs : ZT) (p : Nat) : Bool := decide (xs.getD p 0 = 45) && decide (xs.getD (p + 1) 0 = 45)
def rpB (xs : ZT) (p b : Nat) : Nat → Nat → Bool
  | 0, _ => true
  | n + 1, k => decide (xs.getD (p + k) 0 = xs.getD (b + k) 0) && rpB xs p b n (k + 1)
def brF (xs : ZT) (S : List Nat) (b : Nat × Nat) (i : Nat) : Nat := if (dsB xs (lS S i) && rpB xs (lS S i + 2) b.1 b.2 0) = true then (if lS S i + 2 + b.2 = lE S i then 1 else if lS S i + 2 + b.2 + 2 = lE S i ∧ dsB xs (lS S i + 2 + b.2) = true then 2 else 0) else 0
theorem brF_3 (xs : ZT) (S : List Nat) (b : Nat × Nat) (i : Nat) : brF xs S b i = 0 ∨ brF xs S b i = 1 ∨ brF xs S b i = 2 := by
  unfold brF
  split
  · split
    · exact Or.inr (Or.inl rfl)
    · split
      · exact Or.inr (Or.inr rfl)
      · exact Or.inl rfl
  · exact Or.inl rfl
def preK : Option Nat → Nat → List (Nat × Nat)
  | none, _ => []
  | some p, i => [(p, i)]
/-- the rows of lines between the borders -/
def ksF (br : Nat → Nat) : Nat → Nat → Option Nat → Option (List (Nat × Nat))
  | 0, _, _ => none
  | n + 1, i, ps => if br i = 0 then ksF br n (i + 1) ps else if br i = 1 then (ksF br n (i + 1) (some (i + 1))).map (fun C => preK ps i ++ C) else ps.map (fun p => [(p, i)])
abbrev ZK := Nat × Bool × Nat × Nat
def tkP (xs : ZT) (S : List Nat) : Nat → Nat → Nat → List ZK → Option (List ZK)
  | 0, _, _, _ => none
  | f + 1, st, en, acc => if 16 ≤ acc.length then none else if rhF xs S st (hdF S (en - st) st - st) st = false then none else match bnF xs S (hdF S (en - st) st - st) st with
    | none => some (acc ++ [(4 - f, false, st, en - st)])
    | some b => (ksF (brF xs S b) (en - (hdF S (en - st) st + 1)) (hdF S (en - st) st + 1) none).bind (fun C => C.foldlM (fun a c => tkP xs S f c.1 c.2 a) (acc ++ [(4 - f, true, st, en - st)]))
def partsOf (xs : ZT) : Option (List ZK) := tkP xs (stF xs) 5 0 (lC (stF xs)) []
def dK : ZK := (0, false, 0, 0)
def pA (xs : ZT) : List ZK := (partsOf xs).getD []
def fcN (k : ZK) (w : Int32) : Int32 := if w = 0 then nI k.1 else if w = 1 then bI k.2.1 else if w = 2 then nI k.2.2.1 else nI k.2.2.2
def prF (A : List ZK) (k w : Int32) : Int32 := if k < 0 ∨ nI A.length ≤ k ∨ w < 0 ∨ ¬ w < 4 then -1 else fcN (A.getD k.toNatClampNeg dK) w
def oParts (L : List ZL) (x : Int32) : Int32 := match lget L x with
  | none => -1
  | some l => nI (pA l.2.2.2.2).length
def oPart (L : List ZL) (x k w : Int32) : Int32 := match lget L x with
  | none => -1
  | some l => prF (pA l.2.2.2.2) k w
