/-! the class's read, parts, part -/
theorem rowIs.e {h h' : ZH} {r : Nat} {xs : ZT} (a : rowIs h r xs) (f : ∀ k i j, k < 10 → zi h' k i j = zi h k i j) : rowIs h' r xs :=
  ⟨by rw [f 1 r 1 (by decide)]; exact a.1, a.2.1, fun j hj => by rw [f 2 r j (by decide)]; exact a.2.2.1 j hj, a.2.2.2⟩
theorem rcIs.e {h h' : ZH} {t : Nat} {p : ZP} (a : rcIs h t p) (f : ∀ k i j, k < 10 → zi h' k i j = zi h k i j) : rcIs h' t p := by
  obtain ⟨a1, a2, a3, a4⟩ := a
  exact ⟨a1.e f, by rw [f 9 t 1 (by decide), f 9 t 2 (by decide)]; exact a2, by rw [f 9 t 3 (by decide)]; exact a3, a4⟩
theorem ltIs.e {h h' : ZH} {q : Nat} {l : ZL} (a : ltIs h q l) (f : ∀ k i j, k < 10 → zi h' k i j = zi h k i j) : ltIs h' q l := by
  obtain ⟨a1, a2, a3, a4, a5, a6, a7, a8⟩ := a
  exact ⟨by rw [f 7 q 4 (by decide)]; exact a1, a2, by rw [f 7 q 5 (by decide)]; exact a3, a4.e f, by rw [f 7 q 3 (by decide)]; exact a5, a6, fun r hr => (a7 r hr).e f, a8.e f⟩
theorem RC_ext {h h' : ZH} {S : ZS} (a : RC h S) (f : ∀ k i j, k < 10 → zi h' k i j = zi h k i j) (fr : ∀ k i j, k < 10 → zr h' k i j = zr h k i j) : RC h' S := by
  obtain ⟨up, now, given, wr, line, gr, bg, tk, snd, rcs, tx, L⟩ := S
  obtain ⟨a1, a2, a3, a4, a5, ⟨π, b1, b2, b3, b4, b5⟩, a7⟩ := a
  exact ⟨by rw [f 0 0 4 (by decide)]; exact a1, a2, by rw [f 5 0 2 (by decide)]; exact a3, a4, by rw [f 5 0 4 (by decide)]; exact a5, ⟨π, by rw [f 5 0 1 (by decide)]; exact b1, b2, fun j hj => by rw [fr 6 0 j (by decide)]; exact b3 j hj, b4, fun j hj => (b5 j hj).e f⟩, fun z => (a7 z).kept (fun j => f 3 0 j (by decide)) (f 5 0 3 (by decide)) (fun r _ xs w => w.e f)⟩
/-- what the reader has read last -/
def rdC (h : ZH) (gv : Nat) (L : List ZL) : Prop := zi h 10 0 5 = -1 ∨ ∃ (n : Nat) (tx : ZT), zi h 10 0 5 = nI n ∧ n < gv ∧ accIs h (pA tx) ∧ ∀ l ∈ L, l.1 = n → l.2.2.2.2 = tx
def z10 (h h' : ZH) : Prop := (∀ k i j, ¬ (k = 10 ∨ k = 11) → zi h' k i j = zi h k i j) ∧ ∀ k i j, k ≠ 10 → zr h' k i j = zr h k i j
theorem accIs.e {h h' : ZH} {A : List ZK} (a : accIs h A) (e4 : zi h' 10 0 4 = zi h 10 0 4) (e : ∀ j, zi h' 11 1 j = zi h 11 1 j) : accIs h' A :=
  ⟨by rw [e4]; exact a.1, a.2.1, fun k hk => ⟨by rw [e]; exact (a.2.2 k hk).1, by rw [e]; exact (a.2.2 k hk).2.1, by rw [e]; exact (a.2.2 k hk).2.2.1, by rw [e]; exact (a.2.2 k hk).2.2.2⟩⟩
theorem accIs_0 {h : ZH} (e : zi h 10 0 4 = 0) : accIs h [] := ⟨e, by decide, fun k hk => absurd hk (Nat.not_lt_zero _)⟩
theorem sp_D_read {d q gv : Nat} {h : ZH} {L : List ZL} {l : ZL} {Q : ZH → Prop} (hq6 : q < 6) (a : ltIs h q l) (rd : rdC h gv L) (hg29 : gv < 2 ^ 29) (hl : l ∈ L) (hb : ∀ l ∈ L, l.1 < gv) (pw : L.Pairwise (fun a b => a.1 < b.1)) (post : ∀ h', accIs h' (pA l.2.2.2.2) → rdC h' gv L → z10 h h' → Q h') : EvV (d + 18) m_D_read [vQ (some (10, 0)), vQ (some (7, q))] h Q := by
  have hlb := hb l hl
  refine e_D_read q hq6 ?_
  rw [a.1]
  refine ⟨fun c => ?_, fun c => ?_⟩
  · obtain ⟨g, hg⟩ : ∃ g, g = zwr (zw h 10 0 5 (nI l.1)) 10 0 2 (some (13 + q)) := ⟨_, rfl⟩
    rw [← hg]
    have gr : zr g 10 0 2 = some (13 + q) := by rw [hg, zr_zwr, if_pos ⟨rfl, rfl, rfl⟩]
    have gn : zi g 10 0 5 = nI l.1 := by rw [hg, zi_zwr, zi_zw, if_pos ⟨rfl, rfl, rfl⟩]
    have ge : ∀ k i j, ¬ (k = 10 ∨ k = 11) → zi g k i j = zi h k i j := fun k i j z => by rw [hg, zi_zwr, zi_zw, if_neg (by omega)]
    have ger : ∀ k i j, k ≠ 10 → zr g k i j = zr h k i j := fun k i j z => by rw [hg, zr_zwr, if_neg (by omega)]; rfl
    have w : rowIs g (13 + q) l.2.2.2.2 := a.2.2.2.2.2.2.2.e (fun k i j z => ge k i j (by omega))
    refine sp_D_splitLines (d := d + 16) (by omega) gr w (fun g1 r1 s1 => ?_)
    have s2 : zSa DP g1 (zw g1 10 0 4 0) := zSa.rfl.w (by unfold DP; omega)
    have e4 : zi (zw g1 10 0 4 0) 10 0 4 = 0 := by rw [zi_zw, if_pos ⟨rfl, rfl, rfl⟩]
    obtain ⟨g2, hg2⟩ : ∃ g2, g2 = zw g1 10 0 4 0 := ⟨_, rfl⟩
    rw [← hg2] at s2 e4 ⊢
    have r2 := r1.kept s2
    rw [r2.2.2.2.1]
    have fin : ∀ g3, accIs g3 (pA l.2.2.2.2) → zSa DP g2 g3 → Q g3 := by
      intro g3 ac s3
      refine post g3 ac (Or.inr ⟨l.1, l.2.2.2.2, ?_, hlb, ac, fun l' hl' e => by rw [pw_uniq pw hl' hl e]⟩) ⟨fun k i j z => ?_, fun k i j z => ?_⟩
      · rw [s3.1 10 0 5 (by unfold DP; omega), s2.1 10 0 5 (by unfold DP; omega), s1.1 10 0 5 (by unfold SLP; omega)]
        exact gn
      · rw [s3.1 k i j (by unfold DP; omega), s2.1 k i j (by unfold DP; omega), s1.1 k i j (by unfold SLP; omega)]
        exact ge k i j z
      · rw [s3.2, s2.2, s1.2]
        exact ger k i j z
    refine take_all 5 (d + 17) (13 + q) 0 (lC (stF l.2.2.2.2)) g2 l.2.2.2.2 [] _ (by omega) (by decide) r2 (accIs_0 e4) (Nat.zero_le _) (Nat.le_refl _) (fun e g3 s3 => ⟨fun z => absurd rfl z, fun _ => ?_⟩) (fun acc' e g3 ac s3 => ⟨fun _ => ?_, fun z => absurd z (by decide)⟩)
    · have e : partsOf l.2.2.2.2 = none := e
      refine fin _ ?_ (s3.w (by unfold DP; omega))
      unfold pA
      rw [e]
      exact accIs_0 (by rw [zi_zw, if_pos ⟨rfl, rfl, rfl⟩])
    · have e : partsOf l.2.2.2.2 = some acc' := e
      refine fin g3 ?_ s3
      unfold pA
      rw [e]
      exact ac
  · rcases rd with z | ⟨n, tx, e1, e2, e3, e4⟩
    · rw [z] at c
      exact absurd (show nI l.1 < 0 by rw [c]; decide) (nI_pos (by omega))
    · rw [e1, nI_eq (by omega) (by omega)] at c
      have ht := e4 l hl c
      refine post h (by rw [ht]; exact e3) (Or.inr ⟨n, tx, e1, e2, e3, e4⟩) ⟨fun _ _ _ _ => rfl, fun _ _ _ _ => rfl⟩
theorem sp_D_fact {d : Nat} {h : ZH} {A : List ZK} {k w : Int32} {Q : Int32 → ZH → Prop} (a : accIs h A) (hq : Q (prF A k w) h) : EvI d m_D_fact [vQ (some (10, 0)), vI k, vI w] h Q := by
  have h16 := a.2.1
  unfold prF at hq
  refine e_D_fact _ _ ?_
  rw [a.1]
  refine ⟨fun c => ?_, fun c => ⟨fun c2 => ?_, fun c2 => ⟨fun c3 => ?_, fun c3 => ⟨fun c4 => ?_, fun c4 => ?_⟩⟩⟩⟩
  · rw [if_pos (Or.inl c)] at hq; exact hq
  · rw [if_pos (Or.inr (Or.inl c2))] at hq; exact hq
  · rw [if_pos (Or.inr (Or.inr (Or.inl c3)))] at hq; exact hq
  · rw [if_neg (fun z => z.elim c (fun z => z.elim c2 (fun z => z.elim c3 (fun z => z c4))))] at hq
    obtain ⟨j, hj, rfl⟩ := nI_of c
    obtain ⟨v, hv, rfl⟩ := nI_of c3
    rw [nI_leI (by omega) (by omega)] at c2
    have c4' : v < 4 := by
      rw [show (4 : Int32) = nI 4 from rfl, nI_ltI (by omega) (by omega)] at c4
      exact c4
    rw [nI_clamp hj] at hq
    rw [show nI j * (4 : Int32) = nI (j * 4) from pk_mul _ 4, nI_add, nI_clamp (by omega)]
    refine ⟨vp_in_nI (show j * 4 + v < 64 by omega) (by decide), ?_⟩
    obtain ⟨f1, f2, f3, f4⟩ := a.2.2 j (by omega)
    unfold fcN at hq
    match v, c4' with
    | 0, _ =>
      rw [show j * 4 + 0 = 4 * j by omega, f1]
      rw [if_pos (by decide)] at hq
      exact hq
    | 1, _ =>
      rw [show j * 4 + 1 = 4 * j + 1 by omega, f2]
      rw [if_neg (by decide), if_pos (by decide)] at hq
      exact hq
    | 2, _ =>
      rw [show j * 4 + 2 = 4 * j + 2 by omega, f3]
      rw [if_neg (by decide), if_neg (by decide), if_pos (by decide)] at hq
      exact hq
    | 3, _ =>
      rw [show j * 4 + 3 = 4 * j + 3 by omega, f4]
      rw [if_neg (by decide), if_neg (by decide), if_neg (by decide)] at hq
      exact hq
  · rw [if_pos (Or.inr (Or.inr (Or.inr c4)))] at hq; exact hq
theorem spIs.bd {h : ZH} {up : Bool} {now given : Nat} {wr : Option Nat} {line : ZT} {gr bg tk : Bool} {snd : ZT} {rcs : List ZT} {tx : ZT} {L : List ZL} {d : Nat} {x : Int32} (a : RC h (up, now, given, wr, line, gr, bg, tk, snd, rcs, tx, L)) (rd : rdC h given L) (hb : ∀ l ∈ L, l.1 < given) (pw : L.Pairwise (fun a b => a.1 < b.1)) {R : Option Nat → ZH → Prop} (h0 : lget L x = none → R none h) (h1 : ∀ q l, q < 6 → lget L x = some l → (∀ Q : ZH → Prop, (∀ h', accIs h' (pA l.2.2.2.2) → RC h' (up, now, given, wr, line, gr, bg, tk, snd, rcs, tx, L) → rdC h' given L → z10 h h' → Q h') → EvV (d + 18) m_D_read [vQ (some (10, 0)), vQ (some (7, q))] h Q) → R (some q) h) : EvR 7 (d + 18) m_O_find [vQ (some (5, 0)), vI x] h R := by
  have a0 := a
  obtain ⟨a1, a2, a3, a4, a5, ⟨π, a6⟩, a7⟩ := a
  have hL := a6.2.1
  refine sp_O_find a6 ?_
  cases hj : lfF x 0 L with
  | none => exact h0 (by unfold lget; rw [hj]; rfl)
  | some j =>
    obtain ⟨e1, e2⟩ := lget_of hj
    refine h1 (π j) _ (a6.2.2.1 j (by omega)).2 e1 (fun Q post => sp_D_read (a6.2.2.1 j (by omega)).2 (a6.2.2.2.2 j e2) rd a4 (zgetD_mem e2) hb pw (fun h' ac rd' z => post h' ac (RC_ext a0 (fun k i j y => z.1 k i j (by omega)) (fun k i j y => z.2 k i j (by omega))) rd' z))
theorem sp_P_parts {d : Nat} {x : Int32} {h : ZH} {up : Bool} {now given : Nat} {wr : Option Nat} {line : ZT} {gr bg tk : Bool} {snd : ZT} {rcs : List ZT} {tx : ZT} {L : List ZL} {Q : Int32 → ZH → Prop} (a : RC h (up, now, given, wr, line, gr, bg, tk, snd, rcs, tx, L)) (rd : rdC h given L) (hb : ∀ l ∈ L, l.1 < given) (pw : L.Pairwise (fun a b => a.1 < b.1)) (hq : ∀ h', RC h' (up, now, given, wr, line, gr, bg, tk, snd, rcs, tx, L) → rdC h' given L → z10 h h' → Q (oParts L x) h') : EvI (d + 19) m_P_parts [vQ (some (0, 0)), vI x] h Q := by
  unfold oParts at hq
  refine e_P_parts _ (spIs.bd (d := d) a rd hb pw (fun e => ⟨fun _ => ?_, fun n e2 => (by cases e2)⟩) (fun q l hq6 e K => ⟨fun e2 => (by cases e2), fun n e2 hn => ?_⟩))
  · rw [e] at hq
    exact hq h a rd ⟨fun _ _ _ _ => rfl, fun _ _ _ _ => rfl⟩
  · cases e2
    rw [e] at hq
    refine K _ (fun h' ac r' rd' z => ?_)
    rw [ac.1]
    exact hq h' r' rd' z
theorem sp_P_part {d : Nat} {x k w : Int32} {h : ZH} {up : Bool} {now given : Nat} {wr : Option Nat} {line : ZT} {gr bg tk : Bool} {snd : ZT} {rcs : List ZT} {tx : ZT} {L : List ZL} {Q : Int32 → ZH → Prop} (a : RC h (up, now, given, wr, line, gr, bg, tk, snd, rcs, tx, L)) (rd : rdC h given L) (hb : ∀ l ∈ L, l.1 < given) (pw : L.Pairwise (fun a b => a.1 < b.1)) (hq : ∀ h', RC h' (up, now, given, wr, line, gr, bg, tk, snd, rcs, tx, L) → rdC h' given L → z10 h h' → Q (oPart L x k w) h') : EvI (d + 19) m_P_part [vQ (some (0, 0)), vI x, vI k, vI w] h Q := by
  unfold oPart at hq
  refine e_P_part _ _ _ (spIs.bd (d := d) a rd hb pw (fun e => ⟨fun _ => ?_, fun n e2 => (by cases e2)⟩) (fun q l hq6 e K => ⟨fun e2 => (by cases e2), fun n e2 hn => ?_⟩))
  · rw [e] at hq
    exact hq h a rd ⟨fun _ _ _ _ => rfl, fun _ _ _ _ => rfl⟩
  · cases e2
    rw [e] at hq
    exact K _ (fun h' ac r' rd' z => sp_D_fact ac (hq h' r' rd' z))
