/-! WHAT IS MADE IS THE SMALL MACHINE -/
theorem arr_prim {s : State} {args : Array Value} {ty : FieldType} (hp : ty = .int ∨ ty = .char ∨ ty = .boolean) (h : (Cond.arrayClass ty).before args s = true) : ∃ cA, ArrOfT s cA ty ∧ va_RA s cA ty := by
  obtain ⟨cA, kA, comp, h1, h2, h3⟩ := Cond.arrayClass_spec h
  refine ⟨cA, fun N z => ⟨(fun k h => by cases h), kA, h2, comp, h3⟩, ?_⟩
  rcases hp with rfl | rfl | rfl <;> exact h1
theorem arr_obj {s : State} {C : String} (h : va_AO C s) : ∃ cA, ArrOfT s cA (.object C) ∧ va_RA s cA (.object C) := by
  obtain ⟨comp, cA, kA, h1, h2, h3, h4, h5⟩ := Cond.arrayOver_spec h
  exact ⟨cA, fun N z => ⟨(fun k h => by cases h), kA, h3, comp, h4⟩, kA, comp, h3, h4, h1, h5⟩
def hI : Nat → Nat → Nat → Int32
  | 5, _, 3 => -1
  | 10, _, 5 => -1
  | 12, _, 0 => 1
  | 12, _, 3 => -1
  | 13, 1, j => upd (upd (upd (upd (upd (upd (fun _ => 0) 0 (-1)) 1 (-1)) 2 (-1)) 3 (-1)) 4 (-1)) 5 (-1) j
  | _, _, _ => 0
def hRf : Nat → Nat → Nat → Option Nat
  | 6, _, j => if j < 6 then some j else none
  | _, _, _ => none
/-- the start -/
def h00 : ZH := (hI, hRf)
def gAd (b1 x0 x1 sA : Nat) (fs : Nat → Nat) (o oq : Nat) (oa : Nat → Nat) (of : Nat → Nat → Nat) (pp pq pr b2 : Nat) (fm : Nat → Nat) (cs : Nat → Nat → Nat) : Nat → Nat → Nat
  | 0, _ => b1
  | 1, r => if r = 0 then x0 else if r = 1 then fs 0 else if r < 6 then fs (3 + 2 * (r - 2)) else if r = 6 then fs 11 else if r < 13 then of (r - 7) 0 else if r < 19 then of (r - 13) 15 else of ((r - 19) / 4) (4 + 3 * ((r - 19) % 4))
  | 2, r => if r = 0 then x1 else if r = 1 then fs 1 else if r < 6 then fs (4 + 2 * (r - 2)) else if r = 6 then fs 12 else if r < 13 then of (r - 7) 1 else if r < 19 then of (r - 13) 16 else of ((r - 19) / 4) (5 + 3 * ((r - 19) % 4))
  | 3, _ => sA
  | 4, _ => fs 2
  | 5, _ => o
  | 6, _ => oq
  | 7, q => oa q
  | 8, q => of q 2
  | 9, t => of (t / 4) (3 + 3 * (t % 4))
  | 10, _ => pp
  | 11, j => if j = 0 then pq else pr
  | 12, _ => b2
  | 13, j => fm ([0, 1, 3, 4, 5, 6, 7, 8, 9, 10, 11, 12, 13, 15, 16, 17].getD j 0)
  | 14, j => fm ([2, 14].getD j 0)
  | k, i => cs k i
def gPos : Nat → Nat → Nat
  | 0, _ => 0
  | 1, r => if r = 0 then 1 else if r = 1 then 4 else if r < 6 then 7 + 2 * (r - 2) else if r = 6 then 15 else if r < 13 then 20 + 18 * (r - 7) else if r < 19 then 35 + 18 * (r - 13) else 24 + 18 * ((r - 19) / 4) + 3 * ((r - 19) % 4)
  | 2, r => if r = 0 then 2 else if r = 1 then 5 else if r < 6 then 8 + 2 * (r - 2) else if r = 6 then 16 else if r < 13 then 21 + 18 * (r - 7) else if r < 19 then 36 + 18 * (r - 13) else 25 + 18 * ((r - 19) / 4) + 3 * ((r - 19) % 4)
  | 3, _ => 3
  | 4, _ => 6
  | 5, _ => 17
  | 6, _ => 18
  | 7, q => 19 + 18 * q
  | 8, q => 22 + 18 * q
  | 9, t => 23 + 18 * (t / 4) + 3 * (t % 4)
  | 10, _ => 127
  | 11, j => 128 + j
  | 12, _ => 130
  | 13, j => 131 + [0, 1, 3, 4, 5, 6, 7, 8, 9, 10, 11, 12, 13, 15, 16, 17].getD j 0
  | 14, j => 131 + [2, 14].getD j 0
  | _, _ => 0
theorem gPos_inj : ∀ a, a < 149 → ∀ b, b < 149 → gPos (zall.getD a (0, 0)).1 (zall.getD a (0, 0)).2 = gPos (zall.getD b (0, 0)).1 (zall.getD b (0, 0)).2 → a = b := by decide +kernel
theorem zall_len : zall.length = 149 := by decide +kernel
theorem arrV_congr {cI : ClassId} {N : Nat} {f g : Nat → Value} (h : ∀ j, j < N → f j = g j) : arrV cI N f = arrV cI N g := by
  unfold arrV
  congr 2
  funext j
  exact h j.val j.isLt
/-- one cell: where it lies in the world, and that it is as the small machine has it -/
def okC (D : va_G) (G : ZG) (ws : va_W) (k i : Nat) : Prop := ∃ e, ws[gPos k i]? = some (G.1 k i, e) ∧ ∀ H, va_at D vwCl (G.1 k i, e) H → va_at D vwCl (G.1 k i, zE G h00 k i) H
theorem okC_r {D : va_G} {G : ZG} {ws : va_W} {k i : Nat} (h : ws[gPos k i]? = some (G.1 k i, zE G h00 k i)) : okC D G ws k i := ⟨_, h, fun _ z => z⟩
theorem okC_a {D : va_G} {G : ZG} {ws : va_W} {k i N : Nat} {cA : ClassId} {f g : Nat → Option Nat} (h : ws[gPos k i]? = some (G.1 k i, .inl (cA, N, .inr (.inr (.inr (.inr f)))))) (e : zE G h00 k i = .inl (cA, N, .inr (.inr (.inr (.inr g))))) (hfg : ∀ j, j < N → f j = g j) : okC D G ws k i := by
  refine ⟨_, h, fun H z => ?_⟩
  rw [e]
  have z : H[G.1 k i]? = some (vp_cell cA (N, .inr (.inr (.inr (.inr f))))) := z
  show H[G.1 k i]? = some (vp_cell cA (N, .inr (.inr (.inr (.inr g)))))
  rw [z, vp_cell_q, vp_cell_q, arrV_congr (f := fun j => va_rf (f j)) (g := fun j => va_rf (g j)) (fun j hj => by show va_rf (f j) = va_rf (g j); rw [hfg j hj])]
theorem rep_of {D : va_G} {G : ZG} {ws : va_W} {H : Heap} {A : Nat → Prop} (hD1 : G.2.1 = D) (hA : ∀ q, A q → G.2.2.2 ≤ q) (ok : ∀ c ∈ zall, okC D G ws c.1 c.2) (hP : va_P D vwCl ws H) (hD : va_D A ws) : zRep G h00 H ∧ zOK G := by
  refine ⟨fun k q hq => ?_, fun a b c c' ha hb e => ?_, fun c hc => ?_⟩
  · unfold zws at hq
    rw [List.getElem?_map] at hq
    cases hc : zall[k]? with
    | none => rw [hc] at hq; cases hq
    | some c =>
      rw [hc] at hq
      cases hq
      obtain ⟨e, h1, h2⟩ := ok c (List.mem_of_getElem? hc)
      rw [hD1]
      exact h2 H (hP _ _ h1)
  · obtain ⟨e1, h1, -⟩ := ok c (List.mem_of_getElem? ha)
    obtain ⟨e2, h2, -⟩ := ok c' (List.mem_of_getElem? hb)
    have hp := hD.1 _ _ _ _ h1 h2 e
    have la := (List.getElem?_eq_some_iff.mp ha).1
    have lb := (List.getElem?_eq_some_iff.mp hb).1
    rw [zall_len] at la lb
    refine gPos_inj a la b lb ?_
    rw [List.getD_eq_getElem?_getD, ha, List.getD_eq_getElem?_getD, hb]
    exact hp
  · obtain ⟨e, h1, -⟩ := ok c hc
    exact hA _ (hD.2 _ _ h1)
section MADE
variable {D : va_G} {K : Nat → ClassId} {sz b1 x0 x1 sA : Nat} {fs : Nat → Nat} {o oq : Nat} {oa : Nat → Nat} {of : Nat → Nat → Nat} {pp pq pr b2 : Nat} {fm : Nat → Nat} {cs : Nat → Nat → Nat}
theorem ok_0 : ∀ i, i < 1 → okC D (gAd b1 x0 x1 sA fs o oq oa of pp pq pr b2 fm cs, D, K, sz) (posW K b1 x0 x1 sA fs o oq oa of pp pq pr ++ modW K b2 fm) 0 i := by
  intro i hi
  match i, hi with
  | 0, _ => exact okC_r rfl
  | i + 1, hi => omega
theorem ok_1 : ∀ i, i < 43 → okC D (gAd b1 x0 x1 sA fs o oq oa of pp pq pr b2 fm cs, D, K, sz) (posW K b1 x0 x1 sA fs o oq oa of pp pq pr ++ modW K b2 fm) 1 i := by
  intro i hi
  match i, hi with
  | 0, _ => exact okC_r rfl
  | 1, _ => exact okC_r rfl
  | 2, _ => exact okC_r rfl
  | 3, _ => exact okC_r rfl
  | 4, _ => exact okC_r rfl
  | 5, _ => exact okC_r rfl
  | 6, _ => exact okC_r rfl
  | 7, _ => exact okC_r rfl
  | 8, _ => exact okC_r rfl
  | 9, _ => exact okC_r rfl
  | 10, _ => exact okC_r rfl
  | 11, _ => exact okC_r rfl
  | 12, _ => exact okC_r rfl
  | 13, _ => exact okC_r rfl
  | 14, _ => exact okC_r rfl
  | 15, _ => exact okC_r rfl
  | 16, _ => exact okC_r rfl
  | 17, _ => exact okC_r rfl
  | 18, _ => exact okC_r rfl
  | 19, _ => exact okC_r rfl
  | 20, _ => exact okC_r rfl
  | 21, _ => exact okC_r rfl
  | 22, _ => exact okC_r rfl
  | 23, _ => exact okC_r rfl
  | 24, _ => exact okC_r rfl
  | 25, _ => exact okC_r rfl
  | 26, _ => exact okC_r rfl
  | 27, _ => exact okC_r rfl
  | 28, _ => exact okC_r rfl
  | 29, _ => exact okC_r rfl
  | 30, _ => exact okC_r rfl
  | 31, _ => exact okC_r rfl
  | 32, _ => exact okC_r rfl
  | 33, _ => exact okC_r rfl
  | 34, _ => exact okC_r rfl
  | 35, _ => exact okC_r rfl
  | 36, _ => exact okC_r rfl
  | 37, _ => exact okC_r rfl
  | 38, _ => exact okC_r rfl
  | 39, _ => exact okC_r rfl
  | 40, _ => exact okC_r rfl
  | 41, _ => exact okC_r rfl
  | 42, _ => exact okC_r rfl
  | i + 43, hi => omega
theorem ok_2 : ∀ i, i < 43 → okC D (gAd b1 x0 x1 sA fs o oq oa of pp pq pr b2 fm cs, D, K, sz) (posW K b1 x0 x1 sA fs o oq oa of pp pq pr ++ modW K b2 fm) 2 i := by
  intro i hi
  match i, hi with
  | 0, _ => exact okC_r rfl
  | 1, _ => exact okC_r rfl
  | 2, _ => exact okC_r rfl
  | 3, _ => exact okC_r rfl
  | 4, _ => exact okC_r rfl
  | 5, _ => exact okC_r rfl
  | 6, _ => exact okC_r rfl
  | 7, _ => exact okC_r rfl
  | 8, _ => exact okC_r rfl
  | 9, _ => exact okC_r rfl
  | 10, _ => exact okC_r rfl
  | 11, _ => exact okC_r rfl
  | 12, _ => exact okC_r rfl
  | 13, _ => exact okC_r rfl
  | 14, _ => exact okC_r rfl
  | 15, _ => exact okC_r rfl
  | 16, _ => exact okC_r rfl
  | 17, _ => exact okC_r rfl
  | 18, _ => exact okC_r rfl
  | 19, _ => exact okC_r rfl
  | 20, _ => exact okC_r rfl
  | 21, _ => exact okC_r rfl
  | 22, _ => exact okC_r rfl
  | 23, _ => exact okC_r rfl
  | 24, _ => exact okC_r rfl
  | 25, _ => exact okC_r rfl
  | 26, _ => exact okC_r rfl
  | 27, _ => exact okC_r rfl
  | 28, _ => exact okC_r rfl
  | 29, _ => exact okC_r rfl
  | 30, _ => exact okC_r rfl
  | 31, _ => exact okC_r rfl
  | 32, _ => exact okC_r rfl
  | 33, _ => exact okC_r rfl
  | 34, _ => exact okC_r rfl
  | 35, _ => exact okC_r rfl
  | 36, _ => exact okC_r rfl
  | 37, _ => exact okC_r rfl
  | 38, _ => exact okC_r rfl
  | 39, _ => exact okC_r rfl
  | 40, _ => exact okC_r rfl
  | 41, _ => exact okC_r rfl
  | 42, _ => exact okC_r rfl
  | i + 43, hi => omega
theorem ok_3 : ∀ i, i < 1 → okC D (gAd b1 x0 x1 sA fs o oq oa of pp pq pr b2 fm cs, D, K, sz) (posW K b1 x0 x1 sA fs o oq oa of pp pq pr ++ modW K b2 fm) 3 i := by
  intro i hi
  match i, hi with
  | 0, _ => exact okC_r rfl
  | i + 1, hi => omega
theorem ok_4 : ∀ i, i < 1 → okC D (gAd b1 x0 x1 sA fs o oq oa of pp pq pr b2 fm cs, D, K, sz) (posW K b1 x0 x1 sA fs o oq oa of pp pq pr ++ modW K b2 fm) 4 i := by
  intro i hi
  match i, hi with
  | 0, _ => exact okC_a rfl rfl (fun j hj => by match j, hj with | 0, _ => rfl | 1, _ => rfl | 2, _ => rfl | 3, _ => rfl | j + 4, hj => omega)
  | i + 1, hi => omega
theorem ok_5 : ∀ i, i < 1 → okC D (gAd b1 x0 x1 sA fs o oq oa of pp pq pr b2 fm cs, D, K, sz) (posW K b1 x0 x1 sA fs o oq oa of pp pq pr ++ modW K b2 fm) 5 i := by
  intro i hi
  match i, hi with
  | 0, _ => exact okC_r rfl
  | i + 1, hi => omega
theorem ok_6 : ∀ i, i < 1 → okC D (gAd b1 x0 x1 sA fs o oq oa of pp pq pr b2 fm cs, D, K, sz) (posW K b1 x0 x1 sA fs o oq oa of pp pq pr ++ modW K b2 fm) 6 i := by
  intro i hi
  match i, hi with
  | 0, _ => exact okC_a rfl rfl (fun j hj => by match j, hj with | 0, _ => rfl | 1, _ => rfl | 2, _ => rfl | 3, _ => rfl | 4, _ => rfl | 5, _ => rfl | j + 6, hj => omega)
  | i + 1, hi => omega
theorem ok_7 : ∀ i, i < 6 → okC D (gAd b1 x0 x1 sA fs o oq oa of pp pq pr b2 fm cs, D, K, sz) (posW K b1 x0 x1 sA fs o oq oa of pp pq pr ++ modW K b2 fm) 7 i := by
  intro i hi
  match i, hi with
  | 0, _ => exact okC_r rfl
  | 1, _ => exact okC_r rfl
  | 2, _ => exact okC_r rfl
  | 3, _ => exact okC_r rfl
  | 4, _ => exact okC_r rfl
  | 5, _ => exact okC_r rfl
  | i + 6, hi => omega
theorem ok_8 : ∀ i, i < 6 → okC D (gAd b1 x0 x1 sA fs o oq oa of pp pq pr b2 fm cs, D, K, sz) (posW K b1 x0 x1 sA fs o oq oa of pp pq pr ++ modW K b2 fm) 8 i := by
  intro i hi
  match i, hi with
  | 0, _ => exact okC_a rfl rfl (fun j hj => by match j, hj with | 0, _ => rfl | 1, _ => rfl | 2, _ => rfl | 3, _ => rfl | j + 4, hj => omega)
  | 1, _ => exact okC_a rfl rfl (fun j hj => by match j, hj with | 0, _ => rfl | 1, _ => rfl | 2, _ => rfl | 3, _ => rfl | j + 4, hj => omega)
  | 2, _ => exact okC_a rfl rfl (fun j hj => by match j, hj with | 0, _ => rfl | 1, _ => rfl | 2, _ => rfl | 3, _ => rfl | j + 4, hj => omega)
  | 3, _ => exact okC_a rfl rfl (fun j hj => by match j, hj with | 0, _ => rfl | 1, _ => rfl | 2, _ => rfl | 3, _ => rfl | j + 4, hj => omega)
  | 4, _ => exact okC_a rfl rfl (fun j hj => by match j, hj with | 0, _ => rfl | 1, _ => rfl | 2, _ => rfl | 3, _ => rfl | j + 4, hj => omega)
  | 5, _ => exact okC_a rfl rfl (fun j hj => by match j, hj with | 0, _ => rfl | 1, _ => rfl | 2, _ => rfl | 3, _ => rfl | j + 4, hj => omega)
  | i + 6, hi => omega
theorem ok_9 : ∀ i, i < 24 → okC D (gAd b1 x0 x1 sA fs o oq oa of pp pq pr b2 fm cs, D, K, sz) (posW K b1 x0 x1 sA fs o oq oa of pp pq pr ++ modW K b2 fm) 9 i := by
  intro i hi
  match i, hi with
  | 0, _ => exact okC_r rfl
  | 1, _ => exact okC_r rfl
  | 2, _ => exact okC_r rfl
  | 3, _ => exact okC_r rfl
  | 4, _ => exact okC_r rfl
  | 5, _ => exact okC_r rfl
  | 6, _ => exact okC_r rfl
  | 7, _ => exact okC_r rfl
  | 8, _ => exact okC_r rfl
  | 9, _ => exact okC_r rfl
  | 10, _ => exact okC_r rfl
  | 11, _ => exact okC_r rfl
  | 12, _ => exact okC_r rfl
  | 13, _ => exact okC_r rfl
  | 14, _ => exact okC_r rfl
  | 15, _ => exact okC_r rfl
  | 16, _ => exact okC_r rfl
  | 17, _ => exact okC_r rfl
  | 18, _ => exact okC_r rfl
  | 19, _ => exact okC_r rfl
  | 20, _ => exact okC_r rfl
  | 21, _ => exact okC_r rfl
  | 22, _ => exact okC_r rfl
  | 23, _ => exact okC_r rfl
  | i + 24, hi => omega
theorem ok_10 : ∀ i, i < 1 → okC D (gAd b1 x0 x1 sA fs o oq oa of pp pq pr b2 fm cs, D, K, sz) (posW K b1 x0 x1 sA fs o oq oa of pp pq pr ++ modW K b2 fm) 10 i := by
  intro i hi
  match i, hi with
  | 0, _ => exact okC_r rfl
  | i + 1, hi => omega
theorem ok_11 : ∀ i, i < 2 → okC D (gAd b1 x0 x1 sA fs o oq oa of pp pq pr b2 fm cs, D, K, sz) (posW K b1 x0 x1 sA fs o oq oa of pp pq pr ++ modW K b2 fm) 11 i := by
  intro i hi
  match i, hi with
  | 0, _ => exact okC_r rfl
  | 1, _ => exact okC_r rfl
  | i + 2, hi => omega
theorem ok_12 : ∀ i, i < 1 → okC D (gAd b1 x0 x1 sA fs o oq oa of pp pq pr b2 fm cs, D, K, sz) (posW K b1 x0 x1 sA fs o oq oa of pp pq pr ++ modW K b2 fm) 12 i := by
  intro i hi
  match i, hi with
  | 0, _ => exact okC_r rfl
  | i + 1, hi => omega
theorem ok_13 : ∀ i, i < 16 → okC D (gAd b1 x0 x1 sA fs o oq oa of pp pq pr b2 fm cs, D, K, sz) (posW K b1 x0 x1 sA fs o oq oa of pp pq pr ++ modW K b2 fm) 13 i := by
  intro i hi
  match i, hi with
  | 0, _ => exact okC_r rfl
  | 1, _ => exact okC_r rfl
  | 2, _ => exact okC_r rfl
  | 3, _ => exact okC_r rfl
  | 4, _ => exact okC_r rfl
  | 5, _ => exact okC_r rfl
  | 6, _ => exact okC_r rfl
  | 7, _ => exact okC_r rfl
  | 8, _ => exact okC_r rfl
  | 9, _ => exact okC_r rfl
  | 10, _ => exact okC_r rfl
  | 11, _ => exact okC_r rfl
  | 12, _ => exact okC_r rfl
  | 13, _ => exact okC_r rfl
  | 14, _ => exact okC_r rfl
  | 15, _ => exact okC_r rfl
  | i + 16, hi => omega
theorem ok_14 : ∀ i, i < 2 → okC D (gAd b1 x0 x1 sA fs o oq oa of pp pq pr b2 fm cs, D, K, sz) (posW K b1 x0 x1 sA fs o oq oa of pp pq pr ++ modW K b2 fm) 14 i := by
  intro i hi
  match i, hi with
  | 0, _ => exact okC_r rfl
  | 1, _ => exact okC_r rfl
  | i + 2, hi => omega
theorem ok_all : ∀ c ∈ zall, okC D (gAd b1 x0 x1 sA fs o oq oa of pp pq pr b2 fm cs, D, K, sz) (posW K b1 x0 x1 sA fs o oq oa of pp pq pr ++ modW K b2 fm) c.1 c.2 := by
  intro c hc
  unfold zall at hc
  obtain ⟨k, hk, hc⟩ := List.mem_flatMap.mp hc
  obtain ⟨i, hi, rfl⟩ := List.mem_map.mp hc
  have hk := List.mem_range.mp hk
  have hi := List.mem_range.mp hi
  have hk : k < 15 := hk
  match k, hk, hi with
  | 0, _, hi => exact ok_0 i hi
  | 1, _, hi => exact ok_1 i hi
  | 2, _, hi => exact ok_2 i hi
  | 3, _, hi => exact ok_3 i hi
  | 4, _, hi => exact ok_4 i hi
  | 5, _, hi => exact ok_5 i hi
  | 6, _, hi => exact ok_6 i hi
  | 7, _, hi => exact ok_7 i hi
  | 8, _, hi => exact ok_8 i hi
  | 9, _, hi => exact ok_9 i hi
  | 10, _, hi => exact ok_10 i hi
  | 11, _, hi => exact ok_11 i hi
  | 12, _, hi => exact ok_12 i hi
  | 13, _, hi => exact ok_13 i hi
  | 14, _, hi => exact ok_14 i hi
  | k + 15, hk, _ => omega
end MADE
