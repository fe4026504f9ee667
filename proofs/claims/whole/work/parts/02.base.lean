/-! THE SMALL MACHINE: values, heaps, cells by kind; frames of it (EvAt) and calls of it (EvCall), said over the kit's W and Met. -/
abbrev ZV : Type := Int32 ⊕ (Int64 ⊕ Option (Nat × Nat))
abbrev vI (x : Int32) : ZV := .inl x
abbrev vL (x : Int64) : ZV := .inr (.inl x)
abbrev vQ (o : Option (Nat × Nat)) : ZV := .inr (.inr o)
abbrev ZH : Type := (Nat → Nat → Nat → Int32) × (Nat → Nat → Nat → Option Nat)
/-- addresses by kind and place; class numbers and slots; array classes; the first address that is ours -/
abbrev ZG : Type := (Nat → Nat → Nat) × va_G × (Nat → ClassId) × Nat
/-- a method: name, code, locals, what it returns -/
abbrev ZM : Type := MethodName × ByteArray × Nat × Option FieldType
def zv (G : ZG) : ZV → Value
  | .inl x => .int x
  | .inr (.inl x) => .long x
  | .inr (.inr none) => .null
  | .inr (.inr (some q)) => .ref (G.1 q.1 q.2)
def zi (h : ZH) (k i j : Nat) : Int32 := h.1 k i j
def zr (h : ZH) (k i j : Nat) : Option Nat := h.2 k i j
def zw (h : ZH) (k i j : Nat) (x : Int32) : ZH := (fun a b c => if a = k ∧ b = i ∧ c = j then x else h.1 a b c, h.2)
def zwr (h : ZH) (k i j : Nat) (x : Option Nat) : ZH := (h.1, fun a b c => if a = k ∧ b = i ∧ c = j then x else h.2 a b c)
def zcp (h : ZH) (k i i2 sp dp n : Nat) : ZH := (fun a b c => if a = k ∧ b = i2 ∧ dp ≤ c ∧ c < dp + n then h.1 k i (sp + (c - dp)) else h.1 a b c, h.2)
theorem zi_zw (h : ZH) (k i j : Nat) (x : Int32) (a b c : Nat) : zi (zw h k i j x) a b c = if a = k ∧ b = i ∧ c = j then x else zi h a b c := rfl
theorem zr_zw (h : ZH) (k i j : Nat) (x : Int32) (a b c : Nat) : zr (zw h k i j x) a b c = zr h a b c := rfl
theorem zr_zwr (h : ZH) (k i j : Nat) (x : Option Nat) (a b c : Nat) : zr (zwr h k i j x) a b c = if a = k ∧ b = i ∧ c = j then x else zr h a b c := rfl
theorem zi_zwr (h : ZH) (k i j : Nat) (x : Option Nat) (a b c : Nat) : zi (zwr h k i j x) a b c = zi h a b c := rfl
theorem zi_zcp (h : ZH) (k i i2 sp dp n a b c : Nat) : zi (zcp h k i i2 sp dp n) a b c = if a = k ∧ b = i2 ∧ dp ≤ c ∧ c < dp + n then zi h k i (sp + (c - dp)) else zi h a b c := rfl
theorem zr_zcp (h : ZH) (k i i2 sp dp n a b c : Nat) : zr (zcp h k i i2 sp dp n) a b c = zr h a b c := rfl
def zkinds : Nat := 15
def zcnt : Nat → Nat
  | 0 => 1
  | 1 => 43
  | 2 => 43
  | 3 => 1
  | 4 => 1
  | 5 => 1
  | 6 => 1
  | 7 => 6
  | 8 => 6
  | 9 => 24
  | 10 => 1
  | 11 => 2
  | 12 => 1
  | 13 => 16
  | 14 => 2
  | 20 => 8
  | _ => 0
def zobj : Nat → Option (Nat × Nat)
  | 0 => some (0, 5)
  | 1 => some (1, 2)
  | 3 => some (2, 8)
  | 5 => some (3, 5)
  | 7 => some (4, 6)
  | 9 => some (5, 4)
  | 10 => some (6, 6)
  | 12 => some (7, 31)
  | _ => none
def zarr : Nat → Nat
  | 2 => 1
  | 4 => 3
  | 6 => 4
  | 8 => 5
  | 11 => 0
  | 13 => 0
  | 14 => 2
  | _ => 0
def zarrT : List FieldType := [.int, .char, .boolean, .object "SpooledPost$Row", .object "SpooledPost$Letter", .object "SpooledPost$Recipient"]
def zra : Nat → Nat
  | 4 => 1
  | 6 => 2
  | 8 => 1
  | _ => 0
def zcap (r : Nat) : Nat := if r = 0 then 72 else if r = 6 then 600 else if 13 ≤ r ∧ r < 19 then 600 else 40
def zLen : Nat → Nat → Nat
  | 2, r => zcap r
  | 4, _ => 4
  | 6, _ => 6
  | 8, _ => 4
  | 11, 0 => 601
  | 11, _ => 64
  | 13, 0 => 72
  | 13, 1 => 6
  | 13, 2 => 4816
  | 13, 3 => 8
  | 13, 4 => 1600
  | 13, 5 => 40
  | 13, 6 => 8
  | 13, 7 => 24
  | 13, 8 => 24
  | 13, 9 => 604
  | 13, 10 => 17
  | 13, 11 => 17
  | 13, 12 => 17
  | 13, 13 => 700
  | 13, 14 => 700
  | 13, _ => 700
  | 14, 0 => 6
  | 14, _ => 17
  | _, _ => 0
/-- a field: 0 a number, 1 a reference that never changes, 2 one that may -/
def zft : Nat → Nat → Nat
  | 0, 0 => 1
  | 0, 1 => 1
  | 0, 2 => 1
  | 0, 3 => 1
  | 1, 0 => 1
  | 3, 0 => 1
  | 3, 1 => 1
  | 3, 2 => 1
  | 5, 0 => 1
  | 7, 0 => 1
  | 7, 1 => 1
  | 7, 2 => 1
  | 9, 0 => 1
  | 10, 0 => 1
  | 10, 1 => 1
  | 10, 2 => 2
  | 12, 4 => 1
  | 12, 9 => 1
  | 12, 10 => 1
  | 12, 11 => 1
  | 12, 12 => 1
  | 12, 13 => 1
  | 12, 14 => 1
  | 12, 15 => 1
  | 12, 16 => 1
  | 12, 17 => 1
  | 12, 19 => 1
  | 12, 21 => 1
  | 12, 22 => 1
  | 12, 23 => 1
  | 12, 24 => 1
  | 12, 26 => 1
  | 12, 27 => 1
  | 12, 28 => 1
  | _, _ => 0
def zrf : Nat → Nat → Nat → Nat × Nat
  | 0, _, 0 => (1, 0)
  | 0, _, 1 => (3, 0)
  | 0, _, 2 => (5, 0)
  | 0, _, 3 => (10, 0)
  | 1, i, 0 => (2, i)
  | 3, _, 0 => (1, 1)
  | 3, _, 1 => (4, 0)
  | 3, _, 2 => (1, 6)
  | 5, _, 0 => (6, 0)
  | 7, i, 0 => (1, 7 + i)
  | 7, i, 1 => (8, i)
  | 7, i, 2 => (1, 13 + i)
  | 9, i, 0 => (1, 19 + i)
  | 10, _, 0 => (11, 0)
  | 10, _, 1 => (11, 1)
  | 12, _, 4 => (13, 0)
  | 12, _, 9 => (13, 1)
  | 12, _, 10 => (14, 0)
  | 12, _, 11 => (13, 2)
  | 12, _, 12 => (13, 3)
  | 12, _, 13 => (13, 4)
  | 12, _, 14 => (13, 5)
  | 12, _, 15 => (13, 6)
  | 12, _, 16 => (13, 7)
  | 12, _, 17 => (13, 8)
  | 12, _, 19 => (13, 9)
  | 12, _, 21 => (13, 10)
  | 12, _, 22 => (13, 11)
  | 12, _, 23 => (13, 12)
  | 12, _, 24 => (14, 1)
  | 12, _, 26 => (13, 13)
  | 12, _, 27 => (13, 14)
  | 12, _, 28 => (13, 15)
  | 4, _, j => (1, 2 + j)
  | 8, i, j => (9, 4 * i + j)
  | _, _, _ => (0, 0)
def ztk : Nat → Nat → Nat
  | 6, _ => 7
  | 10, _ => 1
  | _, _ => 0
def zfld (G : ZG) (h : ZH) (k i j : Nat) : Value := match zft k j with
  | 0 => .int (h.1 k i j)
  | 1 => .ref (G.1 (zrf k i j).1 (zrf k i j).2)
  | _ => va_rf ((h.2 k i j).map (G.1 (ztk k j)))
def zav (G : ZG) (h : ZH) (k i j : Nat) : Option Nat := match zra k with
  | 1 => some (G.1 (zrf k i j).1 (zrf k i j).2)
  | _ => (h.2 k i j).map (G.1 (ztk k 0))
def zE (G : ZG) (h : ZH) (k i : Nat) : va_E := match zobj k with
  | some (ci, N) => .inr (ci, (List.range N).map (zfld G h k i))
  | none => .inl (G.2.2.1 (zarr k), zLen k i, match zra k with | 0 => .inl (fun j => h.1 k i j) | _ => .inr (.inr (.inr (.inr (zav G h k i)))))
def zall : List (Nat × Nat) := (List.range zkinds).flatMap (fun k => (List.range (zcnt k)).map (fun i => (k, i)))
def zws (G : ZG) (h : ZH) : va_W := zall.map (fun c => (G.1 c.1 c.2, zE G h c.1 c.2))
def zA (G : ZG) : Nat → Prop := fun q => G.2.2.2 ≤ q
def zRep (G : ZG) (h : ZH) (H : Heap) : Prop := va_P G.2.1 vwCl (zws G h) H
def zOK (G : ZG) : Prop := (∀ (a b : Nat) (c c' : Nat × Nat), zall[a]? = some c → zall[b]? = some c' → G.1 c.1 c.2 = G.1 c'.1 c'.2 → a = b) ∧ ∀ c ∈ zall, G.2.2.2 ≤ G.1 c.1 c.2
def ztys (G : ZG) : List (ClassId × FieldType) := zarrT.zipIdx.map (fun q => (G.2.2.1 q.2, q.1))
/-! the constants: the enum, its table, the texts -/
def zSL : List Nat := [4, 4, 4, 4, 4, 4, 4, 4, 7, 5, 10, 13, 10, 9]
def zSB : List (List Int32) := [[104, 101, 108, 111], [101, 104, 108, 111], [109, 97, 105, 108], [114, 99, 112, 116], [100, 97, 116, 97], [114, 115, 101, 116], [110, 111, 111, 112], [113, 117, 105, 116], [32, 102, 114, 111, 109, 58, 60], [32, 116, 111, 58, 60], [82, 101, 116, 117, 114, 110, 101, 100, 58, 32], [99, 111, 110, 116, 101, 110, 116, 45, 116, 121, 112, 101, 58], [109, 117, 108, 116, 105, 112, 97, 114, 116, 47], [98, 111, 117, 110, 100, 97, 114, 121, 61]]
def zSw : List Int32 := [1, 2, 3, 4, 5, 6, 0, 7]
def zFmt (G : ZG) (U : State) (H : Heap) : Prop := va_Z "jdk/internal/util/Preconditions" "SIOOBE_FORMATTER" "Ljava/util/function/BiFunction;" .null (zA G) U H ∨ va_Z "jdk/internal/util/Preconditions" "SIOOBE_FORMATTER" "Ljava/util/function/BiFunction;" (.ref (G.1 25 0)) (zA G) U H
def zConst (G : ZG) (U : State) (H : Heap) : Prop :=
  va_Z "SpooledPost" "COMMANDS" "[LSpooledPost$Command;" (.ref (G.1 21 0)) (zA G) U H ∧
  va_T (.object "SpooledPost$Command") (G.1 21 0) 8 (fun j => .ref (G.1 20 j)) (zA G) U H ∧
  va_Z "SpooledPost$1" "$SwitchMap$SpooledPost$Command" "[I" (.ref (G.1 23 0)) (zA G) U H ∧
  va_T .int (G.1 23 0) 8 (fun j => .int (zSw.getD j 0)) (zA G) U H ∧
  va_Z "java/lang/String" "COMPACT_STRINGS" "Z" (.int 1) (zA G) U H ∧
  vk_S 14 zSL zSB (G.1 22) (G.1 24) (zA G) U H ∧
  (∀ i, i < 8 → va_O "SpooledPost$Command" (G.1 20 i) (zA G) U H ∧ va_OF "SpooledPost$Command" "word" "Ljava/lang/String;" (.ref (G.1 22 i)) (G.1 20 i) (zA G) U H ∧ va_OF "java/lang/Enum" "ordinal" "I" (.int (nI i)) (G.1 20 i) (zA G) U H) ∧
  zFmt G U H ∧
  (vk_R "SpooledPost" 225 " from:<" (G.1 22 8) U ∧ vk_R "SpooledPost" 237 " to:<" (G.1 22 9) U ∧ vk_R "SpooledPost" 308 "Returned: " (G.1 22 10) U ∧ vk_R "SpooledPost$PartReader" 90 "content-type:" (G.1 22 11) U ∧ vk_R "SpooledPost$PartReader" 104 "multipart/" (G.1 22 12) U ∧ vk_R "SpooledPost$PartReader" 106 "boundary=" (G.1 22 13) U)
theorem zConst.kept {G : ZG} {U : State} {H H1 : Heap} (h : zConst G U H) (hq : ∀ a : Nat, a < H.size → ¬ zA G a → H1[a]? = H[a]?) : zConst G U H1 := by
  obtain ⟨a1, a2, a3, a4, a5, a6, a7, a8, a9⟩ := h
  exact ⟨a1.kept hq, a2.kept hq, a3.kept hq, a4.kept hq, a5.kept hq, a6.kept hq, fun i hi => ⟨(a7 i hi).1.kept hq, (a7 i hi).2.1.kept hq, (a7 i hi).2.2.kept hq⟩, a8.elim (fun z => Or.inl (z.kept hq)) (fun z => Or.inr (z.kept hq)), a9⟩
theorem zConst.warm {G : ZG} {s U : State} {H : Heap} (hW : s.WarmedH U.vm) (h : zConst G s H) : zConst G U H := by
  obtain ⟨a1, a2, a3, a4, a5, a6, a7, a8, b1, b2, b3, b4, b5, b6⟩ := h
  have hv := hW.alike
  exact ⟨a1.moved hv, a2.moved hv, a3.moved hv, a4.moved hv, a5.moved hv, a6.moved hv, fun i hi => ⟨(a7 i hi).1.moved hv, (a7 i hi).2.1.moved hv, (a7 i hi).2.2.moved hv⟩, a8.elim (fun z => Or.inl (z.moved hv)) (fun z => Or.inr (z.moved hv)), b1.warm hW, b2.warm hW, b3.warm hW, b4.warm hW, b5.warm hW, b6.warm hW⟩
theorem zConst.same {G : ZG} {u U : State} (hv : U.vm = u.vm) (hh : U.heap = u.heap) (h : zConst G u u.heap) : zConst G U U.heap := by
  obtain ⟨a1, a2, a3, a4, a5, a6, a7, a8, b1, b2, b3, b4, b5, b6⟩ := h
  have hl : u.vm.Alike U.vm := by rw [hv]; exact Vm.Alike.refl _
  rw [hh]
  exact ⟨a1.moved hl, a2.moved hl, a3.moved hl, a4.moved hl, a5.moved hl, a6.moved hl, fun i hi => ⟨(a7 i hi).1.moved hl, (a7 i hi).2.1.moved hl, (a7 i hi).2.2.moved hl⟩, a8.elim (fun z => Or.inl (z.moved hl)) (fun z => Or.inr (z.moved hl)), b1.same hv, b2.same hv, b3.same hv, b4.same hv, b5.same hv, b6.same hv⟩
theorem zin {k i : Nat} (hk : k < zkinds) (hi : i < zcnt k) : (k, i) ∈ zall := by
  unfold zall
  rw [List.mem_flatMap]
  exact ⟨k, List.mem_range.mpr hk, List.mem_map.mpr ⟨i, List.mem_range.mpr hi, rfl⟩⟩
theorem zE_congr {G : ZG} {h h' : ZH} {k i : Nat} (h1 : h'.1 k i = h.1 k i) (h2 : h'.2 k i = h.2 k i) : zE G h' k i = zE G h k i := by
  have e1 : zfld G h' k i = zfld G h k i := by funext j; unfold zfld; rw [h1, h2]
  have e2 : zav G h' k i = zav G h k i := by funext j; unfold zav; rw [h2]
  unfold zE
  rw [e1, e2, h1]
theorem zD {G : ZG} (h : ZH) (hO : zOK G) : va_D (zA G) (zws G h) := by
  refine ⟨fun i j p q hi hj e => ?_, fun k q hq => ?_⟩
  · unfold zws at hi hj
    rw [List.getElem?_map] at hi hj
    cases ha : zall[i]? with
    | none => rw [ha] at hi; cases hi
    | some c =>
      cases hb : zall[j]? with
      | none => rw [hb] at hj; cases hj
      | some c' =>
        rw [ha] at hi; rw [hb] at hj
        cases hi; cases hj
        exact hO.1 i j c c' ha hb e
  · unfold zws at hq
    rw [List.getElem?_map] at hq
    cases ha : zall[k]? with
    | none => rw [ha] at hq; cases hq
    | some c =>
      rw [ha] at hq
      cases hq
      exact hO.2 c (List.mem_of_getElem? ha)
theorem zpos {G : ZG} (hO : zOK G) {k i : Nat} (hk : (k, i) ∈ zall) : ∃ q0 : Nat, (∀ h : ZH, (zws G h)[q0]? = some (G.1 k i, zE G h k i)) ∧ ∀ h h' : ZH, (∀ a b : Nat, (a, b) ≠ (k, i) → h'.1 a b = h.1 a b ∧ h'.2 a b = h.2 a b) → (zws G h).set q0 (G.1 k i, zE G h' k i) = zws G h' := by
  obtain ⟨q0, hq⟩ := List.getElem?_of_mem hk
  refine ⟨q0, fun h => ?_, fun h h' hh => ?_⟩
  · unfold zws
    rw [List.getElem?_map, hq]
    rfl
  · have hl : q0 < (zws G h).length := by
      unfold zws
      rw [List.length_map]
      exact (List.getElem?_eq_some_iff.mp hq).1
    apply List.ext_getElem?
    intro j
    by_cases e : j = q0
    · subst e
      rw [List.getElem?_set_self hl]
      unfold zws
      rw [List.getElem?_map, hq]
      rfl
    · rw [List.getElem?_set_ne (Ne.symm e)]
      unfold zws
      rw [List.getElem?_map, List.getElem?_map]
      cases hc : zall[j]? with
      | none => rfl
      | some c =>
        have hne : (c.1, c.2) ≠ (k, i) := by
          intro z
          exact e (hO.1 j q0 c (k, i) hc hq (by rw [show c = (k, i) from z]))
        obtain ⟨h1, h2⟩ := hh c.1 c.2 hne
        show some (G.1 c.1 c.2, zE G h c.1 c.2) = some (G.1 c.1 c.2, zE G h' c.1 c.2)
        rw [zE_congr h1 h2]
theorem zw_off (h : ZH) (k i j : Nat) (x : Int32) : ∀ a b : Nat, (a, b) ≠ (k, i) → (zw h k i j x).1 a b = h.1 a b ∧ (zw h k i j x).2 a b = h.2 a b := by
  intro a b hab
  refine ⟨?_, rfl⟩
  funext c
  show (if a = k ∧ b = i ∧ c = j then x else h.1 a b c) = h.1 a b c
  rw [if_neg]
  rintro ⟨rfl, rfl, -⟩
  exact hab rfl
theorem zwr_off (h : ZH) (k i j : Nat) (x : Option Nat) : ∀ a b : Nat, (a, b) ≠ (k, i) → (zwr h k i j x).1 a b = h.1 a b ∧ (zwr h k i j x).2 a b = h.2 a b := by
  intro a b hab
  refine ⟨rfl, ?_⟩
  funext c
  show (if a = k ∧ b = i ∧ c = j then x else h.2 a b c) = h.2 a b c
  rw [if_neg]
  rintro ⟨rfl, rfl, -⟩
  exact hab rfl
theorem zcp_off (h : ZH) (k i i2 sp dp n : Nat) : ∀ a b : Nat, (a, b) ≠ (k, i2) → (zcp h k i i2 sp dp n).1 a b = h.1 a b ∧ (zcp h k i i2 sp dp n).2 a b = h.2 a b := by
  intro a b hab
  refine ⟨?_, rfl⟩
  funext c
  show (if a = k ∧ b = i2 ∧ dp ≤ c ∧ c < dp + n then _ else h.1 a b c) = h.1 a b c
  rw [if_neg]
  rintro ⟨rfl, rfl, -⟩
  exact hab rfl
/-! locals -/
def zpairs (G : ZG) : Nat → List (Option ZV) → List (Nat × Value)
  | _, [] => []
  | i, none :: t => zpairs G (i + 1) t
  | i, some v :: t => (i, zv G v) :: zpairs G (i + 1) t
theorem zpairs_mem {G : ZG} {q : Nat × Value} : ∀ (lv : List (Option ZV)) (i : Nat), q ∈ zpairs G i lv ↔ ∃ (j : Nat) (v : ZV), lv[j]? = some (some v) ∧ q = (i + j, zv G v) := by
  intro lv
  induction lv with
  | nil => intro i; simp [zpairs]
  | cons a t ih =>
    intro i
    have key : (∃ (j : Nat) (v : ZV), t[j]? = some (some v) ∧ q = (i + 1 + j, zv G v)) ↔ ∃ (j : Nat) (v : ZV), (a :: t)[j + 1]? = some (some v) ∧ q = (i + (j + 1), zv G v) := by
      constructor
      · rintro ⟨j, v, h1, h2⟩
        exact ⟨j, v, by simpa using h1, by rw [h2, show i + 1 + j = i + (j + 1) by omega]⟩
      · rintro ⟨j, v, h1, h2⟩
        exact ⟨j, v, by simpa using h1, by rw [h2, show i + 1 + j = i + (j + 1) by omega]⟩
    cases a with
    | none =>
      rw [zpairs, ih, key]
      constructor
      · rintro ⟨j, v, h1, h2⟩
        exact ⟨j + 1, v, h1, h2⟩
      · rintro ⟨j, v, h1, h2⟩
        cases j with
        | zero => simp at h1
        | succ j => exact ⟨j, v, h1, h2⟩
    | some w =>
      rw [zpairs, List.mem_cons, ih, key]
      constructor
      · rintro (h | ⟨j, v, h1, h2⟩)
        · exact ⟨0, w, by simp, by rw [h]; rfl⟩
        · exact ⟨j + 1, v, h1, h2⟩
      · rintro ⟨j, v, h1, h2⟩
        cases j with
        | zero =>
          have : w = v := by simpa using h1
          subst this
          exact Or.inl h2
        | succ j => exact Or.inr ⟨j, v, h1, h2⟩
def zLv (G : ZG) (n : Nat) (ls : Array Slot) (lv : List (Option ZV)) : Prop := lv_has ls n (zpairs G 0 lv)
theorem zLv_at {G : ZG} {n : Nat} {ls : Array Slot} {lv : List (Option ZV)} (h : zLv G n ls lv) {i : Nat} {v : ZV} (hi : lv[i]? = some (some v)) : ls[i]? = some (.val (zv G v)) := by
  have := h.2.2 (i, zv G v) ((zpairs_mem lv 0).mpr ⟨i, v, hi, by rw [Nat.zero_add]⟩)
  exact this
def zcat : ZV → Nat
  | .inr (.inl _) => 2
  | _ => 1
theorem zcat_zv (G : ZG) (v : ZV) : (zv G v).category = zcat v := by
  rcases v with x | x | _ | q <;> rfl
/-- no long stands just ahead of local i -/
def zst (lv : List (Option ZV)) (i : Nat) : Bool := match i with
  | 0 => true
  | i + 1 => match lv[i]? with
    | some (some v) => zcat v == 1
    | _ => true
theorem zLv_set {G : ZG} {n : Nat} {ls' : Array Slot} {lv : List (Option ZV)} {i : Nat} {v : ZV} (hz : zst lv i = true)
    (h : lv_has ls' n ((i, zv G v) :: (zpairs G 0 lv).filter (fun q => !(q.1 == i) && !(q.1 + 1 == i && q.2.category == 2)))) : zLv G n ls' (lv.set i (some v)) := by
  refine ⟨h.1, h.2.1, fun q hq => h.2.2 q ?_⟩
  obtain ⟨j, w, h1, h2⟩ := (zpairs_mem _ 0).mp hq
  rw [Nat.zero_add] at h2
  subst h2
  by_cases e : j = i
  · subst e
    have hl : j < lv.length := by
      have := (List.getElem?_eq_some_iff.mp h1).1
      simpa using this
    rw [List.getElem?_set_self hl] at h1
    cases h1
    exact List.mem_cons_self
  · rw [List.getElem?_set_ne (Ne.symm e)] at h1
    refine List.mem_cons_of_mem _ (List.mem_filter.mpr ⟨(zpairs_mem _ 0).mpr ⟨j, w, h1, by rw [Nat.zero_add]⟩, ?_⟩)
    have hne : (j == i) = false := by simpa using e
    show (!(j == i) && !(j + 1 == i && (zv G w).category == 2)) = true
    rw [hne, zcat_zv]
    by_cases e2 : j + 1 = i
    · subst e2
      have : (zcat w == 1) = true := by
        have h3 := hz
        unfold zst at h3
        simp only [h1] at h3
        exact h3
      have h4 : zcat w = 1 := by simpa using this
      rw [h4]
      simp
    · have : (j + 1 == i) = false := by simpa using e2
      rw [this]
      rfl
def zloc : List ZV → List (Option ZV)
  | [] => []
  | v :: t => if zcat v = 2 then some v :: none :: zloc t else some v :: zloc t
theorem zloc_len (G : ZG) : ∀ as : List ZV, (lg_sl (as.map (zv G))).length = (zloc as).length := by
  intro as
  induction as with
  | nil => rfl
  | cons v t ih =>
    unfold lg_sl at ih ⊢
    rw [List.map_cons, List.flatMap_cons, List.length_append, ih, zcat_zv, zloc]
    by_cases e : zcat v = 2
    · rw [if_pos e, if_pos e]
      simp
      omega
    · rw [if_neg e, if_neg e]
      simp
      omega
theorem zloc_args (G : ZG) (k : Nat) : ∀ (as : List ZV) (i : Nat), zpairs G i (zloc as ++ List.replicate k none) = lv_args i (as.map (zv G)) := by
  intro as
  induction as with
  | nil =>
    intro i
    show zpairs G i (List.replicate k none) = []
    induction k generalizing i with
    | zero => rfl
    | succ k ih => rw [List.replicate_succ, zpairs, ih]
  | cons v t ih =>
    intro i
    rw [List.map_cons, lv_args, zcat_zv, zloc]
    by_cases e : zcat v = 2
    · rw [if_pos e, if_pos e]
      show zpairs G i (some v :: none :: (zloc t ++ List.replicate k none)) = _
      rw [zpairs, zpairs, ih]
    · rw [if_neg e, if_neg e]
      show zpairs G i (some v :: (zloc t ++ List.replicate k none)) = _
      rw [zpairs, ih]
/-! frames and calls -/
def rmD (d : Nat) : Room := { frames := d, cells := 0, slots := 0, locals := 60 * d }
def zwsM (M : ZM) : List Cond := Cond.code M.1 M.2.1 M.2.2.1 M.2.2.2 :: WS
def zQc (G : ZG) (Q : Option ZV → ZH → Prop) : Array Value → State → Outcome → State → Prop := fun _ st o t =>
  ∃ (r : Option ZV) (h' : ZH), o = .returned (r.map (zv G)) ∧ Q r h' ∧ zRep G h' t.heap ∧ va_F (zA G) st t
def zCtx (M : ZM) (G : ZG) (p : Program) (s : State) (m : MethodId) (args : Array Value) (meth : Method) (c : Code) : Prop :=
  p.tables.exec = Jvm.exec ∧ c.code = M.2.1 ∧ meth.sig.returnType = M.2.2.2 ∧ c.maxLocals = M.2.2.1 ∧ (∀ w ∈ zwsM M, w.before args s = true) ∧ s.vm.findClass M.1.cls = some m.cls ∧ meth.locks = false ∧ va_K G.2.1 vwCl (ztys G) s ∧ zOK G ∧ zConst G s s.heap
def EvAt (d : Nat) (M : ZM) (pc : Nat) (lv : List (Option ZV)) (st : List ZV) (h : ZH) (Q : Option ZV → ZH → Prop) : Prop :=
  ∀ (G : ZG) (p : Program) (l : Launch) (e : Env) (s : State) (m : MethodId) (args : Array Value) (below : List Frame) (meth : Method) (c : Code) (H : Heap) (locs : List Loc) (ls : Array Slot),
    zCtx M G p s m args meth c → zRep G h H → va_S (zA G) s.heap H locs → zLv G M.2.2.1 ls lv →
    W p l e (rmD d) s m args below meth c H locs 0 0 (MQ below (zQc G Q) args s 0 0 (zA G)) (F0 m pc ls (st.map (zv G)))
def zPc (G : ZG) (as : List ZV) (h : ZH) : Array Value → State → Prop := va_Pc (as.map (zv G)) (fun U => zRep G h U.heap ∧ va_K G.2.1 vwCl (ztys G) U ∧ zConst G U U.heap)
def EvCall (d : Nat) (M : ZM) (as : List ZV) (h : ZH) (Q : Option ZV → ZH → Prop) : Prop :=
  ∀ (l : Launch) (G : ZG), zOK G → Met l M.1 (zwsM M) (rmD d) (zPc G as h) (zQc G Q) 0 0 (zA G)
def zQI (Q : Int32 → ZH → Prop) : Option ZV → ZH → Prop := fun r h' => ∃ x : Int32, r = some (vI x) ∧ Q x h'
def zQV (Q : ZH → Prop) : Option ZV → ZH → Prop := fun r h' => r = none ∧ Q h'
/-- an answer that is null or a cell of kind k -/
def zQR (k : Nat) (Q : Option Nat → ZH → Prop) : Option ZV → ZH → Prop := fun r h' => ∃ o : Option Nat, r = some (vQ (o.map (Prod.mk k))) ∧ (∀ i, o = some i → i < zcnt k) ∧ Q o h'
abbrev EvI (d : Nat) (M : ZM) (as : List ZV) (h : ZH) (Q : Int32 → ZH → Prop) : Prop := EvCall d M as h (zQI Q)
abbrev EvV (d : Nat) (M : ZM) (as : List ZV) (h : ZH) (Q : ZH → Prop) : Prop := EvCall d M as h (zQV Q)
abbrev EvR (k : Nat) (d : Nat) (M : ZM) (as : List ZV) (h : ZH) (Q : Option Nat → ZH → Prop) : Prop := EvCall d M as h (zQR k Q)
theorem zPc_blind (G : ZG) (as : List ZV) (h : ZH) : FrameBlind (zPc G as h) := by
  intro a U g mk q
  obtain ⟨q0, q1, q2, q3⟩ := q
  exact ⟨q0, q1, va_K.moved (u := U) (U := U.calling g mk a) (Vm.Alike.refl U.vm) q2, zConst.same (U := U.calling g mk a) (u := U) rfl rfl q3⟩
theorem zPc_of {G : ZG} {as : List ZV} {h : ZH} {s U : State} {H : Heap} {locs : List Loc} (hU : U.heap = H) (hW : s.WarmedH U.vm) (hR : zRep G h H) (hK : va_K G.2.1 vwCl (ztys G) s) (hC : zConst G s s.heap) (hS : va_S (zA G) s.heap H locs) : zPc G as h (as.map (zv G)).toArray U := by
  refine ⟨rfl, by rw [hU]; exact hR, va_K.moved hW.alike hK, ?_⟩
  rw [hU]
  exact zConst.warm hW (zConst.kept hC hS.2.1)
theorem zo_entry {d : Nat} {M : ZM} {as : List ZV} {h : ZH} {Q : Option ZV → ZH → Prop} (hy : plainName M.1.cls = true) (hlen : (zloc as).length ≤ M.2.2.1)
    (k : EvAt d M 0 (zloc as ++ List.replicate (M.2.2.1 - (zloc as).length) none) [] h Q) : EvCall d M as h Q := by
  intro l G hO
  refine Met.ofW (cc := M.2.1) (maxL := M.2.2.1) (ret := M.2.2.2) hy rfl ?_
  intro p e s m args below meth c s₁ B hml hv
  obtain ⟨rfl, hrep, hK, hC⟩ := hv
  have hts := atoms_spec (ws := zwsM M) B.pre
  have hown : s.vm.findClass M.1.cls = some m.cls := findClass_of_methodNamed B.named
  have hl := lv_entry (as.map (zv G)) (n := M.2.2.1) (by rw [zloc_len]; exact hlen)
  rw [lg_entry_eq]
  refine k G p l e s m _ below meth c s.heap [] _ ⟨B.exec, B.bytes, B.returns, hml, hts, hown, B.notSynchronized, hK, hO, hC⟩ hrep va_S.rf ?_
  unfold zLv
  rw [zloc_args]
  exact hl
theorem zo_mono {d : Nat} {M : ZM} {pc : Nat} {lv : List (Option ZV)} {st : List ZV} {h : ZH} {Q Q' : Option ZV → ZH → Prop} (hQ : ∀ r h', Q r h' → Q' r h') (k : EvAt d M pc lv st h Q) : EvAt d M pc lv st h Q' := by
  intro G p l e s m args below meth c H locs ls B hR hS hl T hT X
  obtain ⟨t, a1, o, b1, b2, ⟨r, h', c1, c2, c3⟩, b4⟩ := k G p l e s m args below meth c H locs ls B hR hS hl T hT X
  exact ⟨t, a1, o, b1, b2, ⟨r, h', c1, hQ r h' c2, c3⟩, b4⟩
