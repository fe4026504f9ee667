/-! THE CONSTANTS AT THE START -/
def FL : List Cond := flatC (Jvm.Cond.and given_1 narrow_1)
def sTm : Nat → Term
  | 0 => .string "SpooledPost$Command" 52
  | 1 => .string "SpooledPost$Command" 58
  | 2 => .string "SpooledPost$Command" 61
  | 3 => .string "SpooledPost$Command" 64
  | 4 => .string "SpooledPost$Command" 67
  | 5 => .string "SpooledPost$Command" 70
  | 6 => .string "SpooledPost$Command" 73
  | 7 => .string "SpooledPost$Command" 76
  | 8 => .string "SpooledPost" 225
  | 9 => .string "SpooledPost" 237
  | 10 => .string "SpooledPost" 308
  | 11 => .string "SpooledPost$PartReader" 90
  | 12 => .string "SpooledPost$PartReader" 104
  | _ => .string "SpooledPost$PartReader" 106
def cTm : Nat → Term
  | 0 => .static "SpooledPost$Command" "HELO" "LSpooledPost$Command;"
  | 1 => .static "SpooledPost$Command" "EHLO" "LSpooledPost$Command;"
  | 2 => .static "SpooledPost$Command" "MAIL" "LSpooledPost$Command;"
  | 3 => .static "SpooledPost$Command" "RCPT" "LSpooledPost$Command;"
  | 4 => .static "SpooledPost$Command" "DATA" "LSpooledPost$Command;"
  | 5 => .static "SpooledPost$Command" "RSET" "LSpooledPost$Command;"
  | 6 => .static "SpooledPost$Command" "NOOP" "LSpooledPost$Command;"
  | _ => .static "SpooledPost$Command" "QUIT" "LSpooledPost$Command;"
def coT : Term := .static "SpooledPost" "COMMANDS" "[LSpooledPost$Command;"
def swT : Term := .static "SpooledPost$1" "$SwitchMap$SpooledPost$Command" "[I"
theorem fl_ex : ∀ i, i < 14 → FL[[178, 192, 207, 223, 240, 258, 277, 297, 85, 96, 106, 122, 142, 160].getD i 0]? = some (Cond.exactly (sTm i) "java/lang/String") := by decide +kernel
theorem fl_co : ∀ i, i < 14 → FL[[179, 193, 208, 224, 241, 259, 278, 298, 86, 97, 107, 123, 143, 161].getD i 0]? = some (Cond.eq (.field (sTm i) "java/lang/String" "coder" "B") (.int 0)) := by decide +kernel
theorem fl_ar : ∀ i, i < 14 → FL[[180, 194, 209, 225, 242, 260, 279, 299, 87, 98, 108, 124, 144, 162].getD i 0]? = some (Cond.arrayOf (.field (sTm i) "java/lang/String" "value" "[B") .byte) := by decide +kernel
theorem fl_le : ∀ i, i < 14 → FL[[181, 195, 210, 226, 243, 261, 280, 300, 88, 99, 109, 125, 145, 163].getD i 0]? = some (Cond.eq (.length (.field (sTm i) "java/lang/String" "value" "[B")) (.int (Int32.ofNat (zSL.getD i 0)))) := by decide +kernel
theorem fl_el : ∀ i, i < 14 → ∀ j, j < zSL.getD i 0 → FL[([[182, 183, 184, 185], [196, 197, 198, 199], [211, 212, 213, 214], [227, 228, 229, 230], [244, 245, 246, 247], [262, 263, 264, 265], [281, 282, 283, 284], [301, 302, 303, 304], [89, 90, 91, 92, 93, 94, 95], [100, 101, 102, 103, 104], [110, 111, 112, 113, 114, 115, 116, 117, 118, 119], [126, 127, 128, 129, 130, 131, 132, 133, 134, 135, 136, 137, 138], [146, 147, 148, 149, 150, 151, 152, 153, 154, 155], [164, 165, 166, 167, 168, 169, 170, 171, 172]].getD i []).getD j 0]? = some (Cond.eq (.elem (.field (sTm i) "java/lang/String" "value" "[B") (.int (Int32.ofNat j))) (.int ((zSB.getD i []).getD j 0))) := by decide +kernel
def neI : List (List Nat) := [[0, 206, 221, 237, 254, 272, 291, 311, 0, 0, 0, 0, 0, 0], [0, 0, 222, 238, 255, 273, 292, 312, 0, 0, 0, 0, 0, 0], [0, 0, 0, 239, 256, 274, 293, 313, 0, 0, 0, 0, 0, 0], [0, 0, 0, 0, 257, 275, 294, 314, 0, 0, 0, 0, 0, 0], [0, 0, 0, 0, 0, 276, 295, 315, 0, 0, 0, 0, 0, 0], [0, 0, 0, 0, 0, 0, 296, 316, 0, 0, 0, 0, 0, 0], [0, 0, 0, 0, 0, 0, 0, 317, 0, 0, 0, 0, 0, 0], [0, 0, 0, 0, 0, 0, 0, 0, 0, 0, 0, 0, 0, 0], [186, 200, 215, 231, 248, 266, 285, 305, 0, 105, 120, 139, 156, 173], [187, 201, 216, 232, 249, 267, 286, 306, 0, 0, 121, 140, 157, 174], [188, 202, 217, 233, 250, 268, 287, 307, 0, 0, 0, 141, 158, 175], [189, 203, 218, 234, 251, 269, 288, 308, 0, 0, 0, 0, 159, 176], [190, 204, 219, 235, 252, 270, 289, 309, 0, 0, 0, 0, 0, 177], [191, 205, 220, 236, 253, 271, 290, 310, 0, 0, 0, 0, 0, 0]]
theorem fl_ne : ∀ i, i < 14 → ∀ j, j < 14 → i ≠ j → FL[(neI.getD i []).getD j 0]? = some (Cond.not (Cond.eq (sTm i) (sTm j))) ∨ FL[(neI.getD j []).getD i 0]? = some (Cond.not (Cond.eq (sTm j) (sTm i))) := by decide +kernel
theorem fl_exC : ∀ i, i < 8 → FL[[33, 36, 40, 45, 51, 58, 66, 75].getD i 0]? = some (Cond.exactly (cTm i) "SpooledPost$Command") := by decide +kernel
theorem fl_orC : ∀ i, i < 8 → FL[[34, 37, 41, 46, 52, 59, 67, 76].getD i 0]? = some (Cond.eq (.field (cTm i) "java/lang/Enum" "ordinal" "I") (.int (nI i))) := by decide +kernel
theorem fl_woC : ∀ i, i < 8 → FL[[35, 38, 42, 47, 53, 60, 68, 77].getD i 0]? = some (Cond.eq (.field (cTm i) "SpooledPost$Command" "word" "Ljava/lang/String;") (sTm i)) := by decide +kernel
theorem fl_elC : ∀ i, i < 8 → FL[[9, 10, 11, 12, 13, 14, 15, 16].getD i 0]? = some (Cond.eq (.elem coT (.int (Int32.ofNat i))) (cTm i)) := by decide +kernel
theorem fl_elS : ∀ i, i < 8 → FL[[25, 26, 27, 28, 29, 30, 31, 32].getD i 0]? = some (Cond.eq (.elem swT (.int (Int32.ofNat i))) (.int (zSw.getD i 0))) := by decide +kernel
theorem fl_arC : FL[6]? = some (Cond.arrayOf coT (.object "SpooledPost$Command")) := by decide +kernel
theorem fl_leC : FL[7]? = some (Cond.eq (.length coT) (.int 8)) := by decide +kernel
theorem fl_arS : FL[23]? = some (Cond.arrayOf swT .int) := by decide +kernel
theorem fl_leS : FL[24]? = some (Cond.eq (.length swT) (.int 8)) := by decide +kernel
theorem fl_cst : FL[17]? = some (Cond.eq (.static "java/lang/String" "COMPACT_STRINGS" "Z") (.int 1)) := by decide +kernel
theorem fl_fmt : FL[18]? = some (Cond.isRef (.static "jdk/internal/util/Preconditions" "SIOOBE_FORMATTER" "Ljava/util/function/BiFunction;")) := by decide +kernel
theorem const_of {s : State} {b : Nat} (hts : ∀ w ∈ lw_tbl, w.before #[Value.ref b] s = true) (hgv : (Jvm.Cond.and given_1 narrow_1).before #[Value.ref b] s = true) : ∃ cs : Nat → Nat → Nat, ∀ (b1 x0 x1 sA : Nat) (fs : Nat → Nat) (o oq : Nat) (oa : Nat → Nat) (of : Nat → Nat → Nat) (pp pq pr b2 : Nat) (fm : Nat → Nat) (D : va_G) (K : Nat → ClassId), zConst (gAd b1 x0 x1 sA fs o oq oa of pp pq pr b2 fm cs, D, K, s.heap.size) s s.heap := by
  have hs := flat_of_before _ hgv
  have hf : ∀ {n : Nat} {w : Cond}, FL[n]? = some w → w.before #[Value.ref b] s = true := fun h => hs _ (List.mem_of_getElem? h)
  have hA : ∀ a : Nat, a < s.heap.size → ¬ (fun q : Nat => s.heap.size ≤ q) a := fun a h z => by
    have z : s.heap.size ≤ a := z
    omega
  obtain ⟨aK, aV, hS, hSe⟩ := vk_Sof (N := 14) (tm := sTm) (len := zSL) (byt := zSB) (args := #[Value.ref b]) (s := s) (A := fun q : Nat => s.heap.size ≤ q) (by decide) (fun i hi => hf (fl_ex i hi)) (fun i hi => hf (fl_co i hi)) (fun i hi => hf (fl_ar i hi)) (fun i hi => hf (fl_le i hi)) (fun i hi j hj => hf (fl_el i hi j hj)) (fun i j hi hj hne => (fl_ne i hi j hj hne).elim (fun z => Or.inl (hf z)) (fun z => Or.inr (hf z))) hA
  have hC : ∀ i : Nat, ∃ a : Nat, i < 8 → (cTm i).eval #[Value.ref b] s none [] s = some (.ref a) := by
    intro i
    by_cases hi : i < 8
    · obtain ⟨a, c, cell, k, h1, -⟩ := Cond.exactly_spec (args := #[Value.ref b]) (first := s) (o := none) (s := s) (idx := []) (t := cTm i) (cls := "SpooledPost$Command") (hf (fl_exC i hi))
      exact ⟨a, fun _ => h1⟩
    · exact ⟨0, fun h => absurd h hi⟩
  obtain ⟨aC, hCe⟩ := Classical.axiomOfChoice hC
  obtain ⟨tC, hTe, hT⟩ := va_Tof (tm := coT) (N := 8) (f := fun j => .ref (aC j)) (A := fun q : Nat => s.heap.size ≤ q) (args := #[Value.ref b]) (s := s) (by decide) (hf fl_arC) (va_eqt (hf fl_leC)) (fun j hj => va_eqv (hf (fl_elC j hj)) (hCe j hj)) hA
  obtain ⟨tS, hUe, hU⟩ := va_Tof (tm := swT) (N := 8) (f := fun j => .int (zSw.getD j 0)) (A := fun q : Nat => s.heap.size ≤ q) (args := #[Value.ref b]) (s := s) (by decide) (hf fl_arS) (va_eqt (hf fl_leS)) (fun j hj => va_eqt (hf (fl_elS j hj))) hA
  have hF := va_Zqof (A := fun q : Nat => s.heap.size ≤ q) (hts (.laysStatic "jdk/internal/util/Preconditions" "SIOOBE_FORMATTER" "Ljava/util/function/BiFunction;") (by decide +kernel)) (hts (.initialized "jdk/internal/util/Preconditions") (by decide +kernel)) (hf fl_fmt) hA
  obtain ⟨tF, hF⟩ : ∃ tF : Nat, va_Z "jdk/internal/util/Preconditions" "SIOOBE_FORMATTER" "Ljava/util/function/BiFunction;" .null (fun q : Nat => s.heap.size ≤ q) s s.heap ∨ va_Z "jdk/internal/util/Preconditions" "SIOOBE_FORMATTER" "Ljava/util/function/BiFunction;" (.ref tF) (fun q : Nat => s.heap.size ≤ q) s s.heap := by
    rcases hF with z | ⟨t, z⟩
    · exact ⟨0, Or.inl z⟩
    · exact ⟨t, Or.inr z⟩
  have z1 := va_Zof (A := fun q : Nat => s.heap.size ≤ q) (hts (.laysStatic "SpooledPost" "COMMANDS" "[LSpooledPost$Command;") (by decide +kernel)) (hts (.initialized "SpooledPost") (by decide +kernel)) hTe hA
  have z3 := va_Zof (A := fun q : Nat => s.heap.size ≤ q) (hts (.laysStatic "SpooledPost$1" "$SwitchMap$SpooledPost$Command" "[I") (by decide +kernel)) (hts (.initialized "SpooledPost$1") (by decide +kernel)) hUe hA
  have z5 := va_Zof (A := fun q : Nat => s.heap.size ≤ q) (hts (.laysStatic "java/lang/String" "COMPACT_STRINGS" "Z") (by decide +kernel)) (hts (.initialized "java/lang/String") (by decide +kernel)) (va_eqi (hf fl_cst)) hA
  have z7 : ∀ i, i < 8 → va_O "SpooledPost$Command" (aC i) (fun q : Nat => s.heap.size ≤ q) s s.heap ∧ va_OF "SpooledPost$Command" "word" "Ljava/lang/String;" (.ref (aK i)) (aC i) (fun q : Nat => s.heap.size ≤ q) s s.heap ∧ va_OF "java/lang/Enum" "ordinal" "I" (.int (nI i)) (aC i) (fun q : Nat => s.heap.size ≤ q) s s.heap := fun i hi => ⟨va_Oof (hf (fl_exC i hi)) (hCe i hi) hA, vk_OFof (hCe i hi) (va_eqv (hf (fl_woC i hi)) (hSe i (by omega))) hA, vk_OFof (hCe i hi) (va_eqt (hf (fl_orC i hi))) hA⟩
  refine ⟨fun k i => if k = 20 then aC i else if k = 21 then tC else if k = 22 then aK i else if k = 23 then tS else if k = 24 then aV i else tF, fun b1 x0 x1 sA fs o oq oa of pp pq pr b2 fm D K => ?_⟩
  exact ⟨z1, hT, z3, hU, z5, hS, z7, hF, vk_R.of (hts (.stringRef "SpooledPost" 225 " from:<") (by decide +kernel)) (hSe 8 (by decide)), vk_R.of (hts (.stringRef "SpooledPost" 237 " to:<") (by decide +kernel)) (hSe 9 (by decide)), vk_R.of (hts (.stringRef "SpooledPost" 308 "Returned: ") (by decide +kernel)) (hSe 10 (by decide)), vk_R.of (hts (.stringRef "SpooledPost$PartReader" 90 "content-type:") (by decide +kernel)) (hSe 11 (by decide)), vk_R.of (hts (.stringRef "SpooledPost$PartReader" 104 "multipart/") (by decide +kernel)) (hSe 12 (by decide)), vk_R.of (hts (.stringRef "SpooledPost$PartReader" 106 "boundary=") (by decide +kernel)) (hSe 13 (by decide))⟩
