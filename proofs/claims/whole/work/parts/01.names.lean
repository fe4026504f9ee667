def kT_P : u_T := fun k => match k with
  | 0 => ("SpooledPost", "line", "LSpooledPost$Row;", true)
  | 1 => ("SpooledPost", "session", "LSpooledPost$Session;", true)
  | 2 => ("SpooledPost", "spool", "LSpooledPost$Spool;", true)
  | 3 => ("SpooledPost", "reader", "LSpooledPost$PartReader;", true)
  | _ => ("SpooledPost", "now", "I", false)
def kY_P : Nat → FieldType := fun k => match k with
  | 0 => .object "SpooledPost$Row"
  | 1 => .object "SpooledPost$Session"
  | 2 => .object "SpooledPost$Spool"
  | 3 => .object "SpooledPost$PartReader"
  | _ => .int
theorem kN_P : ∀ a, a < 5 → ∀ b, b < 5 → a ≠ b → (kT_P a).2.1 ≠ (kT_P b).2.1 := by decide +kernel
theorem kO_P : ∀ k, k < 5 → parseFieldDescriptor (kT_P k).2.2.1 = some (kY_P k) := by decide +kernel
def kT_R : u_T := fun k => match k with
  | 0 => ("SpooledPost$Row", "chars", "[C", true)
  | _ => ("SpooledPost$Row", "length", "I", false)
def kY_R : Nat → FieldType := fun k => match k with
  | 0 => .array (.char)
  | _ => .int
theorem kN_R : ∀ a, a < 2 → ∀ b, b < 2 → a ≠ b → (kT_R a).2.1 ≠ (kT_R b).2.1 := by decide +kernel
theorem kO_R : ∀ k, k < 2 → parseFieldDescriptor (kT_R k).2.2.1 = some (kY_R k) := by decide +kernel
def kT_S : u_T := fun k => match k with
  | 0 => ("SpooledPost$Session", "sender", "LSpooledPost$Row;", true)
  | 1 => ("SpooledPost$Session", "recipients", "[LSpooledPost$Row;", true)
  | 2 => ("SpooledPost$Session", "text", "LSpooledPost$Row;", true)
  | 3 => ("SpooledPost$Session", "recipientCount", "I", false)
  | 4 => ("SpooledPost$Session", "greeted", "Z", false)
  | 5 => ("SpooledPost$Session", "inTransaction", "Z", false)
  | 6 => ("SpooledPost$Session", "taking", "Z", false)
  | _ => ("SpooledPost$Session", "tooLong", "Z", false)
def kY_S : Nat → FieldType := fun k => match k with
  | 0 => .object "SpooledPost$Row"
  | 1 => .array (.object "SpooledPost$Row")
  | 2 => .object "SpooledPost$Row"
  | 3 => .int
  | 4 => .boolean
  | 5 => .boolean
  | 6 => .boolean
  | _ => .boolean
theorem kN_S : ∀ a, a < 8 → ∀ b, b < 8 → a ≠ b → (kT_S a).2.1 ≠ (kT_S b).2.1 := by decide +kernel
theorem kO_S : ∀ k, k < 8 → parseFieldDescriptor (kT_S k).2.2.1 = some (kY_S k) := by decide +kernel
def kT_O : u_T := fun k => match k with
  | 0 => ("SpooledPost$Spool", "row", "[LSpooledPost$Letter;", true)
  | 1 => ("SpooledPost$Spool", "count", "I", false)
  | 2 => ("SpooledPost$Spool", "nextNumber", "I", false)
  | 3 => ("SpooledPost$Spool", "writesLeft", "I", false)
  | _ => ("SpooledPost$Spool", "down", "Z", false)
def kY_O : Nat → FieldType := fun k => match k with
  | 0 => .array (.object "SpooledPost$Letter")
  | 1 => .int
  | 2 => .int
  | 3 => .int
  | _ => .boolean
theorem kN_O : ∀ a, a < 5 → ∀ b, b < 5 → a ≠ b → (kT_O a).2.1 ≠ (kT_O b).2.1 := by decide +kernel
theorem kO_O : ∀ k, k < 5 → parseFieldDescriptor (kT_O k).2.2.1 = some (kY_O k) := by decide +kernel
def kT_L : u_T := fun k => match k with
  | 0 => ("SpooledPost$Letter", "sender", "LSpooledPost$Row;", true)
  | 1 => ("SpooledPost$Letter", "recipients", "[LSpooledPost$Recipient;", true)
  | 2 => ("SpooledPost$Letter", "text", "LSpooledPost$Row;", true)
  | 3 => ("SpooledPost$Letter", "recipientCount", "I", false)
  | 4 => ("SpooledPost$Letter", "number", "I", false)
  | _ => ("SpooledPost$Letter", "sealed", "Z", false)
def kY_L : Nat → FieldType := fun k => match k with
  | 0 => .object "SpooledPost$Row"
  | 1 => .array (.object "SpooledPost$Recipient")
  | 2 => .object "SpooledPost$Row"
  | 3 => .int
  | 4 => .int
  | _ => .boolean
theorem kN_L : ∀ a, a < 6 → ∀ b, b < 6 → a ≠ b → (kT_L a).2.1 ≠ (kT_L b).2.1 := by decide +kernel
theorem kO_L : ∀ k, k < 6 → parseFieldDescriptor (kT_L k).2.2.1 = some (kY_L k) := by decide +kernel
def kT_C : u_T := fun k => match k with
  | 0 => ("SpooledPost$Recipient", "path", "LSpooledPost$Row;", true)
  | 1 => ("SpooledPost$Recipient", "fate", "I", false)
  | 2 => ("SpooledPost$Recipient", "tries", "I", false)
  | _ => ("SpooledPost$Recipient", "due", "I", false)
def kY_C : Nat → FieldType := fun k => match k with
  | 0 => .object "SpooledPost$Row"
  | 1 => .int
  | 2 => .int
  | _ => .int
theorem kN_C : ∀ a, a < 4 → ∀ b, b < 4 → a ≠ b → (kT_C a).2.1 ≠ (kT_C b).2.1 := by decide +kernel
theorem kO_C : ∀ k, k < 4 → parseFieldDescriptor (kT_C k).2.2.1 = some (kY_C k) := by decide +kernel
def kT_D : u_T := fun k => match k with
  | 0 => ("SpooledPost$PartReader", "lineStarts", "[I", true)
  | 1 => ("SpooledPost$PartReader", "facts", "[I", true)
  | 2 => ("SpooledPost$PartReader", "text", "LSpooledPost$Row;", false)
  | 3 => ("SpooledPost$PartReader", "lineCount", "I", false)
  | 4 => ("SpooledPost$PartReader", "count", "I", false)
  | _ => ("SpooledPost$PartReader", "readNumber", "I", false)
def kY_D : Nat → FieldType := fun k => match k with
  | 0 => .array (.int)
  | 1 => .array (.int)
  | 2 => .object "SpooledPost$Row"
  | 3 => .int
  | 4 => .int
  | _ => .int
theorem kN_D : ∀ a, a < 6 → ∀ b, b < 6 → a ≠ b → (kT_D a).2.1 ≠ (kT_D b).2.1 := by decide +kernel
theorem kO_D : ∀ k, k < 6 → parseFieldDescriptor (kT_D k).2.2.1 = some (kY_D k) := by decide +kernel
def kT_M : u_T := fun k => match k with
  | 0 => ("SpooledPostModel", "up", "Z", false)
  | 1 => ("SpooledPostModel", "now", "I", false)
  | 2 => ("SpooledPostModel", "given", "I", false)
  | 3 => ("SpooledPostModel", "writes", "I", false)
  | 4 => ("SpooledPostModel", "line", "[I", true)
  | 5 => ("SpooledPostModel", "length", "I", false)
  | 6 => ("SpooledPostModel", "greeted", "Z", false)
  | 7 => ("SpooledPostModel", "begun", "Z", false)
  | 8 => ("SpooledPostModel", "taking", "Z", false)
  | 9 => ("SpooledPostModel", "number", "[I", true)
  | 10 => ("SpooledPostModel", "sealed", "[Z", true)
  | 11 => ("SpooledPostModel", "texts", "[I", true)
  | 12 => ("SpooledPostModel", "textSize", "[I", true)
  | 13 => ("SpooledPostModel", "paths", "[I", true)
  | 14 => ("SpooledPostModel", "pathSize", "[I", true)
  | 15 => ("SpooledPostModel", "many", "[I", true)
  | 16 => ("SpooledPostModel", "fate", "[I", true)
  | 17 => ("SpooledPostModel", "dueAt", "[I", true)
  | 18 => ("SpooledPostModel", "lines", "I", false)
  | 19 => ("SpooledPostModel", "lineAt", "[I", true)
  | 20 => ("SpooledPostModel", "found", "I", false)
  | 21 => ("SpooledPostModel", "partDepth", "[I", true)
  | 22 => ("SpooledPostModel", "partFrom", "[I", true)
  | 23 => ("SpooledPostModel", "partTo", "[I", true)
  | 24 => ("SpooledPostModel", "partMulti", "[Z", true)
  | 25 => ("SpooledPostModel", "open", "I", false)
  | 26 => ("SpooledPostModel", "rowFrom", "[I", true)
  | 27 => ("SpooledPostModel", "rowTo", "[I", true)
  | 28 => ("SpooledPostModel", "rowDepth", "[I", true)
  | 29 => ("SpooledPostModel", "mark", "I", false)
  | _ => ("SpooledPostModel", "markSize", "I", false)
def kY_M : Nat → FieldType := fun k => match k with
  | 0 => .boolean
  | 1 => .int
  | 2 => .int
  | 3 => .int
  | 4 => .array (.int)
  | 5 => .int
  | 6 => .boolean
  | 7 => .boolean
  | 8 => .boolean
  | 9 => .array (.int)
  | 10 => .array (.boolean)
  | 11 => .array (.int)
  | 12 => .array (.int)
  | 13 => .array (.int)
  | 14 => .array (.int)
  | 15 => .array (.int)
  | 16 => .array (.int)
  | 17 => .array (.int)
  | 18 => .int
  | 19 => .array (.int)
  | 20 => .int
  | 21 => .array (.int)
  | 22 => .array (.int)
  | 23 => .array (.int)
  | 24 => .array (.boolean)
  | 25 => .int
  | 26 => .array (.int)
  | 27 => .array (.int)
  | 28 => .array (.int)
  | 29 => .int
  | _ => .int
theorem kN_M : ∀ a, a < 31 → ∀ b, b < 31 → a ≠ b → (kT_M a).2.1 ≠ (kT_M b).2.1 := by decide +kernel
theorem kO_M : ∀ k, k < 31 → parseFieldDescriptor (kT_M k).2.2.1 = some (kY_M k) := by decide +kernel
abbrev vwCl : List vw_C := [("SpooledPost", kT_P, 5), ("SpooledPost$Row", kT_R, 2), ("SpooledPost$Session", kT_S, 8), ("SpooledPost$Spool", kT_O, 5), ("SpooledPost$Letter", kT_L, 6), ("SpooledPost$Recipient", kT_C, 4), ("SpooledPost$PartReader", kT_D, 6), ("SpooledPostModel", kT_M, 31)]
/-- the words that every method is given -/
def WS : List Cond := lw_tbl.filter goodWord
theorem WSin {w : Cond} (h1 : w ∈ lw_tbl) (h2 : goodWord w = true) : w ∈ WS := List.mem_filter.mpr ⟨h1, h2⟩
theorem zgood : ∀ w ∈ WS, ((w.onTables && w.keeps) = true ∨ ∃ ty, w = .arrayClass ty) := fun w h => good_of_word (List.mem_filter.mp h).2
theorem WStbl : ∀ w ∈ WS, w ∈ lw_tbl := fun w h => (List.mem_filter.mp h).1
theorem kI_P : ∀ w ∈ u_ws "SpooledPost" kT_P 5, w ∈ WS := by decide +kernel
theorem kI_R : ∀ w ∈ u_ws "SpooledPost$Row" kT_R 2, w ∈ WS := by decide +kernel
theorem kI_S : ∀ w ∈ u_ws "SpooledPost$Session" kT_S 8, w ∈ WS := by decide +kernel
theorem kI_O : ∀ w ∈ u_ws "SpooledPost$Spool" kT_O 5, w ∈ WS := by decide +kernel
theorem kI_L : ∀ w ∈ u_ws "SpooledPost$Letter" kT_L 6, w ∈ WS := by decide +kernel
theorem kI_C : ∀ w ∈ u_ws "SpooledPost$Recipient" kT_C 4, w ∈ WS := by decide +kernel
theorem kI_D : ∀ w ∈ u_ws "SpooledPost$PartReader" kT_D 6, w ∈ WS := by decide +kernel
theorem kI_M : ∀ w ∈ u_ws "SpooledPostModel" kT_M 31, w ∈ WS := by decide +kernel
