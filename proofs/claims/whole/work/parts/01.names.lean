def TX0 : u_T := fun k => match k with
  | 0 => ("HeapGames$GrundyValues", "rules", "LHeapGames$Rules;", true)
  | 1 => ("HeapGames$GrundyValues", "values", "LHeapGames$Row;", true)
  | 2 => ("HeapGames$GrundyValues", "reachedFrom", "LHeapGames$Row;", true)
  | 3 => ("HeapGames$GrundyValues", "ready", "Z", false)
  | 4 => ("HeapGames$GrundyValues", "length", "I", false)
  | _ => ("HeapGames$GrundyValues", "start", "I", false)
def tyX0 : Nat → FieldType := fun k => match k with
  | 0 => .object "HeapGames$Rules"
  | 1 => .object "HeapGames$Row"
  | 2 => .object "HeapGames$Row"
  | 3 => .boolean
  | 4 => .int
  | _ => .int
theorem nmX0 : ∀ a, a < 6 → ∀ b, b < 6 → a ≠ b → (TX0 a).2.1 ≠ (TX0 b).2.1 := by decide +kernel
theorem tyX0_ok : ∀ k, k < 6 → parseFieldDescriptor (TX0 k).2.2.1 = some (tyX0 k) := by decide +kernel
def TX1 : u_T := fun k => match k with
  | 0 => ("HeapGames$History", "ring", "LHeapGames$Row;", true)
  | 1 => ("HeapGames$History", "next", "I", false)
  | _ => ("HeapGames$History", "kept", "I", false)
def tyX1 : Nat → FieldType := fun k => match k with
  | 0 => .object "HeapGames$Row"
  | 1 => .int
  | _ => .int
theorem nmX1 : ∀ a, a < 3 → ∀ b, b < 3 → a ≠ b → (TX1 a).2.1 ≠ (TX1 b).2.1 := by decide +kernel
theorem tyX1_ok : ∀ k, k < 3 → parseFieldDescriptor (TX1 k).2.2.1 = some (tyX1 k) := by decide +kernel
def TX2 : u_T := fun k => match k with
  | 0 => ("HeapGames$Layouts", "stems", "LHeapGames$Row;", true)
  | 1 => ("HeapGames$Layouts", "lastKinds", "LHeapGames$Row;", true)
  | 2 => ("HeapGames$Layouts", "heaps", "LHeapGames$Row;", true)
  | 3 => ("HeapGames$Layouts", "counters", "LHeapGames$Row;", true)
  | 4 => ("HeapGames$Layouts", "boundHeaps", "LHeapGames$Row;", true)
  | 5 => ("HeapGames$Layouts", "freed", "LHeapGames$Row;", true)
  | 6 => ("HeapGames$Layouts", "joined", "LHeapGames$Row;", true)
  | _ => ("HeapGames$Layouts", "made", "I", false)
def tyX2 : Nat → FieldType := fun k => match k with
  | 0 => .object "HeapGames$Row"
  | 1 => .object "HeapGames$Row"
  | 2 => .object "HeapGames$Row"
  | 3 => .object "HeapGames$Row"
  | 4 => .object "HeapGames$Row"
  | 5 => .object "HeapGames$Row"
  | 6 => .object "HeapGames$Row"
  | _ => .int
theorem nmX2 : ∀ a, a < 8 → ∀ b, b < 8 → a ≠ b → (TX2 a).2.1 ≠ (TX2 b).2.1 := by decide +kernel
theorem tyX2_ok : ∀ k, k < 8 → parseFieldDescriptor (TX2 k).2.2.1 = some (tyX2 k) := by decide +kernel
def TX3 : u_T := fun k => match k with
  | 0 => ("HeapGames$Moves", "rules", "LHeapGames$Rules;", true)
  | 1 => ("HeapGames$Moves", "layouts", "LHeapGames$Layouts;", true)
  | 2 => ("HeapGames$Moves", "kinds", "LHeapGames$Row;", true)
  | 3 => ("HeapGames$Moves", "sizes", "LHeapGames$Row;", true)
  | 4 => ("HeapGames$Moves", "takings", "LHeapGames$Row;", true)
  | 5 => ("HeapGames$Moves", "smallerParts", "LHeapGames$Row;", true)
  | 6 => ("HeapGames$Moves", "greaterParts", "LHeapGames$Row;", true)
  | 7 => ("HeapGames$Moves", "targets", "LHeapGames$Row;", true)
  | 8 => ("HeapGames$Moves", "openSizes", "LHeapGames$Row;", true)
  | 9 => ("HeapGames$Moves", "openRests", "LHeapGames$Row;", true)
  | 10 => ("HeapGames$Moves", "open", "I", false)
  | 11 => ("HeapGames$Moves", "listed", "I", false)
  | _ => ("HeapGames$Moves", "listedFor", "I", false)
def tyX3 : Nat → FieldType := fun k => match k with
  | 0 => .object "HeapGames$Rules"
  | 1 => .object "HeapGames$Layouts"
  | 2 => .object "HeapGames$Row"
  | 3 => .object "HeapGames$Row"
  | 4 => .object "HeapGames$Row"
  | 5 => .object "HeapGames$Row"
  | 6 => .object "HeapGames$Row"
  | 7 => .object "HeapGames$Row"
  | 8 => .object "HeapGames$Row"
  | 9 => .object "HeapGames$Row"
  | 10 => .int
  | 11 => .int
  | _ => .int
theorem nmX3 : ∀ a, a < 13 → ∀ b, b < 13 → a ≠ b → (TX3 a).2.1 ≠ (TX3 b).2.1 := by decide +kernel
theorem tyX3_ok : ∀ k, k < 13 → parseFieldDescriptor (TX3 k).2.2.1 = some (tyX3 k) := by decide +kernel
def TX4 : u_T := fun k => match k with
  | 0 => ("HeapGames$PositionReader", "layouts", "LHeapGames$Layouts;", true)
  | 1 => ("HeapGames$PositionReader", "layout", "I", false)
  | _ => ("HeapGames$PositionReader", "pass", "I", false)
def tyX4 : Nat → FieldType := fun k => match k with
  | 0 => .object "HeapGames$Layouts"
  | 1 => .int
  | _ => .int
theorem nmX4 : ∀ a, a < 3 → ∀ b, b < 3 → a ≠ b → (TX4 a).2.1 ≠ (TX4 b).2.1 := by decide +kernel
theorem tyX4_ok : ∀ k, k < 3 → parseFieldDescriptor (TX4 k).2.2.1 = some (tyX4 k) := by decide +kernel
def TX5 : u_T := fun k => match k with
  | _ => ("HeapGames$Row", "cells", "[I", true)
def tyX5 : Nat → FieldType := fun k => match k with
  | _ => .array .int
theorem nmX5 : ∀ a, a < 1 → ∀ b, b < 1 → a ≠ b → (TX5 a).2.1 ≠ (TX5 b).2.1 := by decide +kernel
theorem tyX5_ok : ∀ k, k < 1 → parseFieldDescriptor (TX5 k).2.2.1 = some (tyX5 k) := by decide +kernel
def TX6 : u_T := fun k => match k with
  | 0 => ("HeapGames$Rules", "digits", "LHeapGames$Row;", true)
  | 1 => ("HeapGames$Rules", "obliging", "I", false)
  | 2 => ("HeapGames$Rules", "growing", "I", false)
  | _ => ("HeapGames$Rules", "misere", "I", false)
def tyX6 : Nat → FieldType := fun k => match k with
  | 0 => .object "HeapGames$Row"
  | 1 => .int
  | 2 => .int
  | _ => .int
theorem nmX6 : ∀ a, a < 4 → ∀ b, b < 4 → a ≠ b → (TX6 a).2.1 ≠ (TX6 b).2.1 := by decide +kernel
theorem tyX6_ok : ∀ k, k < 4 → parseFieldDescriptor (TX6 k).2.2.1 = some (tyX6 k) := by decide +kernel
def TX7 : u_T := fun k => match k with
  | _ => ("HeapGames$RulesReader", "digits", "LHeapGames$Row;", true)
def tyX7 : Nat → FieldType := fun k => match k with
  | _ => .object "HeapGames$Row"
theorem nmX7 : ∀ a, a < 1 → ∀ b, b < 1 → a ≠ b → (TX7 a).2.1 ≠ (TX7 b).2.1 := by decide +kernel
theorem tyX7_ok : ∀ k, k < 1 → parseFieldDescriptor (TX7 k).2.2.1 = some (tyX7 k) := by decide +kernel
def TX8 : u_T := fun k => match k with
  | 0 => ("HeapGames$Solver", "rules", "LHeapGames$Rules;", true)
  | 1 => ("HeapGames$Solver", "moves", "LHeapGames$Moves;", true)
  | 2 => ("HeapGames$Solver", "numbers", "LHeapGames$Row;", true)
  | 3 => ("HeapGames$Solver", "known", "LHeapGames$Row;", true)
  | 4 => ("HeapGames$Solver", "firstSteps", "LHeapGames$Row;", true)
  | 5 => ("HeapGames$Solver", "steps", "LHeapGames$Row;", true)
  | 6 => ("HeapGames$Solver", "firstBackSteps", "LHeapGames$Row;", true)
  | 7 => ("HeapGames$Solver", "backSteps", "LHeapGames$Row;", true)
  | 8 => ("HeapGames$Solver", "outcomes", "LHeapGames$Row;", true)
  | 9 => ("HeapGames$Solver", "distances", "LHeapGames$Row;", true)
  | 10 => ("HeapGames$Solver", "hopes", "LHeapGames$Row;", true)
  | 11 => ("HeapGames$Solver", "queue", "LHeapGames$Row;", true)
  | 12 => ("HeapGames$Solver", "seen", "LHeapGames$Row;", true)
  | 13 => ("HeapGames$Solver", "found", "I", false)
  | 14 => ("HeapGames$Solver", "queued", "I", false)
  | _ => ("HeapGames$Solver", "solved", "Z", false)
def tyX8 : Nat → FieldType := fun k => match k with
  | 0 => .object "HeapGames$Rules"
  | 1 => .object "HeapGames$Moves"
  | 2 => .object "HeapGames$Row"
  | 3 => .object "HeapGames$Row"
  | 4 => .object "HeapGames$Row"
  | 5 => .object "HeapGames$Row"
  | 6 => .object "HeapGames$Row"
  | 7 => .object "HeapGames$Row"
  | 8 => .object "HeapGames$Row"
  | 9 => .object "HeapGames$Row"
  | 10 => .object "HeapGames$Row"
  | 11 => .object "HeapGames$Row"
  | 12 => .object "HeapGames$Row"
  | 13 => .int
  | 14 => .int
  | _ => .boolean
theorem nmX8 : ∀ a, a < 16 → ∀ b, b < 16 → a ≠ b → (TX8 a).2.1 ≠ (TX8 b).2.1 := by decide +kernel
theorem tyX8_ok : ∀ k, k < 16 → parseFieldDescriptor (TX8 k).2.2.1 = some (tyX8 k) := by decide +kernel
def TX9 : u_T := fun k => match k with
  | 0 => ("HeapGames$Text", "letters", "LHeapGames$Row;", true)
  | 1 => ("HeapGames$Text", "length", "I", false)
  | _ => ("HeapGames$Text", "cursor", "I", false)
def tyX9 : Nat → FieldType := fun k => match k with
  | 0 => .object "HeapGames$Row"
  | 1 => .int
  | _ => .int
theorem nmX9 : ∀ a, a < 3 → ∀ b, b < 3 → a ≠ b → (TX9 a).2.1 ≠ (TX9 b).2.1 := by decide +kernel
theorem tyX9_ok : ∀ k, k < 3 → parseFieldDescriptor (TX9 k).2.2.1 = some (tyX9 k) := by decide +kernel
def TX10 : u_T := fun k => match k with
  | 0 => ("HeapGames", "rules", "LHeapGames$Rules;", true)
  | 1 => ("HeapGames", "layouts", "LHeapGames$Layouts;", true)
  | 2 => ("HeapGames", "moves", "LHeapGames$Moves;", true)
  | 3 => ("HeapGames", "solver", "LHeapGames$Solver;", true)
  | 4 => ("HeapGames", "values", "LHeapGames$GrundyValues;", true)
  | 5 => ("HeapGames", "text", "LHeapGames$Text;", true)
  | 6 => ("HeapGames", "rulesReader", "LHeapGames$RulesReader;", true)
  | 7 => ("HeapGames", "positionReader", "LHeapGames$PositionReader;", true)
  | 8 => ("HeapGames", "history", "LHeapGames$History;", true)
  | _ => ("HeapGames", "here", "I", false)
def tyX10 : Nat → FieldType := fun k => match k with
  | 0 => .object "HeapGames$Rules"
  | 1 => .object "HeapGames$Layouts"
  | 2 => .object "HeapGames$Moves"
  | 3 => .object "HeapGames$Solver"
  | 4 => .object "HeapGames$GrundyValues"
  | 5 => .object "HeapGames$Text"
  | 6 => .object "HeapGames$RulesReader"
  | 7 => .object "HeapGames$PositionReader"
  | 8 => .object "HeapGames$History"
  | _ => .int
theorem nmX10 : ∀ a, a < 10 → ∀ b, b < 10 → a ≠ b → (TX10 a).2.1 ≠ (TX10 b).2.1 := by decide +kernel
theorem tyX10_ok : ∀ k, k < 10 → parseFieldDescriptor (TX10 k).2.2.1 = some (tyX10 k) := by decide +kernel
def TX11 : u_T := fun k => match k with
  | 0 => ("HeapGamesModel", "heaps", "[I", true)
  | 1 => ("HeapGamesModel", "row", "[I", true)
  | 2 => ("HeapGamesModel", "name", "[J", true)
  | 3 => ("HeapGamesModel", "digit", "[I", true)
  | 4 => ("HeapGamesModel", "obliging", "I", false)
  | 5 => ("HeapGamesModel", "growing", "I", false)
  | 6 => ("HeapGamesModel", "isMisere", "Z", false)
  | 7 => ("HeapGamesModel", "now", "I", false)
  | 8 => ("HeapGamesModel", "past", "[I", true)
  | 9 => ("HeapGamesModel", "undos", "I", false)
  | 10 => ("HeapGamesModel", "made", "[I", true)
  | 11 => ("HeapGamesModel", "makes", "I", false)
  | 12 => ("HeapGamesModel", "kind", "[I", true)
  | 13 => ("HeapGamesModel", "size", "[I", true)
  | 14 => ("HeapGamesModel", "taken", "[I", true)
  | 15 => ("HeapGamesModel", "small", "[I", true)
  | 16 => ("HeapGamesModel", "great", "[I", true)
  | 17 => ("HeapGamesModel", "to", "[I", true)
  | 18 => ("HeapGamesModel", "moves", "I", false)
  | 19 => ("HeapGamesModel", "isSolved", "Z", false)
  | 20 => ("HeapGamesModel", "from", "[I", true)
  | 21 => ("HeapGamesModel", "next", "[I", true)
  | 22 => ("HeapGamesModel", "outcomes", "[I", true)
  | 23 => ("HeapGamesModel", "distances", "[I", true)
  | 24 => ("HeapGamesModel", "text", "[I", true)
  | 25 => ("HeapGamesModel", "textLength", "I", false)
  | 26 => ("HeapGamesModel", "place", "I", false)
  | 27 => ("HeapGamesModel", "fault", "I", false)
  | 28 => ("HeapGamesModel", "read", "[I", true)
  | 29 => ("HeapGamesModel", "value", "[I", true)
  | 30 => ("HeapGamesModel", "seen", "[Z", true)
  | 31 => ("HeapGamesModel", "reached", "[Z", true)
  | 32 => ("HeapGamesModel", "queue", "[I", true)
  | _ => ("HeapGamesModel", "hash", "J", false)
def tyX11 : Nat → FieldType := fun k => match k with
  | 0 => .array .int
  | 1 => .array .int
  | 2 => .array .long
  | 3 => .array .int
  | 4 => .int
  | 5 => .int
  | 6 => .boolean
  | 7 => .int
  | 8 => .array .int
  | 9 => .int
  | 10 => .array .int
  | 11 => .int
  | 12 => .array .int
  | 13 => .array .int
  | 14 => .array .int
  | 15 => .array .int
  | 16 => .array .int
  | 17 => .array .int
  | 18 => .int
  | 19 => .boolean
  | 20 => .array .int
  | 21 => .array .int
  | 22 => .array .int
  | 23 => .array .int
  | 24 => .array .int
  | 25 => .int
  | 26 => .int
  | 27 => .int
  | 28 => .array .int
  | 29 => .array .int
  | 30 => .array .boolean
  | 31 => .array .boolean
  | 32 => .array .int
  | _ => .long
theorem nmX11 : ∀ a, a < 34 → ∀ b, b < 34 → a ≠ b → (TX11 a).2.1 ≠ (TX11 b).2.1 := by decide +kernel
theorem tyX11_ok : ∀ k, k < 34 → parseFieldDescriptor (TX11 k).2.2.1 = some (tyX11 k) := by decide +kernel
def hm_cl : List vw_C := [("HeapGames$GrundyValues", TX0, 6), ("HeapGames$History", TX1, 3), ("HeapGames$Layouts", TX2, 8), ("HeapGames$Moves", TX3, 13), ("HeapGames$PositionReader", TX4, 3), ("HeapGames$Row", TX5, 1), ("HeapGames$Rules", TX6, 4), ("HeapGames$RulesReader", TX7, 1), ("HeapGames$Solver", TX8, 16), ("HeapGames$Text", TX9, 3), ("HeapGames", TX10, 10), ("HeapGamesModel", TX11, 34)]
def hm_nF : List (String × Nat × String × String × String × String) := [("HeapGames", 95, "HeapGames$Rules", "obliging", "I", "HeapGames"), ("HeapGames", 98, "HeapGames$Rules", "growing", "I", "HeapGames"), ("HeapGames", 101, "HeapGames$Rules", "misere", "I", "HeapGames"), ("HeapGames$Solver", 109, "HeapGames$Rules", "misere", "I", "HeapGames"), ("HeapGames", 196, "HeapGames$Moves", "kinds", "LHeapGames$Row;", "HeapGames"), ("HeapGames", 205, "HeapGames$Moves", "sizes", "LHeapGames$Row;", "HeapGames"), ("HeapGames", 208, "HeapGames$Moves", "takings", "LHeapGames$Row;", "HeapGames"), ("HeapGames", 211, "HeapGames$Moves", "smallerParts", "LHeapGames$Row;", "HeapGames"), ("HeapGames", 214, "HeapGames$Moves", "greaterParts", "LHeapGames$Row;", "HeapGames"), ("HeapGames$Solver", 81, "HeapGames$Moves", "listed", "I", "HeapGames"), ("HeapGames", 184, "HeapGames$Moves", "listed", "I", "HeapGames"), ("HeapGames$RulesReader", 51, "HeapGames$Text", "length", "I", "HeapGames"), ("HeapGames", 104, "HeapGames$Text", "length", "I", "HeapGames"), ("HeapGames$RulesReader", 47, "HeapGames$Text", "cursor", "I", "HeapGames"), ("HeapGames$PositionReader", 49, "HeapGames$Text", "cursor", "I", "HeapGames"), ("HeapGames", 166, "HeapGames$History", "kept", "I", "HeapGames")]
def hm_nM : List (String × Nat × MethodName × String) := [("HeapGames", 11, ⟨"HeapGames$Rules", "<init>", "()V"⟩, "HeapGames"), ("HeapGames$Layouts", 52, ⟨"HeapGames", "sizeOfKind", "(I)I"⟩, "HeapGames"), ("HeapGames$Layouts", 66, ⟨"HeapGames", "boundOfKind", "(I)I"⟩, "HeapGames"), ("HeapGames$Layouts", 55, ⟨"HeapGames", "kindOfHeap", "(II)I"⟩, "HeapGames"), ("HeapGames", 52, ⟨"HeapGames$Text", "<init>", "()V"⟩, "HeapGames"), ("HeapGames", 59, ⟨"HeapGames$RulesReader", "<init>", "()V"⟩, "HeapGames"), ("HeapGames", 75, ⟨"HeapGames$History", "<init>", "()V"⟩, "HeapGames"), ("HeapGames$PositionReader", 61, ⟨"HeapGames", "kindOfHeap", "(II)I"⟩, "HeapGames"), ("HeapGames$PositionReader", 22, ⟨"HeapGames", "positionOf", "(II)I"⟩, "HeapGames"), ("HeapGames$Moves", 60, ⟨"HeapGames", "layoutOf", "(I)I"⟩, "HeapGames"), ("HeapGames$Moves", 63, ⟨"HeapGames", "passOf", "(I)I"⟩, "HeapGames"), ("HeapGames$Moves", 101, ⟨"HeapGames", "sizeOfKind", "(I)I"⟩, "HeapGames"), ("HeapGames$Moves", 104, ⟨"HeapGames", "boundOfKind", "(I)I"⟩, "HeapGames"), ("HeapGames$Moves", 134, ⟨"HeapGames", "kindOfHeap", "(II)I"⟩, "HeapGames"), ("HeapGames$Moves", 90, ⟨"HeapGames", "positionOf", "(II)I"⟩, "HeapGames")]
