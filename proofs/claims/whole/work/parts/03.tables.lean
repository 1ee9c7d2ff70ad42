/-! ===== printed by wip/gen/tables.py: the classes with objects, the methods, the links of every class, out of tables_1 ===== -/
def FT0 : u_T := fun k => match k with
  | _ => ("StampQuarrels$Board", "cells", "[I", true)
def TY0 : List FieldType := [(.array .int)]
def FT1 : u_T := fun k => match k with
  | 0 => ("StampQuarrels$Clerk", "mover", "LStampQuarrels$Mover;", true)
  | 1 => ("StampQuarrels$Clerk", "history", "LStampQuarrels$History;", true)
  | 2 => ("StampQuarrels$Clerk", "boardAhead", "LStampQuarrels$Board;", true)
  | 3 => ("StampQuarrels$Clerk", "historyAhead", "LStampQuarrels$History;", true)
  | 4 => ("StampQuarrels$Clerk", "facts", "[I", true)
  | 5 => ("StampQuarrels$Clerk", "stack", "[J", true)
  | 6 => ("StampQuarrels$Clerk", "done", "I", false)
  | 7 => ("StampQuarrels$Clerk", "latest", "I", false)
  | 8 => ("StampQuarrels$Clerk", "firstSum", "J", false)
  | 9 => ("StampQuarrels$Clerk", "secondSum", "J", false)
  | _ => ("StampQuarrels$Clerk", "stoppedAt", "I", false)
def TY1 : List FieldType := [(.object "StampQuarrels$Mover"), (.object "StampQuarrels$History"), (.object "StampQuarrels$Board"), (.object "StampQuarrels$History"), (.array .int), (.array .long), .int, .int, .long, .long, .int]
def FT2 : u_T := fun k => match k with
  | 0 => ("StampQuarrels$Guess", "judge", "LStampQuarrels$Judge;", true)
  | 1 => ("StampQuarrels$Guess", "state", "LStampQuarrels$State;", true)
  | 2 => ("StampQuarrels$Guess", "friends", "[I", true)
  | 3 => ("StampQuarrels$Guess", "pockets", "[I", true)
  | 4 => ("StampQuarrels$Guess", "alike", "[I", true)
  | 5 => ("StampQuarrels$Guess", "pocketOf", "[I", true)
  | 6 => ("StampQuarrels$Guess", "bestRight", "I", false)
  | _ => ("StampQuarrels$Guess", "leftAtMost", "I", false)
def TY2 : List FieldType := [(.object "StampQuarrels$Judge"), (.object "StampQuarrels$State"), (.array .int), (.array .int), (.array .int), (.array .int), .int, .int]
def FT3 : u_T := fun k => match k with
  | 0 => ("StampQuarrels$History", "cells", "[I", true)
  | 1 => ("StampQuarrels$History", "deeds", "[I", true)
  | 2 => ("StampQuarrels$History", "at", "I", false)
  | _ => ("StampQuarrels$History", "kept", "I", false)
def TY3 : List FieldType := [(.array .int), (.array .int), .int, .int]
def FT4 : u_T := fun k => match k with
  | 0 => ("StampQuarrels$Judge", "state", "LStampQuarrels$State;", true)
  | 1 => ("StampQuarrels$Judge", "board", "LStampQuarrels$Board;", true)
  | 2 => ("StampQuarrels$Judge", "facts", "[I", true)
  | _ => ("StampQuarrels$Judge", "stack", "[J", true)
def TY4 : List FieldType := [(.object "StampQuarrels$State"), (.object "StampQuarrels$Board"), (.array .int), (.array .long)]
def FT5 : u_T := fun k => match k with
  | 0 => ("StampQuarrels$Mover", "judge", "LStampQuarrels$Judge;", true)
  | 1 => ("StampQuarrels$Mover", "state", "LStampQuarrels$State;", true)
  | 2 => ("StampQuarrels$Mover", "board", "LStampQuarrels$Board;", true)
  | 3 => ("StampQuarrels$Mover", "history", "LStampQuarrels$History;", true)
  | _ => ("StampQuarrels$Mover", "drying", "[I", true)
def TY5 : List FieldType := [(.object "StampQuarrels$Judge"), (.object "StampQuarrels$State"), (.object "StampQuarrels$Board"), (.object "StampQuarrels$History"), (.array .int)]
def FT6 : u_T := fun k => match k with
  | 0 => ("StampQuarrels$Plans", "judge", "LStampQuarrels$Judge;", true)
  | 1 => ("StampQuarrels$Plans", "state", "LStampQuarrels$State;", true)
  | 2 => ("StampQuarrels$Plans", "board", "LStampQuarrels$Board;", true)
  | 3 => ("StampQuarrels$Plans", "open", "[I", true)
  | 4 => ("StampQuarrels$Plans", "worthNow", "[I", true)
  | 5 => ("StampQuarrels$Plans", "quarrels", "[I", true)
  | 6 => ("StampQuarrels$Plans", "bars", "[Z", true)
  | 7 => ("StampQuarrels$Plans", "reach", "[J", true)
  | 8 => ("StampQuarrels$Plans", "line", "[I", true)
  | 9 => ("StampQuarrels$Plans", "suits", "[I", true)
  | 10 => ("StampQuarrels$Plans", "least", "[I", true)
  | 11 => ("StampQuarrels$Plans", "opened", "I", false)
  | 12 => ("StampQuarrels$Plans", "due", "I", false)
  | 13 => ("StampQuarrels$Plans", "leastOfTwo", "I", false)
  | 14 => ("StampQuarrels$Plans", "leastQuarrel", "I", false)
  | 15 => ("StampQuarrels$Plans", "bestSize", "I", false)
  | 16 => ("StampQuarrels$Plans", "best", "[I", true)
  | 17 => ("StampQuarrels$Plans", "gaps", "I", false)
  | 18 => ("StampQuarrels$Plans", "chosen", "[I", true)
  | _ => ("StampQuarrels$Plans", "bestTwo", "I", false)
def TY6 : List FieldType := [(.object "StampQuarrels$Judge"), (.object "StampQuarrels$State"), (.object "StampQuarrels$Board"), (.array .int), (.array .int), (.array .int), (.array .boolean), (.array .long), (.array .int), (.array .int), (.array .int), .int, .int, .int, .int, .int, (.array .int), .int, (.array .int), .int]
def FT7 : u_T := fun k => match k with
  | 0 => ("StampQuarrels$Reader", "bytes", "[B", true)
  | 1 => ("StampQuarrels$Reader", "script", "LStampQuarrels$Script;", true)
  | 2 => ("StampQuarrels$Reader", "length", "I", false)
  | 3 => ("StampQuarrels$Reader", "ofOrders", "Z", false)
  | 4 => ("StampQuarrels$Reader", "sort", "I", false)
  | 5 => ("StampQuarrels$Reader", "start", "I", false)
  | 6 => ("StampQuarrels$Reader", "stop", "I", false)
  | 7 => ("StampQuarrels$Reader", "number", "I", false)
  | 8 => ("StampQuarrels$Reader", "parts", "I", false)
  | 9 => ("StampQuarrels$Reader", "clauseAt", "I", false)
  | _ => ("StampQuarrels$Reader", "faultAt", "I", false)
def TY7 : List FieldType := [(.array .byte), (.object "StampQuarrels$Script"), .int, .boolean, .int, .int, .int, .int, .int, .int, .int]
def FT8 : u_T := fun k => match k with
  | 0 => ("StampQuarrels$Reign", "state", "LStampQuarrels$State;", true)
  | 1 => ("StampQuarrels$Reign", "mover", "LStampQuarrels$Mover;", true)
  | 2 => ("StampQuarrels$Reign", "drawnLast", "J", false)
  | 3 => ("StampQuarrels$Reign", "board", "LStampQuarrels$Board;", true)
  | 4 => ("StampQuarrels$Reign", "stamps", "I", false)
  | _ => ("StampQuarrels$Reign", "letters", "I", false)
def TY8 : List FieldType := [(.object "StampQuarrels$State"), (.object "StampQuarrels$Mover"), .long, (.object "StampQuarrels$Board"), .int, .int]
def FT9 : u_T := fun k => match k with
  | 0 => ("StampQuarrels$Script", "clauses", "I", false)
  | 1 => ("StampQuarrels$Script", "steps", "I", false)
  | 2 => ("StampQuarrels$Script", "kind", "[I", true)
  | 3 => ("StampQuarrels$Script", "times", "[I", true)
  | 4 => ("StampQuarrels$Script", "first", "[I", true)
  | 5 => ("StampQuarrels$Script", "second", "[I", true)
  | 6 => ("StampQuarrels$Script", "test", "[I", true)
  | 7 => ("StampQuarrels$Script", "words", "[I", true)
  | 8 => ("StampQuarrels$Script", "op", "[I", true)
  | _ => ("StampQuarrels$Script", "arg", "[I", true)
def TY9 : List FieldType := [.int, .int, (.array .int), (.array .int), (.array .int), (.array .int), (.array .int), (.array .int), (.array .int), (.array .int)]
def FT10 : u_T := fun k => match k with
  | 0 => ("StampQuarrels$State", "stamps", "I", false)
  | 1 => ("StampQuarrels$State", "worth", "[I", true)
  | 2 => ("StampQuarrels$State", "realm", "[I", true)
  | 3 => ("StampQuarrels$State", "temper", "[I", true)
  | 4 => ("StampQuarrels$State", "letters", "I", false)
  | 5 => ("StampQuarrels$State", "fee", "[I", true)
  | 6 => ("StampQuarrels$State", "heard", "I", false)
  | 7 => ("StampQuarrels$State", "heardRight", "[I", true)
  | 8 => ("StampQuarrels$State", "heardQuarrel", "[I", true)
  | 9 => ("StampQuarrels$State", "rain", "I", false)
  | 10 => ("StampQuarrels$State", "mood", "I", false)
  | 11 => ("StampQuarrels$State", "laws", "I", false)
  | 12 => ("StampQuarrels$State", "lawTexts", "[LStampQuarrels$Script;", true)
  | 13 => ("StampQuarrels$State", "force", "I", false)
  | _ => ("StampQuarrels$State", "board", "LStampQuarrels$Board;", true)
def TY10 : List FieldType := [.int, (.array .int), (.array .int), (.array .int), .int, (.array .int), .int, (.array .int), (.array .int), .int, .int, .int, (.array (.object "StampQuarrels$Script")), .int, (.object "StampQuarrels$Board")]
def FT11 : u_T := fun k => match k with
  | 0 => ("StampQuarrels", "state", "LStampQuarrels$State;", true)
  | 1 => ("StampQuarrels", "images", "[LStampQuarrels$State;", true)
  | 2 => ("StampQuarrels", "imageKept", "[Z", true)
  | 3 => ("StampQuarrels", "tape", "[B", true)
  | 4 => ("StampQuarrels", "draft", "LStampQuarrels$Script;", true)
  | 5 => ("StampQuarrels", "reader", "LStampQuarrels$Reader;", true)
  | 6 => ("StampQuarrels", "history", "LStampQuarrels$History;", true)
  | 7 => ("StampQuarrels", "judge", "LStampQuarrels$Judge;", true)
  | 8 => ("StampQuarrels", "mover", "LStampQuarrels$Mover;", true)
  | 9 => ("StampQuarrels", "clerk", "LStampQuarrels$Clerk;", true)
  | 10 => ("StampQuarrels", "plans", "LStampQuarrels$Plans;", true)
  | 11 => ("StampQuarrels", "guess", "LStampQuarrels$Guess;", true)
  | 12 => ("StampQuarrels", "reign", "LStampQuarrels$Reign;", true)
  | 13 => ("StampQuarrels", "refusals", "[I", true)
  | 14 => ("StampQuarrels", "tapeLength", "I", false)
  | 15 => ("StampQuarrels", "misprints", "I", false)
  | _ => ("StampQuarrels", "status", "I", false)
def TY11 : List FieldType := [(.object "StampQuarrels$State"), (.array (.object "StampQuarrels$State")), (.array .boolean), (.array .byte), (.object "StampQuarrels$Script"), (.object "StampQuarrels$Reader"), (.object "StampQuarrels$History"), (.object "StampQuarrels$Judge"), (.object "StampQuarrels$Mover"), (.object "StampQuarrels$Clerk"), (.object "StampQuarrels$Plans"), (.object "StampQuarrels$Guess"), (.object "StampQuarrels$Reign"), (.array .int), .int, .int, .int]
def FT12 : u_T := fun k => match k with
  | 0 => ("StampQuarrelsModel", "thrown", "I", false)
  | 1 => ("StampQuarrelsModel", "status", "I", false)
  | 2 => ("StampQuarrelsModel", "refusals", "[I", true)
  | 3 => ("StampQuarrelsModel", "row", "[I", true)
  | 4 => ("StampQuarrelsModel", "images", "[I", true)
  | 5 => ("StampQuarrelsModel", "isKept", "[Z", true)
  | 6 => ("StampQuarrelsModel", "undos", "[I", true)
  | 7 => ("StampQuarrelsModel", "sorts", "[I", true)
  | 8 => ("StampQuarrelsModel", "nUndo", "I", false)
  | 9 => ("StampQuarrelsModel", "undosBefore", "[I", true)
  | 10 => ("StampQuarrelsModel", "sortsBefore", "[I", true)
  | 11 => ("StampQuarrelsModel", "misprints", "I", false)
  | 12 => ("StampQuarrelsModel", "tape", "[I", true)
  | 13 => ("StampQuarrelsModel", "taped", "I", false)
  | 14 => ("StampQuarrelsModel", "from", "I", false)
  | 15 => ("StampQuarrelsModel", "to", "I", false)
  | 16 => ("StampQuarrelsModel", "sort", "I", false)
  | 17 => ("StampQuarrelsModel", "worth", "J", false)
  | 18 => ("StampQuarrelsModel", "fault", "I", false)
  | 19 => ("StampQuarrelsModel", "bad", "Z", false)
  | 20 => ("StampQuarrelsModel", "ordered", "Z", false)
  | 21 => ("StampQuarrelsModel", "nClauses", "I", false)
  | 22 => ("StampQuarrelsModel", "nClause", "[I", true)
  | 23 => ("StampQuarrelsModel", "nCode", "I", false)
  | 24 => ("StampQuarrelsModel", "nOp", "[I", true)
  | 25 => ("StampQuarrelsModel", "nArg", "[I", true)
  | 26 => ("StampQuarrelsModel", "nLeaves", "I", false)
  | 27 => ("StampQuarrelsModel", "pile", "[I", true)
  | 28 => ("StampQuarrelsModel", "pileAt", "[I", true)
  | 29 => ("StampQuarrelsModel", "piled", "I", false)
  | 30 => ("StampQuarrelsModel", "opened", "I", false)
  | 31 => ("StampQuarrelsModel", "words", "[J", true)
  | 32 => ("StampQuarrelsModel", "orderWords", "[J", true)
  | 33 => ("StampQuarrelsModel", "heads", "[J", true)
  | 34 => ("StampQuarrelsModel", "law", "I", false)
  | 35 => ("StampQuarrelsModel", "set", "[J", true)
  | 36 => ("StampQuarrelsModel", "now", "[J", true)
  | 37 => ("StampQuarrelsModel", "rest", "[J", true)
  | 38 => ("StampQuarrelsModel", "broken", "Z", false)
  | 39 => ("StampQuarrelsModel", "value", "J", false)
  | 40 => ("StampQuarrelsModel", "sum", "J", false)
  | 41 => ("StampQuarrelsModel", "dried", "[I", true)
  | 42 => ("StampQuarrelsModel", "quarrels", "[I", true)
  | 43 => ("StampQuarrelsModel", "barred", "[Z", true)
  | 44 => ("StampQuarrelsModel", "counts", "[I", true)
  | 45 => ("StampQuarrelsModel", "tried", "[I", true)
  | 46 => ("StampQuarrelsModel", "best", "[I", true)
  | 47 => ("StampQuarrelsModel", "leastQuarrel", "I", false)
  | 48 => ("StampQuarrelsModel", "fewestOf", "I", false)
  | 49 => ("StampQuarrelsModel", "gaps", "[I", true)
  | 50 => ("StampQuarrelsModel", "alike", "[I", true)
  | 51 => ("StampQuarrelsModel", "many", "[I", true)
  | 52 => ("StampQuarrelsModel", "acts", "[J", true)
  | 53 => ("StampQuarrelsModel", "nOrder", "[I", true)
  | 54 => ("StampQuarrelsModel", "paidNow", "[I", true)
  | 55 => ("StampQuarrelsModel", "quarrelNow", "[I", true)
  | 56 => ("StampQuarrelsModel", "done", "I", false)
  | 57 => ("StampQuarrelsModel", "latest", "I", false)
  | 58 => ("StampQuarrelsModel", "stopped", "I", false)
  | 59 => ("StampQuarrelsModel", "off", "Z", false)
  | 60 => ("StampQuarrelsModel", "state", "J", false)
  | 61 => ("StampQuarrelsModel", "drawn", "[I", true)
  | 62 => ("StampQuarrelsModel", "drawnStamps", "I", false)
  | _ => ("StampQuarrelsModel", "drawnLetters", "I", false)
def TY12 : List FieldType := [.int, .int, (.array .int), (.array .int), (.array .int), (.array .boolean), (.array .int), (.array .int), .int, (.array .int), (.array .int), .int, (.array .int), .int, .int, .int, .int, .long, .int, .boolean, .boolean, .int, (.array .int), .int, (.array .int), (.array .int), .int, (.array .int), (.array .int), .int, .int, (.array .long), (.array .long), (.array .long), .int, (.array .long), (.array .long), (.array .long), .boolean, .long, .long, (.array .int), (.array .int), (.array .boolean), (.array .int), (.array .int), (.array .int), .int, .int, (.array .int), (.array .int), (.array .int), (.array .long), (.array .int), (.array .int), (.array .int), .int, .int, .int, .boolean, .long, (.array .int), .int, .int]
def CN : List String := ["StampQuarrels$Board", "StampQuarrels$Clerk", "StampQuarrels$Guess", "StampQuarrels$History", "StampQuarrels$Judge", "StampQuarrels$Mover", "StampQuarrels$Plans", "StampQuarrels$Reader", "StampQuarrels$Reign", "StampQuarrels$Script", "StampQuarrels$State", "StampQuarrels", "StampQuarrelsModel", "StampQuarrelsLaw", "java/lang/Math", "java/lang/Integer"]
abbrev cls : List vw_C := [("StampQuarrels$Board", FT0, 1), ("StampQuarrels$Clerk", FT1, 11), ("StampQuarrels$Guess", FT2, 8), ("StampQuarrels$History", FT3, 4), ("StampQuarrels$Judge", FT4, 4), ("StampQuarrels$Mover", FT5, 5), ("StampQuarrels$Plans", FT6, 20), ("StampQuarrels$Reader", FT7, 11), ("StampQuarrels$Reign", FT8, 6), ("StampQuarrels$Script", FT9, 10), ("StampQuarrels$State", FT10, 15), ("StampQuarrels", FT11, 17), ("StampQuarrelsModel", FT12, 64)]
def TYS : List (List FieldType) := [TY0, TY1, TY2, TY3, TY4, TY5, TY6, TY7, TY8, TY9, TY10, TY11, TY12]
/-- a field's tag: 0 int, 1 long, 2 a reference, 10 boolean -/
def FTG : List (List Nat) := [[2], [2, 2, 2, 2, 2, 2, 0, 0, 1, 1, 0], [2, 2, 2, 2, 2, 2, 0, 0], [2, 2, 0, 0], [2, 2, 2, 2], [2, 2, 2, 2, 2], [2, 2, 2, 2, 2, 2, 2, 2, 2, 2, 2, 0, 0, 0, 0, 0, 2, 0, 2, 0], [2, 2, 0, 10, 0, 0, 0, 0, 0, 0, 0], [2, 2, 1, 2, 0, 0], [0, 0, 2, 2, 2, 2, 2, 2, 2, 2], [0, 2, 2, 2, 0, 2, 0, 2, 2, 0, 0, 0, 2, 0, 2], [2, 2, 2, 2, 2, 2, 2, 2, 2, 2, 2, 2, 2, 2, 0, 0, 0], [0, 0, 2, 2, 2, 2, 2, 2, 0, 2, 2, 0, 2, 0, 0, 0, 0, 1, 0, 10, 10, 0, 2, 0, 2, 2, 0, 2, 2, 0, 0, 2, 2, 2, 0, 2, 2, 2, 10, 1, 1, 2, 2, 2, 2, 2, 2, 0, 0, 2, 2, 2, 2, 2, 2, 2, 0, 0, 0, 10, 1, 2, 0, 0]]
theorem lays_0 : u_ws "StampQuarrels$Board" FT0 1 = [178].filterMap (fun i => lw_tbl[i]?) := by decide +kernel
theorem nam_0 : ∀ a, a < 1 → ∀ b, b < 1 → a ≠ b → (FT0 a).2.1 ≠ (FT0 b).2.1 := by decide +kernel
theorem typ_0 : ∀ k, k < 1 → parseFieldDescriptor (FT0 k).2.2.1 = some (TY0.getD k .int) := by decide +kernel
theorem own_0 : ∀ k, k < 1 → (FT0 k).1 = "StampQuarrels$Board" := by decide +kernel
theorem ins_0 : Cond.instantiable "StampQuarrels$Board" 1 ∈ lw_tbl ∧ Cond.initialized "StampQuarrels$Board" ∈ lw_tbl := ⟨List.mem_of_getElem? (i := 171) (by decide +kernel), List.mem_of_getElem? (i := 136) (by decide +kernel)⟩
theorem lays_1 : u_ws "StampQuarrels$Clerk" FT1 11 = [458, 460, 462, 464, 466, 468, 470, 472, 474, 476, 478].filterMap (fun i => lw_tbl[i]?) := by decide +kernel
theorem nam_1 : ∀ a, a < 11 → ∀ b, b < 11 → a ≠ b → (FT1 a).2.1 ≠ (FT1 b).2.1 := by decide +kernel
theorem typ_1 : ∀ k, k < 11 → parseFieldDescriptor (FT1 k).2.2.1 = some (TY1.getD k .int) := by decide +kernel
theorem own_1 : ∀ k, k < 11 → (FT1 k).1 = "StampQuarrels$Clerk" := by decide +kernel
theorem ins_1 : Cond.instantiable "StampQuarrels$Clerk" 11 ∈ lw_tbl ∧ Cond.initialized "StampQuarrels$Clerk" ∈ lw_tbl := ⟨List.mem_of_getElem? (i := 437) (by decide +kernel), List.mem_of_getElem? (i := 143) (by decide +kernel)⟩
theorem lays_2 : u_ws "StampQuarrels$Guess" FT2 8 = [571, 573, 575, 577, 579, 581, 583, 585].filterMap (fun i => lw_tbl[i]?) := by decide +kernel
theorem nam_2 : ∀ a, a < 8 → ∀ b, b < 8 → a ≠ b → (FT2 a).2.1 ≠ (FT2 b).2.1 := by decide +kernel
theorem typ_2 : ∀ k, k < 8 → parseFieldDescriptor (FT2 k).2.2.1 = some (TY2.getD k .int) := by decide +kernel
theorem own_2 : ∀ k, k < 8 → (FT2 k).1 = "StampQuarrels$Guess" := by decide +kernel
theorem ins_2 : Cond.instantiable "StampQuarrels$Guess" 8 ∈ lw_tbl ∧ Cond.initialized "StampQuarrels$Guess" ∈ lw_tbl := ⟨List.mem_of_getElem? (i := 555) (by decide +kernel), List.mem_of_getElem? (i := 145) (by decide +kernel)⟩
theorem lays_3 : u_ws "StampQuarrels$History" FT3 4 = [376, 378, 380, 382].filterMap (fun i => lw_tbl[i]?) := by decide +kernel
theorem nam_3 : ∀ a, a < 4 → ∀ b, b < 4 → a ≠ b → (FT3 a).2.1 ≠ (FT3 b).2.1 := by decide +kernel
theorem typ_3 : ∀ k, k < 4 → parseFieldDescriptor (FT3 k).2.2.1 = some (TY3.getD k .int) := by decide +kernel
theorem own_3 : ∀ k, k < 4 → (FT3 k).1 = "StampQuarrels$History" := by decide +kernel
theorem ins_3 : Cond.instantiable "StampQuarrels$History" 4 ∈ lw_tbl ∧ Cond.initialized "StampQuarrels$History" ∈ lw_tbl := ⟨List.mem_of_getElem? (i := 366) (by decide +kernel), List.mem_of_getElem? (i := 140) (by decide +kernel)⟩
theorem lays_4 : u_ws "StampQuarrels$Judge" FT4 4 = [401, 403, 405, 407].filterMap (fun i => lw_tbl[i]?) := by decide +kernel
theorem nam_4 : ∀ a, a < 4 → ∀ b, b < 4 → a ≠ b → (FT4 a).2.1 ≠ (FT4 b).2.1 := by decide +kernel
theorem typ_4 : ∀ k, k < 4 → parseFieldDescriptor (FT4 k).2.2.1 = some (TY4.getD k .int) := by decide +kernel
theorem own_4 : ∀ k, k < 4 → (FT4 k).1 = "StampQuarrels$Judge" := by decide +kernel
theorem ins_4 : Cond.instantiable "StampQuarrels$Judge" 4 ∈ lw_tbl ∧ Cond.initialized "StampQuarrels$Judge" ∈ lw_tbl := ⟨List.mem_of_getElem? (i := 386) (by decide +kernel), List.mem_of_getElem? (i := 141) (by decide +kernel)⟩
theorem lays_5 : u_ws "StampQuarrels$Mover" FT5 5 = [425, 427, 429, 431, 433].filterMap (fun i => lw_tbl[i]?) := by decide +kernel
theorem nam_5 : ∀ a, a < 5 → ∀ b, b < 5 → a ≠ b → (FT5 a).2.1 ≠ (FT5 b).2.1 := by decide +kernel
theorem typ_5 : ∀ k, k < 5 → parseFieldDescriptor (FT5 k).2.2.1 = some (TY5.getD k .int) := by decide +kernel
theorem own_5 : ∀ k, k < 5 → (FT5 k).1 = "StampQuarrels$Mover" := by decide +kernel
theorem ins_5 : Cond.instantiable "StampQuarrels$Mover" 5 ∈ lw_tbl ∧ Cond.initialized "StampQuarrels$Mover" ∈ lw_tbl := ⟨List.mem_of_getElem? (i := 412) (by decide +kernel), List.mem_of_getElem? (i := 142) (by decide +kernel)⟩
theorem lays_6 : u_ws "StampQuarrels$Plans" FT6 20 = [513, 515, 517, 519, 521, 523, 525, 527, 529, 531, 533, 535, 537, 539, 541, 543, 545, 547, 549, 551].filterMap (fun i => lw_tbl[i]?) := by decide +kernel
theorem nam_6 : ∀ a, a < 20 → ∀ b, b < 20 → a ≠ b → (FT6 a).2.1 ≠ (FT6 b).2.1 := by decide +kernel
theorem typ_6 : ∀ k, k < 20 → parseFieldDescriptor (FT6 k).2.2.1 = some (TY6.getD k .int) := by decide +kernel
theorem own_6 : ∀ k, k < 20 → (FT6 k).1 = "StampQuarrels$Plans" := by decide +kernel
theorem ins_6 : Cond.instantiable "StampQuarrels$Plans" 20 ∈ lw_tbl ∧ Cond.initialized "StampQuarrels$Plans" ∈ lw_tbl := ⟨List.mem_of_getElem? (i := 482) (by decide +kernel), List.mem_of_getElem? (i := 144) (by decide +kernel)⟩
theorem lays_7 : u_ws "StampQuarrels$Reader" FT7 11 = [342, 344, 346, 348, 350, 352, 354, 356, 358, 360, 362].filterMap (fun i => lw_tbl[i]?) := by decide +kernel
theorem nam_7 : ∀ a, a < 11 → ∀ b, b < 11 → a ≠ b → (FT7 a).2.1 ≠ (FT7 b).2.1 := by decide +kernel
theorem typ_7 : ∀ k, k < 11 → parseFieldDescriptor (FT7 k).2.2.1 = some (TY7.getD k .int) := by decide +kernel
theorem own_7 : ∀ k, k < 11 → (FT7 k).1 = "StampQuarrels$Reader" := by decide +kernel
theorem ins_7 : Cond.instantiable "StampQuarrels$Reader" 11 ∈ lw_tbl ∧ Cond.initialized "StampQuarrels$Reader" ∈ lw_tbl := ⟨List.mem_of_getElem? (i := 325) (by decide +kernel), List.mem_of_getElem? (i := 139) (by decide +kernel)⟩
theorem lays_8 : u_ws "StampQuarrels$Reign" FT8 6 = [609, 611, 613, 615, 617, 619].filterMap (fun i => lw_tbl[i]?) := by decide +kernel
theorem nam_8 : ∀ a, a < 6 → ∀ b, b < 6 → a ≠ b → (FT8 a).2.1 ≠ (FT8 b).2.1 := by decide +kernel
theorem typ_8 : ∀ k, k < 6 → parseFieldDescriptor (FT8 k).2.2.1 = some (TY8.getD k .int) := by decide +kernel
theorem own_8 : ∀ k, k < 6 → (FT8 k).1 = "StampQuarrels$Reign" := by decide +kernel
theorem ins_8 : Cond.instantiable "StampQuarrels$Reign" 6 ∈ lw_tbl ∧ Cond.initialized "StampQuarrels$Reign" ∈ lw_tbl := ⟨List.mem_of_getElem? (i := 589) (by decide +kernel), List.mem_of_getElem? (i := 146) (by decide +kernel)⟩
theorem lays_9 : u_ws "StampQuarrels$Script" FT9 10 = [301, 303, 305, 307, 309, 311, 313, 315, 317, 319].filterMap (fun i => lw_tbl[i]?) := by decide +kernel
theorem nam_9 : ∀ a, a < 10 → ∀ b, b < 10 → a ≠ b → (FT9 a).2.1 ≠ (FT9 b).2.1 := by decide +kernel
theorem typ_9 : ∀ k, k < 10 → parseFieldDescriptor (FT9 k).2.2.1 = some (TY9.getD k .int) := by decide +kernel
theorem own_9 : ∀ k, k < 10 → (FT9 k).1 = "StampQuarrels$Script" := by decide +kernel
theorem ins_9 : Cond.instantiable "StampQuarrels$Script" 10 ∈ lw_tbl ∧ Cond.initialized "StampQuarrels$Script" ∈ lw_tbl := ⟨List.mem_of_getElem? (i := 262) (by decide +kernel), List.mem_of_getElem? (i := 137) (by decide +kernel)⟩
theorem lays_10 : u_ws "StampQuarrels$State" FT10 15 = [229, 231, 233, 235, 237, 239, 241, 243, 245, 247, 249, 251, 253, 255, 257].filterMap (fun i => lw_tbl[i]?) := by decide +kernel
theorem nam_10 : ∀ a, a < 15 → ∀ b, b < 15 → a ≠ b → (FT10 a).2.1 ≠ (FT10 b).2.1 := by decide +kernel
theorem typ_10 : ∀ k, k < 15 → parseFieldDescriptor (FT10 k).2.2.1 = some (TY10.getD k .int) := by decide +kernel
theorem own_10 : ∀ k, k < 15 → (FT10 k).1 = "StampQuarrels$State" := by decide +kernel
theorem ins_10 : Cond.instantiable "StampQuarrels$State" 15 ∈ lw_tbl ∧ Cond.initialized "StampQuarrels$State" ∈ lw_tbl := ⟨List.mem_of_getElem? (i := 163) (by decide +kernel), List.mem_of_getElem? (i := 135) (by decide +kernel)⟩
theorem lays_11 : u_ws "StampQuarrels" FT11 17 = [639, 641, 643, 645, 647, 649, 651, 653, 655, 657, 659, 661, 663, 665, 667, 669, 671].filterMap (fun i => lw_tbl[i]?) := by decide +kernel
theorem nam_11 : ∀ a, a < 17 → ∀ b, b < 17 → a ≠ b → (FT11 a).2.1 ≠ (FT11 b).2.1 := by decide +kernel
theorem typ_11 : ∀ k, k < 17 → parseFieldDescriptor (FT11 k).2.2.1 = some (TY11.getD k .int) := by decide +kernel
theorem own_11 : ∀ k, k < 17 → (FT11 k).1 = "StampQuarrels" := by decide +kernel
theorem ins_11 : Cond.instantiable "StampQuarrels" 17 ∈ lw_tbl ∧ Cond.initialized "StampQuarrels" ∈ lw_tbl := ⟨List.mem_of_getElem? (i := 155) (by decide +kernel), List.mem_of_getElem? (i := 134) (by decide +kernel)⟩
theorem lays_12 : u_ws "StampQuarrelsModel" FT12 64 = [1522, 1524, 1526, 1528, 1530, 1532, 1534, 1536, 1538, 1540, 1542, 1544, 1546, 1548, 1550, 1552, 1554, 1556, 1558, 1560, 1562, 1564, 1566, 1568, 1570, 1572, 1574, 1576, 1578, 1580, 1582, 1584, 1586, 1588, 1590, 1592, 1594, 1596, 1598, 1600, 1602, 1604, 1606, 1608, 1610, 1612, 1614, 1616, 1618, 1620, 1622, 1624, 1626, 1628, 1630, 1632, 1634, 1636, 1638, 1640, 1642, 1644, 1646, 1648].filterMap (fun i => lw_tbl[i]?) := by decide +kernel
theorem nam_12 : ∀ a, a < 64 → ∀ b, b < 64 → a ≠ b → (FT12 a).2.1 ≠ (FT12 b).2.1 := by decide +kernel
theorem typ_12 : ∀ k, k < 64 → parseFieldDescriptor (FT12 k).2.2.1 = some (TY12.getD k .int) := by decide +kernel
theorem own_12 : ∀ k, k < 64 → (FT12 k).1 = "StampQuarrelsModel" := by decide +kernel
theorem ins_12 : Cond.instantiable "StampQuarrelsModel" 64 ∈ lw_tbl ∧ Cond.initialized "StampQuarrelsModel" ∈ lw_tbl := ⟨List.mem_of_getElem? (i := 1431) (by decide +kernel), List.mem_of_getElem? (i := 147) (by decide +kernel)⟩
/-- a method: name, code, its locals, what it returns, its class, how many parameters, the place of its code among the words -/
abbrev ME : Type := MethodName × ByteArray × Nat × Option FieldType × Nat × Nat × Nat
def MT_0 : List ME := [(⟨"StampQuarrels", "<init>", "()V"⟩, prog_1_method_1_code, 2, none, 11, 0, 158),
  (⟨"StampQuarrels$State", "<init>", "()V"⟩, prog_12_method_1_code, 1, none, 10, 0, 166),
  (⟨"StampQuarrels$Board", "<init>", "()V"⟩, prog_2_method_1_code, 1, none, 0, 0, 174),
  (⟨"StampQuarrels$Script", "<init>", "(II)V"⟩, prog_11_method_1_code, 5, none, 9, 2, 265),
  (⟨"StampQuarrels$Reader", "<init>", "([BLStampQuarrels$Script;)V"⟩, prog_9_method_1_code, 3, none, 7, 2, 328),
  (⟨"StampQuarrels$History", "<init>", "()V"⟩, prog_5_method_1_code, 1, none, 3, 0, 369),
  (⟨"StampQuarrels$Judge", "<init>", "(LStampQuarrels$State;LStampQuarrels$Board;)V"⟩, prog_6_method_1_code, 3, none, 4, 2, 389),
  (⟨"StampQuarrels$Mover", "<init>", "(LStampQuarrels$Judge;LStampQuarrels$History;)V"⟩, prog_7_method_1_code, 3, none, 5, 2, 415),
  (⟨"StampQuarrels$Clerk", "<init>", "(LStampQuarrels$Mover;LStampQuarrels$History;)V"⟩, prog_3_method_1_code, 3, none, 1, 2, 440),
  (⟨"StampQuarrels$Plans", "<init>", "(LStampQuarrels$Judge;)V"⟩, prog_8_method_1_code, 2, none, 6, 1, 485),
  (⟨"StampQuarrels$Guess", "<init>", "(LStampQuarrels$Judge;)V"⟩, prog_4_method_1_code, 2, none, 2, 1, 558),
  (⟨"StampQuarrels$Reign", "<init>", "(LStampQuarrels$State;)V"⟩, prog_10_method_1_code, 2, none, 8, 1, 592),
  (⟨"StampQuarrels", "stamp", "(IIII)I"⟩, prog_1_method_2_code, 5, (some .int), 11, 4, 677),
  (⟨"StampQuarrels", "canBeStamp", "(IIII)Z"⟩, prog_1_method_48_code, 4, (some .boolean), 11, 4, 680),
  (⟨"StampQuarrels", "refused", "(I)I"⟩, prog_1_method_41_code, 2, (some .int), 11, 1, 684),
  (⟨"StampQuarrels$State", "addStamp", "(IIII)I"⟩, prog_12_method_3_code, 6, (some .int), 10, 4, 688),
  (⟨"StampQuarrels$Board", "setGlue", "(II)V"⟩, prog_2_method_6_code, 3, none, 0, 2, 692),
  (⟨"StampQuarrels$Board", "setHome", "(II)V"⟩, prog_2_method_8_code, 3, none, 0, 2, 696),
  (⟨"StampQuarrels", "granted", "(I)I"⟩, prog_1_method_42_code, 2, (some .int), 11, 1, 700),
  (⟨"StampQuarrels", "of", "(II)I"⟩, prog_1_method_3_code, 4, (some .int), 11, 2, 704),
  (⟨"StampQuarrels", "isStamp", "(I)Z"⟩, prog_1_method_44_code, 2, (some .boolean), 11, 1, 708),
  (⟨"StampQuarrels$Board", "glueOf", "(I)I"⟩, prog_2_method_5_code, 2, (some .int), 0, 1, 712),
  (⟨"StampQuarrels$Board", "letterOf", "(I)I"⟩, prog_2_method_9_code, 2, (some .int), 0, 1, 716),
  (⟨"StampQuarrels$Board", "homeOf", "(I)I"⟩, prog_2_method_7_code, 2, (some .int), 0, 1, 720)]
def MT_1 : List ME := [(⟨"StampQuarrels$Board", "spotOf", "(I)I"⟩, prog_2_method_16_code, 4, (some .int), 0, 1, 725),
  (⟨"StampQuarrels$Board", "sizeOf", "(I)I"⟩, prog_2_method_10_code, 2, (some .int), 0, 1, 730),
  (⟨"StampQuarrels$Board", "stampAt", "(II)I"⟩, prog_2_method_12_code, 3, (some .int), 0, 2, 734),
  (⟨"StampQuarrels$Judge", "counts", "(I)I"⟩, prog_6_method_5_code, 2, (some .int), 4, 1, 739),
  (⟨"StampQuarrels$Judge", "told", "(IIIII)I"⟩, prog_6_method_8_code, 11, (some .int), 4, 5, 743),
  (⟨"StampQuarrels$Board", "today", "()I"⟩, prog_2_method_3_code, 1, (some .int), 0, 0, 748),
  (⟨"StampQuarrels$Script", "tell", "(I[I[J)J"⟩, prog_11_method_3_code, 15, (some .long), 9, 3, 752),
  (⟨"StampQuarrels$Judge", "dries", "(I)I"⟩, prog_6_method_4_code, 2, (some .int), 4, 1, 766),
  (⟨"StampQuarrels", "letter", "(I)I"⟩, prog_1_method_4_code, 2, (some .int), 11, 1, 770),
  (⟨"StampQuarrels$State", "addLetter", "(I)I"⟩, prog_12_method_4_code, 3, (some .int), 10, 1, 774),
  (⟨"StampQuarrels$Board", "setSize", "(II)V"⟩, prog_2_method_11_code, 3, none, 0, 2, 778),
  (⟨"StampQuarrels$Board", "setLate", "(II)V"⟩, prog_2_method_15_code, 3, none, 0, 2, 782),
  (⟨"StampQuarrels", "at", "(II)I"⟩, prog_1_method_5_code, 5, (some .int), 11, 2, 786),
  (⟨"StampQuarrels", "isLetter", "(I)Z"⟩, prog_1_method_45_code, 2, (some .boolean), 11, 1, 790),
  (⟨"StampQuarrels$Judge", "paid", "(I)I"⟩, prog_6_method_6_code, 4, (some .int), 4, 1, 795),
  (⟨"StampQuarrels$Judge", "quarrelOn", "(I)I"⟩, prog_6_method_7_code, 4, (some .int), 4, 1, 802),
  (⟨"StampQuarrels$Judge", "quarrel", "(II)I"⟩, prog_6_method_2_code, 5, (some .int), 4, 2, 806),
  (⟨"StampQuarrels$Board", "lateOf", "(I)I"⟩, prog_2_method_14_code, 2, (some .int), 0, 1, 810),
  (⟨"StampQuarrels", "asks", "(III)I"⟩, prog_1_method_6_code, 4, (some .int), 11, 3, 815),
  (⟨"StampQuarrels$Judge", "barred", "(II)Z"⟩, prog_6_method_3_code, 3, (some .boolean), 4, 2, 820),
  (⟨"StampQuarrels", "terms", "(II)I"⟩, prog_1_method_7_code, 4, (some .int), 11, 2, 824),
  (⟨"StampQuarrels", "mostOfTerm", "(I)I"⟩, prog_1_method_49_code, 1, (some .int), 11, 1, 827),
  (⟨"StampQuarrels", "termNow", "(I)I"⟩, prog_1_method_50_code, 2, (some .int), 11, 1, 831),
  (⟨"StampQuarrels$Board", "setDay", "(I)V"⟩, prog_2_method_4_code, 2, none, 0, 1, 836)]
def MT_2 : List ME := [(⟨"StampQuarrels", "feed", "(IIIII)I"⟩, prog_1_method_8_code, 6, (some .int), 11, 5, 840),
  (⟨"StampQuarrels", "putOnTape", "(I)V"⟩, prog_1_method_51_code, 3, none, 11, 1, 844),
  (⟨"StampQuarrels", "end", "(I)I"⟩, prog_1_method_9_code, 2, (some .int), 11, 1, 848),
  (⟨"StampQuarrels", "row", "()I"⟩, prog_1_method_10_code, 4, (some .int), 11, 0, 852),
  (⟨"StampQuarrels", "printed", "(I)Z"⟩, prog_1_method_52_code, 6, (some .boolean), 11, 1, 856),
  (⟨"StampQuarrels", "misprints", "()I"⟩, prog_1_method_11_code, 1, (some .int), 11, 0, 860),
  (⟨"StampQuarrels", "law", "()I"⟩, prog_1_method_12_code, 2, (some .int), 11, 0, 864),
  (⟨"StampQuarrels$Reader", "readLaw", "(I)Z"⟩, prog_9_method_2_code, 2, (some .boolean), 7, 1, 868),
  (⟨"StampQuarrels$Reader", "readText", "(I)Z"⟩, prog_9_method_4_code, 3, (some .boolean), 7, 1, 872),
  (⟨"StampQuarrels$Reader", "next", "()V"⟩, prog_9_method_24_code, 1, none, 7, 0, 879),
  (⟨"StampQuarrels$Reader", "sortAt", "(I)I"⟩, prog_9_method_25_code, 3, (some .int), 7, 1, 883),
  (⟨"StampQuarrels$Reader", "orderClause", "(I)Z"⟩, prog_9_method_7_code, 3, (some .boolean), 7, 1, 887),
  (⟨"StampQuarrels$Reader", "orderKind", "()I"⟩, prog_9_method_8_code, 1, (some .int), 7, 0, 891),
  (⟨"StampQuarrels$Reader", "sees", "(Ljava/lang/String;)Z"⟩, prog_9_method_23_code, 3, (some .boolean), 7, 1, 896),
  (⟨"StampQuarrels$Reader", "fail", "()Z"⟩, prog_9_method_21_code, 1, (some .boolean), 7, 0, 951),
  (⟨"StampQuarrels$Reader", "wholeSum", "()Z"⟩, prog_9_method_9_code, 1, (some .boolean), 7, 0, 955),
  (⟨"StampQuarrels$Reader", "sum", "(I)Z"⟩, prog_9_method_15_code, 4, (some .boolean), 7, 1, 959),
  (⟨"StampQuarrels$Reader", "term", "(I)Z"⟩, prog_9_method_16_code, 4, (some .boolean), 7, 1, 963),
  (⟨"StampQuarrels$Reader", "part", "(I)Z"⟩, prog_9_method_17_code, 3, (some .boolean), 7, 1, 967),
  (⟨"StampQuarrels$Reader", "took", "(Ljava/lang/String;)Z"⟩, prog_9_method_22_code, 2, (some .boolean), 7, 1, 973),
  (⟨"StampQuarrels$Reader", "put", "(II)Z"⟩, prog_9_method_20_code, 3, (some .boolean), 7, 2, 977),
  (⟨"StampQuarrels$Reader", "orderWord", "()Z"⟩, prog_9_method_19_code, 3, (some .boolean), 7, 0, 981),
  (⟨"StampQuarrels$Reader", "lawWord", "()Z"⟩, prog_9_method_18_code, 2, (some .boolean), 7, 0, 992),
  (⟨"StampQuarrels$Reader", "lawClause", "(I)Z"⟩, prog_9_method_5_code, 3, (some .boolean), 7, 1, 1010)]
def MT_3 : List ME := [(⟨"StampQuarrels$Reader", "lawKind", "()I"⟩, prog_9_method_6_code, 1, (some .int), 7, 0, 1014),
  (⟨"StampQuarrels$Reader", "condition", "(I)Z"⟩, prog_9_method_10_code, 2, (some .boolean), 7, 1, 1022),
  (⟨"StampQuarrels$Reader", "anyOf", "(I)Z"⟩, prog_9_method_11_code, 4, (some .boolean), 7, 1, 1027),
  (⟨"StampQuarrels$Reader", "allOf", "(I)Z"⟩, prog_9_method_12_code, 4, (some .boolean), 7, 1, 1031),
  (⟨"StampQuarrels$Reader", "plain", "(I)Z"⟩, prog_9_method_13_code, 4, (some .boolean), 7, 1, 1035),
  (⟨"StampQuarrels$Reader", "comparison", "(I)Z"⟩, prog_9_method_14_code, 3, (some .boolean), 7, 1, 1042),
  (⟨"StampQuarrels$Script", "trimmed", "()LStampQuarrels$Script;"⟩, prog_11_method_2_code, 2, (some (.object "StampQuarrels$Script")), 9, 0, 1052),
  (⟨"StampQuarrels$State", "addLaw", "(LStampQuarrels$Script;)I"⟩, prog_12_method_6_code, 3, (some .int), 10, 1, 1061),
  (⟨"StampQuarrels", "orders", "()I"⟩, prog_1_method_13_code, 2, (some .int), 11, 0, 1065),
  (⟨"StampQuarrels$Reader", "readOrders", "(I)Z"⟩, prog_9_method_3_code, 2, (some .boolean), 7, 1, 1069),
  (⟨"StampQuarrels$Clerk", "carryOut", "(LStampQuarrels$Script;)I"⟩, prog_3_method_2_code, 6, (some .int), 1, 1, 1073),
  (⟨"StampQuarrels$Board", "copyFrom", "(LStampQuarrels$Board;)V"⟩, prog_2_method_2_code, 2, none, 0, 1, 1077),
  (⟨"StampQuarrels$History", "copyFrom", "(LStampQuarrels$History;)V"⟩, prog_5_method_2_code, 2, none, 3, 1, 1082),
  (⟨"StampQuarrels$Clerk", "isDue", "(LStampQuarrels$Script;I)Z"⟩, prog_3_method_4_code, 3, (some .boolean), 1, 2, 1087),
  (⟨"StampQuarrels$Clerk", "look", "(I)V"⟩, prog_3_method_5_code, 5, none, 1, 1, 1091),
  (⟨"StampQuarrels$State", "inSheet", "()I"⟩, prog_12_method_7_code, 3, (some .int), 10, 0, 1096),
  (⟨"StampQuarrels$Mover", "act", "(III)I"⟩, prog_7_method_2_code, 5, (some .int), 5, 3, 1107),
  (⟨"StampQuarrels$History", "ahead", "(LStampQuarrels$Board;)V"⟩, prog_5_method_3_code, 2, none, 3, 1, 1111),
  (⟨"StampQuarrels$Mover", "stickOn", "(II)I"⟩, prog_7_method_3_code, 4, (some .int), 5, 2, 1115),
  (⟨"StampQuarrels$Board", "setStampAt", "(III)V"⟩, prog_2_method_13_code, 4, none, 0, 3, 1124),
  (⟨"StampQuarrels$Mover", "peelFrom", "(I)I"⟩, prog_7_method_4_code, 4, (some .int), 5, 1, 1130),
  (⟨"StampQuarrels$Mover", "cancelAll", "(I)I"⟩, prog_7_method_5_code, 4, (some .int), 5, 1, 1134),
  (⟨"StampQuarrels$Mover", "passDay", "()I"⟩, prog_7_method_6_code, 3, (some .int), 5, 0, 1143),
  (⟨"StampQuarrels$Mover", "dropDry", "(I)I"⟩, prog_7_method_7_code, 6, (some .int), 5, 1, 1151)]
def MT_4 : List ME := [(⟨"StampQuarrels$History", "keep", "(I)V"⟩, prog_5_method_4_code, 2, none, 3, 1, 1156),
  (⟨"StampQuarrels$Clerk", "giveUp", "(I)I"⟩, prog_3_method_3_code, 2, (some .int), 1, 1, 1161),
  (⟨"StampQuarrels", "answered", "(I)I"⟩, prog_1_method_43_code, 2, (some .int), 11, 1, 1165),
  (⟨"StampQuarrels", "fault", "()I"⟩, prog_1_method_14_code, 1, (some .int), 11, 0, 1169),
  (⟨"StampQuarrels", "stopped", "()I"⟩, prog_1_method_15_code, 1, (some .int), 11, 0, 1173),
  (⟨"StampQuarrels", "force", "(I)I"⟩, prog_1_method_16_code, 3, (some .int), 11, 1, 1177),
  (⟨"StampQuarrels", "isLaw", "(I)Z"⟩, prog_1_method_46_code, 2, (some .boolean), 11, 1, 1181),
  (⟨"StampQuarrels", "stick", "(II)I"⟩, prog_1_method_17_code, 3, (some .int), 11, 2, 1185),
  (⟨"StampQuarrels", "peel", "(I)I"⟩, prog_1_method_18_code, 2, (some .int), 11, 1, 1190),
  (⟨"StampQuarrels", "cancel", "(I)I"⟩, prog_1_method_19_code, 2, (some .int), 11, 1, 1194),
  (⟨"StampQuarrels", "pass", "()I"⟩, prog_1_method_20_code, 1, (some .int), 11, 0, 1198),
  (⟨"StampQuarrels", "undo", "()I"⟩, prog_1_method_21_code, 1, (some .int), 11, 0, 1202),
  (⟨"StampQuarrels$History", "takeBack", "(LStampQuarrels$Board;)I"⟩, prog_5_method_5_code, 2, (some .int), 3, 1, 1206),
  (⟨"StampQuarrels", "madeUp", "(II)I"⟩, prog_1_method_22_code, 3, (some .int), 11, 2, 1210),
  (⟨"StampQuarrels$Plans", "makeUp", "(I)Z"⟩, prog_8_method_2_code, 2, (some .boolean), 6, 1, 1214),
  (⟨"StampQuarrels$Plans", "findOpen", "()V"⟩, prog_8_method_3_code, 2, none, 6, 0, 1218),
  (⟨"StampQuarrels$Plans", "findReach", "()V"⟩, prog_8_method_4_code, 3, none, 6, 0, 1225),
  (⟨"StampQuarrels$Plans", "stillNeeded", "(II)I"⟩, prog_8_method_5_code, 4, (some .int), 6, 2, 1229),
  (⟨"StampQuarrels$Plans", "findQuarrels", "()V"⟩, prog_8_method_6_code, 4, none, 6, 0, 1233),
  (⟨"StampQuarrels$Plans", "extend", "(IIII)V"⟩, prog_8_method_8_code, 11, none, 6, 4, 1240),
  (⟨"StampQuarrels$Plans", "isBetter", "(II)Z"⟩, prog_8_method_7_code, 3, (some .boolean), 6, 2, 1244),
  (⟨"StampQuarrels", "buffers", "(II)I"⟩, prog_1_method_23_code, 3, (some .int), 11, 2, 1249),
  (⟨"StampQuarrels$Plans", "findBuffers", "(I)Z"⟩, prog_8_method_9_code, 5, (some .boolean), 6, 1, 1253),
  (⟨"StampQuarrels$Plans", "suitable", "(II)I"⟩, prog_8_method_10_code, 5, (some .int), 6, 2, 1259)]
def MT_5 : List ME := [(⟨"StampQuarrels$Plans", "lieWell", "(II)Z"⟩, prog_8_method_11_code, 3, (some .boolean), 6, 2, 1263),
  (⟨"StampQuarrels$Plans", "fill", "(II)Z"⟩, prog_8_method_12_code, 4, (some .boolean), 6, 2, 1267),
  (⟨"StampQuarrels", "exchanged", "(II)I"⟩, prog_1_method_24_code, 3, (some .int), 11, 2, 1271),
  (⟨"StampQuarrels$Plans", "findExchange", "(I)Z"⟩, prog_8_method_13_code, 6, (some .boolean), 6, 1, 1275),
  (⟨"StampQuarrels$Plans", "quarrelExchanged", "(III)I"⟩, prog_8_method_14_code, 6, (some .int), 6, 3, 1280),
  (⟨"StampQuarrels", "pockets", "(I)I"⟩, prog_1_method_25_code, 3, (some .int), 11, 1, 1284),
  (⟨"StampQuarrels$Guess", "findPockets", "()I"⟩, prog_4_method_3_code, 4, (some .int), 2, 0, 1288),
  (⟨"StampQuarrels$Guess", "friendsOf", "(I)I"⟩, prog_4_method_2_code, 4, (some .int), 2, 1, 1293),
  (⟨"StampQuarrels$Guess", "part", "(III)Z"⟩, prog_4_method_4_code, 6, (some .boolean), 2, 3, 1298),
  (⟨"StampQuarrels", "hear", "(II)I"⟩, prog_1_method_26_code, 3, (some .int), 11, 2, 1303),
  (⟨"StampQuarrels$State", "addHeard", "(II)I"⟩, prog_12_method_5_code, 3, (some .int), 10, 2, 1307),
  (⟨"StampQuarrels", "forget", "()I"⟩, prog_1_method_27_code, 2, (some .int), 11, 0, 1311),
  (⟨"StampQuarrels", "canBe", "()I"⟩, prog_1_method_28_code, 1, (some .int), 11, 0, 1315),
  (⟨"StampQuarrels$Guess", "suspects", "()I"⟩, prog_4_method_5_code, 3, (some .int), 2, 0, 1319),
  (⟨"StampQuarrels$Guess", "wouldQuarrelSo", "(I)Z"⟩, prog_4_method_6_code, 4, (some .boolean), 2, 1, 1323),
  (⟨"StampQuarrels", "beside", "(I)I"⟩, prog_1_method_29_code, 2, (some .int), 11, 1, 1327),
  (⟨"StampQuarrels$Guess", "findBeside", "()Z"⟩, prog_4_method_7_code, 4, (some .boolean), 2, 0, 1331),
  (⟨"StampQuarrels$Guess", "mostAlike", "(II)I"⟩, prog_4_method_8_code, 7, (some .int), 2, 2, 1336),
  (⟨"StampQuarrels", "sorts", "(II)I"⟩, prog_1_method_30_code, 4, (some .int), 11, 2, 1340),
  (⟨"StampQuarrels$Plans", "findSorts", "(I)I"⟩, prog_8_method_15_code, 9, (some .int), 6, 1, 1344),
  (⟨"StampQuarrels$Plans", "allSums", "(I)J"⟩, prog_8_method_16_code, 8, (some .long), 6, 1, 1349),
  (⟨"java/lang/Integer", "bitCount", "(I)I"⟩, prog_15_method_49_code, 1, (some .int), 15, 1, 1352),
  (⟨"StampQuarrels", "fewest", "(II)I"⟩, prog_1_method_31_code, 3, (some .int), 11, 2, 1360),
  (⟨"StampQuarrels$Plans", "findFewest", "(II)I"⟩, prog_8_method_17_code, 6, (some .int), 6, 2, 1364)]
def MT_6 : List ME := [(⟨"StampQuarrels", "holds", "(I)J"⟩, prog_1_method_32_code, 7, (some .long), 11, 1, 1368),
  (⟨"StampQuarrels", "kin", "(I)I"⟩, prog_1_method_33_code, 2, (some .int), 11, 1, 1375),
  (⟨"StampQuarrels", "compare", "(I)I"⟩, prog_1_method_34_code, 5, (some .int), 11, 1, 1380),
  (⟨"StampQuarrels", "reigns", "(II)I"⟩, prog_1_method_35_code, 3, (some .int), 11, 2, 1384),
  (⟨"StampQuarrels$Reign", "run", "(II)I"⟩, prog_10_method_2_code, 8, (some .int), 8, 2, 1389),
  (⟨"StampQuarrels$Reign", "draw", "(I)I"⟩, prog_10_method_3_code, 2, (some .int), 8, 1, 1395),
  (⟨"StampQuarrels", "drawn", "(II)I"⟩, prog_1_method_36_code, 3, (some .int), 11, 2, 1403),
  (⟨"StampQuarrels", "image", "(I)I"⟩, prog_1_method_37_code, 2, (some .int), 11, 1, 1407),
  (⟨"StampQuarrels", "isImage", "(I)Z"⟩, prog_1_method_47_code, 1, (some .boolean), 11, 1, 1410),
  (⟨"StampQuarrels$State", "copyFrom", "(LStampQuarrels$State;)V"⟩, prog_12_method_2_code, 3, none, 10, 1, 1414),
  (⟨"StampQuarrels", "back", "(I)I"⟩, prog_1_method_38_code, 2, (some .int), 11, 1, 1420),
  (⟨"StampQuarrels", "count", "(I)I"⟩, prog_1_method_39_code, 2, (some .int), 11, 1, 1424),
  (⟨"StampQuarrels", "status", "()I"⟩, prog_1_method_40_code, 1, (some .int), 11, 0, 1429),
  (⟨"StampQuarrelsModel", "<init>", "()V"⟩, prog_14_method_1_code, 1, none, 12, 0, 1434),
  (⟨"StampQuarrelsModel", "undo", "()I"⟩, prog_14_method_13_code, 1, (some .int), 12, 0, 1654),
  (⟨"StampQuarrelsModel", "tell", "(I)I"⟩, prog_14_method_7_code, 2, (some .int), 12, 1, 1658),
  (⟨"StampQuarrelsModel", "putBack", "(I)V"⟩, prog_14_method_11_code, 3, none, 12, 1, 1662),
  (⟨"StampQuarrelsModel", "image", "(I)I"⟩, prog_14_method_14_code, 3, (some .int), 12, 1, 1666),
  (⟨"StampQuarrelsModel", "in", "(JJJ)Z"⟩, prog_14_method_3_code, 6, (some .boolean), 12, 3, 1669),
  (⟨"StampQuarrelsModel", "back", "(I)I"⟩, prog_14_method_15_code, 3, (some .int), 12, 1, 1673),
  (⟨"StampQuarrelsModel", "settled", "(I)I"⟩, prog_14_method_9_code, 2, (some .int), 12, 1, 1677),
  (⟨"StampQuarrelsModel", "stamp", "(IIII)I"⟩, prog_14_method_23_code, 5, (some .int), 12, 4, 1681),
  (⟨"StampQuarrelsModel", "come", "(IIII)I"⟩, prog_14_method_22_code, 6, (some .int), 12, 4, 1685),
  (⟨"StampQuarrelsModel", "of", "(II)I"⟩, prog_14_method_24_code, 4, (some .int), 12, 2, 1692)]
def MT_7 : List ME := [(⟨"StampQuarrelsModel", "isStamp", "(I)Z"⟩, prog_14_method_16_code, 2, (some .boolean), 12, 1, 1696),
  (⟨"StampQuarrelsModel", "spotOf", "(I)I"⟩, prog_14_method_19_code, 5, (some .int), 12, 1, 1700),
  (⟨"StampQuarrelsModel", "isLetter", "(I)Z"⟩, prog_14_method_17_code, 2, (some .boolean), 12, 1, 1704),
  (⟨"StampQuarrelsModel", "stampAt", "(II)I"⟩, prog_14_method_18_code, 3, (some .int), 12, 2, 1708),
  (⟨"StampQuarrelsModel", "countsOf", "(I)I"⟩, prog_14_method_72_code, 2, (some .int), 12, 1, 1712),
  (⟨"StampQuarrelsModel", "tells", "(IIIJ)J"⟩, prog_14_method_69_code, 10, (some .long), 12, 4, 1716),
  (⟨"StampQuarrelsModel", "isSo", "(I)Z"⟩, prog_14_method_68_code, 2, (some .boolean), 12, 1, 1721),
  (⟨"StampQuarrelsModel", "reckonAll", "(II)V"⟩, prog_14_method_67_code, 7, none, 12, 2, 1725),
  (⟨"StampQuarrelsModel", "reckon", "(IJJ)J"⟩, prog_14_method_66_code, 6, (some .long), 12, 3, 1729),
  (⟨"StampQuarrelsModel", "within", "(JII)I"⟩, prog_14_method_6_code, 4, (some .int), 12, 3, 1734),
  (⟨"StampQuarrelsModel", "driesOf", "(I)I"⟩, prog_14_method_71_code, 2, (some .int), 12, 1, 1738),
  (⟨"StampQuarrelsModel", "letter", "(I)I"⟩, prog_14_method_25_code, 3, (some .int), 12, 1, 1742),
  (⟨"StampQuarrelsModel", "at", "(II)I"⟩, prog_14_method_28_code, 3, (some .int), 12, 2, 1747),
  (⟨"StampQuarrelsModel", "paidOn", "(I)I"⟩, prog_14_method_26_code, 4, (some .int), 12, 1, 1751),
  (⟨"StampQuarrelsModel", "quarrelOn", "(I)I"⟩, prog_14_method_27_code, 4, (some .int), 12, 1, 1755),
  (⟨"StampQuarrelsModel", "quarrelOf", "(II)I"⟩, prog_14_method_70_code, 4, (some .int), 12, 2, 1759),
  (⟨"StampQuarrelsModel", "asks", "(III)I"⟩, prog_14_method_29_code, 4, (some .int), 12, 3, 1764),
  (⟨"StampQuarrelsModel", "isBarred", "(II)Z"⟩, prog_14_method_73_code, 3, (some .boolean), 12, 2, 1768),
  (⟨"StampQuarrelsModel", "terms", "(II)I"⟩, prog_14_method_30_code, 4, (some .int), 12, 2, 1772),
  (⟨"StampQuarrelsModel", "change", "(II)I"⟩, prog_14_method_8_code, 4, (some .int), 12, 2, 1778),
  (⟨"StampQuarrelsModel", "row", "()I"⟩, prog_14_method_31_code, 4, (some .int), 12, 0, 1782),
  (⟨"StampQuarrelsModel", "misprints", "()I"⟩, prog_14_method_32_code, 1, (some .int), 12, 0, 1786),
  (⟨"StampQuarrelsModel", "feed", "(IIIII)I"⟩, prog_14_method_34_code, 6, (some .int), 12, 5, 1790),
  (⟨"StampQuarrelsModel", "four", "(I)V"⟩, prog_14_method_33_code, 3, none, 12, 1, 1794)]
def MT_8 : List ME := [(⟨"StampQuarrelsModel", "end", "(I)I"⟩, prog_14_method_35_code, 2, (some .int), 12, 1, 1798),
  (⟨"StampQuarrelsModel", "fault", "()I"⟩, prog_14_method_44_code, 1, (some .int), 12, 0, 1802),
  (⟨"StampQuarrelsModel", "law", "()I"⟩, prog_14_method_63_code, 3, (some .int), 12, 0, 1806),
  (⟨"StampQuarrelsModel", "beginText", "(Z)V"⟩, prog_14_method_60_code, 2, none, 12, 1, 1810),
  (⟨"StampQuarrelsModel", "begin", "()V"⟩, prog_14_method_38_code, 1, none, 12, 0, 1814),
  (⟨"StampQuarrelsModel", "next", "()V"⟩, prog_14_method_39_code, 1, none, 12, 0, 1818),
  (⟨"StampQuarrelsModel", "isSmall", "(I)Z"⟩, prog_14_method_36_code, 1, (some .boolean), 12, 1, 1821),
  (⟨"StampQuarrelsModel", "isDigit", "(I)Z"⟩, prog_14_method_37_code, 1, (some .boolean), 12, 1, 1824),
  (⟨"StampQuarrelsModel", "readLaw", "()V"⟩, prog_14_method_62_code, 4, none, 12, 0, 1832),
  (⟨"StampQuarrelsModel", "isWord", "(J)Z"⟩, prog_14_method_40_code, 3, (some .boolean), 12, 1, 1836),
  (⟨"StampQuarrelsModel", "must", "(Z)V"⟩, prog_14_method_42_code, 2, none, 12, 1, 1840),
  (⟨"StampQuarrelsModel", "readExpression", "(Z)V"⟩, prog_14_method_59_code, 3, none, 12, 1, 1844),
  (⟨"StampQuarrelsModel", "readPlain", "()I"⟩, prog_14_method_56_code, 1, (some .int), 12, 0, 1848),
  (⟨"StampQuarrelsModel", "push", "(II)V"⟩, prog_14_method_46_code, 3, none, 12, 2, 1853),
  (⟨"StampQuarrelsModel", "isSign", "(I)Z"⟩, prog_14_method_41_code, 2, (some .boolean), 12, 1, 1857),
  (⟨"StampQuarrelsModel", "openBracket", "(I)V"⟩, prog_14_method_53_code, 2, none, 12, 1, 1861),
  (⟨"StampQuarrelsModel", "readPart", "()I"⟩, prog_14_method_55_code, 4, (some .int), 12, 0, 1865),
  (⟨"StampQuarrelsModel", "orderPartAt", "()I"⟩, prog_14_method_52_code, 3, (some .int), 12, 0, 1869),
  (⟨"StampQuarrelsModel", "partAt", "()I"⟩, prog_14_method_51_code, 3, (some .int), 12, 0, 1873),
  (⟨"StampQuarrelsModel", "leaf", "(ZII)V"⟩, prog_14_method_54_code, 4, none, 12, 3, 1878),
  (⟨"StampQuarrelsModel", "emit", "(II)V"⟩, prog_14_method_45_code, 3, none, 12, 2, 1882),
  (⟨"StampQuarrelsModel", "number", "(JJ)I"⟩, prog_14_method_43_code, 6, (some .int), 12, 2, 1887),
  (⟨"StampQuarrelsModel", "behindSum", "(Z)I"⟩, prog_14_method_57_code, 4, (some .int), 12, 1, 1891),
  (⟨"StampQuarrelsModel", "binds", "(I)I"⟩, prog_14_method_47_code, 1, (some .int), 12, 1, 1894)]
def MT_9 : List ME := [(⟨"StampQuarrelsModel", "settle", "(I)V"⟩, prog_14_method_48_code, 2, none, 12, 1, 1898),
  (⟨"StampQuarrelsModel", "inner", "()I"⟩, prog_14_method_49_code, 3, (some .int), 12, 0, 1902),
  (⟨"StampQuarrelsModel", "isCompared", "()Z"⟩, prog_14_method_50_code, 2, (some .boolean), 12, 0, 1906),
  (⟨"StampQuarrelsModel", "behindTest", "()I"⟩, prog_14_method_58_code, 2, (some .int), 12, 0, 1913),
  (⟨"StampQuarrelsModel", "endText", "()V"⟩, prog_14_method_61_code, 1, none, 12, 0, 1920),
  (⟨"StampQuarrelsModel", "force", "(I)I"⟩, prog_14_method_65_code, 2, (some .int), 12, 1, 1924),
  (⟨"StampQuarrelsModel", "isLaw", "(I)Z"⟩, prog_14_method_64_code, 2, (some .boolean), 12, 1, 1928),
  (⟨"StampQuarrelsModel", "stick", "(II)I"⟩, prog_14_method_77_code, 3, (some .int), 12, 2, 1932),
  (⟨"StampQuarrelsModel", "stickNow", "(II)I"⟩, prog_14_method_76_code, 3, (some .int), 12, 2, 1936),
  (⟨"StampQuarrelsModel", "canStick", "(II)Z"⟩, prog_14_method_74_code, 4, (some .boolean), 12, 2, 1940),
  (⟨"StampQuarrelsModel", "remember", "(I)V"⟩, prog_14_method_12_code, 3, none, 12, 1, 1944),
  (⟨"StampQuarrelsModel", "keepAll", "(I)V"⟩, prog_14_method_10_code, 3, none, 12, 1, 1948),
  (⟨"StampQuarrelsModel", "stickIt", "(II)V"⟩, prog_14_method_75_code, 3, none, 12, 2, 1952),
  (⟨"StampQuarrelsModel", "peel", "(I)I"⟩, prog_14_method_80_code, 2, (some .int), 12, 1, 1956),
  (⟨"StampQuarrelsModel", "peelNow", "(I)I"⟩, prog_14_method_79_code, 2, (some .int), 12, 1, 1960),
  (⟨"StampQuarrelsModel", "peelIt", "(I)I"⟩, prog_14_method_78_code, 3, (some .int), 12, 1, 1964),
  (⟨"StampQuarrelsModel", "cancel", "(I)I"⟩, prog_14_method_84_code, 2, (some .int), 12, 1, 1968),
  (⟨"StampQuarrelsModel", "cancelNow", "(I)I"⟩, prog_14_method_83_code, 2, (some .int), 12, 1, 1972),
  (⟨"StampQuarrelsModel", "canCancel", "(I)Z"⟩, prog_14_method_81_code, 2, (some .boolean), 12, 1, 1976),
  (⟨"StampQuarrelsModel", "cancelIt", "(I)I"⟩, prog_14_method_82_code, 4, (some .int), 12, 1, 1980),
  (⟨"StampQuarrelsModel", "pass", "()I"⟩, prog_14_method_88_code, 1, (some .int), 12, 0, 1984),
  (⟨"StampQuarrelsModel", "passNow", "()I"⟩, prog_14_method_87_code, 1, (some .int), 12, 0, 1988),
  (⟨"StampQuarrelsModel", "passIt", "()I"⟩, prog_14_method_86_code, 3, (some .int), 12, 0, 1992),
  (⟨"StampQuarrelsModel", "fallFrom", "(I)I"⟩, prog_14_method_85_code, 6, (some .int), 12, 1, 1996)]
def MT_10 : List ME := [(⟨"StampQuarrelsModel", "madeUp", "(II)I"⟩, prog_14_method_93_code, 3, (some .int), 12, 2, 2000),
  (⟨"StampQuarrelsModel", "layStamps", "()V"⟩, prog_14_method_89_code, 3, none, 12, 0, 2005),
  (⟨"StampQuarrelsModel", "findRow", "(I)V"⟩, prog_14_method_92_code, 4, none, 12, 1, 2009),
  (⟨"StampQuarrelsModel", "ready", "()I"⟩, prog_14_method_21_code, 3, (some .int), 12, 0, 2013),
  (⟨"StampQuarrelsModel", "inSheet", "()I"⟩, prog_14_method_20_code, 3, (some .int), 12, 0, 2017),
  (⟨"StampQuarrelsModel", "takeRow", "(II)V"⟩, prog_14_method_91_code, 6, none, 12, 2, 2022),
  (⟨"StampQuarrelsModel", "isNext", "(II)Z"⟩, prog_14_method_90_code, 5, (some .boolean), 12, 2, 2026),
  (⟨"StampQuarrelsModel", "is", "(II)Z"⟩, prog_14_method_4_code, 2, (some .boolean), 12, 2, 2029),
  (⟨"StampQuarrelsModel", "buffers", "(II)I"⟩, prog_14_method_96_code, 6, (some .int), 12, 2, 2033),
  (⟨"StampQuarrelsModel", "isBuffer", "(III)Z"⟩, prog_14_method_95_code, 6, (some .boolean), 12, 3, 2037),
  (⟨"StampQuarrelsModel", "parts", "(III)Z"⟩, prog_14_method_94_code, 6, (some .boolean), 12, 3, 2041),
  (⟨"StampQuarrelsModel", "exchanged", "(II)I"⟩, prog_14_method_97_code, 10, (some .int), 12, 2, 2045),
  (⟨"StampQuarrelsModel", "pockets", "(I)I"⟩, prog_14_method_101_code, 4, (some .int), 12, 1, 2049),
  (⟨"StampQuarrelsModel", "findPockets", "(II)Z"⟩, prog_14_method_100_code, 6, (some .boolean), 12, 2, 2053),
  (⟨"StampQuarrelsModel", "nextPocket", "(II)I"⟩, prog_14_method_99_code, 5, (some .int), 12, 2, 2057),
  (⟨"StampQuarrelsModel", "fitsPocket", "(II)Z"⟩, prog_14_method_98_code, 5, (some .boolean), 12, 2, 2061),
  (⟨"StampQuarrelsModel", "hear", "(II)I"⟩, prog_14_method_102_code, 4, (some .int), 12, 2, 2065),
  (⟨"StampQuarrelsModel", "forget", "()I"⟩, prog_14_method_103_code, 2, (some .int), 12, 0, 2069),
  (⟨"StampQuarrelsModel", "canBe", "()I"⟩, prog_14_method_105_code, 1, (some .int), 12, 0, 2073),
  (⟨"StampQuarrelsModel", "thatCanBe", "()I"⟩, prog_14_method_104_code, 6, (some .int), 12, 0, 2077),
  (⟨"StampQuarrelsModel", "beside", "(I)I"⟩, prog_14_method_106_code, 9, (some .int), 12, 1, 2081),
  (⟨"StampQuarrelsModel", "sorts", "(II)I"⟩, prog_14_method_109_code, 6, (some .int), 12, 2, 2085),
  (⟨"StampQuarrelsModel", "ones", "(I)I"⟩, prog_14_method_5_code, 3, (some .int), 12, 1, 2089),
  (⟨"StampQuarrelsModel", "layFees", "(II)V"⟩, prog_14_method_107_code, 5, none, 12, 2, 2093)]
def MT_11 : List ME := [(⟨"StampQuarrelsModel", "makesAll", "(I)Z"⟩, prog_14_method_108_code, 4, (some .boolean), 12, 1, 2097),
  (⟨"StampQuarrelsModel", "fewest", "(II)I"⟩, prog_14_method_110_code, 3, (some .int), 12, 2, 2101),
  (⟨"StampQuarrelsModel", "holds", "(I)J"⟩, prog_14_method_111_code, 5, (some .long), 12, 1, 2106),
  (⟨"StampQuarrelsModel", "kin", "(I)I"⟩, prog_14_method_112_code, 4, (some .int), 12, 1, 2111),
  (⟨"StampQuarrelsModel", "compare", "(I)I"⟩, prog_14_method_113_code, 5, (some .int), 12, 1, 2115),
  (⟨"StampQuarrelsModel", "orders", "()I"⟩, prog_14_method_119_code, 4, (some .int), 12, 0, 2119),
  (⟨"StampQuarrelsModel", "readOrder", "()V"⟩, prog_14_method_115_code, 4, none, 12, 0, 2123),
  (⟨"StampQuarrelsModel", "readSum", "(I)V"⟩, prog_14_method_114_code, 2, none, 12, 1, 2127),
  (⟨"StampQuarrelsModel", "run", "(I)I"⟩, prog_14_method_118_code, 5, (some .int), 12, 1, 2133),
  (⟨"StampQuarrelsModel", "sumOf", "(I)I"⟩, prog_14_method_116_code, 2, (some .int), 12, 1, 2137),
  (⟨"StampQuarrelsModel", "act", "(III)I"⟩, prog_14_method_117_code, 4, (some .int), 12, 3, 2141),
  (⟨"StampQuarrelsModel", "giveBack", "(I)V"⟩, prog_14_method_120_code, 3, none, 12, 1, 2145),
  (⟨"StampQuarrelsModel", "stopped", "()I"⟩, prog_14_method_121_code, 1, (some .int), 12, 0, 2149),
  (⟨"StampQuarrelsModel", "reigns", "(II)I"⟩, prog_14_method_123_code, 8, (some .int), 12, 2, 2153),
  (⟨"StampQuarrelsModel", "draw", "(I)I"⟩, prog_14_method_122_code, 2, (some .int), 12, 1, 2157),
  (⟨"StampQuarrelsModel", "drawn", "(II)I"⟩, prog_14_method_124_code, 4, (some .int), 12, 2, 2164),
  (⟨"StampQuarrelsModel", "count", "(I)I"⟩, prog_14_method_125_code, 2, (some .int), 12, 1, 2168),
  (⟨"StampQuarrelsModel", "status", "()I"⟩, prog_14_method_126_code, 1, (some .int), 12, 0, 2174)]
def MT : List ME := MT_0 ++ MT_1 ++ MT_2 ++ MT_3 ++ MT_4 ++ MT_5 ++ MT_6 ++ MT_7 ++ MT_8 ++ MT_9 ++ MT_10 ++ MT_11
def mchk (q : ME) : Bool := plainName q.1.cls && decide (q.1.cls ≠ "java/lang/invoke/MethodHandle") && decide (q.1.cls ≠ "java/lang/invoke/VarHandle") && decide ((parseMethodDescriptor q.1.desc).map (fun d => d.parameters.length) = some q.2.2.2.2.2.1) && decide (CN[q.2.2.2.2.1]? = some q.1.cls) && decide (q.2.2.1 ≤ 60)
theorem mt_0 : MT_0.all mchk = true := by decide +kernel
theorem mt_1 : MT_1.all mchk = true := by decide +kernel
theorem mt_2 : MT_2.all mchk = true := by decide +kernel
theorem mt_3 : MT_3.all mchk = true := by decide +kernel
theorem mt_4 : MT_4.all mchk = true := by decide +kernel
theorem mt_5 : MT_5.all mchk = true := by decide +kernel
theorem mt_6 : MT_6.all mchk = true := by decide +kernel
theorem mt_7 : MT_7.all mchk = true := by decide +kernel
theorem mt_8 : MT_8.all mchk = true := by decide +kernel
theorem mt_9 : MT_9.all mchk = true := by decide +kernel
theorem mt_10 : MT_10.all mchk = true := by decide +kernel
theorem mt_11 : MT_11.all mchk = true := by decide +kernel
set_option maxRecDepth 100000 in
theorem mc_0 : MT_0.map (fun q => Cond.code q.1 q.2.1 q.2.2.1 q.2.2.2.1) = [158, 166, 174, 265, 328, 369, 389, 415, 440, 485, 558, 592, 677, 680, 684, 688, 692, 696, 700, 704, 708, 712, 716, 720].filterMap (fun i => lw_tbl[i]?) := rfl
set_option maxRecDepth 100000 in
theorem mc_1 : MT_1.map (fun q => Cond.code q.1 q.2.1 q.2.2.1 q.2.2.2.1) = [725, 730, 734, 739, 743, 748, 752, 766, 770, 774, 778, 782, 786, 790, 795, 802, 806, 810, 815, 820, 824, 827, 831, 836].filterMap (fun i => lw_tbl[i]?) := rfl
set_option maxRecDepth 100000 in
theorem mc_2 : MT_2.map (fun q => Cond.code q.1 q.2.1 q.2.2.1 q.2.2.2.1) = [840, 844, 848, 852, 856, 860, 864, 868, 872, 879, 883, 887, 891, 896, 951, 955, 959, 963, 967, 973, 977, 981, 992, 1010].filterMap (fun i => lw_tbl[i]?) := rfl
set_option maxRecDepth 100000 in
theorem mc_3 : MT_3.map (fun q => Cond.code q.1 q.2.1 q.2.2.1 q.2.2.2.1) = [1014, 1022, 1027, 1031, 1035, 1042, 1052, 1061, 1065, 1069, 1073, 1077, 1082, 1087, 1091, 1096, 1107, 1111, 1115, 1124, 1130, 1134, 1143, 1151].filterMap (fun i => lw_tbl[i]?) := rfl
set_option maxRecDepth 100000 in
theorem mc_4 : MT_4.map (fun q => Cond.code q.1 q.2.1 q.2.2.1 q.2.2.2.1) = [1156, 1161, 1165, 1169, 1173, 1177, 1181, 1185, 1190, 1194, 1198, 1202, 1206, 1210, 1214, 1218, 1225, 1229, 1233, 1240, 1244, 1249, 1253, 1259].filterMap (fun i => lw_tbl[i]?) := rfl
set_option maxRecDepth 100000 in
theorem mc_5 : MT_5.map (fun q => Cond.code q.1 q.2.1 q.2.2.1 q.2.2.2.1) = [1263, 1267, 1271, 1275, 1280, 1284, 1288, 1293, 1298, 1303, 1307, 1311, 1315, 1319, 1323, 1327, 1331, 1336, 1340, 1344, 1349, 1352, 1360, 1364].filterMap (fun i => lw_tbl[i]?) := rfl
set_option maxRecDepth 100000 in
theorem mc_6 : MT_6.map (fun q => Cond.code q.1 q.2.1 q.2.2.1 q.2.2.2.1) = [1368, 1375, 1380, 1384, 1389, 1395, 1403, 1407, 1410, 1414, 1420, 1424, 1429, 1434, 1654, 1658, 1662, 1666, 1669, 1673, 1677, 1681, 1685, 1692].filterMap (fun i => lw_tbl[i]?) := rfl
set_option maxRecDepth 100000 in
theorem mc_7 : MT_7.map (fun q => Cond.code q.1 q.2.1 q.2.2.1 q.2.2.2.1) = [1696, 1700, 1704, 1708, 1712, 1716, 1721, 1725, 1729, 1734, 1738, 1742, 1747, 1751, 1755, 1759, 1764, 1768, 1772, 1778, 1782, 1786, 1790, 1794].filterMap (fun i => lw_tbl[i]?) := rfl
set_option maxRecDepth 100000 in
theorem mc_8 : MT_8.map (fun q => Cond.code q.1 q.2.1 q.2.2.1 q.2.2.2.1) = [1798, 1802, 1806, 1810, 1814, 1818, 1821, 1824, 1832, 1836, 1840, 1844, 1848, 1853, 1857, 1861, 1865, 1869, 1873, 1878, 1882, 1887, 1891, 1894].filterMap (fun i => lw_tbl[i]?) := rfl
set_option maxRecDepth 100000 in
theorem mc_9 : MT_9.map (fun q => Cond.code q.1 q.2.1 q.2.2.1 q.2.2.2.1) = [1898, 1902, 1906, 1913, 1920, 1924, 1928, 1932, 1936, 1940, 1944, 1948, 1952, 1956, 1960, 1964, 1968, 1972, 1976, 1980, 1984, 1988, 1992, 1996].filterMap (fun i => lw_tbl[i]?) := rfl
set_option maxRecDepth 100000 in
theorem mc_10 : MT_10.map (fun q => Cond.code q.1 q.2.1 q.2.2.1 q.2.2.2.1) = [2000, 2005, 2009, 2013, 2017, 2022, 2026, 2029, 2033, 2037, 2041, 2045, 2049, 2053, 2057, 2061, 2065, 2069, 2073, 2077, 2081, 2085, 2089, 2093].filterMap (fun i => lw_tbl[i]?) := rfl
set_option maxRecDepth 100000 in
theorem mc_11 : MT_11.map (fun q => Cond.code q.1 q.2.1 q.2.2.1 q.2.2.2.1) = [2097, 2101, 2106, 2111, 2115, 2119, 2123, 2127, 2133, 2137, 2141, 2145, 2149, 2153, 2157, 2164, 2168, 2174].filterMap (fun i => lw_tbl[i]?) := rfl
theorem mt_ok : ∀ q ∈ MT, mchk q = true := by
  have h : MT.all mchk = true := by
    rw [MT]; simp only [List.all_append, mt_0, mt_1, mt_2, mt_3, mt_4, mt_5, mt_6, mt_7, mt_8, mt_9, mt_10, mt_11, Bool.and_self]
  exact List.all_eq_true.mp h
theorem mc_in {l : List ME} {ps : List Nat} (h : l.map (fun q => Cond.code q.1 q.2.1 q.2.2.1 q.2.2.2.1) = ps.filterMap (fun i => lw_tbl[i]?)) : ∀ q ∈ l, Cond.code q.1 q.2.1 q.2.2.1 q.2.2.2.1 ∈ lw_tbl := by
  intro q hq
  have h1 : Cond.code q.1 q.2.1 q.2.2.1 q.2.2.2.1 ∈ ps.filterMap (fun i => lw_tbl[i]?) := by rw [← h]; exact List.mem_map.mpr ⟨q, hq, rfl⟩
  obtain ⟨i, -, hi⟩ := List.mem_filterMap.mp h1
  exact List.mem_of_getElem? hi
theorem mt_code : ∀ q ∈ MT, Cond.code q.1 q.2.1 q.2.2.1 q.2.2.2.1 ∈ lw_tbl := by
  intro q hq
  rw [MT] at hq; simp only [List.mem_append] at hq
  rcases hq with (((((((((((h | h) | h) | h) | h) | h) | h) | h) | h) | h) | h) | h) <;> first | exact mc_in mc_0 q h | exact mc_in mc_1 q h | exact mc_in mc_2 q h | exact mc_in mc_3 q h | exact mc_in mc_4 q h | exact mc_in mc_5 q h | exact mc_in mc_6 q h | exact mc_in mc_7 q h | exact mc_in mc_8 q h | exact mc_in mc_9 q h | exact mc_in mc_10 q h | exact mc_in mc_11 q h
/-- links of methods: place in the class's pool, kind (0 virtual, 1 a constructor, 2 static, 3 Object's own, 4 arraycopy, 5 length, 6 charAt), which method, places of its words -/
def mlk (oc : Nat) : List (Nat × Nat × Nat × Nat × Nat × Nat × Nat) := match oc with
  | 0 => [(5, 3, 0, 175, 160, 0, 0), (21, 0, 23, 717, 718, 719, 136), (25, 7, 0, 721, 268, 269, 138), (31, 0, 22, 726, 714, 715, 136), (34, 0, 25, 727, 728, 729, 136), (37, 0, 26, 731, 732, 733, 136), (15, 4, 0, 1078, 0, 0, 0)]
  | 1 => [(5, 3, 0, 441, 160, 0, 0), (21, 1, 2, 443, 173, 0, 136), (28, 1, 5, 445, 368, 0, 140), (51, 0, 83, 1074, 1075, 1076, 136), (55, 0, 84, 1079, 1080, 1081, 140), (70, 0, 85, 1084, 1086, 30, 143), (97, 0, 86, 1088, 1090, 31, 143), (116, 0, 29, 1092, 746, 747, 136), (124, 0, 87, 1093, 1094, 1095, 135), (136, 0, 38, 1098, 793, 794, 141), (141, 0, 39, 1099, 800, 801, 141), (147, 0, 24, 1100, 723, 724, 136), (104, 0, 30, 1101, 750, 751, 137), (86, 0, 88, 1104, 1105, 1106, 142), (90, 0, 97, 1158, 1160, 37, 143)]
  | 2 => [(3, 3, 0, 559, 160, 0, 0), (49, 0, 23, 1289, 718, 719, 136), (55, 0, 127, 1290, 1291, 1292, 145), (41, 0, 40, 1294, 804, 805, 141), (58, 0, 128, 1295, 1297, 50, 145), (62, 7, 0, 1299, 268, 269, 138), (67, 0, 134, 1320, 1322, 51, 145), (80, 0, 133, 1332, 1317, 1318, 145), (90, 0, 137, 1333, 1335, 52, 145)]
  | 3 => [(5, 3, 0, 370, 160, 0, 0), (20, 4, 0, 1083, 0, 0, 0), (34, 8, 0, 1157, 874, 875, 138)]
  | 4 => [(3, 3, 0, 390, 160, 0, 0), (37, 0, 28, 740, 742, 3, 141), (71, 0, 21, 744, 710, 711, 136), (74, 0, 29, 745, 746, 747, 136), (90, 0, 30, 749, 750, 751, 137), (99, 10, 0, 757, 758, 759, 138), (105, 9, 0, 760, 761, 762, 138), (44, 0, 25, 796, 728, 729, 136), (50, 0, 26, 797, 732, 733, 136), (54, 0, 27, 798, 737, 738, 141), (57, 0, 40, 803, 804, 805, 141)]
  | 5 => [(3, 3, 0, 416, 160, 0, 0), (35, 0, 89, 1108, 1109, 1110, 140), (41, 0, 90, 1112, 1114, 32, 142), (69, 0, 25, 1116, 728, 729, 136), (74, 0, 23, 1117, 718, 719, 136), (77, 0, 21, 1118, 710, 711, 136), (80, 0, 26, 1119, 732, 733, 136), (83, 0, 43, 1120, 818, 819, 141), (87, 0, 91, 1121, 1122, 1123, 136), (91, 0, 34, 1125, 776, 777, 136), (95, 0, 17, 1126, 694, 695, 136), (45, 0, 92, 1127, 1129, 33, 142), (49, 0, 93, 1131, 1133, 34, 142), (98, 0, 38, 1135, 793, 794, 141), (104, 0, 39, 1136, 800, 801, 141), (107, 0, 41, 1137, 808, 809, 136), (110, 8, 0, 1138, 874, 875, 138), (115, 0, 35, 1139, 780, 781, 136), (52, 0, 94, 1140, 1142, 35, 142), (118, 0, 29, 1144, 746, 747, 136), (121, 0, 31, 1145, 764, 765, 141), (124, 7, 0, 1146, 268, 269, 138), (127, 0, 16, 1147, 690, 691, 136), (130, 0, 95, 1148, 1150, 36, 142), (133, 0, 47, 1152, 834, 835, 136), (56, 0, 96, 1153, 1154, 1155, 140)]
  | 6 => [(3, 3, 0, 486, 160, 0, 0), (70, 0, 111, 1215, 1217, 40, 144), (95, 0, 23, 1219, 718, 719, 136), (101, 0, 21, 1220, 710, 711, 136), (104, 0, 27, 1221, 737, 738, 141), (73, 0, 112, 1222, 1224, 41, 144), (76, 0, 113, 1226, 1228, 42, 144), (80, 0, 114, 1230, 1232, 43, 144), (110, 0, 40, 1234, 804, 805, 141), (113, 0, 43, 1235, 818, 819, 141), (117, 8, 0, 1236, 874, 875, 138), (83, 0, 115, 1237, 1239, 44, 144), (122, 0, 116, 1241, 1243, 45, 144), (125, 4, 0, 1245, 0, 0, 0), (134, 0, 25, 1254, 728, 729, 136), (137, 0, 26, 1255, 732, 733, 136), (140, 0, 119, 1256, 1258, 46, 144), (146, 0, 120, 1260, 1262, 47, 144), (143, 0, 121, 1264, 1266, 48, 144), (149, 0, 39, 1276, 800, 801, 141), (152, 0, 124, 1277, 1279, 49, 144), (161, 0, 140, 1346, 1348, 53, 144), (165, 2, 141, 1350, 1351, 0, 153)]
  | 7 => [(3, 3, 0, 329, 160, 0, 0), (27, 0, 56, 869, 871, 8, 139), (31, 8, 0, 873, 874, 875, 138), (54, 0, 57, 876, 878, 9, 139), (248, 0, 58, 880, 882, 10, 139), (79, 0, 59, 884, 886, 11, 139), (119, 0, 60, 888, 890, 12, 139), (110, 0, 61, 893, 895, 13, 139), (240, 5, 0, 897, 898, 899, 148), (244, 6, 0, 907, 908, 909, 148), (97, 0, 62, 948, 950, 14, 139), (105, 0, 63, 952, 954, 15, 139), (136, 0, 64, 956, 958, 16, 139), (176, 0, 65, 960, 962, 17, 139), (183, 0, 66, 964, 966, 18, 139), (93, 0, 67, 970, 972, 19, 139), (139, 0, 68, 974, 976, 20, 139), (196, 0, 69, 978, 980, 21, 139), (199, 0, 70, 989, 991, 22, 139), (82, 0, 71, 1007, 1009, 23, 139), (101, 0, 72, 1011, 1013, 24, 139), (85, 0, 73, 1019, 1021, 25, 139), (145, 0, 74, 1024, 1026, 26, 139), (148, 0, 75, 1028, 1030, 27, 139), (156, 0, 76, 1032, 1034, 28, 139), (167, 0, 77, 1039, 1041, 29, 139)]
  | 8 => [(3, 3, 0, 593, 160, 0, 0), (17, 1, 2, 595, 173, 0, 136), (26, 1, 6, 598, 388, 0, 141), (29, 1, 7, 599, 414, 0, 142), (39, 0, 83, 1390, 1075, 1076, 136), (56, 0, 29, 1391, 746, 747, 136), (60, 0, 149, 1392, 1394, 54, 146), (64, 0, 88, 1399, 1105, 1106, 142)]
  | 9 => [(3, 3, 0, 266, 160, 0, 0), (9, 7, 0, 267, 268, 269, 138), (47, 1, 3, 1054, 264, 0, 137), (50, 4, 0, 1055, 0, 0, 0)]
  | 10 => [(3, 3, 0, 167, 160, 0, 0), (38, 1, 2, 172, 173, 0, 136), (75, 0, 16, 689, 690, 691, 136), (79, 0, 17, 693, 694, 695, 136), (82, 0, 34, 775, 776, 777, 136), (85, 0, 35, 779, 780, 781, 136), (88, 0, 23, 1097, 718, 719, 136), (65, 4, 0, 1415, 0, 0, 0), (71, 0, 83, 1416, 1075, 1076, 136)]
  | 11 => [(1, 3, 0, 159, 160, 0, 0), (9, 1, 1, 164, 165, 0, 135), (32, 1, 3, 263, 264, 0, 137), (39, 1, 4, 326, 327, 0, 139), (48, 1, 5, 367, 368, 0, 140), (59, 1, 6, 387, 388, 0, 141), (68, 1, 7, 413, 414, 0, 142), (77, 1, 8, 438, 439, 0, 143), (86, 1, 9, 483, 484, 0, 144), (95, 1, 10, 556, 557, 0, 145), (102, 1, 11, 590, 591, 0, 146), (113, 2, 13, 678, 679, 0, 134), (117, 0, 14, 681, 683, 0, 134), (128, 0, 15, 685, 686, 687, 135), (132, 0, 18, 697, 699, 1, 134), (135, 0, 20, 705, 707, 2, 134), (148, 0, 21, 709, 710, 711, 136), (153, 0, 22, 713, 714, 715, 136), (156, 0, 24, 722, 723, 724, 136), (159, 0, 23, 735, 718, 719, 136), (162, 0, 27, 736, 737, 738, 141), (165, 0, 31, 763, 764, 765, 141), (171, 0, 33, 771, 772, 773, 135), (174, 0, 37, 787, 789, 4, 134), (180, 0, 25, 791, 728, 729, 136), (183, 0, 38, 792, 793, 794, 141), (186, 0, 39, 799, 800, 801, 141), (189, 0, 41, 807, 808, 809, 136), (192, 0, 26, 811, 732, 733, 136), (196, 0, 40, 816, 804, 805, 141), (199, 0, 43, 817, 818, 819, 141), (203, 2, 45, 825, 826, 0, 134), (206, 0, 46, 828, 830, 5, 134), (366, 0, 29, 832, 746, 747, 136), (209, 0, 47, 833, 834, 835, 136), (222, 0, 49, 841, 843, 6, 134), (225, 0, 52, 853, 855, 7, 134), (234, 0, 55, 865, 866, 867, 139), (237, 0, 78, 1049, 1050, 1051, 137), (241, 0, 79, 1058, 1059, 1060, 135), (248, 0, 81, 1066, 1067, 1068, 139), (251, 0, 82, 1070, 1071, 1072, 143), (254, 0, 98, 1162, 1164, 38, 134), (260, 0, 102, 1178, 1180, 39, 134), (266, 0, 88, 1186, 1105, 1106, 142), (270, 0, 108, 1203, 1204, 1205, 140), (274, 0, 110, 1211, 1212, 1213, 144), (286, 0, 118, 1250, 1251, 1252, 144), (295, 0, 123, 1272, 1273, 1274, 144), (301, 0, 126, 1285, 1286, 1287, 145), (311, 0, 130, 1304, 1305, 1306, 135), (314, 0, 133, 1316, 1317, 1318, 145), (317, 0, 136, 1328, 1329, 1330, 145), (327, 0, 139, 1341, 1342, 1343, 144), (330, 2, 141, 1356, 1351, 0, 153), (335, 0, 143, 1361, 1362, 1363, 144), (344, 0, 127, 1376, 1291, 1292, 145), (348, 0, 148, 1386, 1387, 1388, 146), (354, 2, 152, 1408, 1409, 0, 134), (357, 0, 153, 1411, 1412, 1413, 135), (360, 0, 87, 1425, 1094, 1095, 135)]
  | 12 => [(1, 3, 0, 1435, 160, 0, 0), (180, 0, 159, 1655, 1657, 55, 147), (188, 0, 160, 1659, 1661, 56, 147), (191, 2, 162, 1667, 1668, 0, 147), (195, 0, 164, 1674, 1676, 57, 147), (216, 0, 166, 1682, 1684, 58, 147), (220, 0, 168, 1693, 1695, 59, 147), (223, 0, 169, 1697, 1699, 60, 147), (198, 0, 170, 1701, 1703, 61, 147), (202, 0, 171, 1705, 1707, 62, 147), (226, 0, 172, 1709, 1711, 63, 147), (442, 0, 173, 1713, 1715, 64, 147), (439, 0, 174, 1718, 1720, 65, 147), (433, 0, 175, 1722, 1724, 66, 147), (422, 0, 176, 1726, 1728, 67, 147), (446, 2, 177, 1732, 1733, 0, 147), (229, 0, 178, 1735, 1737, 68, 147), (237, 0, 181, 1748, 1750, 69, 147), (240, 0, 182, 1752, 1754, 70, 147), (234, 0, 183, 1756, 1758, 71, 147), (245, 0, 185, 1765, 1767, 72, 147), (253, 0, 187, 1775, 1777, 73, 147), (262, 0, 191, 1791, 1793, 74, 147), (404, 0, 195, 1807, 1809, 75, 147), (393, 0, 196, 1811, 1813, 76, 147), (272, 0, 197, 1815, 1817, 77, 147), (282, 2, 198, 1819, 1820, 0, 147), (285, 2, 199, 1822, 1823, 0, 147), (407, 0, 200, 1829, 1831, 78, 147), (324, 0, 201, 1833, 1835, 79, 147), (301, 0, 202, 1837, 1839, 80, 147), (399, 0, 203, 1841, 1843, 81, 147), (383, 0, 204, 1845, 1847, 82, 147), (331, 0, 205, 1850, 1852, 83, 147), (337, 0, 206, 1854, 1856, 84, 147), (340, 0, 207, 1858, 1860, 85, 147), (366, 0, 208, 1862, 1864, 86, 147), (346, 0, 209, 1866, 1868, 87, 147), (349, 0, 210, 1870, 1872, 88, 147), (354, 0, 211, 1875, 1877, 89, 147), (314, 0, 212, 1879, 1881, 90, 147), (360, 0, 213, 1884, 1886, 91, 147), (386, 0, 214, 1888, 1890, 92, 147), (311, 2, 215, 1892, 1893, 0, 147), (369, 0, 216, 1895, 1897, 93, 147), (372, 0, 217, 1899, 1901, 94, 147), (375, 0, 218, 1903, 1905, 95, 147), (390, 0, 219, 1910, 1912, 96, 147), (410, 0, 220, 1917, 1919, 97, 147), (413, 0, 222, 1925, 1927, 98, 147), (459, 0, 224, 1933, 1935, 99, 147), (450, 0, 225, 1937, 1939, 100, 147), (453, 0, 226, 1941, 1943, 101, 147), (184, 0, 227, 1945, 1947, 102, 147), (456, 0, 228, 1949, 1951, 103, 147), (465, 0, 230, 1957, 1959, 104, 147), (462, 0, 231, 1961, 1963, 105, 147), (474, 0, 233, 1969, 1971, 106, 147), (468, 0, 234, 1973, 1975, 107, 147), (471, 0, 235, 1977, 1979, 108, 147), (483, 0, 237, 1985, 1987, 109, 147), (480, 0, 238, 1989, 1991, 110, 147), (477, 0, 239, 1993, 1995, 111, 147), (507, 0, 241, 2002, 2004, 112, 147), (510, 0, 242, 2006, 2008, 113, 147), (495, 0, 243, 2010, 2012, 114, 147), (206, 0, 244, 2014, 2016, 115, 147), (499, 0, 245, 2019, 2021, 116, 147), (502, 0, 246, 2023, 2025, 117, 147), (486, 2, 247, 2027, 2028, 0, 147), (517, 0, 249, 2034, 2036, 118, 147), (513, 0, 250, 2038, 2040, 119, 147), (526, 0, 253, 2050, 2052, 120, 147), (520, 0, 254, 2054, 2056, 121, 147), (523, 0, 255, 2058, 2060, 122, 147), (529, 0, 259, 2074, 2076, 123, 147), (534, 2, 262, 2087, 2088, 0, 147), (537, 0, 263, 2090, 2092, 124, 147), (540, 0, 264, 2094, 2096, 125, 147), (570, 0, 270, 2120, 2122, 126, 147), (547, 0, 271, 2124, 2126, 127, 147), (573, 0, 272, 2130, 2132, 128, 147), (563, 0, 273, 2134, 2136, 129, 147), (566, 0, 274, 2138, 2140, 130, 147), (576, 0, 275, 2142, 2144, 131, 147), (588, 0, 278, 2154, 2156, 132, 147)]
  | 13 => [(9, 1, 0, 156, 157, 0, 134), (13, 0, 12, 674, 675, 676, 134), (18, 0, 19, 701, 702, 703, 134), (23, 0, 32, 767, 768, 769, 134), (28, 0, 36, 783, 784, 785, 134), (32, 0, 42, 812, 813, 814, 134), (37, 0, 44, 821, 822, 823, 134), (41, 0, 48, 837, 838, 839, 134), (46, 0, 50, 845, 846, 847, 134), (50, 0, 51, 849, 850, 851, 134), (55, 0, 53, 857, 858, 859, 134), (59, 0, 54, 861, 862, 863, 134), (63, 0, 80, 1062, 1063, 1064, 134), (67, 0, 99, 1166, 1167, 1168, 134), (71, 0, 100, 1170, 1171, 1172, 134), (75, 0, 101, 1174, 1175, 1176, 134), (79, 0, 103, 1182, 1183, 1184, 134), (83, 0, 104, 1187, 1188, 1189, 134), (87, 0, 105, 1191, 1192, 1193, 134), (91, 0, 106, 1195, 1196, 1197, 134), (95, 0, 107, 1199, 1200, 1201, 134), (99, 0, 109, 1207, 1208, 1209, 134), (103, 0, 117, 1246, 1247, 1248, 134), (107, 0, 122, 1268, 1269, 1270, 134), (111, 0, 125, 1281, 1282, 1283, 134), (115, 0, 129, 1300, 1301, 1302, 134), (119, 0, 131, 1308, 1309, 1310, 134), (123, 0, 132, 1312, 1313, 1314, 134), (127, 0, 135, 1324, 1325, 1326, 134), (131, 0, 138, 1337, 1338, 1339, 134), (135, 0, 142, 1357, 1358, 1359, 134), (139, 0, 144, 1365, 1366, 1367, 134), (144, 0, 145, 1372, 1373, 1374, 134), (148, 0, 146, 1377, 1378, 1379, 134), (152, 0, 147, 1381, 1382, 1383, 134), (156, 0, 150, 1400, 1401, 1402, 134), (160, 0, 151, 1404, 1405, 1406, 134), (164, 0, 154, 1417, 1418, 1419, 134), (168, 0, 155, 1421, 1422, 1423, 134), (172, 0, 156, 1426, 1427, 1428, 134), (12, 1, 157, 1432, 1433, 0, 147), (98, 0, 158, 1651, 1652, 1653, 147), (163, 0, 161, 1663, 1664, 1665, 147), (167, 0, 163, 1670, 1671, 1672, 147), (17, 0, 165, 1678, 1679, 1680, 147), (22, 0, 167, 1689, 1690, 1691, 147), (27, 0, 179, 1739, 1740, 1741, 147), (31, 0, 180, 1744, 1745, 1746, 147), (36, 0, 184, 1761, 1762, 1763, 147), (40, 0, 186, 1769, 1770, 1771, 147), (54, 0, 188, 1779, 1780, 1781, 147), (58, 0, 189, 1783, 1784, 1785, 147), (45, 0, 190, 1787, 1788, 1789, 147), (49, 0, 192, 1795, 1796, 1797, 147), (70, 0, 193, 1799, 1800, 1801, 147), (62, 0, 194, 1803, 1804, 1805, 147), (78, 0, 221, 1921, 1922, 1923, 147), (82, 0, 223, 1929, 1930, 1931, 147), (86, 0, 229, 1953, 1954, 1955, 147), (90, 0, 232, 1965, 1966, 1967, 147), (94, 0, 236, 1981, 1982, 1983, 147), (102, 0, 240, 1997, 1998, 1999, 147), (106, 0, 248, 2030, 2031, 2032, 147), (110, 0, 251, 2042, 2043, 2044, 147), (114, 0, 252, 2046, 2047, 2048, 147), (118, 0, 256, 2062, 2063, 2064, 147), (122, 0, 257, 2066, 2067, 2068, 147), (126, 0, 258, 2070, 2071, 2072, 147), (130, 0, 260, 2078, 2079, 2080, 147), (134, 0, 261, 2082, 2083, 2084, 147), (138, 0, 265, 2098, 2099, 2100, 147), (143, 0, 266, 2103, 2104, 2105, 147), (147, 0, 267, 2108, 2109, 2110, 147), (151, 0, 268, 2112, 2113, 2114, 147), (66, 0, 269, 2116, 2117, 2118, 147), (74, 0, 276, 2146, 2147, 2148, 147), (155, 0, 277, 2150, 2151, 2152, 147), (159, 0, 279, 2161, 2162, 2163, 147), (171, 0, 280, 2165, 2166, 2167, 147), (175, 0, 281, 2171, 2172, 2173, 147)]
  | _ => []
/-- links of fields: place, class, which field, place of its word -/
def flk (oc : Nat) : List (Nat × Nat × Nat × Nat) := match oc with
  | 0 => [(11, 0, 0, 176)]
  | 1 => [(144, 10, 0, 188), (129, 10, 4, 202), (64, 9, 0, 271), (83, 9, 2, 277), (67, 9, 3, 281), (108, 9, 4, 284), (113, 9, 5, 288), (101, 9, 6, 291), (94, 9, 7, 295), (132, 5, 0, 418), (120, 5, 1, 420), (46, 5, 2, 422), (11, 1, 0, 446), (15, 1, 1, 447), (22, 1, 2, 448), (29, 1, 3, 449), (32, 1, 4, 450), (38, 1, 5, 451), (58, 1, 6, 452), (61, 1, 7, 453), (74, 1, 8, 454), (80, 1, 9, 455), (42, 1, 10, 456)]
  | 2 => [(35, 10, 0, 183), (71, 10, 6, 207), (74, 10, 7, 210), (77, 10, 8, 212), (15, 4, 0, 394), (45, 4, 1, 398), (9, 2, 0, 560), (21, 2, 1, 561), (22, 2, 2, 562), (26, 2, 3, 563), (29, 2, 4, 564), (32, 2, 5, 565), (84, 2, 6, 567), (87, 2, 7, 569)]
  | 3 => [(33, 0, 0, 177), (13, 3, 0, 371), (17, 3, 1, 372), (26, 3, 2, 373), (30, 3, 3, 375)]
  | 4 => [(41, 10, 1, 191), (29, 10, 2, 193), (34, 10, 3, 196), (78, 10, 10, 217), (64, 10, 11, 219), (67, 10, 12, 222), (60, 10, 13, 224), (81, 9, 0, 273), (84, 9, 2, 279), (94, 9, 4, 286), (87, 9, 6, 293), (9, 4, 0, 391), (15, 4, 1, 395), (19, 4, 2, 399), (25, 4, 3, 400)]
  | 5 => [(60, 10, 0, 186), (66, 10, 4, 200), (101, 10, 5, 204), (15, 4, 0, 392), (22, 4, 1, 396), (9, 5, 0, 417), (21, 5, 1, 419), (26, 5, 2, 421), (27, 5, 3, 423), (31, 5, 4, 424)]
  | 6 => [(90, 10, 0, 187), (15, 4, 0, 393), (22, 4, 1, 397), (9, 6, 0, 487), (21, 6, 1, 488), (26, 6, 2, 489), (27, 6, 3, 490), (31, 6, 4, 491), (34, 6, 5, 492), (37, 6, 6, 493), (41, 6, 7, 494), (45, 6, 8, 495), (48, 6, 9, 496), (51, 6, 10, 497), (87, 6, 11, 498), (60, 6, 12, 499), (107, 6, 13, 500), (67, 6, 14, 501), (64, 6, 15, 503), (54, 6, 16, 505), (131, 6, 17, 507), (57, 6, 18, 509), (156, 6, 19, 511)]
  | 7 => [(46, 9, 0, 272), (51, 9, 1, 275), (57, 9, 2, 278), (64, 9, 3, 282), (67, 9, 4, 285), (70, 9, 5, 289), (73, 9, 6, 292), (76, 9, 7, 296), (234, 9, 8, 298), (153, 9, 9, 300), (9, 7, 0, 330), (15, 7, 1, 331), (37, 7, 2, 332), (23, 7, 3, 333), (88, 7, 4, 334), (237, 7, 5, 335), (43, 7, 6, 336), (125, 7, 7, 337), (40, 7, 8, 338), (61, 7, 9, 339), (19, 7, 10, 340)]
  | 8 => [(43, 10, 0, 184), (48, 10, 4, 199), (36, 10, 14, 228), (9, 8, 0, 600), (32, 8, 1, 601), (52, 8, 2, 602), (18, 8, 3, 603), (47, 8, 4, 605), (51, 8, 5, 607)]
  | 9 => [(40, 9, 0, 270), (44, 9, 1, 274), (15, 9, 2, 276), (19, 9, 3, 280), (22, 9, 4, 283), (25, 9, 5, 287), (28, 9, 6, 290), (31, 9, 7, 294), (34, 9, 8, 297), (37, 9, 9, 299)]
  | 10 => [(50, 10, 0, 182), (9, 10, 1, 189), (15, 10, 2, 192), (18, 10, 3, 195), (53, 10, 4, 198), (21, 10, 5, 203), (56, 10, 6, 206), (24, 10, 7, 209), (27, 10, 8, 211), (43, 10, 9, 213), (59, 10, 10, 215), (62, 10, 11, 218), (32, 10, 12, 221), (47, 10, 13, 223), (39, 10, 14, 226)]
  | 11 => [(121, 10, 0, 185), (139, 10, 1, 190), (142, 10, 2, 194), (145, 10, 3, 197), (168, 10, 4, 201), (177, 10, 5, 205), (308, 10, 6, 208), (213, 10, 9, 214), (216, 10, 10, 216), (231, 10, 11, 220), (263, 10, 13, 225), (55, 10, 14, 227), (257, 7, 10, 341), (125, 3, 3, 374), (245, 1, 10, 457), (277, 6, 14, 502), (280, 6, 15, 504), (283, 6, 16, 506), (289, 6, 17, 508), (292, 6, 18, 510), (298, 6, 19, 512), (305, 2, 5, 566), (321, 2, 6, 568), (324, 2, 7, 570), (352, 8, 3, 604), (351, 8, 4, 606), (353, 8, 5, 608), (10, 11, 0, 622), (16, 11, 1, 623), (20, 11, 2, 624), (24, 11, 3, 625), (35, 11, 4, 626), (42, 11, 5, 627), (49, 11, 6, 628), (62, 11, 7, 629), (71, 11, 8, 630), (80, 11, 9, 631), (89, 11, 10, 632), (96, 11, 11, 633), (105, 11, 12, 634), (109, 11, 13, 635), (219, 11, 14, 636), (228, 11, 15, 637), (363, 11, 16, 638)]
  | 12 => [(171, 12, 0, 1458), (174, 12, 1, 1459), (7, 12, 2, 1460), (13, 12, 3, 1461), (16, 12, 4, 1462), (19, 12, 5, 1463), (23, 12, 6, 1464), (26, 12, 7, 1465), (177, 12, 8, 1466), (29, 12, 9, 1467), (32, 12, 10, 1468), (259, 12, 11, 1469), (35, 12, 12, 1470), (256, 12, 13, 1471), (275, 12, 14, 1472), (265, 12, 15, 1473), (288, 12, 16, 1474), (278, 12, 17, 1475), (38, 12, 18, 1476), (268, 12, 19, 1477), (343, 12, 20, 1478), (396, 12, 21, 1479), (42, 12, 22, 1480), (305, 12, 23, 1481), (45, 12, 24, 1482), (48, 12, 25, 1483), (334, 12, 26, 1484), (51, 12, 27, 1485), (54, 12, 28, 1486), (308, 12, 29, 1487), (328, 12, 30, 1488), (73, 12, 31, 1489), (89, 12, 32, 1490), (100, 12, 33, 1491), (419, 12, 34, 1492), (103, 12, 35, 1493), (106, 12, 36, 1494), (109, 12, 37, 1495), (416, 12, 38, 1496), (430, 12, 39, 1497), (436, 12, 40, 1498), (112, 12, 41, 1499), (115, 12, 42, 1500), (118, 12, 43, 1501), (121, 12, 44, 1502), (124, 12, 45, 1503), (127, 12, 46, 1504), (489, 12, 47, 1505), (492, 12, 48, 1506), (130, 12, 49, 1507), (133, 12, 50, 1508), (136, 12, 51, 1509), (147, 12, 52, 1510), (150, 12, 53, 1511), (153, 12, 54, 1512), (156, 12, 55, 1513), (557, 12, 56, 1514), (560, 12, 57, 1515), (159, 12, 58, 1516), (554, 12, 59, 1517), (579, 12, 60, 1518), (162, 12, 61, 1519), (165, 12, 62, 1520), (168, 12, 63, 1521)]
  | _ => []
/-- links of classes -/
def nlk (oc : Nat) : List (Nat × Nat × Nat) := match oc with
  | 1 => [(19, 0, 442), (26, 3, 444)]
  | 8 => [(15, 0, 594), (22, 5, 596), (24, 4, 597)]
  | 9 => [(1, 9, 1053)]
  | 10 => [(30, 9, 168), (36, 0, 170)]
  | 11 => [(7, 10, 162), (28, 9, 261), (30, 7, 324), (46, 3, 365), (53, 4, 385), (66, 5, 411), (75, 1, 436), (84, 6, 481), (93, 2, 554), (100, 8, 588)]
  | 13 => [(7, 11, 154), (10, 12, 1430)]
  | _ => []
/-- constants: place, tag (0 int, 1 long, 2 a text), value -/
def klk (oc : Nat) : List (Nat × Nat × Int × Nat) := match oc with
  | 1 => [(111, 1, (-1), 1102), (78, 1, (-2000000000), 1103)]
  | 4 => [(97, 1, (-2000000000), 756)]
  | 6 => [(159, 1, 2, 1345)]
  | 7 => [(128, 2, 0, 892), (130, 2, 1, 945), (132, 2, 2, 946), (134, 2, 3, 947), (192, 2, 4, 968), (194, 2, 5, 969), (216, 2, 6, 982), (222, 2, 7, 983), (224, 2, 8, 984), (226, 2, 9, 985), (228, 2, 10, 986), (230, 2, 11, 987), (232, 2, 12, 988), (202, 2, 13, 993), (206, 2, 14, 994), (208, 2, 15, 995), (210, 2, 16, 996), (212, 2, 17, 997), (214, 2, 18, 998), (218, 2, 19, 999), (186, 2, 20, 1000), (188, 2, 21, 1001), (190, 2, 22, 1002), (179, 2, 23, 1003), (181, 2, 24, 1004), (122, 2, 25, 1005), (124, 2, 26, 1006), (108, 2, 27, 1015), (113, 2, 28, 1016), (115, 2, 29, 1017), (117, 2, 30, 1018), (143, 2, 31, 1023), (161, 2, 32, 1036), (163, 2, 33, 1037), (165, 2, 34, 1038), (170, 2, 35, 1043), (172, 2, 36, 1044), (174, 2, 37, 1045), (159, 2, 38, 1046), (151, 2, 39, 1047), (91, 2, 40, 1048)]
  | 8 => [(68, 1, 1103, 1396), (70, 1, 12345, 1397), (72, 1, 1000003, 1398)]
  | 9 => [(56, 1, (-2000000000), 753), (58, 1, 1000000000, 754), (60, 1, (-1000000000), 755)]
  | 11 => [(338, 1, (-1), 1369), (340, 1, 1000000000000, 1370), (342, 1, 10, 1371), (347, 0, 1000000, 1385)]
  | 12 => [(57, 1, 676774066, 1436), (59, 1, 9797, 1437), (61, 1, 19039629, 1438), (63, 1, 394692, 1439), (65, 1, 24627848, 1440), (67, 1, 242341, 1441), (69, 1, 4153, 1442), (71, 1, 441828, 1443), (77, 1, 146885, 1444), (79, 1, 404362868, 1445), (81, 1, 215205, 1446), (83, 1, 525604, 1447), (85, 1, 18959911084, 1448), (87, 1, 639476, 1449), (92, 1, 606717154707, 1450), (94, 1, 4793523, 1451), (96, 1, 117095059, 1452), (98, 1, 67155, 1453), (139, 1, 20587627, 1454), (141, 1, 529580, 1455), (143, 1, 102173868, 1456), (145, 1, 525939, 1457), (210, 1, 20, 1686), (212, 1, 5, 1687), (214, 1, 9, 1688), (295, 1, (-1), 1717), (426, 1, (-1000000000), 1730), (428, 1, 1000000000, 1731), (232, 1, 60, 1743), (243, 1, 4, 1760), (249, 1, 999, 1773), (251, 1, 10, 1774), (291, 1, 32, 1825), (293, 1, 96, 1826), (297, 1, 1000000, 1827), (299, 1, 48, 1828), (364, 1, 14836, 1849), (352, 1, 1000, 1874), (358, 1, 2, 1883), (318, 1, 24, 1907), (320, 1, 25, 1908), (322, 1, 27, 1909), (379, 1, 1476, 1914), (381, 1, 498, 1915), (402, 1, 294, 1916), (505, 1, 6, 2001), (498, 0, 100000000, 2018), (532, 1, 30, 2086), (543, 1, 1023, 2102), (545, 1, 1000000000000, 2107), (550, 1, 494, 2128), (552, 1, 21279923, 2129), (582, 1, 1103, 2158), (584, 1, 12345, 2159), (586, 1, 1000003, 2160), (591, 1, 13, 2169), (593, 1, 15, 2170)]
  | 15 => [(265, 0, 1431655765, 1353), (266, 0, 858993459, 1354), (267, 0, 252645135, 1355)]
  | _ => []
def mN (y : Nat) : MethodName := match MT[y]? with | some q => q.1 | none => ⟨"", "", ""⟩
def cN (c : Nat) : String := match CN[c]? with | some q => q | none => ""
def mlchk (oc : Nat) (q : Nat × Nat × Nat × Nat × Nat × Nat × Nat) : Bool := match q.2.1 with
  | 0 => decide (lw_tbl[q.2.2.2.1]? = some (.methodLink (cN oc) q.1 (mN q.2.2.1))) && decide (lw_tbl[q.2.2.2.2.1]? = some (.instanceMethod (mN q.2.2.1))) && decide (lw_tbl[q.2.2.2.2.2.1]? = some (.selects (mN q.2.2.1).cls (mN q.2.2.1) (mN q.2.2.1))) && decide (lw_tbl[q.2.2.2.2.2.2]? = some (.initialized (mN q.2.2.1).cls))
  | 1 => decide (lw_tbl[q.2.2.2.1]? = some (.methodLink (cN oc) q.1 (mN q.2.2.1))) && decide (lw_tbl[q.2.2.2.2.1]? = some (.instanceMethod (mN q.2.2.1))) && decide ((mN q.2.2.1).name = "<init>") && decide (lw_tbl[q.2.2.2.2.2.2]? = some (.initialized (mN q.2.2.1).cls))
  | 2 => decide (lw_tbl[q.2.2.2.1]? = some (.methodLink (cN oc) q.1 (mN q.2.2.1))) && decide (lw_tbl[q.2.2.2.2.1]? = some (.static (mN q.2.2.1))) && decide (lw_tbl[q.2.2.2.2.2.2]? = some (.initialized (mN q.2.2.1).cls))
  | 3 => decide (lw_tbl[q.2.2.2.1]? = some (.methodLink (cN oc) q.1 Lib.objectInit))
  | 4 => decide (lw_tbl[q.2.2.2.1]? = some (.methodLink (cN oc) q.1 arraycopyName))
  | 5 => decide (lw_tbl[q.2.2.2.1]? = some (.methodLink (cN oc) q.1 ⟨"java/lang/String", "length", "()I"⟩))
  | 6 => decide (lw_tbl[q.2.2.2.1]? = some (.methodLink (cN oc) q.1 ⟨"java/lang/String", "charAt", "(I)C"⟩))
  | 7 => decide (lw_tbl[q.2.2.2.1]? = some (.methodLink (cN oc) q.1 Lib.Math.max.name))
  | 8 => decide (lw_tbl[q.2.2.2.1]? = some (.methodLink (cN oc) q.1 Lib.Math.min.name))
  | 9 => decide (lw_tbl[q.2.2.2.1]? = some (.methodLink (cN oc) q.1 ⟨"java/lang/Math", "max", "(JJ)J"⟩))
  | 10 => decide (lw_tbl[q.2.2.2.1]? = some (.methodLink (cN oc) q.1 ⟨"java/lang/Math", "min", "(JJ)J"⟩))
  | _ => false
def flchk (oc : Nat) (q : Nat × Nat × Nat × Nat) : Bool := match cls[q.2.1]? with
  | some r => decide (q.2.2.1 < r.2.2) && decide (lw_tbl[q.2.2.2]? = some (.fieldLink (cN oc) q.1 r.1 (r.2.1 q.2.2.1).2.1 (r.2.1 q.2.2.1).2.2.1))
  | none => false
def nlchk (oc : Nat) (q : Nat × Nat × Nat) : Bool := decide (lw_tbl[q.2.2]? = some (.classLink (cN oc) q.1 (cN q.2.1)))
def klchk (oc : Nat) (q : Nat × Nat × Int × Nat) : Bool := match q.2.1 with
  | 0 => decide (lw_tbl[q.2.2.2]? = some (.constant (cN oc) q.1 (oI q.2.2.1)))
  | 1 => decide (lw_tbl[q.2.2.2]? = some (.constantLong (cN oc) q.1 (oL q.2.2.1)))
  | _ => true
theorem mlk_0 : (mlk 0).all (mlchk 0) = true := by decide +kernel
theorem mlk_1 : (mlk 1).all (mlchk 1) = true := by decide +kernel
theorem mlk_2 : (mlk 2).all (mlchk 2) = true := by decide +kernel
theorem mlk_3 : (mlk 3).all (mlchk 3) = true := by decide +kernel
theorem mlk_4 : (mlk 4).all (mlchk 4) = true := by decide +kernel
theorem mlk_5 : (mlk 5).all (mlchk 5) = true := by decide +kernel
theorem mlk_6 : (mlk 6).all (mlchk 6) = true := by decide +kernel
theorem mlk_7 : (mlk 7).all (mlchk 7) = true := by decide +kernel
theorem mlk_8 : (mlk 8).all (mlchk 8) = true := by decide +kernel
theorem mlk_9 : (mlk 9).all (mlchk 9) = true := by decide +kernel
theorem mlk_10 : (mlk 10).all (mlchk 10) = true := by decide +kernel
theorem mlk_11 : (mlk 11).all (mlchk 11) = true := by decide +kernel
theorem mlk_12 : (mlk 12).all (mlchk 12) = true := by decide +kernel
theorem mlk_13 : (mlk 13).all (mlchk 13) = true := by decide +kernel
theorem mlk_14 : (mlk 14).all (mlchk 14) = true := by decide +kernel
theorem mlk_15 : (mlk 15).all (mlchk 15) = true := by decide +kernel
theorem mlk_ok : ∀ oc q, q ∈ mlk oc → mlchk oc q = true
  | 0, q, h => List.all_eq_true.mp mlk_0 q h
  | 1, q, h => List.all_eq_true.mp mlk_1 q h
  | 2, q, h => List.all_eq_true.mp mlk_2 q h
  | 3, q, h => List.all_eq_true.mp mlk_3 q h
  | 4, q, h => List.all_eq_true.mp mlk_4 q h
  | 5, q, h => List.all_eq_true.mp mlk_5 q h
  | 6, q, h => List.all_eq_true.mp mlk_6 q h
  | 7, q, h => List.all_eq_true.mp mlk_7 q h
  | 8, q, h => List.all_eq_true.mp mlk_8 q h
  | 9, q, h => List.all_eq_true.mp mlk_9 q h
  | 10, q, h => List.all_eq_true.mp mlk_10 q h
  | 11, q, h => List.all_eq_true.mp mlk_11 q h
  | 12, q, h => List.all_eq_true.mp mlk_12 q h
  | 13, q, h => List.all_eq_true.mp mlk_13 q h
  | 14, q, h => List.all_eq_true.mp mlk_14 q h
  | 15, q, h => List.all_eq_true.mp mlk_15 q h
  | n + 16, q, h => absurd h List.not_mem_nil
theorem flk_0 : (flk 0).all (flchk 0) = true := by decide +kernel
theorem flk_1 : (flk 1).all (flchk 1) = true := by decide +kernel
theorem flk_2 : (flk 2).all (flchk 2) = true := by decide +kernel
theorem flk_3 : (flk 3).all (flchk 3) = true := by decide +kernel
theorem flk_4 : (flk 4).all (flchk 4) = true := by decide +kernel
theorem flk_5 : (flk 5).all (flchk 5) = true := by decide +kernel
theorem flk_6 : (flk 6).all (flchk 6) = true := by decide +kernel
theorem flk_7 : (flk 7).all (flchk 7) = true := by decide +kernel
theorem flk_8 : (flk 8).all (flchk 8) = true := by decide +kernel
theorem flk_9 : (flk 9).all (flchk 9) = true := by decide +kernel
theorem flk_10 : (flk 10).all (flchk 10) = true := by decide +kernel
theorem flk_11 : (flk 11).all (flchk 11) = true := by decide +kernel
theorem flk_12 : (flk 12).all (flchk 12) = true := by decide +kernel
theorem flk_13 : (flk 13).all (flchk 13) = true := by decide +kernel
theorem flk_14 : (flk 14).all (flchk 14) = true := by decide +kernel
theorem flk_15 : (flk 15).all (flchk 15) = true := by decide +kernel
theorem flk_ok : ∀ oc q, q ∈ flk oc → flchk oc q = true
  | 0, q, h => List.all_eq_true.mp flk_0 q h
  | 1, q, h => List.all_eq_true.mp flk_1 q h
  | 2, q, h => List.all_eq_true.mp flk_2 q h
  | 3, q, h => List.all_eq_true.mp flk_3 q h
  | 4, q, h => List.all_eq_true.mp flk_4 q h
  | 5, q, h => List.all_eq_true.mp flk_5 q h
  | 6, q, h => List.all_eq_true.mp flk_6 q h
  | 7, q, h => List.all_eq_true.mp flk_7 q h
  | 8, q, h => List.all_eq_true.mp flk_8 q h
  | 9, q, h => List.all_eq_true.mp flk_9 q h
  | 10, q, h => List.all_eq_true.mp flk_10 q h
  | 11, q, h => List.all_eq_true.mp flk_11 q h
  | 12, q, h => List.all_eq_true.mp flk_12 q h
  | 13, q, h => List.all_eq_true.mp flk_13 q h
  | 14, q, h => List.all_eq_true.mp flk_14 q h
  | 15, q, h => List.all_eq_true.mp flk_15 q h
  | n + 16, q, h => absurd h List.not_mem_nil
theorem nlk_0 : (nlk 0).all (nlchk 0) = true := by decide +kernel
theorem nlk_1 : (nlk 1).all (nlchk 1) = true := by decide +kernel
theorem nlk_2 : (nlk 2).all (nlchk 2) = true := by decide +kernel
theorem nlk_3 : (nlk 3).all (nlchk 3) = true := by decide +kernel
theorem nlk_4 : (nlk 4).all (nlchk 4) = true := by decide +kernel
theorem nlk_5 : (nlk 5).all (nlchk 5) = true := by decide +kernel
theorem nlk_6 : (nlk 6).all (nlchk 6) = true := by decide +kernel
theorem nlk_7 : (nlk 7).all (nlchk 7) = true := by decide +kernel
theorem nlk_8 : (nlk 8).all (nlchk 8) = true := by decide +kernel
theorem nlk_9 : (nlk 9).all (nlchk 9) = true := by decide +kernel
theorem nlk_10 : (nlk 10).all (nlchk 10) = true := by decide +kernel
theorem nlk_11 : (nlk 11).all (nlchk 11) = true := by decide +kernel
theorem nlk_12 : (nlk 12).all (nlchk 12) = true := by decide +kernel
theorem nlk_13 : (nlk 13).all (nlchk 13) = true := by decide +kernel
theorem nlk_14 : (nlk 14).all (nlchk 14) = true := by decide +kernel
theorem nlk_15 : (nlk 15).all (nlchk 15) = true := by decide +kernel
theorem nlk_ok : ∀ oc q, q ∈ nlk oc → nlchk oc q = true
  | 0, q, h => List.all_eq_true.mp nlk_0 q h
  | 1, q, h => List.all_eq_true.mp nlk_1 q h
  | 2, q, h => List.all_eq_true.mp nlk_2 q h
  | 3, q, h => List.all_eq_true.mp nlk_3 q h
  | 4, q, h => List.all_eq_true.mp nlk_4 q h
  | 5, q, h => List.all_eq_true.mp nlk_5 q h
  | 6, q, h => List.all_eq_true.mp nlk_6 q h
  | 7, q, h => List.all_eq_true.mp nlk_7 q h
  | 8, q, h => List.all_eq_true.mp nlk_8 q h
  | 9, q, h => List.all_eq_true.mp nlk_9 q h
  | 10, q, h => List.all_eq_true.mp nlk_10 q h
  | 11, q, h => List.all_eq_true.mp nlk_11 q h
  | 12, q, h => List.all_eq_true.mp nlk_12 q h
  | 13, q, h => List.all_eq_true.mp nlk_13 q h
  | 14, q, h => List.all_eq_true.mp nlk_14 q h
  | 15, q, h => List.all_eq_true.mp nlk_15 q h
  | n + 16, q, h => absurd h List.not_mem_nil
theorem klk_0 : (klk 0).all (klchk 0) = true := by decide +kernel
theorem klk_1 : (klk 1).all (klchk 1) = true := by decide +kernel
theorem klk_2 : (klk 2).all (klchk 2) = true := by decide +kernel
theorem klk_3 : (klk 3).all (klchk 3) = true := by decide +kernel
theorem klk_4 : (klk 4).all (klchk 4) = true := by decide +kernel
theorem klk_5 : (klk 5).all (klchk 5) = true := by decide +kernel
theorem klk_6 : (klk 6).all (klchk 6) = true := by decide +kernel
theorem klk_7 : (klk 7).all (klchk 7) = true := by decide +kernel
theorem klk_8 : (klk 8).all (klchk 8) = true := by decide +kernel
theorem klk_9 : (klk 9).all (klchk 9) = true := by decide +kernel
theorem klk_10 : (klk 10).all (klchk 10) = true := by decide +kernel
theorem klk_11 : (klk 11).all (klchk 11) = true := by decide +kernel
theorem klk_12 : (klk 12).all (klchk 12) = true := by decide +kernel
theorem klk_13 : (klk 13).all (klchk 13) = true := by decide +kernel
theorem klk_14 : (klk 14).all (klchk 14) = true := by decide +kernel
theorem klk_15 : (klk 15).all (klchk 15) = true := by decide +kernel
theorem klk_ok : ∀ oc q, q ∈ klk oc → klchk oc q = true
  | 0, q, h => List.all_eq_true.mp klk_0 q h
  | 1, q, h => List.all_eq_true.mp klk_1 q h
  | 2, q, h => List.all_eq_true.mp klk_2 q h
  | 3, q, h => List.all_eq_true.mp klk_3 q h
  | 4, q, h => List.all_eq_true.mp klk_4 q h
  | 5, q, h => List.all_eq_true.mp klk_5 q h
  | 6, q, h => List.all_eq_true.mp klk_6 q h
  | 7, q, h => List.all_eq_true.mp klk_7 q h
  | 8, q, h => List.all_eq_true.mp klk_8 q h
  | 9, q, h => List.all_eq_true.mp klk_9 q h
  | 10, q, h => List.all_eq_true.mp klk_10 q h
  | 11, q, h => List.all_eq_true.mp klk_11 q h
  | 12, q, h => List.all_eq_true.mp klk_12 q h
  | 13, q, h => List.all_eq_true.mp klk_13 q h
  | 14, q, h => List.all_eq_true.mp klk_14 q h
  | 15, q, h => List.all_eq_true.mp klk_15 q h
  | n + 16, q, h => absurd h List.not_mem_nil
