/-! ===== the pure machine: what a run does to values and cells, as a function =====
cells: an array is .inl (kind, length, contents); an object is .inr (class number, fields). kinds: 0 int, 1 long, 2 boolean, 3 byte, 4 Object.
a reference .ref a is the a-th cell made since the law began; .float k names a cell that was there before (0 the script, 1 ArrayList's empty row, 2 the letters' text, 3 its bytes); .retAddr 0 is a local that nobody knows. -/
abbrev PA : Type := (Nat → Int32) ⊕ ((Nat → Int64) ⊕ (Nat → Option Nat))
abbrev PC : Type := (Nat × Nat × PA) ⊕ (Nat × List Value)
abbrev PH : Type := List PC
abbrev PI : Type := Nat × Instr × List Nat
abbrev PM : Type := MethodName × ByteArray × Nat × Option FieldType × List PI
abbrev PR : Type := (Nat × List Value × List Value × PH) ⊕ ((Nat × List Value × List Value) ⊕ Option Value)
def pT0 : u_T := fun k => match k with
  | 0 => ("RowAuditor$Books", "today", "I", false)
  | 1 => ("RowAuditor$Books", "houses", "I", false)
  | 2 => ("RowAuditor$Books", "rows", "I", false)
  | 3 => ("RowAuditor$Books", "mendings", "I", false)
  | 4 => ("RowAuditor$Books", "firstSums", "[I", true)
  | 5 => ("RowAuditor$Books", "cells", "[I", true)
  | 6 => ("RowAuditor$Books", "order", "[I", true)
  | 7 => ("RowAuditor$Books", "mendedRows", "[I", true)
  | 8 => ("RowAuditor$Books", "mendedSums", "[I", true)
  | _ => ("RowAuditor$Books", "mendedDays", "[I", true)
def pY0 : Nat → FieldType := fun k => match k with
  | 0 => .int
  | 1 => .int
  | 2 => .int
  | 3 => .int
  | 4 => .array (.int)
  | 5 => .array (.int)
  | 6 => .array (.int)
  | 7 => .array (.int)
  | 8 => .array (.int)
  | _ => .array (.int)
theorem pN0 : ∀ a, a < 10 → ∀ b, b < 10 → a ≠ b → (pT0 a).2.1 ≠ (pT0 b).2.1 := by decide +kernel
theorem pO0 : ∀ k, k < 10 → parseFieldDescriptor (pT0 k).2.2.1 = some (pY0 k) := by decide +kernel
def pD0 : List Value := [.int 0, .int 0, .int 0, .int 0, .null, .null, .null, .null, .null, .null]
def pT1 : u_T := fun k => match k with
  | 0 => ("RowAuditor$Clause", "kind", "I", true)
  | 1 => ("RowAuditor$Clause", "code", "[I", true)
  | 2 => ("RowAuditor$Clause", "target", "I", true)
  | _ => ("RowAuditor$Clause", "targetClause", "I", true)
def pY1 : Nat → FieldType := fun k => match k with
  | 0 => .int
  | 1 => .array (.int)
  | 2 => .int
  | _ => .int
theorem pN1 : ∀ a, a < 4 → ∀ b, b < 4 → a ≠ b → (pT1 a).2.1 ≠ (pT1 b).2.1 := by decide +kernel
theorem pO1 : ∀ k, k < 4 → parseFieldDescriptor (pT1 k).2.2.1 = some (pY1 k) := by decide +kernel
def pD1 : List Value := [.int 0, .null, .int 0, .int 0]
def pT2 : u_T := fun k => match k with
  | 0 => ("RowAuditor$Facts", "unbelieved", "I", false)
  | 1 => ("RowAuditor$Facts", "books", "LRowAuditor$Books;", true)
  | 2 => ("RowAuditor$Facts", "view", "LRowAuditor$View;", true)
  | 3 => ("RowAuditor$Facts", "letters", "[J", true)
  | _ => ("RowAuditor$Facts", "stack", "[J", true)
def pY2 : Nat → FieldType := fun k => match k with
  | 0 => .int
  | 1 => .object "RowAuditor$Books"
  | 2 => .object "RowAuditor$View"
  | 3 => .array (.long)
  | _ => .array (.long)
theorem pN2 : ∀ a, a < 5 → ∀ b, b < 5 → a ≠ b → (pT2 a).2.1 ≠ (pT2 b).2.1 := by decide +kernel
theorem pO2 : ∀ k, k < 5 → parseFieldDescriptor (pT2 k).2.2.1 = some (pY2 k) := by decide +kernel
def pD2 : List Value := [.int 0, .null, .null, .null, .null]
def pT3 : u_T := fun k => match k with
  | 0 => ("RowAuditor$Fitter", "books", "LRowAuditor$Books;", true)
  | 1 => ("RowAuditor$Fitter", "view", "LRowAuditor$View;", true)
  | 2 => ("RowAuditor$Fitter", "facts", "LRowAuditor$Facts;", true)
  | 3 => ("RowAuditor$Fitter", "holding", "[I", true)
  | 4 => ("RowAuditor$Fitter", "fitting", "[I", true)
  | 5 => ("RowAuditor$Fitter", "most", "[I", true)
  | 6 => ("RowAuditor$Fitter", "letters", "[I", true)
  | 7 => ("RowAuditor$Fitter", "steps", "I", false)
  | 8 => ("RowAuditor$Fitter", "days", "I", false)
  | _ => ("RowAuditor$Fitter", "end", "I", false)
def pY3 : Nat → FieldType := fun k => match k with
  | 0 => .object "RowAuditor$Books"
  | 1 => .object "RowAuditor$View"
  | 2 => .object "RowAuditor$Facts"
  | 3 => .array (.int)
  | 4 => .array (.int)
  | 5 => .array (.int)
  | 6 => .array (.int)
  | 7 => .int
  | 8 => .int
  | _ => .int
theorem pN3 : ∀ a, a < 10 → ∀ b, b < 10 → a ≠ b → (pT3 a).2.1 ≠ (pT3 b).2.1 := by decide +kernel
theorem pO3 : ∀ k, k < 10 → parseFieldDescriptor (pT3 k).2.2.1 = some (pY3 k) := by decide +kernel
def pD3 : List Value := [.null, .null, .null, .null, .null, .null, .null, .int 0, .int 0, .int 0]
def pT4 : u_T := fun k => match k with
  | 0 => ("RowAuditor$Flow", "books", "LRowAuditor$Books;", true)
  | 1 => ("RowAuditor$Flow", "view", "LRowAuditor$View;", true)
  | 2 => ("RowAuditor$Flow", "nodeOf", "[I", true)
  | 3 => ("RowAuditor$Flow", "coins", "[I", true)
  | 4 => ("RowAuditor$Flow", "firstEdge", "[I", true)
  | 5 => ("RowAuditor$Flow", "nextEdge", "[I", true)
  | 6 => ("RowAuditor$Flow", "target", "[I", true)
  | 7 => ("RowAuditor$Flow", "room", "[I", true)
  | 8 => ("RowAuditor$Flow", "via", "[I", true)
  | 9 => ("RowAuditor$Flow", "queue", "[I", true)
  | 10 => ("RowAuditor$Flow", "nodes", "I", false)
  | _ => ("RowAuditor$Flow", "edges", "I", false)
def pY4 : Nat → FieldType := fun k => match k with
  | 0 => .object "RowAuditor$Books"
  | 1 => .object "RowAuditor$View"
  | 2 => .array (.int)
  | 3 => .array (.int)
  | 4 => .array (.int)
  | 5 => .array (.int)
  | 6 => .array (.int)
  | 7 => .array (.int)
  | 8 => .array (.int)
  | 9 => .array (.int)
  | 10 => .int
  | _ => .int
theorem pN4 : ∀ a, a < 12 → ∀ b, b < 12 → a ≠ b → (pT4 a).2.1 ≠ (pT4 b).2.1 := by decide +kernel
theorem pO4 : ∀ k, k < 12 → parseFieldDescriptor (pT4 k).2.2.1 = some (pY4 k) := by decide +kernel
def pD4 : List Value := [.null, .null, .null, .null, .null, .null, .null, .null, .null, .null, .int 0, .int 0]
def pT5 : u_T := fun k => match k with
  | 0 => ("RowAuditor$Laws", "rules", "Ljava/util/ArrayList;", true)
  | 1 => ("RowAuditor$Laws", "books", "LRowAuditor$Books;", true)
  | 2 => ("RowAuditor$Laws", "view", "LRowAuditor$View;", true)
  | 3 => ("RowAuditor$Laws", "facts", "LRowAuditor$Facts;", true)
  | _ => ("RowAuditor$Laws", "struck", "[I", true)
def pY5 : Nat → FieldType := fun k => match k with
  | 0 => .object "java/util/ArrayList"
  | 1 => .object "RowAuditor$Books"
  | 2 => .object "RowAuditor$View"
  | 3 => .object "RowAuditor$Facts"
  | _ => .array (.int)
theorem pN5 : ∀ a, a < 5 → ∀ b, b < 5 → a ≠ b → (pT5 a).2.1 ≠ (pT5 b).2.1 := by decide +kernel
theorem pO5 : ∀ k, k < 5 → parseFieldDescriptor (pT5 k).2.2.1 = some (pY5 k) := by decide +kernel
def pD5 : List Value := [.null, .null, .null, .null, .null]
def pT6 : u_T := fun k => match k with
  | 0 => ("RowAuditor$Parser", "text", "[I", true)
  | 1 => ("RowAuditor$Parser", "code", "[I", true)
  | 2 => ("RowAuditor$Parser", "length", "I", false)
  | 3 => ("RowAuditor$Parser", "used", "I", false)
  | 4 => ("RowAuditor$Parser", "at", "I", false)
  | 5 => ("RowAuditor$Parser", "fault", "I", false)
  | _ => ("RowAuditor$Parser", "faultPlace", "I", false)
def pY6 : Nat → FieldType := fun k => match k with
  | 0 => .array (.int)
  | 1 => .array (.int)
  | 2 => .int
  | 3 => .int
  | 4 => .int
  | 5 => .int
  | _ => .int
theorem pN6 : ∀ a, a < 7 → ∀ b, b < 7 → a ≠ b → (pT6 a).2.1 ≠ (pT6 b).2.1 := by decide +kernel
theorem pO6 : ∀ k, k < 7 → parseFieldDescriptor (pT6 k).2.2.1 = some (pY6 k) := by decide +kernel
def pD6 : List Value := [.null, .null, .int 0, .int 0, .int 0, .int 0, .int 0]
def pT7 : u_T := fun k => match k with
  | 0 => ("RowAuditor$Readings", "size", "I", false)
  | 1 => ("RowAuditor$Readings", "hours", "[I", true)
  | 2 => ("RowAuditor$Readings", "worths", "[I", true)
  | _ => ("RowAuditor$Readings", "wants", "[I", true)
def pY7 : Nat → FieldType := fun k => match k with
  | 0 => .int
  | 1 => .array (.int)
  | 2 => .array (.int)
  | _ => .array (.int)
theorem pN7 : ∀ a, a < 4 → ∀ b, b < 4 → a ≠ b → (pT7 a).2.1 ≠ (pT7 b).2.1 := by decide +kernel
theorem pO7 : ∀ k, k < 4 → parseFieldDescriptor (pT7 k).2.2.1 = some (pY7 k) := by decide +kernel
def pD7 : List Value := [.int 0, .null, .null, .null]
def pT8 : u_T := fun k => match k with
  | 0 => ("RowAuditor$Rounder", "books", "LRowAuditor$Books;", true)
  | 1 => ("RowAuditor$Rounder", "view", "LRowAuditor$View;", true)
  | 2 => ("RowAuditor$Rounder", "waysTo", "[I", true)
  | 3 => ("RowAuditor$Rounder", "sets", "[I", true)
  | _ => ("RowAuditor$Rounder", "sizes", "[I", true)
def pY8 : Nat → FieldType := fun k => match k with
  | 0 => .object "RowAuditor$Books"
  | 1 => .object "RowAuditor$View"
  | 2 => .array (.int)
  | 3 => .array (.int)
  | _ => .array (.int)
theorem pN8 : ∀ a, a < 5 → ∀ b, b < 5 → a ≠ b → (pT8 a).2.1 ≠ (pT8 b).2.1 := by decide +kernel
theorem pO8 : ∀ k, k < 5 → parseFieldDescriptor (pT8 k).2.2.1 = some (pY8 k) := by decide +kernel
def pD8 : List Value := [.null, .null, .null, .null, .null]
def pT9 : u_T := fun k => match k with
  | 0 => ("RowAuditor$Text", "clauses", "Ljava/util/ArrayList;", true)
  | 1 => ("RowAuditor$Text", "from", "I", true)
  | _ => ("RowAuditor$Text", "to", "I", true)
def pY9 : Nat → FieldType := fun k => match k with
  | 0 => .object "java/util/ArrayList"
  | 1 => .int
  | _ => .int
theorem pN9 : ∀ a, a < 3 → ∀ b, b < 3 → a ≠ b → (pT9 a).2.1 ≠ (pT9 b).2.1 := by decide +kernel
theorem pO9 : ∀ k, k < 3 → parseFieldDescriptor (pT9 k).2.2.1 = some (pY9 k) := by decide +kernel
def pD9 : List Value := [.null, .int 0, .int 0]
def pT10 : u_T := fun k => match k with
  | 0 => ("RowAuditor$View", "day", "I", false)
  | 1 => ("RowAuditor$View", "size", "I", false)
  | 2 => ("RowAuditor$View", "books", "LRowAuditor$Books;", true)
  | 3 => ("RowAuditor$View", "sums", "[I", true)
  | 4 => ("RowAuditor$View", "places", "[I", true)
  | 5 => ("RowAuditor$View", "order", "[I", true)
  | 6 => ("RowAuditor$View", "crowds", "[I", true)
  | 7 => ("RowAuditor$View", "turnovers", "[I", true)
  | 8 => ("RowAuditor$View", "byHand", "[I", true)
  | _ => ("RowAuditor$View", "byPayee", "[I", true)
def pY10 : Nat → FieldType := fun k => match k with
  | 0 => .int
  | 1 => .int
  | 2 => .object "RowAuditor$Books"
  | 3 => .array (.int)
  | 4 => .array (.int)
  | 5 => .array (.int)
  | 6 => .array (.int)
  | 7 => .array (.int)
  | 8 => .array (.int)
  | _ => .array (.int)
theorem pN10 : ∀ a, a < 10 → ∀ b, b < 10 → a ≠ b → (pT10 a).2.1 ≠ (pT10 b).2.1 := by decide +kernel
theorem pO10 : ∀ k, k < 10 → parseFieldDescriptor (pT10 k).2.2.1 = some (pY10 k) := by decide +kernel
def pD10 : List Value := [.int 0, .int 0, .null, .null, .null, .null, .null, .null, .null, .null]
def pT11 : u_T := fun k => match k with
  | 0 => ("RowAuditor", "books", "LRowAuditor$Books;", true)
  | 1 => ("RowAuditor", "view", "LRowAuditor$View;", true)
  | 2 => ("RowAuditor", "facts", "LRowAuditor$Facts;", true)
  | 3 => ("RowAuditor", "laws", "LRowAuditor$Laws;", true)
  | 4 => ("RowAuditor", "chains", "Ljava/util/ArrayList;", true)
  | 5 => ("RowAuditor", "readings", "LRowAuditor$Readings;", true)
  | 6 => ("RowAuditor", "tape", "[I", true)
  | 7 => ("RowAuditor", "taped", "I", false)
  | 8 => ("RowAuditor", "things", "[I", true)
  | 9 => ("RowAuditor", "judged", "[Z", true)
  | 10 => ("RowAuditor", "askedRows", "[I", true)
  | 11 => ("RowAuditor", "askedDays", "[I", true)
  | 12 => ("RowAuditor", "answers", "[I", true)
  | 13 => ("RowAuditor", "askings", "I", false)
  | 14 => ("RowAuditor", "drawn", "[I", true)
  | 15 => ("RowAuditor", "dealt", "[I", true)
  | 16 => ("RowAuditor", "parser", "LRowAuditor$Parser;", true)
  | 17 => ("RowAuditor", "flow", "LRowAuditor$Flow;", true)
  | 18 => ("RowAuditor", "rounder", "LRowAuditor$Rounder;", true)
  | _ => ("RowAuditor", "fitter", "LRowAuditor$Fitter;", true)
def pY11 : Nat → FieldType := fun k => match k with
  | 0 => .object "RowAuditor$Books"
  | 1 => .object "RowAuditor$View"
  | 2 => .object "RowAuditor$Facts"
  | 3 => .object "RowAuditor$Laws"
  | 4 => .object "java/util/ArrayList"
  | 5 => .object "RowAuditor$Readings"
  | 6 => .array (.int)
  | 7 => .int
  | 8 => .array (.int)
  | 9 => .array (.boolean)
  | 10 => .array (.int)
  | 11 => .array (.int)
  | 12 => .array (.int)
  | 13 => .int
  | 14 => .array (.int)
  | 15 => .array (.int)
  | 16 => .object "RowAuditor$Parser"
  | 17 => .object "RowAuditor$Flow"
  | 18 => .object "RowAuditor$Rounder"
  | _ => .object "RowAuditor$Fitter"
theorem pN11 : ∀ a, a < 20 → ∀ b, b < 20 → a ≠ b → (pT11 a).2.1 ≠ (pT11 b).2.1 := by decide +kernel
theorem pO11 : ∀ k, k < 20 → parseFieldDescriptor (pT11 k).2.2.1 = some (pY11 k) := by decide +kernel
def pD11 : List Value := [.null, .null, .null, .null, .null, .null, .null, .int 0, .null, .null, .null, .null, .null, .int 0, .null, .null, .null, .null, .null, .null]
def pT12 : u_T := fun k => match k with
  | 0 => ("RowAuditorModel", "now", "I", false)
  | 1 => ("RowAuditorModel", "houses", "I", false)
  | 2 => ("RowAuditorModel", "rows", "I", false)
  | 3 => ("RowAuditorModel", "mends", "I", false)
  | 4 => ("RowAuditorModel", "houseSum", "[I", true)
  | 5 => ("RowAuditorModel", "kindOf", "[I", true)
  | 6 => ("RowAuditorModel", "houseOf", "[I", true)
  | 7 => ("RowAuditorModel", "otherOf", "[I", true)
  | 8 => ("RowAuditorModel", "dayOf", "[I", true)
  | 9 => ("RowAuditorModel", "hourOf", "[I", true)
  | 10 => ("RowAuditorModel", "sumOf", "[I", true)
  | 11 => ("RowAuditorModel", "handOf", "[I", true)
  | 12 => ("RowAuditorModel", "leaveOf", "[I", true)
  | 13 => ("RowAuditorModel", "paperOf", "[I", true)
  | 14 => ("RowAuditorModel", "toldOn", "[I", true)
  | 15 => ("RowAuditorModel", "clearedOn", "[I", true)
  | 16 => ("RowAuditorModel", "isPutIn", "[Z", true)
  | 17 => ("RowAuditorModel", "mendRow", "[I", true)
  | 18 => ("RowAuditorModel", "mendSum", "[I", true)
  | 19 => ("RowAuditorModel", "mendOn", "[I", true)
  | 20 => ("RowAuditorModel", "many", "I", false)
  | 21 => ("RowAuditorModel", "order", "[I", true)
  | 22 => ("RowAuditorModel", "sums", "[I", true)
  | 23 => ("RowAuditorModel", "placeBy", "[I", true)
  | 24 => ("RowAuditorModel", "tape", "[B", true)
  | 25 => ("RowAuditorModel", "taped", "I", false)
  | 26 => ("RowAuditorModel", "place0", "I", false)
  | 27 => ("RowAuditorModel", "length0", "I", false)
  | 28 => ("RowAuditorModel", "fault", "I", false)
  | 29 => ("RowAuditorModel", "open", "I", false)
  | 30 => ("RowAuditorModel", "codeMany", "I", false)
  | 31 => ("RowAuditorModel", "waiting", "I", false)
  | 32 => ("RowAuditorModel", "saidClauses", "I", false)
  | 33 => ("RowAuditorModel", "number0", "I", false)
  | 34 => ("RowAuditorModel", "said", "[I", true)
  | 35 => ("RowAuditorModel", "waits", "[I", true)
  | 36 => ("RowAuditorModel", "saidLetter", "[I", true)
  | 37 => ("RowAuditorModel", "saidFrom", "[I", true)
  | 38 => ("RowAuditorModel", "saidTo", "[I", true)
  | 39 => ("RowAuditorModel", "saidN", "[I", true)
  | 40 => ("RowAuditorModel", "saidJ", "[I", true)
  | 41 => ("RowAuditorModel", "rules", "I", false)
  | 42 => ("RowAuditorModel", "chains", "I", false)
  | 43 => ("RowAuditorModel", "codes", "[I", true)
  | 44 => ("RowAuditorModel", "ruleFrom", "[I", true)
  | 45 => ("RowAuditorModel", "ruleTo", "[I", true)
  | 46 => ("RowAuditorModel", "clauseMany", "[I", true)
  | 47 => ("RowAuditorModel", "letterOf", "[I", true)
  | 48 => ("RowAuditorModel", "codeFrom", "[I", true)
  | 49 => ("RowAuditorModel", "codeTo", "[I", true)
  | 50 => ("RowAuditorModel", "nOf", "[I", true)
  | 51 => ("RowAuditorModel", "jOf", "[I", true)
  | 52 => ("RowAuditorModel", "falseHand", "I", false)
  | 53 => ("RowAuditorModel", "stack", "[J", true)
  | 54 => ("RowAuditorModel", "facts", "[J", true)
  | 55 => ("RowAuditorModel", "isStruck", "[Z", true)
  | 56 => ("RowAuditorModel", "told", "[I", true)
  | 57 => ("RowAuditorModel", "nodes", "I", false)
  | 58 => ("RowAuditorModel", "edges", "I", false)
  | 59 => ("RowAuditorModel", "edgeFrom", "[I", true)
  | 60 => ("RowAuditorModel", "edgeTo", "[I", true)
  | 61 => ("RowAuditorModel", "edgeRoom", "[I", true)
  | 62 => ("RowAuditorModel", "edgeFlow", "[I", true)
  | 63 => ("RowAuditorModel", "cameBy", "[I", true)
  | 64 => ("RowAuditorModel", "latest", "[I", true)
  | 65 => ("RowAuditorModel", "has", "[I", true)
  | 66 => ("RowAuditorModel", "row", "[I", true)
  | 67 => ("RowAuditorModel", "next", "[I", true)
  | 68 => ("RowAuditorModel", "isStep", "[Z", true)
  | 69 => ("RowAuditorModel", "firstRow", "[I", true)
  | 70 => ("RowAuditorModel", "choose", "[J", true)
  | 71 => ("RowAuditorModel", "ofAll", "I", false)
  | 72 => ("RowAuditorModel", "ofMarked", "I", false)
  | 73 => ("RowAuditorModel", "own", "I", false)
  | 74 => ("RowAuditorModel", "ownMarked", "I", false)
  | 75 => ("RowAuditorModel", "thingsOf", "[I", true)
  | 76 => ("RowAuditorModel", "isOne", "[Z", true)
  | 77 => ("RowAuditorModel", "isDrawn", "[Z", true)
  | 78 => ("RowAuditorModel", "askings", "I", false)
  | 79 => ("RowAuditorModel", "readings", "I", false)
  | 80 => ("RowAuditorModel", "askHand", "[I", true)
  | 81 => ("RowAuditorModel", "askRow", "[I", true)
  | 82 => ("RowAuditorModel", "askDay", "[I", true)
  | 83 => ("RowAuditorModel", "askAnswer", "[I", true)
  | 84 => ("RowAuditorModel", "readHours", "[I", true)
  | 85 => ("RowAuditorModel", "readWorth", "[I", true)
  | _ => ("RowAuditorModel", "readWants", "[I", true)
def pY12 : Nat → FieldType := fun k => match k with
  | 0 => .int
  | 1 => .int
  | 2 => .int
  | 3 => .int
  | 4 => .array (.int)
  | 5 => .array (.int)
  | 6 => .array (.int)
  | 7 => .array (.int)
  | 8 => .array (.int)
  | 9 => .array (.int)
  | 10 => .array (.int)
  | 11 => .array (.int)
  | 12 => .array (.int)
  | 13 => .array (.int)
  | 14 => .array (.int)
  | 15 => .array (.int)
  | 16 => .array (.boolean)
  | 17 => .array (.int)
  | 18 => .array (.int)
  | 19 => .array (.int)
  | 20 => .int
  | 21 => .array (.int)
  | 22 => .array (.int)
  | 23 => .array (.int)
  | 24 => .array (.byte)
  | 25 => .int
  | 26 => .int
  | 27 => .int
  | 28 => .int
  | 29 => .int
  | 30 => .int
  | 31 => .int
  | 32 => .int
  | 33 => .int
  | 34 => .array (.int)
  | 35 => .array (.int)
  | 36 => .array (.int)
  | 37 => .array (.int)
  | 38 => .array (.int)
  | 39 => .array (.int)
  | 40 => .array (.int)
  | 41 => .int
  | 42 => .int
  | 43 => .array (.int)
  | 44 => .array (.int)
  | 45 => .array (.int)
  | 46 => .array (.int)
  | 47 => .array (.int)
  | 48 => .array (.int)
  | 49 => .array (.int)
  | 50 => .array (.int)
  | 51 => .array (.int)
  | 52 => .int
  | 53 => .array (.long)
  | 54 => .array (.long)
  | 55 => .array (.boolean)
  | 56 => .array (.int)
  | 57 => .int
  | 58 => .int
  | 59 => .array (.int)
  | 60 => .array (.int)
  | 61 => .array (.int)
  | 62 => .array (.int)
  | 63 => .array (.int)
  | 64 => .array (.int)
  | 65 => .array (.int)
  | 66 => .array (.int)
  | 67 => .array (.int)
  | 68 => .array (.boolean)
  | 69 => .array (.int)
  | 70 => .array (.long)
  | 71 => .int
  | 72 => .int
  | 73 => .int
  | 74 => .int
  | 75 => .array (.int)
  | 76 => .array (.boolean)
  | 77 => .array (.boolean)
  | 78 => .int
  | 79 => .int
  | 80 => .array (.int)
  | 81 => .array (.int)
  | 82 => .array (.int)
  | 83 => .array (.int)
  | 84 => .array (.int)
  | 85 => .array (.int)
  | _ => .array (.int)
theorem pN12 : ∀ a, a < 87 → ∀ b, b < 87 → a ≠ b → (pT12 a).2.1 ≠ (pT12 b).2.1 := by decide +kernel
theorem pO12 : ∀ k, k < 87 → parseFieldDescriptor (pT12 k).2.2.1 = some (pY12 k) := by decide +kernel
def pD12 : List Value := [.int 0, .int 0, .int 0, .int 0, .null, .null, .null, .null, .null, .null, .null, .null, .null, .null, .null, .null, .null, .null, .null, .null, .int 0, .null, .null, .null, .null, .int 0, .int 0, .int 0, .int 0, .int 0, .int 0, .int 0, .int 0, .int 0, .null, .null, .null, .null, .null, .null, .null, .int 0, .int 0, .null, .null, .null, .null, .null, .null, .null, .null, .null, .int 0, .null, .null, .null, .null, .int 0, .int 0, .null, .null, .null, .null, .null, .null, .null, .null, .null, .null, .null, .null, .int 0, .int 0, .int 0, .int 0, .null, .null, .null, .int 0, .int 0, .null, .null, .null, .null, .null, .null, .null]
def pT13 : u_T := fun k => match k with
  | 0 => ("java/util/AbstractList", "modCount", "I", false)
  | 1 => ("java/util/ArrayList", "elementData", "[Ljava/lang/Object;", false)
  | _ => ("java/util/ArrayList", "size", "I", false)
def pY13 : Nat → FieldType := fun k => match k with
  | 0 => .int
  | 1 => .array (.object "java/lang/Object")
  | _ => .int
theorem pN13 : ∀ a, a < 3 → ∀ b, b < 3 → a ≠ b → (pT13 a).2.1 ≠ (pT13 b).2.1 := by decide +kernel
theorem pO13 : ∀ k, k < 3 → parseFieldDescriptor (pT13 k).2.2.1 = some (pY13 k) := by decide +kernel
def pD13 : List Value := [.int 0, .null, .int 0]
abbrev pcl : List vw_C := [("RowAuditor$Books", pT0, 10), ("RowAuditor$Clause", pT1, 4), ("RowAuditor$Facts", pT2, 5), ("RowAuditor$Fitter", pT3, 10), ("RowAuditor$Flow", pT4, 12), ("RowAuditor$Laws", pT5, 5), ("RowAuditor$Parser", pT6, 7), ("RowAuditor$Readings", pT7, 4), ("RowAuditor$Rounder", pT8, 5), ("RowAuditor$Text", pT9, 3), ("RowAuditor$View", pT10, 10), ("RowAuditor", pT11, 20), ("RowAuditorModel", pT12, 87), ("java/util/ArrayList", pT13, 3)]
def pY : Nat → Nat → FieldType := fun c => match c with
  | 0 => pY0
  | 1 => pY1
  | 2 => pY2
  | 3 => pY3
  | 4 => pY4
  | 5 => pY5
  | 6 => pY6
  | 7 => pY7
  | 8 => pY8
  | 9 => pY9
  | 10 => pY10
  | 11 => pY11
  | 12 => pY12
  | _ => pY13
def pDf : List (List Value) := [pD0, pD1, pD2, pD3, pD4, pD5, pD6, pD7, pD8, pD9, pD10, pD11, pD12, pD13]
