/-! classes, their fields, the words of the tables by their places (printed by wip/gen/names.py) -/
def nC0 : String := "PrunedSearch"
def fT0 : u_T := fun k => match k with
  | 0 => ("PrunedSearch", "text", "LPrunedSearch$Text;", true)
  | 1 => ("PrunedSearch", "names", "LPrunedSearch$Names;", true)
  | 2 => ("PrunedSearch", "program", "LPrunedSearch$Code;", true)
  | 3 => ("PrunedSearch", "reader", "LPrunedSearch$ClauseReader;", true)
  | _ => ("PrunedSearch", "search", "LPrunedSearch$Search;", true)
def fY0 : Nat → FieldType := fun k => match k with
  | 0 => .object "PrunedSearch$Text"
  | 1 => .object "PrunedSearch$Names"
  | 2 => .object "PrunedSearch$Code"
  | 3 => .object "PrunedSearch$ClauseReader"
  | _ => .object "PrunedSearch$Search"
theorem fN0 : ∀ a, a < 5 → ∀ b, b < 5 → a ≠ b → (fT0 a).2.1 ≠ (fT0 b).2.1 := by decide +kernel
theorem fO0 : ∀ k, k < 5 → parseFieldDescriptor (fT0 k).2.2.1 = some (fY0 k) := by decide +kernel
def nC1 : String := "PrunedSearch$Text"
def fT1 : u_T := fun k => match k with
  | 0 => ("PrunedSearch$Text", "row", "[C", true)
  | _ => ("PrunedSearch$Text", "size", "I", false)
def fY1 : Nat → FieldType := fun k => match k with
  | 0 => .array .char
  | _ => .int
theorem fN1 : ∀ a, a < 2 → ∀ b, b < 2 → a ≠ b → (fT1 a).2.1 ≠ (fT1 b).2.1 := by decide +kernel
theorem fO1 : ∀ k, k < 2 → parseFieldDescriptor (fT1 k).2.2.1 = some (fY1 k) := by decide +kernel
def nC2 : String := "PrunedSearch$Tokens"
def fT2 : u_T := fun k => match k with
  | 0 => ("PrunedSearch$Tokens", "kinds", "[C", true)
  | 1 => ("PrunedSearch$Tokens", "places", "[I", true)
  | 2 => ("PrunedSearch$Tokens", "words", "[J", true)
  | _ => ("PrunedSearch$Tokens", "count", "I", false)
def fY2 : Nat → FieldType := fun k => match k with
  | 0 => .array .char
  | 1 => .array .int
  | 2 => .array .long
  | _ => .int
theorem fN2 : ∀ a, a < 4 → ∀ b, b < 4 → a ≠ b → (fT2 a).2.1 ≠ (fT2 b).2.1 := by decide +kernel
theorem fO2 : ∀ k, k < 4 → parseFieldDescriptor (fT2 k).2.2.1 = some (fY2 k) := by decide +kernel
def nC3 : String := "PrunedSearch$Names"
def fT3 : u_T := fun k => match k with
  | 0 => ("PrunedSearch$Names", "words", "[J", true)
  | 1 => ("PrunedSearch$Names", "kept", "I", false)
  | 2 => ("PrunedSearch$Names", "count", "I", false)
  | _ => ("PrunedSearch$Names", "tooMany", "Z", false)
def fY3 : Nat → FieldType := fun k => match k with
  | 0 => .array .long
  | 1 => .int
  | 2 => .int
  | _ => .boolean
theorem fN3 : ∀ a, a < 4 → ∀ b, b < 4 → a ≠ b → (fT3 a).2.1 ≠ (fT3 b).2.1 := by decide +kernel
theorem fO3 : ∀ k, k < 4 → parseFieldDescriptor (fT3 k).2.2.1 = some (fY3 k) := by decide +kernel
def nC4 : String := "PrunedSearch$Code"
def fT4 : u_T := fun k => match k with
  | 0 => ("PrunedSearch$Code", "symbols", "[I", true)
  | 1 => ("PrunedSearch$Code", "sizes", "[I", true)
  | 2 => ("PrunedSearch$Code", "ends", "[I", true)
  | 3 => ("PrunedSearch$Code", "used", "I", false)
  | _ => ("PrunedSearch$Code", "parts", "I", false)
def fY4 : Nat → FieldType := fun k => match k with
  | 0 => .array .int
  | 1 => .array .int
  | 2 => .array .int
  | 3 => .int
  | _ => .int
theorem fN4 : ∀ a, a < 5 → ∀ b, b < 5 → a ≠ b → (fT4 a).2.1 ≠ (fT4 b).2.1 := by decide +kernel
theorem fO4 : ∀ k, k < 5 → parseFieldDescriptor (fT4 k).2.2.1 = some (fY4 k) := by decide +kernel
def nC5 : String := "PrunedSearch$ClauseReader"
def fT5 : u_T := fun k => match k with
  | 0 => ("PrunedSearch$ClauseReader", "names", "LPrunedSearch$Names;", true)
  | 1 => ("PrunedSearch$ClauseReader", "tokens", "LPrunedSearch$Tokens;", true)
  | 2 => ("PrunedSearch$ClauseReader", "code", "LPrunedSearch$Code;", true)
  | 3 => ("PrunedSearch$ClauseReader", "variables", "[J", true)
  | 4 => ("PrunedSearch$ClauseReader", "variableCount", "I", false)
  | 5 => ("PrunedSearch$ClauseReader", "loneCount", "I", false)
  | 6 => ("PrunedSearch$ClauseReader", "goalsRead", "I", false)
  | 7 => ("PrunedSearch$ClauseReader", "open", "I", false)
  | 8 => ("PrunedSearch$ClauseReader", "next", "I", false)
  | _ => ("PrunedSearch$ClauseReader", "much", "Z", false)
def fY5 : Nat → FieldType := fun k => match k with
  | 0 => .object "PrunedSearch$Names"
  | 1 => .object "PrunedSearch$Tokens"
  | 2 => .object "PrunedSearch$Code"
  | 3 => .array .long
  | 4 => .int
  | 5 => .int
  | 6 => .int
  | 7 => .int
  | 8 => .int
  | _ => .boolean
theorem fN5 : ∀ a, a < 10 → ∀ b, b < 10 → a ≠ b → (fT5 a).2.1 ≠ (fT5 b).2.1 := by decide +kernel
theorem fO5 : ∀ k, k < 10 → parseFieldDescriptor (fT5 k).2.2.1 = some (fY5 k) := by decide +kernel
def nC6 : String := "PrunedSearch$Terms"
def fT6 : u_T := fun k => match k with
  | 0 => ("PrunedSearch$Terms", "symbols", "[I", true)
  | 1 => ("PrunedSearch$Terms", "sizes", "[I", true)
  | 2 => ("PrunedSearch$Terms", "stands", "[I", true)
  | 3 => ("PrunedSearch$Terms", "marks", "[I", true)
  | 4 => ("PrunedSearch$Terms", "changed", "[I", true)
  | 5 => ("PrunedSearch$Terms", "waiting", "[I", true)
  | 6 => ("PrunedSearch$Terms", "variableCells", "[I", true)
  | 7 => ("PrunedSearch$Terms", "used", "I", false)
  | 8 => ("PrunedSearch$Terms", "changes", "I", false)
  | 9 => ("PrunedSearch$Terms", "waitingCount", "I", false)
  | _ => ("PrunedSearch$Terms", "lastMark", "I", false)
def fY6 : Nat → FieldType := fun k => match k with
  | 0 => .array .int
  | 1 => .array .int
  | 2 => .array .int
  | 3 => .array .int
  | 4 => .array .int
  | 5 => .array .int
  | 6 => .array .int
  | 7 => .int
  | 8 => .int
  | 9 => .int
  | _ => .int
theorem fN6 : ∀ a, a < 11 → ∀ b, b < 11 → a ≠ b → (fT6 a).2.1 ≠ (fT6 b).2.1 := by decide +kernel
theorem fO6 : ∀ k, k < 11 → parseFieldDescriptor (fT6 k).2.2.1 = some (fY6 k) := by decide +kernel
def nC7 : String := "PrunedSearch$Goals"
def fT7 : u_T := fun k => match k with
  | 0 => ("PrunedSearch$Goals", "terms", "[I", true)
  | 1 => ("PrunedSearch$Goals", "cuts", "[I", true)
  | 2 => ("PrunedSearch$Goals", "behind", "[I", true)
  | 3 => ("PrunedSearch$Goals", "used", "I", false)
  | _ => ("PrunedSearch$Goals", "first", "I", false)
def fY7 : Nat → FieldType := fun k => match k with
  | 0 => .array .int
  | 1 => .array .int
  | 2 => .array .int
  | 3 => .int
  | _ => .int
theorem fN7 : ∀ a, a < 5 → ∀ b, b < 5 → a ≠ b → (fT7 a).2.1 ≠ (fT7 b).2.1 := by decide +kernel
theorem fO7 : ∀ k, k < 5 → parseFieldDescriptor (fT7 k).2.2.1 = some (fY7 k) := by decide +kernel
def nC8 : String := "PrunedSearch$Choices"
def fT8 : u_T := fun k => match k with
  | 0 => ("PrunedSearch$Choices", "firstGoals", "[I", true)
  | 1 => ("PrunedSearch$Choices", "heldGoals", "[I", true)
  | 2 => ("PrunedSearch$Choices", "cells", "[I", true)
  | 3 => ("PrunedSearch$Choices", "changes", "[I", true)
  | 4 => ("PrunedSearch$Choices", "lengths", "[I", true)
  | 5 => ("PrunedSearch$Choices", "candidates", "[I", true)
  | _ => ("PrunedSearch$Choices", "count", "I", false)
def fY8 : Nat → FieldType := fun k => match k with
  | 0 => .array .int
  | 1 => .array .int
  | 2 => .array .int
  | 3 => .array .int
  | 4 => .array .int
  | 5 => .array .int
  | _ => .int
theorem fN8 : ∀ a, a < 7 → ∀ b, b < 7 → a ≠ b → (fT8 a).2.1 ≠ (fT8 b).2.1 := by decide +kernel
theorem fO8 : ∀ k, k < 7 → parseFieldDescriptor (fT8 k).2.2.1 = some (fY8 k) := by decide +kernel
def nC9 : String := "PrunedSearch$Search"
def fT9 : u_T := fun k => match k with
  | 0 => ("PrunedSearch$Search", "program", "LPrunedSearch$Code;", true)
  | 1 => ("PrunedSearch$Search", "names", "LPrunedSearch$Names;", true)
  | 2 => ("PrunedSearch$Search", "terms", "LPrunedSearch$Terms;", true)
  | 3 => ("PrunedSearch$Search", "branch", "LPrunedSearch$Goals;", true)
  | 4 => ("PrunedSearch$Search", "open", "LPrunedSearch$Choices;", true)
  | 5 => ("PrunedSearch$Search", "writer", "LPrunedSearch$TermWriter;", true)
  | 6 => ("PrunedSearch$Search", "asked", "[I", true)
  | 7 => ("PrunedSearch$Search", "askedCount", "I", false)
  | 8 => ("PrunedSearch$Search", "state", "I", false)
  | 9 => ("PrunedSearch$Search", "failed", "Z", false)
  | 10 => ("PrunedSearch$Search", "depth", "I", false)
  | 11 => ("PrunedSearch$Search", "tried", "I", false)
  | 12 => ("PrunedSearch$Search", "taken", "I", false)
  | _ => ("PrunedSearch$Search", "takenCut", "I", false)
def fY9 : Nat → FieldType := fun k => match k with
  | 0 => .object "PrunedSearch$Code"
  | 1 => .object "PrunedSearch$Names"
  | 2 => .object "PrunedSearch$Terms"
  | 3 => .object "PrunedSearch$Goals"
  | 4 => .object "PrunedSearch$Choices"
  | 5 => .object "PrunedSearch$TermWriter"
  | 6 => .array .int
  | 7 => .int
  | 8 => .int
  | 9 => .boolean
  | 10 => .int
  | 11 => .int
  | 12 => .int
  | _ => .int
theorem fN9 : ∀ a, a < 14 → ∀ b, b < 14 → a ≠ b → (fT9 a).2.1 ≠ (fT9 b).2.1 := by decide +kernel
theorem fO9 : ∀ k, k < 14 → parseFieldDescriptor (fT9 k).2.2.1 = some (fY9 k) := by decide +kernel
def nC10 : String := "PrunedSearch$TermWriter"
def fT10 : u_T := fun k => match k with
  | 0 => ("PrunedSearch$TermWriter", "terms", "LPrunedSearch$Terms;", true)
  | 1 => ("PrunedSearch$TermWriter", "names", "LPrunedSearch$Names;", true)
  | 2 => ("PrunedSearch$TermWriter", "written", "[C", true)
  | 3 => ("PrunedSearch$TermWriter", "ends", "[I", true)
  | 4 => ("PrunedSearch$TermWriter", "free", "[I", true)
  | 5 => ("PrunedSearch$TermWriter", "waiting", "[I", true)
  | 6 => ("PrunedSearch$TermWriter", "size", "I", false)
  | 7 => ("PrunedSearch$TermWriter", "freeCount", "I", false)
  | 8 => ("PrunedSearch$TermWriter", "waitingCount", "I", false)
  | _ => ("PrunedSearch$TermWriter", "done", "Z", false)
def fY10 : Nat → FieldType := fun k => match k with
  | 0 => .object "PrunedSearch$Terms"
  | 1 => .object "PrunedSearch$Names"
  | 2 => .array .char
  | 3 => .array .int
  | 4 => .array .int
  | 5 => .array .int
  | 6 => .int
  | 7 => .int
  | 8 => .int
  | _ => .boolean
theorem fN10 : ∀ a, a < 10 → ∀ b, b < 10 → a ≠ b → (fT10 a).2.1 ≠ (fT10 b).2.1 := by decide +kernel
theorem fO10 : ∀ k, k < 10 → parseFieldDescriptor (fT10 k).2.2.1 = some (fY10 k) := by decide +kernel
def nC11 : String := "PrunedSearchModel"
def fT11 : u_T := fun k => match k with
  | 0 => ("PrunedSearchModel", "text", "[I", true)
  | 1 => ("PrunedSearchModel", "typed", "I", false)
  | 2 => ("PrunedSearchModel", "token", "I", false)
  | 3 => ("PrunedSearchModel", "place", "I", false)
  | 4 => ("PrunedSearchModel", "after", "I", false)
  | 5 => ("PrunedSearchModel", "word", "J", false)
  | 6 => ("PrunedSearchModel", "readCode", "[J", true)
  | 7 => ("PrunedSearchModel", "readArity", "[I", true)
  | 8 => ("PrunedSearchModel", "symbols", "I", false)
  | 9 => ("PrunedSearchModel", "pieces", "I", false)
  | 10 => ("PrunedSearchModel", "pieceAt", "[I", true)
  | 11 => ("PrunedSearchModel", "pieceGoals", "[I", true)
  | 12 => ("PrunedSearchModel", "pieceVars", "[I", true)
  | 13 => ("PrunedSearchModel", "goalsRead", "I", false)
  | 14 => ("PrunedSearchModel", "readGoal", "[I", true)
  | 15 => ("PrunedSearchModel", "varWord", "[J", true)
  | 16 => ("PrunedSearchModel", "varAt", "[I", true)
  | 17 => ("PrunedSearchModel", "vars", "I", false)
  | 18 => ("PrunedSearchModel", "open", "I", false)
  | 19 => ("PrunedSearchModel", "kind", "[I", true)
  | 20 => ("PrunedSearchModel", "owner", "[I", true)
  | 21 => ("PrunedSearchModel", "count", "[I", true)
  | 22 => ("PrunedSearchModel", "fresh", "Z", false)
  | 23 => ("PrunedSearchModel", "code", "[J", true)
  | 24 => ("PrunedSearchModel", "arity", "[I", true)
  | 25 => ("PrunedSearchModel", "known", "I", false)
  | 26 => ("PrunedSearchModel", "size", "[I", true)
  | 27 => ("PrunedSearchModel", "goalCount", "[I", true)
  | 28 => ("PrunedSearchModel", "goalAt", "[I", true)
  | 29 => ("PrunedSearchModel", "names", "I", false)
  | 30 => ("PrunedSearchModel", "nameOf", "[J", true)
  | 31 => ("PrunedSearchModel", "asked", "I", false)
  | 32 => ("PrunedSearchModel", "askedAt", "[I", true)
  | 33 => ("PrunedSearchModel", "status", "I", false)
  | 34 => ("PrunedSearchModel", "ending", "I", false)
  | 35 => ("PrunedSearchModel", "tried", "I", false)
  | 36 => ("PrunedSearchModel", "depth", "I", false)
  | 37 => ("PrunedSearchModel", "pathClause", "[I", true)
  | 38 => ("PrunedSearchModel", "pathCut", "[I", true)
  | 39 => ("PrunedSearchModel", "picks", "I", false)
  | 40 => ("PrunedSearchModel", "choiceDepth", "[I", true)
  | 41 => ("PrunedSearchModel", "choiceLast", "[I", true)
  | 42 => ("PrunedSearchModel", "left", "I", false)
  | 43 => ("PrunedSearchModel", "goal", "[I", true)
  | 44 => ("PrunedSearchModel", "goalFrame", "[I", true)
  | 45 => ("PrunedSearchModel", "goalCut", "[I", true)
  | 46 => ("PrunedSearchModel", "standsAt", "[I", true)
  | 47 => ("PrunedSearchModel", "standsIn", "[I", true)
  | 48 => ("PrunedSearchModel", "seenAt", "I", false)
  | 49 => ("PrunedSearchModel", "seenIn", "I", false)
  | 50 => ("PrunedSearchModel", "stack", "[I", true)
  | 51 => ("PrunedSearchModel", "out", "[I", true)
  | 52 => ("PrunedSearchModel", "written", "I", false)
  | 53 => ("PrunedSearchModel", "shown", "[I", true)
  | _ => ("PrunedSearchModel", "numbered", "I", false)
def fY11 : Nat → FieldType := fun k => match k with
  | 0 => .array .int
  | 1 => .int
  | 2 => .int
  | 3 => .int
  | 4 => .int
  | 5 => .long
  | 6 => .array .long
  | 7 => .array .int
  | 8 => .int
  | 9 => .int
  | 10 => .array .int
  | 11 => .array .int
  | 12 => .array .int
  | 13 => .int
  | 14 => .array .int
  | 15 => .array .long
  | 16 => .array .int
  | 17 => .int
  | 18 => .int
  | 19 => .array .int
  | 20 => .array .int
  | 21 => .array .int
  | 22 => .boolean
  | 23 => .array .long
  | 24 => .array .int
  | 25 => .int
  | 26 => .array .int
  | 27 => .array .int
  | 28 => .array .int
  | 29 => .int
  | 30 => .array .long
  | 31 => .int
  | 32 => .array .int
  | 33 => .int
  | 34 => .int
  | 35 => .int
  | 36 => .int
  | 37 => .array .int
  | 38 => .array .int
  | 39 => .int
  | 40 => .array .int
  | 41 => .array .int
  | 42 => .int
  | 43 => .array .int
  | 44 => .array .int
  | 45 => .array .int
  | 46 => .array .int
  | 47 => .array .int
  | 48 => .int
  | 49 => .int
  | 50 => .array .int
  | 51 => .array .int
  | 52 => .int
  | 53 => .array .int
  | _ => .int
theorem fN11 : ∀ a, a < 55 → ∀ b, b < 55 → a ≠ b → (fT11 a).2.1 ≠ (fT11 b).2.1 := by decide +kernel
theorem fO11 : ∀ k, k < 55 → parseFieldDescriptor (fT11 k).2.2.1 = some (fY11 k) := by decide +kernel
/-- the tables' words that stay good -/
def Wt : List Cond := lw_tbl.filter goodWord
abbrev classes : List vw_C := [(nC0, fT0, 5), (nC1, fT1, 2), (nC2, fT2, 4), (nC3, fT3, 4), (nC4, fT4, 5), (nC5, fT5, 10), (nC6, fT6, 11), (nC7, fT7, 5), (nC8, fT8, 7), (nC9, fT9, 14), (nC10, fT10, 10), (nC11, fT11, 55)]
theorem fI0 : ∀ w ∈ u_ws nC0 fT0 5, w ∈ Wt := by decide +kernel
theorem fI1 : ∀ w ∈ u_ws nC1 fT1 2, w ∈ Wt := by decide +kernel
theorem fI2 : ∀ w ∈ u_ws nC2 fT2 4, w ∈ Wt := by decide +kernel
theorem fI3 : ∀ w ∈ u_ws nC3 fT3 4, w ∈ Wt := by decide +kernel
theorem fI4 : ∀ w ∈ u_ws nC4 fT4 5, w ∈ Wt := by decide +kernel
theorem fI5 : ∀ w ∈ u_ws nC5 fT5 10, w ∈ Wt := by decide +kernel
theorem fI6 : ∀ w ∈ u_ws nC6 fT6 11, w ∈ Wt := by decide +kernel
theorem fI7 : ∀ w ∈ u_ws nC7 fT7 5, w ∈ Wt := by decide +kernel
theorem fI8 : ∀ w ∈ u_ws nC8 fT8 7, w ∈ Wt := by decide +kernel
theorem fI9 : ∀ w ∈ u_ws nC9 fT9 14, w ∈ Wt := by decide +kernel
theorem fI10 : ∀ w ∈ u_ws nC10 fT10 10, w ∈ Wt := by decide +kernel
theorem fI11 : ∀ w ∈ u_ws nC11 fT11 55, w ∈ Wt := by decide +kernel
