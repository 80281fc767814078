def xTbl : List Cond := lw_tbl.filter goodWord
def xNest : Cond → Bool
  | .fieldLinkNest .. => true
  | .methodLinkNest .. => true
  | _ => false
def xNs : List Cond := tables_1.filter xNest
theorem xNs_nest : xNs.all xNest = true := List.all_eq_true.mpr fun _ h => (List.mem_filter.mp h).2
theorem xTbl_in : ∀ w ∈ xTbl, w ∈ lw_tbl := fun _ h => (List.mem_filter.mp h).1
theorem xTbl_good : ∀ w ∈ xTbl, (w.onTables && w.keeps) = true ∨ ∃ ty, w = .arrayClass ty := fun _ h => good_of_word (List.mem_filter.mp h).2
theorem xTab_1 {w : Cond} (h : w ∈ tables_1_1) : w ∈ tables_1 := by unfold tables_1; exact List.mem_append_left _ (h)
theorem xIn_1 {w : Cond} (h : w ∈ tables_1_1) (hg : goodWord w = true) : w ∈ xTbl := List.mem_filter.mpr ⟨List.mem_append_right _ (xTab_1 h), hg⟩
theorem xNs_1 {w : Cond} (h : w ∈ tables_1_1) (hg : xNest w = true) : w ∈ xNs := List.mem_filter.mpr ⟨xTab_1 h, hg⟩
theorem xTab_2 {w : Cond} (h : w ∈ tables_1_2) : w ∈ tables_1 := by unfold tables_1; exact List.mem_append_right _ (List.mem_append_left _ (h))
theorem xIn_2 {w : Cond} (h : w ∈ tables_1_2) (hg : goodWord w = true) : w ∈ xTbl := List.mem_filter.mpr ⟨List.mem_append_right _ (xTab_2 h), hg⟩
theorem xNs_2 {w : Cond} (h : w ∈ tables_1_2) (hg : xNest w = true) : w ∈ xNs := List.mem_filter.mpr ⟨xTab_2 h, hg⟩
theorem xTab_3 {w : Cond} (h : w ∈ tables_1_3) : w ∈ tables_1 := by unfold tables_1; exact List.mem_append_right _ (List.mem_append_right _ (List.mem_append_left _ (h)))
theorem xIn_3 {w : Cond} (h : w ∈ tables_1_3) (hg : goodWord w = true) : w ∈ xTbl := List.mem_filter.mpr ⟨List.mem_append_right _ (xTab_3 h), hg⟩
theorem xNs_3 {w : Cond} (h : w ∈ tables_1_3) (hg : xNest w = true) : w ∈ xNs := List.mem_filter.mpr ⟨xTab_3 h, hg⟩
theorem xTab_4 {w : Cond} (h : w ∈ tables_1_4) : w ∈ tables_1 := by unfold tables_1; exact List.mem_append_right _ (List.mem_append_right _ (List.mem_append_right _ (List.mem_append_left _ (h))))
theorem xIn_4 {w : Cond} (h : w ∈ tables_1_4) (hg : goodWord w = true) : w ∈ xTbl := List.mem_filter.mpr ⟨List.mem_append_right _ (xTab_4 h), hg⟩
theorem xNs_4 {w : Cond} (h : w ∈ tables_1_4) (hg : xNest w = true) : w ∈ xNs := List.mem_filter.mpr ⟨xTab_4 h, hg⟩
theorem xTab_5 {w : Cond} (h : w ∈ tables_1_5) : w ∈ tables_1 := by unfold tables_1; exact List.mem_append_right _ (List.mem_append_right _ (List.mem_append_right _ (List.mem_append_right _ (List.mem_append_left _ (h)))))
theorem xIn_5 {w : Cond} (h : w ∈ tables_1_5) (hg : goodWord w = true) : w ∈ xTbl := List.mem_filter.mpr ⟨List.mem_append_right _ (xTab_5 h), hg⟩
theorem xNs_5 {w : Cond} (h : w ∈ tables_1_5) (hg : xNest w = true) : w ∈ xNs := List.mem_filter.mpr ⟨xTab_5 h, hg⟩
theorem xTab_6 {w : Cond} (h : w ∈ tables_1_6) : w ∈ tables_1 := by unfold tables_1; exact List.mem_append_right _ (List.mem_append_right _ (List.mem_append_right _ (List.mem_append_right _ (List.mem_append_right _ (h)))))
theorem xIn_6 {w : Cond} (h : w ∈ tables_1_6) (hg : goodWord w = true) : w ∈ xTbl := List.mem_filter.mpr ⟨List.mem_append_right _ (xTab_6 h), hg⟩
theorem xNs_6 {w : Cond} (h : w ∈ tables_1_6) (hg : xNest w = true) : w ∈ xNs := List.mem_filter.mpr ⟨xTab_6 h, hg⟩
/-! small words of the functions -/
def xFU : Nat := 1000000
def xmax (x y : Int32) : Int32 := if x < y then y else x
def xmin (x y : Int32) : Int32 := if y < x then y else x
def xmaxl (x y : Int64) : Int64 := if y < x then x else y
def xminl (x y : Int64) : Int64 := if x < y then x else y
def xiushr (x y : Int32) : Int32 := (x.toUInt32 >>> (y.toUInt32 &&& Int32.toUInt32 31)).toInt32
def xlushr (x : Int64) (y : Int32) : Int64 := (x.toUInt64 >>> (y.toInt64.toUInt64 &&& Int64.toUInt64 63)).toInt64
def xlshl (x : Int64) (y : Int32) : Int64 := x <<< (y.toInt64 &&& 63)
def xlshr (x : Int64) (y : Int32) : Int64 := x >>> (y.toInt64 &&& 63)
def xi2b (x : Int32) : Int32 := x.toInt8.toInt32
def xi2s (x : Int32) : Int32 := x.toInt16.toInt32
def xi2c (x : Int32) : Int32 := (x.toUInt32 % 65536).toInt32
def xl {α β : Type} (a : α) (k : α → β) : β := k a
theorem xlb {α β : Type} {a : α} {k : α → β} {r : β} (h : xl a k = r) : ∃ t, t = a ∧ k t = r := ⟨a, rfl, h⟩
def xTy : List FieldType := [.int, .long, .array .int, .object "RosterRules$Law", .byte, .boolean]
theorem xTy_0 : xTy[0]? = some .int := rfl
theorem xTy_1 : xTy[1]? = some .long := rfl
theorem xTy_2 : xTy[2]? = some (.array .int) := rfl
theorem xTy_3 : xTy[3]? = some (.object "RosterRules$Law") := rfl
theorem xTy_4 : xTy[4]? = some .byte := rfl
theorem xTy_5 : xTy[5]? = some .boolean := rfl
def RC_0 : String := "RosterRules$Automaton"
def TC_0 : u_T := fun k => match k with
  | 0 => ("RosterRules$Automaton", "table", "[I", false)
  | _ => ("RosterRules$Automaton", "states", "I", false)
def yC_0 : Nat → FieldType := fun k => match k with
  | 0 => (.array .int)
  | _ => .int
theorem nC_0 : ∀ a, a < 2 → ∀ b, b < 2 → a ≠ b → (TC_0 a).2.1 ≠ (TC_0 b).2.1 := by decide +kernel
theorem pC_0 : ∀ k, k < 2 → parseFieldDescriptor (TC_0 k).2.2.1 = some (yC_0 k) := by decide +kernel
def RC_1 : String := "RosterRules$AutomatonMaker"
def TC_1 : u_T := fun k => match k with
  | 0 => ("RosterRules$AutomatonMaker", "sets", "[I", true)
  | 1 => ("RosterRules$AutomatonMaker", "numbers", "[I", true)
  | 2 => ("RosterRules$AutomatonMaker", "targets", "[I", true)
  | 3 => ("RosterRules$AutomatonMaker", "slots", "[I", true)
  | 4 => ("RosterRules$AutomatonMaker", "parts", "[I", false)
  | 5 => ("RosterRules$AutomatonMaker", "finerParts", "[I", false)
  | 6 => ("RosterRules$AutomatonMaker", "ways", "[J", false)
  | 7 => ("RosterRules$AutomatonMaker", "longerWays", "[J", false)
  | _ => ("RosterRules$AutomatonMaker", "states", "I", false)
def yC_1 : Nat → FieldType := fun k => match k with
  | 0 => (.array .int)
  | 1 => (.array .int)
  | 2 => (.array .int)
  | 3 => (.array .int)
  | 4 => (.array .int)
  | 5 => (.array .int)
  | 6 => (.array .long)
  | 7 => (.array .long)
  | _ => .int
theorem nC_1 : ∀ a, a < 9 → ∀ b, b < 9 → a ≠ b → (TC_1 a).2.1 ≠ (TC_1 b).2.1 := by decide +kernel
theorem pC_1 : ∀ k, k < 9 → parseFieldDescriptor (TC_1 k).2.2.1 = some (yC_1 k) := by decide +kernel
def RC_2 : String := "RosterRules$History"
def TC_2 : u_T := fun k => match k with
  | 0 => ("RosterRules$History", "people", "[I", true)
  | 1 => ("RosterRules$History", "days", "[I", true)
  | 2 => ("RosterRules$History", "letters", "[I", true)
  | 3 => ("RosterRules$History", "newest", "I", false)
  | _ => ("RosterRules$History", "kept", "I", false)
def yC_2 : Nat → FieldType := fun k => match k with
  | 0 => (.array .int)
  | 1 => (.array .int)
  | 2 => (.array .int)
  | 3 => .int
  | _ => .int
theorem nC_2 : ∀ a, a < 5 → ∀ b, b < 5 → a ≠ b → (TC_2 a).2.1 ≠ (TC_2 b).2.1 := by decide +kernel
theorem pC_2 : ∀ k, k < 5 → parseFieldDescriptor (TC_2 k).2.2.1 = some (yC_2 k) := by decide +kernel
def RC_3 : String := "RosterRules$Judge"
def TC_3 : u_T := fun k => match k with
  | _ => ("RosterRules$Judge", "roster", "LRosterRules$Roster;", true)
def yC_3 : Nat → FieldType := fun k => match k with
  | _ => (.object "RosterRules$Roster")
theorem nC_3 : ∀ a, a < 1 → ∀ b, b < 1 → a ≠ b → (TC_3 a).2.1 ≠ (TC_3 b).2.1 := by decide +kernel
theorem pC_3 : ∀ k, k < 1 → parseFieldDescriptor (TC_3 k).2.2.1 = some (yC_3 k) := by decide +kernel
def RC_4 : String := "RosterRules$Law"
def TC_4 : u_T := fun k => match k with
  | 0 => ("RosterRules$Law", "positions", "LRosterRules$Positions;", true)
  | 1 => ("RosterRules$Law", "automaton", "LRosterRules$Automaton;", true)
  | 2 => ("RosterRules$Law", "sort", "I", false)
  | 3 => ("RosterRules$Law", "weight", "I", false)
  | 4 => ("RosterRules$Law", "begin", "I", false)
  | 5 => ("RosterRules$Law", "low", "I", false)
  | 6 => ("RosterRules$Law", "high", "I", false)
  | 7 => ("RosterRules$Law", "span", "I", false)
  | _ => ("RosterRules$Law", "letter", "I", false)
def yC_4 : Nat → FieldType := fun k => match k with
  | 0 => (.object "RosterRules$Positions")
  | 1 => (.object "RosterRules$Automaton")
  | 2 => .int
  | 3 => .int
  | 4 => .int
  | 5 => .int
  | 6 => .int
  | 7 => .int
  | _ => .int
theorem nC_4 : ∀ a, a < 9 → ∀ b, b < 9 → a ≠ b → (TC_4 a).2.1 ≠ (TC_4 b).2.1 := by decide +kernel
theorem pC_4 : ∀ k, k < 9 → parseFieldDescriptor (TC_4 k).2.2.1 = some (yC_4 k) := by decide +kernel
def RC_5 : String := "RosterRules$LawReader"
def TC_5 : u_T := fun k => match k with
  | 0 => ("RosterRules$LawReader", "tokens", "LRosterRules$Tokens;", true)
  | 1 => ("RosterRules$LawReader", "patterns", "LRosterRules$PatternParser;", true)
  | 2 => ("RosterRules$LawReader", "days", "I", true)
  | 3 => ("RosterRules$LawReader", "fault", "I", false)
  | _ => ("RosterRules$LawReader", "faultPlace", "I", false)
def yC_5 : Nat → FieldType := fun k => match k with
  | 0 => (.object "RosterRules$Tokens")
  | 1 => (.object "RosterRules$PatternParser")
  | 2 => .int
  | 3 => .int
  | _ => .int
theorem nC_5 : ∀ a, a < 5 → ∀ b, b < 5 → a ≠ b → (TC_5 a).2.1 ≠ (TC_5 b).2.1 := by decide +kernel
theorem pC_5 : ∀ k, k < 5 → parseFieldDescriptor (TC_5 k).2.2.1 = some (yC_5 k) := by decide +kernel
def RC_6 : String := "RosterRules$PatternParser"
def TC_6 : u_T := fun k => match k with
  | 0 => ("RosterRules$PatternParser", "tape", "LRosterRules$Tape;", true)
  | 1 => ("RosterRules$PatternParser", "ended", "[I", true)
  | 2 => ("RosterRules$PatternParser", "rows", "[I", true)
  | 3 => ("RosterRules$PatternParser", "begins", "[I", true)
  | 4 => ("RosterRules$PatternParser", "depth", "I", false)
  | 5 => ("RosterRules$PatternParser", "item", "I", false)
  | 6 => ("RosterRules$PatternParser", "itemBegin", "I", false)
  | 7 => ("RosterRules$PatternParser", "repeatable", "Z", false)
  | 8 => ("RosterRules$PatternParser", "closed", "Z", false)
  | 9 => ("RosterRules$PatternParser", "next", "I", false)
  | 10 => ("RosterRules$PatternParser", "fault", "I", false)
  | _ => ("RosterRules$PatternParser", "faultPlace", "I", false)
def yC_6 : Nat → FieldType := fun k => match k with
  | 0 => (.object "RosterRules$Tape")
  | 1 => (.array .int)
  | 2 => (.array .int)
  | 3 => (.array .int)
  | 4 => .int
  | 5 => .int
  | 6 => .int
  | 7 => .boolean
  | 8 => .boolean
  | 9 => .int
  | 10 => .int
  | _ => .int
theorem nC_6 : ∀ a, a < 12 → ∀ b, b < 12 → a ≠ b → (TC_6 a).2.1 ≠ (TC_6 b).2.1 := by decide +kernel
theorem pC_6 : ∀ k, k < 12 → parseFieldDescriptor (TC_6 k).2.2.1 = some (yC_6 k) := by decide +kernel
def RC_7 : String := "RosterRules$Positions"
def TC_7 : u_T := fun k => match k with
  | 0 => ("RosterRules$Positions", "takers", "[I", true)
  | 1 => ("RosterRules$Positions", "followers", "[I", true)
  | 2 => ("RosterRules$Positions", "afterLower", "[I", true)
  | 3 => ("RosterRules$Positions", "afterUpper", "[I", true)
  | 4 => ("RosterRules$Positions", "size", "I", false)
  | 5 => ("RosterRules$Positions", "overfull", "Z", false)
  | 6 => ("RosterRules$Positions", "first", "I", false)
  | 7 => ("RosterRules$Positions", "last", "I", false)
  | _ => ("RosterRules$Positions", "takesEmpty", "Z", false)
def yC_7 : Nat → FieldType := fun k => match k with
  | 0 => (.array .int)
  | 1 => (.array .int)
  | 2 => (.array .int)
  | 3 => (.array .int)
  | 4 => .int
  | 5 => .boolean
  | 6 => .int
  | 7 => .int
  | _ => .boolean
theorem nC_7 : ∀ a, a < 9 → ∀ b, b < 9 → a ≠ b → (TC_7 a).2.1 ≠ (TC_7 b).2.1 := by decide +kernel
theorem pC_7 : ∀ k, k < 9 → parseFieldDescriptor (TC_7 k).2.2.1 = some (yC_7 k) := by decide +kernel
def RC_8 : String := "RosterRules$Roster"
def TC_8 : u_T := fun k => match k with
  | 0 => ("RosterRules$Roster", "people", "I", true)
  | 1 => ("RosterRules$Roster", "days", "I", true)
  | 2 => ("RosterRules$Roster", "begins", "[I", true)
  | 3 => ("RosterRules$Roster", "lengths", "[I", true)
  | 4 => ("RosterRules$Roster", "needs", "[I", true)
  | 5 => ("RosterRules$Roster", "skills", "[I", true)
  | 6 => ("RosterRules$Roster", "rows", "[[I", true)
  | 7 => ("RosterRules$Roster", "wished", "[[I", true)
  | 8 => ("RosterRules$Roster", "weights", "[[I", true)
  | 9 => ("RosterRules$Roster", "timesOf", "[[I", true)
  | 10 => ("RosterRules$Roster", "timesOn", "[[I", true)
  | 11 => ("RosterRules$Roster", "filled", "I", false)
  | _ => ("RosterRules$Roster", "wishes", "I", false)
def yC_8 : Nat → FieldType := fun k => match k with
  | 0 => .int
  | 1 => .int
  | 2 => (.array .int)
  | 3 => (.array .int)
  | 4 => (.array .int)
  | 5 => (.array .int)
  | 6 => (.array (.array .int))
  | 7 => (.array (.array .int))
  | 8 => (.array (.array .int))
  | 9 => (.array (.array .int))
  | 10 => (.array (.array .int))
  | 11 => .int
  | _ => .int
theorem nC_8 : ∀ a, a < 13 → ∀ b, b < 13 → a ≠ b → (TC_8 a).2.1 ≠ (TC_8 b).2.1 := by decide +kernel
theorem pC_8 : ∀ k, k < 13 → parseFieldDescriptor (TC_8 k).2.2.1 = some (yC_8 k) := by decide +kernel
def RC_9 : String := "RosterRules$Tape"
def TC_9 : u_T := fun k => match k with
  | 0 => ("RosterRules$Tape", "bytes", "[I", true)
  | _ => ("RosterRules$Tape", "length", "I", false)
def yC_9 : Nat → FieldType := fun k => match k with
  | 0 => (.array .int)
  | _ => .int
theorem nC_9 : ∀ a, a < 2 → ∀ b, b < 2 → a ≠ b → (TC_9 a).2.1 ≠ (TC_9 b).2.1 := by decide +kernel
theorem pC_9 : ∀ k, k < 2 → parseFieldDescriptor (TC_9 k).2.2.1 = some (yC_9 k) := by decide +kernel
def RC_10 : String := "RosterRules$Tokens"
def TC_10 : u_T := fun k => match k with
  | 0 => ("RosterRules$Tokens", "tape", "LRosterRules$Tape;", true)
  | 1 => ("RosterRules$Tokens", "kind", "I", false)
  | 2 => ("RosterRules$Tokens", "begin", "I", false)
  | _ => ("RosterRules$Tokens", "end", "I", false)
def yC_10 : Nat → FieldType := fun k => match k with
  | 0 => (.object "RosterRules$Tape")
  | 1 => .int
  | 2 => .int
  | _ => .int
theorem nC_10 : ∀ a, a < 4 → ∀ b, b < 4 → a ≠ b → (TC_10 a).2.1 ≠ (TC_10 b).2.1 := by decide +kernel
theorem pC_10 : ∀ k, k < 4 → parseFieldDescriptor (TC_10 k).2.2.1 = some (yC_10 k) := by decide +kernel
def RC_11 : String := "RosterRules"
def TC_11 : u_T := fun k => match k with
  | 0 => ("RosterRules", "tape", "LRosterRules$Tape;", true)
  | 1 => ("RosterRules", "roster", "LRosterRules$Roster;", true)
  | 2 => ("RosterRules", "judge", "LRosterRules$Judge;", true)
  | 3 => ("RosterRules", "history", "LRosterRules$History;", true)
  | 4 => ("RosterRules", "reader", "LRosterRules$LawReader;", true)
  | 5 => ("RosterRules", "maker", "LRosterRules$AutomatonMaker;", true)
  | 6 => ("RosterRules", "laws", "[LRosterRules$Law;", false)
  | 7 => ("RosterRules", "spareLaws", "[LRosterRules$Law;", false)
  | _ => ("RosterRules", "lawCount", "I", false)
def yC_11 : Nat → FieldType := fun k => match k with
  | 0 => (.object "RosterRules$Tape")
  | 1 => (.object "RosterRules$Roster")
  | 2 => (.object "RosterRules$Judge")
  | 3 => (.object "RosterRules$History")
  | 4 => (.object "RosterRules$LawReader")
  | 5 => (.object "RosterRules$AutomatonMaker")
  | 6 => (.array (.object "RosterRules$Law"))
  | 7 => (.array (.object "RosterRules$Law"))
  | _ => .int
theorem nC_11 : ∀ a, a < 9 → ∀ b, b < 9 → a ≠ b → (TC_11 a).2.1 ≠ (TC_11 b).2.1 := by decide +kernel
theorem pC_11 : ∀ k, k < 9 → parseFieldDescriptor (TC_11 k).2.2.1 = some (yC_11 k) := by decide +kernel
def RC_12 : String := "RosterRulesModel"
def TC_12 : u_T := fun k => match k with
  | 0 => ("RosterRulesModel", "people", "I", true)
  | 1 => ("RosterRulesModel", "days", "I", true)
  | 2 => ("RosterRulesModel", "cells", "[I", true)
  | 3 => ("RosterRulesModel", "past", "[I", true)
  | 4 => ("RosterRulesModel", "begin", "[I", true)
  | 5 => ("RosterRulesModel", "minutes", "[I", true)
  | 6 => ("RosterRulesModel", "skill", "[I", true)
  | 7 => ("RosterRulesModel", "skills", "[I", true)
  | 8 => ("RosterRulesModel", "wishShift", "[I", true)
  | 9 => ("RosterRulesModel", "wishWeight", "[I", true)
  | 10 => ("RosterRulesModel", "tape", "[B", true)
  | 11 => ("RosterRulesModel", "tapeSize", "I", false)
  | 12 => ("RosterRulesModel", "faultPlace", "I", false)
  | 13 => ("RosterRulesModel", "sort", "[I", true)
  | 14 => ("RosterRulesModel", "weight", "[I", true)
  | 15 => ("RosterRulesModel", "placeOf", "[I", true)
  | 16 => ("RosterRulesModel", "low", "[I", true)
  | 17 => ("RosterRulesModel", "high", "[I", true)
  | 18 => ("RosterRulesModel", "length", "[I", true)
  | 19 => ("RosterRulesModel", "letter", "[I", true)
  | 20 => ("RosterRulesModel", "laws", "I", false)
  | 21 => ("RosterRulesModel", "letters", "[I", true)
  | 22 => ("RosterRulesModel", "follow", "[I", true)
  | 23 => ("RosterRulesModel", "lasts", "[I", true)
  | 24 => ("RosterRulesModel", "hasNone", "[Z", true)
  | 25 => ("RosterRulesModel", "places", "[I", true)
  | 26 => ("RosterRulesModel", "states", "[I", true)
  | 27 => ("RosterRulesModel", "next", "[I", true)
  | 28 => ("RosterRulesModel", "ends", "[Z", true)
  | 29 => ("RosterRulesModel", "undoCell", "[I", true)
  | 30 => ("RosterRulesModel", "undoShift", "[I", true)
  | 31 => ("RosterRulesModel", "undoFrom", "I", false)
  | 32 => ("RosterRulesModel", "undoCount", "I", false)
  | 33 => ("RosterRulesModel", "thrown", "I", false)
  | 34 => ("RosterRulesModel", "at", "I", false)
  | 35 => ("RosterRulesModel", "token", "I", false)
  | 36 => ("RosterRulesModel", "tokenAt", "I", false)
  | 37 => ("RosterRulesModel", "tokenEnd", "I", false)
  | 38 => ("RosterRulesModel", "tokenWord", "J", false)
  | 39 => ("RosterRulesModel", "fault", "I", false)
  | 40 => ("RosterRulesModel", "faultAt", "I", false)
  | 41 => ("RosterRulesModel", "stores", "Z", false)
  | 42 => ("RosterRulesModel", "pp", "I", false)
  | 43 => ("RosterRulesModel", "used", "I", false)
  | 44 => ("RosterRulesModel", "own", "I", false)
  | 45 => ("RosterRulesModel", "over", "[I", true)
  | 46 => ("RosterRulesModel", "inRow", "[I", true)
  | 47 => ("RosterRulesModel", "inItem", "[I", true)
  | 48 => ("RosterRulesModel", "hasItem", "[Z", true)
  | 49 => ("RosterRulesModel", "allOf", "[J", true)
  | 50 => ("RosterRulesModel", "rowOf", "[J", true)
  | 51 => ("RosterRulesModel", "itemOf", "[J", true)
  | 52 => ("RosterRulesModel", "hasAll", "[Z", true)
  | 53 => ("RosterRulesModel", "hasRow", "[Z", true)
  | 54 => ("RosterRulesModel", "itemFrom", "[I", true)
  | 55 => ("RosterRulesModel", "groupFrom", "[I", true)
  | 56 => ("RosterRulesModel", "sets", "[I", true)
  | 57 => ("RosterRulesModel", "idOf", "[I", true)
  | 58 => ("RosterRulesModel", "lead", "[I", true)
  | 59 => ("RosterRulesModel", "group", "[I", true)
  | 60 => ("RosterRulesModel", "fresh", "[I", true)
  | 61 => ("RosterRulesModel", "model", "[I", true)
  | 62 => ("RosterRulesModel", "number", "[I", true)
  | 63 => ("RosterRulesModel", "ways", "[J", true)
  | _ => ("RosterRulesModel", "waysOn", "[J", true)
def yC_12 : Nat → FieldType := fun k => match k with
  | 0 => .int
  | 1 => .int
  | 2 => (.array .int)
  | 3 => (.array .int)
  | 4 => (.array .int)
  | 5 => (.array .int)
  | 6 => (.array .int)
  | 7 => (.array .int)
  | 8 => (.array .int)
  | 9 => (.array .int)
  | 10 => (.array .byte)
  | 11 => .int
  | 12 => .int
  | 13 => (.array .int)
  | 14 => (.array .int)
  | 15 => (.array .int)
  | 16 => (.array .int)
  | 17 => (.array .int)
  | 18 => (.array .int)
  | 19 => (.array .int)
  | 20 => .int
  | 21 => (.array .int)
  | 22 => (.array .int)
  | 23 => (.array .int)
  | 24 => (.array .boolean)
  | 25 => (.array .int)
  | 26 => (.array .int)
  | 27 => (.array .int)
  | 28 => (.array .boolean)
  | 29 => (.array .int)
  | 30 => (.array .int)
  | 31 => .int
  | 32 => .int
  | 33 => .int
  | 34 => .int
  | 35 => .int
  | 36 => .int
  | 37 => .int
  | 38 => .long
  | 39 => .int
  | 40 => .int
  | 41 => .boolean
  | 42 => .int
  | 43 => .int
  | 44 => .int
  | 45 => (.array .int)
  | 46 => (.array .int)
  | 47 => (.array .int)
  | 48 => (.array .boolean)
  | 49 => (.array .long)
  | 50 => (.array .long)
  | 51 => (.array .long)
  | 52 => (.array .boolean)
  | 53 => (.array .boolean)
  | 54 => (.array .int)
  | 55 => (.array .int)
  | 56 => (.array .int)
  | 57 => (.array .int)
  | 58 => (.array .int)
  | 59 => (.array .int)
  | 60 => (.array .int)
  | 61 => (.array .int)
  | 62 => (.array .int)
  | 63 => (.array .long)
  | _ => (.array .long)
theorem nC_12 : ∀ a, a < 65 → ∀ b, b < 65 → a ≠ b → (TC_12 a).2.1 ≠ (TC_12 b).2.1 := by decide +kernel
theorem pC_12 : ∀ k, k < 65 → parseFieldDescriptor (TC_12 k).2.2.1 = some (yC_12 k) := by decide +kernel
def xCl : List vw_C := [(RC_0, TC_0, 2), (RC_1, TC_1, 9), (RC_2, TC_2, 5), (RC_3, TC_3, 1), (RC_4, TC_4, 9), (RC_5, TC_5, 5), (RC_6, TC_6, 12), (RC_7, TC_7, 9), (RC_8, TC_8, 13), (RC_9, TC_9, 2), (RC_10, TC_10, 4), (RC_11, TC_11, 9), (RC_12, TC_12, 65)]
