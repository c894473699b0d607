/-! Printed by wip/gen/gen.py out of the claim's own printed names: classes, methods, tables. -/
def ALL : List Cond := lw_tbl.filter goodWord
theorem inA {w : Cond} (i : Nat) (h : lw_tbl[i]? = some w) (g : goodWord w = true) : w ∈ ALL := List.mem_filter.mpr ⟨List.mem_of_getElem? h, g⟩
def RX0 : String := "MonoidRules$Completion"
def TX0 : u_T := fun k => match k with
  | 0 => ("MonoidRules$Completion", "rules", "LMonoidRules$Rules;", true)
  | 1 => ("MonoidRules$Completion", "row", "LMonoidRules$Row;", true)
  | 2 => ("MonoidRules$Completion", "reducer", "LMonoidRules$Reducer;", true)
  | 3 => ("MonoidRules$Completion", "one", "LMonoidRules$Word;", true)
  | 4 => ("MonoidRules$Completion", "other", "LMonoidRules$Word;", true)
  | 5 => ("MonoidRules$Completion", "treated", "I", false)
  | 6 => ("MonoidRules$Completion", "steps", "I", false)
  | _ => ("MonoidRules$Completion", "stuck", "Z", false)
def tyX0 : Nat → FieldType := fun k => match k with
  | 0 => (.object "MonoidRules$Rules")
  | 1 => (.object "MonoidRules$Row")
  | 2 => (.object "MonoidRules$Reducer")
  | 3 => (.object "MonoidRules$Word")
  | 4 => (.object "MonoidRules$Word")
  | 5 => .int
  | 6 => .int
  | _ => .boolean
def RX1 : String := "MonoidRules$Elements"
def TX1 : u_T := fun k => match k with
  | 0 => ("MonoidRules$Elements", "rules", "LMonoidRules$Rules;", true)
  | 1 => ("MonoidRules$Elements", "machine", "LMonoidRules$Machine;", true)
  | 2 => ("MonoidRules$Elements", "ways", "[J", false)
  | 3 => ("MonoidRules$Elements", "countedRows", "I", false)
  | 4 => ("MonoidRules$Elements", "totalKnown", "Z", false)
  | 5 => ("MonoidRules$Elements", "total", "J", false)
  | 6 => ("MonoidRules$Elements", "incoming", "[I", false)
  | 7 => ("MonoidRules$Elements", "queue", "[I", false)
  | _ => ("MonoidRules$Elements", "paths", "[J", false)
def tyX1 : Nat → FieldType := fun k => match k with
  | 0 => (.object "MonoidRules$Rules")
  | 1 => (.object "MonoidRules$Machine")
  | 2 => (.array .long)
  | 3 => .int
  | 4 => .boolean
  | 5 => .long
  | 6 => (.array .int)
  | 7 => (.array .int)
  | _ => (.array .long)
def RX2 : String := "MonoidRules$Finder"
def TX2 : u_T := fun k => match k with
  | 0 => ("MonoidRules$Finder", "rules", "LMonoidRules$Rules;", true)
  | 1 => ("MonoidRules$Finder", "reducer", "LMonoidRules$Reducer;", true)
  | 2 => ("MonoidRules$Finder", "one", "LMonoidRules$Word;", true)
  | 3 => ("MonoidRules$Finder", "other", "LMonoidRules$Word;", true)
  | 4 => ("MonoidRules$Finder", "known", "Z", false)
  | 5 => ("MonoidRules$Finder", "answer", "I", false)
  | 6 => ("MonoidRules$Finder", "found", "Z", false)
  | 7 => ("MonoidRules$Finder", "first", "I", false)
  | 8 => ("MonoidRules$Finder", "second", "I", false)
  | _ => ("MonoidRules$Finder", "shared", "I", false)
def tyX2 : Nat → FieldType := fun k => match k with
  | 0 => (.object "MonoidRules$Rules")
  | 1 => (.object "MonoidRules$Reducer")
  | 2 => (.object "MonoidRules$Word")
  | 3 => (.object "MonoidRules$Word")
  | 4 => .boolean
  | 5 => .int
  | 6 => .boolean
  | 7 => .int
  | 8 => .int
  | _ => .int
def RX3 : String := "MonoidRules$Machine"
def TX3 : u_T := fun k => match k with
  | 0 => ("MonoidRules$Machine", "capacity", "I", false)
  | 1 => ("MonoidRules$Machine", "next", "[I", false)
  | 2 => ("MonoidRules$Machine", "fall", "[I", false)
  | 3 => ("MonoidRules$Machine", "order", "[I", false)
  | 4 => ("MonoidRules$Machine", "ends", "[I", false)
  | 5 => ("MonoidRules$Machine", "nodes", "I", false)
  | _ => ("MonoidRules$Machine", "letterCount", "I", false)
def tyX3 : Nat → FieldType := fun k => match k with
  | 0 => .int
  | 1 => (.array .int)
  | 2 => (.array .int)
  | 3 => (.array .int)
  | 4 => (.array .int)
  | 5 => .int
  | _ => .int
def RX4 : String := "MonoidRules$Pair"
def TX4 : u_T := fun k => match k with
  | 0 => ("MonoidRules$Pair", "one", "LMonoidRules$Word;", true)
  | _ => ("MonoidRules$Pair", "other", "LMonoidRules$Word;", true)
def tyX4 : Nat → FieldType := fun k => match k with
  | 0 => (.object "MonoidRules$Word")
  | _ => (.object "MonoidRules$Word")
def RX5 : String := "MonoidRules$Presentation"
def TX5 : u_T := fun k => match k with
  | 0 => ("MonoidRules$Presentation", "numbers", "[I", true)
  | 1 => ("MonoidRules$Presentation", "letterCount", "I", false)
  | 2 => ("MonoidRules$Presentation", "equations", "I", false)
  | 3 => ("MonoidRules$Presentation", "flow", "LMonoidRules$Word;", true)
  | 4 => ("MonoidRules$Presentation", "wordEnds", "[I", true)
  | 5 => ("MonoidRules$Presentation", "words", "I", false)
  | 6 => ("MonoidRules$Presentation", "inWord", "I", false)
  | 7 => ("MonoidRules$Presentation", "part", "I", false)
  | 8 => ("MonoidRules$Presentation", "fault", "I", false)
  | _ => ("MonoidRules$Presentation", "place", "I", false)
def tyX5 : Nat → FieldType := fun k => match k with
  | 0 => (.array .int)
  | 1 => .int
  | 2 => .int
  | 3 => (.object "MonoidRules$Word")
  | 4 => (.array .int)
  | 5 => .int
  | 6 => .int
  | 7 => .int
  | 8 => .int
  | _ => .int
def RX6 : String := "MonoidRules$Reducer"
def TX6 : u_T := fun k => match k with
  | 0 => ("MonoidRules$Reducer", "rules", "LMonoidRules$Rules;", true)
  | 1 => ("MonoidRules$Reducer", "machine", "LMonoidRules$Machine;", true)
  | 2 => ("MonoidRules$Reducer", "rest", "[B", true)
  | 3 => ("MonoidRules$Reducer", "done", "[B", true)
  | 4 => ("MonoidRules$Reducer", "nodes", "[I", true)
  | 5 => ("MonoidRules$Reducer", "stepRules", "[I", true)
  | 6 => ("MonoidRules$Reducer", "stepPlaces", "[I", true)
  | _ => ("MonoidRules$Reducer", "steps", "I", false)
def tyX6 : Nat → FieldType := fun k => match k with
  | 0 => (.object "MonoidRules$Rules")
  | 1 => (.object "MonoidRules$Machine")
  | 2 => (.array .byte)
  | 3 => (.array .byte)
  | 4 => (.array .int)
  | 5 => (.array .int)
  | 6 => (.array .int)
  | _ => .int
def RX7 : String := "MonoidRules$Row"
def TX7 : u_T := fun k => match k with
  | 0 => ("MonoidRules$Row", "ring", "[LMonoidRules$Pair;", true)
  | 1 => ("MonoidRules$Row", "first", "I", false)
  | _ => ("MonoidRules$Row", "waiting", "I", false)
def tyX7 : Nat → FieldType := fun k => match k with
  | 0 => (.array (.object "MonoidRules$Pair"))
  | 1 => .int
  | _ => .int
def RX8 : String := "MonoidRules$Rule"
def TX8 : u_T := fun k => match k with
  | 0 => ("MonoidRules$Rule", "left", "LMonoidRules$Word;", true)
  | 1 => ("MonoidRules$Rule", "right", "LMonoidRules$Word;", true)
  | _ => ("MonoidRules$Rule", "live", "Z", false)
def tyX8 : Nat → FieldType := fun k => match k with
  | 0 => (.object "MonoidRules$Word")
  | 1 => (.object "MonoidRules$Word")
  | _ => .boolean
def RX9 : String := "MonoidRules$Rules"
def TX9 : u_T := fun k => match k with
  | 0 => ("MonoidRules$Rules", "rows", "[LMonoidRules$Rule;", true)
  | 1 => ("MonoidRules$Rules", "made", "I", false)
  | 2 => ("MonoidRules$Rules", "letterCount", "I", false)
  | _ => ("MonoidRules$Rules", "changed", "Z", false)
def tyX9 : Nat → FieldType := fun k => match k with
  | 0 => (.array (.object "MonoidRules$Rule"))
  | 1 => .int
  | 2 => .int
  | _ => .boolean
def RX10 : String := "MonoidRules$Word"
def TX10 : u_T := fun k => match k with
  | 0 => ("MonoidRules$Word", "letters", "[B", true)
  | _ => ("MonoidRules$Word", "length", "I", false)
def tyX10 : Nat → FieldType := fun k => match k with
  | 0 => (.array .byte)
  | _ => .int
def RX11 : String := "MonoidRules"
def TX11 : u_T := fun k => match k with
  | 0 => ("MonoidRules", "tape", "[B", true)
  | 1 => ("MonoidRules", "tapeLength", "I", false)
  | 2 => ("MonoidRules", "latestFault", "I", false)
  | 3 => ("MonoidRules", "letterNumbers", "[I", true)
  | 4 => ("MonoidRules", "text", "LMonoidRules$Presentation;", true)
  | 5 => ("MonoidRules", "slots", "[LMonoidRules$Word;", true)
  | 6 => ("MonoidRules", "rules", "LMonoidRules$Rules;", true)
  | 7 => ("MonoidRules", "row", "LMonoidRules$Row;", true)
  | 8 => ("MonoidRules", "machine", "LMonoidRules$Machine;", true)
  | 9 => ("MonoidRules", "reducer", "LMonoidRules$Reducer;", true)
  | 10 => ("MonoidRules", "completion", "LMonoidRules$Completion;", true)
  | 11 => ("MonoidRules", "finder", "LMonoidRules$Finder;", true)
  | 12 => ("MonoidRules", "elements", "LMonoidRules$Elements;", true)
  | 13 => ("MonoidRules", "toldRules", "[I", true)
  | 14 => ("MonoidRules", "toldPlaces", "[I", true)
  | 15 => ("MonoidRules", "toldSteps", "I", false)
  | 16 => ("MonoidRules", "one", "LMonoidRules$Word;", true)
  | 17 => ("MonoidRules", "other", "LMonoidRules$Word;", true)
  | 18 => ("MonoidRules", "joined", "LMonoidRules$Word;", true)
  | _ => ("MonoidRules", "powers", "[I", true)
def tyX11 : Nat → FieldType := fun k => match k with
  | 0 => (.array .byte)
  | 1 => .int
  | 2 => .int
  | 3 => (.array .int)
  | 4 => (.object "MonoidRules$Presentation")
  | 5 => (.array (.object "MonoidRules$Word"))
  | 6 => (.object "MonoidRules$Rules")
  | 7 => (.object "MonoidRules$Row")
  | 8 => (.object "MonoidRules$Machine")
  | 9 => (.object "MonoidRules$Reducer")
  | 10 => (.object "MonoidRules$Completion")
  | 11 => (.object "MonoidRules$Finder")
  | 12 => (.object "MonoidRules$Elements")
  | 13 => (.array .int)
  | 14 => (.array .int)
  | 15 => .int
  | 16 => (.object "MonoidRules$Word")
  | 17 => (.object "MonoidRules$Word")
  | 18 => (.object "MonoidRules$Word")
  | _ => (.array .int)
def RX12 : String := "MonoidRulesModel"
def TX12 : u_T := fun k => match k with
  | 0 => ("MonoidRulesModel", "thrown", "I", false)
  | 1 => ("MonoidRulesModel", "tape", "[I", true)
  | 2 => ("MonoidRulesModel", "taped", "I", false)
  | 3 => ("MonoidRulesModel", "at", "I", false)
  | 4 => ("MonoidRulesModel", "size0", "I", false)
  | 5 => ("MonoidRulesModel", "fault", "I", false)
  | 6 => ("MonoidRulesModel", "faultAt", "I", false)
  | 7 => ("MonoidRulesModel", "latest", "I", false)
  | 8 => ("MonoidRulesModel", "newNumber", "[I", true)
  | 9 => ("MonoidRulesModel", "number0", "[I", true)
  | 10 => ("MonoidRulesModel", "newLetters", "I", false)
  | 11 => ("MonoidRulesModel", "letters", "I", false)
  | 12 => ("MonoidRulesModel", "equation", "[I", true)
  | 13 => ("MonoidRulesModel", "equationSize", "[I", true)
  | 14 => ("MonoidRulesModel", "equations", "I", false)
  | 15 => ("MonoidRulesModel", "newWord", "[I", true)
  | 16 => ("MonoidRulesModel", "left", "[I", true)
  | 17 => ("MonoidRulesModel", "leftSize", "[I", true)
  | 18 => ("MonoidRulesModel", "right", "[I", true)
  | 19 => ("MonoidRulesModel", "rightSize", "[I", true)
  | 20 => ("MonoidRulesModel", "isLive", "[Z", true)
  | 21 => ("MonoidRulesModel", "rules", "I", false)
  | 22 => ("MonoidRulesModel", "pair", "[I", true)
  | 23 => ("MonoidRulesModel", "pairSize", "[I", true)
  | 24 => ("MonoidRulesModel", "first", "I", false)
  | 25 => ("MonoidRulesModel", "pairs", "I", false)
  | 26 => ("MonoidRulesModel", "treated", "I", false)
  | 27 => ("MonoidRulesModel", "allSteps", "I", false)
  | 28 => ("MonoidRulesModel", "isStuck", "Z", false)
  | 29 => ("MonoidRulesModel", "one", "[I", true)
  | 30 => ("MonoidRulesModel", "other", "[I", true)
  | 31 => ("MonoidRulesModel", "steps", "I", false)
  | 32 => ("MonoidRulesModel", "stepRule", "[I", true)
  | 33 => ("MonoidRulesModel", "stepPlace", "[I", true)
  | 34 => ("MonoidRulesModel", "newRule", "[I", true)
  | 35 => ("MonoidRulesModel", "newPlace", "[I", true)
  | 36 => ("MonoidRulesModel", "kept", "I", false)
  | 37 => ("MonoidRulesModel", "oneSize", "I", false)
  | 38 => ("MonoidRulesModel", "otherSize", "I", false)
  | 39 => ("MonoidRulesModel", "overlapOne", "I", false)
  | 40 => ("MonoidRulesModel", "overlapTwo", "I", false)
  | 41 => ("MonoidRulesModel", "overlapSize", "I", false)
  | 42 => ("MonoidRulesModel", "slots", "[I", true)
  | 43 => ("MonoidRulesModel", "slotSize", "[I", true)
  | 44 => ("MonoidRulesModel", "go", "[I", true)
  | 45 => ("MonoidRulesModel", "back", "[I", true)
  | 46 => ("MonoidRulesModel", "row", "[I", true)
  | 47 => ("MonoidRulesModel", "isEnd", "[Z", true)
  | 48 => ("MonoidRulesModel", "come", "[I", true)
  | 49 => ("MonoidRulesModel", "ways", "[J", true)
  | 50 => ("MonoidRulesModel", "all", "[J", true)
  | 51 => ("MonoidRulesModel", "nodes", "I", false)
  | 52 => ("MonoidRulesModel", "isCounted", "Z", false)
  | 53 => ("MonoidRulesModel", "isEndless", "Z", false)
  | 54 => ("MonoidRulesModel", "elements", "J", false)
  | _ => ("MonoidRulesModel", "powers", "[I", true)
def tyX12 : Nat → FieldType := fun k => match k with
  | 0 => .int
  | 1 => (.array .int)
  | 2 => .int
  | 3 => .int
  | 4 => .int
  | 5 => .int
  | 6 => .int
  | 7 => .int
  | 8 => (.array .int)
  | 9 => (.array .int)
  | 10 => .int
  | 11 => .int
  | 12 => (.array .int)
  | 13 => (.array .int)
  | 14 => .int
  | 15 => (.array .int)
  | 16 => (.array .int)
  | 17 => (.array .int)
  | 18 => (.array .int)
  | 19 => (.array .int)
  | 20 => (.array .boolean)
  | 21 => .int
  | 22 => (.array .int)
  | 23 => (.array .int)
  | 24 => .int
  | 25 => .int
  | 26 => .int
  | 27 => .int
  | 28 => .boolean
  | 29 => (.array .int)
  | 30 => (.array .int)
  | 31 => .int
  | 32 => (.array .int)
  | 33 => (.array .int)
  | 34 => (.array .int)
  | 35 => (.array .int)
  | 36 => .int
  | 37 => .int
  | 38 => .int
  | 39 => .int
  | 40 => .int
  | 41 => .int
  | 42 => (.array .int)
  | 43 => (.array .int)
  | 44 => (.array .int)
  | 45 => (.array .int)
  | 46 => (.array .int)
  | 47 => (.array .boolean)
  | 48 => (.array .int)
  | 49 => (.array .long)
  | 50 => (.array .long)
  | 51 => .int
  | 52 => .boolean
  | 53 => .boolean
  | 54 => .long
  | _ => (.array .int)
def cN : Nat → String
  | 0 => "MonoidRules$Completion"
  | 1 => "MonoidRules$Elements"
  | 2 => "MonoidRules$Finder"
  | 3 => "MonoidRules$Machine"
  | 4 => "MonoidRules$Pair"
  | 5 => "MonoidRules$Presentation"
  | 6 => "MonoidRules$Reducer"
  | 7 => "MonoidRules$Row"
  | 8 => "MonoidRules$Rule"
  | 9 => "MonoidRules$Rules"
  | 10 => "MonoidRules$Word"
  | 11 => "MonoidRules"
  | 12 => "MonoidRulesModel"
  | _ => "MonoidRulesLaw"
def cY : Nat → Nat → FieldType
  | 0 => tyX0
  | 1 => tyX1
  | 2 => tyX2
  | 3 => tyX3
  | 4 => tyX4
  | 5 => tyX5
  | 6 => tyX6
  | 7 => tyX7
  | 8 => tyX8
  | 9 => tyX9
  | 10 => tyX10
  | 11 => tyX11
  | _ => tyX12
def cTT : Nat → u_T
  | 0 => TX0
  | 1 => TX1
  | 2 => TX2
  | 3 => TX3
  | 4 => TX4
  | 5 => TX5
  | 6 => TX6
  | 7 => TX7
  | 8 => TX8
  | 9 => TX9
  | 10 => TX10
  | 11 => TX11
  | _ => TX12
def cF (c j : Nat) : Bool := (cTT c j).2.2.2
def cS : Nat → Nat
  | 0 => 8
  | 1 => 9
  | 2 => 10
  | 3 => 7
  | 4 => 2
  | 5 => 10
  | 6 => 8
  | 7 => 3
  | 8 => 3
  | 9 => 4
  | 10 => 2
  | 11 => 20
  | _ => 56
abbrev classes : List vw_C := [(RX0, TX0, 8), (RX1, TX1, 9), (RX2, TX2, 10), (RX3, TX3, 7), (RX4, TX4, 2), (RX5, TX5, 10), (RX6, TX6, 8), (RX7, TX7, 3), (RX8, TX8, 3), (RX9, TX9, 4), (RX10, TX10, 2), (RX11, TX11, 20), (RX12, TX12, 56)]
set_option maxRecDepth 100000 in
theorem layX0 : ∀ k, k < 8 → u_lay RX0 TX0 k ∈ ALL
  | 0, _ => inA 326 rfl rfl
  | 1, _ => inA 328 rfl rfl
  | 2, _ => inA 330 rfl rfl
  | 3, _ => inA 332 rfl rfl
  | 4, _ => inA 334 rfl rfl
  | 5, _ => inA 336 rfl rfl
  | 6, _ => inA 338 rfl rfl
  | 7, _ => inA 340 rfl rfl
  | k + 8, h => absurd h (by omega)
set_option maxRecDepth 100000 in
theorem nmX0 : ∀ a, a < 8 → ∀ b, b < 8 → a ≠ b → (TX0 a).2.1 ≠ (TX0 b).2.1 := by decide +kernel
theorem tyX0_ok : ∀ k, k < 8 → parseFieldDescriptor (TX0 k).2.2.1 = some (tyX0 k) := by decide +kernel
theorem ownX0 : ∀ k, k < 8 → (TX0 k).1 = "MonoidRules$Completion" := by decide +kernel
set_option maxRecDepth 100000 in
theorem layX1 : ∀ k, k < 9 → u_lay RX1 TX1 k ∈ ALL
  | 0, _ => inA 401 rfl rfl
  | 1, _ => inA 403 rfl rfl
  | 2, _ => inA 405 rfl rfl
  | 3, _ => inA 407 rfl rfl
  | 4, _ => inA 409 rfl rfl
  | 5, _ => inA 411 rfl rfl
  | 6, _ => inA 413 rfl rfl
  | 7, _ => inA 415 rfl rfl
  | 8, _ => inA 417 rfl rfl
  | k + 9, h => absurd h (by omega)
set_option maxRecDepth 100000 in
theorem nmX1 : ∀ a, a < 9 → ∀ b, b < 9 → a ≠ b → (TX1 a).2.1 ≠ (TX1 b).2.1 := by decide +kernel
theorem tyX1_ok : ∀ k, k < 9 → parseFieldDescriptor (TX1 k).2.2.1 = some (tyX1 k) := by decide +kernel
theorem ownX1 : ∀ k, k < 9 → (TX1 k).1 = "MonoidRules$Elements" := by decide +kernel
set_option maxRecDepth 100000 in
theorem layX2 : ∀ k, k < 10 → u_lay RX2 TX2 k ∈ ALL
  | 0, _ => inA 365 rfl rfl
  | 1, _ => inA 367 rfl rfl
  | 2, _ => inA 369 rfl rfl
  | 3, _ => inA 371 rfl rfl
  | 4, _ => inA 373 rfl rfl
  | 5, _ => inA 375 rfl rfl
  | 6, _ => inA 377 rfl rfl
  | 7, _ => inA 379 rfl rfl
  | 8, _ => inA 381 rfl rfl
  | 9, _ => inA 383 rfl rfl
  | k + 10, h => absurd h (by omega)
set_option maxRecDepth 100000 in
theorem nmX2 : ∀ a, a < 10 → ∀ b, b < 10 → a ≠ b → (TX2 a).2.1 ≠ (TX2 b).2.1 := by decide +kernel
theorem tyX2_ok : ∀ k, k < 10 → parseFieldDescriptor (TX2 k).2.2.1 = some (tyX2 k) := by decide +kernel
theorem ownX2 : ∀ k, k < 10 → (TX2 k).1 = "MonoidRules$Finder" := by decide +kernel
set_option maxRecDepth 100000 in
theorem layX3 : ∀ k, k < 7 → u_lay RX3 TX3 k ∈ ALL
  | 0, _ => inA 257 rfl rfl
  | 1, _ => inA 259 rfl rfl
  | 2, _ => inA 261 rfl rfl
  | 3, _ => inA 263 rfl rfl
  | 4, _ => inA 265 rfl rfl
  | 5, _ => inA 267 rfl rfl
  | 6, _ => inA 269 rfl rfl
  | k + 7, h => absurd h (by omega)
set_option maxRecDepth 100000 in
theorem nmX3 : ∀ a, a < 7 → ∀ b, b < 7 → a ≠ b → (TX3 a).2.1 ≠ (TX3 b).2.1 := by decide +kernel
theorem tyX3_ok : ∀ k, k < 7 → parseFieldDescriptor (TX3 k).2.2.1 = some (tyX3 k) := by decide +kernel
theorem ownX3 : ∀ k, k < 7 → (TX3 k).1 = "MonoidRules$Machine" := by decide +kernel
set_option maxRecDepth 100000 in
theorem layX4 : ∀ k, k < 2 → u_lay RX4 TX4 k ∈ ALL
  | 0, _ => inA 566 rfl rfl
  | 1, _ => inA 568 rfl rfl
  | k + 2, h => absurd h (by omega)
set_option maxRecDepth 100000 in
theorem nmX4 : ∀ a, a < 2 → ∀ b, b < 2 → a ≠ b → (TX4 a).2.1 ≠ (TX4 b).2.1 := by decide +kernel
theorem tyX4_ok : ∀ k, k < 2 → parseFieldDescriptor (TX4 k).2.2.1 = some (tyX4 k) := by decide +kernel
theorem ownX4 : ∀ k, k < 2 → (TX4 k).1 = "MonoidRules$Pair" := by decide +kernel
set_option maxRecDepth 100000 in
theorem layX5 : ∀ k, k < 10 → u_lay RX5 TX5 k ∈ ALL
  | 0, _ => inA 138 rfl rfl
  | 1, _ => inA 140 rfl rfl
  | 2, _ => inA 142 rfl rfl
  | 3, _ => inA 144 rfl rfl
  | 4, _ => inA 146 rfl rfl
  | 5, _ => inA 148 rfl rfl
  | 6, _ => inA 150 rfl rfl
  | 7, _ => inA 152 rfl rfl
  | 8, _ => inA 154 rfl rfl
  | 9, _ => inA 156 rfl rfl
  | k + 10, h => absurd h (by omega)
set_option maxRecDepth 100000 in
theorem nmX5 : ∀ a, a < 10 → ∀ b, b < 10 → a ≠ b → (TX5 a).2.1 ≠ (TX5 b).2.1 := by decide +kernel
theorem tyX5_ok : ∀ k, k < 10 → parseFieldDescriptor (TX5 k).2.2.1 = some (tyX5 k) := by decide +kernel
theorem ownX5 : ∀ k, k < 10 → (TX5 k).1 = "MonoidRules$Presentation" := by decide +kernel
set_option maxRecDepth 100000 in
theorem layX6 : ∀ k, k < 8 → u_lay RX6 TX6 k ∈ ALL
  | 0, _ => inA 290 rfl rfl
  | 1, _ => inA 292 rfl rfl
  | 2, _ => inA 294 rfl rfl
  | 3, _ => inA 296 rfl rfl
  | 4, _ => inA 298 rfl rfl
  | 5, _ => inA 300 rfl rfl
  | 6, _ => inA 302 rfl rfl
  | 7, _ => inA 304 rfl rfl
  | k + 8, h => absurd h (by omega)
set_option maxRecDepth 100000 in
theorem nmX6 : ∀ a, a < 8 → ∀ b, b < 8 → a ≠ b → (TX6 a).2.1 ≠ (TX6 b).2.1 := by decide +kernel
theorem tyX6_ok : ∀ k, k < 8 → parseFieldDescriptor (TX6 k).2.2.1 = some (tyX6 k) := by decide +kernel
theorem ownX6 : ∀ k, k < 8 → (TX6 k).1 = "MonoidRules$Reducer" := by decide +kernel
set_option maxRecDepth 100000 in
theorem layX7 : ∀ k, k < 3 → u_lay RX7 TX7 k ∈ ALL
  | 0, _ => inA 235 rfl rfl
  | 1, _ => inA 237 rfl rfl
  | 2, _ => inA 239 rfl rfl
  | k + 3, h => absurd h (by omega)
set_option maxRecDepth 100000 in
theorem nmX7 : ∀ a, a < 3 → ∀ b, b < 3 → a ≠ b → (TX7 a).2.1 ≠ (TX7 b).2.1 := by decide +kernel
theorem tyX7_ok : ∀ k, k < 3 → parseFieldDescriptor (TX7 k).2.2.1 = some (tyX7 k) := by decide +kernel
theorem ownX7 : ∀ k, k < 3 → (TX7 k).1 = "MonoidRules$Row" := by decide +kernel
set_option maxRecDepth 100000 in
theorem layX8 : ∀ k, k < 3 → u_lay RX8 TX8 k ∈ ALL
  | 0, _ => inA 191 rfl rfl
  | 1, _ => inA 193 rfl rfl
  | 2, _ => inA 195 rfl rfl
  | k + 3, h => absurd h (by omega)
set_option maxRecDepth 100000 in
theorem nmX8 : ∀ a, a < 3 → ∀ b, b < 3 → a ≠ b → (TX8 a).2.1 ≠ (TX8 b).2.1 := by decide +kernel
theorem tyX8_ok : ∀ k, k < 3 → parseFieldDescriptor (TX8 k).2.2.1 = some (tyX8 k) := by decide +kernel
theorem ownX8 : ∀ k, k < 3 → (TX8 k).1 = "MonoidRules$Rule" := by decide +kernel
set_option maxRecDepth 100000 in
theorem layX9 : ∀ k, k < 4 → u_lay RX9 TX9 k ∈ ALL
  | 0, _ => inA 213 rfl rfl
  | 1, _ => inA 215 rfl rfl
  | 2, _ => inA 217 rfl rfl
  | 3, _ => inA 219 rfl rfl
  | k + 4, h => absurd h (by omega)
set_option maxRecDepth 100000 in
theorem nmX9 : ∀ a, a < 4 → ∀ b, b < 4 → a ≠ b → (TX9 a).2.1 ≠ (TX9 b).2.1 := by decide +kernel
theorem tyX9_ok : ∀ k, k < 4 → parseFieldDescriptor (TX9 k).2.2.1 = some (tyX9 k) := by decide +kernel
theorem ownX9 : ∀ k, k < 4 → (TX9 k).1 = "MonoidRules$Rules" := by decide +kernel
set_option maxRecDepth 100000 in
theorem layX10 : ∀ k, k < 2 → u_lay RX10 TX10 k ∈ ALL
  | 0, _ => inA 115 rfl rfl
  | 1, _ => inA 117 rfl rfl
  | k + 2, h => absurd h (by omega)
set_option maxRecDepth 100000 in
theorem nmX10 : ∀ a, a < 2 → ∀ b, b < 2 → a ≠ b → (TX10 a).2.1 ≠ (TX10 b).2.1 := by decide +kernel
theorem tyX10_ok : ∀ k, k < 2 → parseFieldDescriptor (TX10 k).2.2.1 = some (tyX10 k) := by decide +kernel
theorem ownX10 : ∀ k, k < 2 → (TX10 k).1 = "MonoidRules$Word" := by decide +kernel
set_option maxRecDepth 100000 in
theorem layX11 : ∀ k, k < 20 → u_lay RX11 TX11 k ∈ ALL
  | 0, _ => inA 442 rfl rfl
  | 1, _ => inA 444 rfl rfl
  | 2, _ => inA 446 rfl rfl
  | 3, _ => inA 448 rfl rfl
  | 4, _ => inA 450 rfl rfl
  | 5, _ => inA 452 rfl rfl
  | 6, _ => inA 454 rfl rfl
  | 7, _ => inA 456 rfl rfl
  | 8, _ => inA 458 rfl rfl
  | 9, _ => inA 460 rfl rfl
  | 10, _ => inA 462 rfl rfl
  | 11, _ => inA 464 rfl rfl
  | 12, _ => inA 466 rfl rfl
  | 13, _ => inA 468 rfl rfl
  | 14, _ => inA 470 rfl rfl
  | 15, _ => inA 472 rfl rfl
  | 16, _ => inA 474 rfl rfl
  | 17, _ => inA 476 rfl rfl
  | 18, _ => inA 478 rfl rfl
  | 19, _ => inA 480 rfl rfl
  | k + 20, h => absurd h (by omega)
set_option maxRecDepth 100000 in
theorem nmX11 : ∀ a, a < 20 → ∀ b, b < 20 → a ≠ b → (TX11 a).2.1 ≠ (TX11 b).2.1 := by decide +kernel
theorem tyX11_ok : ∀ k, k < 20 → parseFieldDescriptor (TX11 k).2.2.1 = some (tyX11 k) := by decide +kernel
theorem ownX11 : ∀ k, k < 20 → (TX11 k).1 = "MonoidRules" := by decide +kernel
set_option maxRecDepth 100000 in
theorem layX12 : ∀ k, k < 56 → u_lay RX12 TX12 k ∈ ALL
  | 0, _ => inA 1089 rfl rfl
  | 1, _ => inA 1091 rfl rfl
  | 2, _ => inA 1093 rfl rfl
  | 3, _ => inA 1095 rfl rfl
  | 4, _ => inA 1097 rfl rfl
  | 5, _ => inA 1099 rfl rfl
  | 6, _ => inA 1101 rfl rfl
  | 7, _ => inA 1103 rfl rfl
  | 8, _ => inA 1105 rfl rfl
  | 9, _ => inA 1107 rfl rfl
  | 10, _ => inA 1109 rfl rfl
  | 11, _ => inA 1111 rfl rfl
  | 12, _ => inA 1113 rfl rfl
  | 13, _ => inA 1115 rfl rfl
  | 14, _ => inA 1117 rfl rfl
  | 15, _ => inA 1119 rfl rfl
  | 16, _ => inA 1121 rfl rfl
  | 17, _ => inA 1123 rfl rfl
  | 18, _ => inA 1125 rfl rfl
  | 19, _ => inA 1127 rfl rfl
  | 20, _ => inA 1129 rfl rfl
  | 21, _ => inA 1131 rfl rfl
  | 22, _ => inA 1133 rfl rfl
  | 23, _ => inA 1135 rfl rfl
  | 24, _ => inA 1137 rfl rfl
  | 25, _ => inA 1139 rfl rfl
  | 26, _ => inA 1141 rfl rfl
  | 27, _ => inA 1143 rfl rfl
  | 28, _ => inA 1145 rfl rfl
  | 29, _ => inA 1147 rfl rfl
  | 30, _ => inA 1149 rfl rfl
  | 31, _ => inA 1151 rfl rfl
  | 32, _ => inA 1153 rfl rfl
  | 33, _ => inA 1155 rfl rfl
  | 34, _ => inA 1157 rfl rfl
  | 35, _ => inA 1159 rfl rfl
  | 36, _ => inA 1161 rfl rfl
  | 37, _ => inA 1163 rfl rfl
  | 38, _ => inA 1165 rfl rfl
  | 39, _ => inA 1167 rfl rfl
  | 40, _ => inA 1169 rfl rfl
  | 41, _ => inA 1171 rfl rfl
  | 42, _ => inA 1173 rfl rfl
  | 43, _ => inA 1175 rfl rfl
  | 44, _ => inA 1177 rfl rfl
  | 45, _ => inA 1179 rfl rfl
  | 46, _ => inA 1181 rfl rfl
  | 47, _ => inA 1183 rfl rfl
  | 48, _ => inA 1185 rfl rfl
  | 49, _ => inA 1187 rfl rfl
  | 50, _ => inA 1189 rfl rfl
  | 51, _ => inA 1191 rfl rfl
  | 52, _ => inA 1193 rfl rfl
  | 53, _ => inA 1195 rfl rfl
  | 54, _ => inA 1197 rfl rfl
  | 55, _ => inA 1199 rfl rfl
  | k + 56, h => absurd h (by omega)
set_option maxRecDepth 100000 in
theorem nmX12 : ∀ a, a < 56 → ∀ b, b < 56 → a ≠ b → (TX12 a).2.1 ≠ (TX12 b).2.1 := by decide +kernel
theorem tyX12_ok : ∀ k, k < 56 → parseFieldDescriptor (TX12 k).2.2.1 = some (tyX12 k) := by decide +kernel
theorem ownX12 : ∀ k, k < 56 → (TX12 k).1 = "MonoidRulesModel" := by decide +kernel
/-- what is known of a class -/
def Cok (ci : Nat) (r : vw_C) : Prop := (∀ w ∈ u_ws r.1 r.2.1 r.2.2, w ∈ ALL) ∧ (∀ k, k < r.2.2 → parseFieldDescriptor (r.2.1 k).2.2.1 = some (cY ci k)) ∧ (∀ a, a < r.2.2 → ∀ b, b < r.2.2 → a ≠ b → (r.2.1 a).2.1 ≠ (r.2.1 b).2.1) ∧ (∀ j, j < r.2.2 → cF ci j = (r.2.1 j).2.2.2 ∧ (r.2.1 j).1 = cN ci) ∧ cN ci = r.1 ∧ cS ci = r.2.2
theorem lay_ws {C : String} {T : u_T} {N : Nat} (h : ∀ k, k < N → u_lay C T k ∈ ALL) : ∀ w ∈ u_ws C T N, w ∈ ALL := by
  intro w hw
  obtain ⟨k, hk, rfl⟩ := List.mem_map.mp hw
  exact h k (List.mem_range.mp hk)
theorem cokX0 : Cok 0 (RX0, TX0, 8) := ⟨lay_ws layX0, tyX0_ok, nmX0, fun j h => ⟨rfl, ownX0 j h⟩, rfl, rfl⟩
theorem cokX1 : Cok 1 (RX1, TX1, 9) := ⟨lay_ws layX1, tyX1_ok, nmX1, fun j h => ⟨rfl, ownX1 j h⟩, rfl, rfl⟩
theorem cokX2 : Cok 2 (RX2, TX2, 10) := ⟨lay_ws layX2, tyX2_ok, nmX2, fun j h => ⟨rfl, ownX2 j h⟩, rfl, rfl⟩
theorem cokX3 : Cok 3 (RX3, TX3, 7) := ⟨lay_ws layX3, tyX3_ok, nmX3, fun j h => ⟨rfl, ownX3 j h⟩, rfl, rfl⟩
theorem cokX4 : Cok 4 (RX4, TX4, 2) := ⟨lay_ws layX4, tyX4_ok, nmX4, fun j h => ⟨rfl, ownX4 j h⟩, rfl, rfl⟩
theorem cokX5 : Cok 5 (RX5, TX5, 10) := ⟨lay_ws layX5, tyX5_ok, nmX5, fun j h => ⟨rfl, ownX5 j h⟩, rfl, rfl⟩
theorem cokX6 : Cok 6 (RX6, TX6, 8) := ⟨lay_ws layX6, tyX6_ok, nmX6, fun j h => ⟨rfl, ownX6 j h⟩, rfl, rfl⟩
theorem cokX7 : Cok 7 (RX7, TX7, 3) := ⟨lay_ws layX7, tyX7_ok, nmX7, fun j h => ⟨rfl, ownX7 j h⟩, rfl, rfl⟩
theorem cokX8 : Cok 8 (RX8, TX8, 3) := ⟨lay_ws layX8, tyX8_ok, nmX8, fun j h => ⟨rfl, ownX8 j h⟩, rfl, rfl⟩
theorem cokX9 : Cok 9 (RX9, TX9, 4) := ⟨lay_ws layX9, tyX9_ok, nmX9, fun j h => ⟨rfl, ownX9 j h⟩, rfl, rfl⟩
theorem cokX10 : Cok 10 (RX10, TX10, 2) := ⟨lay_ws layX10, tyX10_ok, nmX10, fun j h => ⟨rfl, ownX10 j h⟩, rfl, rfl⟩
theorem cokX11 : Cok 11 (RX11, TX11, 20) := ⟨lay_ws layX11, tyX11_ok, nmX11, fun j h => ⟨rfl, ownX11 j h⟩, rfl, rfl⟩
theorem cokX12 : Cok 12 (RX12, TX12, 56) := ⟨lay_ws layX12, tyX12_ok, nmX12, fun j h => ⟨rfl, ownX12 j h⟩, rfl, rfl⟩
theorem cls_ok : ∀ (ci : Nat) (r : vw_C), classes[ci]? = some r → Cok ci r
  | 0, _, h => by cases h; exact cokX0
  | 1, _, h => by cases h; exact cokX1
  | 2, _, h => by cases h; exact cokX2
  | 3, _, h => by cases h; exact cokX3
  | 4, _, h => by cases h; exact cokX4
  | 5, _, h => by cases h; exact cokX5
  | 6, _, h => by cases h; exact cokX6
  | 7, _, h => by cases h; exact cokX7
  | 8, _, h => by cases h; exact cokX8
  | 9, _, h => by cases h; exact cokX9
  | 10, _, h => by cases h; exact cokX10
  | 11, _, h => by cases h; exact cokX11
  | 12, _, h => by cases h; exact cokX12
  | k + 13, _, h => by
    have : classes[k + 13]? = none := List.getElem?_eq_none (by show 13 ≤ k + 13; omega)
    rw [this] at h; cases h
def F_Completion_begin : Fn := (⟨"MonoidRules$Completion", "begin", "()V"⟩, prog_2_method_2_code, 1, none, 0, 1, 0, 0)
def F_Completion_canTreat : Fn := (⟨"MonoidRules$Completion", "canTreat", "()Z"⟩, prog_2_method_3_code, 1, (some .boolean), 0, 1, 0, 0)
def F_Completion_isDone : Fn := (⟨"MonoidRules$Completion", "isDone", "()Z"⟩, prog_2_method_4_code, 1, (some .boolean), 0, 1, 0, 0)
def F_Elements_begin : Fn := (⟨"MonoidRules$Elements", "begin", "()V"⟩, prog_3_method_2_code, 1, none, 1, 1, 0, 0)
def F_Elements_capped : Fn := (⟨"MonoidRules$Elements", "capped", "(J)J"⟩, prog_3_method_14_code, 2, (some .long), 1, 1, 0, 1)
def F_Elements_init : Fn := (⟨"MonoidRules$Elements", "<init>", "(LMonoidRules$Rules;LMonoidRules$Machine;)V"⟩, prog_3_method_1_code, 3, none, 1, 1, 12, 2)
def F_Elements_makeQueue : Fn := (⟨"MonoidRules$Elements", "makeQueue", "()V"⟩, prog_3_method_11_code, 2, none, 1, 1, 15, 0)
def F_Elements_waysOn : Fn := (⟨"MonoidRules$Elements", "waysOn", "(II)J"⟩, prog_3_method_8_code, 4, (some .long), 1, 1, 0, 2)
def F_Finder_begin : Fn := (⟨"MonoidRules$Finder", "begin", "()V"⟩, prog_4_method_2_code, 1, none, 2, 1, 0, 0)
def F_Finder_forgetAnswer : Fn := (⟨"MonoidRules$Finder", "forgetAnswer", "()V"⟩, prog_4_method_3_code, 1, none, 2, 1, 0, 0)
def F_Machine_after : Fn := (⟨"MonoidRules$Machine", "after", "(II)I"⟩, prog_5_method_3_code, 4, (some .int), 3, 1, 0, 2)
def F_Machine_clear : Fn := (⟨"MonoidRules$Machine", "clear", "(I)V"⟩, prog_5_method_6_code, 3, none, 3, 1, 17, 1)
def F_Machine_init : Fn := (⟨"MonoidRules$Machine", "<init>", "()V"⟩, prog_5_method_1_code, 1, none, 3, 1, 12, 0)
def F_Machine_leastRule : Fn := (⟨"MonoidRules$Machine", "leastRule", "(II)I"⟩, prog_5_method_9_code, 2, (some .int), 3, 1, 0, 2)
def F_Machine_ruleAt : Fn := (⟨"MonoidRules$Machine", "ruleAt", "(I)I"⟩, prog_5_method_4_code, 2, (some .int), 3, 1, 0, 1)
def F_Md_bad : Fn := (⟨"MonoidRulesModel", "bad", "(I)V"⟩, prog_14_method_6_code, 2, none, 12, 1, 0, 1)
def F_Md_begin : Fn := (⟨"MonoidRulesModel", "begin", "()V"⟩, prog_14_method_4_code, 1, none, 12, 1, 0, 0)
def F_Md_ends : Fn := (⟨"MonoidRulesModel", "ends", "(I[II)Z"⟩, prog_14_method_18_code, 6, (some .boolean), 12, 1, 0, 3)
def F_Md_fault : Fn := (⟨"MonoidRulesModel", "fault", "()I"⟩, prog_14_method_13_code, 1, (some .int), 12, 1, 0, 0)
def F_Md_faulty : Fn := (⟨"MonoidRulesModel", "faulty", "()I"⟩, prog_14_method_11_code, 1, (some .int), 12, 1, 0, 0)
def F_Md_greater : Fn := (⟨"MonoidRulesModel", "greater", "([III[III)I"⟩, prog_14_method_22_code, 7, (some .int), 12, 1, 0, 6)
def F_Md_here : Fn := (⟨"MonoidRulesModel", "here", "()I"⟩, prog_14_method_5_code, 1, (some .int), 12, 1, 0, 0)
def F_Md_in : Fn := (⟨"MonoidRulesModel", "in", "(JJJ)Z"⟩, prog_14_method_2_code, 6, (some .boolean), 12, 1, 0, 3)
def F_Md_init : Fn := (⟨"MonoidRulesModel", "<init>", "()V"⟩, prog_14_method_16_code, 2, none, 12, 1, 12, 0)
def F_Md_isComplete : Fn := (⟨"MonoidRulesModel", "isComplete", "()Z"⟩, prog_14_method_17_code, 1, (some .boolean), 12, 1, 0, 0)
def F_Md_isLetter : Fn := (⟨"MonoidRulesModel", "isLetter", "(I)Z"⟩, prog_14_method_7_code, 1, (some .boolean), 12, 1, 0, 1)
def F_Md_live : Fn := (⟨"MonoidRulesModel", "live", "()I"⟩, prog_14_method_32_code, 3, (some .int), 12, 1, 0, 0)
def F_Md_node : Fn := (⟨"MonoidRulesModel", "node", "()I"⟩, prog_14_method_49_code, 2, (some .int), 12, 1, 0, 0)
def F_Md_overlaps : Fn := (⟨"MonoidRulesModel", "overlaps", "(III)Z"⟩, prog_14_method_27_code, 5, (some .boolean), 12, 1, 0, 3)
def F_Md_standsIn : Fn := (⟨"MonoidRulesModel", "standsIn", "(II)Z"⟩, prog_14_method_24_code, 6, (some .boolean), 12, 1, 0, 2)
def F_Md_sum : Fn := (⟨"MonoidRulesModel", "sum", "(JJ)J"⟩, prog_14_method_51_code, 4, (some .long), 12, 1, 0, 2)
def F_Md_takeOne : Fn := (⟨"MonoidRulesModel", "takeOne", "(II)I"⟩, prog_14_method_42_code, 4, (some .int), 12, 1, 0, 2)
def F_Md_toSlot : Fn := (⟨"MonoidRulesModel", "toSlot", "(II)V"⟩, prog_14_method_43_code, 4, none, 12, 1, 0, 2)
def F_Md_waits : Fn := (⟨"MonoidRulesModel", "waits", "(II)V"⟩, prog_14_method_23_code, 5, none, 12, 1, 0, 2)
def F_Mr_earlierPower : Fn := (⟨"MonoidRules", "earlierPower", "(I)I"⟩, prog_1_method_33_code, 3, (some .int), 11, 1, 0, 1)
def F_Mr_fault : Fn := (⟨"MonoidRules", "fault", "()I"⟩, prog_1_method_5_code, 1, (some .int), 11, 1, 0, 0)
def F_Mr_feed : Fn := (⟨"MonoidRules", "feed", "(JI)I"⟩, prog_1_method_2_code, 5, (some .int), 11, 1, 0, 2)
def F_Mr_isSide : Fn := (⟨"MonoidRules", "isSide", "(I)Z"⟩, prog_1_method_35_code, 1, (some .boolean), 11, 1, 0, 1)
def F_Mr_isSlot : Fn := (⟨"MonoidRules", "isSlot", "(I)Z"⟩, prog_1_method_34_code, 1, (some .boolean), 11, 1, 0, 1)
def F_Mr_overlap : Fn := (⟨"MonoidRules", "overlap", "(I)I"⟩, prog_1_method_14_code, 2, (some .int), 11, 1, 0, 1)
def F_Mr_step : Fn := (⟨"MonoidRules", "step", "(II)I"⟩, prog_1_method_19_code, 3, (some .int), 11, 1, 0, 2)
def F_Mr_tellFault : Fn := (⟨"MonoidRules", "tellFault", "()I"⟩, prog_1_method_6_code, 1, (some .int), 11, 1, 0, 0)
def F_Presentation_endWord : Fn := (⟨"MonoidRules$Presentation", "endWord", "()V"⟩, prog_7_method_9_code, 1, none, 5, 1, 0, 0)
def F_Presentation_isLetter : Fn := (⟨"MonoidRules$Presentation", "isLetter", "(B)Z"⟩, prog_7_method_11_code, 1, (some .boolean), 5, 1, 0, 1)
def F_Presentation_isPassedOver : Fn := (⟨"MonoidRules$Presentation", "isPassedOver", "(B)Z"⟩, prog_7_method_10_code, 1, (some .boolean), 5, 1, 0, 1)
def F_Reducer_init : Fn := (⟨"MonoidRules$Reducer", "<init>", "(LMonoidRules$Rules;LMonoidRules$Machine;)V"⟩, prog_8_method_1_code, 3, none, 6, 1, 12, 2)
def F_Reducer_note : Fn := (⟨"MonoidRules$Reducer", "note", "(II)V"⟩, prog_8_method_4_code, 3, none, 6, 1, 0, 2)
def F_Reducer_putBack : Fn := (⟨"MonoidRules$Reducer", "putBack", "(LMonoidRules$Word;I)I"⟩, prog_8_method_3_code, 5, (some .int), 6, 1, 0, 2)
def F_Row_at : Fn := (⟨"MonoidRules$Row", "at", "(I)LMonoidRules$Pair;"⟩, prog_9_method_4_code, 2, (some (.object "MonoidRules$Pair")), 7, 1, 0, 1)
def F_Row_clear : Fn := (⟨"MonoidRules$Row", "clear", "()V"⟩, prog_9_method_2_code, 1, none, 7, 1, 0, 0)
def F_Row_init : Fn := (⟨"MonoidRules$Row", "<init>", "()V"⟩, prog_9_method_1_code, 1, none, 7, 1, 12, 0)
def F_Rule_mostShared : Fn := (⟨"MonoidRules$Rule", "mostShared", "(LMonoidRules$Rule;)I"⟩, prog_10_method_2_code, 2, (some .int), 8, 1, 13, 1)
def F_Rules_begin : Fn := (⟨"MonoidRules$Rules", "begin", "(I)V"⟩, prog_11_method_2_code, 2, none, 9, 1, 0, 1)
def F_Rules_has : Fn := (⟨"MonoidRules$Rules", "has", "(I)Z"⟩, prog_11_method_3_code, 2, (some .boolean), 9, 1, 0, 1)
def F_Rules_lettersOfLefts : Fn := (⟨"MonoidRules$Rules", "lettersOfLefts", "()I"⟩, prog_11_method_6_code, 3, (some .int), 9, 1, 0, 0)
def F_Rules_liveOnes : Fn := (⟨"MonoidRules$Rules", "liveOnes", "()I"⟩, prog_11_method_5_code, 3, (some .int), 9, 1, 0, 0)
def F_Word_add : Fn := (⟨"MonoidRules$Word", "add", "(I)V"⟩, prog_12_method_3_code, 2, none, 10, 1, 0, 1)
def F_Word_against : Fn := (⟨"MonoidRules$Word", "against", "(LMonoidRules$Word;)I"⟩, prog_12_method_7_code, 3, (some .int), 10, 1, 0, 1)
def F_Word_append : Fn := (⟨"MonoidRules$Word", "append", "(LMonoidRules$Word;II)V"⟩, prog_12_method_5_code, 5, none, 10, 1, 0, 3)
def F_Word_at : Fn := (⟨"MonoidRules$Word", "at", "(I)I"⟩, prog_12_method_6_code, 2, (some .int), 10, 1, 0, 1)
def F_Word_become : Fn := (⟨"MonoidRules$Word", "become", "(LMonoidRules$Word;)V"⟩, prog_12_method_4_code, 4, none, 10, 1, 0, 1)
def F_Word_clear : Fn := (⟨"MonoidRules$Word", "clear", "()V"⟩, prog_12_method_2_code, 1, none, 10, 1, 0, 0)
def F_Word_init : Fn := (⟨"MonoidRules$Word", "<init>", "(I)V"⟩, prog_12_method_1_code, 2, none, 10, 1, 15, 1)
def F_Word_matches : Fn := (⟨"MonoidRules$Word", "matches", "(ILMonoidRules$Word;I)Z"⟩, prog_12_method_9_code, 5, (some .boolean), 10, 1, 0, 3)
def F_Completion_init : Fn := (⟨"MonoidRules$Completion", "<init>", "(LMonoidRules$Rules;LMonoidRules$Row;LMonoidRules$Reducer;)V"⟩, prog_2_method_1_code, 4, none, 0, 2, 36, 3)
def F_Elements_spellOfLength : Fn := (⟨"MonoidRules$Elements", "spellOfLength", "(IJLMonoidRules$Word;)V"⟩, prog_3_method_7_code, 12, none, 1, 2, 23, 3)
def F_Finder_init : Fn := (⟨"MonoidRules$Finder", "<init>", "(LMonoidRules$Rules;LMonoidRules$Reducer;)V"⟩, prog_4_method_1_code, 3, none, 2, 2, 36, 2)
def F_Machine_insert : Fn := (⟨"MonoidRules$Machine", "insert", "(LMonoidRules$Word;I)V"⟩, prog_5_method_7_code, 6, none, 3, 2, 23, 2)
def F_Machine_isReducible : Fn := (⟨"MonoidRules$Machine", "isReducible", "(I)Z"⟩, prog_5_method_5_code, 2, (some .boolean), 3, 2, 21, 1)
def F_Machine_link : Fn := (⟨"MonoidRules$Machine", "link", "()V"⟩, prog_5_method_8_code, 7, none, 3, 2, 23, 0)
def F_Md_count : Fn := (⟨"MonoidRulesModel", "count", "(I)I"⟩, prog_14_method_33_code, 2, (some .int), 12, 2, 22, 1)
def F_Md_countAll : Fn := (⟨"MonoidRulesModel", "countAll", "()V"⟩, prog_14_method_53_code, 10, none, 12, 2, 23, 0)
def F_Md_countWays : Fn := (⟨"MonoidRulesModel", "countWays", "()V"⟩, prog_14_method_52_code, 6, none, 12, 2, 23, 0)
def F_Md_dropOlder : Fn := (⟨"MonoidRulesModel", "dropOlder", "(I)V"⟩, prog_14_method_25_code, 4, none, 12, 2, 25, 1)
def F_Md_endsAt : Fn := (⟨"MonoidRulesModel", "endsAt", "([II)I"⟩, prog_14_method_19_code, 4, (some .int), 12, 2, 25, 2)
def F_Md_feed : Fn := (⟨"MonoidRulesModel", "feed", "(JI)I"⟩, prog_14_method_3_code, 5, (some .int), 12, 2, 25, 2)
def F_Md_isMade : Fn := (⟨"MonoidRulesModel", "isMade", "(II)Z"⟩, prog_14_method_29_code, 7, (some .boolean), 12, 2, 26, 2)
def F_Md_isRule : Fn := (⟨"MonoidRulesModel", "isRule", "(I)Z"⟩, prog_14_method_34_code, 2, (some .boolean), 12, 2, 25, 1)
def F_Md_isSlot : Fn := (⟨"MonoidRulesModel", "isSlot", "(I)Z"⟩, prog_14_method_14_code, 1, (some .boolean), 12, 2, 25, 1)
def F_Md_layTree : Fn := (⟨"MonoidRulesModel", "layTree", "()V"⟩, prog_14_method_50_code, 8, none, 12, 2, 21, 0)
def F_Md_overlap : Fn := (⟨"MonoidRulesModel", "overlap", "(I)I"⟩, prog_14_method_39_code, 2, (some .int), 12, 2, 25, 1)
def F_Md_overlapAll : Fn := (⟨"MonoidRulesModel", "overlapAll", "(II)V"⟩, prog_14_method_28_code, 5, none, 12, 2, 24, 2)
def F_Md_readLetters : Fn := (⟨"MonoidRulesModel", "readLetters", "()V"⟩, prog_14_method_8_code, 2, none, 12, 2, 21, 0)
def F_Md_readWord : Fn := (⟨"MonoidRulesModel", "readWord", "([II[II)I"⟩, prog_14_method_9_code, 7, (some .int), 12, 2, 21, 4)
def F_Md_step : Fn := (⟨"MonoidRulesModel", "step", "(II)I"⟩, prog_14_method_46_code, 3, (some .int), 12, 2, 25, 2)
def F_Md_waiting : Fn := (⟨"MonoidRulesModel", "waiting", "(III)I"⟩, prog_14_method_37_code, 5, (some .int), 12, 2, 25, 3)
def F_Mr_compare : Fn := (⟨"MonoidRules", "compare", "(II)I"⟩, prog_1_method_21_code, 3, (some .int), 11, 2, 22, 2)
def F_Mr_count : Fn := (⟨"MonoidRules", "count", "(I)I"⟩, prog_1_method_9_code, 2, (some .int), 11, 2, 22, 1)
def F_Mr_join : Fn := (⟨"MonoidRules", "join", "(III)I"⟩, prog_1_method_17_code, 4, (some .int), 11, 2, 24, 3)
def F_Mr_length : Fn := (⟨"MonoidRules", "length", "(I)I"⟩, prog_1_method_15_code, 2, (some .int), 11, 2, 20, 1)
def F_Mr_letter : Fn := (⟨"MonoidRules", "letter", "(II)I"⟩, prog_1_method_16_code, 3, (some .int), 11, 2, 21, 2)
def F_Mr_rule : Fn := (⟨"MonoidRules", "rule", "(II)I"⟩, prog_1_method_10_code, 3, (some .int), 11, 2, 21, 2)
def F_Mr_ruleLetter : Fn := (⟨"MonoidRules", "ruleLetter", "(III)I"⟩, prog_1_method_11_code, 5, (some .int), 11, 2, 21, 3)
def F_Mr_waiting : Fn := (⟨"MonoidRules", "waiting", "(III)I"⟩, prog_1_method_12_code, 5, (some .int), 11, 2, 21, 3)
def F_Pair_init : Fn := (⟨"MonoidRules$Pair", "<init>", "()V"⟩, prog_6_method_1_code, 1, none, 4, 2, 36, 0)
def F_Presentation_clear : Fn := (⟨"MonoidRules$Presentation", "clear", "()V"⟩, prog_7_method_5_code, 1, none, 5, 2, 20, 0)
def F_Presentation_copyWord : Fn := (⟨"MonoidRules$Presentation", "copyWord", "(ILMonoidRules$Word;)V"⟩, prog_7_method_4_code, 3, none, 5, 2, 24, 2)
def F_Presentation_init : Fn := (⟨"MonoidRules$Presentation", "<init>", "()V"⟩, prog_7_method_1_code, 1, none, 5, 2, 36, 0)
def F_Presentation_takeLetter : Fn := (⟨"MonoidRules$Presentation", "takeLetter", "(B)I"⟩, prog_7_method_6_code, 2, (some .int), 5, 2, 20, 1)
def F_Presentation_takeWordLetter : Fn := (⟨"MonoidRules$Presentation", "takeWordLetter", "(II)I"⟩, prog_7_method_8_code, 3, (some .int), 5, 2, 21, 2)
def F_Reducer_write : Fn := (⟨"MonoidRules$Reducer", "write", "(ILMonoidRules$Word;)V"⟩, prog_8_method_5_code, 4, none, 6, 2, 21, 2)
def F_Row_takeFirst : Fn := (⟨"MonoidRules$Row", "takeFirst", "()LMonoidRules$Pair;"⟩, prog_9_method_5_code, 2, (some (.object "MonoidRules$Pair")), 7, 2, 21, 0)
def F_Rule_init : Fn := (⟨"MonoidRules$Rule", "<init>", "()V"⟩, prog_10_method_1_code, 1, none, 8, 2, 36, 0)
def F_Rule_overlaps : Fn := (⟨"MonoidRules$Rule", "overlaps", "(LMonoidRules$Rule;I)Z"⟩, prog_10_method_3_code, 3, (some .boolean), 8, 2, 24, 2)
def F_Rule_spellOverlap : Fn := (⟨"MonoidRules$Rule", "spellOverlap", "(LMonoidRules$Rule;ILMonoidRules$Word;LMonoidRules$Word;)V"⟩, prog_10_method_4_code, 5, none, 8, 2, 24, 4)
def F_Rules_drop : Fn := (⟨"MonoidRules$Rules", "drop", "(I)V"⟩, prog_11_method_8_code, 2, none, 9, 2, 21, 1)
def F_Rules_isLive : Fn := (⟨"MonoidRules$Rules", "isLive", "(I)Z"⟩, prog_11_method_4_code, 2, (some .boolean), 9, 2, 21, 1)
def F_Rules_make : Fn := (⟨"MonoidRules$Rules", "make", "(LMonoidRules$Word;LMonoidRules$Word;)I"⟩, prog_11_method_7_code, 3, (some .int), 9, 2, 23, 2)
def F_Word_holds : Fn := (⟨"MonoidRules$Word", "holds", "(LMonoidRules$Word;)Z"⟩, prog_12_method_8_code, 3, (some .boolean), 10, 2, 24, 1)
def F_Elements_countIncoming : Fn := (⟨"MonoidRules$Elements", "countIncoming", "()I"⟩, prog_3_method_13_code, 4, (some .int), 1, 3, 42, 0)
def F_Elements_countRow : Fn := (⟨"MonoidRules$Elements", "countRow", "(I)V"⟩, prog_3_method_10_code, 6, none, 1, 3, 42, 1)
def F_Machine_renew : Fn := (⟨"MonoidRules$Machine", "renew", "(LMonoidRules$Rules;)V"⟩, prog_5_method_2_code, 3, none, 3, 3, 49, 1)
def F_Md_compare : Fn := (⟨"MonoidRulesModel", "compare", "(II)I"⟩, prog_14_method_48_code, 3, (some .int), 12, 3, 45, 2)
def F_Md_counted : Fn := (⟨"MonoidRulesModel", "counted", "()V"⟩, prog_14_method_54_code, 1, none, 12, 3, 52, 0)
def F_Md_join : Fn := (⟨"MonoidRulesModel", "join", "(III)I"⟩, prog_14_method_44_code, 5, (some .int), 12, 3, 45, 3)
def F_Md_length : Fn := (⟨"MonoidRulesModel", "length", "(I)I"⟩, prog_14_method_40_code, 2, (some .int), 12, 3, 45, 1)
def F_Md_letter : Fn := (⟨"MonoidRulesModel", "letter", "(II)I"⟩, prog_14_method_41_code, 3, (some .int), 12, 3, 45, 2)
def F_Md_readEquations : Fn := (⟨"MonoidRulesModel", "readEquations", "()V"⟩, prog_14_method_10_code, 3, none, 12, 3, 47, 0)
def F_Md_rule : Fn := (⟨"MonoidRulesModel", "rule", "(II)I"⟩, prog_14_method_35_code, 3, (some .int), 12, 3, 46, 2)
def F_Md_ruleLetter : Fn := (⟨"MonoidRulesModel", "ruleLetter", "(III)I"⟩, prog_14_method_36_code, 5, (some .int), 12, 3, 46, 3)
def F_Md_shrink : Fn := (⟨"MonoidRulesModel", "shrink", "([II)I"⟩, prog_14_method_20_code, 9, (some .int), 12, 3, 48, 2)
def F_Md_word : Fn := (⟨"MonoidRulesModel", "word", "(I)I"⟩, prog_14_method_15_code, 4, (some .int), 12, 3, 47, 1)
def F_Presentation_takeInWord : Fn := (⟨"MonoidRules$Presentation", "takeInWord", "(B)I"⟩, prog_7_method_7_code, 2, (some .int), 5, 3, 43, 1)
def F_Presentation_takeSlotWord : Fn := (⟨"MonoidRules$Presentation", "takeSlotWord", "([BI[I)Z"⟩, prog_7_method_3_code, 5, (some .boolean), 5, 3, 43, 3)
def F_Row_behind : Fn := (⟨"MonoidRules$Row", "behind", "()LMonoidRules$Pair;"⟩, prog_9_method_3_code, 2, (some (.object "MonoidRules$Pair")), 7, 3, 56, 0)
def F_Rules_init : Fn := (⟨"MonoidRules$Rules", "<init>", "()V"⟩, prog_11_method_1_code, 2, none, 9, 3, 56, 0)
def F_Completion_dropOlder : Fn := (⟨"MonoidRules$Completion", "dropOlder", "(I)Z"⟩, prog_2_method_7_code, 5, (some .boolean), 0, 4, 77, 1)
def F_Completion_pairOverlaps : Fn := (⟨"MonoidRules$Completion", "pairOverlaps", "(LMonoidRules$Rule;LMonoidRules$Rule;)Z"⟩, prog_2_method_10_code, 6, (some .boolean), 0, 4, 77, 2)
def F_Elements_countPaths : Fn := (⟨"MonoidRules$Elements", "countPaths", "()J"⟩, prog_3_method_12_code, 9, (some .long), 1, 4, 65, 0)
def F_Elements_countRows : Fn := (⟨"MonoidRules$Elements", "countRows", "(I)V"⟩, prog_3_method_9_code, 4, none, 1, 4, 71, 1)
def F_Md_commutes : Fn := (⟨"MonoidRulesModel", "commutes", "()I"⟩, prog_14_method_66_code, 5, (some .int), 12, 4, 76, 0)
def F_Md_form : Fn := (⟨"MonoidRulesModel", "form", "([II)I"⟩, prog_14_method_21_code, 4, (some .int), 12, 4, 76, 2)
def F_Md_isElement : Fn := (⟨"MonoidRulesModel", "isElement", "(I)Z"⟩, prog_14_method_57_code, 2, (some .boolean), 12, 4, 72, 1)
def F_Md_layElement : Fn := (⟨"MonoidRulesModel", "layElement", "(I[II)I"⟩, prog_14_method_58_code, 10, (some .int), 12, 4, 72, 3)
def F_Md_many : Fn := (⟨"MonoidRulesModel", "many", "(I)J"⟩, prog_14_method_55_code, 4, (some .long), 12, 4, 72, 1)
def F_Md_numberOf : Fn := (⟨"MonoidRulesModel", "numberOf", "(I)I"⟩, prog_14_method_60_code, 8, (some .int), 12, 4, 76, 1)
def F_Md_open : Fn := (⟨"MonoidRulesModel", "open", "()I"⟩, prog_14_method_38_code, 8, (some .int), 12, 4, 76, 0)
def F_Md_read : Fn := (⟨"MonoidRulesModel", "read", "()I"⟩, prog_14_method_12_code, 4, (some .int), 12, 4, 69, 0)
def F_Md_reduce : Fn := (⟨"MonoidRulesModel", "reduce", "(I)I"⟩, prog_14_method_45_code, 4, (some .int), 12, 4, 76, 1)
def F_Md_same : Fn := (⟨"MonoidRulesModel", "same", "(II)I"⟩, prog_14_method_47_code, 5, (some .int), 12, 4, 76, 2)
def F_Md_size : Fn := (⟨"MonoidRulesModel", "size", "()J"⟩, prog_14_method_56_code, 1, (some .long), 12, 4, 72, 0)
def F_Mr_beginSystem : Fn := (⟨"MonoidRules", "beginSystem", "()V"⟩, prog_1_method_7_code, 3, none, 11, 4, 77, 0)
def F_Mr_init : Fn := (⟨"MonoidRules", "<init>", "()V"⟩, prog_1_method_1_code, 2, none, 11, 4, 77, 0)
def F_Mr_word : Fn := (⟨"MonoidRules", "word", "(I)I"⟩, prog_1_method_4_code, 3, (some .int), 11, 4, 67, 1)
def F_Presentation_takeSystem : Fn := (⟨"MonoidRules$Presentation", "takeSystem", "([BI)Z"⟩, prog_7_method_2_code, 4, (some .boolean), 5, 4, 64, 2)
def F_Reducer_toForm : Fn := (⟨"MonoidRules$Reducer", "toForm", "(LMonoidRules$Word;LMonoidRules$Word;)Z"⟩, prog_8_method_2_code, 9, (some .boolean), 6, 4, 71, 2)
def F_Completion_pairAll : Fn := (⟨"MonoidRules$Completion", "pairAll", "(I)Z"⟩, prog_2_method_9_code, 5, (some .boolean), 0, 5, 102, 1)
def F_Completion_takeForm : Fn := (⟨"MonoidRules$Completion", "takeForm", "(LMonoidRules$Word;LMonoidRules$Word;)Z"⟩, prog_2_method_6_code, 3, (some .boolean), 0, 5, 99, 2)
def F_Elements_ofLength : Fn := (⟨"MonoidRules$Elements", "ofLength", "(I)J"⟩, prog_3_method_3_code, 2, (some .long), 1, 5, 94, 1)
def F_Elements_rank : Fn := (⟨"MonoidRules$Elements", "rank", "(LMonoidRules$Word;)J"⟩, prog_3_method_6_code, 8, (some .long), 1, 5, 94, 1)
def F_Elements_total : Fn := (⟨"MonoidRules$Elements", "total", "()J"⟩, prog_3_method_4_code, 1, (some .long), 1, 5, 93, 0)
def F_Finder_tryTwo : Fn := (⟨"MonoidRules$Finder", "tryTwo", "(II)I"⟩, prog_4_method_6_code, 7, (some .int), 2, 5, 99, 2)
def F_Md_element : Fn := (⟨"MonoidRulesModel", "element", "(II)I"⟩, prog_14_method_59_code, 4, (some .int), 12, 5, 101, 2)
def F_Md_number : Fn := (⟨"MonoidRulesModel", "number", "(I)I"⟩, prog_14_method_61_code, 2, (some .int), 12, 5, 103, 1)
def F_Md_productOf : Fn := (⟨"MonoidRulesModel", "productOf", "(II)I"⟩, prog_14_method_62_code, 6, (some .int), 12, 5, 103, 2)
def F_Md_shortenOlder : Fn := (⟨"MonoidRulesModel", "shortenOlder", "(I)V"⟩, prog_14_method_26_code, 5, none, 12, 5, 99, 1)
def F_Mr_lettersCommute : Fn := (⟨"MonoidRules", "lettersCommute", "(II)Z"⟩, prog_1_method_30_code, 3, (some .boolean), 11, 5, 99, 2)
def F_Mr_read : Fn := (⟨"MonoidRules", "read", "()I"⟩, prog_1_method_3_code, 2, (some .int), 11, 5, 99, 0)
def F_Mr_reduce : Fn := (⟨"MonoidRules", "reduce", "(I)I"⟩, prog_1_method_18_code, 2, (some .int), 11, 5, 99, 1)
def F_Mr_same : Fn := (⟨"MonoidRules", "same", "(II)I"⟩, prog_1_method_20_code, 3, (some .int), 11, 5, 99, 2)
def F_Completion_renewRights : Fn := (⟨"MonoidRules$Completion", "renewRights", "(I)Z"⟩, prog_2_method_8_code, 4, (some .boolean), 0, 6, 121, 1)
def F_Elements_spell : Fn := (⟨"MonoidRules$Elements", "spell", "(ILMonoidRules$Word;)I"⟩, prog_3_method_5_code, 8, (some .int), 1, 6, 115, 2)
def F_Finder_tryAll : Fn := (⟨"MonoidRules$Finder", "tryAll", "()I"⟩, prog_4_method_5_code, 4, (some .int), 2, 6, 125, 0)
def F_Md_inverse : Fn := (⟨"MonoidRulesModel", "inverse", "(I)I"⟩, prog_14_method_65_code, 4, (some .int), 12, 6, 128, 1)
def F_Md_power : Fn := (⟨"MonoidRulesModel", "power", "(II)I"⟩, prog_14_method_64_code, 5, (some .int), 12, 6, 128, 2)
def F_Md_product : Fn := (⟨"MonoidRulesModel", "product", "(II)I"⟩, prog_14_method_63_code, 3, (some .int), 12, 6, 128, 2)
def F_Md_treat : Fn := (⟨"MonoidRulesModel", "treat", "()V"⟩, prog_14_method_30_code, 6, none, 12, 6, 123, 0)
def F_Mr_commutes : Fn := (⟨"MonoidRules", "commutes", "()I"⟩, prog_1_method_29_code, 3, (some .int), 11, 6, 121, 0)
def F_Mr_formNumber : Fn := (⟨"MonoidRules", "formNumber", "(LMonoidRules$Word;)I"⟩, prog_1_method_32_code, 4, (some .int), 11, 6, 121, 1)
def F_Mr_many : Fn := (⟨"MonoidRules", "many", "(I)J"⟩, prog_1_method_22_code, 4, (some .long), 11, 6, 115, 1)
def F_Mr_size : Fn := (⟨"MonoidRules", "size", "()J"⟩, prog_1_method_23_code, 1, (some .long), 11, 6, 113, 0)
def F_Completion_treat : Fn := (⟨"MonoidRules$Completion", "treat", "()V"⟩, prog_2_method_5_code, 4, none, 0, 7, 144, 0)
def F_Finder_find : Fn := (⟨"MonoidRules$Finder", "find", "()I"⟩, prog_4_method_4_code, 1, (some .int), 2, 7, 148, 0)
def F_Md_complete : Fn := (⟨"MonoidRulesModel", "complete", "(I)I"⟩, prog_14_method_31_code, 3, (some .int), 12, 7, 148, 1)
def F_Mr_element : Fn := (⟨"MonoidRules", "element", "(II)I"⟩, prog_1_method_24_code, 4, (some .int), 11, 7, 142, 2)
def F_Mr_multiply : Fn := (⟨"MonoidRules", "multiply", "(LMonoidRules$Word;LMonoidRules$Word;)I"⟩, prog_1_method_31_code, 3, (some .int), 11, 7, 144, 2)
def F_Mr_number : Fn := (⟨"MonoidRules", "number", "(I)I"⟩, prog_1_method_25_code, 2, (some .int), 11, 7, 144, 1)
def F_Mr_complete : Fn := (⟨"MonoidRules", "complete", "(I)I"⟩, prog_1_method_8_code, 3, (some .int), 11, 8, 167, 1)
def F_Mr_inverse : Fn := (⟨"MonoidRules", "inverse", "(I)I"⟩, prog_1_method_28_code, 6, (some .int), 11, 8, 166, 1)
def F_Mr_open : Fn := (⟨"MonoidRules", "open", "()I"⟩, prog_1_method_13_code, 1, (some .int), 11, 8, 168, 0)
def F_Mr_power : Fn := (⟨"MonoidRules", "power", "(II)I"⟩, prog_1_method_27_code, 6, (some .int), 11, 8, 166, 2)
def F_Mr_product : Fn := (⟨"MonoidRules", "product", "(II)I"⟩, prog_1_method_26_code, 5, (some .int), 11, 8, 166, 2)
def F_Law_law : Fn := (⟨"MonoidRulesLaw", "law", "([I)Z"⟩, code, 4, (some .boolean), 13, 9, 191, 1)
/-- what is known of a method -/
def Fok (f : Fn) : Prop := plainName (fnY f).cls = true ∧ Cond.code (fnY f) (fnB f) (fnL f) (fnR f) ∈ ALL ∧ (fnY f).cls = cN (fnC f) ∧ 1 ≤ fnK f ∧ ((fnY f).cls ≠ "java/lang/invoke/MethodHandle" ∧ (fnY f).cls ≠ "java/lang/invoke/VarHandle" ∧ (parseMethodDescriptor (fnY f).desc).map (fun d => d.parameters.length) = some (fnP f)) ∧ Cond.initialized (fnY f).cls ∈ ALL
set_option maxRecDepth 100000 in
theorem ok_F_Completion_begin : Fok F_Completion_begin := ⟨by decide, (inA 582 rfl rfl), rfl, by decide, ⟨by decide, by decide, by decide +kernel⟩, (inA 74 rfl rfl)⟩
set_option maxRecDepth 100000 in
theorem ok_F_Completion_canTreat : Fok F_Completion_canTreat := ⟨by decide, (inA 617 rfl rfl), rfl, by decide, ⟨by decide, by decide, by decide +kernel⟩, (inA 74 rfl rfl)⟩
set_option maxRecDepth 100000 in
theorem ok_F_Completion_isDone : Fok F_Completion_isDone := ⟨by decide, (inA 759 rfl rfl), rfl, by decide, ⟨by decide, by decide, by decide +kernel⟩, (inA 74 rfl rfl)⟩
set_option maxRecDepth 100000 in
theorem ok_F_Elements_begin : Fok F_Elements_begin := ⟨by decide, (inA 590 rfl rfl), rfl, by decide, ⟨by decide, by decide, by decide +kernel⟩, (inA 76 rfl rfl)⟩
set_option maxRecDepth 100000 in
theorem ok_F_Elements_capped : Fok F_Elements_capped := ⟨by decide, (inA 883 rfl rfl), rfl, by decide, ⟨by decide, by decide, by decide +kernel⟩, (inA 76 rfl rfl)⟩
set_option maxRecDepth 100000 in
theorem ok_F_Elements_init : Fok F_Elements_init := ⟨by decide, (inA 390 rfl rfl), rfl, by decide, ⟨by decide, by decide, by decide +kernel⟩, (inA 76 rfl rfl)⟩
set_option maxRecDepth 100000 in
theorem ok_F_Elements_makeQueue : Fok F_Elements_makeQueue := ⟨by decide, (inA 899 rfl rfl), rfl, by decide, ⟨by decide, by decide, by decide +kernel⟩, (inA 76 rfl rfl)⟩
set_option maxRecDepth 100000 in
theorem ok_F_Elements_waysOn : Fok F_Elements_waysOn := ⟨by decide, (inA 876 rfl rfl), rfl, by decide, ⟨by decide, by decide, by decide +kernel⟩, (inA 76 rfl rfl)⟩
set_option maxRecDepth 100000 in
theorem ok_F_Finder_begin : Fok F_Finder_begin := ⟨by decide, (inA 586 rfl rfl), rfl, by decide, ⟨by decide, by decide, by decide +kernel⟩, (inA 75 rfl rfl)⟩
set_option maxRecDepth 100000 in
theorem ok_F_Finder_forgetAnswer : Fok F_Finder_forgetAnswer := ⟨by decide, (inA 755 rfl rfl), rfl, by decide, ⟨by decide, by decide, by decide +kernel⟩, (inA 75 rfl rfl)⟩
set_option maxRecDepth 100000 in
theorem ok_F_Machine_after : Fok F_Machine_after := ⟨by decide, (inA 661 rfl rfl), rfl, by decide, ⟨by decide, by decide, by decide +kernel⟩, (inA 72 rfl rfl)⟩
set_option maxRecDepth 100000 in
theorem ok_F_Machine_clear : Fok F_Machine_clear := ⟨by decide, (inA 649 rfl rfl), rfl, by decide, ⟨by decide, by decide, by decide +kernel⟩, (inA 72 rfl rfl)⟩
set_option maxRecDepth 100000 in
theorem ok_F_Machine_init : Fok F_Machine_init := ⟨by decide, (inA 246 rfl rfl), rfl, by decide, ⟨by decide, by decide, by decide +kernel⟩, (inA 72 rfl rfl)⟩
set_option maxRecDepth 100000 in
theorem ok_F_Machine_leastRule : Fok F_Machine_leastRule := ⟨by decide, (inA 664 rfl rfl), rfl, by decide, ⟨by decide, by decide, by decide +kernel⟩, (inA 72 rfl rfl)⟩
set_option maxRecDepth 100000 in
theorem ok_F_Machine_ruleAt : Fok F_Machine_ruleAt := ⟨by decide, (inA 672 rfl rfl), rfl, by decide, ⟨by decide, by decide, by decide +kernel⟩, (inA 72 rfl rfl)⟩
set_option maxRecDepth 100000 in
theorem ok_F_Md_bad : Fok F_Md_bad := ⟨by decide, (inA 1000 rfl rfl), rfl, by decide, ⟨by decide, by decide, by decide +kernel⟩, (inA 77 rfl rfl)⟩
set_option maxRecDepth 100000 in
theorem ok_F_Md_begin : Fok F_Md_begin := ⟨by decide, (inA 985 rfl rfl), rfl, by decide, ⟨by decide, by decide, by decide +kernel⟩, (inA 77 rfl rfl)⟩
set_option maxRecDepth 100000 in
theorem ok_F_Md_ends : Fok F_Md_ends := ⟨by decide, (inA 1227 rfl rfl), rfl, by decide, ⟨by decide, by decide, by decide +kernel⟩, (inA 77 rfl rfl)⟩
set_option maxRecDepth 100000 in
theorem ok_F_Md_fault : Fok F_Md_fault := ⟨by decide, (inA 1016 rfl rfl), rfl, by decide, ⟨by decide, by decide, by decide +kernel⟩, (inA 77 rfl rfl)⟩
set_option maxRecDepth 100000 in
theorem ok_F_Md_faulty : Fok F_Md_faulty := ⟨by decide, (inA 1012 rfl rfl), rfl, by decide, ⟨by decide, by decide, by decide +kernel⟩, (inA 77 rfl rfl)⟩
set_option maxRecDepth 100000 in
theorem ok_F_Md_greater : Fok F_Md_greater := ⟨by decide, (inA 1230 rfl rfl), rfl, by decide, ⟨by decide, by decide, by decide +kernel⟩, (inA 77 rfl rfl)⟩
set_option maxRecDepth 100000 in
theorem ok_F_Md_here : Fok F_Md_here := ⟨by decide, (inA 993 rfl rfl), rfl, by decide, ⟨by decide, by decide, by decide +kernel⟩, (inA 77 rfl rfl)⟩
set_option maxRecDepth 100000 in
theorem ok_F_Md_in : Fok F_Md_in := ⟨by decide, (inA 975 rfl rfl), rfl, by decide, ⟨by decide, by decide, by decide +kernel⟩, (inA 77 rfl rfl)⟩
set_option maxRecDepth 100000 in
theorem ok_F_Md_init : Fok F_Md_init := ⟨by decide, (inA 1028 rfl rfl), rfl, by decide, ⟨by decide, by decide, by decide +kernel⟩, (inA 77 rfl rfl)⟩
set_option maxRecDepth 100000 in
theorem ok_F_Md_isComplete : Fok F_Md_isComplete := ⟨by decide, (inA 1270 rfl rfl), rfl, by decide, ⟨by decide, by decide, by decide +kernel⟩, (inA 77 rfl rfl)⟩
set_option maxRecDepth 100000 in
theorem ok_F_Md_isLetter : Fok F_Md_isLetter := ⟨by decide, (inA 996 rfl rfl), rfl, by decide, ⟨by decide, by decide, by decide +kernel⟩, (inA 77 rfl rfl)⟩
set_option maxRecDepth 100000 in
theorem ok_F_Md_live : Fok F_Md_live := ⟨by decide, (inA 1266 rfl rfl), rfl, by decide, ⟨by decide, by decide, by decide +kernel⟩, (inA 77 rfl rfl)⟩
set_option maxRecDepth 100000 in
theorem ok_F_Md_node : Fok F_Md_node := ⟨by decide, (inA 1350 rfl rfl), rfl, by decide, ⟨by decide, by decide, by decide +kernel⟩, (inA 77 rfl rfl)⟩
set_option maxRecDepth 100000 in
theorem ok_F_Md_overlaps : Fok F_Md_overlaps := ⟨by decide, (inA 1258 rfl rfl), rfl, by decide, ⟨by decide, by decide, by decide +kernel⟩, (inA 77 rfl rfl)⟩
set_option maxRecDepth 100000 in
theorem ok_F_Md_standsIn : Fok F_Md_standsIn := ⟨by decide, (inA 1242 rfl rfl), rfl, by decide, ⟨by decide, by decide, by decide +kernel⟩, (inA 77 rfl rfl)⟩
set_option maxRecDepth 100000 in
theorem ok_F_Md_sum : Fok F_Md_sum := ⟨by decide, (inA 1357 rfl rfl), rfl, by decide, ⟨by decide, by decide, by decide +kernel⟩, (inA 77 rfl rfl)⟩
set_option maxRecDepth 100000 in
theorem ok_F_Md_takeOne : Fok F_Md_takeOne := ⟨by decide, (inA 1311 rfl rfl), rfl, by decide, ⟨by decide, by decide, by decide +kernel⟩, (inA 77 rfl rfl)⟩
set_option maxRecDepth 100000 in
theorem ok_F_Md_toSlot : Fok F_Md_toSlot := ⟨by decide, (inA 1315 rfl rfl), rfl, by decide, ⟨by decide, by decide, by decide +kernel⟩, (inA 77 rfl rfl)⟩
set_option maxRecDepth 100000 in
theorem ok_F_Md_waits : Fok F_Md_waits := ⟨by decide, (inA 1246 rfl rfl), rfl, by decide, ⟨by decide, by decide, by decide +kernel⟩, (inA 77 rfl rfl)⟩
set_option maxRecDepth 100000 in
theorem ok_F_Mr_earlierPower : Fok F_Mr_earlierPower := ⟨by decide, (inA 954 rfl rfl), rfl, by decide, ⟨by decide, by decide, by decide +kernel⟩, (inA 65 rfl rfl)⟩
set_option maxRecDepth 100000 in
theorem ok_F_Mr_fault : Fok F_Mr_fault := ⟨by decide, (inA 609 rfl rfl), rfl, by decide, ⟨by decide, by decide, by decide +kernel⟩, (inA 65 rfl rfl)⟩
set_option maxRecDepth 100000 in
theorem ok_F_Mr_feed : Fok F_Mr_feed := ⟨by decide, (inA 486 rfl rfl), rfl, by decide, ⟨by decide, by decide, by decide +kernel⟩, (inA 65 rfl rfl)⟩
set_option maxRecDepth 100000 in
theorem ok_F_Mr_isSide : Fok F_Mr_isSide := ⟨by decide, (inA 779 rfl rfl), rfl, by decide, ⟨by decide, by decide, by decide +kernel⟩, (inA 65 rfl rfl)⟩
set_option maxRecDepth 100000 in
theorem ok_F_Mr_isSlot : Fok F_Mr_isSlot := ⟨by decide, (inA 597 rfl rfl), rfl, by decide, ⟨by decide, by decide, by decide +kernel⟩, (inA 65 rfl rfl)⟩
set_option maxRecDepth 100000 in
theorem ok_F_Mr_overlap : Fok F_Mr_overlap := ⟨by decide, (inA 817 rfl rfl), rfl, by decide, ⟨by decide, by decide, by decide +kernel⟩, (inA 65 rfl rfl)⟩
set_option maxRecDepth 100000 in
theorem ok_F_Mr_step : Fok F_Mr_step := ⟨by decide, (inA 840 rfl rfl), rfl, by decide, ⟨by decide, by decide, by decide +kernel⟩, (inA 65 rfl rfl)⟩
set_option maxRecDepth 100000 in
theorem ok_F_Mr_tellFault : Fok F_Mr_tellFault := ⟨by decide, (inA 532 rfl rfl), rfl, by decide, ⟨by decide, by decide, by decide +kernel⟩, (inA 65 rfl rfl)⟩
set_option maxRecDepth 100000 in
theorem ok_F_Presentation_endWord : Fok F_Presentation_endWord := ⟨by decide, (inA 528 rfl rfl), rfl, by decide, ⟨by decide, by decide, by decide +kernel⟩, (inA 66 rfl rfl)⟩
set_option maxRecDepth 100000 in
theorem ok_F_Presentation_isLetter : Fok F_Presentation_isLetter := ⟨by decide, (inA 512 rfl rfl), rfl, by decide, ⟨by decide, by decide, by decide +kernel⟩, (inA 66 rfl rfl)⟩
set_option maxRecDepth 100000 in
theorem ok_F_Presentation_isPassedOver : Fok F_Presentation_isPassedOver := ⟨by decide, (inA 505 rfl rfl), rfl, by decide, ⟨by decide, by decide, by decide +kernel⟩, (inA 66 rfl rfl)⟩
set_option maxRecDepth 100000 in
theorem ok_F_Reducer_init : Fok F_Reducer_init := ⟨by decide, (inA 276 rfl rfl), rfl, by decide, ⟨by decide, by decide, by decide +kernel⟩, (inA 73 rfl rfl)⟩
set_option maxRecDepth 100000 in
theorem ok_F_Reducer_note : Fok F_Reducer_note := ⟨by decide, (inA 688 rfl rfl), rfl, by decide, ⟨by decide, by decide, by decide +kernel⟩, (inA 73 rfl rfl)⟩
set_option maxRecDepth 100000 in
theorem ok_F_Reducer_putBack : Fok F_Reducer_putBack := ⟨by decide, (inA 676 rfl rfl), rfl, by decide, ⟨by decide, by decide, by decide +kernel⟩, (inA 73 rfl rfl)⟩
set_option maxRecDepth 100000 in
theorem ok_F_Row_at : Fok F_Row_at := ⟨by decide, (inA 629 rfl rfl), rfl, by decide, ⟨by decide, by decide, by decide +kernel⟩, (inA 71 rfl rfl)⟩
set_option maxRecDepth 100000 in
theorem ok_F_Row_clear : Fok F_Row_clear := ⟨by decide, (inA 548 rfl rfl), rfl, by decide, ⟨by decide, by decide, by decide +kernel⟩, (inA 71 rfl rfl)⟩
set_option maxRecDepth 100000 in
theorem ok_F_Row_init : Fok F_Row_init := ⟨by decide, (inA 226 rfl rfl), rfl, by decide, ⟨by decide, by decide, by decide +kernel⟩, (inA 71 rfl rfl)⟩
set_option maxRecDepth 100000 in
theorem ok_F_Rule_mostShared : Fok F_Rule_mostShared := ⟨by decide, (inA 738 rfl rfl), rfl, by decide, ⟨by decide, by decide, by decide +kernel⟩, (inA 70 rfl rfl)⟩
set_option maxRecDepth 100000 in
theorem ok_F_Rules_begin : Fok F_Rules_begin := ⟨by decide, (inA 544 rfl rfl), rfl, by decide, ⟨by decide, by decide, by decide +kernel⟩, (inA 69 rfl rfl)⟩
set_option maxRecDepth 100000 in
theorem ok_F_Rules_has : Fok F_Rules_has := ⟨by decide, (inA 683 rfl rfl), rfl, by decide, ⟨by decide, by decide, by decide +kernel⟩, (inA 69 rfl rfl)⟩
set_option maxRecDepth 100000 in
theorem ok_F_Rules_lettersOfLefts : Fok F_Rules_lettersOfLefts := ⟨by decide, (inA 645 rfl rfl), rfl, by decide, ⟨by decide, by decide, by decide +kernel⟩, (inA 69 rfl rfl)⟩
set_option maxRecDepth 100000 in
theorem ok_F_Rules_liveOnes : Fok F_Rules_liveOnes := ⟨by decide, (inA 767 rfl rfl), rfl, by decide, ⟨by decide, by decide, by decide +kernel⟩, (inA 69 rfl rfl)⟩
set_option maxRecDepth 100000 in
theorem ok_F_Word_add : Fok F_Word_add := ⟨by decide, (inA 524 rfl rfl), rfl, by decide, ⟨by decide, by decide, by decide +kernel⟩, (inA 67 rfl rfl)⟩
set_option maxRecDepth 100000 in
theorem ok_F_Word_against : Fok F_Word_against := ⟨by decide, (inA 698 rfl rfl), rfl, by decide, ⟨by decide, by decide, by decide +kernel⟩, (inA 67 rfl rfl)⟩
set_option maxRecDepth 100000 in
theorem ok_F_Word_append : Fok F_Word_append := ⟨by decide, (inA 578 rfl rfl), rfl, by decide, ⟨by decide, by decide, by decide +kernel⟩, (inA 67 rfl rfl)⟩
set_option maxRecDepth 100000 in
theorem ok_F_Word_at : Fok F_Word_at := ⟨by decide, (inA 783 rfl rfl), rfl, by decide, ⟨by decide, by decide, by decide +kernel⟩, (inA 67 rfl rfl)⟩
set_option maxRecDepth 100000 in
theorem ok_F_Word_become : Fok F_Word_become := ⟨by decide, (inA 605 rfl rfl), rfl, by decide, ⟨by decide, by decide, by decide +kernel⟩, (inA 67 rfl rfl)⟩
set_option maxRecDepth 100000 in
theorem ok_F_Word_clear : Fok F_Word_clear := ⟨by decide, (inA 502 rfl rfl), rfl, by decide, ⟨by decide, by decide, by decide +kernel⟩, (inA 67 rfl rfl)⟩
set_option maxRecDepth 100000 in
theorem ok_F_Word_init : Fok F_Word_init := ⟨by decide, (inA 98 rfl rfl), rfl, by decide, ⟨by decide, by decide, by decide +kernel⟩, (inA 67 rfl rfl)⟩
set_option maxRecDepth 100000 in
theorem ok_F_Word_matches : Fok F_Word_matches := ⟨by decide, (inA 715 rfl rfl), rfl, by decide, ⟨by decide, by decide, by decide +kernel⟩, (inA 67 rfl rfl)⟩
set_option maxRecDepth 100000 in
theorem ok_F_Completion_init : Fok F_Completion_init := ⟨by decide, (inA 311 rfl rfl), rfl, by decide, ⟨by decide, by decide, by decide +kernel⟩, (inA 74 rfl rfl)⟩
set_option maxRecDepth 100000 in
theorem ok_F_Elements_spellOfLength : Fok F_Elements_spellOfLength := ⟨by decide, (inA 922 rfl rfl), rfl, by decide, ⟨by decide, by decide, by decide +kernel⟩, (inA 76 rfl rfl)⟩
set_option maxRecDepth 100000 in
theorem ok_F_Finder_init : Fok F_Finder_init := ⟨by decide, (inA 347 rfl rfl), rfl, by decide, ⟨by decide, by decide, by decide +kernel⟩, (inA 75 rfl rfl)⟩
set_option maxRecDepth 100000 in
theorem ok_F_Machine_insert : Fok F_Machine_insert := ⟨by decide, (inA 657 rfl rfl), rfl, by decide, ⟨by decide, by decide, by decide +kernel⟩, (inA 72 rfl rfl)⟩
set_option maxRecDepth 100000 in
theorem ok_F_Machine_isReducible : Fok F_Machine_isReducible := ⟨by decide, (inA 880 rfl rfl), rfl, by decide, ⟨by decide, by decide, by decide +kernel⟩, (inA 72 rfl rfl)⟩
set_option maxRecDepth 100000 in
theorem ok_F_Machine_link : Fok F_Machine_link := ⟨by decide, (inA 668 rfl rfl), rfl, by decide, ⟨by decide, by decide, by decide +kernel⟩, (inA 72 rfl rfl)⟩
set_option maxRecDepth 100000 in
theorem ok_F_Md_count : Fok F_Md_count := ⟨by decide, (inA 1262 rfl rfl), rfl, by decide, ⟨by decide, by decide, by decide +kernel⟩, (inA 77 rfl rfl)⟩
set_option maxRecDepth 100000 in
theorem ok_F_Md_countAll : Fok F_Md_countAll := ⟨by decide, (inA 1363 rfl rfl), rfl, by decide, ⟨by decide, by decide, by decide +kernel⟩, (inA 77 rfl rfl)⟩
set_option maxRecDepth 100000 in
theorem ok_F_Md_countWays : Fok F_Md_countWays := ⟨by decide, (inA 1354 rfl rfl), rfl, by decide, ⟨by decide, by decide, by decide +kernel⟩, (inA 77 rfl rfl)⟩
set_option maxRecDepth 100000 in
theorem ok_F_Md_dropOlder : Fok F_Md_dropOlder := ⟨by decide, (inA 1238 rfl rfl), rfl, by decide, ⟨by decide, by decide, by decide +kernel⟩, (inA 77 rfl rfl)⟩
set_option maxRecDepth 100000 in
theorem ok_F_Md_endsAt : Fok F_Md_endsAt := ⟨by decide, (inA 1223 rfl rfl), rfl, by decide, ⟨by decide, by decide, by decide +kernel⟩, (inA 77 rfl rfl)⟩
set_option maxRecDepth 100000 in
theorem ok_F_Md_feed : Fok F_Md_feed := ⟨by decide, (inA 971 rfl rfl), rfl, by decide, ⟨by decide, by decide, by decide +kernel⟩, (inA 77 rfl rfl)⟩
set_option maxRecDepth 100000 in
theorem ok_F_Md_isMade : Fok F_Md_isMade := ⟨by decide, (inA 1234 rfl rfl), rfl, by decide, ⟨by decide, by decide, by decide +kernel⟩, (inA 77 rfl rfl)⟩
set_option maxRecDepth 100000 in
theorem ok_F_Md_isRule : Fok F_Md_isRule := ⟨by decide, (inA 1278 rfl rfl), rfl, by decide, ⟨by decide, by decide, by decide +kernel⟩, (inA 77 rfl rfl)⟩
set_option maxRecDepth 100000 in
theorem ok_F_Md_isSlot : Fok F_Md_isSlot := ⟨by decide, (inA 1023 rfl rfl), rfl, by decide, ⟨by decide, by decide, by decide +kernel⟩, (inA 77 rfl rfl)⟩
set_option maxRecDepth 100000 in
theorem ok_F_Md_layTree : Fok F_Md_layTree := ⟨by decide, (inA 1346 rfl rfl), rfl, by decide, ⟨by decide, by decide, by decide +kernel⟩, (inA 77 rfl rfl)⟩
set_option maxRecDepth 100000 in
theorem ok_F_Md_overlap : Fok F_Md_overlap := ⟨by decide, (inA 1295 rfl rfl), rfl, by decide, ⟨by decide, by decide, by decide +kernel⟩, (inA 77 rfl rfl)⟩
set_option maxRecDepth 100000 in
theorem ok_F_Md_overlapAll : Fok F_Md_overlapAll := ⟨by decide, (inA 1254 rfl rfl), rfl, by decide, ⟨by decide, by decide, by decide +kernel⟩, (inA 77 rfl rfl)⟩
set_option maxRecDepth 100000 in
theorem ok_F_Md_readLetters : Fok F_Md_readLetters := ⟨by decide, (inA 989 rfl rfl), rfl, by decide, ⟨by decide, by decide, by decide +kernel⟩, (inA 77 rfl rfl)⟩
set_option maxRecDepth 100000 in
theorem ok_F_Md_readWord : Fok F_Md_readWord := ⟨by decide, (inA 1008 rfl rfl), rfl, by decide, ⟨by decide, by decide, by decide +kernel⟩, (inA 77 rfl rfl)⟩
set_option maxRecDepth 100000 in
theorem ok_F_Md_step : Fok F_Md_step := ⟨by decide, (inA 1323 rfl rfl), rfl, by decide, ⟨by decide, by decide, by decide +kernel⟩, (inA 77 rfl rfl)⟩
set_option maxRecDepth 100000 in
theorem ok_F_Md_waiting : Fok F_Md_waiting := ⟨by decide, (inA 1287 rfl rfl), rfl, by decide, ⟨by decide, by decide, by decide +kernel⟩, (inA 77 rfl rfl)⟩
set_option maxRecDepth 100000 in
theorem ok_F_Mr_compare : Fok F_Mr_compare := ⟨by decide, (inA 849 rfl rfl), rfl, by decide, ⟨by decide, by decide, by decide +kernel⟩, (inA 65 rfl rfl)⟩
set_option maxRecDepth 100000 in
theorem ok_F_Mr_count : Fok F_Mr_count := ⟨by decide, (inA 763 rfl rfl), rfl, by decide, ⟨by decide, by decide, by decide +kernel⟩, (inA 65 rfl rfl)⟩
set_option maxRecDepth 100000 in
theorem ok_F_Mr_join : Fok F_Mr_join := ⟨by decide, (inA 829 rfl rfl), rfl, by decide, ⟨by decide, by decide, by decide +kernel⟩, (inA 65 rfl rfl)⟩
set_option maxRecDepth 100000 in
theorem ok_F_Mr_length : Fok F_Mr_length := ⟨by decide, (inA 821 rfl rfl), rfl, by decide, ⟨by decide, by decide, by decide +kernel⟩, (inA 65 rfl rfl)⟩
set_option maxRecDepth 100000 in
theorem ok_F_Mr_letter : Fok F_Mr_letter := ⟨by decide, (inA 825 rfl rfl), rfl, by decide, ⟨by decide, by decide, by decide +kernel⟩, (inA 65 rfl rfl)⟩
set_option maxRecDepth 100000 in
theorem ok_F_Mr_rule : Fok F_Mr_rule := ⟨by decide, (inA 771 rfl rfl), rfl, by decide, ⟨by decide, by decide, by decide +kernel⟩, (inA 65 rfl rfl)⟩
set_option maxRecDepth 100000 in
theorem ok_F_Mr_ruleLetter : Fok F_Mr_ruleLetter := ⟨by decide, (inA 776 rfl rfl), rfl, by decide, ⟨by decide, by decide, by decide +kernel⟩, (inA 65 rfl rfl)⟩
set_option maxRecDepth 100000 in
theorem ok_F_Mr_waiting : Fok F_Mr_waiting := ⟨by decide, (inA 787 rfl rfl), rfl, by decide, ⟨by decide, by decide, by decide +kernel⟩, (inA 65 rfl rfl)⟩
set_option maxRecDepth 100000 in
theorem ok_F_Pair_init : Fok F_Pair_init := ⟨by decide, (inA 556 rfl rfl), rfl, by decide, ⟨by decide, by decide, by decide +kernel⟩, (inA 79 rfl rfl)⟩
set_option maxRecDepth 100000 in
theorem ok_F_Presentation_clear : Fok F_Presentation_clear := ⟨by decide, (inA 498 rfl rfl), rfl, by decide, ⟨by decide, by decide, by decide +kernel⟩, (inA 66 rfl rfl)⟩
set_option maxRecDepth 100000 in
theorem ok_F_Presentation_copyWord : Fok F_Presentation_copyWord := ⟨by decide, (inA 574 rfl rfl), rfl, by decide, ⟨by decide, by decide, by decide +kernel⟩, (inA 66 rfl rfl)⟩
set_option maxRecDepth 100000 in
theorem ok_F_Presentation_init : Fok F_Presentation_init := ⟨by decide, (inA 92 rfl rfl), rfl, by decide, ⟨by decide, by decide, by decide +kernel⟩, (inA 66 rfl rfl)⟩
set_option maxRecDepth 100000 in
theorem ok_F_Presentation_takeLetter : Fok F_Presentation_takeLetter := ⟨by decide, (inA 509 rfl rfl), rfl, by decide, ⟨by decide, by decide, by decide +kernel⟩, (inA 66 rfl rfl)⟩
set_option maxRecDepth 100000 in
theorem ok_F_Presentation_takeWordLetter : Fok F_Presentation_takeWordLetter := ⟨by decide, (inA 520 rfl rfl), rfl, by decide, ⟨by decide, by decide, by decide +kernel⟩, (inA 66 rfl rfl)⟩
set_option maxRecDepth 100000 in
theorem ok_F_Reducer_write : Fok F_Reducer_write := ⟨by decide, (inA 692 rfl rfl), rfl, by decide, ⟨by decide, by decide, by decide +kernel⟩, (inA 73 rfl rfl)⟩
set_option maxRecDepth 100000 in
theorem ok_F_Row_takeFirst : Fok F_Row_takeFirst := ⟨by decide, (inA 625 rfl rfl), rfl, by decide, ⟨by decide, by decide, by decide +kernel⟩, (inA 71 rfl rfl)⟩
set_option maxRecDepth 100000 in
theorem ok_F_Rule_init : Fok F_Rule_init := ⟨by decide, (inA 172 rfl rfl), rfl, by decide, ⟨by decide, by decide, by decide +kernel⟩, (inA 70 rfl rfl)⟩
set_option maxRecDepth 100000 in
theorem ok_F_Rule_overlaps : Fok F_Rule_overlaps := ⟨by decide, (inA 743 rfl rfl), rfl, by decide, ⟨by decide, by decide, by decide +kernel⟩, (inA 70 rfl rfl)⟩
set_option maxRecDepth 100000 in
theorem ok_F_Rule_spellOverlap : Fok F_Rule_spellOverlap := ⟨by decide, (inA 748 rfl rfl), rfl, by decide, ⟨by decide, by decide, by decide +kernel⟩, (inA 70 rfl rfl)⟩
set_option maxRecDepth 100000 in
theorem ok_F_Rules_drop : Fok F_Rules_drop := ⟨by decide, (inA 719 rfl rfl), rfl, by decide, ⟨by decide, by decide, by decide +kernel⟩, (inA 69 rfl rfl)⟩
set_option maxRecDepth 100000 in
theorem ok_F_Rules_isLive : Fok F_Rules_isLive := ⟨by decide, (inA 804 rfl rfl), rfl, by decide, ⟨by decide, by decide, by decide +kernel⟩, (inA 69 rfl rfl)⟩
set_option maxRecDepth 100000 in
theorem ok_F_Rules_make : Fok F_Rules_make := ⟨by decide, (inA 702 rfl rfl), rfl, by decide, ⟨by decide, by decide, by decide +kernel⟩, (inA 69 rfl rfl)⟩
set_option maxRecDepth 100000 in
theorem ok_F_Word_holds : Fok F_Word_holds := ⟨by decide, (inA 711 rfl rfl), rfl, by decide, ⟨by decide, by decide, by decide +kernel⟩, (inA 67 rfl rfl)⟩
set_option maxRecDepth 100000 in
theorem ok_F_Elements_countIncoming : Fok F_Elements_countIncoming := ⟨by decide, (inA 907 rfl rfl), rfl, by decide, ⟨by decide, by decide, by decide +kernel⟩, (inA 76 rfl rfl)⟩
set_option maxRecDepth 100000 in
theorem ok_F_Elements_countRow : Fok F_Elements_countRow := ⟨by decide, (inA 871 rfl rfl), rfl, by decide, ⟨by decide, by decide, by decide +kernel⟩, (inA 76 rfl rfl)⟩
set_option maxRecDepth 100000 in
theorem ok_F_Machine_renew : Fok F_Machine_renew := ⟨by decide, (inA 641 rfl rfl), rfl, by decide, ⟨by decide, by decide, by decide +kernel⟩, (inA 72 rfl rfl)⟩
set_option maxRecDepth 100000 in
theorem ok_F_Md_compare : Fok F_Md_compare := ⟨by decide, (inA 1331 rfl rfl), rfl, by decide, ⟨by decide, by decide, by decide +kernel⟩, (inA 77 rfl rfl)⟩
set_option maxRecDepth 100000 in
theorem ok_F_Md_counted : Fok F_Md_counted := ⟨by decide, (inA 1342 rfl rfl), rfl, by decide, ⟨by decide, by decide, by decide +kernel⟩, (inA 77 rfl rfl)⟩
set_option maxRecDepth 100000 in
theorem ok_F_Md_join : Fok F_Md_join := ⟨by decide, (inA 1307 rfl rfl), rfl, by decide, ⟨by decide, by decide, by decide +kernel⟩, (inA 77 rfl rfl)⟩
set_option maxRecDepth 100000 in
theorem ok_F_Md_length : Fok F_Md_length := ⟨by decide, (inA 1299 rfl rfl), rfl, by decide, ⟨by decide, by decide, by decide +kernel⟩, (inA 77 rfl rfl)⟩
set_option maxRecDepth 100000 in
theorem ok_F_Md_letter : Fok F_Md_letter := ⟨by decide, (inA 1303 rfl rfl), rfl, by decide, ⟨by decide, by decide, by decide +kernel⟩, (inA 77 rfl rfl)⟩
set_option maxRecDepth 100000 in
theorem ok_F_Md_readEquations : Fok F_Md_readEquations := ⟨by decide, (inA 1004 rfl rfl), rfl, by decide, ⟨by decide, by decide, by decide +kernel⟩, (inA 77 rfl rfl)⟩
set_option maxRecDepth 100000 in
theorem ok_F_Md_rule : Fok F_Md_rule := ⟨by decide, (inA 1274 rfl rfl), rfl, by decide, ⟨by decide, by decide, by decide +kernel⟩, (inA 77 rfl rfl)⟩
set_option maxRecDepth 100000 in
theorem ok_F_Md_ruleLetter : Fok F_Md_ruleLetter := ⟨by decide, (inA 1283 rfl rfl), rfl, by decide, ⟨by decide, by decide, by decide +kernel⟩, (inA 77 rfl rfl)⟩
set_option maxRecDepth 100000 in
theorem ok_F_Md_shrink : Fok F_Md_shrink := ⟨by decide, (inA 1219 rfl rfl), rfl, by decide, ⟨by decide, by decide, by decide +kernel⟩, (inA 77 rfl rfl)⟩
set_option maxRecDepth 100000 in
theorem ok_F_Md_word : Fok F_Md_word := ⟨by decide, (inA 1020 rfl rfl), rfl, by decide, ⟨by decide, by decide, by decide +kernel⟩, (inA 77 rfl rfl)⟩
set_option maxRecDepth 100000 in
theorem ok_F_Presentation_takeInWord : Fok F_Presentation_takeInWord := ⟨by decide, (inA 516 rfl rfl), rfl, by decide, ⟨by decide, by decide, by decide +kernel⟩, (inA 66 rfl rfl)⟩
set_option maxRecDepth 100000 in
theorem ok_F_Presentation_takeSlotWord : Fok F_Presentation_takeSlotWord := ⟨by decide, (inA 601 rfl rfl), rfl, by decide, ⟨by decide, by decide, by decide +kernel⟩, (inA 66 rfl rfl)⟩
set_option maxRecDepth 100000 in
theorem ok_F_Row_behind : Fok F_Row_behind := ⟨by decide, (inA 552 rfl rfl), rfl, by decide, ⟨by decide, by decide, by decide +kernel⟩, (inA 71 rfl rfl)⟩
set_option maxRecDepth 100000 in
theorem ok_F_Rules_init : Fok F_Rules_init := ⟨by decide, (inA 165 rfl rfl), rfl, by decide, ⟨by decide, by decide, by decide +kernel⟩, (inA 69 rfl rfl)⟩
set_option maxRecDepth 100000 in
theorem ok_F_Completion_dropOlder : Fok F_Completion_dropOlder := ⟨by decide, (inA 707 rfl rfl), rfl, by decide, ⟨by decide, by decide, by decide +kernel⟩, (inA 74 rfl rfl)⟩
set_option maxRecDepth 100000 in
theorem ok_F_Completion_pairOverlaps : Fok F_Completion_pairOverlaps := ⟨by decide, (inA 734 rfl rfl), rfl, by decide, ⟨by decide, by decide, by decide +kernel⟩, (inA 74 rfl rfl)⟩
set_option maxRecDepth 100000 in
theorem ok_F_Elements_countPaths : Fok F_Elements_countPaths := ⟨by decide, (inA 903 rfl rfl), rfl, by decide, ⟨by decide, by decide, by decide +kernel⟩, (inA 76 rfl rfl)⟩
set_option maxRecDepth 100000 in
theorem ok_F_Elements_countRows : Fok F_Elements_countRows := ⟨by decide, (inA 863 rfl rfl), rfl, by decide, ⟨by decide, by decide, by decide +kernel⟩, (inA 76 rfl rfl)⟩
set_option maxRecDepth 100000 in
theorem ok_F_Md_commutes : Fok F_Md_commutes := ⟨by decide, (inA 1411 rfl rfl), rfl, by decide, ⟨by decide, by decide, by decide +kernel⟩, (inA 77 rfl rfl)⟩
set_option maxRecDepth 100000 in
theorem ok_F_Md_form : Fok F_Md_form := ⟨by decide, (inA 1215 rfl rfl), rfl, by decide, ⟨by decide, by decide, by decide +kernel⟩, (inA 77 rfl rfl)⟩
set_option maxRecDepth 100000 in
theorem ok_F_Md_isElement : Fok F_Md_isElement := ⟨by decide, (inA 1378 rfl rfl), rfl, by decide, ⟨by decide, by decide, by decide +kernel⟩, (inA 77 rfl rfl)⟩
set_option maxRecDepth 100000 in
theorem ok_F_Md_layElement : Fok F_Md_layElement := ⟨by decide, (inA 1382 rfl rfl), rfl, by decide, ⟨by decide, by decide, by decide +kernel⟩, (inA 77 rfl rfl)⟩
set_option maxRecDepth 100000 in
theorem ok_F_Md_many : Fok F_Md_many := ⟨by decide, (inA 1335 rfl rfl), rfl, by decide, ⟨by decide, by decide, by decide +kernel⟩, (inA 77 rfl rfl)⟩
set_option maxRecDepth 100000 in
theorem ok_F_Md_numberOf : Fok F_Md_numberOf := ⟨by decide, (inA 1390 rfl rfl), rfl, by decide, ⟨by decide, by decide, by decide +kernel⟩, (inA 77 rfl rfl)⟩
set_option maxRecDepth 100000 in
theorem ok_F_Md_open : Fok F_Md_open := ⟨by decide, (inA 1291 rfl rfl), rfl, by decide, ⟨by decide, by decide, by decide +kernel⟩, (inA 77 rfl rfl)⟩
set_option maxRecDepth 100000 in
theorem ok_F_Md_read : Fok F_Md_read := ⟨by decide, (inA 980 rfl rfl), rfl, by decide, ⟨by decide, by decide, by decide +kernel⟩, (inA 77 rfl rfl)⟩
set_option maxRecDepth 100000 in
theorem ok_F_Md_reduce : Fok F_Md_reduce := ⟨by decide, (inA 1319 rfl rfl), rfl, by decide, ⟨by decide, by decide, by decide +kernel⟩, (inA 77 rfl rfl)⟩
set_option maxRecDepth 100000 in
theorem ok_F_Md_same : Fok F_Md_same := ⟨by decide, (inA 1327 rfl rfl), rfl, by decide, ⟨by decide, by decide, by decide +kernel⟩, (inA 77 rfl rfl)⟩
set_option maxRecDepth 100000 in
theorem ok_F_Md_size : Fok F_Md_size := ⟨by decide, (inA 1369 rfl rfl), rfl, by decide, ⟨by decide, by decide, by decide +kernel⟩, (inA 77 rfl rfl)⟩
set_option maxRecDepth 100000 in
theorem ok_F_Mr_beginSystem : Fok F_Mr_beginSystem := ⟨by decide, (inA 536 rfl rfl), rfl, by decide, ⟨by decide, by decide, by decide +kernel⟩, (inA 65 rfl rfl)⟩
set_option maxRecDepth 100000 in
theorem ok_F_Mr_init : Fok F_Mr_init := ⟨by decide, (inA 84 rfl rfl), rfl, by decide, ⟨by decide, by decide, by decide +kernel⟩, (inA 65 rfl rfl)⟩
set_option maxRecDepth 100000 in
theorem ok_F_Mr_word : Fok F_Mr_word := ⟨by decide, (inA 594 rfl rfl), rfl, by decide, ⟨by decide, by decide, by decide +kernel⟩, (inA 65 rfl rfl)⟩
set_option maxRecDepth 100000 in
theorem ok_F_Presentation_takeSystem : Fok F_Presentation_takeSystem := ⟨by decide, (inA 494 rfl rfl), rfl, by decide, ⟨by decide, by decide, by decide +kernel⟩, (inA 66 rfl rfl)⟩
set_option maxRecDepth 100000 in
theorem ok_F_Reducer_toForm : Fok F_Reducer_toForm := ⟨by decide, (inA 637 rfl rfl), rfl, by decide, ⟨by decide, by decide, by decide +kernel⟩, (inA 73 rfl rfl)⟩
set_option maxRecDepth 100000 in
theorem ok_F_Completion_pairAll : Fok F_Completion_pairAll := ⟨by decide, (inA 730 rfl rfl), rfl, by decide, ⟨by decide, by decide, by decide +kernel⟩, (inA 74 rfl rfl)⟩
set_option maxRecDepth 100000 in
theorem ok_F_Completion_takeForm : Fok F_Completion_takeForm := ⟨by decide, (inA 633 rfl rfl), rfl, by decide, ⟨by decide, by decide, by decide +kernel⟩, (inA 74 rfl rfl)⟩
set_option maxRecDepth 100000 in
theorem ok_F_Elements_ofLength : Fok F_Elements_ofLength := ⟨by decide, (inA 859 rfl rfl), rfl, by decide, ⟨by decide, by decide, by decide +kernel⟩, (inA 76 rfl rfl)⟩
set_option maxRecDepth 100000 in
theorem ok_F_Elements_rank : Fok F_Elements_rank := ⟨by decide, (inA 937 rfl rfl), rfl, by decide, ⟨by decide, by decide, by decide +kernel⟩, (inA 76 rfl rfl)⟩
set_option maxRecDepth 100000 in
theorem ok_F_Elements_total : Fok F_Elements_total := ⟨by decide, (inA 895 rfl rfl), rfl, by decide, ⟨by decide, by decide, by decide +kernel⟩, (inA 76 rfl rfl)⟩
set_option maxRecDepth 100000 in
theorem ok_F_Finder_tryTwo : Fok F_Finder_tryTwo := ⟨by decide, (inA 808 rfl rfl), rfl, by decide, ⟨by decide, by decide, by decide +kernel⟩, (inA 75 rfl rfl)⟩
set_option maxRecDepth 100000 in
theorem ok_F_Md_element : Fok F_Md_element := ⟨by decide, (inA 1374 rfl rfl), rfl, by decide, ⟨by decide, by decide, by decide +kernel⟩, (inA 77 rfl rfl)⟩
set_option maxRecDepth 100000 in
theorem ok_F_Md_number : Fok F_Md_number := ⟨by decide, (inA 1386 rfl rfl), rfl, by decide, ⟨by decide, by decide, by decide +kernel⟩, (inA 77 rfl rfl)⟩
set_option maxRecDepth 100000 in
theorem ok_F_Md_productOf : Fok F_Md_productOf := ⟨by decide, (inA 1399 rfl rfl), rfl, by decide, ⟨by decide, by decide, by decide +kernel⟩, (inA 77 rfl rfl)⟩
set_option maxRecDepth 100000 in
theorem ok_F_Md_shortenOlder : Fok F_Md_shortenOlder := ⟨by decide, (inA 1250 rfl rfl), rfl, by decide, ⟨by decide, by decide, by decide +kernel⟩, (inA 77 rfl rfl)⟩
set_option maxRecDepth 100000 in
theorem ok_F_Mr_lettersCommute : Fok F_Mr_lettersCommute := ⟨by decide, (inA 966 rfl rfl), rfl, by decide, ⟨by decide, by decide, by decide +kernel⟩, (inA 65 rfl rfl)⟩
set_option maxRecDepth 100000 in
theorem ok_F_Mr_read : Fok F_Mr_read := ⟨by decide, (inA 490 rfl rfl), rfl, by decide, ⟨by decide, by decide, by decide +kernel⟩, (inA 65 rfl rfl)⟩
set_option maxRecDepth 100000 in
theorem ok_F_Mr_reduce : Fok F_Mr_reduce := ⟨by decide, (inA 834 rfl rfl), rfl, by decide, ⟨by decide, by decide, by decide +kernel⟩, (inA 65 rfl rfl)⟩
set_option maxRecDepth 100000 in
theorem ok_F_Mr_same : Fok F_Mr_same := ⟨by decide, (inA 844 rfl rfl), rfl, by decide, ⟨by decide, by decide, by decide +kernel⟩, (inA 65 rfl rfl)⟩
set_option maxRecDepth 100000 in
theorem ok_F_Completion_renewRights : Fok F_Completion_renewRights := ⟨by decide, (inA 726 rfl rfl), rfl, by decide, ⟨by decide, by decide, by decide +kernel⟩, (inA 74 rfl rfl)⟩
set_option maxRecDepth 100000 in
theorem ok_F_Elements_spell : Fok F_Elements_spell := ⟨by decide, (inA 917 rfl rfl), rfl, by decide, ⟨by decide, by decide, by decide +kernel⟩, (inA 76 rfl rfl)⟩
set_option maxRecDepth 100000 in
theorem ok_F_Finder_tryAll : Fok F_Finder_tryAll := ⟨by decide, (inA 800 rfl rfl), rfl, by decide, ⟨by decide, by decide, by decide +kernel⟩, (inA 75 rfl rfl)⟩
set_option maxRecDepth 100000 in
theorem ok_F_Md_inverse : Fok F_Md_inverse := ⟨by decide, (inA 1407 rfl rfl), rfl, by decide, ⟨by decide, by decide, by decide +kernel⟩, (inA 77 rfl rfl)⟩
set_option maxRecDepth 100000 in
theorem ok_F_Md_power : Fok F_Md_power := ⟨by decide, (inA 1403 rfl rfl), rfl, by decide, ⟨by decide, by decide, by decide +kernel⟩, (inA 77 rfl rfl)⟩
set_option maxRecDepth 100000 in
theorem ok_F_Md_product : Fok F_Md_product := ⟨by decide, (inA 1395 rfl rfl), rfl, by decide, ⟨by decide, by decide, by decide +kernel⟩, (inA 77 rfl rfl)⟩
set_option maxRecDepth 100000 in
theorem ok_F_Md_treat : Fok F_Md_treat := ⟨by decide, (inA 1211 rfl rfl), rfl, by decide, ⟨by decide, by decide, by decide +kernel⟩, (inA 77 rfl rfl)⟩
set_option maxRecDepth 100000 in
theorem ok_F_Mr_commutes : Fok F_Mr_commutes := ⟨by decide, (inA 962 rfl rfl), rfl, by decide, ⟨by decide, by decide, by decide +kernel⟩, (inA 65 rfl rfl)⟩
set_option maxRecDepth 100000 in
theorem ok_F_Mr_formNumber : Fok F_Mr_formNumber := ⟨by decide, (inA 933 rfl rfl), rfl, by decide, ⟨by decide, by decide, by decide +kernel⟩, (inA 65 rfl rfl)⟩
set_option maxRecDepth 100000 in
theorem ok_F_Mr_many : Fok F_Mr_many := ⟨by decide, (inA 853 rfl rfl), rfl, by decide, ⟨by decide, by decide, by decide +kernel⟩, (inA 65 rfl rfl)⟩
set_option maxRecDepth 100000 in
theorem ok_F_Mr_size : Fok F_Mr_size := ⟨by decide, (inA 891 rfl rfl), rfl, by decide, ⟨by decide, by decide, by decide +kernel⟩, (inA 65 rfl rfl)⟩
set_option maxRecDepth 100000 in
theorem ok_F_Completion_treat : Fok F_Completion_treat := ⟨by decide, (inA 621 rfl rfl), rfl, by decide, ⟨by decide, by decide, by decide +kernel⟩, (inA 74 rfl rfl)⟩
set_option maxRecDepth 100000 in
theorem ok_F_Finder_find : Fok F_Finder_find := ⟨by decide, (inA 796 rfl rfl), rfl, by decide, ⟨by decide, by decide, by decide +kernel⟩, (inA 75 rfl rfl)⟩
set_option maxRecDepth 100000 in
theorem ok_F_Md_complete : Fok F_Md_complete := ⟨by decide, (inA 1206 rfl rfl), rfl, by decide, ⟨by decide, by decide, by decide +kernel⟩, (inA 77 rfl rfl)⟩
set_option maxRecDepth 100000 in
theorem ok_F_Mr_element : Fok F_Mr_element := ⟨by decide, (inA 913 rfl rfl), rfl, by decide, ⟨by decide, by decide, by decide +kernel⟩, (inA 65 rfl rfl)⟩
set_option maxRecDepth 100000 in
theorem ok_F_Mr_multiply : Fok F_Mr_multiply := ⟨by decide, (inA 946 rfl rfl), rfl, by decide, ⟨by decide, by decide, by decide +kernel⟩, (inA 65 rfl rfl)⟩
set_option maxRecDepth 100000 in
theorem ok_F_Mr_number : Fok F_Mr_number := ⟨by decide, (inA 929 rfl rfl), rfl, by decide, ⟨by decide, by decide, by decide +kernel⟩, (inA 65 rfl rfl)⟩
set_option maxRecDepth 100000 in
theorem ok_F_Mr_complete : Fok F_Mr_complete := ⟨by decide, (inA 613 rfl rfl), rfl, by decide, ⟨by decide, by decide, by decide +kernel⟩, (inA 65 rfl rfl)⟩
set_option maxRecDepth 100000 in
theorem ok_F_Mr_inverse : Fok F_Mr_inverse := ⟨by decide, (inA 958 rfl rfl), rfl, by decide, ⟨by decide, by decide, by decide +kernel⟩, (inA 65 rfl rfl)⟩
set_option maxRecDepth 100000 in
theorem ok_F_Mr_open : Fok F_Mr_open := ⟨by decide, (inA 792 rfl rfl), rfl, by decide, ⟨by decide, by decide, by decide +kernel⟩, (inA 65 rfl rfl)⟩
set_option maxRecDepth 100000 in
theorem ok_F_Mr_power : Fok F_Mr_power := ⟨by decide, (inA 950 rfl rfl), rfl, by decide, ⟨by decide, by decide, by decide +kernel⟩, (inA 65 rfl rfl)⟩
set_option maxRecDepth 100000 in
theorem ok_F_Mr_product : Fok F_Mr_product := ⟨by decide, (inA 942 rfl rfl), rfl, by decide, ⟨by decide, by decide, by decide +kernel⟩, (inA 65 rfl rfl)⟩
def FG (q : (Nat × Nat) × (Nat × Nat)) : Prop := ∃ r : vw_C, classes[q.2.1]? = some r ∧ q.2.2 < r.2.2 ∧ Cond.fieldLink (cN q.1.1) q.1.2 (r.2.1 q.2.2).1 (r.2.1 q.2.2).2.1 (r.2.1 q.2.2).2.2.1 ∈ ALL
def fT_0 : List ((Nat × Nat) × (Nat × Nat)) := [((0, 14), (0, 3)), ((0, 20), (0, 4)), ((0, 23), (0, 0)), ((0, 27), (0, 1)), ((0, 31), (0, 2)), ((0, 35), (0, 5)), ((0, 39), (0, 6)), ((0, 42), (0, 7)), ((0, 46), (7, 2)), ((0, 55), (4, 0)), ((0, 62), (4, 1)), ((0, 88), (6, 7)), ((0, 89), (9, 0)), ((0, 93), (8, 2)), ((0, 98), (8, 0)), ((0, 115), (8, 1)), ((1, 9), (1, 2)), ((1, 15), (1, 6)), ((1, 19), (1, 7)), ((1, 22), (1, 8)), ((1, 25), (1, 0)), ((1, 29), (1, 1)), ((1, 33), (1, 3)), ((1, 37), (1, 4))]
set_option maxRecDepth 100000 in
theorem fT_0_ok : ∀ q ∈ fT_0, FG q := (List.forall_mem_cons.mpr ⟨⟨_, rfl, (by decide), (inA 318 rfl rfl)⟩, (List.forall_mem_cons.mpr ⟨⟨_, rfl, (by decide), (inA 319 rfl rfl)⟩, (List.forall_mem_cons.mpr ⟨⟨_, rfl, (by decide), (inA 315 rfl rfl)⟩, (List.forall_mem_cons.mpr ⟨⟨_, rfl, (by decide), (inA 316 rfl rfl)⟩, (List.forall_mem_cons.mpr ⟨⟨_, rfl, (by decide), (inA 317 rfl rfl)⟩, (List.forall_mem_cons.mpr ⟨⟨_, rfl, (by decide), (inA 320 rfl rfl)⟩, (List.forall_mem_cons.mpr ⟨⟨_, rfl, (by decide), (inA 322 rfl rfl)⟩, (List.forall_mem_cons.mpr ⟨⟨_, rfl, (by decide), (inA 324 rfl rfl)⟩, (List.forall_mem_cons.mpr ⟨⟨_, rfl, (by decide), (inA 233 rfl rfl)⟩, (List.forall_mem_cons.mpr ⟨⟨_, rfl, (by decide), (inA 561 rfl rfl)⟩, (List.forall_mem_cons.mpr ⟨⟨_, rfl, (by decide), (inA 564 rfl rfl)⟩, (List.forall_mem_cons.mpr ⟨⟨_, rfl, (by decide), (inA 288 rfl rfl)⟩, (List.forall_mem_cons.mpr ⟨⟨_, rfl, (by decide), (inA 202 rfl rfl)⟩, (List.forall_mem_cons.mpr ⟨⟨_, rfl, (by decide), (inA 189 rfl rfl)⟩, (List.forall_mem_cons.mpr ⟨⟨_, rfl, (by decide), (inA 180 rfl rfl)⟩, (List.forall_mem_cons.mpr ⟨⟨_, rfl, (by decide), (inA 185 rfl rfl)⟩, (List.forall_mem_cons.mpr ⟨⟨_, rfl, (by decide), (inA 394 rfl rfl)⟩, (List.forall_mem_cons.mpr ⟨⟨_, rfl, (by decide), (inA 398 rfl rfl)⟩, (List.forall_mem_cons.mpr ⟨⟨_, rfl, (by decide), (inA 399 rfl rfl)⟩, (List.forall_mem_cons.mpr ⟨⟨_, rfl, (by decide), (inA 400 rfl rfl)⟩, (List.forall_mem_cons.mpr ⟨⟨_, rfl, (by decide), (inA 392 rfl rfl)⟩, (List.forall_mem_cons.mpr ⟨⟨_, rfl, (by decide), (inA 393 rfl rfl)⟩, (List.forall_mem_cons.mpr ⟨⟨_, rfl, (by decide), (inA 395 rfl rfl)⟩, (List.forall_mem_cons.mpr ⟨⟨_, rfl, (by decide), (inA 396 rfl rfl)⟩, (fun _ h => absurd h List.not_mem_nil)⟩)⟩)⟩)⟩)⟩)⟩)⟩)⟩)⟩)⟩)⟩)⟩)⟩)⟩)⟩)⟩)⟩)⟩)⟩)⟩)⟩)⟩)⟩)⟩)
def fT_1 : List ((Nat × Nat) × (Nat × Nat)) := [((1, 62), (1, 5)), ((1, 76), (10, 1)), ((1, 81), (10, 0)), ((1, 92), (3, 6)), ((1, 98), (3, 5)), ((2, 14), (2, 2)), ((2, 20), (2, 3)), ((2, 23), (2, 0)), ((2, 27), (2, 1)), ((2, 31), (2, 4)), ((2, 35), (2, 6)), ((2, 42), (2, 5)), ((2, 46), (9, 1)), ((2, 59), (9, 0)), ((2, 87), (2, 7)), ((2, 90), (2, 8)), ((2, 93), (2, 9)), ((3, 9), (3, 0)), ((3, 15), (3, 1)), ((3, 19), (3, 2)), ((3, 22), (3, 3)), ((3, 25), (3, 4)), ((3, 28), (9, 3)), ((3, 34), (9, 2))]
set_option maxRecDepth 100000 in
theorem fT_1_ok : ∀ q ∈ fT_1, FG q := (List.forall_mem_cons.mpr ⟨⟨_, rfl, (by decide), (inA 397 rfl rfl)⟩, (List.forall_mem_cons.mpr ⟨⟨_, rfl, (by decide), (inA 111 rfl rfl)⟩, (List.forall_mem_cons.mpr ⟨⟨_, rfl, (by decide), (inA 105 rfl rfl)⟩, (List.forall_mem_cons.mpr ⟨⟨_, rfl, (by decide), (inA 256 rfl rfl)⟩, (List.forall_mem_cons.mpr ⟨⟨_, rfl, (by decide), (inA 254 rfl rfl)⟩, (List.forall_mem_cons.mpr ⟨⟨_, rfl, (by decide), (inA 353 rfl rfl)⟩, (List.forall_mem_cons.mpr ⟨⟨_, rfl, (by decide), (inA 354 rfl rfl)⟩, (List.forall_mem_cons.mpr ⟨⟨_, rfl, (by decide), (inA 351 rfl rfl)⟩, (List.forall_mem_cons.mpr ⟨⟨_, rfl, (by decide), (inA 352 rfl rfl)⟩, (List.forall_mem_cons.mpr ⟨⟨_, rfl, (by decide), (inA 355 rfl rfl)⟩, (List.forall_mem_cons.mpr ⟨⟨_, rfl, (by decide), (inA 357 rfl rfl)⟩, (List.forall_mem_cons.mpr ⟨⟨_, rfl, (by decide), (inA 356 rfl rfl)⟩, (List.forall_mem_cons.mpr ⟨⟨_, rfl, (by decide), (inA 206 rfl rfl)⟩, (List.forall_mem_cons.mpr ⟨⟨_, rfl, (by decide), (inA 201 rfl rfl)⟩, (List.forall_mem_cons.mpr ⟨⟨_, rfl, (by decide), (inA 359 rfl rfl)⟩, (List.forall_mem_cons.mpr ⟨⟨_, rfl, (by decide), (inA 361 rfl rfl)⟩, (List.forall_mem_cons.mpr ⟨⟨_, rfl, (by decide), (inA 363 rfl rfl)⟩, (List.forall_mem_cons.mpr ⟨⟨_, rfl, (by decide), (inA 248 rfl rfl)⟩, (List.forall_mem_cons.mpr ⟨⟨_, rfl, (by decide), (inA 249 rfl rfl)⟩, (List.forall_mem_cons.mpr ⟨⟨_, rfl, (by decide), (inA 250 rfl rfl)⟩, (List.forall_mem_cons.mpr ⟨⟨_, rfl, (by decide), (inA 251 rfl rfl)⟩, (List.forall_mem_cons.mpr ⟨⟨_, rfl, (by decide), (inA 252 rfl rfl)⟩, (List.forall_mem_cons.mpr ⟨⟨_, rfl, (by decide), (inA 212 rfl rfl)⟩, (List.forall_mem_cons.mpr ⟨⟨_, rfl, (by decide), (inA 209 rfl rfl)⟩, (fun _ h => absurd h List.not_mem_nil)⟩)⟩)⟩)⟩)⟩)⟩)⟩)⟩)⟩)⟩)⟩)⟩)⟩)⟩)⟩)⟩)⟩)⟩)⟩)⟩)⟩)⟩)⟩)⟩)
def fT_2 : List ((Nat × Nat) × (Nat × Nat)) := [((3, 37), (3, 6)), ((3, 46), (9, 1)), ((3, 49), (9, 0)), ((3, 53), (8, 2)), ((3, 58), (8, 0)), ((3, 82), (3, 5)), ((3, 85), (10, 1)), ((3, 90), (10, 0)), ((4, 14), (4, 0)), ((4, 20), (4, 1)), ((5, 9), (5, 0)), ((5, 20), (5, 3)), ((5, 24), (5, 4)), ((5, 30), (5, 8)), ((5, 38), (5, 9)), ((5, 41), (5, 7)), ((5, 51), (5, 6)), ((5, 62), (5, 5)), ((5, 69), (5, 1)), ((5, 72), (5, 2)), ((5, 81), (10, 1)), ((6, 9), (6, 2)), ((6, 15), (6, 3)), ((6, 18), (6, 4))]
set_option maxRecDepth 100000 in
theorem fT_2_ok : ∀ q ∈ fT_2, FG q := (List.forall_mem_cons.mpr ⟨⟨_, rfl, (by decide), (inA 255 rfl rfl)⟩, (List.forall_mem_cons.mpr ⟨⟨_, rfl, (by decide), (inA 205 rfl rfl)⟩, (List.forall_mem_cons.mpr ⟨⟨_, rfl, (by decide), (inA 199 rfl rfl)⟩, (List.forall_mem_cons.mpr ⟨⟨_, rfl, (by decide), (inA 187 rfl rfl)⟩, (List.forall_mem_cons.mpr ⟨⟨_, rfl, (by decide), (inA 177 rfl rfl)⟩, (List.forall_mem_cons.mpr ⟨⟨_, rfl, (by decide), (inA 253 rfl rfl)⟩, (List.forall_mem_cons.mpr ⟨⟨_, rfl, (by decide), (inA 113 rfl rfl)⟩, (List.forall_mem_cons.mpr ⟨⟨_, rfl, (by decide), (inA 106 rfl rfl)⟩, (List.forall_mem_cons.mpr ⟨⟨_, rfl, (by decide), (inA 560 rfl rfl)⟩, (List.forall_mem_cons.mpr ⟨⟨_, rfl, (by decide), (inA 563 rfl rfl)⟩, (List.forall_mem_cons.mpr ⟨⟨_, rfl, (by decide), (inA 122 rfl rfl)⟩, (List.forall_mem_cons.mpr ⟨⟨_, rfl, (by decide), (inA 128 rfl rfl)⟩, (List.forall_mem_cons.mpr ⟨⟨_, rfl, (by decide), (inA 130 rfl rfl)⟩, (List.forall_mem_cons.mpr ⟨⟨_, rfl, (by decide), (inA 134 rfl rfl)⟩, (List.forall_mem_cons.mpr ⟨⟨_, rfl, (by decide), (inA 136 rfl rfl)⟩, (List.forall_mem_cons.mpr ⟨⟨_, rfl, (by decide), (inA 133 rfl rfl)⟩, (List.forall_mem_cons.mpr ⟨⟨_, rfl, (by decide), (inA 132 rfl rfl)⟩, (List.forall_mem_cons.mpr ⟨⟨_, rfl, (by decide), (inA 131 rfl rfl)⟩, (List.forall_mem_cons.mpr ⟨⟨_, rfl, (by decide), (inA 124 rfl rfl)⟩, (List.forall_mem_cons.mpr ⟨⟨_, rfl, (by decide), (inA 127 rfl rfl)⟩, (List.forall_mem_cons.mpr ⟨⟨_, rfl, (by decide), (inA 114 rfl rfl)⟩, (List.forall_mem_cons.mpr ⟨⟨_, rfl, (by decide), (inA 280 rfl rfl)⟩, (List.forall_mem_cons.mpr ⟨⟨_, rfl, (by decide), (inA 281 rfl rfl)⟩, (List.forall_mem_cons.mpr ⟨⟨_, rfl, (by decide), (inA 282 rfl rfl)⟩, (fun _ h => absurd h List.not_mem_nil)⟩)⟩)⟩)⟩)⟩)⟩)⟩)⟩)⟩)⟩)⟩)⟩)⟩)⟩)⟩)⟩)⟩)⟩)⟩)⟩)⟩)⟩)⟩)⟩)
def fT_3 : List ((Nat × Nat) × (Nat × Nat)) := [((6, 22), (6, 5)), ((6, 25), (6, 6)), ((6, 28), (6, 0)), ((6, 32), (6, 1)), ((6, 42), (6, 7)), ((6, 65), (9, 0)), ((6, 69), (8, 0)), ((6, 75), (10, 1)), ((6, 89), (8, 1)), ((6, 96), (10, 0)), ((7, 11), (7, 0)), ((7, 17), (7, 1)), ((7, 21), (7, 2)), ((8, 14), (8, 0)), ((8, 20), (8, 1)), ((8, 23), (10, 1)), ((9, 11), (9, 0)), ((9, 17), (9, 3)), ((9, 22), (9, 1)), ((9, 26), (9, 2)), ((9, 33), (8, 2)), ((9, 36), (8, 0)), ((9, 40), (10, 1)), ((9, 49), (8, 1))]
set_option maxRecDepth 100000 in
theorem fT_3_ok : ∀ q ∈ fT_3, FG q := (List.forall_mem_cons.mpr ⟨⟨_, rfl, (by decide), (inA 283 rfl rfl)⟩, (List.forall_mem_cons.mpr ⟨⟨_, rfl, (by decide), (inA 285 rfl rfl)⟩, (List.forall_mem_cons.mpr ⟨⟨_, rfl, (by decide), (inA 278 rfl rfl)⟩, (List.forall_mem_cons.mpr ⟨⟨_, rfl, (by decide), (inA 279 rfl rfl)⟩, (List.forall_mem_cons.mpr ⟨⟨_, rfl, (by decide), (inA 287 rfl rfl)⟩, (List.forall_mem_cons.mpr ⟨⟨_, rfl, (by decide), (inA 200 rfl rfl)⟩, (List.forall_mem_cons.mpr ⟨⟨_, rfl, (by decide), (inA 178 rfl rfl)⟩, (List.forall_mem_cons.mpr ⟨⟨_, rfl, (by decide), (inA 109 rfl rfl)⟩, (List.forall_mem_cons.mpr ⟨⟨_, rfl, (by decide), (inA 183 rfl rfl)⟩, (List.forall_mem_cons.mpr ⟨⟨_, rfl, (by decide), (inA 104 rfl rfl)⟩, (List.forall_mem_cons.mpr ⟨⟨_, rfl, (by decide), (inA 230 rfl rfl)⟩, (List.forall_mem_cons.mpr ⟨⟨_, rfl, (by decide), (inA 231 rfl rfl)⟩, (List.forall_mem_cons.mpr ⟨⟨_, rfl, (by decide), (inA 232 rfl rfl)⟩, (List.forall_mem_cons.mpr ⟨⟨_, rfl, (by decide), (inA 176 rfl rfl)⟩, (List.forall_mem_cons.mpr ⟨⟨_, rfl, (by decide), (inA 182 rfl rfl)⟩, (List.forall_mem_cons.mpr ⟨⟨_, rfl, (by decide), (inA 108 rfl rfl)⟩, (List.forall_mem_cons.mpr ⟨⟨_, rfl, (by decide), (inA 198 rfl rfl)⟩, (List.forall_mem_cons.mpr ⟨⟨_, rfl, (by decide), (inA 211 rfl rfl)⟩, (List.forall_mem_cons.mpr ⟨⟨_, rfl, (by decide), (inA 204 rfl rfl)⟩, (List.forall_mem_cons.mpr ⟨⟨_, rfl, (by decide), (inA 208 rfl rfl)⟩, (List.forall_mem_cons.mpr ⟨⟨_, rfl, (by decide), (inA 188 rfl rfl)⟩, (List.forall_mem_cons.mpr ⟨⟨_, rfl, (by decide), (inA 179 rfl rfl)⟩, (List.forall_mem_cons.mpr ⟨⟨_, rfl, (by decide), (inA 112 rfl rfl)⟩, (List.forall_mem_cons.mpr ⟨⟨_, rfl, (by decide), (inA 184 rfl rfl)⟩, (fun _ h => absurd h List.not_mem_nil)⟩)⟩)⟩)⟩)⟩)⟩)⟩)⟩)⟩)⟩)⟩)⟩)⟩)⟩)⟩)⟩)⟩)⟩)⟩)⟩)⟩)⟩)⟩)⟩)
def fT_4 : List ((Nat × Nat) × (Nat × Nat)) := [((10, 15), (10, 0)), ((10, 21), (10, 1)), ((11, 9), (11, 0)), ((11, 13), (11, 3)), ((11, 20), (11, 4)), ((11, 26), (11, 5)), ((11, 33), (11, 6)), ((11, 40), (11, 7)), ((11, 47), (11, 8)), ((11, 56), (11, 9)), ((11, 65), (11, 10)), ((11, 74), (11, 11)), ((11, 81), (11, 12)), ((11, 85), (11, 13)), ((11, 88), (11, 14)), ((11, 94), (11, 16)), ((11, 98), (11, 17)), ((11, 101), (11, 18)), ((11, 104), (11, 19)), ((11, 107), (11, 1)), ((11, 122), (5, 2)), ((11, 133), (5, 3)), ((11, 140), (10, 1)), ((11, 143), (11, 2))]
set_option maxRecDepth 100000 in
theorem fT_4_ok : ∀ q ∈ fT_4, FG q := (List.forall_mem_cons.mpr ⟨⟨_, rfl, (by decide), (inA 103 rfl rfl)⟩, (List.forall_mem_cons.mpr ⟨⟨_, rfl, (by decide), (inA 107 rfl rfl)⟩, (List.forall_mem_cons.mpr ⟨⟨_, rfl, (by decide), (inA 422 rfl rfl)⟩, (List.forall_mem_cons.mpr ⟨⟨_, rfl, (by decide), (inA 425 rfl rfl)⟩, (List.forall_mem_cons.mpr ⟨⟨_, rfl, (by decide), (inA 426 rfl rfl)⟩, (List.forall_mem_cons.mpr ⟨⟨_, rfl, (by decide), (inA 427 rfl rfl)⟩, (List.forall_mem_cons.mpr ⟨⟨_, rfl, (by decide), (inA 428 rfl rfl)⟩, (List.forall_mem_cons.mpr ⟨⟨_, rfl, (by decide), (inA 429 rfl rfl)⟩, (List.forall_mem_cons.mpr ⟨⟨_, rfl, (by decide), (inA 430 rfl rfl)⟩, (List.forall_mem_cons.mpr ⟨⟨_, rfl, (by decide), (inA 431 rfl rfl)⟩, (List.forall_mem_cons.mpr ⟨⟨_, rfl, (by decide), (inA 432 rfl rfl)⟩, (List.forall_mem_cons.mpr ⟨⟨_, rfl, (by decide), (inA 433 rfl rfl)⟩, (List.forall_mem_cons.mpr ⟨⟨_, rfl, (by decide), (inA 434 rfl rfl)⟩, (List.forall_mem_cons.mpr ⟨⟨_, rfl, (by decide), (inA 435 rfl rfl)⟩, (List.forall_mem_cons.mpr ⟨⟨_, rfl, (by decide), (inA 436 rfl rfl)⟩, (List.forall_mem_cons.mpr ⟨⟨_, rfl, (by decide), (inA 438 rfl rfl)⟩, (List.forall_mem_cons.mpr ⟨⟨_, rfl, (by decide), (inA 439 rfl rfl)⟩, (List.forall_mem_cons.mpr ⟨⟨_, rfl, (by decide), (inA 440 rfl rfl)⟩, (List.forall_mem_cons.mpr ⟨⟨_, rfl, (by decide), (inA 441 rfl rfl)⟩, (List.forall_mem_cons.mpr ⟨⟨_, rfl, (by decide), (inA 423 rfl rfl)⟩, (List.forall_mem_cons.mpr ⟨⟨_, rfl, (by decide), (inA 126 rfl rfl)⟩, (List.forall_mem_cons.mpr ⟨⟨_, rfl, (by decide), (inA 129 rfl rfl)⟩, (List.forall_mem_cons.mpr ⟨⟨_, rfl, (by decide), (inA 110 rfl rfl)⟩, (List.forall_mem_cons.mpr ⟨⟨_, rfl, (by decide), (inA 424 rfl rfl)⟩, (fun _ h => absurd h List.not_mem_nil)⟩)⟩)⟩)⟩)⟩)⟩)⟩)⟩)⟩)⟩)⟩)⟩)⟩)⟩)⟩)⟩)⟩)⟩)⟩)⟩)⟩)⟩)⟩)⟩)
def fT_5 : List ((Nat × Nat) × (Nat × Nat)) := [((11, 146), (5, 8)), ((11, 149), (5, 9)), ((11, 152), (5, 0)), ((11, 164), (5, 1)), ((11, 175), (4, 0)), ((11, 182), (4, 1)), ((11, 187), (11, 15)), ((11, 200), (0, 7)), ((11, 207), (9, 2)), ((11, 208), (9, 1)), ((11, 214), (7, 2)), ((11, 217), (0, 5)), ((11, 220), (0, 6)), ((11, 226), (9, 0)), ((11, 230), (8, 2)), ((11, 235), (8, 0)), ((11, 238), (8, 1)), ((11, 254), (2, 6)), ((11, 257), (2, 7)), ((11, 260), (2, 8)), ((11, 263), (2, 9)), ((11, 274), (6, 7)), ((11, 281), (6, 5)), ((11, 284), (6, 6))]
set_option maxRecDepth 100000 in
theorem fT_5_ok : ∀ q ∈ fT_5, FG q := (List.forall_mem_cons.mpr ⟨⟨_, rfl, (by decide), (inA 135 rfl rfl)⟩, (List.forall_mem_cons.mpr ⟨⟨_, rfl, (by decide), (inA 137 rfl rfl)⟩, (List.forall_mem_cons.mpr ⟨⟨_, rfl, (by decide), (inA 123 rfl rfl)⟩, (List.forall_mem_cons.mpr ⟨⟨_, rfl, (by decide), (inA 125 rfl rfl)⟩, (List.forall_mem_cons.mpr ⟨⟨_, rfl, (by decide), (inA 562 rfl rfl)⟩, (List.forall_mem_cons.mpr ⟨⟨_, rfl, (by decide), (inA 565 rfl rfl)⟩, (List.forall_mem_cons.mpr ⟨⟨_, rfl, (by decide), (inA 437 rfl rfl)⟩, (List.forall_mem_cons.mpr ⟨⟨_, rfl, (by decide), (inA 325 rfl rfl)⟩, (List.forall_mem_cons.mpr ⟨⟨_, rfl, (by decide), (inA 210 rfl rfl)⟩, (List.forall_mem_cons.mpr ⟨⟨_, rfl, (by decide), (inA 207 rfl rfl)⟩, (List.forall_mem_cons.mpr ⟨⟨_, rfl, (by decide), (inA 234 rfl rfl)⟩, (List.forall_mem_cons.mpr ⟨⟨_, rfl, (by decide), (inA 321 rfl rfl)⟩, (List.forall_mem_cons.mpr ⟨⟨_, rfl, (by decide), (inA 323 rfl rfl)⟩, (List.forall_mem_cons.mpr ⟨⟨_, rfl, (by decide), (inA 203 rfl rfl)⟩, (List.forall_mem_cons.mpr ⟨⟨_, rfl, (by decide), (inA 190 rfl rfl)⟩, (List.forall_mem_cons.mpr ⟨⟨_, rfl, (by decide), (inA 181 rfl rfl)⟩, (List.forall_mem_cons.mpr ⟨⟨_, rfl, (by decide), (inA 186 rfl rfl)⟩, (List.forall_mem_cons.mpr ⟨⟨_, rfl, (by decide), (inA 358 rfl rfl)⟩, (List.forall_mem_cons.mpr ⟨⟨_, rfl, (by decide), (inA 360 rfl rfl)⟩, (List.forall_mem_cons.mpr ⟨⟨_, rfl, (by decide), (inA 362 rfl rfl)⟩, (List.forall_mem_cons.mpr ⟨⟨_, rfl, (by decide), (inA 364 rfl rfl)⟩, (List.forall_mem_cons.mpr ⟨⟨_, rfl, (by decide), (inA 289 rfl rfl)⟩, (List.forall_mem_cons.mpr ⟨⟨_, rfl, (by decide), (inA 284 rfl rfl)⟩, (List.forall_mem_cons.mpr ⟨⟨_, rfl, (by decide), (inA 286 rfl rfl)⟩, (fun _ h => absurd h List.not_mem_nil)⟩)⟩)⟩)⟩)⟩)⟩)⟩)⟩)⟩)⟩)⟩)⟩)⟩)⟩)⟩)⟩)⟩)⟩)⟩)⟩)⟩)⟩)⟩)⟩)
def fT_6 : List ((Nat × Nat) × (Nat × Nat)) := [((12, 1), (12, 0)), ((12, 13), (12, 2)), ((12, 16), (12, 1)), ((12, 22), (12, 4)), ((12, 25), (12, 3)), ((12, 28), (12, 5)), ((12, 31), (12, 6)), ((12, 34), (12, 10)), ((12, 37), (12, 8)), ((12, 52), (12, 14)), ((12, 55), (12, 12)), ((12, 62), (12, 13)), ((12, 65), (12, 7)), ((12, 81), (12, 11)), ((12, 84), (12, 9)), ((12, 87), (12, 21)), ((12, 90), (12, 24)), ((12, 93), (12, 25)), ((12, 96), (12, 26)), ((12, 99), (12, 27)), ((12, 102), (12, 28)), ((12, 106), (12, 52)), ((12, 109), (12, 36)), ((12, 112), (12, 39))]
set_option maxRecDepth 100000 in
theorem fT_6_ok : ∀ q ∈ fT_6, FG q := (List.forall_mem_cons.mpr ⟨⟨_, rfl, (by decide), (inA 1033 rfl rfl)⟩, (List.forall_mem_cons.mpr ⟨⟨_, rfl, (by decide), (inA 1035 rfl rfl)⟩, (List.forall_mem_cons.mpr ⟨⟨_, rfl, (by decide), (inA 1034 rfl rfl)⟩, (List.forall_mem_cons.mpr ⟨⟨_, rfl, (by decide), (inA 1037 rfl rfl)⟩, (List.forall_mem_cons.mpr ⟨⟨_, rfl, (by decide), (inA 1036 rfl rfl)⟩, (List.forall_mem_cons.mpr ⟨⟨_, rfl, (by decide), (inA 1038 rfl rfl)⟩, (List.forall_mem_cons.mpr ⟨⟨_, rfl, (by decide), (inA 1039 rfl rfl)⟩, (List.forall_mem_cons.mpr ⟨⟨_, rfl, (by decide), (inA 1043 rfl rfl)⟩, (List.forall_mem_cons.mpr ⟨⟨_, rfl, (by decide), (inA 1041 rfl rfl)⟩, (List.forall_mem_cons.mpr ⟨⟨_, rfl, (by decide), (inA 1047 rfl rfl)⟩, (List.forall_mem_cons.mpr ⟨⟨_, rfl, (by decide), (inA 1045 rfl rfl)⟩, (List.forall_mem_cons.mpr ⟨⟨_, rfl, (by decide), (inA 1046 rfl rfl)⟩, (List.forall_mem_cons.mpr ⟨⟨_, rfl, (by decide), (inA 1040 rfl rfl)⟩, (List.forall_mem_cons.mpr ⟨⟨_, rfl, (by decide), (inA 1044 rfl rfl)⟩, (List.forall_mem_cons.mpr ⟨⟨_, rfl, (by decide), (inA 1042 rfl rfl)⟩, (List.forall_mem_cons.mpr ⟨⟨_, rfl, (by decide), (inA 1054 rfl rfl)⟩, (List.forall_mem_cons.mpr ⟨⟨_, rfl, (by decide), (inA 1057 rfl rfl)⟩, (List.forall_mem_cons.mpr ⟨⟨_, rfl, (by decide), (inA 1058 rfl rfl)⟩, (List.forall_mem_cons.mpr ⟨⟨_, rfl, (by decide), (inA 1059 rfl rfl)⟩, (List.forall_mem_cons.mpr ⟨⟨_, rfl, (by decide), (inA 1060 rfl rfl)⟩, (List.forall_mem_cons.mpr ⟨⟨_, rfl, (by decide), (inA 1061 rfl rfl)⟩, (List.forall_mem_cons.mpr ⟨⟨_, rfl, (by decide), (inA 1085 rfl rfl)⟩, (List.forall_mem_cons.mpr ⟨⟨_, rfl, (by decide), (inA 1069 rfl rfl)⟩, (List.forall_mem_cons.mpr ⟨⟨_, rfl, (by decide), (inA 1072 rfl rfl)⟩, (fun _ h => absurd h List.not_mem_nil)⟩)⟩)⟩)⟩)⟩)⟩)⟩)⟩)⟩)⟩)⟩)⟩)⟩)⟩)⟩)⟩)⟩)⟩)⟩)⟩)⟩)⟩)⟩)⟩)
def fT_7 : List ((Nat × Nat) × (Nat × Nat)) := [((12, 115), (12, 43)), ((12, 118), (12, 23)), ((12, 121), (12, 22)), ((12, 129), (12, 15)), ((12, 132), (12, 42)), ((12, 140), (12, 16)), ((12, 143), (12, 17)), ((12, 146), (12, 18)), ((12, 149), (12, 19)), ((12, 152), (12, 20)), ((12, 157), (12, 29)), ((12, 160), (12, 30)), ((12, 163), (12, 32)), ((12, 166), (12, 33)), ((12, 169), (12, 34)), ((12, 172), (12, 35)), ((12, 176), (12, 44)), ((12, 179), (12, 45)), ((12, 182), (12, 46)), ((12, 185), (12, 47)), ((12, 188), (12, 48)), ((12, 192), (12, 49)), ((12, 196), (12, 50)), ((12, 199), (12, 55))]
set_option maxRecDepth 100000 in
theorem fT_7_ok : ∀ q ∈ fT_7, FG q := (List.forall_mem_cons.mpr ⟨⟨_, rfl, (by decide), (inA 1076 rfl rfl)⟩, (List.forall_mem_cons.mpr ⟨⟨_, rfl, (by decide), (inA 1056 rfl rfl)⟩, (List.forall_mem_cons.mpr ⟨⟨_, rfl, (by decide), (inA 1055 rfl rfl)⟩, (List.forall_mem_cons.mpr ⟨⟨_, rfl, (by decide), (inA 1048 rfl rfl)⟩, (List.forall_mem_cons.mpr ⟨⟨_, rfl, (by decide), (inA 1075 rfl rfl)⟩, (List.forall_mem_cons.mpr ⟨⟨_, rfl, (by decide), (inA 1049 rfl rfl)⟩, (List.forall_mem_cons.mpr ⟨⟨_, rfl, (by decide), (inA 1050 rfl rfl)⟩, (List.forall_mem_cons.mpr ⟨⟨_, rfl, (by decide), (inA 1051 rfl rfl)⟩, (List.forall_mem_cons.mpr ⟨⟨_, rfl, (by decide), (inA 1052 rfl rfl)⟩, (List.forall_mem_cons.mpr ⟨⟨_, rfl, (by decide), (inA 1053 rfl rfl)⟩, (List.forall_mem_cons.mpr ⟨⟨_, rfl, (by decide), (inA 1062 rfl rfl)⟩, (List.forall_mem_cons.mpr ⟨⟨_, rfl, (by decide), (inA 1063 rfl rfl)⟩, (List.forall_mem_cons.mpr ⟨⟨_, rfl, (by decide), (inA 1065 rfl rfl)⟩, (List.forall_mem_cons.mpr ⟨⟨_, rfl, (by decide), (inA 1066 rfl rfl)⟩, (List.forall_mem_cons.mpr ⟨⟨_, rfl, (by decide), (inA 1067 rfl rfl)⟩, (List.forall_mem_cons.mpr ⟨⟨_, rfl, (by decide), (inA 1068 rfl rfl)⟩, (List.forall_mem_cons.mpr ⟨⟨_, rfl, (by decide), (inA 1077 rfl rfl)⟩, (List.forall_mem_cons.mpr ⟨⟨_, rfl, (by decide), (inA 1078 rfl rfl)⟩, (List.forall_mem_cons.mpr ⟨⟨_, rfl, (by decide), (inA 1079 rfl rfl)⟩, (List.forall_mem_cons.mpr ⟨⟨_, rfl, (by decide), (inA 1080 rfl rfl)⟩, (List.forall_mem_cons.mpr ⟨⟨_, rfl, (by decide), (inA 1081 rfl rfl)⟩, (List.forall_mem_cons.mpr ⟨⟨_, rfl, (by decide), (inA 1082 rfl rfl)⟩, (List.forall_mem_cons.mpr ⟨⟨_, rfl, (by decide), (inA 1083 rfl rfl)⟩, (List.forall_mem_cons.mpr ⟨⟨_, rfl, (by decide), (inA 1088 rfl rfl)⟩, (fun _ h => absurd h List.not_mem_nil)⟩)⟩)⟩)⟩)⟩)⟩)⟩)⟩)⟩)⟩)⟩)⟩)⟩)⟩)⟩)⟩)⟩)⟩)⟩)⟩)⟩)⟩)⟩)⟩)
def fT_8 : List ((Nat × Nat) × (Nat × Nat)) := [((12, 206), (12, 31)), ((12, 227), (12, 37)), ((12, 230), (12, 38)), ((12, 270), (12, 40)), ((12, 273), (12, 41)), ((12, 283), (12, 51)), ((12, 299), (12, 53)), ((12, 302), (12, 54))]
set_option maxRecDepth 100000 in
theorem fT_8_ok : ∀ q ∈ fT_8, FG q := (List.forall_mem_cons.mpr ⟨⟨_, rfl, (by decide), (inA 1064 rfl rfl)⟩, (List.forall_mem_cons.mpr ⟨⟨_, rfl, (by decide), (inA 1070 rfl rfl)⟩, (List.forall_mem_cons.mpr ⟨⟨_, rfl, (by decide), (inA 1071 rfl rfl)⟩, (List.forall_mem_cons.mpr ⟨⟨_, rfl, (by decide), (inA 1073 rfl rfl)⟩, (List.forall_mem_cons.mpr ⟨⟨_, rfl, (by decide), (inA 1074 rfl rfl)⟩, (List.forall_mem_cons.mpr ⟨⟨_, rfl, (by decide), (inA 1084 rfl rfl)⟩, (List.forall_mem_cons.mpr ⟨⟨_, rfl, (by decide), (inA 1086 rfl rfl)⟩, (List.forall_mem_cons.mpr ⟨⟨_, rfl, (by decide), (inA 1087 rfl rfl)⟩, (fun _ h => absurd h List.not_mem_nil)⟩)⟩)⟩)⟩)⟩)⟩)⟩)⟩)
def fT : List ((Nat × Nat) × (Nat × Nat)) := fT_0 ++ (fT_1 ++ (fT_2 ++ (fT_3 ++ (fT_4 ++ (fT_5 ++ (fT_6 ++ (fT_7 ++ (fT_8))))))))
theorem fT_ok : ∀ q ∈ fT, FG q := (List.forall_mem_append.mpr ⟨fT_0_ok, (List.forall_mem_append.mpr ⟨fT_1_ok, (List.forall_mem_append.mpr ⟨fT_2_ok, (List.forall_mem_append.mpr ⟨fT_3_ok, (List.forall_mem_append.mpr ⟨fT_4_ok, (List.forall_mem_append.mpr ⟨fT_5_ok, (List.forall_mem_append.mpr ⟨fT_6_ok, (List.forall_mem_append.mpr ⟨fT_7_ok, fT_8_ok⟩)⟩)⟩)⟩)⟩)⟩)⟩)⟩)
def NG (q : (Nat × Nat) × Nat) : Prop := ∃ r : vw_C, classes[q.2]? = some r ∧ Cond.classLink (cN q.1.1) q.1.2 r.1 ∈ ALL ∧ Cond.instantiable r.1 r.2.2 ∈ ALL ∧ Cond.initialized r.1 ∈ ALL
def AG (q : (Nat × Nat) × Nat) : Prop := ∃ C : String, 10 ≤ q.2 ∧ q.2 < 13 ∧ Cond.classLink (cN q.1.1) q.1.2 C ∈ ALL ∧ cN (q.2 - 10 |> (fun k => if k = 0 then 10 else if k = 1 then 8 else 4)) = C
def nT_0 : List ((Nat × Nat) × Nat) := [((11, 17), 5), ((11, 24), 10), ((11, 30), 9), ((11, 37), 7), ((11, 44), 3), ((11, 51), 6), ((11, 60), 0), ((11, 69), 2), ((11, 78), 1), ((0, 9), 10), ((2, 9), 10), ((4, 9), 10), ((5, 15), 10), ((7, 9), 4), ((8, 9), 10), ((9, 9), 8), ((13, 7), 11), ((13, 10), 12)]
set_option maxRecDepth 100000 in
theorem nT_0_ok : ∀ q ∈ nT_0, NG q := (List.forall_mem_cons.mpr ⟨⟨_, rfl, (inA 88 rfl rfl), (inA 89 rfl rfl), (inA 66 rfl rfl)⟩, (List.forall_mem_cons.mpr ⟨⟨_, rfl, (inA 159 rfl rfl), (inA 95 rfl rfl), (inA 67 rfl rfl)⟩, (List.forall_mem_cons.mpr ⟨⟨_, rfl, (inA 161 rfl rfl), (inA 162 rfl rfl), (inA 69 rfl rfl)⟩, (List.forall_mem_cons.mpr ⟨⟨_, rfl, (inA 222 rfl rfl), (inA 223 rfl rfl), (inA 71 rfl rfl)⟩, (List.forall_mem_cons.mpr ⟨⟨_, rfl, (inA 242 rfl rfl), (inA 243 rfl rfl), (inA 72 rfl rfl)⟩, (List.forall_mem_cons.mpr ⟨⟨_, rfl, (inA 272 rfl rfl), (inA 273 rfl rfl), (inA 73 rfl rfl)⟩, (List.forall_mem_cons.mpr ⟨⟨_, rfl, (inA 307 rfl rfl), (inA 308 rfl rfl), (inA 74 rfl rfl)⟩, (List.forall_mem_cons.mpr ⟨⟨_, rfl, (inA 343 rfl rfl), (inA 344 rfl rfl), (inA 75 rfl rfl)⟩, (List.forall_mem_cons.mpr ⟨⟨_, rfl, (inA 386 rfl rfl), (inA 387 rfl rfl), (inA 76 rfl rfl)⟩, (List.forall_mem_cons.mpr ⟨⟨_, rfl, (inA 313 rfl rfl), (inA 95 rfl rfl), (inA 67 rfl rfl)⟩, (List.forall_mem_cons.mpr ⟨⟨_, rfl, (inA 349 rfl rfl), (inA 95 rfl rfl), (inA 67 rfl rfl)⟩, (List.forall_mem_cons.mpr ⟨⟨_, rfl, (inA 558 rfl rfl), (inA 95 rfl rfl), (inA 67 rfl rfl)⟩, (List.forall_mem_cons.mpr ⟨⟨_, rfl, (inA 94 rfl rfl), (inA 95 rfl rfl), (inA 67 rfl rfl)⟩, (List.forall_mem_cons.mpr ⟨⟨_, rfl, (inA 228 rfl rfl), (inA 553 rfl rfl), (inA 79 rfl rfl)⟩, (List.forall_mem_cons.mpr ⟨⟨_, rfl, (inA 174 rfl rfl), (inA 95 rfl rfl), (inA 67 rfl rfl)⟩, (List.forall_mem_cons.mpr ⟨⟨_, rfl, (inA 167 rfl rfl), (inA 169 rfl rfl), (inA 70 rfl rfl)⟩, (List.forall_mem_cons.mpr ⟨⟨_, rfl, (inA 80 rfl rfl), (inA 81 rfl rfl), (inA 65 rfl rfl)⟩, (List.forall_mem_cons.mpr ⟨⟨_, rfl, (inA 1025 rfl rfl), (inA 984 rfl rfl), (inA 77 rfl rfl)⟩, (fun _ h => absurd h List.not_mem_nil)⟩)⟩)⟩)⟩)⟩)⟩)⟩)⟩)⟩)⟩)⟩)⟩)⟩)⟩)⟩)⟩)⟩)⟩)
def nT : List ((Nat × Nat) × Nat) := nT_0
theorem nT_ok : ∀ q ∈ nT, NG q := nT_0_ok
def aT_0 : List ((Nat × Nat) × Nat) := [((11, 24), 10), ((7, 9), 12), ((9, 9), 11)]
set_option maxRecDepth 100000 in
theorem aT_0_ok : ∀ q ∈ aT_0, AG q := (List.forall_mem_cons.mpr ⟨⟨"MonoidRules$Word", (by decide), (by decide), (inA 159 rfl rfl), rfl⟩, (List.forall_mem_cons.mpr ⟨⟨"MonoidRules$Pair", (by decide), (by decide), (inA 228 rfl rfl), rfl⟩, (List.forall_mem_cons.mpr ⟨⟨"MonoidRules$Rule", (by decide), (by decide), (inA 167 rfl rfl), rfl⟩, (fun _ h => absurd h List.not_mem_nil)⟩)⟩)⟩)
def aT : List ((Nat × Nat) × Nat) := aT_0
theorem aT_ok : ∀ q ∈ aT, AG q := aT_0_ok
def aO : List ((Nat × Nat) × Nat) := [((0, 10), 10), ((0, 11), 8), ((0, 12), 4)]
def IG (q : (Nat × Nat) × Int32) : Prop := Cond.constant (cN q.1.1) q.1.2 q.2 ∈ ALL
def iT_0 : List ((Nat × Nat) × Int32) := [((1, 101), 972081), ((6, 50), 1000000), ((12, 156), 240000), ((12, 175), 96008), ((12, 191), 972081)]
set_option maxRecDepth 100000 in
theorem iT_0_ok : ∀ q ∈ iT_0, IG q := (List.forall_mem_cons.mpr ⟨(inA 865 rfl rfl), (List.forall_mem_cons.mpr ⟨(inA 677 rfl rfl), (List.forall_mem_cons.mpr ⟨(inA 1030 rfl rfl), (List.forall_mem_cons.mpr ⟨(inA 1031 rfl rfl), (List.forall_mem_cons.mpr ⟨(inA 1032 rfl rfl), (fun _ h => absurd h List.not_mem_nil)⟩)⟩)⟩)⟩)⟩)
def iT : List ((Nat × Nat) × Int32) := iT_0
theorem iT_ok : ∀ q ∈ iT, IG q := iT_0_ok
def LG (q : (Nat × Nat) × Int64) : Prop := Cond.constantLong (cN q.1.1) q.1.2 q.2 ∈ ALL
def lT_0 : List ((Nat × Nat) × Int64) := [((11, 291), -2), ((11, 293), -3), ((11, 299), 1000000000000000), ((11, 301), -4), ((11, 332), 2147483647), ((1, 125), -5), ((1, 127), 1000000000000000), ((1, 129), -4), ((1, 131), 1000000000000001), ((13, 13), 4294967295), ((12, 7), 8), ((12, 20), 255), ((12, 124), 7), ((12, 253), 500), ((12, 268), 2), ((12, 289), 1000000000000000), ((12, 291), 1000000000000001), ((12, 297), -1), ((12, 315), 80), ((12, 317), -2), ((12, 319), -3), ((12, 324), -4), ((12, 326), -5), ((12, 335), 2147483647)]
set_option maxRecDepth 100000 in
theorem lT_0_ok : ∀ q ∈ lT_0, LG q := (List.forall_mem_cons.mpr ⟨(inA 854 rfl rfl), (List.forall_mem_cons.mpr ⟨(inA 855 rfl rfl), (List.forall_mem_cons.mpr ⟨(inA 886 rfl rfl), (List.forall_mem_cons.mpr ⟨(inA 887 rfl rfl), (List.forall_mem_cons.mpr ⟨(inA 938 rfl rfl), (List.forall_mem_cons.mpr ⟨(inA 908 rfl rfl), (List.forall_mem_cons.mpr ⟨(inA 884 rfl rfl), (List.forall_mem_cons.mpr ⟨(inA 909 rfl rfl), (List.forall_mem_cons.mpr ⟨(inA 885 rfl rfl), (List.forall_mem_cons.mpr ⟨(inA 1412 rfl rfl), (List.forall_mem_cons.mpr ⟨(inA 972 rfl rfl), (List.forall_mem_cons.mpr ⟨(inA 976 rfl rfl), (List.forall_mem_cons.mpr ⟨(inA 1024 rfl rfl), (List.forall_mem_cons.mpr ⟨(inA 1207 rfl rfl), (List.forall_mem_cons.mpr ⟨(inA 1279 rfl rfl), (List.forall_mem_cons.mpr ⟨(inA 1358 rfl rfl), (List.forall_mem_cons.mpr ⟨(inA 1359 rfl rfl), (List.forall_mem_cons.mpr ⟨(inA 1364 rfl rfl), (List.forall_mem_cons.mpr ⟨(inA 1336 rfl rfl), (List.forall_mem_cons.mpr ⟨(inA 1337 rfl rfl), (List.forall_mem_cons.mpr ⟨(inA 1338 rfl rfl), (List.forall_mem_cons.mpr ⟨(inA 1365 rfl rfl), (List.forall_mem_cons.mpr ⟨(inA 1370 rfl rfl), (List.forall_mem_cons.mpr ⟨(inA 1391 rfl rfl), (fun _ h => absurd h List.not_mem_nil)⟩)⟩)⟩)⟩)⟩)⟩)⟩)⟩)⟩)⟩)⟩)⟩)⟩)⟩)⟩)⟩)⟩)⟩)⟩)⟩)⟩)⟩)⟩)⟩)
def lT : List ((Nat × Nat) × Int64) := lT_0
theorem lT_ok : ∀ q ∈ lT, LG q := lT_0_ok
def nests : List Cond := [.methodLinkNest "MonoidRules" 19 ⟨"MonoidRules$Presentation", "<init>", "()V"⟩ "MonoidRules", .methodLinkNest "MonoidRules" 39 ⟨"MonoidRules$Row", "<init>", "()V"⟩ "MonoidRules", .methodLinkNest "MonoidRules" 46 ⟨"MonoidRules$Machine", "<init>", "()V"⟩ "MonoidRules", .methodLinkNest "MonoidRules$Row" 24 ⟨"MonoidRules$Pair", "<init>", "()V"⟩ "MonoidRules", .methodLinkNest "MonoidRules$Rules" 21 ⟨"MonoidRules$Rule", "<init>", "()V"⟩ "MonoidRules"]
set_option maxRecDepth 100000 in
theorem nests_in : ∀ w ∈ nests, w ∈ lw_tbl := 
  (List.forall_mem_cons.mpr ⟨List.mem_of_getElem? (i := 90) rfl, (List.forall_mem_cons.mpr ⟨List.mem_of_getElem? (i := 224) rfl, (List.forall_mem_cons.mpr ⟨List.mem_of_getElem? (i := 244) rfl, (List.forall_mem_cons.mpr ⟨List.mem_of_getElem? (i := 554) rfl, (List.forall_mem_cons.mpr ⟨List.mem_of_getElem? (i := 170) rfl, (fun _ h => absurd h List.not_mem_nil)⟩)⟩)⟩)⟩)⟩)
theorem nests_form : ∀ w ∈ nests, ∃ a i x h, w = .methodLinkNest a i x h := 
  (List.forall_mem_cons.mpr ⟨⟨_, _, _, _, rfl⟩, (List.forall_mem_cons.mpr ⟨⟨_, _, _, _, rfl⟩, (List.forall_mem_cons.mpr ⟨⟨_, _, _, _, rfl⟩, (List.forall_mem_cons.mpr ⟨⟨_, _, _, _, rfl⟩, (List.forall_mem_cons.mpr ⟨⟨_, _, _, _, rfl⟩, (fun _ h => absurd h List.not_mem_nil)⟩)⟩)⟩)⟩)⟩)
def MG (q : (Nat × Nat) × (Nat × Fn)) : Prop := match q.2.1 with
  | 0 => Fok q.2.2 ∧ Cond.methodLink (cN q.1.1) q.1.2 (fnY q.2.2) ∈ ALL ∧ Cond.static (fnY q.2.2) ∈ ALL
  | 1 => Fok q.2.2 ∧ Cond.methodLink (cN q.1.1) q.1.2 (fnY q.2.2) ∈ ALL ∧ Cond.instanceMethod (fnY q.2.2) ∈ ALL ∧ Cond.selects (fnY q.2.2).cls (fnY q.2.2) (fnY q.2.2) ∈ ALL ∧ ∃ r : vw_C, classes[fnC q.2.2]? = some r ∧ r.1 = (fnY q.2.2).cls
  | 2 => Fok q.2.2 ∧ Cond.methodLink (cN q.1.1) q.1.2 (fnY q.2.2) ∈ ALL ∧ Cond.instanceMethod (fnY q.2.2) ∈ ALL ∧ (fnY q.2.2).name = "<init>" ∧ fnR q.2.2 = none
  | 3 => Cond.methodLink (cN q.1.1) q.1.2 Lib.objectInit ∈ ALL ∧ Cond.instanceMethod Lib.objectInit ∈ ALL ∧ Cond.code Lib.objectInit ⟨#[0xb1]⟩ 1 none ∈ ALL
  | 4 => Cond.methodLink (cN q.1.1) q.1.2 Lib.Math.min.name ∈ ALL ∧ Cond.static Lib.Math.min.name ∈ ALL ∧ Cond.initialized "java/lang/Math" ∈ ALL ∧ Cond.code Lib.Math.min.name Lib.Math.min.code 2 (some .int) ∈ ALL
  | 5 => Cond.methodLink (cN q.1.1) q.1.2 Lib.Math.max.name ∈ ALL ∧ Cond.static Lib.Math.max.name ∈ ALL ∧ Cond.initialized "java/lang/Math" ∈ ALL ∧ Cond.code Lib.Math.max.name Lib.Math.max.code 2 (some .int) ∈ ALL
  | 6 => Cond.methodLink (cN q.1.1) q.1.2 arraycopyName ∈ ALL ∧ Cond.native arraycopyName ∈ ALL ∧ Cond.static arraycopyName ∈ ALL ∧ Cond.initialized "java/lang/System" ∈ ALL
  | 7 => Fok q.2.2 ∧ (∃ h, Cond.methodLinkNest (cN q.1.1) q.1.2 (fnY q.2.2) h ∈ nests) ∧ Cond.instanceMethod (fnY q.2.2) ∈ ALL ∧ (fnY q.2.2).name = "<init>" ∧ fnR q.2.2 = none
  | _ => False
def mT_0 : List ((Nat × Nat) × (Nat × Fn)) := [((0, 3), (3, F_Completion_begin)), ((0, 11), (2, F_Word_init)), ((0, 51), (1, F_Row_takeFirst)), ((0, 58), (1, F_Completion_takeForm)), ((0, 63), (1, F_Word_against)), ((0, 67), (1, F_Rules_make)), ((0, 73), (1, F_Completion_dropOlder)), ((0, 77), (1, F_Completion_renewRights)), ((0, 80), (1, F_Completion_pairAll)), ((0, 83), (1, F_Reducer_toForm)), ((0, 101), (1, F_Word_holds)), ((0, 105), (1, F_Rules_drop)), ((0, 108), (1, F_Row_behind)), ((0, 111), (1, F_Word_become)), ((0, 118), (1, F_Completion_pairOverlaps)), ((0, 122), (1, F_Rule_mostShared)), ((0, 126), (1, F_Rule_overlaps)), ((0, 130), (1, F_Rule_spellOverlap)), ((1, 3), (3, F_Completion_begin)), ((1, 41), (1, F_Elements_countRows)), ((1, 45), (1, F_Elements_waysOn)), ((1, 49), (1, F_Machine_renew)), ((1, 55), (1, F_Elements_makeQueue)), ((1, 58), (1, F_Elements_countPaths))]
set_option maxRecDepth 100000 in
theorem mT_0_ok : ∀ q ∈ mT_0, MG q := (List.forall_mem_cons.mpr ⟨⟨(inA 312 rfl rfl), (inA 86 rfl rfl), (inA 87 rfl rfl)⟩, (List.forall_mem_cons.mpr ⟨⟨ok_F_Word_init, (inA 314 rfl rfl), (inA 97 rfl rfl), rfl, rfl⟩, (List.forall_mem_cons.mpr ⟨⟨ok_F_Row_takeFirst, (inA 622 rfl rfl), (inA 623 rfl rfl), (inA 624 rfl rfl), _, rfl, rfl⟩, (List.forall_mem_cons.mpr ⟨⟨ok_F_Completion_takeForm, (inA 630 rfl rfl), (inA 632 rfl rfl), (inA 7 rfl rfl), _, rfl, rfl⟩, (List.forall_mem_cons.mpr ⟨⟨ok_F_Word_against, (inA 695 rfl rfl), (inA 696 rfl rfl), (inA 697 rfl rfl), _, rfl, rfl⟩, (List.forall_mem_cons.mpr ⟨⟨ok_F_Rules_make, (inA 699 rfl rfl), (inA 700 rfl rfl), (inA 701 rfl rfl), _, rfl, rfl⟩, (List.forall_mem_cons.mpr ⟨⟨ok_F_Completion_dropOlder, (inA 704 rfl rfl), (inA 706 rfl rfl), (inA 14 rfl rfl), _, rfl, rfl⟩, (List.forall_mem_cons.mpr ⟨⟨ok_F_Completion_renewRights, (inA 723 rfl rfl), (inA 725 rfl rfl), (inA 15 rfl rfl), _, rfl, rfl⟩, (List.forall_mem_cons.mpr ⟨⟨ok_F_Completion_pairAll, (inA 727 rfl rfl), (inA 729 rfl rfl), (inA 16 rfl rfl), _, rfl, rfl⟩, (List.forall_mem_cons.mpr ⟨⟨ok_F_Reducer_toForm, (inA 634 rfl rfl), (inA 635 rfl rfl), (inA 636 rfl rfl), _, rfl, rfl⟩, (List.forall_mem_cons.mpr ⟨⟨ok_F_Word_holds, (inA 708 rfl rfl), (inA 709 rfl rfl), (inA 710 rfl rfl), _, rfl, rfl⟩, (List.forall_mem_cons.mpr ⟨⟨ok_F_Rules_drop, (inA 716 rfl rfl), (inA 717 rfl rfl), (inA 718 rfl rfl), _, rfl, rfl⟩, (List.forall_mem_cons.mpr ⟨⟨ok_F_Row_behind, (inA 721 rfl rfl), (inA 550 rfl rfl), (inA 551 rfl rfl), _, rfl, rfl⟩, (List.forall_mem_cons.mpr ⟨⟨ok_F_Word_become, (inA 722 rfl rfl), (inA 603 rfl rfl), (inA 604 rfl rfl), _, rfl, rfl⟩, (List.forall_mem_cons.mpr ⟨⟨ok_F_Completion_pairOverlaps, (inA 731 rfl rfl), (inA 733 rfl rfl), (inA 17 rfl rfl), _, rfl, rfl⟩, (List.forall_mem_cons.mpr ⟨⟨ok_F_Rule_mostShared, (inA 735 rfl rfl), (inA 736 rfl rfl), (inA 737 rfl rfl), _, rfl, rfl⟩, (List.forall_mem_cons.mpr ⟨⟨ok_F_Rule_overlaps, (inA 740 rfl rfl), (inA 741 rfl rfl), (inA 742 rfl rfl), _, rfl, rfl⟩, (List.forall_mem_cons.mpr ⟨⟨ok_F_Rule_spellOverlap, (inA 745 rfl rfl), (inA 746 rfl rfl), (inA 747 rfl rfl), _, rfl, rfl⟩, (List.forall_mem_cons.mpr ⟨⟨(inA 391 rfl rfl), (inA 86 rfl rfl), (inA 87 rfl rfl)⟩, (List.forall_mem_cons.mpr ⟨⟨ok_F_Elements_countRows, (inA 860 rfl rfl), (inA 862 rfl rfl), (inA 20 rfl rfl), _, rfl, rfl⟩, (List.forall_mem_cons.mpr ⟨⟨ok_F_Elements_waysOn, (inA 873 rfl rfl), (inA 875 rfl rfl), (inA 22 rfl rfl), _, rfl, rfl⟩, (List.forall_mem_cons.mpr ⟨⟨ok_F_Machine_renew, (inA 864 rfl rfl), (inA 639 rfl rfl), (inA 640 rfl rfl), _, rfl, rfl⟩, (List.forall_mem_cons.mpr ⟨⟨ok_F_Elements_makeQueue, (inA 896 rfl rfl), (inA 898 rfl rfl), (inA 23 rfl rfl), _, rfl, rfl⟩, (List.forall_mem_cons.mpr ⟨⟨ok_F_Elements_countPaths, (inA 900 rfl rfl), (inA 902 rfl rfl), (inA 24 rfl rfl), _, rfl, rfl⟩, (fun _ h => absurd h List.not_mem_nil)⟩)⟩)⟩)⟩)⟩)⟩)⟩)⟩)⟩)⟩)⟩)⟩)⟩)⟩)⟩)⟩)⟩)⟩)⟩)⟩)⟩)⟩)⟩)⟩)
def mT_1 : List ((Nat × Nat) × (Nat × Fn)) := [((1, 66), (1, F_Elements_ofLength)), ((1, 70), (1, F_Elements_spellOfLength)), ((1, 74), (1, F_Elements_total)), ((1, 85), (1, F_Machine_after)), ((1, 89), (1, F_Word_clear)), ((1, 95), (1, F_Word_add)), ((1, 102), (4, F_Completion_begin)), ((1, 107), (5, F_Completion_begin)), ((1, 110), (1, F_Elements_countRow)), ((1, 113), (1, F_Machine_isReducible)), ((1, 117), (0, F_Elements_capped)), ((1, 121), (1, F_Elements_countIncoming)), ((2, 3), (3, F_Completion_begin)), ((2, 11), (2, F_Word_init)), ((2, 38), (1, F_Finder_tryAll)), ((2, 51), (1, F_Rules_isLive)), ((2, 55), (1, F_Finder_tryTwo)), ((2, 63), (1, F_Rule_mostShared)), ((2, 69), (1, F_Rule_overlaps)), ((2, 73), (1, F_Rule_spellOverlap)), ((2, 77), (1, F_Reducer_toForm)), ((2, 83), (1, F_Word_against)), ((3, 3), (3, F_Completion_begin)), ((3, 38), (1, F_Rules_lettersOfLefts))]
set_option maxRecDepth 100000 in
theorem mT_1_ok : ∀ q ∈ mT_1, MG q := (List.forall_mem_cons.mpr ⟨⟨ok_F_Elements_ofLength, (inA 918 rfl rfl), (inA 857 rfl rfl), (inA 858 rfl rfl), _, rfl, rfl⟩, (List.forall_mem_cons.mpr ⟨⟨ok_F_Elements_spellOfLength, (inA 919 rfl rfl), (inA 921 rfl rfl), (inA 26 rfl rfl), _, rfl, rfl⟩, (List.forall_mem_cons.mpr ⟨⟨ok_F_Elements_total, (inA 925 rfl rfl), (inA 893 rfl rfl), (inA 894 rfl rfl), _, rfl, rfl⟩, (List.forall_mem_cons.mpr ⟨⟨ok_F_Machine_after, (inA 872 rfl rfl), (inA 659 rfl rfl), (inA 660 rfl rfl), _, rfl, rfl⟩, (List.forall_mem_cons.mpr ⟨⟨ok_F_Word_clear, (inA 923 rfl rfl), (inA 500 rfl rfl), (inA 501 rfl rfl), _, rfl, rfl⟩, (List.forall_mem_cons.mpr ⟨⟨ok_F_Word_add, (inA 924 rfl rfl), (inA 522 rfl rfl), (inA 523 rfl rfl), _, rfl, rfl⟩, (List.forall_mem_cons.mpr ⟨⟨(inA 866 rfl rfl), (inA 651 rfl rfl), (inA 68 rfl rfl), (inA 652 rfl rfl)⟩, (List.forall_mem_cons.mpr ⟨⟨(inA 867 rfl rfl), (inA 101 rfl rfl), (inA 68 rfl rfl), (inA 102 rfl rfl)⟩, (List.forall_mem_cons.mpr ⟨⟨ok_F_Elements_countRow, (inA 868 rfl rfl), (inA 870 rfl rfl), (inA 21 rfl rfl), _, rfl, rfl⟩, (List.forall_mem_cons.mpr ⟨⟨ok_F_Machine_isReducible, (inA 877 rfl rfl), (inA 878 rfl rfl), (inA 879 rfl rfl), _, rfl, rfl⟩, (List.forall_mem_cons.mpr ⟨⟨ok_F_Elements_capped, (inA 881 rfl rfl), (inA 882 rfl rfl)⟩, (List.forall_mem_cons.mpr ⟨⟨ok_F_Elements_countIncoming, (inA 904 rfl rfl), (inA 906 rfl rfl), (inA 25 rfl rfl), _, rfl, rfl⟩, (List.forall_mem_cons.mpr ⟨⟨(inA 348 rfl rfl), (inA 86 rfl rfl), (inA 87 rfl rfl)⟩, (List.forall_mem_cons.mpr ⟨⟨ok_F_Word_init, (inA 350 rfl rfl), (inA 97 rfl rfl), rfl, rfl⟩, (List.forall_mem_cons.mpr ⟨⟨ok_F_Finder_tryAll, (inA 797 rfl rfl), (inA 799 rfl rfl), (inA 18 rfl rfl), _, rfl, rfl⟩, (List.forall_mem_cons.mpr ⟨⟨ok_F_Rules_isLive, (inA 801 rfl rfl), (inA 802 rfl rfl), (inA 803 rfl rfl), _, rfl, rfl⟩, (List.forall_mem_cons.mpr ⟨⟨ok_F_Finder_tryTwo, (inA 805 rfl rfl), (inA 807 rfl rfl), (inA 19 rfl rfl), _, rfl, rfl⟩, (List.forall_mem_cons.mpr ⟨⟨ok_F_Rule_mostShared, (inA 809 rfl rfl), (inA 736 rfl rfl), (inA 737 rfl rfl), _, rfl, rfl⟩, (List.forall_mem_cons.mpr ⟨⟨ok_F_Rule_overlaps, (inA 810 rfl rfl), (inA 741 rfl rfl), (inA 742 rfl rfl), _, rfl, rfl⟩, (List.forall_mem_cons.mpr ⟨⟨ok_F_Rule_spellOverlap, (inA 811 rfl rfl), (inA 746 rfl rfl), (inA 747 rfl rfl), _, rfl, rfl⟩, (List.forall_mem_cons.mpr ⟨⟨ok_F_Reducer_toForm, (inA 812 rfl rfl), (inA 635 rfl rfl), (inA 636 rfl rfl), _, rfl, rfl⟩, (List.forall_mem_cons.mpr ⟨⟨ok_F_Word_against, (inA 813 rfl rfl), (inA 696 rfl rfl), (inA 697 rfl rfl), _, rfl, rfl⟩, (List.forall_mem_cons.mpr ⟨⟨(inA 247 rfl rfl), (inA 86 rfl rfl), (inA 87 rfl rfl)⟩, (List.forall_mem_cons.mpr ⟨⟨ok_F_Rules_lettersOfLefts, (inA 642 rfl rfl), (inA 643 rfl rfl), (inA 644 rfl rfl), _, rfl, rfl⟩, (fun _ h => absurd h List.not_mem_nil)⟩)⟩)⟩)⟩)⟩)⟩)⟩)⟩)⟩)⟩)⟩)⟩)⟩)⟩)⟩)⟩)⟩)⟩)⟩)⟩)⟩)⟩)⟩)⟩)
def mT_2 : List ((Nat × Nat) × (Nat × Fn)) := [((3, 42), (1, F_Machine_clear)), ((3, 62), (1, F_Machine_insert)), ((3, 66), (1, F_Machine_link)), ((3, 69), (1, F_Machine_ruleAt)), ((3, 73), (4, F_Completion_begin)), ((3, 79), (5, F_Completion_begin)), ((3, 94), (1, F_Machine_after)), ((3, 97), (0, F_Machine_leastRule)), ((4, 3), (3, F_Completion_begin)), ((4, 11), (2, F_Word_init)), ((5, 3), (3, F_Completion_begin)), ((5, 17), (2, F_Word_init)), ((5, 27), (1, F_Presentation_clear)), ((5, 34), (0, F_Presentation_isPassedOver)), ((5, 44), (1, F_Presentation_takeLetter)), ((5, 48), (1, F_Presentation_takeInWord)), ((5, 54), (0, F_Presentation_isLetter)), ((5, 57), (1, F_Presentation_takeWordLetter)), ((5, 61), (1, F_Word_clear)), ((5, 65), (1, F_Word_append)), ((5, 75), (1, F_Presentation_endWord)), ((5, 78), (1, F_Word_add)), ((6, 3), (3, F_Completion_begin)), ((6, 36), (1, F_Machine_renew))]
set_option maxRecDepth 100000 in
theorem mT_2_ok : ∀ q ∈ mT_2, MG q := (List.forall_mem_cons.mpr ⟨⟨ok_F_Machine_clear, (inA 646 rfl rfl), (inA 648 rfl rfl), (inA 8 rfl rfl), _, rfl, rfl⟩, (List.forall_mem_cons.mpr ⟨⟨ok_F_Machine_insert, (inA 654 rfl rfl), (inA 656 rfl rfl), (inA 9 rfl rfl), _, rfl, rfl⟩, (List.forall_mem_cons.mpr ⟨⟨ok_F_Machine_link, (inA 665 rfl rfl), (inA 667 rfl rfl), (inA 10 rfl rfl), _, rfl, rfl⟩, (List.forall_mem_cons.mpr ⟨⟨ok_F_Machine_ruleAt, (inA 669 rfl rfl), (inA 670 rfl rfl), (inA 671 rfl rfl), _, rfl, rfl⟩, (List.forall_mem_cons.mpr ⟨⟨(inA 650 rfl rfl), (inA 651 rfl rfl), (inA 68 rfl rfl), (inA 652 rfl rfl)⟩, (List.forall_mem_cons.mpr ⟨⟨(inA 653 rfl rfl), (inA 101 rfl rfl), (inA 68 rfl rfl), (inA 102 rfl rfl)⟩, (List.forall_mem_cons.mpr ⟨⟨ok_F_Machine_after, (inA 658 rfl rfl), (inA 659 rfl rfl), (inA 660 rfl rfl), _, rfl, rfl⟩, (List.forall_mem_cons.mpr ⟨⟨ok_F_Machine_leastRule, (inA 662 rfl rfl), (inA 663 rfl rfl)⟩, (List.forall_mem_cons.mpr ⟨⟨(inA 557 rfl rfl), (inA 86 rfl rfl), (inA 87 rfl rfl)⟩, (List.forall_mem_cons.mpr ⟨⟨ok_F_Word_init, (inA 559 rfl rfl), (inA 97 rfl rfl), rfl, rfl⟩, (List.forall_mem_cons.mpr ⟨⟨(inA 93 rfl rfl), (inA 86 rfl rfl), (inA 87 rfl rfl)⟩, (List.forall_mem_cons.mpr ⟨⟨ok_F_Word_init, (inA 96 rfl rfl), (inA 97 rfl rfl), rfl, rfl⟩, (List.forall_mem_cons.mpr ⟨⟨ok_F_Presentation_clear, (inA 495 rfl rfl), (inA 497 rfl rfl), (inA 0 rfl rfl), _, rfl, rfl⟩, (List.forall_mem_cons.mpr ⟨⟨ok_F_Presentation_isPassedOver, (inA 503 rfl rfl), (inA 504 rfl rfl)⟩, (List.forall_mem_cons.mpr ⟨⟨ok_F_Presentation_takeLetter, (inA 506 rfl rfl), (inA 508 rfl rfl), (inA 1 rfl rfl), _, rfl, rfl⟩, (List.forall_mem_cons.mpr ⟨⟨ok_F_Presentation_takeInWord, (inA 513 rfl rfl), (inA 515 rfl rfl), (inA 2 rfl rfl), _, rfl, rfl⟩, (List.forall_mem_cons.mpr ⟨⟨ok_F_Presentation_isLetter, (inA 510 rfl rfl), (inA 511 rfl rfl)⟩, (List.forall_mem_cons.mpr ⟨⟨ok_F_Presentation_takeWordLetter, (inA 517 rfl rfl), (inA 519 rfl rfl), (inA 3 rfl rfl), _, rfl, rfl⟩, (List.forall_mem_cons.mpr ⟨⟨ok_F_Word_clear, (inA 499 rfl rfl), (inA 500 rfl rfl), (inA 501 rfl rfl), _, rfl, rfl⟩, (List.forall_mem_cons.mpr ⟨⟨ok_F_Word_append, (inA 575 rfl rfl), (inA 576 rfl rfl), (inA 577 rfl rfl), _, rfl, rfl⟩, (List.forall_mem_cons.mpr ⟨⟨ok_F_Presentation_endWord, (inA 525 rfl rfl), (inA 527 rfl rfl), (inA 4 rfl rfl), _, rfl, rfl⟩, (List.forall_mem_cons.mpr ⟨⟨ok_F_Word_add, (inA 521 rfl rfl), (inA 522 rfl rfl), (inA 523 rfl rfl), _, rfl, rfl⟩, (List.forall_mem_cons.mpr ⟨⟨(inA 277 rfl rfl), (inA 86 rfl rfl), (inA 87 rfl rfl)⟩, (List.forall_mem_cons.mpr ⟨⟨ok_F_Machine_renew, (inA 638 rfl rfl), (inA 639 rfl rfl), (inA 640 rfl rfl), _, rfl, rfl⟩, (fun _ h => absurd h List.not_mem_nil)⟩)⟩)⟩)⟩)⟩)⟩)⟩)⟩)⟩)⟩)⟩)⟩)⟩)⟩)⟩)⟩)⟩)⟩)⟩)⟩)⟩)⟩)⟩)⟩)
def mT_3 : List ((Nat × Nat) × (Nat × Fn)) := [((6, 46), (1, F_Reducer_putBack)), ((6, 51), (1, F_Machine_after)), ((6, 55), (1, F_Machine_ruleAt)), ((6, 59), (1, F_Rules_has)), ((6, 80), (4, F_Completion_begin)), ((6, 85), (1, F_Reducer_note)), ((6, 92), (1, F_Reducer_write)), ((6, 99), (1, F_Word_clear)), ((6, 102), (1, F_Word_add)), ((7, 3), (3, F_Completion_begin)), ((7, 24), (7, F_Pair_init)), ((7, 25), (1, F_Row_at)), ((8, 3), (3, F_Completion_begin)), ((8, 11), (2, F_Word_init)), ((8, 27), (4, F_Completion_begin)), ((8, 33), (1, F_Word_matches)), ((8, 37), (1, F_Word_become)), ((8, 41), (1, F_Word_append)), ((8, 45), (1, F_Word_clear)), ((9, 3), (3, F_Completion_begin)), ((9, 21), (7, F_Rule_init)), ((9, 29), (1, F_Rules_has)), ((9, 45), (1, F_Word_become)), ((10, 3), (3, F_Completion_begin))]
set_option maxRecDepth 100000 in
theorem mT_3_ok : ∀ q ∈ mT_3, MG q := (List.forall_mem_cons.mpr ⟨⟨ok_F_Reducer_putBack, (inA 673 rfl rfl), (inA 675 rfl rfl), (inA 11 rfl rfl), _, rfl, rfl⟩, (List.forall_mem_cons.mpr ⟨⟨ok_F_Machine_after, (inA 678 rfl rfl), (inA 659 rfl rfl), (inA 660 rfl rfl), _, rfl, rfl⟩, (List.forall_mem_cons.mpr ⟨⟨ok_F_Machine_ruleAt, (inA 679 rfl rfl), (inA 670 rfl rfl), (inA 671 rfl rfl), _, rfl, rfl⟩, (List.forall_mem_cons.mpr ⟨⟨ok_F_Rules_has, (inA 680 rfl rfl), (inA 681 rfl rfl), (inA 682 rfl rfl), _, rfl, rfl⟩, (List.forall_mem_cons.mpr ⟨⟨(inA 684 rfl rfl), (inA 651 rfl rfl), (inA 68 rfl rfl), (inA 652 rfl rfl)⟩, (List.forall_mem_cons.mpr ⟨⟨ok_F_Reducer_note, (inA 685 rfl rfl), (inA 687 rfl rfl), (inA 12 rfl rfl), _, rfl, rfl⟩, (List.forall_mem_cons.mpr ⟨⟨ok_F_Reducer_write, (inA 689 rfl rfl), (inA 691 rfl rfl), (inA 13 rfl rfl), _, rfl, rfl⟩, (List.forall_mem_cons.mpr ⟨⟨ok_F_Word_clear, (inA 693 rfl rfl), (inA 500 rfl rfl), (inA 501 rfl rfl), _, rfl, rfl⟩, (List.forall_mem_cons.mpr ⟨⟨ok_F_Word_add, (inA 694 rfl rfl), (inA 522 rfl rfl), (inA 523 rfl rfl), _, rfl, rfl⟩, (List.forall_mem_cons.mpr ⟨⟨(inA 227 rfl rfl), (inA 86 rfl rfl), (inA 87 rfl rfl)⟩, (List.forall_mem_cons.mpr ⟨⟨ok_F_Pair_init, ⟨_, List.mem_of_getElem? (i := 3) rfl⟩, (inA 555 rfl rfl), rfl, rfl⟩, (List.forall_mem_cons.mpr ⟨⟨ok_F_Row_at, (inA 626 rfl rfl), (inA 627 rfl rfl), (inA 628 rfl rfl), _, rfl, rfl⟩, (List.forall_mem_cons.mpr ⟨⟨(inA 173 rfl rfl), (inA 86 rfl rfl), (inA 87 rfl rfl)⟩, (List.forall_mem_cons.mpr ⟨⟨ok_F_Word_init, (inA 175 rfl rfl), (inA 97 rfl rfl), rfl, rfl⟩, (List.forall_mem_cons.mpr ⟨⟨(inA 739 rfl rfl), (inA 651 rfl rfl), (inA 68 rfl rfl), (inA 652 rfl rfl)⟩, (List.forall_mem_cons.mpr ⟨⟨ok_F_Word_matches, (inA 744 rfl rfl), (inA 713 rfl rfl), (inA 714 rfl rfl), _, rfl, rfl⟩, (List.forall_mem_cons.mpr ⟨⟨ok_F_Word_become, (inA 749 rfl rfl), (inA 603 rfl rfl), (inA 604 rfl rfl), _, rfl, rfl⟩, (List.forall_mem_cons.mpr ⟨⟨ok_F_Word_append, (inA 750 rfl rfl), (inA 576 rfl rfl), (inA 577 rfl rfl), _, rfl, rfl⟩, (List.forall_mem_cons.mpr ⟨⟨ok_F_Word_clear, (inA 751 rfl rfl), (inA 500 rfl rfl), (inA 501 rfl rfl), _, rfl, rfl⟩, (List.forall_mem_cons.mpr ⟨⟨(inA 166 rfl rfl), (inA 86 rfl rfl), (inA 87 rfl rfl)⟩, (List.forall_mem_cons.mpr ⟨⟨ok_F_Rule_init, ⟨_, List.mem_of_getElem? (i := 4) rfl⟩, (inA 171 rfl rfl), rfl, rfl⟩, (List.forall_mem_cons.mpr ⟨⟨ok_F_Rules_has, (inA 720 rfl rfl), (inA 681 rfl rfl), (inA 682 rfl rfl), _, rfl, rfl⟩, (List.forall_mem_cons.mpr ⟨⟨ok_F_Word_become, (inA 703 rfl rfl), (inA 603 rfl rfl), (inA 604 rfl rfl), _, rfl, rfl⟩, (List.forall_mem_cons.mpr ⟨⟨(inA 99 rfl rfl), (inA 86 rfl rfl), (inA 87 rfl rfl)⟩, (fun _ h => absurd h List.not_mem_nil)⟩)⟩)⟩)⟩)⟩)⟩)⟩)⟩)⟩)⟩)⟩)⟩)⟩)⟩)⟩)⟩)⟩)⟩)⟩)⟩)⟩)⟩)⟩)⟩)
def mT_4 : List ((Nat × Nat) × (Nat × Fn)) := [((10, 9), (5, F_Completion_begin)), ((10, 25), (1, F_Word_matches)), ((11, 3), (3, F_Completion_begin)), ((11, 19), (7, F_Presentation_init)), ((11, 32), (2, F_Rules_init)), ((11, 39), (7, F_Row_init)), ((11, 46), (7, F_Machine_init)), ((11, 53), (2, F_Reducer_init)), ((11, 62), (2, F_Completion_init)), ((11, 71), (2, F_Finder_init)), ((11, 80), (2, F_Elements_init)), ((11, 91), (2, F_Word_init)), ((11, 111), (1, F_Presentation_takeSystem)), ((11, 115), (1, F_Mr_tellFault)), ((11, 119), (1, F_Mr_beginSystem)), ((11, 125), (0, F_Mr_isSlot)), ((11, 129), (1, F_Presentation_takeSlotWord)), ((11, 136), (1, F_Word_become)), ((11, 155), (6, F_Completion_begin)), ((11, 161), (1, F_Word_clear)), ((11, 167), (1, F_Rules_begin)), ((11, 170), (1, F_Row_clear)), ((11, 171), (1, F_Row_behind)), ((11, 178), (1, F_Presentation_copyWord))]
set_option maxRecDepth 100000 in
theorem mT_4_ok : ∀ q ∈ mT_4, MG q := (List.forall_mem_cons.mpr ⟨⟨(inA 100 rfl rfl), (inA 101 rfl rfl), (inA 68 rfl rfl), (inA 102 rfl rfl)⟩, (List.forall_mem_cons.mpr ⟨⟨ok_F_Word_matches, (inA 712 rfl rfl), (inA 713 rfl rfl), (inA 714 rfl rfl), _, rfl, rfl⟩, (List.forall_mem_cons.mpr ⟨⟨(inA 85 rfl rfl), (inA 86 rfl rfl), (inA 87 rfl rfl)⟩, (List.forall_mem_cons.mpr ⟨⟨ok_F_Presentation_init, ⟨_, List.mem_of_getElem? (i := 0) rfl⟩, (inA 91 rfl rfl), rfl, rfl⟩, (List.forall_mem_cons.mpr ⟨⟨ok_F_Rules_init, (inA 163 rfl rfl), (inA 164 rfl rfl), rfl, rfl⟩, (List.forall_mem_cons.mpr ⟨⟨ok_F_Row_init, ⟨_, List.mem_of_getElem? (i := 1) rfl⟩, (inA 225 rfl rfl), rfl, rfl⟩, (List.forall_mem_cons.mpr ⟨⟨ok_F_Machine_init, ⟨_, List.mem_of_getElem? (i := 2) rfl⟩, (inA 245 rfl rfl), rfl, rfl⟩, (List.forall_mem_cons.mpr ⟨⟨ok_F_Reducer_init, (inA 274 rfl rfl), (inA 275 rfl rfl), rfl, rfl⟩, (List.forall_mem_cons.mpr ⟨⟨ok_F_Completion_init, (inA 309 rfl rfl), (inA 310 rfl rfl), rfl, rfl⟩, (List.forall_mem_cons.mpr ⟨⟨ok_F_Finder_init, (inA 345 rfl rfl), (inA 346 rfl rfl), rfl, rfl⟩, (List.forall_mem_cons.mpr ⟨⟨ok_F_Elements_init, (inA 388 rfl rfl), (inA 389 rfl rfl), rfl, rfl⟩, (List.forall_mem_cons.mpr ⟨⟨ok_F_Word_init, (inA 421 rfl rfl), (inA 97 rfl rfl), rfl, rfl⟩, (List.forall_mem_cons.mpr ⟨⟨ok_F_Presentation_takeSystem, (inA 491 rfl rfl), (inA 492 rfl rfl), (inA 493 rfl rfl), _, rfl, rfl⟩, (List.forall_mem_cons.mpr ⟨⟨ok_F_Mr_tellFault, (inA 529 rfl rfl), (inA 531 rfl rfl), (inA 5 rfl rfl), _, rfl, rfl⟩, (List.forall_mem_cons.mpr ⟨⟨ok_F_Mr_beginSystem, (inA 533 rfl rfl), (inA 535 rfl rfl), (inA 6 rfl rfl), _, rfl, rfl⟩, (List.forall_mem_cons.mpr ⟨⟨ok_F_Mr_isSlot, (inA 595 rfl rfl), (inA 596 rfl rfl)⟩, (List.forall_mem_cons.mpr ⟨⟨ok_F_Presentation_takeSlotWord, (inA 598 rfl rfl), (inA 599 rfl rfl), (inA 600 rfl rfl), _, rfl, rfl⟩, (List.forall_mem_cons.mpr ⟨⟨ok_F_Word_become, (inA 602 rfl rfl), (inA 603 rfl rfl), (inA 604 rfl rfl), _, rfl, rfl⟩, (List.forall_mem_cons.mpr ⟨⟨(inA 537 rfl rfl), (inA 539 rfl rfl), (inA 538 rfl rfl), (inA 78 rfl rfl)⟩, (List.forall_mem_cons.mpr ⟨⟨ok_F_Word_clear, (inA 540 rfl rfl), (inA 500 rfl rfl), (inA 501 rfl rfl), _, rfl, rfl⟩, (List.forall_mem_cons.mpr ⟨⟨ok_F_Rules_begin, (inA 541 rfl rfl), (inA 542 rfl rfl), (inA 543 rfl rfl), _, rfl, rfl⟩, (List.forall_mem_cons.mpr ⟨⟨ok_F_Row_clear, (inA 545 rfl rfl), (inA 546 rfl rfl), (inA 547 rfl rfl), _, rfl, rfl⟩, (List.forall_mem_cons.mpr ⟨⟨ok_F_Row_behind, (inA 549 rfl rfl), (inA 550 rfl rfl), (inA 551 rfl rfl), _, rfl, rfl⟩, (List.forall_mem_cons.mpr ⟨⟨ok_F_Presentation_copyWord, (inA 571 rfl rfl), (inA 572 rfl rfl), (inA 573 rfl rfl), _, rfl, rfl⟩, (fun _ h => absurd h List.not_mem_nil)⟩)⟩)⟩)⟩)⟩)⟩)⟩)⟩)⟩)⟩)⟩)⟩)⟩)⟩)⟩)⟩)⟩)⟩)⟩)⟩)⟩)⟩)⟩)⟩)
def mT_5 : List ((Nat × Nat) × (Nat × Fn)) := [((11, 183), (1, F_Completion_begin)), ((11, 185), (1, F_Finder_begin)), ((11, 186), (1, F_Elements_begin)), ((11, 190), (1, F_Completion_canTreat)), ((11, 194), (1, F_Completion_treat)), ((11, 197), (1, F_Finder_forgetAnswer)), ((11, 204), (1, F_Completion_isDone)), ((11, 211), (1, F_Rules_liveOnes)), ((11, 223), (1, F_Rules_has)), ((11, 241), (0, F_Mr_isSide)), ((11, 244), (1, F_Word_at)), ((11, 248), (1, F_Row_at)), ((11, 251), (1, F_Finder_find)), ((11, 266), (1, F_Word_append)), ((11, 270), (1, F_Reducer_toForm)), ((11, 275), (4, F_Completion_begin)), ((11, 287), (1, F_Word_against)), ((11, 295), (1, F_Elements_ofLength)), ((11, 303), (1, F_Elements_total)), ((11, 307), (1, F_Elements_spell)), ((11, 311), (1, F_Mr_formNumber)), ((11, 314), (1, F_Mr_multiply)), ((11, 318), (1, F_Mr_earlierPower)), ((11, 321), (1, F_Mr_lettersCommute))]
set_option maxRecDepth 100000 in
theorem mT_5_ok : ∀ q ∈ mT_5, MG q := (List.forall_mem_cons.mpr ⟨⟨ok_F_Completion_begin, (inA 579 rfl rfl), (inA 580 rfl rfl), (inA 581 rfl rfl), _, rfl, rfl⟩, (List.forall_mem_cons.mpr ⟨⟨ok_F_Finder_begin, (inA 583 rfl rfl), (inA 584 rfl rfl), (inA 585 rfl rfl), _, rfl, rfl⟩, (List.forall_mem_cons.mpr ⟨⟨ok_F_Elements_begin, (inA 587 rfl rfl), (inA 588 rfl rfl), (inA 589 rfl rfl), _, rfl, rfl⟩, (List.forall_mem_cons.mpr ⟨⟨ok_F_Completion_canTreat, (inA 614 rfl rfl), (inA 615 rfl rfl), (inA 616 rfl rfl), _, rfl, rfl⟩, (List.forall_mem_cons.mpr ⟨⟨ok_F_Completion_treat, (inA 618 rfl rfl), (inA 619 rfl rfl), (inA 620 rfl rfl), _, rfl, rfl⟩, (List.forall_mem_cons.mpr ⟨⟨ok_F_Finder_forgetAnswer, (inA 752 rfl rfl), (inA 753 rfl rfl), (inA 754 rfl rfl), _, rfl, rfl⟩, (List.forall_mem_cons.mpr ⟨⟨ok_F_Completion_isDone, (inA 756 rfl rfl), (inA 757 rfl rfl), (inA 758 rfl rfl), _, rfl, rfl⟩, (List.forall_mem_cons.mpr ⟨⟨ok_F_Rules_liveOnes, (inA 764 rfl rfl), (inA 765 rfl rfl), (inA 766 rfl rfl), _, rfl, rfl⟩, (List.forall_mem_cons.mpr ⟨⟨ok_F_Rules_has, (inA 772 rfl rfl), (inA 681 rfl rfl), (inA 682 rfl rfl), _, rfl, rfl⟩, (List.forall_mem_cons.mpr ⟨⟨ok_F_Mr_isSide, (inA 777 rfl rfl), (inA 778 rfl rfl)⟩, (List.forall_mem_cons.mpr ⟨⟨ok_F_Word_at, (inA 780 rfl rfl), (inA 781 rfl rfl), (inA 782 rfl rfl), _, rfl, rfl⟩, (List.forall_mem_cons.mpr ⟨⟨ok_F_Row_at, (inA 788 rfl rfl), (inA 627 rfl rfl), (inA 628 rfl rfl), _, rfl, rfl⟩, (List.forall_mem_cons.mpr ⟨⟨ok_F_Finder_find, (inA 793 rfl rfl), (inA 794 rfl rfl), (inA 795 rfl rfl), _, rfl, rfl⟩, (List.forall_mem_cons.mpr ⟨⟨ok_F_Word_append, (inA 830 rfl rfl), (inA 576 rfl rfl), (inA 577 rfl rfl), _, rfl, rfl⟩, (List.forall_mem_cons.mpr ⟨⟨ok_F_Reducer_toForm, (inA 835 rfl rfl), (inA 635 rfl rfl), (inA 636 rfl rfl), _, rfl, rfl⟩, (List.forall_mem_cons.mpr ⟨⟨(inA 836 rfl rfl), (inA 651 rfl rfl), (inA 68 rfl rfl), (inA 652 rfl rfl)⟩, (List.forall_mem_cons.mpr ⟨⟨ok_F_Word_against, (inA 845 rfl rfl), (inA 696 rfl rfl), (inA 697 rfl rfl), _, rfl, rfl⟩, (List.forall_mem_cons.mpr ⟨⟨ok_F_Elements_ofLength, (inA 856 rfl rfl), (inA 857 rfl rfl), (inA 858 rfl rfl), _, rfl, rfl⟩, (List.forall_mem_cons.mpr ⟨⟨ok_F_Elements_total, (inA 892 rfl rfl), (inA 893 rfl rfl), (inA 894 rfl rfl), _, rfl, rfl⟩, (List.forall_mem_cons.mpr ⟨⟨ok_F_Elements_spell, (inA 914 rfl rfl), (inA 915 rfl rfl), (inA 916 rfl rfl), _, rfl, rfl⟩, (List.forall_mem_cons.mpr ⟨⟨ok_F_Mr_formNumber, (inA 930 rfl rfl), (inA 932 rfl rfl), (inA 27 rfl rfl), _, rfl, rfl⟩, (List.forall_mem_cons.mpr ⟨⟨ok_F_Mr_multiply, (inA 943 rfl rfl), (inA 945 rfl rfl), (inA 28 rfl rfl), _, rfl, rfl⟩, (List.forall_mem_cons.mpr ⟨⟨ok_F_Mr_earlierPower, (inA 951 rfl rfl), (inA 953 rfl rfl), (inA 29 rfl rfl), _, rfl, rfl⟩, (List.forall_mem_cons.mpr ⟨⟨ok_F_Mr_lettersCommute, (inA 963 rfl rfl), (inA 965 rfl rfl), (inA 30 rfl rfl), _, rfl, rfl⟩, (fun _ h => absurd h List.not_mem_nil)⟩)⟩)⟩)⟩)⟩)⟩)⟩)⟩)⟩)⟩)⟩)⟩)⟩)⟩)⟩)⟩)⟩)⟩)⟩)⟩)⟩)⟩)⟩)⟩)
def mT_6 : List ((Nat × Nat) × (Nat × Fn)) := [((11, 325), (1, F_Word_add)), ((11, 328), (1, F_Elements_rank)), ((12, 9), (0, F_Md_in)), ((12, 40), (1, F_Md_here)), ((12, 44), (0, F_Md_isLetter)), ((12, 48), (1, F_Md_bad)), ((12, 58), (1, F_Md_readWord)), ((12, 68), (1, F_Md_begin)), ((12, 72), (1, F_Md_readLetters)), ((12, 75), (1, F_Md_readEquations)), ((12, 78), (1, F_Md_faulty)), ((12, 126), (0, F_Md_isSlot)), ((12, 135), (3, F_Completion_begin)), ((12, 202), (1, F_Md_ends)), ((12, 209), (1, F_Md_endsAt)), ((12, 213), (1, F_Md_shrink)), ((12, 216), (1, F_Md_standsIn)), ((12, 220), (1, F_Md_waits)), ((12, 224), (1, F_Md_form)), ((12, 233), (1, F_Md_overlaps)), ((12, 237), (0, F_Md_greater)), ((12, 241), (1, F_Md_isMade)), ((12, 244), (1, F_Md_dropOlder)), ((12, 247), (1, F_Md_shortenOlder))]
set_option maxRecDepth 100000 in
theorem mT_6_ok : ∀ q ∈ mT_6, MG q := (List.forall_mem_cons.mpr ⟨⟨ok_F_Word_add, (inA 967 rfl rfl), (inA 522 rfl rfl), (inA 523 rfl rfl), _, rfl, rfl⟩, (List.forall_mem_cons.mpr ⟨⟨ok_F_Elements_rank, (inA 934 rfl rfl), (inA 935 rfl rfl), (inA 936 rfl rfl), _, rfl, rfl⟩, (List.forall_mem_cons.mpr ⟨⟨ok_F_Md_in, (inA 973 rfl rfl), (inA 974 rfl rfl)⟩, (List.forall_mem_cons.mpr ⟨⟨ok_F_Md_here, (inA 990 rfl rfl), (inA 992 rfl rfl), (inA 33 rfl rfl), _, rfl, rfl⟩, (List.forall_mem_cons.mpr ⟨⟨ok_F_Md_isLetter, (inA 994 rfl rfl), (inA 995 rfl rfl)⟩, (List.forall_mem_cons.mpr ⟨⟨ok_F_Md_bad, (inA 997 rfl rfl), (inA 999 rfl rfl), (inA 34 rfl rfl), _, rfl, rfl⟩, (List.forall_mem_cons.mpr ⟨⟨ok_F_Md_readWord, (inA 1005 rfl rfl), (inA 1007 rfl rfl), (inA 36 rfl rfl), _, rfl, rfl⟩, (List.forall_mem_cons.mpr ⟨⟨ok_F_Md_begin, (inA 981 rfl rfl), (inA 983 rfl rfl), (inA 31 rfl rfl), _, rfl, rfl⟩, (List.forall_mem_cons.mpr ⟨⟨ok_F_Md_readLetters, (inA 986 rfl rfl), (inA 988 rfl rfl), (inA 32 rfl rfl), _, rfl, rfl⟩, (List.forall_mem_cons.mpr ⟨⟨ok_F_Md_readEquations, (inA 1001 rfl rfl), (inA 1003 rfl rfl), (inA 35 rfl rfl), _, rfl, rfl⟩, (List.forall_mem_cons.mpr ⟨⟨ok_F_Md_faulty, (inA 1009 rfl rfl), (inA 1011 rfl rfl), (inA 37 rfl rfl), _, rfl, rfl⟩, (List.forall_mem_cons.mpr ⟨⟨ok_F_Md_isSlot, (inA 1021 rfl rfl), (inA 1022 rfl rfl)⟩, (List.forall_mem_cons.mpr ⟨⟨(inA 1029 rfl rfl), (inA 86 rfl rfl), (inA 87 rfl rfl)⟩, (List.forall_mem_cons.mpr ⟨⟨ok_F_Md_ends, (inA 1224 rfl rfl), (inA 1226 rfl rfl), (inA 42 rfl rfl), _, rfl, rfl⟩, (List.forall_mem_cons.mpr ⟨⟨ok_F_Md_endsAt, (inA 1220 rfl rfl), (inA 1222 rfl rfl), (inA 41 rfl rfl), _, rfl, rfl⟩, (List.forall_mem_cons.mpr ⟨⟨ok_F_Md_shrink, (inA 1216 rfl rfl), (inA 1218 rfl rfl), (inA 40 rfl rfl), _, rfl, rfl⟩, (List.forall_mem_cons.mpr ⟨⟨ok_F_Md_standsIn, (inA 1239 rfl rfl), (inA 1241 rfl rfl), (inA 45 rfl rfl), _, rfl, rfl⟩, (List.forall_mem_cons.mpr ⟨⟨ok_F_Md_waits, (inA 1243 rfl rfl), (inA 1245 rfl rfl), (inA 46 rfl rfl), _, rfl, rfl⟩, (List.forall_mem_cons.mpr ⟨⟨ok_F_Md_form, (inA 1212 rfl rfl), (inA 1214 rfl rfl), (inA 39 rfl rfl), _, rfl, rfl⟩, (List.forall_mem_cons.mpr ⟨⟨ok_F_Md_overlaps, (inA 1255 rfl rfl), (inA 1257 rfl rfl), (inA 49 rfl rfl), _, rfl, rfl⟩, (List.forall_mem_cons.mpr ⟨⟨ok_F_Md_greater, (inA 1228 rfl rfl), (inA 1229 rfl rfl)⟩, (List.forall_mem_cons.mpr ⟨⟨ok_F_Md_isMade, (inA 1231 rfl rfl), (inA 1233 rfl rfl), (inA 43 rfl rfl), _, rfl, rfl⟩, (List.forall_mem_cons.mpr ⟨⟨ok_F_Md_dropOlder, (inA 1235 rfl rfl), (inA 1237 rfl rfl), (inA 44 rfl rfl), _, rfl, rfl⟩, (List.forall_mem_cons.mpr ⟨⟨ok_F_Md_shortenOlder, (inA 1247 rfl rfl), (inA 1249 rfl rfl), (inA 47 rfl rfl), _, rfl, rfl⟩, (fun _ h => absurd h List.not_mem_nil)⟩)⟩)⟩)⟩)⟩)⟩)⟩)⟩)⟩)⟩)⟩)⟩)⟩)⟩)⟩)⟩)⟩)⟩)⟩)⟩)⟩)⟩)⟩)⟩)
def mT_7 : List ((Nat × Nat) × (Nat × Fn)) := [((12, 250), (1, F_Md_overlapAll)), ((12, 255), (1, F_Md_treat)), ((12, 258), (1, F_Md_live)), ((12, 261), (1, F_Md_isComplete)), ((12, 265), (1, F_Md_isRule)), ((12, 276), (1, F_Md_takeOne)), ((12, 280), (1, F_Md_toSlot)), ((12, 286), (1, F_Md_node)), ((12, 293), (0, F_Md_sum)), ((12, 306), (1, F_Md_layTree)), ((12, 309), (1, F_Md_countWays)), ((12, 312), (1, F_Md_countAll)), ((12, 321), (1, F_Md_counted)), ((12, 328), (1, F_Md_isElement)), ((12, 331), (1, F_Md_layElement)), ((12, 337), (1, F_Md_numberOf)), ((12, 341), (1, F_Md_productOf)), ((13, 9), (2, F_Mr_init)), ((13, 12), (2, F_Md_init)), ((13, 15), (1, F_Mr_feed)), ((13, 19), (1, F_Md_feed)), ((13, 20), (1, F_Mr_read)), ((13, 24), (1, F_Md_read)), ((13, 25), (1, F_Mr_word))]
set_option maxRecDepth 100000 in
theorem mT_7_ok : ∀ q ∈ mT_7, MG q := (List.forall_mem_cons.mpr ⟨⟨ok_F_Md_overlapAll, (inA 1251 rfl rfl), (inA 1253 rfl rfl), (inA 48 rfl rfl), _, rfl, rfl⟩, (List.forall_mem_cons.mpr ⟨⟨ok_F_Md_treat, (inA 1208 rfl rfl), (inA 1210 rfl rfl), (inA 38 rfl rfl), _, rfl, rfl⟩, (List.forall_mem_cons.mpr ⟨⟨ok_F_Md_live, (inA 1263 rfl rfl), (inA 1265 rfl rfl), (inA 50 rfl rfl), _, rfl, rfl⟩, (List.forall_mem_cons.mpr ⟨⟨ok_F_Md_isComplete, (inA 1267 rfl rfl), (inA 1269 rfl rfl), (inA 51 rfl rfl), _, rfl, rfl⟩, (List.forall_mem_cons.mpr ⟨⟨ok_F_Md_isRule, (inA 1275 rfl rfl), (inA 1277 rfl rfl), (inA 52 rfl rfl), _, rfl, rfl⟩, (List.forall_mem_cons.mpr ⟨⟨ok_F_Md_takeOne, (inA 1308 rfl rfl), (inA 1310 rfl rfl), (inA 53 rfl rfl), _, rfl, rfl⟩, (List.forall_mem_cons.mpr ⟨⟨ok_F_Md_toSlot, (inA 1312 rfl rfl), (inA 1314 rfl rfl), (inA 54 rfl rfl), _, rfl, rfl⟩, (List.forall_mem_cons.mpr ⟨⟨ok_F_Md_node, (inA 1347 rfl rfl), (inA 1349 rfl rfl), (inA 57 rfl rfl), _, rfl, rfl⟩, (List.forall_mem_cons.mpr ⟨⟨ok_F_Md_sum, (inA 1355 rfl rfl), (inA 1356 rfl rfl)⟩, (List.forall_mem_cons.mpr ⟨⟨ok_F_Md_layTree, (inA 1343 rfl rfl), (inA 1345 rfl rfl), (inA 56 rfl rfl), _, rfl, rfl⟩, (List.forall_mem_cons.mpr ⟨⟨ok_F_Md_countWays, (inA 1351 rfl rfl), (inA 1353 rfl rfl), (inA 58 rfl rfl), _, rfl, rfl⟩, (List.forall_mem_cons.mpr ⟨⟨ok_F_Md_countAll, (inA 1360 rfl rfl), (inA 1362 rfl rfl), (inA 59 rfl rfl), _, rfl, rfl⟩, (List.forall_mem_cons.mpr ⟨⟨ok_F_Md_counted, (inA 1339 rfl rfl), (inA 1341 rfl rfl), (inA 55 rfl rfl), _, rfl, rfl⟩, (List.forall_mem_cons.mpr ⟨⟨ok_F_Md_isElement, (inA 1375 rfl rfl), (inA 1377 rfl rfl), (inA 60 rfl rfl), _, rfl, rfl⟩, (List.forall_mem_cons.mpr ⟨⟨ok_F_Md_layElement, (inA 1379 rfl rfl), (inA 1381 rfl rfl), (inA 61 rfl rfl), _, rfl, rfl⟩, (List.forall_mem_cons.mpr ⟨⟨ok_F_Md_numberOf, (inA 1387 rfl rfl), (inA 1389 rfl rfl), (inA 62 rfl rfl), _, rfl, rfl⟩, (List.forall_mem_cons.mpr ⟨⟨ok_F_Md_productOf, (inA 1396 rfl rfl), (inA 1398 rfl rfl), (inA 63 rfl rfl), _, rfl, rfl⟩, (List.forall_mem_cons.mpr ⟨⟨ok_F_Mr_init, (inA 82 rfl rfl), (inA 83 rfl rfl), rfl, rfl⟩, (List.forall_mem_cons.mpr ⟨⟨ok_F_Md_init, (inA 1026 rfl rfl), (inA 1027 rfl rfl), rfl, rfl⟩, (List.forall_mem_cons.mpr ⟨⟨ok_F_Mr_feed, (inA 483 rfl rfl), (inA 484 rfl rfl), (inA 485 rfl rfl), _, rfl, rfl⟩, (List.forall_mem_cons.mpr ⟨⟨ok_F_Md_feed, (inA 968 rfl rfl), (inA 969 rfl rfl), (inA 970 rfl rfl), _, rfl, rfl⟩, (List.forall_mem_cons.mpr ⟨⟨ok_F_Mr_read, (inA 487 rfl rfl), (inA 488 rfl rfl), (inA 489 rfl rfl), _, rfl, rfl⟩, (List.forall_mem_cons.mpr ⟨⟨ok_F_Md_read, (inA 977 rfl rfl), (inA 978 rfl rfl), (inA 979 rfl rfl), _, rfl, rfl⟩, (List.forall_mem_cons.mpr ⟨⟨ok_F_Mr_word, (inA 591 rfl rfl), (inA 592 rfl rfl), (inA 593 rfl rfl), _, rfl, rfl⟩, (fun _ h => absurd h List.not_mem_nil)⟩)⟩)⟩)⟩)⟩)⟩)⟩)⟩)⟩)⟩)⟩)⟩)⟩)⟩)⟩)⟩)⟩)⟩)⟩)⟩)⟩)⟩)⟩)⟩)
def mT_8 : List ((Nat × Nat) × (Nat × Fn)) := [((13, 29), (1, F_Md_word)), ((13, 30), (1, F_Mr_fault)), ((13, 33), (1, F_Md_fault)), ((13, 34), (1, F_Mr_complete)), ((13, 37), (1, F_Md_complete)), ((13, 38), (1, F_Mr_count)), ((13, 41), (1, F_Md_count)), ((13, 42), (1, F_Mr_rule)), ((13, 46), (1, F_Md_rule)), ((13, 47), (1, F_Mr_ruleLetter)), ((13, 51), (1, F_Md_ruleLetter)), ((13, 52), (1, F_Mr_waiting)), ((13, 55), (1, F_Md_waiting)), ((13, 56), (1, F_Mr_open)), ((13, 59), (1, F_Md_open)), ((13, 60), (1, F_Mr_overlap)), ((13, 63), (1, F_Md_overlap)), ((13, 64), (1, F_Mr_length)), ((13, 67), (1, F_Md_length)), ((13, 68), (1, F_Mr_letter)), ((13, 71), (1, F_Md_letter)), ((13, 72), (1, F_Mr_join)), ((13, 75), (1, F_Md_join)), ((13, 76), (1, F_Mr_reduce))]
set_option maxRecDepth 100000 in
theorem mT_8_ok : ∀ q ∈ mT_8, MG q := (List.forall_mem_cons.mpr ⟨⟨ok_F_Md_word, (inA 1017 rfl rfl), (inA 1018 rfl rfl), (inA 1019 rfl rfl), _, rfl, rfl⟩, (List.forall_mem_cons.mpr ⟨⟨ok_F_Mr_fault, (inA 606 rfl rfl), (inA 607 rfl rfl), (inA 608 rfl rfl), _, rfl, rfl⟩, (List.forall_mem_cons.mpr ⟨⟨ok_F_Md_fault, (inA 1013 rfl rfl), (inA 1014 rfl rfl), (inA 1015 rfl rfl), _, rfl, rfl⟩, (List.forall_mem_cons.mpr ⟨⟨ok_F_Mr_complete, (inA 610 rfl rfl), (inA 611 rfl rfl), (inA 612 rfl rfl), _, rfl, rfl⟩, (List.forall_mem_cons.mpr ⟨⟨ok_F_Md_complete, (inA 1203 rfl rfl), (inA 1204 rfl rfl), (inA 1205 rfl rfl), _, rfl, rfl⟩, (List.forall_mem_cons.mpr ⟨⟨ok_F_Mr_count, (inA 760 rfl rfl), (inA 761 rfl rfl), (inA 762 rfl rfl), _, rfl, rfl⟩, (List.forall_mem_cons.mpr ⟨⟨ok_F_Md_count, (inA 1259 rfl rfl), (inA 1260 rfl rfl), (inA 1261 rfl rfl), _, rfl, rfl⟩, (List.forall_mem_cons.mpr ⟨⟨ok_F_Mr_rule, (inA 768 rfl rfl), (inA 769 rfl rfl), (inA 770 rfl rfl), _, rfl, rfl⟩, (List.forall_mem_cons.mpr ⟨⟨ok_F_Md_rule, (inA 1271 rfl rfl), (inA 1272 rfl rfl), (inA 1273 rfl rfl), _, rfl, rfl⟩, (List.forall_mem_cons.mpr ⟨⟨ok_F_Mr_ruleLetter, (inA 773 rfl rfl), (inA 774 rfl rfl), (inA 775 rfl rfl), _, rfl, rfl⟩, (List.forall_mem_cons.mpr ⟨⟨ok_F_Md_ruleLetter, (inA 1280 rfl rfl), (inA 1281 rfl rfl), (inA 1282 rfl rfl), _, rfl, rfl⟩, (List.forall_mem_cons.mpr ⟨⟨ok_F_Mr_waiting, (inA 784 rfl rfl), (inA 785 rfl rfl), (inA 786 rfl rfl), _, rfl, rfl⟩, (List.forall_mem_cons.mpr ⟨⟨ok_F_Md_waiting, (inA 1284 rfl rfl), (inA 1285 rfl rfl), (inA 1286 rfl rfl), _, rfl, rfl⟩, (List.forall_mem_cons.mpr ⟨⟨ok_F_Mr_open, (inA 789 rfl rfl), (inA 790 rfl rfl), (inA 791 rfl rfl), _, rfl, rfl⟩, (List.forall_mem_cons.mpr ⟨⟨ok_F_Md_open, (inA 1288 rfl rfl), (inA 1289 rfl rfl), (inA 1290 rfl rfl), _, rfl, rfl⟩, (List.forall_mem_cons.mpr ⟨⟨ok_F_Mr_overlap, (inA 814 rfl rfl), (inA 815 rfl rfl), (inA 816 rfl rfl), _, rfl, rfl⟩, (List.forall_mem_cons.mpr ⟨⟨ok_F_Md_overlap, (inA 1292 rfl rfl), (inA 1293 rfl rfl), (inA 1294 rfl rfl), _, rfl, rfl⟩, (List.forall_mem_cons.mpr ⟨⟨ok_F_Mr_length, (inA 818 rfl rfl), (inA 819 rfl rfl), (inA 820 rfl rfl), _, rfl, rfl⟩, (List.forall_mem_cons.mpr ⟨⟨ok_F_Md_length, (inA 1296 rfl rfl), (inA 1297 rfl rfl), (inA 1298 rfl rfl), _, rfl, rfl⟩, (List.forall_mem_cons.mpr ⟨⟨ok_F_Mr_letter, (inA 822 rfl rfl), (inA 823 rfl rfl), (inA 824 rfl rfl), _, rfl, rfl⟩, (List.forall_mem_cons.mpr ⟨⟨ok_F_Md_letter, (inA 1300 rfl rfl), (inA 1301 rfl rfl), (inA 1302 rfl rfl), _, rfl, rfl⟩, (List.forall_mem_cons.mpr ⟨⟨ok_F_Mr_join, (inA 826 rfl rfl), (inA 827 rfl rfl), (inA 828 rfl rfl), _, rfl, rfl⟩, (List.forall_mem_cons.mpr ⟨⟨ok_F_Md_join, (inA 1304 rfl rfl), (inA 1305 rfl rfl), (inA 1306 rfl rfl), _, rfl, rfl⟩, (List.forall_mem_cons.mpr ⟨⟨ok_F_Mr_reduce, (inA 831 rfl rfl), (inA 832 rfl rfl), (inA 833 rfl rfl), _, rfl, rfl⟩, (fun _ h => absurd h List.not_mem_nil)⟩)⟩)⟩)⟩)⟩)⟩)⟩)⟩)⟩)⟩)⟩)⟩)⟩)⟩)⟩)⟩)⟩)⟩)⟩)⟩)⟩)⟩)⟩)⟩)
def mT_9 : List ((Nat × Nat) × (Nat × Fn)) := [((13, 79), (1, F_Md_reduce)), ((13, 80), (1, F_Mr_step)), ((13, 83), (1, F_Md_step)), ((13, 84), (1, F_Mr_same)), ((13, 87), (1, F_Md_same)), ((13, 88), (1, F_Mr_compare)), ((13, 91), (1, F_Md_compare)), ((13, 92), (1, F_Mr_many)), ((13, 96), (1, F_Md_many)), ((13, 97), (1, F_Mr_size)), ((13, 101), (1, F_Md_size)), ((13, 102), (1, F_Mr_element)), ((13, 105), (1, F_Md_element)), ((13, 106), (1, F_Mr_number)), ((13, 109), (1, F_Md_number)), ((13, 110), (1, F_Mr_product)), ((13, 113), (1, F_Md_product)), ((13, 114), (1, F_Mr_power)), ((13, 117), (1, F_Md_power)), ((13, 118), (1, F_Mr_inverse)), ((13, 121), (1, F_Md_inverse)), ((13, 122), (1, F_Mr_commutes)), ((13, 125), (1, F_Md_commutes))]
set_option maxRecDepth 100000 in
theorem mT_9_ok : ∀ q ∈ mT_9, MG q := (List.forall_mem_cons.mpr ⟨⟨ok_F_Md_reduce, (inA 1316 rfl rfl), (inA 1317 rfl rfl), (inA 1318 rfl rfl), _, rfl, rfl⟩, (List.forall_mem_cons.mpr ⟨⟨ok_F_Mr_step, (inA 837 rfl rfl), (inA 838 rfl rfl), (inA 839 rfl rfl), _, rfl, rfl⟩, (List.forall_mem_cons.mpr ⟨⟨ok_F_Md_step, (inA 1320 rfl rfl), (inA 1321 rfl rfl), (inA 1322 rfl rfl), _, rfl, rfl⟩, (List.forall_mem_cons.mpr ⟨⟨ok_F_Mr_same, (inA 841 rfl rfl), (inA 842 rfl rfl), (inA 843 rfl rfl), _, rfl, rfl⟩, (List.forall_mem_cons.mpr ⟨⟨ok_F_Md_same, (inA 1324 rfl rfl), (inA 1325 rfl rfl), (inA 1326 rfl rfl), _, rfl, rfl⟩, (List.forall_mem_cons.mpr ⟨⟨ok_F_Mr_compare, (inA 846 rfl rfl), (inA 847 rfl rfl), (inA 848 rfl rfl), _, rfl, rfl⟩, (List.forall_mem_cons.mpr ⟨⟨ok_F_Md_compare, (inA 1328 rfl rfl), (inA 1329 rfl rfl), (inA 1330 rfl rfl), _, rfl, rfl⟩, (List.forall_mem_cons.mpr ⟨⟨ok_F_Mr_many, (inA 850 rfl rfl), (inA 851 rfl rfl), (inA 852 rfl rfl), _, rfl, rfl⟩, (List.forall_mem_cons.mpr ⟨⟨ok_F_Md_many, (inA 1332 rfl rfl), (inA 1333 rfl rfl), (inA 1334 rfl rfl), _, rfl, rfl⟩, (List.forall_mem_cons.mpr ⟨⟨ok_F_Mr_size, (inA 888 rfl rfl), (inA 889 rfl rfl), (inA 890 rfl rfl), _, rfl, rfl⟩, (List.forall_mem_cons.mpr ⟨⟨ok_F_Md_size, (inA 1366 rfl rfl), (inA 1367 rfl rfl), (inA 1368 rfl rfl), _, rfl, rfl⟩, (List.forall_mem_cons.mpr ⟨⟨ok_F_Mr_element, (inA 910 rfl rfl), (inA 911 rfl rfl), (inA 912 rfl rfl), _, rfl, rfl⟩, (List.forall_mem_cons.mpr ⟨⟨ok_F_Md_element, (inA 1371 rfl rfl), (inA 1372 rfl rfl), (inA 1373 rfl rfl), _, rfl, rfl⟩, (List.forall_mem_cons.mpr ⟨⟨ok_F_Mr_number, (inA 926 rfl rfl), (inA 927 rfl rfl), (inA 928 rfl rfl), _, rfl, rfl⟩, (List.forall_mem_cons.mpr ⟨⟨ok_F_Md_number, (inA 1383 rfl rfl), (inA 1384 rfl rfl), (inA 1385 rfl rfl), _, rfl, rfl⟩, (List.forall_mem_cons.mpr ⟨⟨ok_F_Mr_product, (inA 939 rfl rfl), (inA 940 rfl rfl), (inA 941 rfl rfl), _, rfl, rfl⟩, (List.forall_mem_cons.mpr ⟨⟨ok_F_Md_product, (inA 1392 rfl rfl), (inA 1393 rfl rfl), (inA 1394 rfl rfl), _, rfl, rfl⟩, (List.forall_mem_cons.mpr ⟨⟨ok_F_Mr_power, (inA 947 rfl rfl), (inA 948 rfl rfl), (inA 949 rfl rfl), _, rfl, rfl⟩, (List.forall_mem_cons.mpr ⟨⟨ok_F_Md_power, (inA 1400 rfl rfl), (inA 1401 rfl rfl), (inA 1402 rfl rfl), _, rfl, rfl⟩, (List.forall_mem_cons.mpr ⟨⟨ok_F_Mr_inverse, (inA 955 rfl rfl), (inA 956 rfl rfl), (inA 957 rfl rfl), _, rfl, rfl⟩, (List.forall_mem_cons.mpr ⟨⟨ok_F_Md_inverse, (inA 1404 rfl rfl), (inA 1405 rfl rfl), (inA 1406 rfl rfl), _, rfl, rfl⟩, (List.forall_mem_cons.mpr ⟨⟨ok_F_Mr_commutes, (inA 959 rfl rfl), (inA 960 rfl rfl), (inA 961 rfl rfl), _, rfl, rfl⟩, (List.forall_mem_cons.mpr ⟨⟨ok_F_Md_commutes, (inA 1408 rfl rfl), (inA 1409 rfl rfl), (inA 1410 rfl rfl), _, rfl, rfl⟩, (fun _ h => absurd h List.not_mem_nil)⟩)⟩)⟩)⟩)⟩)⟩)⟩)⟩)⟩)⟩)⟩)⟩)⟩)⟩)⟩)⟩)⟩)⟩)⟩)⟩)⟩)⟩)⟩)
def mT : List ((Nat × Nat) × (Nat × Fn)) := mT_0 ++ (mT_1 ++ (mT_2 ++ (mT_3 ++ (mT_4 ++ (mT_5 ++ (mT_6 ++ (mT_7 ++ (mT_8 ++ (mT_9)))))))))
theorem mT_ok : ∀ q ∈ mT, MG q := (List.forall_mem_append.mpr ⟨mT_0_ok, (List.forall_mem_append.mpr ⟨mT_1_ok, (List.forall_mem_append.mpr ⟨mT_2_ok, (List.forall_mem_append.mpr ⟨mT_3_ok, (List.forall_mem_append.mpr ⟨mT_4_ok, (List.forall_mem_append.mpr ⟨mT_5_ok, (List.forall_mem_append.mpr ⟨mT_6_ok, (List.forall_mem_append.mpr ⟨mT_7_ok, (List.forall_mem_append.mpr ⟨mT_8_ok, mT_9_ok⟩)⟩)⟩)⟩)⟩)⟩)⟩)⟩)⟩)
