def R0 : String := "TakenInTurns$Acts"
def T0 : u_T := fun k => match k with
  | 0 => ("TakenInTurns$Acts", "kept", "[I", true)
  | 1 => ("TakenInTurns$Acts", "ran", "I", false)
  | 2 => ("TakenInTurns$Acts", "kind", "I", false)
  | _ => ("TakenInTurns$Acts", "number", "I", false)
def ty0 : Nat → FieldType := fun k => match k with
  | 0 => .array .int
  | 1 => .int
  | 2 => .int
  | _ => .int
def R1 : String := "TakenInTurns$Eating"
def T1 : u_T := fun k => match k with
  | 0 => ("TakenInTurns$Eating", "left", "[J", true)
  | 1 => ("TakenInTurns$Eating", "food", "[I", true)
  | 2 => ("TakenInTurns$Eating", "eaters", "[I", true)
  | _ => ("TakenInTurns$Eating", "time", "J", false)
def ty1 : Nat → FieldType := fun k => match k with
  | 0 => .array .long
  | 1 => .array .int
  | 2 => .array .int
  | _ => .long
def R2 : String := "TakenInTurns$Evens"
def T2 : u_T := fun k => match k with
  | 0 => ("TakenInTurns$Evens", "orders", "[I", true)
  | 1 => ("TakenInTurns$Evens", "size", "I", false)
  | 2 => ("TakenInTurns$Evens", "giving", "I", false)
  | 3 => ("TakenInTurns$Evens", "top", "I", false)
  | 4 => ("TakenInTurns$Evens", "bottom", "I", false)
  | _ => ("TakenInTurns$Evens", "points", "[[I", true)
def ty2 : Nat → FieldType := fun k => match k with
  | 0 => .array .int
  | 1 => .int
  | 2 => .int
  | 3 => .int
  | 4 => .int
  | _ => .array (.array .int)
def R3 : String := "TakenInTurns$Giving"
def T3 : u_T := fun k => match k with
  | 0 => ("TakenInTurns$Giving", "things", "I", false)
  | 1 => ("TakenInTurns$Giving", "people", "I", false)
  | 2 => ("TakenInTurns$Giving", "rounds", "I", false)
  | 3 => ("TakenInTurns$Giving", "amount", "[I", true)
  | 4 => ("TakenInTurns$Giving", "held", "[I", true)
  | 5 => ("TakenInTurns$Giving", "size", "[I", true)
  | 6 => ("TakenInTurns$Giving", "list", "[[I", true)
  | 7 => ("TakenInTurns$Giving", "levels", "[[I", true)
  | 8 => ("TakenInTurns$Giving", "parts", "[[I", true)
  | 9 => ("TakenInTurns$Giving", "known", "[LTakenInTurns$Shares;", true)
  | 10 => ("TakenInTurns$Giving", "swapped", "Z", false)
  | 11 => ("TakenInTurns$Giving", "swapOrder", "I", false)
  | _ => ("TakenInTurns$Giving", "swapGap", "I", false)
def ty3 : Nat → FieldType := fun k => match k with
  | 0 => .int
  | 1 => .int
  | 2 => .int
  | 3 => .array .int
  | 4 => .array .int
  | 5 => .array .int
  | 6 => .array (.array .int)
  | 7 => .array (.array .int)
  | 8 => .array (.array .int)
  | 9 => .array ((.object "TakenInTurns$Shares"))
  | 10 => .boolean
  | 11 => .int
  | _ => .int
def R4 : String := "TakenInTurns$Hand"
def T4 : u_T := fun k => match k with
  | 0 => ("TakenInTurns$Hand", "left", "[I", true)
  | 1 => ("TakenInTurns$Hand", "got", "[I", true)
  | 2 => ("TakenInTurns$Hand", "turnOf", "[[I", true)
  | 3 => ("TakenInTurns$Hand", "thingOf", "[[I", true)
  | _ => ("TakenInTurns$Hand", "leftBits", "I", false)
def ty4 : Nat → FieldType := fun k => match k with
  | 0 => .array .int
  | 1 => .array .int
  | 2 => .array (.array .int)
  | 3 => .array (.array .int)
  | _ => .int
def R5 : String := "TakenInTurns$Parting"
def T5 : u_T := fun k => match k with
  | 0 => ("TakenInTurns$Parting", "digits", "[I", true)
  | 1 => ("TakenInTurns$Parting", "weight", "[I", true)
  | 2 => ("TakenInTurns$Parting", "size", "I", false)
  | 3 => ("TakenInTurns$Parting", "known", "LTakenInTurns$Giving;", false)
  | 4 => ("TakenInTurns$Parting", "parts", "[[I", true)
  | 5 => ("TakenInTurns$Parting", "allowed", "[I", true)
  | 6 => ("TakenInTurns$Parting", "pick", "[I", true)
  | 7 => ("TakenInTurns$Parting", "free", "[I", true)
  | 8 => ("TakenInTurns$Parting", "must", "[I", true)
  | _ => ("TakenInTurns$Parting", "slack", "[I", true)
def ty5 : Nat → FieldType := fun k => match k with
  | 0 => .array .int
  | 1 => .array .int
  | 2 => .int
  | 3 => (.object "TakenInTurns$Giving")
  | 4 => .array (.array .int)
  | 5 => .array .int
  | 6 => .array .int
  | 7 => .array .int
  | 8 => .array .int
  | _ => .array .int
def R6 : String := "TakenInTurns$Rings"
def T6 : u_T := fun k => match k with
  | 0 => ("TakenInTurns$Rings", "who", "[I", true)
  | 1 => ("TakenInTurns$Rings", "given", "[I", true)
  | 2 => ("TakenInTurns$Rings", "size", "I", false)
  | _ => ("TakenInTurns$Rings", "known", "Z", false)
def ty6 : Nat → FieldType := fun k => match k with
  | 0 => .array .int
  | 1 => .array .int
  | 2 => .int
  | _ => .boolean
def R7 : String := "TakenInTurns$Shares"
def T7 : u_T := fun k => match k with
  | 0 => ("TakenInTurns$Shares", "top", "[J", true)
  | 1 => ("TakenInTurns$Shares", "bottom", "J", false)
  | 2 => ("TakenInTurns$Shares", "fresh", "Z", false)
  | 3 => ("TakenInTurns$Shares", "big", "Z", false)
  | _ => ("TakenInTurns$Shares", "halts", "I", false)
def ty7 : Nat → FieldType := fun k => match k with
  | 0 => .array .long
  | 1 => .long
  | 2 => .boolean
  | 3 => .boolean
  | _ => .int
def R8 : String := "TakenInTurns$Shelf"
def T8 : u_T := fun k => match k with
  | 0 => ("TakenInTurns$Shelf", "cells", "[J", true)
  | 1 => ("TakenInTurns$Shelf", "holding", "I", false)
  | 2 => ("TakenInTurns$Shelf", "kind", "I", false)
  | 3 => ("TakenInTurns$Shelf", "sort", "I", false)
  | _ => ("TakenInTurns$Shelf", "length", "I", false)
def ty8 : Nat → FieldType := fun k => match k with
  | 0 => .array .long
  | 1 => .int
  | 2 => .int
  | 3 => .int
  | _ => .int
def R9 : String := "TakenInTurns$Tape"
def T9 : u_T := fun k => match k with
  | 0 => ("TakenInTurns$Tape", "text", "[I", true)
  | 1 => ("TakenInTurns$Tape", "length", "I", false)
  | _ => ("TakenInTurns$Tape", "place", "I", false)
def ty9 : Nat → FieldType := fun k => match k with
  | 0 => .array .int
  | 1 => .int
  | _ => .int
def R10 : String := "TakenInTurns$Trade"
def T10 : u_T := fun k => match k with
  | 0 => ("TakenInTurns$Trade", "holds", "[I", true)
  | 1 => ("TakenInTurns$Trade", "ends", "[I", true)
  | 2 => ("TakenInTurns$Trade", "points", "[I", true)
  | _ => ("TakenInTurns$Trade", "done", "[Z", true)
def ty10 : Nat → FieldType := fun k => match k with
  | 0 => .array .int
  | 1 => .array .int
  | 2 => .array .int
  | _ => .array .boolean
def R11 : String := "TakenInTurns"
def T11 : u_T := fun k => match k with
  | 0 => ("TakenInTurns", "tape", "LTakenInTurns$Tape;", true)
  | 1 => ("TakenInTurns", "givings", "[LTakenInTurns$Giving;", true)
  | 2 => ("TakenInTurns", "givingCount", "I", false)
  | 3 => ("TakenInTurns", "otherwise", "LTakenInTurns$Giving;", true)
  | 4 => ("TakenInTurns", "kinds", "[I", true)
  | 5 => ("TakenInTurns", "wayCount", "I", false)
  | 6 => ("TakenInTurns", "latest", "LTakenInTurns$Hand;", true)
  | 7 => ("TakenInTurns", "latestGiving", "LTakenInTurns$Giving;", false)
  | 8 => ("TakenInTurns", "rings", "LTakenInTurns$Rings;", true)
  | 9 => ("TakenInTurns", "trial", "LTakenInTurns$Hand;", true)
  | 10 => ("TakenInTurns", "line", "[I", true)
  | 11 => ("TakenInTurns", "places", "[I", true)
  | 12 => ("TakenInTurns", "totals", "[J", true)
  | 13 => ("TakenInTurns", "eating", "LTakenInTurns$Eating;", true)
  | 14 => ("TakenInTurns", "trade", "LTakenInTurns$Trade;", true)
  | 15 => ("TakenInTurns", "parting", "LTakenInTurns$Parting;", true)
  | 16 => ("TakenInTurns", "evens", "LTakenInTurns$Evens;", true)
  | 17 => ("TakenInTurns", "acts", "LTakenInTurns$Acts;", true)
  | _ => ("TakenInTurns", "shelves", "[LTakenInTurns$Shelf;", true)
def ty11 : Nat → FieldType := fun k => match k with
  | 0 => (.object "TakenInTurns$Tape")
  | 1 => .array ((.object "TakenInTurns$Giving"))
  | 2 => .int
  | 3 => (.object "TakenInTurns$Giving")
  | 4 => .array .int
  | 5 => .int
  | 6 => (.object "TakenInTurns$Hand")
  | 7 => (.object "TakenInTurns$Giving")
  | 8 => (.object "TakenInTurns$Rings")
  | 9 => (.object "TakenInTurns$Hand")
  | 10 => .array .int
  | 11 => .array .int
  | 12 => .array .long
  | 13 => (.object "TakenInTurns$Eating")
  | 14 => (.object "TakenInTurns$Trade")
  | 15 => (.object "TakenInTurns$Parting")
  | 16 => (.object "TakenInTurns$Evens")
  | 17 => (.object "TakenInTurns$Acts")
  | _ => .array ((.object "TakenInTurns$Shelf"))
def R12 : String := "TakenInTurnsModel"
def T12 : u_T := fun k => match k with
  | 0 => ("TakenInTurnsModel", "givings", "I", false)
  | 1 => ("TakenInTurnsModel", "people", "[I", true)
  | 2 => ("TakenInTurnsModel", "things", "[I", true)
  | 3 => ("TakenInTurnsModel", "rounds", "[I", true)
  | 4 => ("TakenInTurnsModel", "many", "[I", true)
  | 5 => ("TakenInTurnsModel", "holds", "[I", true)
  | 6 => ("TakenInTurnsModel", "listSize", "[I", true)
  | 7 => ("TakenInTurnsModel", "list", "[I", true)
  | 8 => ("TakenInTurnsModel", "level", "[I", true)
  | 9 => ("TakenInTurnsModel", "table", "[I", true)
  | 10 => ("TakenInTurnsModel", "ways", "I", false)
  | 11 => ("TakenInTurnsModel", "kind", "[I", true)
  | 12 => ("TakenInTurnsModel", "tape", "[I", true)
  | 13 => ("TakenInTurnsModel", "taped", "I", false)
  | 14 => ("TakenInTurnsModel", "runOf", "I", false)
  | 15 => ("TakenInTurnsModel", "runHas", "[I", true)
  | 16 => ("TakenInTurnsModel", "runLeft", "[I", true)
  | 17 => ("TakenInTurnsModel", "runTurn", "[I", true)
  | 18 => ("TakenInTurnsModel", "runThing", "[I", true)
  | 19 => ("TakenInTurnsModel", "runMany", "[I", true)
  | 20 => ("TakenInTurnsModel", "orders", "I", false)
  | 21 => ("TakenInTurnsModel", "ordersOf", "I", false)
  | 22 => ("TakenInTurnsModel", "order", "[I", true)
  | 23 => ("TakenInTurnsModel", "evenTop", "J", false)
  | 24 => ("TakenInTurnsModel", "evenBottom", "J", false)
  | 25 => ("TakenInTurnsModel", "trace", "[I", true)
  | 26 => ("TakenInTurnsModel", "bodies", "I", false)
  | 27 => ("TakenInTurnsModel", "shelfIs", "[I", true)
  | 28 => ("TakenInTurnsModel", "shelfSort", "[I", true)
  | 29 => ("TakenInTurnsModel", "shelfSize", "[I", true)
  | 30 => ("TakenInTurnsModel", "elements", "[J", true)
  | 31 => ("TakenInTurnsModel", "at", "I", false)
  | 32 => ("TakenInTurnsModel", "goes", "[I", true)
  | 33 => ("TakenInTurnsModel", "hasNow", "[I", true)
  | 34 => ("TakenInTurnsModel", "leftNow", "[I", true)
  | 35 => ("TakenInTurnsModel", "turnNow", "[I", true)
  | 36 => ("TakenInTurnsModel", "thingNow", "[I", true)
  | 37 => ("TakenInTurnsModel", "manyNow", "[I", true)
  | 38 => ("TakenInTurnsModel", "ringWho", "[I", true)
  | 39 => ("TakenInTurnsModel", "ringGives", "[I", true)
  | 40 => ("TakenInTurnsModel", "ringMany", "I", false)
  | 41 => ("TakenInTurnsModel", "top", "[J", true)
  | 42 => ("TakenInTurnsModel", "bottom", "[J", true)
  | 43 => ("TakenInTurnsModel", "isBig", "Z", false)
  | 44 => ("TakenInTurnsModel", "stopMany", "I", false)
  | 45 => ("TakenInTurnsModel", "sums", "[I", true)
  | 46 => ("TakenInTurnsModel", "leftTop", "[J", true)
  | 47 => ("TakenInTurnsModel", "leftBottom", "[J", true)
  | 48 => ("TakenInTurnsModel", "sumTop", "J", false)
  | 49 => ("TakenInTurnsModel", "sumBottom", "J", false)
  | 50 => ("TakenInTurnsModel", "eats", "[I", true)
  | 51 => ("TakenInTurnsModel", "eaters", "[I", true)
  | 52 => ("TakenInTurnsModel", "hold", "[I", true)
  | 53 => ("TakenInTurnsModel", "gets", "[I", true)
  | 54 => ("TakenInTurnsModel", "isDone", "[Z", true)
  | 55 => ("TakenInTurnsModel", "points", "[I", true)
  | 56 => ("TakenInTurnsModel", "parts", "[I", true)
  | 57 => ("TakenInTurnsModel", "keptTop", "[J", true)
  | 58 => ("TakenInTurnsModel", "keptBottom", "[J", true)
  | 59 => ("TakenInTurnsModel", "digit", "[I", true)
  | 60 => ("TakenInTurnsModel", "given", "[I", true)
  | 61 => ("TakenInTurnsModel", "uses", "[I", true)
  | 62 => ("TakenInTurnsModel", "needs", "[I", true)
  | 63 => ("TakenInTurnsModel", "pointsBy", "[I", true)
  | _ => ("TakenInTurnsModel", "total", "[I", true)
def ty12 : Nat → FieldType := fun k => match k with
  | 0 => .int
  | 1 => .array .int
  | 2 => .array .int
  | 3 => .array .int
  | 4 => .array .int
  | 5 => .array .int
  | 6 => .array .int
  | 7 => .array .int
  | 8 => .array .int
  | 9 => .array .int
  | 10 => .int
  | 11 => .array .int
  | 12 => .array .int
  | 13 => .int
  | 14 => .int
  | 15 => .array .int
  | 16 => .array .int
  | 17 => .array .int
  | 18 => .array .int
  | 19 => .array .int
  | 20 => .int
  | 21 => .int
  | 22 => .array .int
  | 23 => .long
  | 24 => .long
  | 25 => .array .int
  | 26 => .int
  | 27 => .array .int
  | 28 => .array .int
  | 29 => .array .int
  | 30 => .array .long
  | 31 => .int
  | 32 => .array .int
  | 33 => .array .int
  | 34 => .array .int
  | 35 => .array .int
  | 36 => .array .int
  | 37 => .array .int
  | 38 => .array .int
  | 39 => .array .int
  | 40 => .int
  | 41 => .array .long
  | 42 => .array .long
  | 43 => .boolean
  | 44 => .int
  | 45 => .array .int
  | 46 => .array .long
  | 47 => .array .long
  | 48 => .long
  | 49 => .long
  | 50 => .array .int
  | 51 => .array .int
  | 52 => .array .int
  | 53 => .array .int
  | 54 => .array .boolean
  | 55 => .array .int
  | 56 => .array .int
  | 57 => .array .long
  | 58 => .array .long
  | 59 => .array .int
  | 60 => .array .int
  | 61 => .array .int
  | 62 => .array .int
  | 63 => .array .int
  | _ => .array .int
def cls : List vw_C := [(R0, T0, 4), (R1, T1, 4), (R2, T2, 6), (R3, T3, 13), (R4, T4, 5), (R5, T5, 10), (R6, T6, 4), (R7, T7, 5), (R8, T8, 5), (R9, T9, 3), (R10, T10, 4), (R11, T11, 19), (R12, T12, 65)]
theorem nm0 : ∀ a, a < 4 → ∀ b, b < 4 → a ≠ b → (T0 a).2.1 ≠ (T0 b).2.1 := by decide +kernel
theorem tyok0 : ∀ k, k < 4 → parseFieldDescriptor (T0 k).2.2.1 = some (ty0 k) := by decide +kernel
set_option maxRecDepth 100000 in
theorem inW0 : ∀ w ∈ u_ws R0 T0 4, w ∈ W0 := by decide +kernel
theorem nm1 : ∀ a, a < 4 → ∀ b, b < 4 → a ≠ b → (T1 a).2.1 ≠ (T1 b).2.1 := by decide +kernel
theorem tyok1 : ∀ k, k < 4 → parseFieldDescriptor (T1 k).2.2.1 = some (ty1 k) := by decide +kernel
set_option maxRecDepth 100000 in
theorem inW1 : ∀ w ∈ u_ws R1 T1 4, w ∈ W0 := by decide +kernel
theorem nm2 : ∀ a, a < 6 → ∀ b, b < 6 → a ≠ b → (T2 a).2.1 ≠ (T2 b).2.1 := by decide +kernel
theorem tyok2 : ∀ k, k < 6 → parseFieldDescriptor (T2 k).2.2.1 = some (ty2 k) := by decide +kernel
set_option maxRecDepth 100000 in
theorem inW2 : ∀ w ∈ u_ws R2 T2 6, w ∈ W0 := by decide +kernel
theorem nm3 : ∀ a, a < 13 → ∀ b, b < 13 → a ≠ b → (T3 a).2.1 ≠ (T3 b).2.1 := by decide +kernel
theorem tyok3 : ∀ k, k < 13 → parseFieldDescriptor (T3 k).2.2.1 = some (ty3 k) := by decide +kernel
set_option maxRecDepth 100000 in
theorem inW3 : ∀ w ∈ u_ws R3 T3 13, w ∈ W0 := by decide +kernel
theorem nm4 : ∀ a, a < 5 → ∀ b, b < 5 → a ≠ b → (T4 a).2.1 ≠ (T4 b).2.1 := by decide +kernel
theorem tyok4 : ∀ k, k < 5 → parseFieldDescriptor (T4 k).2.2.1 = some (ty4 k) := by decide +kernel
set_option maxRecDepth 100000 in
theorem inW4 : ∀ w ∈ u_ws R4 T4 5, w ∈ W0 := by decide +kernel
theorem nm5 : ∀ a, a < 10 → ∀ b, b < 10 → a ≠ b → (T5 a).2.1 ≠ (T5 b).2.1 := by decide +kernel
theorem tyok5 : ∀ k, k < 10 → parseFieldDescriptor (T5 k).2.2.1 = some (ty5 k) := by decide +kernel
set_option maxRecDepth 100000 in
theorem inW5 : ∀ w ∈ u_ws R5 T5 10, w ∈ W0 := by decide +kernel
theorem nm6 : ∀ a, a < 4 → ∀ b, b < 4 → a ≠ b → (T6 a).2.1 ≠ (T6 b).2.1 := by decide +kernel
theorem tyok6 : ∀ k, k < 4 → parseFieldDescriptor (T6 k).2.2.1 = some (ty6 k) := by decide +kernel
set_option maxRecDepth 100000 in
theorem inW6 : ∀ w ∈ u_ws R6 T6 4, w ∈ W0 := by decide +kernel
theorem nm7 : ∀ a, a < 5 → ∀ b, b < 5 → a ≠ b → (T7 a).2.1 ≠ (T7 b).2.1 := by decide +kernel
theorem tyok7 : ∀ k, k < 5 → parseFieldDescriptor (T7 k).2.2.1 = some (ty7 k) := by decide +kernel
set_option maxRecDepth 100000 in
theorem inW7 : ∀ w ∈ u_ws R7 T7 5, w ∈ W0 := by decide +kernel
theorem nm8 : ∀ a, a < 5 → ∀ b, b < 5 → a ≠ b → (T8 a).2.1 ≠ (T8 b).2.1 := by decide +kernel
theorem tyok8 : ∀ k, k < 5 → parseFieldDescriptor (T8 k).2.2.1 = some (ty8 k) := by decide +kernel
set_option maxRecDepth 100000 in
theorem inW8 : ∀ w ∈ u_ws R8 T8 5, w ∈ W0 := by decide +kernel
theorem nm9 : ∀ a, a < 3 → ∀ b, b < 3 → a ≠ b → (T9 a).2.1 ≠ (T9 b).2.1 := by decide +kernel
theorem tyok9 : ∀ k, k < 3 → parseFieldDescriptor (T9 k).2.2.1 = some (ty9 k) := by decide +kernel
set_option maxRecDepth 100000 in
theorem inW9 : ∀ w ∈ u_ws R9 T9 3, w ∈ W0 := by decide +kernel
theorem nm10 : ∀ a, a < 4 → ∀ b, b < 4 → a ≠ b → (T10 a).2.1 ≠ (T10 b).2.1 := by decide +kernel
theorem tyok10 : ∀ k, k < 4 → parseFieldDescriptor (T10 k).2.2.1 = some (ty10 k) := by decide +kernel
set_option maxRecDepth 100000 in
theorem inW10 : ∀ w ∈ u_ws R10 T10 4, w ∈ W0 := by decide +kernel
theorem nm11 : ∀ a, a < 19 → ∀ b, b < 19 → a ≠ b → (T11 a).2.1 ≠ (T11 b).2.1 := by decide +kernel
theorem tyok11 : ∀ k, k < 19 → parseFieldDescriptor (T11 k).2.2.1 = some (ty11 k) := by decide +kernel
set_option maxRecDepth 100000 in
theorem inW11 : ∀ w ∈ u_ws R11 T11 19, w ∈ W0 := by decide +kernel
theorem nm12 : ∀ a, a < 65 → ∀ b, b < 65 → a ≠ b → (T12 a).2.1 ≠ (T12 b).2.1 := by decide +kernel
theorem tyok12 : ∀ k, k < 65 → parseFieldDescriptor (T12 k).2.2.1 = some (ty12 k) := by decide +kernel
set_option maxRecDepth 100000 in
theorem inW12 : ∀ w ∈ u_ws R12 T12 65, w ∈ W0 := by decide +kernel
/-- kinds of the fields: 0 int, 1 long, 2 fixed reference, 3 moving reference, 4 boolean -/
def fkL : List (List Nat) := [[2, 0, 0, 0], [2, 2, 2, 1], [2, 0, 0, 0, 0, 2], [0, 0, 0, 2, 2, 2, 2, 2, 2, 2, 4, 0, 0], [2, 2, 2, 2, 0], [2, 2, 0, 3, 2, 2, 2, 2, 2, 2], [2, 2, 0, 4], [2, 1, 4, 4, 0], [2, 0, 0, 0, 0], [2, 0, 0], [2, 2, 2, 2], [2, 2, 0, 2, 2, 0, 2, 3, 2, 2, 2, 2, 2, 2, 2, 2, 2, 2, 2], [0, 2, 2, 2, 2, 2, 2, 2, 2, 2, 0, 2, 2, 0, 0, 2, 2, 2, 2, 2, 0, 0, 2, 1, 1, 2, 0, 2, 2, 2, 2, 0, 2, 2, 2, 2, 2, 2, 2, 2, 0, 2, 2, 4, 0, 2, 2, 2, 1, 1, 2, 2, 2, 2, 2, 2, 2, 2, 2, 2, 2, 2, 2, 2, 2]]
def shpL : List (Nat × Nat) := [(11, 19), (9, 3), (100, 120), (103, 5), (3, 13), (100, 8), (100, 7), (100, 7), (106, 7), (100, 8), (100, 8), (100, 8), (100, 8), (100, 8), (100, 8), (100, 8), (106, 7), (100, 8), (100, 8), (100, 8), (100, 8), (100, 8), (100, 8), (100, 8), (106, 7), (100, 8), (100, 8), (100, 8), (100, 8), (100, 8), (100, 8), (100, 8), (105, 7), (7, 5), (101, 56), (7, 5), (101, 56), (7, 5), (101, 56), (7, 5), (101, 56), (7, 5), (101, 56), (7, 5), (101, 56), (7, 5), (101, 56), (3, 13), (100, 8), (100, 7), (100, 7), (106, 7), (100, 8), (100, 8), (100, 8), (100, 8), (100, 8), (100, 8), (100, 8), (106, 7), (100, 8), (100, 8), (100, 8), (100, 8), (100, 8), (100, 8), (100, 8), (106, 7), (100, 8), (100, 8), (100, 8), (100, 8), (100, 8), (100, 8), (100, 8), (105, 7), (7, 5), (101, 56), (7, 5), (101, 56), (7, 5), (101, 56), (7, 5), (101, 56), (7, 5), (101, 56), (7, 5), (101, 56), (7, 5), (101, 56), (3, 13), (100, 8), (100, 7), (100, 7), (106, 7), (100, 8), (100, 8), (100, 8), (100, 8), (100, 8), (100, 8), (100, 8), (106, 7), (100, 8), (100, 8), (100, 8), (100, 8), (100, 8), (100, 8), (100, 8), (106, 7), (100, 8), (100, 8), (100, 8), (100, 8), (100, 8), (100, 8), (100, 8), (105, 7), (7, 5), (101, 56), (7, 5), (101, 56), (7, 5), (101, 56), (7, 5), (101, 56), (7, 5), (101, 56), (7, 5), (101, 56), (7, 5), (101, 56), (3, 13), (100, 8), (100, 7), (100, 7), (106, 7), (100, 8), (100, 8), (100, 8), (100, 8), (100, 8), (100, 8), (100, 8), (106, 7), (100, 8), (100, 8), (100, 8), (100, 8), (100, 8), (100, 8), (100, 8), (106, 7), (100, 8), (100, 8), (100, 8), (100, 8), (100, 8), (100, 8), (100, 8), (105, 7), (7, 5), (101, 56), (7, 5), (101, 56), (7, 5), (101, 56), (7, 5), (101, 56), (7, 5), (101, 56), (7, 5), (101, 56), (7, 5), (101, 56), (3, 13), (100, 8), (100, 7), (100, 7), (106, 7), (100, 8), (100, 8), (100, 8), (100, 8), (100, 8), (100, 8), (100, 8), (106, 7), (100, 8), (100, 8), (100, 8), (100, 8), (100, 8), (100, 8), (100, 8), (106, 7), (100, 8), (100, 8), (100, 8), (100, 8), (100, 8), (100, 8), (100, 8), (105, 7), (7, 5), (101, 56), (7, 5), (101, 56), (7, 5), (101, 56), (7, 5), (101, 56), (7, 5), (101, 56), (7, 5), (101, 56), (7, 5), (101, 56), (3, 13), (100, 8), (100, 7), (100, 7), (106, 7), (100, 8), (100, 8), (100, 8), (100, 8), (100, 8), (100, 8), (100, 8), (106, 7), (100, 8), (100, 8), (100, 8), (100, 8), (100, 8), (100, 8), (100, 8), (106, 7), (100, 8), (100, 8), (100, 8), (100, 8), (100, 8), (100, 8), (100, 8), (105, 7), (7, 5), (101, 56), (7, 5), (101, 56), (7, 5), (101, 56), (7, 5), (101, 56), (7, 5), (101, 56), (7, 5), (101, 56), (7, 5), (101, 56), (100, 15), (4, 5), (100, 8), (100, 7), (106, 7), (100, 3), (100, 3), (100, 3), (100, 3), (100, 3), (100, 3), (100, 3), (106, 7), (100, 3), (100, 3), (100, 3), (100, 3), (100, 3), (100, 3), (100, 3), (6, 4), (100, 7), (100, 7), (4, 5), (100, 8), (100, 7), (106, 7), (100, 3), (100, 3), (100, 3), (100, 3), (100, 3), (100, 3), (100, 3), (106, 7), (100, 3), (100, 3), (100, 3), (100, 3), (100, 3), (100, 3), (100, 3), (100, 7), (100, 8), (101, 7), (1, 4), (101, 8), (100, 7), (100, 8), (10, 4), (100, 7), (100, 7), (100, 7), (102, 7), (5, 10), (100, 60), (100, 60), (106, 7), (100, 8), (100, 8), (100, 8), (100, 8), (100, 8), (100, 8), (100, 8), (100, 7), (100, 7), (100, 8), (100, 8), (100, 8), (2, 6), (100, 6), (106, 6), (100, 7), (100, 7), (100, 7), (100, 7), (100, 7), (100, 7), (0, 4), (100, 24), (104, 6), (8, 5), (101, 60), (8, 5), (101, 60), (8, 5), (101, 60), (8, 5), (101, 60), (8, 5), (101, 60), (8, 5), (101, 60), (12, 65), (100, 6), (100, 6), (100, 6), (100, 48), (100, 42), (100, 42), (100, 336), (100, 336), (100, 336), (100, 15), (100, 120), (100, 56), (100, 8), (100, 21), (100, 21), (100, 7), (100, 6), (100, 24), (100, 6), (100, 6), (100, 6), (101, 360), (100, 7), (100, 56), (100, 8), (100, 21), (100, 21), (100, 7), (100, 7), (100, 7), (101, 56), (101, 56), (100, 56), (101, 8), (101, 8), (100, 7), (100, 8), (100, 7), (100, 7), (102, 7), (100, 7), (100, 56), (101, 8), (101, 8), (100, 8), (100, 7), (100, 8), (100, 8), (100, 42), (100, 7)]
def ptrL : List (List Int) := [[1, 3, (-1), 219, 262, (-1), 263, (-1), 282, 285, 304, 305, 306, 307, 311, 316, 332, 341, 343], [2, (-1), (-1)], [], [4, 47, 90, 133, 176], [(-1), (-1), (-1), 5, 6, 7, 8, 16, 24, 32, (-1), (-1), (-1)], [], [], [], [9, 10, 11, 12, 13, 14, 15], [], [], [], [], [], [], [], [17, 18, 19, 20, 21, 22, 23], [], [], [], [], [], [], [], [25, 26, 27, 28, 29, 30, 31], [], [], [], [], [], [], [], [33, 35, 37, 39, 41, 43, 45], [34, (-1), (-1), (-1), (-1)], [], [36, (-1), (-1), (-1), (-1)], [], [38, (-1), (-1), (-1), (-1)], [], [40, (-1), (-1), (-1), (-1)], [], [42, (-1), (-1), (-1), (-1)], [], [44, (-1), (-1), (-1), (-1)], [], [46, (-1), (-1), (-1), (-1)], [], [(-1), (-1), (-1), 48, 49, 50, 51, 59, 67, 75, (-1), (-1), (-1)], [], [], [], [52, 53, 54, 55, 56, 57, 58], [], [], [], [], [], [], [], [60, 61, 62, 63, 64, 65, 66], [], [], [], [], [], [], [], [68, 69, 70, 71, 72, 73, 74], [], [], [], [], [], [], [], [76, 78, 80, 82, 84, 86, 88], [77, (-1), (-1), (-1), (-1)], [], [79, (-1), (-1), (-1), (-1)], [], [81, (-1), (-1), (-1), (-1)], [], [83, (-1), (-1), (-1), (-1)], [], [85, (-1), (-1), (-1), (-1)], [], [87, (-1), (-1), (-1), (-1)], [], [89, (-1), (-1), (-1), (-1)], [], [(-1), (-1), (-1), 91, 92, 93, 94, 102, 110, 118, (-1), (-1), (-1)], [], [], [], [95, 96, 97, 98, 99, 100, 101], [], [], [], [], [], [], [], [103, 104, 105, 106, 107, 108, 109], [], [], [], [], [], [], [], [111, 112, 113, 114, 115, 116, 117], [], [], [], [], [], [], [], [119, 121, 123, 125, 127, 129, 131], [120, (-1), (-1), (-1), (-1)], [], [122, (-1), (-1), (-1), (-1)], [], [124, (-1), (-1), (-1), (-1)], [], [126, (-1), (-1), (-1), (-1)], [], [128, (-1), (-1), (-1), (-1)], [], [130, (-1), (-1), (-1), (-1)], [], [132, (-1), (-1), (-1), (-1)], [], [(-1), (-1), (-1), 134, 135, 136, 137, 145, 153, 161, (-1), (-1), (-1)], [], [], [], [138, 139, 140, 141, 142, 143, 144], [], [], [], [], [], [], [], [146, 147, 148, 149, 150, 151, 152], [], [], [], [], [], [], [], [154, 155, 156, 157, 158, 159, 160], [], [], [], [], [], [], [], [162, 164, 166, 168, 170, 172, 174], [163, (-1), (-1), (-1), (-1)], [], [165, (-1), (-1), (-1), (-1)], [], [167, (-1), (-1), (-1), (-1)], [], [169, (-1), (-1), (-1), (-1)], [], [171, (-1), (-1), (-1), (-1)], [], [173, (-1), (-1), (-1), (-1)], [], [175, (-1), (-1), (-1), (-1)], [], [(-1), (-1), (-1), 177, 178, 179, 180, 188, 196, 204, (-1), (-1), (-1)], [], [], [], [181, 182, 183, 184, 185, 186, 187], [], [], [], [], [], [], [], [189, 190, 191, 192, 193, 194, 195], [], [], [], [], [], [], [], [197, 198, 199, 200, 201, 202, 203], [], [], [], [], [], [], [], [205, 207, 209, 211, 213, 215, 217], [206, (-1), (-1), (-1), (-1)], [], [208, (-1), (-1), (-1), (-1)], [], [210, (-1), (-1), (-1), (-1)], [], [212, (-1), (-1), (-1), (-1)], [], [214, (-1), (-1), (-1), (-1)], [], [216, (-1), (-1), (-1), (-1)], [], [218, (-1), (-1), (-1), (-1)], [], [(-1), (-1), (-1), 220, 221, 222, 223, 231, 239, 247, (-1), (-1), (-1)], [], [], [], [224, 225, 226, 227, 228, 229, 230], [], [], [], [], [], [], [], [232, 233, 234, 235, 236, 237, 238], [], [], [], [], [], [], [], [240, 241, 242, 243, 244, 245, 246], [], [], [], [], [], [], [], [248, 250, 252, 254, 256, 258, 260], [249, (-1), (-1), (-1), (-1)], [], [251, (-1), (-1), (-1), (-1)], [], [253, (-1), (-1), (-1), (-1)], [], [255, (-1), (-1), (-1), (-1)], [], [257, (-1), (-1), (-1), (-1)], [], [259, (-1), (-1), (-1), (-1)], [], [261, (-1), (-1), (-1), (-1)], [], [], [264, 265, 266, 274, (-1)], [], [], [267, 268, 269, 270, 271, 272, 273], [], [], [], [], [], [], [], [275, 276, 277, 278, 279, 280, 281], [], [], [], [], [], [], [], [283, 284, (-1), (-1)], [], [], [286, 287, 288, 296, (-1)], [], [], [289, 290, 291, 292, 293, 294, 295], [], [], [], [], [], [], [], [297, 298, 299, 300, 301, 302, 303], [], [], [], [], [], [], [], [], [], [], [308, 309, 310, (-1)], [], [], [], [312, 313, 314, 315], [], [], [], [], [317, 318, (-1), (-1), 319, 327, 328, 329, 330, 331], [], [], [320, 321, 322, 323, 324, 325, 326], [], [], [], [], [], [], [], [], [], [], [], [], [333, (-1), (-1), (-1), (-1), 334], [], [335, 336, 337, 338, 339, 340], [], [], [], [], [], [], [342, (-1), (-1), (-1)], [], [344, 346, 348, 350, 352, 354], [345, (-1), (-1), (-1), (-1)], [], [347, (-1), (-1), (-1), (-1)], [], [349, (-1), (-1), (-1), (-1)], [], [351, (-1), (-1), (-1), (-1)], [], [353, (-1), (-1), (-1), (-1)], [], [355, (-1), (-1), (-1), (-1)], [], [(-1), 357, 358, 359, 360, 361, 362, 363, 364, 365, (-1), 366, 367, (-1), (-1), 368, 369, 370, 371, 372, (-1), (-1), 373, (-1), (-1), 374, (-1), 375, 376, 377, 378, (-1), 379, 380, 381, 382, 383, 384, 385, 386, (-1), 387, 388, (-1), (-1), 389, 390, 391, (-1), (-1), 392, 393, 394, 395, 396, 397, 398, 399, 400, 401, 402, 403, 404, 405, 406], [], [], [], [], [], [], [], [], [], [], [], [], [], [], [], [], [], [], [], [], [], [], [], [], [], [], [], [], [], [], [], [], [], [], [], [], [], [], [], [], [], [], [], [], [], [], [], [], [], []]
abbrev NC : Nat := 407
abbrev Xn : Nat := 356
