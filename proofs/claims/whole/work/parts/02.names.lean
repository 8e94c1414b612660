def R0 : String := "TakenInTurns$Acts"
def T0 : u_T := fun k => match k with
  | 0 => ("TakenInTurns$Acts", "kept", "[I", true)
  | 1 => ("TakenInTurns$Acts", "ran", "I", false)
  | 2 => ("TakenInTurns$Acts", "kind", "I", false)
  | _ => ("TakenInTurns$Acts", "number", "I", false)
def ty0 : Nat → FieldType := fun k => match k with
  | 0 => .array .int
  | 1 => .int
  | 2 => .int
  | _ => .int
def R1 : String := "TakenInTurns$Eating"
def T1 : u_T := fun k => match k with
  | 0 => ("TakenInTurns$Eating", "left", "[J", true)
  | 1 => ("TakenInTurns$Eating", "food", "[I", true)
  | 2 => ("TakenInTurns$Eating", "eaters", "[I", true)
  | _ => ("TakenInTurns$Eating", "time", "J", false)
def ty1 : Nat → FieldType := fun k => match k with
  | 0 => .array .long
  | 1 => .array .int
  | 2 => .array .int
  | _ => .long
def R2 : String := "TakenInTurns$Evens"
def T2 : u_T := fun k => match k with
  | 0 => ("TakenInTurns$Evens", "orders", "[I", true)
  | 1 => ("TakenInTurns$Evens", "size", "I", false)
  | 2 => ("TakenInTurns$Evens", "giving", "I", false)
  | 3 => ("TakenInTurns$Evens", "top", "I", false)
  | 4 => ("TakenInTurns$Evens", "bottom", "I", false)
  | _ => ("TakenInTurns$Evens", "points", "[[I", true)
def ty2 : Nat → FieldType := fun k => match k with
  | 0 => .array .int
  | 1 => .int
  | 2 => .int
  | 3 => .int
  | 4 => .int
  | _ => .array (.array .int)
def R3 : String := "TakenInTurns$Giving"
def T3 : u_T := fun k => match k with
  | 0 => ("TakenInTurns$Giving", "things", "I", false)
  | 1 => ("TakenInTurns$Giving", "people", "I", false)
  | 2 => ("TakenInTurns$Giving", "rounds", "I", false)
  | 3 => ("TakenInTurns$Giving", "amount", "[I", true)
  | 4 => ("TakenInTurns$Giving", "held", "[I", true)
  | 5 => ("TakenInTurns$Giving", "size", "[I", true)
  | 6 => ("TakenInTurns$Giving", "list", "[[I", true)
  | 7 => ("TakenInTurns$Giving", "levels", "[[I", true)
  | 8 => ("TakenInTurns$Giving", "parts", "[[I", true)
  | 9 => ("TakenInTurns$Giving", "known", "[LTakenInTurns$Shares;", true)
  | 10 => ("TakenInTurns$Giving", "swapped", "Z", false)
  | 11 => ("TakenInTurns$Giving", "swapOrder", "I", false)
  | _ => ("TakenInTurns$Giving", "swapGap", "I", false)
def ty3 : Nat → FieldType := fun k => match k with
  | 0 => .int
  | 1 => .int
  | 2 => .int
  | 3 => .array .int
  | 4 => .array .int
  | 5 => .array .int
  | 6 => .array (.array .int)
  | 7 => .array (.array .int)
  | 8 => .array (.array .int)
  | 9 => .array ((.object "TakenInTurns$Shares"))
  | 10 => .boolean
  | 11 => .int
  | _ => .int
def R4 : String := "TakenInTurns$Hand"
def T4 : u_T := fun k => match k with
  | 0 => ("TakenInTurns$Hand", "left", "[I", true)
  | 1 => ("TakenInTurns$Hand", "got", "[I", true)
  | 2 => ("TakenInTurns$Hand", "turnOf", "[[I", true)
  | 3 => ("TakenInTurns$Hand", "thingOf", "[[I", true)
  | _ => ("TakenInTurns$Hand", "leftBits", "I", false)
def ty4 : Nat → FieldType := fun k => match k with
  | 0 => .array .int
  | 1 => .array .int
  | 2 => .array (.array .int)
  | 3 => .array (.array .int)
  | _ => .int
def R5 : String := "TakenInTurns$Parting"
def T5 : u_T := fun k => match k with
  | 0 => ("TakenInTurns$Parting", "digits", "[I", true)
  | 1 => ("TakenInTurns$Parting", "weight", "[I", true)
  | 2 => ("TakenInTurns$Parting", "size", "I", false)
  | 3 => ("TakenInTurns$Parting", "known", "LTakenInTurns$Giving;", false)
  | 4 => ("TakenInTurns$Parting", "parts", "[[I", true)
  | 5 => ("TakenInTurns$Parting", "allowed", "[I", true)
  | 6 => ("TakenInTurns$Parting", "pick", "[I", true)
  | 7 => ("TakenInTurns$Parting", "free", "[I", true)
  | 8 => ("TakenInTurns$Parting", "must", "[I", true)
  | _ => ("TakenInTurns$Parting", "slack", "[I", true)
def ty5 : Nat → FieldType := fun k => match k with
  | 0 => .array .int
  | 1 => .array .int
  | 2 => .int
  | 3 => (.object "TakenInTurns$Giving")
  | 4 => .array (.array .int)
  | 5 => .array .int
  | 6 => .array .int
  | 7 => .array .int
  | 8 => .array .int
  | _ => .array .int
def R6 : String := "TakenInTurns$Rings"
def T6 : u_T := fun k => match k with
  | 0 => ("TakenInTurns$Rings", "who", "[I", true)
  | 1 => ("TakenInTurns$Rings", "given", "[I", true)
  | 2 => ("TakenInTurns$Rings", "size", "I", false)
  | _ => ("TakenInTurns$Rings", "known", "Z", false)
def ty6 : Nat → FieldType := fun k => match k with
  | 0 => .array .int
  | 1 => .array .int
  | 2 => .int
  | _ => .boolean
def R7 : String := "TakenInTurns$Shares"
def T7 : u_T := fun k => match k with
  | 0 => ("TakenInTurns$Shares", "top", "[J", true)
  | 1 => ("TakenInTurns$Shares", "bottom", "J", false)
  | 2 => ("TakenInTurns$Shares", "fresh", "Z", false)
  | 3 => ("TakenInTurns$Shares", "big", "Z", false)
  | _ => ("TakenInTurns$Shares", "halts", "I", false)
def ty7 : Nat → FieldType := fun k => match k with
  | 0 => .array .long
  | 1 => .long
  | 2 => .boolean
  | 3 => .boolean
  | _ => .int
def R8 : String := "TakenInTurns$Shelf"
def T8 : u_T := fun k => match k with
  | 0 => ("TakenInTurns$Shelf", "cells", "[J", true)
  | 1 => ("TakenInTurns$Shelf", "holding", "I", false)
  | 2 => ("TakenInTurns$Shelf", "kind", "I", false)
  | 3 => ("TakenInTurns$Shelf", "sort", "I", false)
  | _ => ("TakenInTurns$Shelf", "length", "I", false)
def ty8 : Nat → FieldType := fun k => match k with
  | 0 => .array .long
  | 1 => .int
  | 2 => .int
  | 3 => .int
  | _ => .int
def R9 : String := "TakenInTurns$Tape"
def T9 : u_T := fun k => match k with
  | 0 => ("TakenInTurns$Tape", "text", "[I", true)
  | 1 => ("TakenInTurns$Tape", "length", "I", false)
  | _ => ("TakenInTurns$Tape", "place", "I", false)
def ty9 : Nat → FieldType := fun k => match k with
  | 0 => .array .int
  | 1 => .int
  | _ => .int
def R10 : String := "TakenInTurns$Trade"
def T10 : u_T := fun k => match k with
  | 0 => ("TakenInTurns$Trade", "holds", "[I", true)
  | 1 => ("TakenInTurns$Trade", "ends", "[I", true)
  | 2 => ("TakenInTurns$Trade", "points", "[I", true)
  | _ => ("TakenInTurns$Trade", "done", "[Z", true)
def ty10 : Nat → FieldType := fun k => match k with
  | 0 => .array .int
  | 1 => .array .int
  | 2 => .array .int
  | _ => .array .boolean
def R11 : String := "TakenInTurns"
def T11 : u_T := fun k => match k with
  | 0 => ("TakenInTurns", "tape", "LTakenInTurns$Tape;", true)
  | 1 => ("TakenInTurns", "givings", "[LTakenInTurns$Giving;", true)
  | 2 => ("TakenInTurns", "givingCount", "I", false)
  | 3 => ("TakenInTurns", "otherwise", "LTakenInTurns$Giving;", true)
  | 4 => ("TakenInTurns", "kinds", "[I", true)
  | 5 => ("TakenInTurns", "wayCount", "I", false)
  | 6 => ("TakenInTurns", "latest", "LTakenInTurns$Hand;", true)
  | 7 => ("TakenInTurns", "latestGiving", "LTakenInTurns$Giving;", false)
  | 8 => ("TakenInTurns", "rings", "LTakenInTurns$Rings;", true)
  | 9 => ("TakenInTurns", "trial", "LTakenInTurns$Hand;", true)
  | 10 => ("TakenInTurns", "line", "[I", true)
  | 11 => ("TakenInTurns", "places", "[I", true)
  | 12 => ("TakenInTurns", "totals", "[J", true)
  | 13 => ("TakenInTurns", "eating", "LTakenInTurns$Eating;", true)
  | 14 => ("TakenInTurns", "trade", "LTakenInTurns$Trade;", true)
  | 15 => ("TakenInTurns", "parting", "LTakenInTurns$Parting;", true)
  | 16 => ("TakenInTurns", "evens", "LTakenInTurns$Evens;", true)
  | 17 => ("TakenInTurns", "acts", "LTakenInTurns$Acts;", true)
  | _ => ("TakenInTurns", "shelves", "[LTakenInTurns$Shelf;", true)
def ty11 : Nat → FieldType := fun k => match k with
  | 0 => (.object "TakenInTurns$Tape")
  | 1 => .array ((.object "TakenInTurns$Giving"))
  | 2 => .int
  | 3 => (.object "TakenInTurns$Giving")
  | 4 => .array .int
  | 5 => .int
  | 6 => (.object "TakenInTurns$Hand")
  | 7 => (.object "TakenInTurns$Giving")
  | 8 => (.object "TakenInTurns$Rings")
  | 9 => (.object "TakenInTurns$Hand")
  | 10 => .array .int
  | 11 => .array .int
  | 12 => .array .long
  | 13 => (.object "TakenInTurns$Eating")
  | 14 => (.object "TakenInTurns$Trade")
  | 15 => (.object "TakenInTurns$Parting")
  | 16 => (.object "TakenInTurns$Evens")
  | 17 => (.object "TakenInTurns$Acts")
  | _ => .array ((.object "TakenInTurns$Shelf"))
def R12 : String := "TakenInTurnsModel"
def T12 : u_T := fun k => match k with
  | 0 => ("TakenInTurnsModel", "givings", "I", false)
  | 1 => ("TakenInTurnsModel", "people", "[I", true)
  | 2 => ("TakenInTurnsModel", "things", "[I", true)
  | 3 => ("TakenInTurnsModel", "rounds", "[I", true)
  | 4 => ("TakenInTurnsModel", "many", "[I", true)
  | 5 => ("TakenInTurnsModel", "holds", "[I", true)
  | 6 => ("TakenInTurnsModel", "listSize", "[I", true)
  | 7 => ("TakenInTurnsModel", "list", "[I", true)
  | 8 => ("TakenInTurnsModel", "level", "[I", true)
  | 9 => ("TakenInTurnsModel", "table", "[I", true)
  | 10 => ("TakenInTurnsModel", "ways", "I", false)
  | 11 => ("TakenInTurnsModel", "kind", "[I", true)
  | 12 => ("TakenInTurnsModel", "tape", "[I", true)
  | 13 => ("TakenInTurnsModel", "taped", "I", false)
  | 14 => ("TakenInTurnsModel", "runOf", "I", false)
  | 15 => ("TakenInTurnsModel", "runHas", "[I", true)
  | 16 => ("TakenInTurnsModel", "runLeft", "[I", true)
  | 17 => ("TakenInTurnsModel", "runTurn", "[I", true)
  | 18 => ("TakenInTurnsModel", "runThing", "[I", true)
  | 19 => ("TakenInTurnsModel", "runMany", "[I", true)
  | 20 => ("TakenInTurnsModel", "orders", "I", false)
  | 21 => ("TakenInTurnsModel", "ordersOf", "I", false)
  | 22 => ("TakenInTurnsModel", "order", "[I", true)
  | 23 => ("TakenInTurnsModel", "evenTop", "J", false)
  | 24 => ("TakenInTurnsModel", "evenBottom", "J", false)
  | 25 => ("TakenInTurnsModel", "trace", "[I", true)
  | 26 => ("TakenInTurnsModel", "bodies", "I", false)
  | 27 => ("TakenInTurnsModel", "shelfIs", "[I", true)
  | 28 => ("TakenInTurnsModel", "shelfSort", "[I", true)
  | 29 => ("TakenInTurnsModel", "shelfSize", "[I", true)
  | 30 => ("TakenInTurnsModel", "elements", "[J", true)
  | 31 => ("TakenInTurnsModel", "at", "I", false)
  | 32 => ("TakenInTurnsModel", "goes", "[I", true)
  | 33 => ("TakenInTurnsModel", "hasNow", "[I", true)
  | 34 => ("TakenInTurnsModel", "leftNow", "[I", true)
  | 35 => ("TakenInTurnsModel", "turnNow", "[I", true)
  | 36 => ("TakenInTurnsModel", "thingNow", "[I", true)
  | 37 => ("TakenInTurnsModel", "manyNow", "[I", true)
  | 38 => ("TakenInTurnsModel", "ringWho", "[I", true)
  | 39 => ("TakenInTurnsModel", "ringGives", "[I", true)
  | 40 => ("TakenInTurnsModel", "ringMany", "I", false)
  | 41 => ("TakenInTurnsModel", "top", "[J", true)
  | 42 => ("TakenInTurnsModel", "bottom", "[J", true)
  | 43 => ("TakenInTurnsModel", "isBig", "Z", false)
  | 44 => ("TakenInTurnsModel", "stopMany", "I", false)
  | 45 => ("TakenInTurnsModel", "sums", "[I", true)
  | 46 => ("TakenInTurnsModel", "leftTop", "[J", true)
  | 47 => ("TakenInTurnsModel", "leftBottom", "[J", true)
  | 48 => ("TakenInTurnsModel", "sumTop", "J", false)
  | 49 => ("TakenInTurnsModel", "sumBottom", "J", false)
  | 50 => ("TakenInTurnsModel", "eats", "[I", true)
  | 51 => ("TakenInTurnsModel", "eaters", "[I", true)
  | 52 => ("TakenInTurnsModel", "hold", "[I", true)
  | 53 => ("TakenInTurnsModel", "gets", "[I", true)
  | 54 => ("TakenInTurnsModel", "isDone", "[Z", true)
  | 55 => ("TakenInTurnsModel", "points", "[I", true)
  | 56 => ("TakenInTurnsModel", "parts", "[I", true)
  | 57 => ("TakenInTurnsModel", "keptTop", "[J", true)
  | 58 => ("TakenInTurnsModel", "keptBottom", "[J", true)
  | 59 => ("TakenInTurnsModel", "digit", "[I", true)
  | 60 => ("TakenInTurnsModel", "given", "[I", true)
  | 61 => ("TakenInTurnsModel", "uses", "[I", true)
  | 62 => ("TakenInTurnsModel", "needs", "[I", true)
  | 63 => ("TakenInTurnsModel", "pointsBy", "[I", true)
  | _ => ("TakenInTurnsModel", "total", "[I", true)
def ty12 : Nat → FieldType := fun k => match k with
  | 0 => .int
  | 1 => .array .int
  | 2 => .array .int
  | 3 => .array .int
  | 4 => .array .int
  | 5 => .array .int
  | 6 => .array .int
  | 7 => .array .int
  | 8 => .array .int
  | 9 => .array .int
  | 10 => .int
  | 11 => .array .int
  | 12 => .array .int
  | 13 => .int
  | 14 => .int
  | 15 => .array .int
  | 16 => .array .int
  | 17 => .array .int
  | 18 => .array .int
  | 19 => .array .int
  | 20 => .int
  | 21 => .int
  | 22 => .array .int
  | 23 => .long
  | 24 => .long
  | 25 => .array .int
  | 26 => .int
  | 27 => .array .int
  | 28 => .array .int
  | 29 => .array .int
  | 30 => .array .long
  | 31 => .int
  | 32 => .array .int
  | 33 => .array .int
  | 34 => .array .int
  | 35 => .array .int
  | 36 => .array .int
  | 37 => .array .int
  | 38 => .array .int
  | 39 => .array .int
  | 40 => .int
  | 41 => .array .long
  | 42 => .array .long
  | 43 => .boolean
  | 44 => .int
  | 45 => .array .int
  | 46 => .array .long
  | 47 => .array .long
  | 48 => .long
  | 49 => .long
  | 50 => .array .int
  | 51 => .array .int
  | 52 => .array .int
  | 53 => .array .int
  | 54 => .array .boolean
  | 55 => .array .int
  | 56 => .array .int
  | 57 => .array .long
  | 58 => .array .long
  | 59 => .array .int
  | 60 => .array .int
  | 61 => .array .int
  | 62 => .array .int
  | 63 => .array .int
  | _ => .array .int
def cls : List vw_C := [(R0, T0, 4), (R1, T1, 4), (R2, T2, 6), (R3, T3, 13), (R4, T4, 5), (R5, T5, 10), (R6, T6, 4), (R7, T7, 5), (R8, T8, 5), (R9, T9, 3), (R10, T10, 4), (R11, T11, 19), (R12, T12, 65)]
theorem nm0 : ∀ a, a < 4 → ∀ b, b < 4 → a ≠ b → (T0 a).2.1 ≠ (T0 b).2.1 := by decide +kernel
theorem tyok0 : ∀ k, k < 4 → parseFieldDescriptor (T0 k).2.2.1 = some (ty0 k) := by decide +kernel
theorem nm1 : ∀ a, a < 4 → ∀ b, b < 4 → a ≠ b → (T1 a).2.1 ≠ (T1 b).2.1 := by decide +kernel
theorem tyok1 : ∀ k, k < 4 → parseFieldDescriptor (T1 k).2.2.1 = some (ty1 k) := by decide +kernel
theorem nm2 : ∀ a, a < 6 → ∀ b, b < 6 → a ≠ b → (T2 a).2.1 ≠ (T2 b).2.1 := by decide +kernel
theorem tyok2 : ∀ k, k < 6 → parseFieldDescriptor (T2 k).2.2.1 = some (ty2 k) := by decide +kernel
theorem nm3 : ∀ a, a < 13 → ∀ b, b < 13 → a ≠ b → (T3 a).2.1 ≠ (T3 b).2.1 := by decide +kernel
theorem tyok3 : ∀ k, k < 13 → parseFieldDescriptor (T3 k).2.2.1 = some (ty3 k) := by decide +kernel
theorem nm4 : ∀ a, a < 5 → ∀ b, b < 5 → a ≠ b → (T4 a).2.1 ≠ (T4 b).2.1 := by decide +kernel
theorem tyok4 : ∀ k, k < 5 → parseFieldDescriptor (T4 k).2.2.1 = some (ty4 k) := by decide +kernel
theorem nm5 : ∀ a, a < 10 → ∀ b, b < 10 → a ≠ b → (T5 a).2.1 ≠ (T5 b).2.1 := by decide +kernel
theorem tyok5 : ∀ k, k < 10 → parseFieldDescriptor (T5 k).2.2.1 = some (ty5 k) := by decide +kernel
theorem nm6 : ∀ a, a < 4 → ∀ b, b < 4 → a ≠ b → (T6 a).2.1 ≠ (T6 b).2.1 := by decide +kernel
theorem tyok6 : ∀ k, k < 4 → parseFieldDescriptor (T6 k).2.2.1 = some (ty6 k) := by decide +kernel
theorem nm7 : ∀ a, a < 5 → ∀ b, b < 5 → a ≠ b → (T7 a).2.1 ≠ (T7 b).2.1 := by decide +kernel
theorem tyok7 : ∀ k, k < 5 → parseFieldDescriptor (T7 k).2.2.1 = some (ty7 k) := by decide +kernel
theorem nm8 : ∀ a, a < 5 → ∀ b, b < 5 → a ≠ b → (T8 a).2.1 ≠ (T8 b).2.1 := by decide +kernel
theorem tyok8 : ∀ k, k < 5 → parseFieldDescriptor (T8 k).2.2.1 = some (ty8 k) := by decide +kernel
theorem nm9 : ∀ a, a < 3 → ∀ b, b < 3 → a ≠ b → (T9 a).2.1 ≠ (T9 b).2.1 := by decide +kernel
theorem tyok9 : ∀ k, k < 3 → parseFieldDescriptor (T9 k).2.2.1 = some (ty9 k) := by decide +kernel
theorem nm10 : ∀ a, a < 4 → ∀ b, b < 4 → a ≠ b → (T10 a).2.1 ≠ (T10 b).2.1 := by decide +kernel
theorem tyok10 : ∀ k, k < 4 → parseFieldDescriptor (T10 k).2.2.1 = some (ty10 k) := by decide +kernel
theorem nm11 : ∀ a, a < 19 → ∀ b, b < 19 → a ≠ b → (T11 a).2.1 ≠ (T11 b).2.1 := by decide +kernel
theorem tyok11 : ∀ k, k < 19 → parseFieldDescriptor (T11 k).2.2.1 = some (ty11 k) := by decide +kernel
theorem nm12 : ∀ a, a < 65 → ∀ b, b < 65 → a ≠ b → (T12 a).2.1 ≠ (T12 b).2.1 := by decide +kernel
theorem tyok12 : ∀ k, k < 65 → parseFieldDescriptor (T12 k).2.2.1 = some (ty12 k) := by decide +kernel
def ownL : List String := ["TakenInTurns$Acts", "TakenInTurns$Eating", "TakenInTurns$Evens", "TakenInTurns$Giving", "TakenInTurns$Hand", "TakenInTurns$Parting", "TakenInTurns$Rings", "TakenInTurns$Shares", "TakenInTurns$Shelf", "TakenInTurns$Tape", "TakenInTurns$Trade", "TakenInTurns", "TakenInTurnsModel", "java/lang/Integer", "java/util/Arrays", "java/lang/Math", "TakenInTurnsLaw"]
def ownNm (k : Nat) : String := ownL.getD k ""
def layL : List (List Nat) := [[441, 443, 445, 447], [328, 330, 332, 334], [416, 418, 420, 422, 424, 426], [239, 241, 243, 245, 247, 249, 251, 253, 255, 257, 259, 261, 263], [285, 287, 289, 291, 293], [377, 379, 381, 383, 385, 387, 389, 391, 393, 395], [309, 311, 313, 315], [169, 171, 173, 175, 177], [466, 468, 470, 472, 474], [130, 132, 134], [347, 349, 351, 353], [496, 498, 500, 502, 504, 506, 508, 510, 512, 514, 516, 518, 520, 522, 524, 526, 528, 530, 532], [1199, 1201, 1203, 1205, 1207, 1209, 1211, 1213, 1215, 1217, 1219, 1221, 1223, 1225, 1227, 1229, 1231, 1233, 1235, 1237, 1239, 1241, 1243, 1245, 1247, 1249, 1251, 1253, 1255, 1257, 1259, 1261, 1263, 1265, 1267, 1269, 1271, 1273, 1275, 1277, 1279, 1281, 1283, 1285, 1287, 1289, 1291, 1293, 1295, 1297, 1299, 1301, 1303, 1305, 1307, 1309, 1311, 1313, 1315, 1317, 1319, 1321, 1323, 1325, 1327]]
/-- kinds of the fields: 0 int, 1 long, 2 fixed reference, 3 moving reference, 4 boolean -/
def fkL : List (List Nat) := [[2, 0, 0, 0], [2, 2, 2, 1], [2, 0, 0, 0, 0, 2], [0, 0, 0, 2, 2, 2, 2, 2, 2, 2, 4, 0, 0], [2, 2, 2, 2, 0], [2, 2, 0, 3, 2, 2, 2, 2, 2, 2], [2, 2, 0, 4], [2, 1, 4, 4, 0], [2, 0, 0, 0, 0], [2, 0, 0], [2, 2, 2, 2], [2, 2, 0, 2, 2, 0, 2, 3, 2, 2, 2, 2, 2, 2, 2, 2, 2, 2, 2], [0, 2, 2, 2, 2, 2, 2, 2, 2, 2, 0, 2, 2, 0, 0, 2, 2, 2, 2, 2, 0, 0, 2, 1, 1, 2, 0, 2, 2, 2, 2, 0, 2, 2, 2, 2, 2, 2, 2, 2, 0, 2, 2, 4, 0, 2, 2, 2, 1, 1, 2, 2, 2, 2, 2, 2, 2, 2, 2, 2, 2, 2, 2, 2, 2]]
set_option maxRecDepth 100000 in
def shp (k : Nat) : Nat × Nat := cond (Nat.blt k 407) (cond (Nat.blt k 203) (cond (Nat.blt k 101) (cond (Nat.blt k 50) (cond (Nat.blt k 25) (cond (Nat.blt k 12) (cond (Nat.blt k 6) (cond (Nat.blt k 3) (cond (Nat.blt k 1) (11, 19) (cond (Nat.blt k 2) (9, 3) (100, 120))) (cond (Nat.blt k 4) (103, 5) (cond (Nat.blt k 5) (3, 13) (100, 8)))) (cond (Nat.blt k 9) (cond (Nat.blt k 7) (100, 7) (cond (Nat.blt k 8) (100, 7) (106, 7))) (100, 8))) (cond (Nat.blt k 18) (cond (Nat.blt k 15) (100, 8) (cond (Nat.blt k 16) (100, 8) (cond (Nat.blt k 17) (106, 7) (100, 8)))) (cond (Nat.blt k 21) (100, 8) (cond (Nat.blt k 23) (100, 8) (cond (Nat.blt k 24) (100, 8) (106, 7)))))) (cond (Nat.blt k 37) (cond (Nat.blt k 31) (100, 8) (cond (Nat.blt k 34) (cond (Nat.blt k 32) (100, 8) (cond (Nat.blt k 33) (105, 7) (7, 5))) (cond (Nat.blt k 35) (101, 56) (cond (Nat.blt k 36) (7, 5) (101, 56))))) (cond (Nat.blt k 43) (cond (Nat.blt k 40) (cond (Nat.blt k 38) (7, 5) (cond (Nat.blt k 39) (101, 56) (7, 5))) (cond (Nat.blt k 41) (101, 56) (cond (Nat.blt k 42) (7, 5) (101, 56)))) (cond (Nat.blt k 46) (cond (Nat.blt k 44) (7, 5) (cond (Nat.blt k 45) (101, 56) (7, 5))) (cond (Nat.blt k 48) (cond (Nat.blt k 47) (101, 56) (3, 13)) (cond (Nat.blt k 49) (100, 8) (100, 7))))))) (cond (Nat.blt k 75) (cond (Nat.blt k 62) (cond (Nat.blt k 56) (cond (Nat.blt k 53) (cond (Nat.blt k 51) (100, 7) (cond (Nat.blt k 52) (106, 7) (100, 8))) (100, 8)) (cond (Nat.blt k 59) (100, 8) (cond (Nat.blt k 60) (106, 7) (100, 8)))) (cond (Nat.blt k 68) (cond (Nat.blt k 65) (100, 8) (cond (Nat.blt k 66) (100, 8) (cond (Nat.blt k 67) (100, 8) (106, 7)))) (100, 8))) (cond (Nat.blt k 88) (cond (Nat.blt k 81) (cond (Nat.blt k 78) (cond (Nat.blt k 76) (105, 7) (cond (Nat.blt k 77) (7, 5) (101, 56))) (cond (Nat.blt k 79) (7, 5) (cond (Nat.blt k 80) (101, 56) (7, 5)))) (cond (Nat.blt k 84) (cond (Nat.blt k 82) (101, 56) (cond (Nat.blt k 83) (7, 5) (101, 56))) (cond (Nat.blt k 86) (cond (Nat.blt k 85) (7, 5) (101, 56)) (cond (Nat.blt k 87) (7, 5) (101, 56))))) (cond (Nat.blt k 94) (cond (Nat.blt k 91) (cond (Nat.blt k 89) (7, 5) (cond (Nat.blt k 90) (101, 56) (3, 13))) (cond (Nat.blt k 92) (100, 8) (100, 7))) (cond (Nat.blt k 97) (cond (Nat.blt k 95) (106, 7) (100, 8)) (100, 8)))))) (cond (Nat.blt k 152) (cond (Nat.blt k 126) (cond (Nat.blt k 113) (cond (Nat.blt k 107) (cond (Nat.blt k 104) (cond (Nat.blt k 102) (100, 8) (cond (Nat.blt k 103) (106, 7) (100, 8))) (100, 8)) (cond (Nat.blt k 110) (100, 8) (cond (Nat.blt k 111) (106, 7) (100, 8)))) (cond (Nat.blt k 119) (cond (Nat.blt k 116) (100, 8) (cond (Nat.blt k 117) (100, 8) (cond (Nat.blt k 118) (100, 8) (105, 7)))) (cond (Nat.blt k 122) (cond (Nat.blt k 120) (7, 5) (cond (Nat.blt k 121) (101, 56) (7, 5))) (cond (Nat.blt k 124) (cond (Nat.blt k 123) (101, 56) (7, 5)) (cond (Nat.blt k 125) (101, 56) (7, 5)))))) (cond (Nat.blt k 139) (cond (Nat.blt k 132) (cond (Nat.blt k 129) (cond (Nat.blt k 127) (101, 56) (cond (Nat.blt k 128) (7, 5) (101, 56))) (cond (Nat.blt k 130) (7, 5) (cond (Nat.blt k 131) (101, 56) (7, 5)))) (cond (Nat.blt k 135) (cond (Nat.blt k 133) (101, 56) (cond (Nat.blt k 134) (3, 13) (100, 8))) (cond (Nat.blt k 137) (100, 7) (cond (Nat.blt k 138) (106, 7) (100, 8))))) (cond (Nat.blt k 145) (100, 8) (cond (Nat.blt k 148) (cond (Nat.blt k 146) (106, 7) (100, 8)) (100, 8))))) (cond (Nat.blt k 177) (cond (Nat.blt k 164) (cond (Nat.blt k 158) (cond (Nat.blt k 155) (cond (Nat.blt k 153) (100, 8) (cond (Nat.blt k 154) (106, 7) (100, 8))) (100, 8)) (cond (Nat.blt k 161) (100, 8) (cond (Nat.blt k 162) (105, 7) (cond (Nat.blt k 163) (7, 5) (101, 56))))) (cond (Nat.blt k 170) (cond (Nat.blt k 167) (cond (Nat.blt k 165) (7, 5) (cond (Nat.blt k 166) (101, 56) (7, 5))) (cond (Nat.blt k 168) (101, 56) (cond (Nat.blt k 169) (7, 5) (101, 56)))) (cond (Nat.blt k 173) (cond (Nat.blt k 171) (7, 5) (cond (Nat.blt k 172) (101, 56) (7, 5))) (cond (Nat.blt k 175) (cond (Nat.blt k 174) (101, 56) (7, 5)) (cond (Nat.blt k 176) (101, 56) (3, 13)))))) (cond (Nat.blt k 190) (cond (Nat.blt k 183) (cond (Nat.blt k 180) (cond (Nat.blt k 178) (100, 8) (100, 7)) (cond (Nat.blt k 181) (106, 7) (100, 8))) (cond (Nat.blt k 186) (100, 8) (cond (Nat.blt k 188) (100, 8) (cond (Nat.blt k 189) (106, 7) (100, 8))))) (cond (Nat.blt k 196) (100, 8) (cond (Nat.blt k 199) (cond (Nat.blt k 197) (106, 7) (100, 8)) (100, 8))))))) (cond (Nat.blt k 305) (cond (Nat.blt k 254) (cond (Nat.blt k 228) (cond (Nat.blt k 215) (cond (Nat.blt k 209) (cond (Nat.blt k 206) (cond (Nat.blt k 204) (100, 8) (cond (Nat.blt k 205) (105, 7) (7, 5))) (cond (Nat.blt k 207) (101, 56) (cond (Nat.blt k 208) (7, 5) (101, 56)))) (cond (Nat.blt k 212) (cond (Nat.blt k 210) (7, 5) (cond (Nat.blt k 211) (101, 56) (7, 5))) (cond (Nat.blt k 213) (101, 56) (cond (Nat.blt k 214) (7, 5) (101, 56))))) (cond (Nat.blt k 221) (cond (Nat.blt k 218) (cond (Nat.blt k 216) (7, 5) (cond (Nat.blt k 217) (101, 56) (7, 5))) (cond (Nat.blt k 219) (101, 56) (cond (Nat.blt k 220) (3, 13) (100, 8)))) (cond (Nat.blt k 224) (cond (Nat.blt k 222) (100, 7) (cond (Nat.blt k 223) (100, 7) (106, 7))) (100, 8)))) (cond (Nat.blt k 241) (cond (Nat.blt k 234) (cond (Nat.blt k 231) (100, 8) (cond (Nat.blt k 232) (106, 7) (100, 8))) (cond (Nat.blt k 237) (100, 8) (cond (Nat.blt k 239) (100, 8) (cond (Nat.blt k 240) (106, 7) (100, 8))))) (cond (Nat.blt k 247) (100, 8) (cond (Nat.blt k 250) (cond (Nat.blt k 248) (105, 7) (cond (Nat.blt k 249) (7, 5) (101, 56))) (cond (Nat.blt k 252) (cond (Nat.blt k 251) (7, 5) (101, 56)) (cond (Nat.blt k 253) (7, 5) (101, 56))))))) (cond (Nat.blt k 279) (cond (Nat.blt k 266) (cond (Nat.blt k 260) (cond (Nat.blt k 257) (cond (Nat.blt k 255) (7, 5) (cond (Nat.blt k 256) (101, 56) (7, 5))) (cond (Nat.blt k 258) (101, 56) (cond (Nat.blt k 259) (7, 5) (101, 56)))) (cond (Nat.blt k 263) (cond (Nat.blt k 261) (7, 5) (cond (Nat.blt k 262) (101, 56) (100, 15))) (cond (Nat.blt k 264) (4, 5) (cond (Nat.blt k 265) (100, 8) (100, 7))))) (cond (Nat.blt k 272) (cond (Nat.blt k 269) (cond (Nat.blt k 267) (106, 7) (100, 3)) (100, 3)) (cond (Nat.blt k 275) (cond (Nat.blt k 273) (100, 3) (cond (Nat.blt k 274) (100, 3) (106, 7))) (100, 3)))) (cond (Nat.blt k 292) (cond (Nat.blt k 285) (cond (Nat.blt k 282) (100, 3) (cond (Nat.blt k 283) (6, 4) (100, 7))) (cond (Nat.blt k 288) (cond (Nat.blt k 286) (4, 5) (cond (Nat.blt k 287) (100, 8) (100, 7))) (cond (Nat.blt k 290) (cond (Nat.blt k 289) (106, 7) (100, 3)) (100, 3)))) (cond (Nat.blt k 298) (cond (Nat.blt k 295) (100, 3) (cond (Nat.blt k 296) (100, 3) (cond (Nat.blt k 297) (106, 7) (100, 3)))) (cond (Nat.blt k 301) (100, 3) (cond (Nat.blt k 303) (100, 3) (cond (Nat.blt k 304) (100, 3) (100, 7)))))))) (cond (Nat.blt k 356) (cond (Nat.blt k 330) (cond (Nat.blt k 317) (cond (Nat.blt k 311) (cond (Nat.blt k 308) (cond (Nat.blt k 306) (100, 8) (cond (Nat.blt k 307) (101, 7) (1, 4))) (cond (Nat.blt k 309) (101, 8) (cond (Nat.blt k 310) (100, 7) (100, 8)))) (cond (Nat.blt k 314) (cond (Nat.blt k 312) (10, 4) (100, 7)) (cond (Nat.blt k 315) (100, 7) (cond (Nat.blt k 316) (102, 7) (5, 10))))) (cond (Nat.blt k 323) (cond (Nat.blt k 320) (cond (Nat.blt k 318) (100, 60) (cond (Nat.blt k 319) (100, 60) (106, 7))) (100, 8)) (cond (Nat.blt k 326) (100, 8) (cond (Nat.blt k 328) (cond (Nat.blt k 327) (100, 8) (100, 7)) (cond (Nat.blt k 329) (100, 7) (100, 8)))))) (cond (Nat.blt k 343) (cond (Nat.blt k 336) (cond (Nat.blt k 333) (cond (Nat.blt k 331) (100, 8) (cond (Nat.blt k 332) (100, 8) (2, 6))) (cond (Nat.blt k 334) (100, 6) (cond (Nat.blt k 335) (106, 6) (100, 7)))) (cond (Nat.blt k 339) (100, 7) (cond (Nat.blt k 341) (100, 7) (cond (Nat.blt k 342) (0, 4) (100, 24))))) (cond (Nat.blt k 349) (cond (Nat.blt k 346) (cond (Nat.blt k 344) (104, 6) (cond (Nat.blt k 345) (8, 5) (101, 60))) (cond (Nat.blt k 347) (8, 5) (cond (Nat.blt k 348) (101, 60) (8, 5)))) (cond (Nat.blt k 352) (cond (Nat.blt k 350) (101, 60) (cond (Nat.blt k 351) (8, 5) (101, 60))) (cond (Nat.blt k 354) (cond (Nat.blt k 353) (8, 5) (101, 60)) (cond (Nat.blt k 355) (8, 5) (101, 60))))))) (cond (Nat.blt k 381) (cond (Nat.blt k 368) (cond (Nat.blt k 362) (cond (Nat.blt k 359) (cond (Nat.blt k 357) (12, 65) (100, 6)) (cond (Nat.blt k 360) (100, 6) (cond (Nat.blt k 361) (100, 48) (100, 42)))) (cond (Nat.blt k 365) (cond (Nat.blt k 363) (100, 42) (100, 336)) (cond (Nat.blt k 366) (100, 336) (cond (Nat.blt k 367) (100, 15) (100, 120))))) (cond (Nat.blt k 374) (cond (Nat.blt k 371) (cond (Nat.blt k 369) (100, 56) (cond (Nat.blt k 370) (100, 8) (100, 21))) (cond (Nat.blt k 372) (100, 21) (cond (Nat.blt k 373) (100, 7) (100, 6)))) (cond (Nat.blt k 377) (cond (Nat.blt k 375) (100, 24) (100, 6)) (cond (Nat.blt k 379) (cond (Nat.blt k 378) (100, 6) (101, 360)) (cond (Nat.blt k 380) (100, 7) (100, 56)))))) (cond (Nat.blt k 394) (cond (Nat.blt k 387) (cond (Nat.blt k 384) (cond (Nat.blt k 382) (100, 8) (100, 21)) (100, 7)) (cond (Nat.blt k 390) (cond (Nat.blt k 388) (101, 56) (cond (Nat.blt k 389) (101, 56) (100, 56))) (cond (Nat.blt k 392) (101, 8) (cond (Nat.blt k 393) (100, 7) (100, 8))))) (cond (Nat.blt k 400) (cond (Nat.blt k 397) (cond (Nat.blt k 395) (100, 7) (cond (Nat.blt k 396) (100, 7) (102, 7))) (cond (Nat.blt k 398) (100, 7) (cond (Nat.blt k 399) (100, 56) (101, 8)))) (cond (Nat.blt k 403) (cond (Nat.blt k 401) (101, 8) (cond (Nat.blt k 402) (100, 8) (100, 7))) (cond (Nat.blt k 405) (100, 8) (cond (Nat.blt k 406) (100, 42) (100, 7)))))))))) (999, 0)
set_option maxRecDepth 100000 in
def ptrL (k : Nat) : List Int := cond (Nat.blt k 407) (cond (Nat.blt k 203) (cond (Nat.blt k 101) (cond (Nat.blt k 50) (cond (Nat.blt k 25) (cond (Nat.blt k 12) (cond (Nat.blt k 6) (cond (Nat.blt k 3) (cond (Nat.blt k 1) [1, 3, (-1), 219, 262, (-1), 263, (-1), 282, 285, 304, 305, 306, 307, 311, 316, 332, 341, 343] (cond (Nat.blt k 2) [2, (-1), (-1)] [])) (cond (Nat.blt k 4) [4, 47, 90, 133, 176] (cond (Nat.blt k 5) [(-1), (-1), (-1), 5, 6, 7, 8, 16, 24, 32, (-1), (-1), (-1)] []))) (cond (Nat.blt k 9) (cond (Nat.blt k 7) [] (cond (Nat.blt k 8) [] [9, 10, 11, 12, 13, 14, 15])) [])) (cond (Nat.blt k 18) (cond (Nat.blt k 15) [] (cond (Nat.blt k 16) [] (cond (Nat.blt k 17) [17, 18, 19, 20, 21, 22, 23] []))) (cond (Nat.blt k 21) [] (cond (Nat.blt k 23) [] (cond (Nat.blt k 24) [] [25, 26, 27, 28, 29, 30, 31]))))) (cond (Nat.blt k 37) (cond (Nat.blt k 31) [] (cond (Nat.blt k 34) (cond (Nat.blt k 32) [] (cond (Nat.blt k 33) [33, 35, 37, 39, 41, 43, 45] [34, (-1), (-1), (-1), (-1)])) (cond (Nat.blt k 35) [] (cond (Nat.blt k 36) [36, (-1), (-1), (-1), (-1)] [])))) (cond (Nat.blt k 43) (cond (Nat.blt k 40) (cond (Nat.blt k 38) [38, (-1), (-1), (-1), (-1)] (cond (Nat.blt k 39) [] [40, (-1), (-1), (-1), (-1)])) (cond (Nat.blt k 41) [] (cond (Nat.blt k 42) [42, (-1), (-1), (-1), (-1)] []))) (cond (Nat.blt k 46) (cond (Nat.blt k 44) [44, (-1), (-1), (-1), (-1)] (cond (Nat.blt k 45) [] [46, (-1), (-1), (-1), (-1)])) (cond (Nat.blt k 48) (cond (Nat.blt k 47) [] [(-1), (-1), (-1), 48, 49, 50, 51, 59, 67, 75, (-1), (-1), (-1)]) []))))) (cond (Nat.blt k 75) (cond (Nat.blt k 62) (cond (Nat.blt k 56) (cond (Nat.blt k 53) (cond (Nat.blt k 51) [] (cond (Nat.blt k 52) [52, 53, 54, 55, 56, 57, 58] [])) []) (cond (Nat.blt k 59) [] (cond (Nat.blt k 60) [60, 61, 62, 63, 64, 65, 66] []))) (cond (Nat.blt k 68) (cond (Nat.blt k 65) [] (cond (Nat.blt k 66) [] (cond (Nat.blt k 67) [] [68, 69, 70, 71, 72, 73, 74]))) [])) (cond (Nat.blt k 88) (cond (Nat.blt k 81) (cond (Nat.blt k 78) (cond (Nat.blt k 76) [76, 78, 80, 82, 84, 86, 88] (cond (Nat.blt k 77) [77, (-1), (-1), (-1), (-1)] [])) (cond (Nat.blt k 79) [79, (-1), (-1), (-1), (-1)] (cond (Nat.blt k 80) [] [81, (-1), (-1), (-1), (-1)]))) (cond (Nat.blt k 84) (cond (Nat.blt k 82) [] (cond (Nat.blt k 83) [83, (-1), (-1), (-1), (-1)] [])) (cond (Nat.blt k 86) (cond (Nat.blt k 85) [85, (-1), (-1), (-1), (-1)] []) (cond (Nat.blt k 87) [87, (-1), (-1), (-1), (-1)] [])))) (cond (Nat.blt k 94) (cond (Nat.blt k 91) (cond (Nat.blt k 89) [89, (-1), (-1), (-1), (-1)] (cond (Nat.blt k 90) [] [(-1), (-1), (-1), 91, 92, 93, 94, 102, 110, 118, (-1), (-1), (-1)])) []) (cond (Nat.blt k 97) (cond (Nat.blt k 95) [95, 96, 97, 98, 99, 100, 101] []) []))))) (cond (Nat.blt k 152) (cond (Nat.blt k 126) (cond (Nat.blt k 113) (cond (Nat.blt k 107) (cond (Nat.blt k 104) (cond (Nat.blt k 102) [] (cond (Nat.blt k 103) [103, 104, 105, 106, 107, 108, 109] [])) []) (cond (Nat.blt k 110) [] (cond (Nat.blt k 111) [111, 112, 113, 114, 115, 116, 117] []))) (cond (Nat.blt k 119) (cond (Nat.blt k 116) [] (cond (Nat.blt k 117) [] (cond (Nat.blt k 118) [] [119, 121, 123, 125, 127, 129, 131]))) (cond (Nat.blt k 122) (cond (Nat.blt k 120) [120, (-1), (-1), (-1), (-1)] (cond (Nat.blt k 121) [] [122, (-1), (-1), (-1), (-1)])) (cond (Nat.blt k 124) (cond (Nat.blt k 123) [] [124, (-1), (-1), (-1), (-1)]) (cond (Nat.blt k 125) [] [126, (-1), (-1), (-1), (-1)]))))) (cond (Nat.blt k 139) (cond (Nat.blt k 132) (cond (Nat.blt k 129) (cond (Nat.blt k 127) [] (cond (Nat.blt k 128) [128, (-1), (-1), (-1), (-1)] [])) (cond (Nat.blt k 130) [130, (-1), (-1), (-1), (-1)] (cond (Nat.blt k 131) [] [132, (-1), (-1), (-1), (-1)]))) (cond (Nat.blt k 135) (cond (Nat.blt k 133) [] (cond (Nat.blt k 134) [(-1), (-1), (-1), 134, 135, 136, 137, 145, 153, 161, (-1), (-1), (-1)] [])) (cond (Nat.blt k 137) [] (cond (Nat.blt k 138) [138, 139, 140, 141, 142, 143, 144] [])))) (cond (Nat.blt k 145) [] (cond (Nat.blt k 148) (cond (Nat.blt k 146) [146, 147, 148, 149, 150, 151, 152] []) [])))) (cond (Nat.blt k 177) (cond (Nat.blt k 164) (cond (Nat.blt k 158) (cond (Nat.blt k 155) (cond (Nat.blt k 153) [] (cond (Nat.blt k 154) [154, 155, 156, 157, 158, 159, 160] [])) []) (cond (Nat.blt k 161) [] (cond (Nat.blt k 162) [162, 164, 166, 168, 170, 172, 174] (cond (Nat.blt k 163) [163, (-1), (-1), (-1), (-1)] [])))) (cond (Nat.blt k 170) (cond (Nat.blt k 167) (cond (Nat.blt k 165) [165, (-1), (-1), (-1), (-1)] (cond (Nat.blt k 166) [] [167, (-1), (-1), (-1), (-1)])) (cond (Nat.blt k 168) [] (cond (Nat.blt k 169) [169, (-1), (-1), (-1), (-1)] []))) (cond (Nat.blt k 173) (cond (Nat.blt k 171) [171, (-1), (-1), (-1), (-1)] (cond (Nat.blt k 172) [] [173, (-1), (-1), (-1), (-1)])) (cond (Nat.blt k 175) (cond (Nat.blt k 174) [] [175, (-1), (-1), (-1), (-1)]) (cond (Nat.blt k 176) [] [(-1), (-1), (-1), 177, 178, 179, 180, 188, 196, 204, (-1), (-1), (-1)]))))) (cond (Nat.blt k 190) (cond (Nat.blt k 183) (cond (Nat.blt k 180) [] (cond (Nat.blt k 181) [181, 182, 183, 184, 185, 186, 187] [])) (cond (Nat.blt k 186) [] (cond (Nat.blt k 188) [] (cond (Nat.blt k 189) [189, 190, 191, 192, 193, 194, 195] [])))) (cond (Nat.blt k 196) [] (cond (Nat.blt k 199) (cond (Nat.blt k 197) [197, 198, 199, 200, 201, 202, 203] []) [])))))) (cond (Nat.blt k 305) (cond (Nat.blt k 254) (cond (Nat.blt k 228) (cond (Nat.blt k 215) (cond (Nat.blt k 209) (cond (Nat.blt k 206) (cond (Nat.blt k 204) [] (cond (Nat.blt k 205) [205, 207, 209, 211, 213, 215, 217] [206, (-1), (-1), (-1), (-1)])) (cond (Nat.blt k 207) [] (cond (Nat.blt k 208) [208, (-1), (-1), (-1), (-1)] []))) (cond (Nat.blt k 212) (cond (Nat.blt k 210) [210, (-1), (-1), (-1), (-1)] (cond (Nat.blt k 211) [] [212, (-1), (-1), (-1), (-1)])) (cond (Nat.blt k 213) [] (cond (Nat.blt k 214) [214, (-1), (-1), (-1), (-1)] [])))) (cond (Nat.blt k 221) (cond (Nat.blt k 218) (cond (Nat.blt k 216) [216, (-1), (-1), (-1), (-1)] (cond (Nat.blt k 217) [] [218, (-1), (-1), (-1), (-1)])) (cond (Nat.blt k 219) [] (cond (Nat.blt k 220) [(-1), (-1), (-1), 220, 221, 222, 223, 231, 239, 247, (-1), (-1), (-1)] []))) (cond (Nat.blt k 224) (cond (Nat.blt k 222) [] (cond (Nat.blt k 223) [] [224, 225, 226, 227, 228, 229, 230])) []))) (cond (Nat.blt k 241) (cond (Nat.blt k 234) (cond (Nat.blt k 231) [] (cond (Nat.blt k 232) [232, 233, 234, 235, 236, 237, 238] [])) (cond (Nat.blt k 237) [] (cond (Nat.blt k 239) [] (cond (Nat.blt k 240) [240, 241, 242, 243, 244, 245, 246] [])))) (cond (Nat.blt k 247) [] (cond (Nat.blt k 250) (cond (Nat.blt k 248) [248, 250, 252, 254, 256, 258, 260] (cond (Nat.blt k 249) [249, (-1), (-1), (-1), (-1)] [])) (cond (Nat.blt k 252) (cond (Nat.blt k 251) [251, (-1), (-1), (-1), (-1)] []) (cond (Nat.blt k 253) [253, (-1), (-1), (-1), (-1)] [])))))) (cond (Nat.blt k 279) (cond (Nat.blt k 266) (cond (Nat.blt k 260) (cond (Nat.blt k 257) (cond (Nat.blt k 255) [255, (-1), (-1), (-1), (-1)] (cond (Nat.blt k 256) [] [257, (-1), (-1), (-1), (-1)])) (cond (Nat.blt k 258) [] (cond (Nat.blt k 259) [259, (-1), (-1), (-1), (-1)] []))) (cond (Nat.blt k 263) (cond (Nat.blt k 261) [261, (-1), (-1), (-1), (-1)] []) (cond (Nat.blt k 264) [264, 265, 266, 274, (-1)] []))) (cond (Nat.blt k 272) (cond (Nat.blt k 269) (cond (Nat.blt k 267) [267, 268, 269, 270, 271, 272, 273] []) []) (cond (Nat.blt k 275) (cond (Nat.blt k 273) [] (cond (Nat.blt k 274) [] [275, 276, 277, 278, 279, 280, 281])) []))) (cond (Nat.blt k 292) (cond (Nat.blt k 285) (cond (Nat.blt k 282) [] (cond (Nat.blt k 283) [283, 284, (-1), (-1)] [])) (cond (Nat.blt k 288) (cond (Nat.blt k 286) [286, 287, 288, 296, (-1)] []) (cond (Nat.blt k 290) (cond (Nat.blt k 289) [289, 290, 291, 292, 293, 294, 295] []) []))) (cond (Nat.blt k 298) (cond (Nat.blt k 295) [] (cond (Nat.blt k 296) [] (cond (Nat.blt k 297) [297, 298, 299, 300, 301, 302, 303] []))) [])))) (cond (Nat.blt k 356) (cond (Nat.blt k 330) (cond (Nat.blt k 317) (cond (Nat.blt k 311) (cond (Nat.blt k 308) (cond (Nat.blt k 306) [] (cond (Nat.blt k 307) [] [308, 309, 310, (-1)])) []) (cond (Nat.blt k 314) (cond (Nat.blt k 312) [312, 313, 314, 315] []) (cond (Nat.blt k 315) [] (cond (Nat.blt k 316) [] [317, 318, (-1), (-1), 319, 327, 328, 329, 330, 331])))) (cond (Nat.blt k 323) (cond (Nat.blt k 320) (cond (Nat.blt k 318) [] (cond (Nat.blt k 319) [] [320, 321, 322, 323, 324, 325, 326])) []) [])) (cond (Nat.blt k 343) (cond (Nat.blt k 336) (cond (Nat.blt k 333) (cond (Nat.blt k 331) [] (cond (Nat.blt k 332) [] [333, (-1), (-1), (-1), (-1), 334])) (cond (Nat.blt k 334) [] (cond (Nat.blt k 335) [335, 336, 337, 338, 339, 340] []))) (cond (Nat.blt k 339) [] (cond (Nat.blt k 341) [] (cond (Nat.blt k 342) [342, (-1), (-1), (-1)] [])))) (cond (Nat.blt k 349) (cond (Nat.blt k 346) (cond (Nat.blt k 344) [344, 346, 348, 350, 352, 354] (cond (Nat.blt k 345) [345, (-1), (-1), (-1), (-1)] [])) (cond (Nat.blt k 347) [347, (-1), (-1), (-1), (-1)] (cond (Nat.blt k 348) [] [349, (-1), (-1), (-1), (-1)]))) (cond (Nat.blt k 352) (cond (Nat.blt k 350) [] (cond (Nat.blt k 351) [351, (-1), (-1), (-1), (-1)] [])) (cond (Nat.blt k 354) (cond (Nat.blt k 353) [353, (-1), (-1), (-1), (-1)] []) (cond (Nat.blt k 355) [355, (-1), (-1), (-1), (-1)] [])))))) (cond (Nat.blt k 381) (cond (Nat.blt k 368) (cond (Nat.blt k 362) (cond (Nat.blt k 359) (cond (Nat.blt k 357) [(-1), 357, 358, 359, 360, 361, 362, 363, 364, 365, (-1), 366, 367, (-1), (-1), 368, 369, 370, 371, 372, (-1), (-1), 373, (-1), (-1), 374, (-1), 375, 376, 377, 378, (-1), 379, 380, 381, 382, 383, 384, 385, 386, (-1), 387, 388, (-1), (-1), 389, 390, 391, (-1), (-1), 392, 393, 394, 395, 396, 397, 398, 399, 400, 401, 402, 403, 404, 405, 406] []) []) []) []) [])))) []
abbrev NC : Nat := 407
abbrev Xn : Nat := 356
