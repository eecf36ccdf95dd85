def nR_0 : String := "NinthStep$Chance"
def nT_0 : u_T := fun k => match k with
  | 0 => ("NinthStep$Chance", "parts", "[I", true)
  | _ => ("NinthStep$Chance", "next", "[I", true)
def ny_0 : Nat → FieldType := fun k => match k with
  | 0 => (.array .int)
  | _ => (.array .int)
theorem nnm_0 : ∀ a, a < 2 → ∀ b, b < 2 → a ≠ b → (nT_0 a).2.1 ≠ (nT_0 b).2.1 := by decide +kernel
theorem nty_0 : ∀ k, k < 2 → parseFieldDescriptor (nT_0 k).2.2.1 = some (ny_0 k) := by decide +kernel
def nR_1 : String := "NinthStep$Ground"
def nT_1 : u_T := fun k => match k with
  | 0 => ("NinthStep$Ground", "end", "I", false)
  | 1 => ("NinthStep$Ground", "stones", "J", false)
  | 2 => ("NinthStep$Ground", "inns", "J", false)
  | 3 => ("NinthStep$Ground", "cliffs", "J", false)
  | _ => ("NinthStep$Ground", "views", "J", false)
def ny_1 : Nat → FieldType := fun k => match k with
  | 0 => .int
  | 1 => .long
  | 2 => .long
  | 3 => .long
  | _ => .long
theorem nnm_1 : ∀ a, a < 5 → ∀ b, b < 5 → a ≠ b → (nT_1 a).2.1 ≠ (nT_1 b).2.1 := by decide +kernel
theorem nty_1 : ∀ k, k < 5 → parseFieldDescriptor (nT_1 k).2.2.1 = some (ny_1 k) := by decide +kernel
def nR_2 : String := "NinthStep$Mule"
def nT_2 : u_T := fun k => match k with
  | 0 => ("NinthStep$Mule", "kind", "I", false)
  | 1 => ("NinthStep$Mule", "number", "I", false)
  | 2 => ("NinthStep$Mule", "at", "I", false)
  | 3 => ("NinthStep$Mule", "count", "I", false)
  | 4 => ("NinthStep$Mule", "rested", "I", false)
  | 5 => ("NinthStep$Mule", "a", "I", false)
  | 6 => ("NinthStep$Mule", "restTime", "I", false)
  | _ => ("NinthStep$Mule", "stoneWeight", "I", false)
def ny_2 : Nat → FieldType := fun k => match k with
  | 0 => .int
  | 1 => .int
  | 2 => .int
  | 3 => .int
  | 4 => .int
  | 5 => .int
  | 6 => .int
  | _ => .int
theorem nnm_2 : ∀ a, a < 8 → ∀ b, b < 8 → a ≠ b → (nT_2 a).2.1 ≠ (nT_2 b).2.1 := by decide +kernel
theorem nty_2 : ∀ k, k < 8 → parseFieldDescriptor (nT_2 k).2.2.1 = some (ny_2 k) := by decide +kernel
def nR_3 : String := "NinthStep$Shelf"
def nT_3 : u_T := fun k => match k with
  | 0 => ("NinthStep$Shelf", "held", "I", false)
  | 1 => ("NinthStep$Shelf", "size", "I", false)
  | _ => ("NinthStep$Shelf", "cells", "[J", true)
def ny_3 : Nat → FieldType := fun k => match k with
  | 0 => .int
  | 1 => .int
  | _ => (.array .long)
theorem nnm_3 : ∀ a, a < 3 → ∀ b, b < 3 → a ≠ b → (nT_3 a).2.1 ≠ (nT_3 b).2.1 := by decide +kernel
theorem nty_3 : ∀ k, k < 3 → parseFieldDescriptor (nT_3 k).2.2.1 = some (ny_3 k) := by decide +kernel
def nR_4 : String := "NinthStep$StonePlan"
def nT_4 : u_T := fun k => match k with
  | 0 => ("NinthStep$StonePlan", "safe", "[J", true)
  | 1 => ("NinthStep$StonePlan", "seconds", "[J", true)
  | 2 => ("NinthStep$StonePlan", "numberAt", "[I", true)
  | 3 => ("NinthStep$StonePlan", "outer", "LNinthStep$Mule;", true)
  | 4 => ("NinthStep$StonePlan", "branch", "LNinthStep$Mule;", true)
  | 5 => ("NinthStep$StonePlan", "inner", "LNinthStep$Mule;", true)
  | 6 => ("NinthStep$StonePlan", "trial", "LNinthStep$Mule;", true)
  | 7 => ("NinthStep$StonePlan", "ground", "LNinthStep$Ground;", false)
  | 8 => ("NinthStep$StonePlan", "first", "I", false)
  | _ => ("NinthStep$StonePlan", "second", "I", false)
def ny_4 : Nat → FieldType := fun k => match k with
  | 0 => (.array .long)
  | 1 => (.array .long)
  | 2 => (.array .int)
  | 3 => (.object "NinthStep$Mule")
  | 4 => (.object "NinthStep$Mule")
  | 5 => (.object "NinthStep$Mule")
  | 6 => (.object "NinthStep$Mule")
  | 7 => (.object "NinthStep$Ground")
  | 8 => .int
  | _ => .int
theorem nnm_4 : ∀ a, a < 10 → ∀ b, b < 10 → a ≠ b → (nT_4 a).2.1 ≠ (nT_4 b).2.1 := by decide +kernel
theorem nty_4 : ∀ k, k < 10 → parseFieldDescriptor (nT_4 k).2.2.1 = some (ny_4 k) := by decide +kernel
def nR_5 : String := "NinthStep$Tape"
def nT_5 : u_T := fun k => match k with
  | 0 => ("NinthStep$Tape", "bytes", "[I", true)
  | 1 => ("NinthStep$Tape", "size", "I", false)
  | 2 => ("NinthStep$Tape", "fault", "I", false)
  | 3 => ("NinthStep$Tape", "sort", "I", false)
  | 4 => ("NinthStep$Tape", "from", "I", false)
  | _ => ("NinthStep$Tape", "behind", "I", false)
def ny_5 : Nat → FieldType := fun k => match k with
  | 0 => (.array .int)
  | 1 => .int
  | 2 => .int
  | 3 => .int
  | 4 => .int
  | _ => .int
theorem nnm_5 : ∀ a, a < 6 → ∀ b, b < 6 → a ≠ b → (nT_5 a).2.1 ≠ (nT_5 b).2.1 := by decide +kernel
theorem nty_5 : ∀ k, k < 6 → parseFieldDescriptor (nT_5 k).2.2.1 = some (ny_5 k) := by decide +kernel
def nR_6 : String := "NinthStep$TurnPlan"
def nT_6 : u_T := fun k => match k with
  | 0 => ("NinthStep$TurnPlan", "needed", "[I", true)
  | 1 => ("NinthStep$TurnPlan", "numberAt", "[I", true)
  | 2 => ("NinthStep$TurnPlan", "trial", "LNinthStep$Mule;", true)
  | 3 => ("NinthStep$TurnPlan", "ground", "LNinthStep$Ground;", false)
  | 4 => ("NinthStep$TurnPlan", "start", "I", false)
  | _ => ("NinthStep$TurnPlan", "firstCount", "I", false)
def ny_6 : Nat → FieldType := fun k => match k with
  | 0 => (.array .int)
  | 1 => (.array .int)
  | 2 => (.object "NinthStep$Mule")
  | 3 => (.object "NinthStep$Ground")
  | 4 => .int
  | _ => .int
theorem nnm_6 : ∀ a, a < 6 → ∀ b, b < 6 → a ≠ b → (nT_6 a).2.1 ≠ (nT_6 b).2.1 := by decide +kernel
theorem nty_6 : ∀ k, k < 6 → parseFieldDescriptor (nT_6 k).2.2.1 = some (ny_6 k) := by decide +kernel
def nR_7 : String := "NinthStep$World"
def nT_7 : u_T := fun k => match k with
  | 0 => ("NinthStep$World", "ground", "LNinthStep$Ground;", true)
  | 1 => ("NinthStep$World", "mules", "[LNinthStep$Mule;", true)
  | 2 => ("NinthStep$World", "herd", "I", false)
  | 3 => ("NinthStep$World", "slipping", "I", false)
  | 4 => ("NinthStep$World", "fell", "I", false)
  | _ => ("NinthStep$World", "seedNow", "I", false)
def ny_7 : Nat → FieldType := fun k => match k with
  | 0 => (.object "NinthStep$Ground")
  | 1 => (.array (.object "NinthStep$Mule"))
  | 2 => .int
  | 3 => .int
  | 4 => .int
  | _ => .int
theorem nnm_7 : ∀ a, a < 6 → ∀ b, b < 6 → a ≠ b → (nT_7 a).2.1 ≠ (nT_7 b).2.1 := by decide +kernel
theorem nty_7 : ∀ k, k < 6 → parseFieldDescriptor (nT_7 k).2.2.1 = some (ny_7 k) := by decide +kernel
def nR_8 : String := "NinthStep"
def nT_8 : u_T := fun k => match k with
  | 0 => ("NinthStep", "now", "LNinthStep$World;", true)
  | 1 => ("NinthStep", "kept", "LNinthStep$World;", true)
  | 2 => ("NinthStep", "draft", "LNinthStep$World;", true)
  | 3 => ("NinthStep", "shelves", "[LNinthStep$Shelf;", true)
  | 4 => ("NinthStep", "tape", "LNinthStep$Tape;", true)
  | 5 => ("NinthStep", "turnPlan", "LNinthStep$TurnPlan;", true)
  | 6 => ("NinthStep", "stonePlan", "LNinthStep$StonePlan;", true)
  | 7 => ("NinthStep", "chance", "LNinthStep$Chance;", true)
  | 8 => ("NinthStep", "walker", "LNinthStep$Mule;", true)
  | 9 => ("NinthStep", "crowds", "[I", true)
  | 10 => ("NinthStep", "refusals", "[I", true)
  | _ => ("NinthStep", "isKept", "Z", false)
def ny_8 : Nat → FieldType := fun k => match k with
  | 0 => (.object "NinthStep$World")
  | 1 => (.object "NinthStep$World")
  | 2 => (.object "NinthStep$World")
  | 3 => (.array (.object "NinthStep$Shelf"))
  | 4 => (.object "NinthStep$Tape")
  | 5 => (.object "NinthStep$TurnPlan")
  | 6 => (.object "NinthStep$StonePlan")
  | 7 => (.object "NinthStep$Chance")
  | 8 => (.object "NinthStep$Mule")
  | 9 => (.array .int)
  | 10 => (.array .int)
  | _ => .boolean
theorem nnm_8 : ∀ a, a < 12 → ∀ b, b < 12 → a ≠ b → (nT_8 a).2.1 ≠ (nT_8 b).2.1 := by decide +kernel
theorem nty_8 : ∀ k, k < 12 → parseFieldDescriptor (nT_8 k).2.2.1 = some (ny_8 k) := by decide +kernel
def nR_9 : String := "NinthStepModel"
def nT_9 : u_T := fun k => match k with
  | 0 => ("NinthStepModel", "holding", "[I", true)
  | 1 => ("NinthStepModel", "rowLength", "[I", true)
  | 2 => ("NinthStepModel", "rowOf", "[J", true)
  | 3 => ("NinthStepModel", "end", "I", false)
  | 4 => ("NinthStepModel", "there", "[I", true)
  | 5 => ("NinthStepModel", "mules", "I", false)
  | 6 => ("NinthStepModel", "kind", "[I", true)
  | 7 => ("NinthStepModel", "number", "[I", true)
  | 8 => ("NinthStepModel", "place", "[I", true)
  | 9 => ("NinthStepModel", "count", "[I", true)
  | 10 => ("NinthStepModel", "rested", "[I", true)
  | 11 => ("NinthStepModel", "own", "[I", true)
  | 12 => ("NinthStepModel", "slip", "I", false)
  | 13 => ("NinthStepModel", "fell", "I", false)
  | 14 => ("NinthStepModel", "seed", "I", false)
  | 15 => ("NinthStepModel", "taped", "I", false)
  | 16 => ("NinthStepModel", "tape", "[I", true)
  | 17 => ("NinthStepModel", "at", "I", false)
  | 18 => ("NinthStepModel", "token", "I", false)
  | 19 => ("NinthStepModel", "sort", "I", false)
  | 20 => ("NinthStepModel", "value", "I", false)
  | 21 => ("NinthStepModel", "refusals", "[I", true)
  | 22 => ("NinthStepModel", "imaged", "Z", false)
  | 23 => ("NinthStepModel", "old", "[I", true)
  | 24 => ("NinthStepModel", "ahead", "[I", true)
  | 25 => ("NinthStepModel", "goer", "I", false)
  | 26 => ("NinthStepModel", "every", "I", false)
  | 27 => ("NinthStepModel", "here", "I", false)
  | 28 => ("NinthStepModel", "steps", "I", false)
  | 29 => ("NinthStepModel", "fewest", "[I", true)
  | _ => ("NinthStepModel", "turned", "[I", true)
def ny_9 : Nat → FieldType := fun k => match k with
  | 0 => (.array .int)
  | 1 => (.array .int)
  | 2 => (.array .long)
  | 3 => .int
  | 4 => (.array .int)
  | 5 => .int
  | 6 => (.array .int)
  | 7 => (.array .int)
  | 8 => (.array .int)
  | 9 => (.array .int)
  | 10 => (.array .int)
  | 11 => (.array .int)
  | 12 => .int
  | 13 => .int
  | 14 => .int
  | 15 => .int
  | 16 => (.array .int)
  | 17 => .int
  | 18 => .int
  | 19 => .int
  | 20 => .int
  | 21 => (.array .int)
  | 22 => .boolean
  | 23 => (.array .int)
  | 24 => (.array .int)
  | 25 => .int
  | 26 => .int
  | 27 => .int
  | 28 => .int
  | 29 => (.array .int)
  | _ => (.array .int)
theorem nnm_9 : ∀ a, a < 31 → ∀ b, b < 31 → a ≠ b → (nT_9 a).2.1 ≠ (nT_9 b).2.1 := by decide +kernel
theorem nty_9 : ∀ k, k < 31 → parseFieldDescriptor (nT_9 k).2.2.1 = some (ny_9 k) := by decide +kernel
def ns_cl : List vw_C := [(nR_0, nT_0, 2), (nR_1, nT_1, 5), (nR_2, nT_2, 8), (nR_3, nT_3, 3), (nR_4, nT_4, 10), (nR_5, nT_5, 6), (nR_6, nT_6, 6), (nR_7, nT_7, 6), (nR_8, nT_8, 12), (nR_9, nT_9, 31)]
def ns_ft : Nat → List Nat := fun ci => match ci with
  | 0 => [2, 2]
  | 1 => [0, 1, 1, 1, 1]
  | 2 => [0, 0, 0, 0, 0, 0, 0, 0]
  | 3 => [0, 0, 2]
  | 4 => [2, 2, 2, 2, 2, 2, 2, 2, 0, 0]
  | 5 => [2, 0, 0, 0, 0, 0]
  | 6 => [2, 2, 2, 2, 0, 0]
  | 7 => [2, 2, 0, 0, 0, 0]
  | 8 => [2, 2, 2, 2, 2, 2, 2, 2, 2, 2, 2, 0]
  | 9 => [2, 2, 2, 0, 2, 0, 2, 2, 2, 2, 2, 2, 0, 0, 0, 0, 2, 0, 0, 0, 0, 2, 0, 2, 2, 0, 0, 0, 0, 2, 2]
  | _ => []
def ns_kL : List Nat := [8, 7, 1, 12, 2, 2, 2, 2, 2, 2, 7, 1, 12, 2, 2, 2, 2, 2, 2, 7, 1, 12, 2, 2, 2, 2, 2, 2, 13, 5, 10, 6, 10, 10, 2, 4, 11, 11, 10, 2, 2, 2, 2, 0, 10, 10, 2, 10, 10, 3, 11, 3, 11, 3, 11, 3, 11, 3, 11, 3, 11, 3, 11, 3, 11, 9, 10, 10, 11, 10, 10, 10, 10, 10, 10, 10, 10, 10, 10, 10, 10, 10]
def ns_lL : List Nat := [0, 0, 0, 6, 0, 0, 0, 0, 0, 0, 0, 0, 6, 0, 0, 0, 0, 0, 0, 0, 0, 6, 0, 0, 0, 0, 0, 0, 8, 0, 250, 0, 3904, 61, 0, 0, 61, 61, 61, 0, 0, 0, 0, 0, 65, 65, 0, 61, 5, 0, 40, 0, 40, 0, 40, 0, 40, 0, 40, 0, 40, 0, 40, 0, 40, 0, 8, 8, 320, 61, 6, 6, 6, 6, 6, 6, 250, 7, 102, 102, 8000, 61]
def ns_kd (a : Nat) : Nat := ns_kL.getD a 99
def ns_ln (a : Nat) : Nat := ns_lL.getD a 0
def ns_N : Nat := 82
theorem ns_kd_lt {a k : Nat} (h : ns_kd a = k) (hk : k < 99) : a < ns_N := by
  rcases Nat.lt_or_ge a ns_N with h1 | h1
  · exact h1
  · exfalso
    have h2 : ns_kd a = 99 := by
      unfold ns_kd
      rw [List.getD_eq_getElem?_getD, List.getElem?_eq_none (show ns_kL.length ≤ a from h1)]
      rfl
    omega
