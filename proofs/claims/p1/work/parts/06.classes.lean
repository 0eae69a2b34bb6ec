def F_LandBook : u_T := fun k => match k with
  | 0 => ("LandBook", "row", "LLandBook$Points;", true)
  | 1 => ("LandBook", "chain", "LLandBook$Points;", true)
  | 2 => ("LandBook", "cutter", "LLandBook$Cutter;", true)
  | 3 => ("LandBook", "joiner", "LLandBook$Joiner;", true)
  | 4 => ("LandBook", "register", "LLandBook$Register;", true)
  | 5 => ("LandBook", "log", "LLandBook$Log;", true)
  | 6 => ("LandBook", "down", "Z", false)
  | _ => ("LandBook", "mounts", "I", false)
def t_LandBook : Nat → FieldType := fun k => match k with
  | 0 => .object "LandBook$Points"
  | 1 => .object "LandBook$Points"
  | 2 => .object "LandBook$Cutter"
  | 3 => .object "LandBook$Joiner"
  | 4 => .object "LandBook$Register"
  | 5 => .object "LandBook$Log"
  | 6 => .boolean
  | _ => .int
theorem n_LandBook : ∀ a, a < 8 → ∀ b, b < 8 → a ≠ b → (F_LandBook a).2.1 ≠ (F_LandBook b).2.1 := by decide +kernel
theorem t_LandBook_ok : ∀ k, k < 8 → parseFieldDescriptor (F_LandBook k).2.2.1 = some (t_LandBook k) := by decide +kernel
def F_Points : u_T := fun k => match k with
  | 0 => ("LandBook$Points", "items", "[I", true)
  | _ => ("LandBook$Points", "size", "I", false)
def t_Points : Nat → FieldType := fun k => match k with
  | 0 => .array .int
  | _ => .int
theorem n_Points : ∀ a, a < 2 → ∀ b, b < 2 → a ≠ b → (F_Points a).2.1 ≠ (F_Points b).2.1 := by decide +kernel
theorem t_Points_ok : ∀ k, k < 2 → parseFieldDescriptor (F_Points k).2.2.1 = some (t_Points k) := by decide +kernel
def F_Cutter : u_T := fun k => match k with
  | 0 => ("LandBook$Cutter", "piece", "LLandBook$Points;", true)
  | 1 => ("LandBook$Cutter", "first", "LLandBook$Points;", true)
  | _ => ("LandBook$Cutter", "second", "LLandBook$Points;", true)
def t_Cutter : Nat → FieldType := fun k => match k with
  | 0 => .object "LandBook$Points"
  | 1 => .object "LandBook$Points"
  | _ => .object "LandBook$Points"
theorem n_Cutter : ∀ a, a < 3 → ∀ b, b < 3 → a ≠ b → (F_Cutter a).2.1 ≠ (F_Cutter b).2.1 := by decide +kernel
theorem t_Cutter_ok : ∀ k, k < 3 → parseFieldDescriptor (F_Cutter k).2.2.1 = some (t_Cutter k) := by decide +kernel
def F_Joiner : u_T := fun k => match k with
  | 0 => ("LandBook$Joiner", "left", "LLandBook$Points;", true)
  | 1 => ("LandBook$Joiner", "right", "LLandBook$Points;", true)
  | 2 => ("LandBook$Joiner", "matches", "[I", true)
  | 3 => ("LandBook$Joiner", "outline", "LLandBook$Points;", true)
  | _ => ("LandBook$Joiner", "joined", "LLandBook$Points;", true)
def t_Joiner : Nat → FieldType := fun k => match k with
  | 0 => .object "LandBook$Points"
  | 1 => .object "LandBook$Points"
  | 2 => .array .int
  | 3 => .object "LandBook$Points"
  | _ => .object "LandBook$Points"
theorem n_Joiner : ∀ a, a < 5 → ∀ b, b < 5 → a ≠ b → (F_Joiner a).2.1 ≠ (F_Joiner b).2.1 := by decide +kernel
theorem t_Joiner_ok : ∀ k, k < 5 → parseFieldDescriptor (F_Joiner k).2.2.1 = some (t_Joiner k) := by decide +kernel
def F_Register : u_T := fun k => match k with
  | 0 => ("LandBook$Register", "deeds", "Ljava/util/ArrayList;", true)
  | 1 => ("LandBook$Register", "lots", "Ljava/util/ArrayList;", true)
  | 2 => ("LandBook$Register", "easements", "Ljava/util/ArrayList;", true)
  | 3 => ("LandBook$Register", "shares", "[I", true)
  | _ => ("LandBook$Register", "otherShares", "[I", true)
def t_Register : Nat → FieldType := fun k => match k with
  | 0 => .object "java/util/ArrayList"
  | 1 => .object "java/util/ArrayList"
  | 2 => .object "java/util/ArrayList"
  | 3 => .array .int
  | _ => .array .int
theorem n_Register : ∀ a, a < 5 → ∀ b, b < 5 → a ≠ b → (F_Register a).2.1 ≠ (F_Register b).2.1 := by decide +kernel
theorem t_Register_ok : ∀ k, k < 5 → parseFieldDescriptor (F_Register k).2.2.1 = some (t_Register k) := by decide +kernel
def F_Log : u_T := fun k => match k with
  | 0 => ("LandBook$Log", "words", "[I", false)
  | 1 => ("LandBook$Log", "size", "I", false)
  | _ => ("LandBook$Log", "synced", "I", false)
def t_Log : Nat → FieldType := fun k => match k with
  | 0 => .array .int
  | 1 => .int
  | _ => .int
theorem n_Log : ∀ a, a < 3 → ∀ b, b < 3 → a ≠ b → (F_Log a).2.1 ≠ (F_Log b).2.1 := by decide +kernel
theorem t_Log_ok : ∀ k, k < 3 → parseFieldDescriptor (F_Log k).2.2.1 = some (t_Log k) := by decide +kernel
def F_ArrayList : u_T := fun k => match k with
  | 0 => ("java/util/ArrayList", "elementData", "[Ljava/lang/Object;", false)
  | 1 => ("java/util/ArrayList", "size", "I", false)
  | _ => ("java/util/AbstractList", "modCount", "I", false)
def t_ArrayList : Nat → FieldType := fun k => match k with
  | 0 => .array (.object "java/lang/Object")
  | 1 => .int
  | _ => .int
theorem n_ArrayList : ∀ a, a < 3 → ∀ b, b < 3 → a ≠ b → (F_ArrayList a).2.1 ≠ (F_ArrayList b).2.1 := by decide +kernel
theorem t_ArrayList_ok : ∀ k, k < 3 → parseFieldDescriptor (F_ArrayList k).2.2.1 = some (t_ArrayList k) := by decide +kernel
def F_LandBookModel : u_T := fun k => match k with
  | 0 => ("LandBookModel", "thrown", "I", false)
  | 1 => ("LandBookModel", "opened", "Z", false)
  | 2 => ("LandBookModel", "down", "Z", false)
  | 3 => ("LandBookModel", "mounts", "I", false)
  | 4 => ("LandBookModel", "rowSize", "I", false)
  | 5 => ("LandBookModel", "rowX", "[I", true)
  | 6 => ("LandBookModel", "rowY", "[I", true)
  | 7 => ("LandBookModel", "lots", "I", false)
  | 8 => ("LandBookModel", "ringX", "[I", true)
  | 9 => ("LandBookModel", "ringY", "[I", true)
  | 10 => ("LandBookModel", "ringSize", "[I", true)
  | 11 => ("LandBookModel", "began", "[I", true)
  | 12 => ("LandBookModel", "ended", "[I", true)
  | 13 => ("LandBookModel", "parentA", "[I", true)
  | 14 => ("LandBookModel", "parentB", "[I", true)
  | 15 => ("LandBookModel", "deeds", "I", false)
  | 16 => ("LandBookModel", "kinds", "[I", true)
  | 17 => ("LandBookModel", "days", "[I", true)
  | 18 => ("LandBookModel", "one", "[I", true)
  | 19 => ("LandBookModel", "two", "[I", true)
  | 20 => ("LandBookModel", "three", "[I", true)
  | 21 => ("LandBookModel", "parts", "[I", true)
  | 22 => ("LandBookModel", "lotsThen", "[I", true)
  | 23 => ("LandBookModel", "easementsThen", "[I", true)
  | 24 => ("LandBookModel", "wordsThen", "[I", true)
  | 25 => ("LandBookModel", "easements", "I", false)
  | 26 => ("LandBookModel", "granted", "[I", true)
  | 27 => ("LandBookModel", "released", "[I", true)
  | 28 => ("LandBookModel", "over", "[I", true)
  | 29 => ("LandBookModel", "inherits", "[Z", true)
  | 30 => ("LandBookModel", "words", "I", false)
  | 31 => ("LandBookModel", "synced", "I", false)
  | 32 => ("LandBookModel", "log", "[I", true)
  | 33 => ("LandBookModel", "madeSize", "I", false)
  | 34 => ("LandBookModel", "madeX", "[I", true)
  | 35 => ("LandBookModel", "madeY", "[I", true)
  | 36 => ("LandBookModel", "sizeA", "I", false)
  | 37 => ("LandBookModel", "aX", "[I", true)
  | 38 => ("LandBookModel", "aY", "[I", true)
  | 39 => ("LandBookModel", "sizeB", "I", false)
  | 40 => ("LandBookModel", "bX", "[I", true)
  | _ => ("LandBookModel", "bY", "[I", true)
def t_LandBookModel : Nat → FieldType := fun k => match k with
  | 0 => .int
  | 1 => .boolean
  | 2 => .boolean
  | 3 => .int
  | 4 => .int
  | 5 => .array .int
  | 6 => .array .int
  | 7 => .int
  | 8 => .array .int
  | 9 => .array .int
  | 10 => .array .int
  | 11 => .array .int
  | 12 => .array .int
  | 13 => .array .int
  | 14 => .array .int
  | 15 => .int
  | 16 => .array .int
  | 17 => .array .int
  | 18 => .array .int
  | 19 => .array .int
  | 20 => .array .int
  | 21 => .array .int
  | 22 => .array .int
  | 23 => .array .int
  | 24 => .array .int
  | 25 => .int
  | 26 => .array .int
  | 27 => .array .int
  | 28 => .array .int
  | 29 => .array .boolean
  | 30 => .int
  | 31 => .int
  | 32 => .array .int
  | 33 => .int
  | 34 => .array .int
  | 35 => .array .int
  | 36 => .int
  | 37 => .array .int
  | 38 => .array .int
  | 39 => .int
  | 40 => .array .int
  | _ => .array .int
theorem n_LandBookModel : ∀ a, a < 42 → ∀ b, b < 42 → a ≠ b → (F_LandBookModel a).2.1 ≠ (F_LandBookModel b).2.1 := by decide +kernel
theorem t_LandBookModel_ok : ∀ k, k < 42 → parseFieldDescriptor (F_LandBookModel k).2.2.1 = some (t_LandBookModel k) := by decide +kernel
def F_Deed : u_T := fun k => match k with
  | 0 => ("LandBook$Deed", "kind", "I", true)
  | 1 => ("LandBook$Deed", "day", "I", true)
  | 2 => ("LandBook$Deed", "names", "[I", true)
  | 3 => ("LandBook$Deed", "from", "I", true)
  | 4 => ("LandBook$Deed", "to", "I", true)
  | _ => ("LandBook$Deed", "parts", "I", true)
def t_Deed : Nat → FieldType := fun k => match k with
  | 0 => .int
  | 1 => .int
  | 2 => .array .int
  | 3 => .int
  | 4 => .int
  | _ => .int
theorem n_Deed : ∀ a, a < 6 → ∀ b, b < 6 → a ≠ b → (F_Deed a).2.1 ≠ (F_Deed b).2.1 := by decide +kernel
theorem t_Deed_ok : ∀ k, k < 6 → parseFieldDescriptor (F_Deed k).2.2.1 = some (t_Deed k) := by decide +kernel
def F_Lot : u_T := fun k => match k with
  | 0 => ("LandBook$Lot", "ring", "LLandBook$Points;", true)
  | 1 => ("LandBook$Lot", "began", "I", true)
  | 2 => ("LandBook$Lot", "shares", "[I", true)
  | 3 => ("LandBook$Lot", "tookOver", "[Z", true)
  | _ => ("LandBook$Lot", "ended", "I", false)
def t_Lot : Nat → FieldType := fun k => match k with
  | 0 => .object "LandBook$Points"
  | 1 => .int
  | 2 => .array .int
  | 3 => .array .boolean
  | _ => .int
theorem n_Lot : ∀ a, a < 5 → ∀ b, b < 5 → a ≠ b → (F_Lot a).2.1 ≠ (F_Lot b).2.1 := by decide +kernel
theorem t_Lot_ok : ∀ k, k < 5 → parseFieldDescriptor (F_Lot k).2.2.1 = some (t_Lot k) := by decide +kernel
def F_Easement : u_T := fun k => match k with
  | 0 => ("LandBook$Easement", "over", "I", true)
  | 1 => ("LandBook$Easement", "granted", "I", true)
  | _ => ("LandBook$Easement", "released", "I", false)
def t_Easement : Nat → FieldType := fun k => match k with
  | 0 => .int
  | 1 => .int
  | _ => .int
theorem n_Easement : ∀ a, a < 3 → ∀ b, b < 3 → a ≠ b → (F_Easement a).2.1 ≠ (F_Easement b).2.1 := by decide +kernel
theorem t_Easement_ok : ∀ k, k < 3 → parseFieldDescriptor (F_Easement k).2.2.1 = some (t_Easement k) := by decide +kernel
abbrev classes : List vw_C := [("LandBook", F_LandBook, 8), ("LandBook$Points", F_Points, 2), ("LandBook$Cutter", F_Cutter, 3), ("LandBook$Joiner", F_Joiner, 5), ("LandBook$Register", F_Register, 5), ("LandBook$Log", F_Log, 3), ("java/util/ArrayList", F_ArrayList, 3), ("LandBookModel", F_LandBookModel, 42), ("LandBook$Deed", F_Deed, 6), ("LandBook$Lot", F_Lot, 5), ("LandBook$Easement", F_Easement, 3)]
/-- a world as it stands behind a method -/
abbrev tw_B (dC : Nat → ClassId) (dI : Nat → Nat → Nat) (A : Nat → Prop) (ws : va_W) (tys : List (ClassId × FieldType)) (t : State) : Prop := va_P (dC, dI) classes ws t.heap ∧ va_K (dC, dI) classes tys t ∧ va_D A ws
