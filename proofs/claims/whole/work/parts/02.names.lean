def RX0 : String := "LullabyHouse$Chance"
def TX0 : u_T := fun k => match k with
  | 0 => ("LullabyHouse$Chance", "house", "LLullabyHouse$House;", false)
  | _ => ("LullabyHouse$Chance", "ground", "[I", true)
def tyX0 : Nat → FieldType := fun k => match k with
  | 0 => .object "LullabyHouse$House"
  | _ => .array .int
theorem nmX0 : ∀ a, a < 2 → ∀ b, b < 2 → a ≠ b → (TX0 a).2.1 ≠ (TX0 b).2.1 := by decide +kernel
theorem tyX0_ok : ∀ k, k < 2 → parseFieldDescriptor (TX0 k).2.2.1 = some (tyX0 k) := by decide +kernel
def RX1 : String := "LullabyHouse$House"
def TX1 : u_T := fun k => match k with
  | 0 => ("LullabyHouse$House", "floors", "I", false)
  | 1 => ("LullabyHouse$House", "bars", "I", false)
  | 2 => ("LullabyHouse$House", "singers", "I", false)
  | 3 => ("LullabyHouse$House", "step", "I", false)
  | 4 => ("LullabyHouse$House", "walled", "I", false)
  | 5 => ("LullabyHouse$House", "rent", "[I", true)
  | 6 => ("LullabyHouse$House", "people", "[I", true)
  | 7 => ("LullabyHouse$House", "note", "[I", true)
  | 8 => ("LullabyHouse$House", "length", "[I", true)
  | 9 => ("LullabyHouse$House", "ground", "[I", true)
  | 10 => ("LullabyHouse$House", "risk", "[I", true)
  | 11 => ("LullabyHouse$House", "low", "[I", true)
  | 12 => ("LullabyHouse$House", "high", "[I", true)
  | _ => ("LullabyHouse$House", "breath", "[I", true)
def tyX1 : Nat → FieldType := fun k => match k with
  | 0 => .int
  | 1 => .int
  | 2 => .int
  | 3 => .int
  | 4 => .int
  | 5 => .array .int
  | 6 => .array .int
  | 7 => .array .int
  | 8 => .array .int
  | 9 => .array .int
  | 10 => .array .int
  | 11 => .array .int
  | 12 => .array .int
  | _ => .array .int
theorem nmX1 : ∀ a, a < 14 → ∀ b, b < 14 → a ≠ b → (TX1 a).2.1 ≠ (TX1 b).2.1 := by decide +kernel
theorem tyX1_ok : ∀ k, k < 14 → parseFieldDescriptor (TX1 k).2.2.1 = some (tyX1 k) := by decide +kernel
def RX2 : String := "LullabyHouse$Morning"
def TX2 : u_T := fun k => match k with
  | 0 => ("LullabyHouse$Morning", "dreams", "[I", true)
  | _ => ("LullabyHouse$Morning", "fitting", "I", false)
def tyX2 : Nat → FieldType := fun k => match k with
  | 0 => .array .int
  | _ => .int
theorem nmX2 : ∀ a, a < 2 → ∀ b, b < 2 → a ≠ b → (TX2 a).2.1 ≠ (TX2 b).2.1 := by decide +kernel
theorem tyX2_ok : ∀ k, k < 2 → parseFieldDescriptor (TX2 k).2.2.1 = some (tyX2 k) := by decide +kernel
def RX3 : String := "LullabyHouse$Night"
def TX3 : u_T := fun k => match k with
  | 0 => ("LullabyHouse$Night", "house", "LLullabyHouse$House;", false)
  | 1 => ("LullabyHouse$Night", "night", "I", false)
  | 2 => ("LullabyHouse$Night", "next", "I", false)
  | 3 => ("LullabyHouse$Night", "awake", "I", false)
  | 4 => ("LullabyHouse$Night", "woken", "I", false)
  | 5 => ("LullabyHouse$Night", "paid", "I", false)
  | 6 => ("LullabyHouse$Night", "dreams", "I", false)
  | 7 => ("LullabyHouse$Night", "colds", "I", false)
  | 8 => ("LullabyHouse$Night", "dreaming", "I", false)
  | 9 => ("LullabyHouse$Night", "barAhead", "I", false)
  | 10 => ("LullabyHouse$Night", "singerAhead", "I", false)
  | 11 => ("LullabyHouse$Night", "left", "[I", true)
  | 12 => ("LullabyHouse$Night", "times", "[I", true)
  | 13 => ("LullabyHouse$Night", "seed", "I", false)
  | 14 => ("LullabyHouse$Night", "done", "I", false)
  | 15 => ("LullabyHouse$Night", "worstWoken", "I", false)
  | 16 => ("LullabyHouse$Night", "firstDream", "I", false)
  | 17 => ("LullabyHouse$Night", "worst", "I", false)
  | _ => ("LullabyHouse$Night", "calms", "I", false)
def tyX3 : Nat → FieldType := fun k => match k with
  | 0 => .object "LullabyHouse$House"
  | 1 => .int
  | 2 => .int
  | 3 => .int
  | 4 => .int
  | 5 => .int
  | 6 => .int
  | 7 => .int
  | 8 => .int
  | 9 => .int
  | 10 => .int
  | 11 => .array .int
  | 12 => .array .int
  | 13 => .int
  | 14 => .int
  | 15 => .int
  | 16 => .int
  | 17 => .int
  | _ => .int
theorem nmX3 : ∀ a, a < 19 → ∀ b, b < 19 → a ≠ b → (TX3 a).2.1 ≠ (TX3 b).2.1 := by decide +kernel
theorem tyX3_ok : ∀ k, k < 19 → parseFieldDescriptor (TX3 k).2.2.1 = some (tyX3 k) := by decide +kernel
def RX4 : String := "LullabyHouse$Reader"
def TX4 : u_T := fun k => match k with
  | 0 => ("LullabyHouse$Reader", "house", "LLullabyHouse$House;", true)
  | 1 => ("LullabyHouse$Reader", "rows", "LLullabyHouse$Rows;", true)
  | 2 => ("LullabyHouse$Reader", "fault", "I", false)
  | 3 => ("LullabyHouse$Reader", "place", "I", false)
  | 4 => ("LullabyHouse$Reader", "tape", "[B", false)
  | 5 => ("LullabyHouse$Reader", "size", "I", false)
  | 6 => ("LullabyHouse$Reader", "token", "I", false)
  | 7 => ("LullabyHouse$Reader", "start", "I", false)
  | 8 => ("LullabyHouse$Reader", "behind", "I", false)
  | 9 => ("LullabyHouse$Reader", "value", "I", false)
  | _ => ("LullabyHouse$Reader", "numbers", "[I", true)
def tyX4 : Nat → FieldType := fun k => match k with
  | 0 => .object "LullabyHouse$House"
  | 1 => .object "LullabyHouse$Rows"
  | 2 => .int
  | 3 => .int
  | 4 => .array .byte
  | 5 => .int
  | 6 => .int
  | 7 => .int
  | 8 => .int
  | 9 => .int
  | _ => .array .int
theorem nmX4 : ∀ a, a < 11 → ∀ b, b < 11 → a ≠ b → (TX4 a).2.1 ≠ (TX4 b).2.1 := by decide +kernel
theorem tyX4_ok : ∀ k, k < 11 → parseFieldDescriptor (TX4 k).2.2.1 = some (tyX4 k) := by decide +kernel
def RX5 : String := "LullabyHouse$Rota"
def TX5 : u_T := fun k => match k with
  | 0 => ("LullabyHouse$Rota", "house", "LLullabyHouse$House;", false)
  | 1 => ("LullabyHouse$Rota", "bars", "I", false)
  | 2 => ("LullabyHouse$Rota", "singers", "I", false)
  | 3 => ("LullabyHouse$Rota", "left", "[I", true)
  | 4 => ("LullabyHouse$Rota", "row", "[I", true)
  | _ => ("LullabyHouse$Rota", "open", "[I", true)
def tyX5 : Nat → FieldType := fun k => match k with
  | 0 => .object "LullabyHouse$House"
  | 1 => .int
  | 2 => .int
  | 3 => .array .int
  | 4 => .array .int
  | _ => .array .int
theorem nmX5 : ∀ a, a < 6 → ∀ b, b < 6 → a ≠ b → (TX5 a).2.1 ≠ (TX5 b).2.1 := by decide +kernel
theorem tyX5_ok : ∀ k, k < 6 → parseFieldDescriptor (TX5 k).2.2.1 = some (tyX5 k) := by decide +kernel
def RX6 : String := "LullabyHouse$Rows"
def TX6 : u_T := fun k => match k with
  | 0 => ("LullabyHouse$Rows", "most", "I", true)
  | 1 => ("LullabyHouse$Rows", "kinds", "[I", true)
  | 2 => ("LullabyHouse$Rows", "numbers", "[I", true)
  | _ => ("LullabyHouse$Rows", "size", "I", false)
def tyX6 : Nat → FieldType := fun k => match k with
  | 0 => .int
  | 1 => .array .int
  | 2 => .array .int
  | _ => .int
theorem nmX6 : ∀ a, a < 4 → ∀ b, b < 4 → a ≠ b → (TX6 a).2.1 ≠ (TX6 b).2.1 := by decide +kernel
theorem tyX6_ok : ∀ k, k < 4 → parseFieldDescriptor (TX6 k).2.2.1 = some (tyX6 k) := by decide +kernel
def RX7 : String := "LullabyHouse$Told"
def TX7 : u_T := fun k => match k with
  | 0 => ("LullabyHouse$Told", "tape", "[B", true)
  | 1 => ("LullabyHouse$Told", "size", "I", false)
  | 2 => ("LullabyHouse$Told", "fault", "I", false)
  | 3 => ("LullabyHouse$Told", "place", "I", false)
  | 4 => ("LullabyHouse$Told", "counts", "[I", true)
  | 5 => ("LullabyHouse$Told", "houses", "[LLullabyHouse$House;", true)
  | 6 => ("LullabyHouse$Told", "nights", "[LLullabyHouse$Rows;", true)
  | _ => ("LullabyHouse$Told", "mornings", "[LLullabyHouse$Rows;", true)
def tyX7 : Nat → FieldType := fun k => match k with
  | 0 => .array .byte
  | 1 => .int
  | 2 => .int
  | 3 => .int
  | 4 => .array .int
  | 5 => .array (.object "LullabyHouse$House")
  | 6 => .array (.object "LullabyHouse$Rows")
  | _ => .array (.object "LullabyHouse$Rows")
theorem nmX7 : ∀ a, a < 8 → ∀ b, b < 8 → a ≠ b → (TX7 a).2.1 ≠ (TX7 b).2.1 := by decide +kernel
theorem tyX7_ok : ∀ k, k < 8 → parseFieldDescriptor (TX7 k).2.2.1 = some (tyX7 k) := by decide +kernel
def RX8 : String := "LullabyHouse$Tunes"
def TX8 : u_T := fun k => match k with
  | 0 => ("LullabyHouse$Tunes", "house", "LLullabyHouse$House;", false)
  | 1 => ("LullabyHouse$Tunes", "fixed", "[I", true)
  | 2 => ("LullabyHouse$Tunes", "ways", "[I", true)
  | _ => ("LullabyHouse$Tunes", "further", "[I", true)
def tyX8 : Nat → FieldType := fun k => match k with
  | 0 => .object "LullabyHouse$House"
  | 1 => .array .int
  | 2 => .array .int
  | _ => .array .int
theorem nmX8 : ∀ a, a < 4 → ∀ b, b < 4 → a ≠ b → (TX8 a).2.1 ≠ (TX8 b).2.1 := by decide +kernel
theorem tyX8_ok : ∀ k, k < 4 → parseFieldDescriptor (TX8 k).2.2.1 = some (tyX8 k) := by decide +kernel
def RX9 : String := "LullabyHouse$Tussle"
def TX9 : u_T := fun k => match k with
  | 0 => ("LullabyHouse$Tussle", "house", "LLullabyHouse$House;", false)
  | 1 => ("LullabyHouse$Tussle", "turns", "I", false)
  | 2 => ("LullabyHouse$Tussle", "skipped", "I", false)
  | 3 => ("LullabyHouse$Tussle", "unpaid", "I", false)
  | 4 => ("LullabyHouse$Tussle", "worth", "I", false)
  | _ => ("LullabyHouse$Tussle", "opening", "I", false)
def tyX9 : Nat → FieldType := fun k => match k with
  | 0 => .object "LullabyHouse$House"
  | 1 => .int
  | 2 => .int
  | 3 => .int
  | 4 => .int
  | _ => .int
theorem nmX9 : ∀ a, a < 6 → ∀ b, b < 6 → a ≠ b → (TX9 a).2.1 ≠ (TX9 b).2.1 := by decide +kernel
theorem tyX9_ok : ∀ k, k < 6 → parseFieldDescriptor (TX9 k).2.2.1 = some (tyX9 k) := by decide +kernel
def RX10 : String := "LullabyHouse"
def TX10 : u_T := fun k => match k with
  | 0 => ("LullabyHouse", "now", "LLullabyHouse$Told;", true)
  | 1 => ("LullabyHouse", "images", "[LLullabyHouse$Told;", true)
  | 2 => ("LullabyHouse", "kept", "[Z", true)
  | 3 => ("LullabyHouse", "reader", "LLullabyHouse$Reader;", true)
  | 4 => ("LullabyHouse", "search", "LLullabyHouse$Rota;", true)
  | 5 => ("LullabyHouse", "night", "LLullabyHouse$Night;", true)
  | 6 => ("LullabyHouse", "chance", "LLullabyHouse$Chance;", true)
  | 7 => ("LullabyHouse", "game", "LLullabyHouse$Tussle;", true)
  | 8 => ("LullabyHouse", "melody", "LLullabyHouse$Tunes;", true)
  | _ => ("LullabyHouse", "dawn", "LLullabyHouse$Morning;", true)
def tyX10 : Nat → FieldType := fun k => match k with
  | 0 => .object "LullabyHouse$Told"
  | 1 => .array (.object "LullabyHouse$Told")
  | 2 => .array .boolean
  | 3 => .object "LullabyHouse$Reader"
  | 4 => .object "LullabyHouse$Rota"
  | 5 => .object "LullabyHouse$Night"
  | 6 => .object "LullabyHouse$Chance"
  | 7 => .object "LullabyHouse$Tussle"
  | 8 => .object "LullabyHouse$Tunes"
  | _ => .object "LullabyHouse$Morning"
theorem nmX10 : ∀ a, a < 10 → ∀ b, b < 10 → a ≠ b → (TX10 a).2.1 ≠ (TX10 b).2.1 := by decide +kernel
theorem tyX10_ok : ∀ k, k < 10 → parseFieldDescriptor (TX10 k).2.2.1 = some (tyX10 k) := by decide +kernel
def RX11 : String := "LullabyHouseModel"
def TX11 : u_T := fun k => match k with
  | 0 => ("LullabyHouseModel", "all", "[I", true)
  | 1 => ("LullabyHouseModel", "has", "[Z", true)
  | 2 => ("LullabyHouseModel", "size", "I", false)
  | 3 => ("LullabyHouseModel", "next", "I", false)
  | 4 => ("LullabyHouseModel", "where", "I", false)
  | 5 => ("LullabyHouseModel", "token", "I", false)
  | 6 => ("LullabyHouseModel", "number", "I", false)
  | 7 => ("LullabyHouseModel", "word", "I", false)
  | 8 => ("LullabyHouseModel", "wrong", "Z", false)
  | 9 => ("LullabyHouseModel", "farFloor", "I", false)
  | 10 => ("LullabyHouseModel", "farBar", "I", false)
  | 11 => ("LullabyHouseModel", "read", "[I", true)
  | 12 => ("LullabyHouseModel", "h0", "I", false)
  | 13 => ("LullabyHouseModel", "floors", "I", false)
  | 14 => ("LullabyHouseModel", "bars", "I", false)
  | 15 => ("LullabyHouseModel", "singers", "I", false)
  | 16 => ("LullabyHouseModel", "order", "[I", true)
  | 17 => ("LullabyHouseModel", "choice", "[I", true)
  | 18 => ("LullabyHouseModel", "used", "[I", true)
  | 19 => ("LullabyHouseModel", "limit", "[I", true)
  | 20 => ("LullabyHouseModel", "sung", "I", false)
  | 21 => ("LullabyHouseModel", "depth", "I", false)
  | 22 => ("LullabyHouseModel", "choir", "I", false)
  | 23 => ("LullabyHouseModel", "eased", "[I", true)
  | 24 => ("LullabyHouseModel", "movedTo", "[I", true)
  | 25 => ("LullabyHouseModel", "skippedAt", "[I", true)
  | 26 => ("LullabyHouseModel", "unpaidAt", "[I", true)
  | 27 => ("LullabyHouseModel", "turnOf", "[I", true)
  | 28 => ("LullabyHouseModel", "worthOf", "[I", true)
  | 29 => ("LullabyHouseModel", "firstTurn", "I", false)
  | 30 => ("LullabyHouseModel", "rowsFrom", "[I", true)
  | 31 => ("LullabyHouseModel", "cameTo", "[Z", true)
  | 32 => ("LullabyHouseModel", "n0", "I", false)
  | 33 => ("LullabyHouseModel", "night", "I", false)
  | 34 => ("LullabyHouseModel", "at", "I", false)
  | 35 => ("LullabyHouseModel", "awake", "I", false)
  | 36 => ("LullabyHouseModel", "woken", "I", false)
  | 37 => ("LullabyHouseModel", "paid", "I", false)
  | 38 => ("LullabyHouseModel", "dreams", "I", false)
  | 39 => ("LullabyHouseModel", "colds", "I", false)
  | 40 => ("LullabyHouseModel", "dreamt", "I", false)
  | 41 => ("LullabyHouseModel", "done", "I", false)
  | 42 => ("LullabyHouseModel", "worst", "I", false)
  | 43 => ("LullabyHouseModel", "worstMany", "I", false)
  | 44 => ("LullabyHouseModel", "calms", "I", false)
  | 45 => ("LullabyHouseModel", "left", "[I", true)
  | 46 => ("LullabyHouseModel", "times", "[I", true)
  | 47 => ("LullabyHouseModel", "sangIt", "[I", true)
  | 48 => ("LullabyHouseModel", "m0", "I", false)
  | 49 => ("LullabyHouseModel", "dreamBy", "[I", true)
  | _ => ("LullabyHouseModel", "x0", "I", false)
def tyX11 : Nat → FieldType := fun k => match k with
  | 0 => .array .int
  | 1 => .array .boolean
  | 2 => .int
  | 3 => .int
  | 4 => .int
  | 5 => .int
  | 6 => .int
  | 7 => .int
  | 8 => .boolean
  | 9 => .int
  | 10 => .int
  | 11 => .array .int
  | 12 => .int
  | 13 => .int
  | 14 => .int
  | 15 => .int
  | 16 => .array .int
  | 17 => .array .int
  | 18 => .array .int
  | 19 => .array .int
  | 20 => .int
  | 21 => .int
  | 22 => .int
  | 23 => .array .int
  | 24 => .array .int
  | 25 => .array .int
  | 26 => .array .int
  | 27 => .array .int
  | 28 => .array .int
  | 29 => .int
  | 30 => .array .int
  | 31 => .array .boolean
  | 32 => .int
  | 33 => .int
  | 34 => .int
  | 35 => .int
  | 36 => .int
  | 37 => .int
  | 38 => .int
  | 39 => .int
  | 40 => .int
  | 41 => .int
  | 42 => .int
  | 43 => .int
  | 44 => .int
  | 45 => .array .int
  | 46 => .array .int
  | 47 => .array .int
  | 48 => .int
  | 49 => .array .int
  | _ => .int
theorem nmX11 : ∀ a, a < 51 → ∀ b, b < 51 → a ≠ b → (TX11 a).2.1 ≠ (TX11 b).2.1 := by decide +kernel
theorem tyX11_ok : ∀ k, k < 51 → parseFieldDescriptor (TX11 k).2.2.1 = some (tyX11 k) := by decide +kernel
abbrev vwCl : List vw_C := [(RX0, TX0, 2), (RX1, TX1, 14), (RX2, TX2, 2), (RX3, TX3, 19), (RX4, TX4, 11), (RX5, TX5, 6), (RX6, TX6, 4), (RX7, TX7, 8), (RX8, TX8, 4), (RX9, TX9, 6), (RX10, TX10, 10), (RX11, TX11, 51)]
