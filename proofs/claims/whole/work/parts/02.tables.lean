def RX0 : String := "StreetCries$Buyer"
def TX0 : u_T := fun k => match k with
  | 0 => ("StreetCries$Buyer", "corner", "I", false)
  | 1 => ("StreetCries$Buyer", "kind", "I", false)
  | 2 => ("StreetCries$Buyer", "floor", "I", false)
  | _ => ("StreetCries$Buyer", "patience", "I", false)
def tyX0 : Nat → FieldType := fun k => match k with
  | 0 => .int
  | 1 => .int
  | 2 => .int
  | _ => .int
abbrev wsX00 : List Cond := u_ws RX0 TX0 4
theorem nmX0 : ∀ a, a < 4 → ∀ b, b < 4 → a ≠ b → (TX0 a).2.1 ≠ (TX0 b).2.1 := by decide +kernel
theorem tyX0_ok : ∀ k, k < 4 → parseFieldDescriptor (TX0 k).2.2.1 = some (tyX0 k) := by decide +kernel
def RX1 : String := "StreetCries$Day"
def TX1 : u_T := fun k => match k with
  | 0 => ("StreetCries$Day", "boughtFrom", "[I", true)
  | 1 => ("StreetCries$Day", "boughtIn", "[I", true)
  | 2 => ("StreetCries$Day", "wasted", "[I", true)
  | 3 => ("StreetCries$Day", "cryCount", "I", false)
  | 4 => ("StreetCries$Day", "buyerCount", "I", false)
  | 5 => ("StreetCries$Day", "criers", "[I", true)
  | _ => ("StreetCries$Day", "luring", "[I", true)
def tyX1 : Nat → FieldType := fun k => match k with
  | 0 => .array .int
  | 1 => .array .int
  | 2 => .array .int
  | 3 => .int
  | 4 => .int
  | 5 => .array .int
  | _ => .array .int
abbrev wsX10 : List Cond := u_ws RX1 TX1 7
theorem nmX1 : ∀ a, a < 7 → ∀ b, b < 7 → a ≠ b → (TX1 a).2.1 ≠ (TX1 b).2.1 := by decide +kernel
theorem tyX1_ok : ∀ k, k < 7 → parseFieldDescriptor (TX1 k).2.2.1 = some (tyX1 k) := by decide +kernel
def RX2 : String := "StreetCries$Seller"
def TX2 : u_T := fun k => match k with
  | 0 => ("StreetCries$Seller", "corners", "[I", true)
  | 1 => ("StreetCries$Seller", "notes", "[I", true)
  | 2 => ("StreetCries$Seller", "cornerCount", "I", false)
  | 3 => ("StreetCries$Seller", "noteCount", "I", false)
  | 4 => ("StreetCries$Seller", "kind", "I", false)
  | 5 => ("StreetCries$Seller", "loud", "I", false)
  | 6 => ("StreetCries$Seller", "begin", "I", false)
  | 7 => ("StreetCries$Seller", "pace", "I", false)
  | _ => ("StreetCries$Seller", "lift", "I", false)
def tyX2 : Nat → FieldType := fun k => match k with
  | 0 => .array .int
  | 1 => .array .int
  | 2 => .int
  | 3 => .int
  | 4 => .int
  | 5 => .int
  | 6 => .int
  | 7 => .int
  | _ => .int
abbrev wsX20 : List Cond := u_ws RX2 TX2 9
theorem nmX2 : ∀ a, a < 9 → ∀ b, b < 9 → a ≠ b → (TX2 a).2.1 ≠ (TX2 b).2.1 := by decide +kernel
theorem tyX2_ok : ∀ k, k < 9 → parseFieldDescriptor (TX2 k).2.2.1 = some (tyX2 k) := by decide +kernel
def RX3 : String := "StreetCries$Sheet"
def TX3 : u_T := fun k => match k with
  | 0 => ("StreetCries$Sheet", "items", "[I", true)
  | 1 => ("StreetCries$Sheet", "isThere", "Z", false)
  | 2 => ("StreetCries$Sheet", "lane", "I", false)
  | _ => ("StreetCries$Sheet", "count", "I", false)
def tyX3 : Nat → FieldType := fun k => match k with
  | 0 => .array .int
  | 1 => .boolean
  | 2 => .int
  | _ => .int
abbrev wsX30 : List Cond := u_ws RX3 TX3 4
theorem nmX3 : ∀ a, a < 4 → ∀ b, b < 4 → a ≠ b → (TX3 a).2.1 ≠ (TX3 b).2.1 := by decide +kernel
theorem tyX3_ok : ∀ k, k < 4 → parseFieldDescriptor (TX3 k).2.2.1 = some (tyX3 k) := by decide +kernel
def RX4 : String := "StreetCries$Tape"
def TX4 : u_T := fun k => match k with
  | 0 => ("StreetCries$Tape", "bytes", "[I", true)
  | _ => ("StreetCries$Tape", "count", "I", false)
def tyX4 : Nat → FieldType := fun k => match k with
  | 0 => .array .int
  | _ => .int
abbrev wsX40 : List Cond := u_ws RX4 TX4 2
theorem nmX4 : ∀ a, a < 2 → ∀ b, b < 2 → a ≠ b → (TX4 a).2.1 ≠ (TX4 b).2.1 := by decide +kernel
theorem tyX4_ok : ∀ k, k < 2 → parseFieldDescriptor (TX4 k).2.2.1 = some (tyX4 k) := by decide +kernel
def RX5 : String := "StreetCries$Town"
def TX5 : u_T := fun k => match k with
  | 0 => ("StreetCries$Town", "noises", "[I", true)
  | 1 => ("StreetCries$Town", "sellers", "[LStreetCries$Seller;", true)
  | 2 => ("StreetCries$Town", "buyers", "[LStreetCries$Buyer;", true)
  | 3 => ("StreetCries$Town", "windows", "[LStreetCries$Window;", true)
  | 4 => ("StreetCries$Town", "sellerCount", "I", false)
  | 5 => ("StreetCries$Town", "buyerCount", "I", false)
  | 6 => ("StreetCries$Town", "windowCount", "I", false)
  | 7 => ("StreetCries$Town", "likeness", "I", false)
  | _ => ("StreetCries$Town", "bylaws", "I", false)
def tyX5 : Nat → FieldType := fun k => match k with
  | 0 => .array .int
  | 1 => .array (.object "StreetCries$Seller")
  | 2 => .array (.object "StreetCries$Buyer")
  | 3 => .array (.object "StreetCries$Window")
  | 4 => .int
  | 5 => .int
  | 6 => .int
  | 7 => .int
  | _ => .int
abbrev wsX50 : List Cond := u_ws RX5 TX5 9
theorem nmX5 : ∀ a, a < 9 → ∀ b, b < 9 → a ≠ b → (TX5 a).2.1 ≠ (TX5 b).2.1 := by decide +kernel
theorem tyX5_ok : ∀ k, k < 9 → parseFieldDescriptor (TX5 k).2.2.1 = some (tyX5 k) := by decide +kernel
def RX6 : String := "StreetCries$Trial"
def TX6 : u_T := fun k => match k with
  | 0 => ("StreetCries$Trial", "town", "LStreetCries$Town;", true)
  | 1 => ("StreetCries$Trial", "day", "LStreetCries$Day;", true)
  | 2 => ("StreetCries$Trial", "toOne", "[I", true)
  | _ => ("StreetCries$Trial", "toOther", "[I", true)
def tyX6 : Nat → FieldType := fun k => match k with
  | 0 => .object "StreetCries$Town"
  | 1 => .object "StreetCries$Day"
  | 2 => .array .int
  | _ => .array .int
abbrev wsX60 : List Cond := u_ws RX6 TX6 4
theorem nmX6 : ∀ a, a < 4 → ∀ b, b < 4 → a ≠ b → (TX6 a).2.1 ≠ (TX6 b).2.1 := by decide +kernel
theorem tyX6_ok : ∀ k, k < 4 → parseFieldDescriptor (TX6 k).2.2.1 = some (tyX6 k) := by decide +kernel
def RX7 : String := "StreetCries$Window"
def TX7 : u_T := fun k => match k with
  | 0 => ("StreetCries$Window", "corner", "I", false)
  | 1 => ("StreetCries$Window", "minute", "I", false)
  | _ => ("StreetCries$Window", "isHeard", "Z", false)
def tyX7 : Nat → FieldType := fun k => match k with
  | 0 => .int
  | 1 => .int
  | _ => .boolean
abbrev wsX70 : List Cond := u_ws RX7 TX7 3
theorem nmX7 : ∀ a, a < 3 → ∀ b, b < 3 → a ≠ b → (TX7 a).2.1 ≠ (TX7 b).2.1 := by decide +kernel
theorem tyX7_ok : ∀ k, k < 3 → parseFieldDescriptor (TX7 k).2.2.1 = some (tyX7 k) := by decide +kernel
def RX8 : String := "StreetCries"
def TX8 : u_T := fun k => match k with
  | 0 => ("StreetCries", "now", "LStreetCries$Town;", true)
  | 1 => ("StreetCries", "kept", "LStreetCries$Town;", true)
  | 2 => ("StreetCries", "trial", "LStreetCries$Trial;", true)
  | 3 => ("StreetCries", "today", "LStreetCries$Day;", true)
  | 4 => ("StreetCries", "tape", "LStreetCries$Tape;", true)
  | 5 => ("StreetCries", "sheets", "[LStreetCries$Sheet;", true)
  | 6 => ("StreetCries", "draft", "[I", true)
  | _ => ("StreetCries", "hasImage", "Z", false)
def tyX8 : Nat → FieldType := fun k => match k with
  | 0 => .object "StreetCries$Town"
  | 1 => .object "StreetCries$Town"
  | 2 => .object "StreetCries$Trial"
  | 3 => .object "StreetCries$Day"
  | 4 => .object "StreetCries$Tape"
  | 5 => .array (.object "StreetCries$Sheet")
  | 6 => .array .int
  | _ => .boolean
abbrev wsX80 : List Cond := u_ws RX8 TX8 8
theorem nmX8 : ∀ a, a < 8 → ∀ b, b < 8 → a ≠ b → (TX8 a).2.1 ≠ (TX8 b).2.1 := by decide +kernel
theorem tyX8_ok : ∀ k, k < 8 → parseFieldDescriptor (TX8 k).2.2.1 = some (tyX8 k) := by decide +kernel
def RX9 : String := "StreetCriesModel"
def TX9 : u_T := fun k => match k with
  | 0 => ("StreetCriesModel", "noises", "[I", true)
  | 1 => ("StreetCriesModel", "sellers", "I", false)
  | 2 => ("StreetCriesModel", "parts", "[I", true)
  | 3 => ("StreetCriesModel", "rounds", "[I", true)
  | 4 => ("StreetCriesModel", "tunes", "[I", true)
  | 5 => ("StreetCriesModel", "likeness", "I", false)
  | 6 => ("StreetCriesModel", "bylaws", "I", false)
  | 7 => ("StreetCriesModel", "buyers", "I", false)
  | 8 => ("StreetCriesModel", "wants", "[I", true)
  | 9 => ("StreetCriesModel", "windows", "I", false)
  | 10 => ("StreetCriesModel", "noted", "[I", true)
  | 11 => ("StreetCriesModel", "tape", "[I", true)
  | 12 => ("StreetCriesModel", "taped", "I", false)
  | 13 => ("StreetCriesModel", "at", "I", false)
  | 14 => ("StreetCriesModel", "wrong", "Z", false)
  | 15 => ("StreetCriesModel", "read", "[I", true)
  | 16 => ("StreetCriesModel", "turned", "I", false)
  | 17 => ("StreetCriesModel", "alone", "I", false)
  | 18 => ("StreetCriesModel", "downAt", "[I", true)
  | 19 => ("StreetCriesModel", "boughtOf", "[I", true)
  | 20 => ("StreetCriesModel", "boughtAt", "[I", true)
  | 21 => ("StreetCriesModel", "wasted", "[I", true)
  | 22 => ("StreetCriesModel", "ones", "[I", true)
  | 23 => ("StreetCriesModel", "others", "[I", true)
  | 24 => ("StreetCriesModel", "row", "[I", true)
  | 25 => ("StreetCriesModel", "nearest", "I", false)
  | 26 => ("StreetCriesModel", "image", "[I", true)
  | 27 => ("StreetCriesModel", "isImage", "Z", false)
  | 28 => ("StreetCriesModel", "lanes", "[I", true)
  | 29 => ("StreetCriesModel", "sizes", "[I", true)
  | 30 => ("StreetCriesModel", "items", "[I", true)
  | _ => ("StreetCriesModel", "moved", "[I", true)
def tyX9 : Nat → FieldType := fun k => match k with
  | 0 => .array .int
  | 1 => .int
  | 2 => .array .int
  | 3 => .array .int
  | 4 => .array .int
  | 5 => .int
  | 6 => .int
  | 7 => .int
  | 8 => .array .int
  | 9 => .int
  | 10 => .array .int
  | 11 => .array .int
  | 12 => .int
  | 13 => .int
  | 14 => .boolean
  | 15 => .array .int
  | 16 => .int
  | 17 => .int
  | 18 => .array .int
  | 19 => .array .int
  | 20 => .array .int
  | 21 => .array .int
  | 22 => .array .int
  | 23 => .array .int
  | 24 => .array .int
  | 25 => .int
  | 26 => .array .int
  | 27 => .boolean
  | 28 => .array .int
  | 29 => .array .int
  | 30 => .array .int
  | _ => .array .int
abbrev wsX90 : List Cond := u_ws RX9 TX9 32
theorem nmX9 : ∀ a, a < 32 → ∀ b, b < 32 → a ≠ b → (TX9 a).2.1 ≠ (TX9 b).2.1 := by decide +kernel
theorem tyX9_ok : ∀ k, k < 32 → parseFieldDescriptor (TX9 k).2.2.1 = some (tyX9 k) := by decide +kernel
-- sorts: kind (0 object, 1 ints, 2 references), class or length, how many, sort of elements, stride
def jx_srt : List (Nat × Nat × Nat × Nat × Nat) := [(0, 8, 1, 0, 0), (0, 5, 3, 0, 0), (1, 25, 3, 0, 0), (2, 6, 3, 6, 6), (2, 12, 3, 9, 12), (2, 12, 3, 10, 12), (0, 2, 18, 0, 0), (1, 12, 18, 0, 0), (1, 6, 18, 0, 0), (0, 0, 36, 0, 0), (0, 7, 36, 0, 0), (0, 6, 1, 0, 0),
  (1, 36, 1, 0, 0), (1, 36, 1, 0, 0), (0, 1, 2, 0, 0), (1, 12, 2, 0, 0), (1, 12, 2, 0, 0), (1, 12, 2, 0, 0), (1, 120, 2, 0, 0), (1, 4, 2, 0, 0), (0, 4, 1, 0, 0), (1, 60, 1, 0, 0), (2, 4, 1, 23, 0), (0, 3, 4, 0, 0),
  (1, 24, 4, 0, 0), (1, 25, 1, 0, 0), (0, 9, 1, 0, 0), (1, 25, 1, 0, 0), (1, 24, 1, 0, 0), (1, 78, 1, 0, 0), (1, 42, 1, 0, 0), (1, 48, 1, 0, 0), (1, 36, 1, 0, 0), (1, 60, 1, 0, 0), (1, 25, 1, 0, 0), (1, 12, 1, 0, 0),
  (1, 12, 1, 0, 0), (1, 12, 1, 0, 0), (1, 12, 1, 0, 0), (1, 36, 1, 0, 0), (1, 36, 1, 0, 0), (1, 6, 1, 0, 0), (1, 300, 1, 0, 0), (1, 4, 1, 0, 0), (1, 4, 1, 0, 0), (1, 96, 1, 0, 0), (1, 24, 1, 0, 0)]
def jx_fld : List (List (Nat × Nat × Nat × Nat)) := [[(0, 0, 0, 0), (0, 0, 0, 0), (0, 0, 0, 0), (0, 0, 0, 0)],
  [(2, 15, 1, 0), (2, 16, 1, 0), (2, 17, 1, 0), (0, 0, 0, 0), (0, 0, 0, 0), (2, 18, 1, 0), (2, 19, 1, 0)],
  [(2, 7, 1, 0), (2, 8, 1, 0), (0, 0, 0, 0), (0, 0, 0, 0), (0, 0, 0, 0), (0, 0, 0, 0), (0, 0, 0, 0), (0, 0, 0, 0), (0, 0, 0, 0)],
  [(2, 24, 1, 0), (1, 0, 0, 0), (0, 0, 0, 0), (0, 0, 0, 0)],
  [(2, 21, 1, 0), (0, 0, 0, 0)],
  [(2, 2, 1, 0), (2, 3, 1, 0), (2, 4, 1, 0), (2, 5, 1, 0), (0, 0, 0, 0), (0, 0, 0, 0), (0, 0, 0, 0), (0, 0, 0, 0), (0, 0, 0, 0)],
  [(2, 1, 0, 2), (2, 14, 0, 1), (2, 12, 1, 0), (2, 13, 1, 0)],
  [(0, 0, 0, 0), (0, 0, 0, 0), (1, 0, 0, 0)],
  [(2, 1, 0, 0), (2, 1, 0, 1), (2, 11, 0, 0), (2, 14, 0, 0), (2, 20, 0, 0), (2, 22, 0, 0), (2, 25, 0, 0), (1, 0, 0, 0)],
  [(2, 27, 1, 0), (0, 0, 0, 0), (2, 28, 1, 0), (2, 29, 1, 0), (2, 30, 1, 0), (0, 0, 0, 0), (0, 0, 0, 0), (0, 0, 0, 0), (2, 31, 1, 0), (0, 0, 0, 0), (2, 32, 1, 0), (2, 33, 1, 0), (0, 0, 0, 0), (0, 0, 0, 0), (1, 0, 0, 0), (2, 34, 1, 0), (0, 0, 0, 0), (0, 0, 0, 0), (2, 35, 1, 0), (2, 36, 1, 0), (2, 37, 1, 0), (2, 38, 1, 0), (2, 39, 1, 0), (2, 40, 1, 0), (2, 41, 1, 0), (0, 0, 0, 0), (2, 42, 1, 0), (1, 0, 0, 0), (2, 43, 1, 0), (2, 44, 1, 0), (2, 45, 1, 0), (2, 46, 1, 0)]]
def jx_lay : List (Nat × Nat) := [(0, 0), (1, 0), (2, 0), (3, 0), (4, 0), (5, 0), (6, 0), (7, 0), (8, 0), (6, 1), (7, 1), (8, 1), (6, 2), (7, 2), (8, 2), (6, 3), (7, 3), (8, 3), (6, 4), (7, 4),
  (8, 4), (6, 5), (7, 5), (8, 5), (9, 0), (9, 1), (9, 2), (9, 3), (9, 4), (9, 5), (9, 6), (9, 7), (9, 8), (9, 9), (9, 10), (9, 11), (10, 0), (10, 1), (10, 2), (10, 3),
  (10, 4), (10, 5), (10, 6), (10, 7), (10, 8), (10, 9), (10, 10), (10, 11), (1, 1), (2, 1), (3, 1), (4, 1), (5, 1), (6, 6), (7, 6), (8, 6), (6, 7), (7, 7), (8, 7), (6, 8),
  (7, 8), (8, 8), (6, 9), (7, 9), (8, 9), (6, 10), (7, 10), (8, 10), (6, 11), (7, 11), (8, 11), (9, 12), (9, 13), (9, 14), (9, 15), (9, 16), (9, 17), (9, 18), (9, 19), (9, 20),
  (9, 21), (9, 22), (9, 23), (10, 12), (10, 13), (10, 14), (10, 15), (10, 16), (10, 17), (10, 18), (10, 19), (10, 20), (10, 21), (10, 22), (10, 23), (11, 0), (1, 2), (2, 2), (3, 2), (4, 2),
  (5, 2), (6, 12), (7, 12), (8, 12), (6, 13), (7, 13), (8, 13), (6, 14), (7, 14), (8, 14), (6, 15), (7, 15), (8, 15), (6, 16), (7, 16), (8, 16), (6, 17), (7, 17), (8, 17), (9, 24),
  (9, 25), (9, 26), (9, 27), (9, 28), (9, 29), (9, 30), (9, 31), (9, 32), (9, 33), (9, 34), (9, 35), (10, 24), (10, 25), (10, 26), (10, 27), (10, 28), (10, 29), (10, 30), (10, 31), (10, 32),
  (10, 33), (10, 34), (10, 35), (14, 1), (15, 1), (16, 1), (17, 1), (18, 1), (19, 1), (12, 0), (13, 0), (14, 0), (15, 0), (16, 0), (17, 0), (18, 0), (19, 0), (20, 0), (21, 0), (25, 0),
  (22, 0), (23, 0), (24, 0), (23, 1), (24, 1), (23, 2), (24, 2), (23, 3), (24, 3), (26, 0), (27, 0), (28, 0), (29, 0), (30, 0), (31, 0), (32, 0), (33, 0), (34, 0), (35, 0), (36, 0),
  (37, 0), (38, 0), (39, 0), (40, 0), (41, 0), (42, 0), (43, 0), (44, 0), (45, 0), (46, 0)]
def jx_mt : List (Nat × Bool × Nat × Nat × Nat × Nat) := [(1, true, 2, 8, 4, 81), (1, true, 2, 5, 2, 40), (2, true, 4, 20, 0, 0), (1, true, 1, 2, 1, 20), (1, true, 1, 0, 1, 20), (1, true, 1, 7, 1, 20), (1, true, 1, 6, 3, 61), (1, true, 1, 1, 1, 20),
  (1, true, 1, 4, 1, 20), (1, true, 1, 3, 1, 20), (3, false, 4, 8, 1, 22), (1, false, 1, 8, 0, 0), (3, false, 3, 8, 0, 0), (4, false, 5, 8, 2, 46), (1, false, 1, 8, 0, 0), (1, false, 1, 8, 0, 0),
  (4, true, 4, 2, 1, 23), (2, false, 4, 8, 0, 0), (4, false, 4, 8, 2, 45), (2, false, 2, 5, 0, 0), (3, false, 4, 2, 1, 22), (1, false, 1, 8, 0, 0), (3, false, 4, 8, 2, 46), (2, false, 5, 4, 1, 22),
  (2, false, 3, 4, 0, 0), (3, false, 5, 4, 1, 22), (1, false, 4, 8, 2, 46), (4, false, 6, 4, 1, 21), (2, false, 2, 4, 0, 0), (1, true, 1, 4, 0, 0), (2, false, 3, 8, 3, 90), (2, false, 7, 4, 2, 64),
  (2, false, 2, 20, 0, 0), (2, false, 3, 4, 0, 0), (2, false, 3, 4, 1, 21), (3, false, 5, 4, 1, 40), (2, false, 2, 8, 1, 40), (1, false, 1, 20, 0, 0), (3, true, 4, 2, 1, 40), (2, false, 3, 8, 2, 63),
  (3, true, 4, 2, 1, 40), (4, false, 7, 8, 1, 22), (3, false, 3, 8, 1, 23), (2, false, 4, 2, 0, 0), (2, false, 2, 8, 1, 22), (2, false, 3, 2, 0, 0), (3, false, 5, 8, 5, 131), (4, false, 4, 5, 4, 108),
  (3, false, 3, 5, 3, 86), (2, false, 3, 2, 0, 0), (2, false, 2, 5, 1, 20), (3, false, 6, 5, 2, 61), (4, false, 5, 5, 2, 61), (3, false, 4, 8, 2, 65), (3, false, 6, 2, 1, 40), (2, false, 3, 8, 1, 22),
  (3, false, 5, 8, 1, 20), (1, false, 1, 8, 0, 0), (2, false, 2, 8, 1, 20), (1, false, 1, 20, 0, 0), (5, false, 6, 8, 1, 24), (5, true, 5, 0, 0, 0), (3, false, 3, 8, 6, 158), (2, true, 3, 1, 5, 136),
  (2, true, 6, 1, 4, 108), (2, true, 5, 1, 2, 65), (4, true, 8, 1, 4, 109), (4, false, 5, 1, 3, 85), (4, false, 5, 5, 1, 23), (2, false, 2, 8, 6, 158), (2, false, 4, 1, 0, 0), (2, false, 2, 8, 6, 158),
  (1, false, 3, 1, 0, 0), (1, false, 3, 1, 0, 0), (3, false, 3, 8, 7, 188), (4, false, 11, 6, 6, 158), (2, true, 4, 5, 3, 84), (2, true, 2, 2, 2, 63), (4, true, 4, 7, 0, 0), (1, true, 4, 2, 0, 0),
  (4, false, 4, 8, 7, 182), (4, true, 5, 6, 6, 158), (2, false, 5, 6, 1, 24), (2, false, 5, 6, 0, 0), (5, false, 10, 8, 4, 114), (1, false, 3, 8, 0, 0), (3, true, 5, 8, 0, 0), (3, false, 4, 8, 3, 91),
  (3, false, 7, 8, 2, 65), (2, false, 2, 8, 7, 178), (2, false, 4, 5, 6, 155), (3, false, 5, 5, 5, 131), (3, false, 3, 8, 8, 203), (4, false, 6, 6, 7, 178), (3, false, 3, 8, 7, 182), (4, false, 5, 6, 6, 158),
  (4, false, 4, 8, 1, 23), (3, false, 3, 8, 7, 181), (4, false, 8, 6, 6, 154), (2, false, 4, 5, 5, 131), (1, false, 2, 8, 0, 0), (3, false, 3, 8, 7, 179), (4, false, 5, 6, 6, 155), (3, false, 3, 8, 6, 155),
  (1, false, 1, 8, 4, 107), (1, false, 1, 8, 4, 107), (7, false, 10, 8, 3, 91), (1, false, 1, 8, 0, 0), (1, false, 1, 8, 0, 0), (4, false, 4, 3, 1, 22), (3, false, 3, 3, 0, 0), (5, false, 8, 3, 1, 22),
  (4, false, 9, 3, 0, 0), (7, false, 9, 8, 3, 95), (5, false, 11, 3, 2, 65), (4, false, 6, 3, 1, 40), (4, false, 4, 8, 2, 45), (3, true, 3, 3, 1, 23), (2, false, 3, 8, 1, 20), (5, false, 7, 8, 2, 45),
  (3, true, 3, 3, 0, 0), (6, false, 8, 8, 1, 40), (1, true, 2, 9, 1, 20), (3, false, 4, 9, 2, 45), (1, false, 1, 9, 1, 25), (3, false, 6, 9, 0, 0), (4, false, 5, 9, 3, 66), (2, false, 2, 9, 2, 45),
  (1, false, 1, 9, 1, 25), (4, false, 5, 9, 3, 66), (2, false, 2, 9, 1, 25), (3, false, 5, 9, 1, 25), (1, false, 4, 9, 3, 68), (3, false, 4, 9, 2, 45), (1, false, 1, 9, 1, 25), (1, false, 1, 9, 0, 0),
  (2, false, 5, 9, 3, 68), (2, true, 4, 9, 2, 45), (2, false, 4, 9, 0, 0), (2, false, 4, 9, 3, 68), (4, false, 5, 9, 2, 46), (3, false, 3, 9, 2, 46), (3, false, 6, 9, 0, 0), (2, false, 2, 9, 2, 46),
  (2, false, 4, 9, 0, 0), (3, false, 5, 9, 3, 74), (4, false, 4, 9, 2, 51), (3, false, 7, 9, 1, 25), (3, false, 3, 9, 2, 50), (3, false, 3, 9, 1, 28), (6, false, 9, 9, 0, 0), (2, false, 3, 9, 1, 25),
  (3, false, 4, 9, 1, 25), (2, false, 2, 9, 1, 22), (1, false, 3, 9, 0, 0), (5, false, 5, 9, 2, 45), (3, false, 3, 9, 5, 124), (1, true, 6, 9, 4, 99), (4, false, 6, 9, 1, 25), (3, false, 6, 9, 3, 74),
  (2, false, 2, 9, 6, 147), (2, false, 4, 9, 5, 124), (2, false, 7, 9, 5, 124), (3, false, 8, 9, 6, 147), (4, false, 11, 9, 6, 147), (5, false, 12, 9, 2, 53), (3, true, 5, 9, 0, 0), (2, false, 6, 9, 1, 28),
  (2, false, 2, 9, 4, 98), (2, false, 5, 9, 3, 74), (3, false, 7, 9, 4, 98), (3, false, 6, 9, 6, 147), (4, false, 4, 9, 2, 45), (3, false, 10, 9, 3, 74), (1, false, 2, 9, 0, 0), (3, false, 6, 9, 4, 98),
  (3, false, 5, 9, 3, 74), (3, false, 3, 9, 4, 98), (1, false, 2, 9, 1, 23), (3, false, 4, 9, 0, 0), (1, false, 2, 9, 1, 23), (3, false, 4, 9, 0, 0), (7, false, 14, 9, 2, 53), (1, false, 1, 9, 1, 25),
  (1, false, 1, 9, 1, 25), (5, false, 5, 9, 0, 0), (7, false, 16, 9, 2, 45), (4, false, 5, 9, 2, 45), (2, false, 2, 9, 2, 45), (5, false, 6, 9, 2, 45), (6, false, 7, 9, 2, 45), (1, false, 4, 20, 9, 225)]
def jx_tsws : List (List Nat) := [[2, 6, 10, 14],
  [22, 49, 86, 123, 174, 181, 198, 215, 252, 279, 296, 323, 350, 367, 402, 419, 466, 493, 510, 527, 554, 591, 638, 655, 682, 709, 754, 781, 788, 815, 842, 849, 856, 923, 990, 1027, 1044, 1091]]
/-- StreetCries.<init>()V -/
def jx_c0 : List (Instr × Nat × Nat × Int) := [(.aload_n 0, 0, 0, 0), (.invokespecial 1, 0, 2, 53), (.aload_n 0, 0, 0, 0), (.new 7, 5, 0, 56), (.dup, 0, 0, 0), (.invokespecial 9, 1, 0, 58), (.putfield 10, 0, 8, 302), (.aload_n 0, 0, 0, 0),
  (.new 7, 5, 0, 56), (.dup, 0, 0, 0), (.invokespecial 9, 1, 0, 58), (.putfield 16, 1, 8, 303), (.aload_n 0, 0, 0, 0), (.new 19, 6, 0, 210), (.dup, 0, 0, 0), (.invokespecial 21, 6, 1, 212),
  (.putfield 22, 2, 8, 304), (.aload_n 0, 0, 0, 0), (.new 26, 1, 0, 263), (.dup, 0, 0, 0), (.invokespecial 28, 7, 1, 264), (.putfield 29, 3, 8, 305), (.aload_n 0, 0, 0, 0), (.new 33, 4, 0, 265),
  (.dup, 0, 0, 0), (.invokespecial 35, 8, 1, 267), (.putfield 36, 4, 8, 306), (.aload_n 0, 0, 0, 0), (.bipush 25, 0, 0, 25), (.newarray .int, 0, 0, 0), (.putfield 40, 6, 8, 308), (.aload_n 0, 0, 0, 0),
  (.iconst 4, 0, 0, 4), (.anewarray 44, 3, 0, 278), (.putfield 46, 5, 8, 307), (.iconst 0, 0, 0, 0), (.istore_n 1, 1, 0, 0), (.iload_n 1, 1, 0, 0), (.iconst 4, 0, 0, 4), (.if_icmp .ge 22, 49, 0, 0),
  (.aload_n 0, 0, 0, 0), (.getfield 46, 5, 8, 307), (.iload_n 1, 1, 0, 0), (.new 44, 3, 0, 278), (.dup, 0, 0, 0), (.invokespecial 50, 9, 1, 281), (.aastore, 0, 0, 0), (.iinc 1 1, 1, 0, 1),
  (.goto (-21), 37, 0, 0), (.return_, 0, 0, 0)]
/-- StreetCries$Town.<init>()V -/
def jx_c1 : List (Instr × Nat × Nat × Int) := [(.aload_n 0, 0, 0, 0), (.invokespecial 3, 0, 2, 61), (.aload_n 0, 0, 0, 0), (.bipush 25, 0, 0, 25), (.newarray .int, 0, 0, 0), (.putfield 9, 0, 5, 164), (.aload_n 0, 0, 0, 0), (.bipush 6, 0, 0, 6),
  (.anewarray 15, 2, 0, 62), (.putfield 17, 1, 5, 167), (.aload_n 0, 0, 0, 0), (.bipush 12, 0, 0, 12), (.anewarray 21, 0, 0, 64), (.putfield 23, 2, 5, 171), (.aload_n 0, 0, 0, 0), (.bipush 12, 0, 0, 12),
  (.anewarray 27, 7, 0, 66), (.putfield 29, 3, 5, 174), (.aload_n 0, 0, 0, 0), (.iconst 3, 0, 0, 3), (.putfield 33, 7, 5, 185), (.aload_n 0, 0, 0, 0), (.getfield 9, 0, 5, 164), (.iconst 1, 0, 0, 1),
  (.invokestatic 37, 2, 0, 68), (.iconst 0, 0, 0, 0), (.istore_n 1, 1, 0, 0), (.iload_n 1, 1, 0, 0), (.bipush 6, 0, 0, 6), (.if_icmp .ge 22, 39, 0, 0), (.aload_n 0, 0, 0, 0), (.getfield 17, 1, 5, 167),
  (.iload_n 1, 1, 0, 0), (.new 15, 2, 0, 62), (.dup, 0, 0, 0), (.invokespecial 43, 3, 1, 72), (.aastore, 0, 0, 0), (.iinc 1 1, 1, 0, 1), (.goto (-22), 27, 0, 0), (.iconst 0, 0, 0, 0),
  (.istore_n 1, 1, 0, 0), (.iload_n 1, 1, 0, 0), (.bipush 12, 0, 0, 12), (.if_icmp .ge 22, 53, 0, 0), (.aload_n 0, 0, 0, 0), (.getfield 23, 2, 5, 171), (.iload_n 1, 1, 0, 0), (.new 21, 0, 0, 64),
  (.dup, 0, 0, 0), (.invokespecial 44, 4, 1, 121), (.aastore, 0, 0, 0), (.iinc 1 1, 1, 0, 1), (.goto (-22), 41, 0, 0), (.iconst 0, 0, 0, 0), (.istore_n 1, 1, 0, 0), (.iload_n 1, 1, 0, 0),
  (.bipush 12, 0, 0, 12), (.if_icmp .ge 22, 67, 0, 0), (.aload_n 0, 0, 0, 0), (.getfield 29, 3, 5, 174), (.iload_n 1, 1, 0, 0), (.new 27, 7, 0, 66), (.dup, 0, 0, 0), (.invokespecial 45, 5, 1, 147),
  (.aastore, 0, 0, 0), (.iinc 1 1, 1, 0, 1), (.goto (-22), 55, 0, 0), (.return_, 0, 0, 0)]
/-- java/util/Arrays.fill([II)V -/
def jx_c2 : List (Instr × Nat × Nat × Int) := [(.iconst 0, 0, 0, 0), (.istore_n 2, 2, 0, 0), (.aload_n 0, 0, 0, 0), (.arraylength, 0, 0, 0), (.istore_n 3, 3, 0, 0), (.iload_n 2, 2, 0, 0), (.iload_n 3, 3, 0, 0), (.if_icmp .ge 13, 14, 0, 0),
  (.aload_n 0, 0, 0, 0), (.iload_n 2, 2, 0, 0), (.iload_n 1, 1, 0, 0), (.iastore, 0, 0, 0), (.iinc 2 1, 2, 0, 1), (.goto (-12), 5, 0, 0), (.return_, 0, 0, 0)]
/-- StreetCries$Seller.<init>()V -/
def jx_c3 : List (Instr × Nat × Nat × Int) := [(.aload_n 0, 0, 0, 0), (.invokespecial 3, 0, 2, 75), (.aload_n 0, 0, 0, 0), (.bipush 12, 0, 0, 12), (.newarray .int, 0, 0, 0), (.putfield 9, 0, 2, 76), (.aload_n 0, 0, 0, 0), (.bipush 6, 0, 0, 6),
  (.newarray .int, 0, 0, 0), (.putfield 15, 1, 2, 78), (.return_, 0, 0, 0)]
/-- StreetCries$Buyer.<init>()V -/
def jx_c4 : List (Instr × Nat × Nat × Int) := [(.aload_n 0, 0, 0, 0), (.invokespecial 1, 0, 2, 124), (.return_, 0, 0, 0)]
/-- StreetCries$Window.<init>()V -/
def jx_c5 : List (Instr × Nat × Nat × Int) := [(.aload_n 0, 0, 0, 0), (.invokespecial 1, 0, 2, 150), (.return_, 0, 0, 0)]
/-- StreetCries$Trial.<init>()V -/
def jx_c6 : List (Instr × Nat × Nat × Int) := [(.aload_n 0, 0, 0, 0), (.invokespecial 3, 0, 2, 215), (.aload_n 0, 0, 0, 0), (.new 9, 5, 0, 216), (.dup, 0, 0, 0), (.invokespecial 11, 1, 0, 217), (.putfield 12, 0, 6, 250), (.aload_n 0, 0, 0, 0),
  (.new 18, 1, 0, 218), (.dup, 0, 0, 0), (.invokespecial 20, 7, 1, 220), (.putfield 21, 1, 6, 251), (.aload_n 0, 0, 0, 0), (.bipush 36, 0, 0, 36), (.newarray .int, 0, 0, 0), (.putfield 25, 2, 6, 252),
  (.aload_n 0, 0, 0, 0), (.bipush 36, 0, 0, 36), (.newarray .int, 0, 0, 0), (.putfield 29, 3, 6, 253), (.return_, 0, 0, 0)]
/-- StreetCries$Day.<init>()V -/
def jx_c7 : List (Instr × Nat × Nat × Int) := [(.aload_n 0, 0, 0, 0), (.invokespecial 3, 0, 2, 223), (.aload_n 0, 0, 0, 0), (.bipush 12, 0, 0, 12), (.newarray .int, 0, 0, 0), (.putfield 9, 0, 1, 224), (.aload_n 0, 0, 0, 0), (.bipush 12, 0, 0, 12),
  (.newarray .int, 0, 0, 0), (.putfield 15, 1, 1, 226), (.aload_n 0, 0, 0, 0), (.bipush 12, 0, 0, 12), (.newarray .int, 0, 0, 0), (.putfield 18, 2, 1, 228), (.aload_n 0, 0, 0, 0), (.bipush 120, 0, 0, 120),
  (.newarray .int, 0, 0, 0), (.putfield 21, 5, 1, 233), (.aload_n 0, 0, 0, 0), (.iconst 4, 0, 0, 4), (.newarray .int, 0, 0, 0), (.putfield 24, 6, 1, 234), (.return_, 0, 0, 0)]
/-- StreetCries$Tape.<init>()V -/
def jx_c8 : List (Instr × Nat × Nat × Int) := [(.aload_n 0, 0, 0, 0), (.invokespecial 3, 0, 2, 270), (.aload_n 0, 0, 0, 0), (.bipush 60, 0, 0, 60), (.newarray .int, 0, 0, 0), (.putfield 9, 0, 4, 271), (.return_, 0, 0, 0)]
/-- StreetCries$Sheet.<init>()V -/
def jx_c9 : List (Instr × Nat × Nat × Int) := [(.aload_n 0, 0, 0, 0), (.invokespecial 3, 0, 2, 284), (.aload_n 0, 0, 0, 0), (.bipush 24, 0, 0, 24), (.newarray .int, 0, 0, 0), (.putfield 9, 0, 3, 285), (.return_, 0, 0, 0)]
/-- StreetCries.noise(II)I -/
def jx_c10 : List (Instr × Nat × Nat × Int) := [(.iload_n 1, 1, 0, 0), (.invokestatic 51, 11, 0, 331), (.ifCond .eq 13, 8, 0, 0), (.iload_n 2, 2, 0, 0), (.iconst 0, 0, 0, 0), (.bipush 9, 0, 0, 9), (.invokestatic 55, 12, 0, 334), (.ifCond .ne 5, 10, 0, 0),
  (.iconst (-1), 0, 0, -1), (.ireturn, 0, 0, 0), (.aload_n 0, 0, 0, 0), (.getfield 10, 0, 8, 302), (.getfield 59, 0, 5, 165), (.iload_n 1, 1, 0, 0), (.iaload, 0, 0, 0), (.istore_n 3, 3, 0, 0),
  (.aload_n 0, 0, 0, 0), (.getfield 10, 0, 8, 302), (.getfield 59, 0, 5, 165), (.iload_n 1, 1, 0, 0), (.iload_n 2, 2, 0, 0), (.iastore, 0, 0, 0), (.iload_n 3, 3, 0, 0), (.ireturn, 0, 0, 0)]
/-- StreetCries.isCorner(I)Z -/
def jx_c11 : List (Instr × Nat × Nat × Int) := [(.iload_n 0, 0, 0, 0), (.ifCond .lt 13, 7, 0, 0), (.iload_n 0, 0, 0, 0), (.bipush 25, 0, 0, 25), (.if_icmp .ge 7, 7, 0, 0), (.iconst 1, 0, 0, 1), (.goto 4, 8, 0, 0), (.iconst 0, 0, 0, 0),
  (.ireturn, 1, 0, 0)]
/-- StreetCries.isWithin(III)Z -/
def jx_c12 : List (Instr × Nat × Nat × Int) := [(.iload_n 0, 0, 0, 0), (.iload_n 1, 1, 0, 0), (.if_icmp .lt 12, 8, 0, 0), (.iload_n 0, 0, 0, 0), (.iload_n 2, 2, 0, 0), (.if_icmp .gt 7, 8, 0, 0), (.iconst 1, 0, 0, 1), (.goto 4, 9, 0, 0),
  (.iconst 0, 0, 0, 0), (.ireturn, 1, 0, 0)]
/-- StreetCries.seller(III)I -/
def jx_c13 : List (Instr × Nat × Nat × Int) := [(.iload_n 1, 1, 0, 0), (.invokestatic 62, 14, 0, 341), (.ifCond .eq 19, 11, 0, 0), (.iload_n 2, 2, 0, 0), (.invokestatic 65, 15, 0, 344), (.ifCond .eq 12, 11, 0, 0), (.iload_n 3, 3, 0, 0), (.iconst 1, 0, 0, 1),
  (.iconst 5, 0, 0, 5), (.invokestatic 55, 12, 0, 334), (.ifCond .ne 5, 13, 0, 0), (.iconst (-1), 0, 0, -1), (.ireturn, 0, 0, 0), (.aload_n 0, 0, 0, 0), (.getfield 10, 0, 8, 302), (.getfield 68, 4, 5, 178),
  (.bipush 6, 0, 0, 6), (.if_icmp .lt 6, 20, 0, 0), (.bipush (-3), 0, 0, -3), (.ireturn, 0, 0, 0), (.aload_n 0, 0, 0, 0), (.getfield 10, 0, 8, 302), (.getfield 68, 4, 5, 178), (.istore 4, 4, 0, 0),
  (.aload_n 0, 0, 0, 0), (.getfield 10, 0, 8, 302), (.getfield 72, 1, 5, 170), (.iload 4, 4, 0, 0), (.aaload, 0, 0, 0), (.iload_n 1, 1, 0, 0), (.iload_n 2, 2, 0, 0), (.iload_n 3, 3, 0, 0),
  (.invokevirtual 76, 16, 0, 347), (.aload_n 0, 0, 0, 0), (.getfield 10, 0, 8, 302), (.iload 4, 4, 0, 0), (.iconst 1, 0, 0, 1), (.iadd, 0, 0, 0), (.putfield 68, 4, 5, 178), (.iload 4, 4, 0, 0),
  (.ireturn, 0, 0, 0)]
/-- StreetCries.isKind(I)Z -/
def jx_c14 : List (Instr × Nat × Nat × Int) := [(.iload_n 0, 0, 0, 0), (.ifCond .lt 12, 7, 0, 0), (.iload_n 0, 0, 0, 0), (.iconst 4, 0, 0, 4), (.if_icmp .ge 7, 7, 0, 0), (.iconst 1, 0, 0, 1), (.goto 4, 8, 0, 0), (.iconst 0, 0, 0, 0),
  (.ireturn, 1, 0, 0)]
/-- StreetCries.isLoud(I)Z -/
def jx_c15 : List (Instr × Nat × Nat × Int) := [(.iload_n 0, 0, 0, 0), (.iconst 1, 0, 0, 1), (.if_icmp .lt 13, 8, 0, 0), (.iload_n 0, 0, 0, 0), (.bipush 9, 0, 0, 9), (.if_icmp .gt 7, 8, 0, 0), (.iconst 1, 0, 0, 1), (.goto 4, 9, 0, 0),
  (.iconst 0, 0, 0, 0), (.ireturn, 1, 0, 0)]
/-- StreetCries$Seller.comeAs(III)V -/
def jx_c16 : List (Instr × Nat × Nat × Int) := [(.aload_n 0, 0, 0, 0), (.iload_n 1, 1, 0, 0), (.putfield 18, 4, 2, 88), (.aload_n 0, 0, 0, 0), (.iload_n 2, 2, 0, 0), (.putfield 22, 5, 2, 91), (.aload_n 0, 0, 0, 0), (.iload_n 3, 3, 0, 0),
  (.putfield 25, 7, 2, 96), (.aload_n 0, 0, 0, 0), (.iconst 0, 0, 0, 0), (.putfield 28, 6, 2, 92), (.aload_n 0, 0, 0, 0), (.getfield 9, 0, 2, 76), (.iconst 0, 0, 0, 0), (.iconst 0, 0, 0, 0),
  (.iastore, 0, 0, 0), (.aload_n 0, 0, 0, 0), (.iconst 1, 0, 0, 1), (.putfield 31, 2, 2, 81), (.aload_n 0, 0, 0, 0), (.getfield 15, 1, 2, 78), (.iconst 0, 0, 0, 0), (.iconst 5, 0, 0, 5),
  (.iastore, 0, 0, 0), (.aload_n 0, 0, 0, 0), (.iconst 1, 0, 0, 1), (.putfield 34, 3, 2, 85), (.aload_n 0, 0, 0, 0), (.aload_n 0, 0, 0, 0), (.getfield 15, 1, 2, 78), (.aload_n 0, 0, 0, 0),
  (.getfield 34, 3, 2, 85), (.invokestatic 37, 17, 1, 351), (.putfield 41, 8, 2, 99), (.return_, 0, 0, 0)]
/-- StreetCries.liftOf([II)I -/
def jx_c17 : List (Instr × Nat × Nat × Int) := [(.iload_n 1, 1, 0, 0), (.iconst 1, 0, 0, 1), (.if_icmp .lt 9, 7, 0, 0), (.iload_n 1, 1, 0, 0), (.aload_n 0, 0, 0, 0), (.arraylength, 0, 0, 0), (.if_icmp .le 5, 9, 0, 0), (.iconst 0, 0, 0, 0),
  (.ireturn, 0, 0, 0), (.iconst 0, 0, 0, 0), (.istore_n 2, 2, 0, 0), (.iconst 0, 0, 0, 0), (.istore_n 3, 3, 0, 0), (.iload_n 3, 3, 0, 0), (.iload_n 1, 1, 0, 0), (.if_icmp .ge 15, 24, 0, 0),
  (.iload_n 2, 2, 0, 0), (.aload_n 0, 0, 0, 0), (.iload_n 3, 3, 0, 0), (.iaload, 0, 0, 0), (.iadd, 0, 0, 0), (.istore_n 2, 2, 0, 0), (.iinc 3 1, 3, 0, 1), (.goto (-14), 13, 0, 0),
  (.iload_n 2, 2, 0, 0), (.iload_n 1, 1, 0, 0), (.idiv, 0, 0, 0), (.iconst 3, 0, 0, 3), (.idiv, 0, 0, 0), (.ireturn, 0, 0, 0)]
/-- StreetCries.of(III)I -/
def jx_c18 : List (Instr × Nat × Nat × Int) := [(.aload_n 0, 0, 0, 0), (.getfield 10, 0, 8, 302), (.iload_n 1, 1, 0, 0), (.invokevirtual 82, 19, 0, 358), (.ifCond .eq 20, 14, 0, 0), (.aload_n 0, 0, 0, 0), (.getfield 10, 0, 8, 302), (.getfield 72, 1, 5, 170),
  (.iload_n 1, 1, 0, 0), (.aaload, 0, 0, 0), (.iload_n 2, 2, 0, 0), (.iload_n 3, 3, 0, 0), (.invokevirtual 85, 20, 0, 362), (.goto 4, 15, 0, 0), (.iconst (-1), 0, 0, -1), (.ireturn, 0, 0, 0)]
/-- StreetCries$Town.hasSeller(I)Z -/
def jx_c19 : List (Instr × Nat × Nat × Int) := [(.iload_n 1, 1, 0, 0), (.ifCond .lt 15, 8, 0, 0), (.iload_n 1, 1, 0, 0), (.aload_n 0, 0, 0, 0), (.getfield 52, 4, 5, 176), (.if_icmp .ge 7, 8, 0, 0), (.iconst 1, 0, 0, 1), (.goto 4, 9, 0, 0),
  (.iconst 0, 0, 0, 0), (.ireturn, 1, 0, 0)]
/-- StreetCries$Seller.change(II)I -/
def jx_c20 : List (Instr × Nat × Nat × Int) := [(.iload_n 1, 1, 0, 0), (.ifCond .ne 23, 12, 0, 0), (.iload_n 2, 2, 0, 0), (.invokestatic 51, 14, 1, 366), (.ifCond .eq 16, 12, 0, 0), (.aload_n 0, 0, 0, 0), (.getfield 18, 4, 2, 88), (.istore_n 3, 3, 0, 0),
  (.aload_n 0, 0, 0, 0), (.iload_n 2, 2, 0, 0), (.putfield 18, 4, 2, 88), (.goto 82, 55, 0, 0), (.iload_n 1, 1, 0, 0), (.iconst 1, 0, 0, 1), (.if_icmp .ne 23, 25, 0, 0), (.iload_n 2, 2, 0, 0),
  (.invokestatic 55, 15, 1, 367), (.ifCond .eq 16, 25, 0, 0), (.aload_n 0, 0, 0, 0), (.getfield 22, 5, 2, 91), (.istore_n 3, 3, 0, 0), (.aload_n 0, 0, 0, 0), (.iload_n 2, 2, 0, 0), (.putfield 22, 5, 2, 91),
  (.goto 57, 55, 0, 0), (.iload_n 1, 1, 0, 0), (.iconst 2, 0, 0, 2), (.if_icmp .ne 23, 38, 0, 0), (.iload_n 2, 2, 0, 0), (.invokestatic 58, 21, 1, 368), (.ifCond .eq 16, 38, 0, 0), (.aload_n 0, 0, 0, 0),
  (.getfield 28, 6, 2, 92), (.istore_n 3, 3, 0, 0), (.aload_n 0, 0, 0, 0), (.iload_n 2, 2, 0, 0), (.putfield 28, 6, 2, 92), (.goto 32, 55, 0, 0), (.iload_n 1, 1, 0, 0), (.iconst 3, 0, 0, 3),
  (.if_icmp .ne 25, 53, 0, 0), (.iload_n 2, 2, 0, 0), (.iconst 1, 0, 0, 1), (.iconst 5, 0, 0, 5), (.invokestatic 61, 12, 1, 371), (.ifCond .eq 16, 53, 0, 0), (.aload_n 0, 0, 0, 0), (.getfield 25, 7, 2, 96),
  (.istore_n 3, 3, 0, 0), (.aload_n 0, 0, 0, 0), (.iload_n 2, 2, 0, 0), (.putfield 25, 7, 2, 96), (.goto 5, 55, 0, 0), (.iconst (-1), 0, 0, -1), (.istore_n 3, 3, 0, 0), (.iload_n 3, 3, 0, 0),
  (.ireturn, 0, 0, 0)]
/-- StreetCries.isMinute(I)Z -/
def jx_c21 : List (Instr × Nat × Nat × Int) := [(.iload_n 0, 0, 0, 0), (.ifCond .lt 13, 7, 0, 0), (.iload_n 0, 0, 0, 0), (.bipush 120, 0, 0, 120), (.if_icmp .ge 7, 7, 0, 0), (.iconst 1, 0, 0, 1), (.goto 4, 8, 0, 0), (.iconst 0, 0, 0, 0),
  (.ireturn, 1, 0, 0)]
/-- StreetCries.type(JI)I -/
def jx_c22 : List (Instr × Nat × Nat × Int) := [(.iload_n 3, 3, 0, 0), (.iconst 1, 0, 0, 1), (.bipush 8, 0, 0, 8), (.invokestatic 55, 12, 0, 334), (.ifCond .eq 11, 9, 0, 0), (.lload_n 1, 1, 0, 0), (.iload_n 3, 3, 0, 0), (.invokestatic 89, 23, 0, 376),
  (.ifCond .ne 5, 11, 0, 0), (.iconst (-1), 0, 0, -1), (.ireturn, 0, 0, 0), (.aload_n 0, 0, 0, 0), (.getfield 36, 4, 8, 306), (.lload_n 1, 1, 0, 0), (.iload_n 3, 3, 0, 0), (.invokevirtual 93, 25, 0, 382),
  (.ireturn, 0, 0, 0)]
/-- StreetCries$Tape.isTypable(JI)Z -/
def jx_c23 : List (Instr × Nat × Nat × Int) := [(.iconst 0, 0, 0, 0), (.istore_n 3, 3, 0, 0), (.iload_n 3, 3, 0, 0), (.iload_n 2, 2, 0, 0), (.if_icmp .ge 32, 19, 0, 0), (.lload_n 0, 0, 0, 0), (.iload_n 3, 3, 0, 0), (.invokestatic 15, 24, 0, 379),
  (.istore 4, 4, 0, 0), (.iload 4, 4, 0, 0), (.bipush 32, 0, 0, 32), (.if_icmp .lt 10, 15, 0, 0), (.iload 4, 4, 0, 0), (.bipush 126, 0, 0, 126), (.if_icmp .le 5, 17, 0, 0), (.iconst 0, 0, 0, 0),
  (.ireturn, 1, 0, 0), (.iinc 3 1, 3, 0, 1), (.goto (-31), 2, 0, 0), (.iconst 1, 0, 0, 1), (.ireturn, 1, 0, 0)]
/-- StreetCries$Tape.byteOf(JI)I -/
def jx_c24 : List (Instr × Nat × Nat × Int) := [(.lload_n 0, 0, 0, 0), (.bipush 8, 0, 0, 8), (.iload_n 2, 2, 0, 0), (.imul, 0, 0, 0), (.lushr, 0, 0, 0), (.l2i, 0, 0, 0), (.sipush 255, 0, 0, 255), (.iand, 0, 0, 0),
  (.ireturn, 0, 0, 0)]
/-- StreetCries$Tape.append(JI)I -/
def jx_c25 : List (Instr × Nat × Nat × Int) := [(.iload_n 3, 3, 0, 0), (.bipush 60, 0, 0, 60), (.aload_n 0, 0, 0, 0), (.getfield 19, 1, 4, 272), (.isub, 0, 0, 0), (.if_icmp .le 6, 8, 0, 0), (.bipush (-3), 0, 0, -3), (.ireturn, 0, 0, 0),
  (.iload_n 3, 3, 0, 0), (.iconst 1, 0, 0, 1), (.isub, 0, 0, 0), (.istore 4, 4, 0, 0), (.iload 4, 4, 0, 0), (.ifCond .lt 34, 30, 0, 0), (.aload_n 0, 0, 0, 0), (.getfield 9, 0, 4, 271),
  (.aload_n 0, 0, 0, 0), (.getfield 19, 1, 4, 272), (.lload_n 1, 1, 0, 0), (.iload 4, 4, 0, 0), (.invokestatic 15, 24, 0, 379), (.iastore, 0, 0, 0), (.aload_n 0, 0, 0, 0), (.dup, 0, 0, 0),
  (.getfield 19, 1, 4, 272), (.iconst 1, 0, 0, 1), (.iadd, 0, 0, 0), (.putfield 19, 1, 4, 272), (.iinc 4 (-1), 4, 0, -1), (.goto (-33), 12, 0, 0), (.aload_n 0, 0, 0, 0), (.getfield 19, 1, 4, 272),
  (.ireturn, 0, 0, 0)]
/-- StreetCries.town()I -/
def jx_c26 : List (Instr × Nat × Nat × Int) := [(.aload_n 0, 0, 0, 0), (.getfield 36, 4, 8, 306), (.aload_n 0, 0, 0, 0), (.getfield 40, 6, 8, 308), (.bipush 25, 0, 0, 25), (.bipush 25, 0, 0, 25), (.invokevirtual 97, 27, 0, 390), (.istore_n 1, 1, 0, 0),
  (.aload_n 0, 0, 0, 0), (.getfield 36, 4, 8, 306), (.invokevirtual 101, 29, 0, 398), (.iload_n 1, 1, 0, 0), (.ifCond .ge 5, 15, 0, 0), (.iload_n 1, 1, 0, 0), (.ireturn, 0, 0, 0), (.iconst 0, 0, 0, 0),
  (.istore_n 2, 2, 0, 0), (.iconst 0, 0, 0, 0), (.istore_n 3, 3, 0, 0), (.iload_n 3, 3, 0, 0), (.bipush 25, 0, 0, 25), (.if_icmp .ge 33, 40, 0, 0), (.aload_n 0, 0, 0, 0), (.getfield 10, 0, 8, 302),
  (.getfield 59, 0, 5, 165), (.iload_n 3, 3, 0, 0), (.aload_n 0, 0, 0, 0), (.getfield 40, 6, 8, 308), (.iload_n 3, 3, 0, 0), (.iaload, 0, 0, 0), (.iastore, 0, 0, 0), (.iload_n 2, 2, 0, 0),
  (.aload_n 0, 0, 0, 0), (.getfield 40, 6, 8, 308), (.iload_n 3, 3, 0, 0), (.iaload, 0, 0, 0), (.iadd, 0, 0, 0), (.istore_n 2, 2, 0, 0), (.iinc 3 1, 3, 0, 1), (.goto (-33), 19, 0, 0),
  (.iload_n 2, 2, 0, 0), (.ireturn, 0, 0, 0)]
/-- StreetCries$Tape.readDigits([III)I -/
def jx_c27 : List (Instr × Nat × Nat × Int) := [(.iconst 0, 0, 0, 0), (.istore 4, 4, 0, 0), (.iconst 0, 0, 0, 0), (.istore 5, 5, 0, 0), (.iload 5, 5, 0, 0), (.aload_n 0, 0, 0, 0), (.getfield 19, 1, 4, 272), (.if_icmp .ge 69, 42, 0, 0),
  (.aload_n 0, 0, 0, 0), (.getfield 9, 0, 4, 271), (.iload 5, 5, 0, 0), (.iaload, 0, 0, 0), (.bipush 32, 0, 0, 32), (.if_icmp .ne 6, 15, 0, 0), (.goto 48, 40, 0, 0), (.iload 4, 4, 0, 0),
  (.iload_n 3, 3, 0, 0), (.if_icmp .ge 19, 26, 0, 0), (.iload 4, 4, 0, 0), (.aload_n 1, 1, 0, 0), (.arraylength, 0, 0, 0), (.if_icmp .ge 12, 26, 0, 0), (.aload_n 0, 0, 0, 0), (.iload 5, 5, 0, 0),
  (.invokevirtual 23, 28, 0, 394), (.ifCond .ne 9, 30, 0, 0), (.bipush (-20), 0, 0, -20), (.iload 5, 5, 0, 0), (.isub, 0, 0, 0), (.ireturn, 0, 0, 0), (.aload_n 1, 1, 0, 0), (.iload 4, 4, 0, 0),
  (.aload_n 0, 0, 0, 0), (.getfield 9, 0, 4, 271), (.iload 5, 5, 0, 0), (.iaload, 0, 0, 0), (.bipush 48, 0, 0, 48), (.isub, 0, 0, 0), (.iastore, 0, 0, 0), (.iinc 4 1, 4, 0, 1),
  (.iinc 5 1, 5, 0, 1), (.goto (-72), 4, 0, 0), (.iload 4, 4, 0, 0), (.iload_n 2, 2, 0, 0), (.if_icmp .ge 13, 50, 0, 0), (.bipush (-20), 0, 0, -20), (.aload_n 0, 0, 0, 0), (.getfield 19, 1, 4, 272),
  (.isub, 0, 0, 0), (.goto 5, 51, 0, 0), (.iload 4, 4, 0, 0), (.ireturn, 0, 0, 0)]
/-- StreetCries$Tape.isDigit(I)Z -/
def jx_c28 : List (Instr × Nat × Nat × Int) := [(.iload_n 1, 1, 0, 0), (.aload_n 0, 0, 0, 0), (.getfield 19, 1, 4, 272), (.if_icmp .ge 29, 18, 0, 0), (.aload_n 0, 0, 0, 0), (.getfield 9, 0, 4, 271), (.iload_n 1, 1, 0, 0), (.iaload, 0, 0, 0),
  (.bipush 48, 0, 0, 48), (.if_icmp .lt 18, 18, 0, 0), (.aload_n 0, 0, 0, 0), (.getfield 9, 0, 4, 271), (.iload_n 1, 1, 0, 0), (.iaload, 0, 0, 0), (.bipush 57, 0, 0, 57), (.if_icmp .gt 7, 18, 0, 0),
  (.iconst 1, 0, 0, 1), (.goto 4, 19, 0, 0), (.iconst 0, 0, 0, 0), (.ireturn, 1, 0, 0)]
/-- StreetCries$Tape.clear()V -/
def jx_c29 : List (Instr × Nat × Nat × Int) := [(.aload_n 0, 0, 0, 0), (.iconst 0, 0, 0, 0), (.putfield 19, 1, 4, 272), (.return_, 0, 0, 0)]
/-- StreetCries.round(I)I -/
def jx_c30 : List (Instr × Nat × Nat × Int) := [(.aload_n 0, 0, 0, 0), (.getfield 10, 0, 8, 302), (.iload_n 1, 1, 0, 0), (.invokevirtual 82, 19, 0, 358), (.ifCond .ne 5, 7, 0, 0), (.iconst (-1), 0, 0, -1), (.ireturn, 0, 0, 0), (.aload_n 0, 0, 0, 0),
  (.getfield 36, 4, 8, 306), (.aload_n 0, 0, 0, 0), (.getfield 40, 6, 8, 308), (.invokevirtual 104, 31, 0, 406), (.istore_n 2, 2, 0, 0), (.aload_n 0, 0, 0, 0), (.getfield 36, 4, 8, 306), (.invokevirtual 101, 29, 0, 398),
  (.iload_n 2, 2, 0, 0), (.ifCond .le 20, 27, 0, 0), (.aload_n 0, 0, 0, 0), (.getfield 10, 0, 8, 302), (.getfield 72, 1, 5, 170), (.iload_n 1, 1, 0, 0), (.aaload, 0, 0, 0), (.aload_n 0, 0, 0, 0),
  (.getfield 40, 6, 8, 308), (.iload_n 2, 2, 0, 0), (.invokevirtual 108, 38, 0, 432), (.iload_n 2, 2, 0, 0), (.ireturn, 0, 0, 0)]
/-- StreetCries$Tape.readRound([I)I -/
def jx_c31 : List (Instr × Nat × Nat × Int) := [(.bipush 12, 0, 0, 12), (.aload_n 1, 1, 0, 0), (.arraylength, 0, 0, 0), (.invokestatic 27, 0, 4, 410), (.istore_n 2, 2, 0, 0), (.aload_n 0, 0, 0, 0), (.iconst 0, 0, 0, 0), (.invokevirtual 33, 33, 0, 413),
  (.istore_n 3, 3, 0, 0), (.iconst 0, 0, 0, 0), (.istore 4, 4, 0, 0), (.iload 4, 4, 0, 0), (.iload_n 2, 2, 0, 0), (.if_icmp .ge 129, 88, 0, 0), (.aload_n 0, 0, 0, 0), (.iload_n 3, 3, 0, 0),
  (.invokevirtual 23, 28, 0, 394), (.ifCond .ne 8, 22, 0, 0), (.bipush (-20), 0, 0, -20), (.iload_n 3, 3, 0, 0), (.isub, 0, 0, 0), (.ireturn, 0, 0, 0), (.aload_n 0, 0, 0, 0), (.iload_n 3, 3, 0, 0),
  (.invokevirtual 37, 34, 0, 417), (.istore 5, 5, 0, 0), (.aload_n 0, 0, 0, 0), (.iload_n 3, 3, 0, 0), (.iload 5, 5, 0, 0), (.invokevirtual 40, 35, 0, 421), (.istore 6, 6, 0, 0), (.iload 6, 6, 0, 0),
  (.invokestatic 43, 11, 1, 425), (.ifCond .eq 23, 45, 0, 0), (.iload 4, 4, 0, 0), (.ifCond .le 23, 49, 0, 0), (.aload_n 1, 1, 0, 0), (.iload 4, 4, 0, 0), (.iconst 1, 0, 0, 1), (.isub, 0, 0, 0),
  (.iaload, 0, 0, 0), (.iload 6, 6, 0, 0), (.invokestatic 46, 36, 1, 426), (.iconst 1, 0, 0, 1), (.if_icmp .le 8, 49, 0, 0), (.bipush (-20), 0, 0, -20), (.iload_n 3, 3, 0, 0), (.isub, 0, 0, 0),
  (.ireturn, 0, 0, 0), (.aload_n 1, 1, 0, 0), (.iload 4, 4, 0, 0), (.iload 6, 6, 0, 0), (.iastore, 0, 0, 0), (.aload_n 0, 0, 0, 0), (.iload 5, 5, 0, 0), (.invokevirtual 33, 33, 0, 413),
  (.istore_n 3, 3, 0, 0), (.iload_n 3, 3, 0, 0), (.aload_n 0, 0, 0, 0), (.getfield 19, 1, 4, 272), (.if_icmp .lt 8, 65, 0, 0), (.iload 4, 4, 0, 0), (.iconst 1, 0, 0, 1), (.iadd, 0, 0, 0),
  (.ireturn, 0, 0, 0), (.aload_n 0, 0, 0, 0), (.getfield 9, 0, 4, 271), (.iload_n 3, 3, 0, 0), (.iaload, 0, 0, 0), (.bipush 44, 0, 0, 44), (.if_icmp .ne 11, 76, 0, 0), (.iload 4, 4, 0, 0),
  (.iload_n 2, 2, 0, 0), (.iconst 1, 0, 0, 1), (.isub, 0, 0, 0), (.if_icmp .ne 8, 80, 0, 0), (.bipush (-20), 0, 0, -20), (.iload_n 3, 3, 0, 0), (.isub, 0, 0, 0), (.ireturn, 0, 0, 0),
  (.aload_n 0, 0, 0, 0), (.iload_n 3, 3, 0, 0), (.iconst 1, 0, 0, 1), (.iadd, 0, 0, 0), (.invokevirtual 33, 33, 0, 413), (.istore_n 3, 3, 0, 0), (.iinc 4 1, 4, 0, 1), (.goto (-129), 11, 0, 0),
  (.bipush (-20), 0, 0, -20), (.iload_n 3, 3, 0, 0), (.isub, 0, 0, 0), (.ireturn, 0, 0, 0)]
/-- java/lang/Math.min(II)I -/
def jx_c32 : List (Instr × Nat × Nat × Int) := [(.iload_n 0, 0, 0, 0), (.iload_n 1, 1, 0, 0), (.if_icmp .gt 7, 5, 0, 0), (.iload_n 0, 0, 0, 0), (.goto 4, 6, 0, 0), (.iload_n 1, 1, 0, 0), (.ireturn, 0, 0, 0)]
/-- StreetCries$Tape.behindBlanks(I)I -/
def jx_c33 : List (Instr × Nat × Nat × Int) := [(.iload_n 1, 1, 0, 0), (.istore_n 2, 2, 0, 0), (.iload_n 2, 2, 0, 0), (.aload_n 0, 0, 0, 0), (.getfield 19, 1, 4, 272), (.if_icmp .ge 22, 16, 0, 0), (.aload_n 0, 0, 0, 0), (.getfield 9, 0, 4, 271),
  (.iload_n 2, 2, 0, 0), (.iaload, 0, 0, 0), (.bipush 32, 0, 0, 32), (.if_icmp .eq 5, 14, 0, 0), (.iload_n 2, 2, 0, 0), (.ireturn, 0, 0, 0), (.iinc 2 1, 2, 0, 1), (.goto (-24), 2, 0, 0),
  (.aload_n 0, 0, 0, 0), (.getfield 19, 1, 4, 272), (.ireturn, 0, 0, 0)]
/-- StreetCries$Tape.behindDigits(I)I -/
def jx_c34 : List (Instr × Nat × Nat × Int) := [(.iload_n 1, 1, 0, 0), (.istore_n 2, 2, 0, 0), (.iload_n 2, 2, 0, 0), (.aload_n 0, 0, 0, 0), (.getfield 19, 1, 4, 272), (.if_icmp .ge 19, 14, 0, 0), (.aload_n 0, 0, 0, 0), (.iload_n 2, 2, 0, 0),
  (.invokevirtual 23, 28, 0, 394), (.ifCond .ne 5, 12, 0, 0), (.iload_n 2, 2, 0, 0), (.ireturn, 0, 0, 0), (.iinc 2 1, 2, 0, 1), (.goto (-21), 2, 0, 0), (.aload_n 0, 0, 0, 0), (.getfield 19, 1, 4, 272),
  (.ireturn, 0, 0, 0)]
/-- StreetCries$Tape.numberIn(II)I -/
def jx_c35 : List (Instr × Nat × Nat × Int) := [(.iconst 0, 0, 0, 0), (.istore_n 3, 3, 0, 0), (.iload_n 1, 1, 0, 0), (.istore 4, 4, 0, 0), (.iload 4, 4, 0, 0), (.iload_n 2, 2, 0, 0), (.if_icmp .ge 30, 22, 0, 0), (.bipush 25, 0, 0, 25),
  (.bipush 10, 0, 0, 10), (.iload_n 3, 3, 0, 0), (.imul, 0, 0, 0), (.aload_n 0, 0, 0, 0), (.getfield 9, 0, 4, 271), (.iload 4, 4, 0, 0), (.iaload, 0, 0, 0), (.iadd, 0, 0, 0),
  (.bipush 48, 0, 0, 48), (.isub, 0, 0, 0), (.invokestatic 27, 0, 4, 410), (.istore_n 3, 3, 0, 0), (.iinc 4 1, 4, 0, 1), (.goto (-30), 4, 0, 0), (.iload_n 3, 3, 0, 0), (.ireturn, 0, 0, 0)]
/-- StreetCries.far(II)I -/
def jx_c36 : List (Instr × Nat × Nat × Int) := [(.iload_n 0, 0, 0, 0), (.iconst 5, 0, 0, 5), (.idiv, 0, 0, 0), (.iload_n 1, 1, 0, 0), (.iconst 5, 0, 0, 5), (.idiv, 0, 0, 0), (.isub, 0, 0, 0), (.invokestatic 311, 0, 5, 429),
  (.iload_n 0, 0, 0, 0), (.iconst 5, 0, 0, 5), (.irem, 0, 0, 0), (.iload_n 1, 1, 0, 0), (.iconst 5, 0, 0, 5), (.irem, 0, 0, 0), (.isub, 0, 0, 0), (.invokestatic 311, 0, 5, 429),
  (.iadd, 0, 0, 0), (.ireturn, 0, 0, 0)]
/-- java/lang/Math.abs(I)I -/
def jx_c37 : List (Instr × Nat × Nat × Int) := [(.iload_n 0, 0, 0, 0), (.ifCond .ge 8, 5, 0, 0), (.iload_n 0, 0, 0, 0), (.ineg, 0, 0, 0), (.goto 4, 6, 0, 0), (.iload_n 0, 0, 0, 0), (.ireturn, 0, 0, 0)]
/-- StreetCries$Seller.takeRound([II)V -/
def jx_c38 : List (Instr × Nat × Nat × Int) := [(.aload_n 0, 0, 0, 0), (.iload_n 2, 2, 0, 0), (.aload_n 1, 1, 0, 0), (.arraylength, 0, 0, 0), (.bipush 12, 0, 0, 12), (.invokestatic 65, 0, 4, 436), (.invokestatic 65, 0, 4, 436), (.putfield 31, 2, 2, 81),
  (.iconst 0, 0, 0, 0), (.istore_n 3, 3, 0, 0), (.iload_n 3, 3, 0, 0), (.aload_n 0, 0, 0, 0), (.getfield 31, 2, 2, 81), (.if_icmp .ge 18, 23, 0, 0), (.aload_n 0, 0, 0, 0), (.getfield 9, 0, 2, 76),
  (.iload_n 3, 3, 0, 0), (.aload_n 1, 1, 0, 0), (.iload_n 3, 3, 0, 0), (.iaload, 0, 0, 0), (.iastore, 0, 0, 0), (.iinc 3 1, 3, 0, 1), (.goto (-20), 10, 0, 0), (.return_, 0, 0, 0)]
/-- StreetCries.tune(I)I -/
def jx_c39 : List (Instr × Nat × Nat × Int) := [(.aload_n 0, 0, 0, 0), (.getfield 10, 0, 8, 302), (.iload_n 1, 1, 0, 0), (.invokevirtual 82, 19, 0, 358), (.ifCond .ne 5, 7, 0, 0), (.iconst (-1), 0, 0, -1), (.ireturn, 0, 0, 0), (.aload_n 0, 0, 0, 0),
  (.getfield 36, 4, 8, 306), (.aload_n 0, 0, 0, 0), (.getfield 40, 6, 8, 308), (.iconst 1, 0, 0, 1), (.bipush 6, 0, 0, 6), (.invokevirtual 97, 27, 0, 390), (.istore_n 2, 2, 0, 0), (.aload_n 0, 0, 0, 0),
  (.getfield 36, 4, 8, 306), (.invokevirtual 101, 29, 0, 398), (.iload_n 2, 2, 0, 0), (.ifCond .le 20, 29, 0, 0), (.aload_n 0, 0, 0, 0), (.getfield 10, 0, 8, 302), (.getfield 72, 1, 5, 170), (.iload_n 1, 1, 0, 0),
  (.aaload, 0, 0, 0), (.aload_n 0, 0, 0, 0), (.getfield 40, 6, 8, 308), (.iload_n 2, 2, 0, 0), (.invokevirtual 112, 40, 0, 441), (.iload_n 2, 2, 0, 0), (.ireturn, 0, 0, 0)]
/-- StreetCries$Seller.takeTune([II)V -/
def jx_c40 : List (Instr × Nat × Nat × Int) := [(.aload_n 0, 0, 0, 0), (.iload_n 2, 2, 0, 0), (.aload_n 1, 1, 0, 0), (.arraylength, 0, 0, 0), (.bipush 6, 0, 0, 6), (.invokestatic 65, 0, 4, 436), (.invokestatic 65, 0, 4, 436), (.putfield 34, 3, 2, 85),
  (.iconst 0, 0, 0, 0), (.istore_n 3, 3, 0, 0), (.iload_n 3, 3, 0, 0), (.aload_n 0, 0, 0, 0), (.getfield 34, 3, 2, 85), (.if_icmp .ge 18, 23, 0, 0), (.aload_n 0, 0, 0, 0), (.getfield 15, 1, 2, 78),
  (.iload_n 3, 3, 0, 0), (.aload_n 1, 1, 0, 0), (.iload_n 3, 3, 0, 0), (.iaload, 0, 0, 0), (.iastore, 0, 0, 0), (.iinc 3 1, 3, 0, 1), (.goto (-20), 10, 0, 0), (.aload_n 0, 0, 0, 0),
  (.aload_n 0, 0, 0, 0), (.getfield 15, 1, 2, 78), (.aload_n 0, 0, 0, 0), (.getfield 34, 3, 2, 85), (.invokestatic 37, 17, 1, 351), (.putfield 41, 8, 2, 99), (.return_, 0, 0, 0)]
/-- StreetCries.told(III)I -/
def jx_c41 : List (Instr × Nat × Nat × Int) := [(.aload_n 0, 0, 0, 0), (.getfield 10, 0, 8, 302), (.iload_n 1, 1, 0, 0), (.invokevirtual 82, 19, 0, 358), (.ifCond .eq 17, 13, 0, 0), (.iload_n 2, 2, 0, 0), (.iconst 0, 0, 0, 0), (.iconst 1, 0, 0, 1),
  (.invokestatic 55, 12, 0, 334), (.ifCond .eq 8, 13, 0, 0), (.iload_n 3, 3, 0, 0), (.iconst (-1), 0, 0, -1), (.if_icmp .ge 5, 15, 0, 0), (.iconst (-1), 0, 0, -1), (.ireturn, 0, 0, 0), (.aload_n 0, 0, 0, 0),
  (.getfield 10, 0, 8, 302), (.getfield 72, 1, 5, 170), (.iload_n 1, 1, 0, 0), (.aaload, 0, 0, 0), (.astore 4, 4, 0, 0), (.iload_n 2, 2, 0, 0), (.ifCond .ne 11, 26, 0, 0), (.aload 4, 4, 0, 0),
  (.getfield 115, 0, 2, 77), (.goto 8, 28, 0, 0), (.aload 4, 4, 0, 0), (.getfield 118, 1, 2, 80), (.astore 5, 5, 0, 0), (.iload_n 2, 2, 0, 0), (.ifCond .ne 11, 34, 0, 0), (.aload 4, 4, 0, 0),
  (.getfield 121, 2, 2, 84), (.goto 8, 36, 0, 0), (.aload 4, 4, 0, 0), (.getfield 124, 3, 2, 87), (.istore 6, 6, 0, 0), (.iload_n 3, 3, 0, 0), (.ifCond .ge 6, 41, 0, 0), (.iload 6, 6, 0, 0),
  (.ireturn, 0, 0, 0), (.iload_n 3, 3, 0, 0), (.iload 6, 6, 0, 0), (.if_icmp .ge 17, 52, 0, 0), (.iload_n 3, 3, 0, 0), (.aload 5, 5, 0, 0), (.arraylength, 0, 0, 0), (.if_icmp .ge 10, 52, 0, 0),
  (.aload 5, 5, 0, 0), (.iload_n 3, 3, 0, 0), (.iaload, 0, 0, 0), (.goto 5, 53, 0, 0), (.bipush (-4), 0, 0, -4), (.ireturn, 0, 0, 0)]
/-- StreetCries.where(II)I -/
def jx_c42 : List (Instr × Nat × Nat × Int) := [(.aload_n 0, 0, 0, 0), (.getfield 10, 0, 8, 302), (.iload_n 1, 1, 0, 0), (.invokevirtual 82, 19, 0, 358), (.ifCond .eq 10, 8, 0, 0), (.iload_n 2, 2, 0, 0), (.invokestatic 127, 21, 0, 453), (.ifCond .ne 5, 10, 0, 0),
  (.iconst (-1), 0, 0, -1), (.ireturn, 0, 0, 0), (.aload_n 0, 0, 0, 0), (.getfield 10, 0, 8, 302), (.getfield 72, 1, 5, 170), (.iload_n 1, 1, 0, 0), (.aaload, 0, 0, 0), (.iload_n 2, 2, 0, 0),
  (.invokevirtual 130, 43, 0, 454), (.ireturn, 0, 0, 0)]
/-- StreetCries$Seller.placeIn(I)I -/
def jx_c43 : List (Instr × Nat × Nat × Int) := [(.iload_n 1, 1, 0, 0), (.aload_n 0, 0, 0, 0), (.getfield 28, 6, 2, 92), (.isub, 0, 0, 0), (.istore_n 2, 2, 0, 0), (.iload_n 2, 2, 0, 0), (.ifCond .lt 11, 11, 0, 0), (.aload_n 0, 0, 0, 0),
  (.getfield 25, 7, 2, 96), (.iconst 1, 0, 0, 1), (.if_icmp .ge 6, 13, 0, 0), (.bipush (-4), 0, 0, -4), (.ireturn, 0, 0, 0), (.iload_n 2, 2, 0, 0), (.aload_n 0, 0, 0, 0), (.getfield 25, 7, 2, 96),
  (.idiv, 0, 0, 0), (.istore_n 3, 3, 0, 0), (.iload_n 3, 3, 0, 0), (.aload_n 0, 0, 0, 0), (.getfield 31, 2, 2, 81), (.if_icmp .ge 12, 27, 0, 0), (.aload_n 0, 0, 0, 0), (.getfield 9, 0, 2, 76),
  (.iload_n 3, 3, 0, 0), (.iaload, 0, 0, 0), (.goto 5, 28, 0, 0), (.bipush (-4), 0, 0, -4), (.ireturn, 0, 0, 0)]
/-- StreetCries.carries(I)I -/
def jx_c44 : List (Instr × Nat × Nat × Int) := [(.aload_n 0, 0, 0, 0), (.getfield 10, 0, 8, 302), (.iload_n 1, 1, 0, 0), (.invokevirtual 82, 19, 0, 358), (.ifCond .eq 25, 15, 0, 0), (.aload_n 0, 0, 0, 0), (.getfield 10, 0, 8, 302), (.getfield 72, 1, 5, 170),
  (.iload_n 1, 1, 0, 0), (.aaload, 0, 0, 0), (.aload_n 0, 0, 0, 0), (.getfield 10, 0, 8, 302), (.getfield 134, 8, 5, 190), (.invokevirtual 137, 45, 0, 462), (.goto 4, 16, 0, 0), (.iconst (-1), 0, 0, -1),
  (.ireturn, 0, 0, 0)]
/-- StreetCries$Seller.reach(I)I -/
def jx_c45 : List (Instr × Nat × Nat × Int) := [(.aload_n 0, 0, 0, 0), (.getfield 22, 5, 2, 91), (.aload_n 0, 0, 0, 0), (.getfield 41, 8, 2, 99), (.iadd, 0, 0, 0), (.istore_n 2, 2, 0, 0), (.iload_n 1, 1, 0, 0), (.iconst 4, 0, 0, 4),
  (.iand, 0, 0, 0), (.ifCond .eq 12, 15, 0, 0), (.iload_n 2, 2, 0, 0), (.iconst 4, 0, 0, 4), (.if_icmp .le 7, 15, 0, 0), (.iconst 4, 0, 0, 4), (.goto 4, 16, 0, 0), (.iload_n 2, 2, 0, 0),
  (.ireturn, 0, 0, 0)]
/-- StreetCries.heard(II)I -/
def jx_c46 : List (Instr × Nat × Nat × Int) := [(.iload_n 1, 1, 0, 0), (.invokestatic 51, 11, 0, 331), (.ifCond .eq 10, 6, 0, 0), (.iload_n 2, 2, 0, 0), (.invokestatic 127, 21, 0, 453), (.ifCond .ne 5, 8, 0, 0), (.iconst (-1), 0, 0, -1), (.ireturn, 0, 0, 0),
  (.iconst 0, 0, 0, 0), (.istore_n 3, 3, 0, 0), (.iconst 0, 0, 0, 0), (.istore 4, 4, 0, 0), (.iload 4, 4, 0, 0), (.aload_n 0, 0, 0, 0), (.getfield 10, 0, 8, 302), (.getfield 68, 4, 5, 178),
  (.if_icmp .ge 30, 32, 0, 0), (.aload_n 0, 0, 0, 0), (.getfield 10, 0, 8, 302), (.iload 4, 4, 0, 0), (.iload_n 1, 1, 0, 0), (.iload_n 2, 2, 0, 0), (.invokevirtual 140, 47, 0, 470), (.ifCond .eq 10, 30, 0, 0),
  (.iload_n 3, 3, 0, 0), (.iconst 1, 0, 0, 1), (.iload 4, 4, 0, 0), (.ishl, 0, 0, 0), (.ior, 0, 0, 0), (.istore_n 3, 3, 0, 0), (.iinc 4 1, 4, 0, 1), (.goto (-36), 12, 0, 0),
  (.iload_n 3, 3, 0, 0), (.ireturn, 0, 0, 0)]
/-- StreetCries$Town.isHeard(III)Z -/
def jx_c47 : List (Instr × Nat × Nat × Int) := [(.aload_n 0, 0, 0, 0), (.iload_n 1, 1, 0, 0), (.iload_n 3, 3, 0, 0), (.invokevirtual 125, 48, 0, 474), (.ifCond .eq 17, 13, 0, 0), (.aload_n 0, 0, 0, 0), (.iload_n 1, 1, 0, 0), (.iload_n 2, 2, 0, 0),
  (.iload_n 3, 3, 0, 0), (.invokevirtual 128, 52, 0, 494), (.ifCond .eq 7, 13, 0, 0), (.iconst 1, 0, 0, 1), (.goto 4, 14, 0, 0), (.iconst 0, 0, 0, 0), (.ireturn, 1, 0, 0)]
/-- StreetCries$Town.criesIn(II)Z -/
def jx_c48 : List (Instr × Nat × Nat × Int) := [(.iload_n 2, 2, 0, 0), (.invokestatic 96, 21, 1, 478), (.ifCond .eq 16, 10, 0, 0), (.aload_n 0, 0, 0, 0), (.getfield 17, 1, 5, 167), (.iload_n 1, 1, 0, 0), (.aaload, 0, 0, 0), (.iload_n 2, 2, 0, 0),
  (.invokevirtual 100, 49, 0, 479), (.ifCond .ne 5, 12, 0, 0), (.iconst 0, 0, 0, 0), (.ireturn, 1, 0, 0), (.aload_n 0, 0, 0, 0), (.getfield 93, 8, 5, 188), (.iconst 1, 0, 0, 1), (.iand, 0, 0, 0),
  (.ifCond .eq 11, 22, 0, 0), (.iload_n 2, 2, 0, 0), (.bipush 60, 0, 0, 60), (.if_icmp .lt 5, 22, 0, 0), (.iconst 0, 0, 0, 0), (.ireturn, 1, 0, 0), (.aload_n 0, 0, 0, 0), (.getfield 93, 8, 5, 188),
  (.iconst 2, 0, 0, 2), (.iand, 0, 0, 0), (.ifCond .eq 22, 38, 0, 0), (.aload_n 0, 0, 0, 0), (.aload_n 0, 0, 0, 0), (.getfield 17, 1, 5, 167), (.iload_n 1, 1, 0, 0), (.aaload, 0, 0, 0),
  (.iload_n 2, 2, 0, 0), (.invokevirtual 103, 43, 0, 483), (.invokevirtual 107, 50, 0, 484), (.ifCond .eq 5, 38, 0, 0), (.iconst 0, 0, 0, 0), (.ireturn, 1, 0, 0), (.aload_n 0, 0, 0, 0), (.getfield 93, 8, 5, 188),
  (.bipush 8, 0, 0, 8), (.iand, 0, 0, 0), (.ifCond .eq 12, 48, 0, 0), (.aload_n 0, 0, 0, 0), (.iload_n 1, 1, 0, 0), (.iload_n 2, 2, 0, 0), (.invokevirtual 110, 51, 0, 489), (.ifCond .ne 7, 50, 0, 0),
  (.iconst 1, 0, 0, 1), (.goto 4, 51, 0, 0), (.iconst 0, 0, 0, 0), (.ireturn, 1, 0, 0)]
/-- StreetCries$Seller.arrivesIn(I)Z -/
def jx_c49 : List (Instr × Nat × Nat × Int) := [(.iload_n 1, 1, 0, 0), (.aload_n 0, 0, 0, 0), (.getfield 28, 6, 2, 92), (.isub, 0, 0, 0), (.istore_n 2, 2, 0, 0), (.iload_n 2, 2, 0, 0), (.ifCond .lt 37, 25, 0, 0), (.aload_n 0, 0, 0, 0),
  (.getfield 25, 7, 2, 96), (.iconst 1, 0, 0, 1), (.if_icmp .lt 29, 25, 0, 0), (.iload_n 2, 2, 0, 0), (.aload_n 0, 0, 0, 0), (.getfield 25, 7, 2, 96), (.irem, 0, 0, 0), (.ifCond .ne 20, 25, 0, 0),
  (.iload_n 2, 2, 0, 0), (.aload_n 0, 0, 0, 0), (.getfield 25, 7, 2, 96), (.idiv, 0, 0, 0), (.aload_n 0, 0, 0, 0), (.getfield 31, 2, 2, 81), (.if_icmp .ge 7, 25, 0, 0), (.iconst 1, 0, 0, 1),
  (.goto 4, 26, 0, 0), (.iconst 0, 0, 0, 0), (.ireturn, 1, 0, 0)]
/-- StreetCries$Town.isStill(I)Z -/
def jx_c50 : List (Instr × Nat × Nat × Int) := [(.iload_n 1, 1, 0, 0), (.invokestatic 114, 11, 1, 488), (.ifCond .eq 16, 10, 0, 0), (.aload_n 0, 0, 0, 0), (.getfield 9, 0, 5, 164), (.iload_n 1, 1, 0, 0), (.iaload, 0, 0, 0), (.ifCond .ne 7, 10, 0, 0),
  (.iconst 1, 0, 0, 1), (.goto 4, 11, 0, 0), (.iconst 0, 0, 0, 0), (.ireturn, 1, 0, 0)]
/-- StreetCries$Town.isCrowded(II)Z -/
def jx_c51 : List (Instr × Nat × Nat × Int) := [(.aload_n 0, 0, 0, 0), (.getfield 17, 1, 5, 167), (.iload_n 1, 1, 0, 0), (.aaload, 0, 0, 0), (.iload_n 2, 2, 0, 0), (.invokevirtual 103, 43, 0, 483), (.istore_n 3, 3, 0, 0), (.iconst 0, 0, 0, 0),
  (.istore 4, 4, 0, 0), (.iload 4, 4, 0, 0), (.iload_n 1, 1, 0, 0), (.if_icmp .ge 61, 41, 0, 0), (.aload_n 0, 0, 0, 0), (.getfield 17, 1, 5, 167), (.iload 4, 4, 0, 0), (.aaload, 0, 0, 0),
  (.iload_n 2, 2, 0, 0), (.invokevirtual 103, 43, 0, 483), (.istore 5, 5, 0, 0), (.aload_n 0, 0, 0, 0), (.getfield 17, 1, 5, 167), (.iload 4, 4, 0, 0), (.aaload, 0, 0, 0), (.getfield 117, 4, 2, 90),
  (.aload_n 0, 0, 0, 0), (.getfield 17, 1, 5, 167), (.iload_n 1, 1, 0, 0), (.aaload, 0, 0, 0), (.getfield 117, 4, 2, 90), (.if_icmp .ne 20, 39, 0, 0), (.iload 5, 5, 0, 0), (.ifCond .lt 15, 39, 0, 0),
  (.iload_n 3, 3, 0, 0), (.iload 5, 5, 0, 0), (.invokestatic 118, 36, 1, 493), (.iconst 2, 0, 0, 2), (.if_icmp .gt 5, 39, 0, 0), (.iconst 1, 0, 0, 1), (.ireturn, 1, 0, 0), (.iinc 4 1, 4, 0, 1),
  (.goto (-61), 9, 0, 0), (.iconst 0, 0, 0, 0), (.ireturn, 1, 0, 0)]
/-- StreetCries$Town.carriesTo(III)Z -/
def jx_c52 : List (Instr × Nat × Nat × Int) := [(.aload_n 0, 0, 0, 0), (.getfield 17, 1, 5, 167), (.iload_n 1, 1, 0, 0), (.aaload, 0, 0, 0), (.iload_n 3, 3, 0, 0), (.invokevirtual 103, 43, 0, 483), (.istore 4, 4, 0, 0), (.iload 4, 4, 0, 0),
  (.ifCond .lt 36, 27, 0, 0), (.iload 4, 4, 0, 0), (.iload_n 2, 2, 0, 0), (.invokestatic 118, 36, 1, 493), (.aload_n 0, 0, 0, 0), (.getfield 17, 1, 5, 167), (.iload_n 1, 1, 0, 0), (.aaload, 0, 0, 0),
  (.aload_n 0, 0, 0, 0), (.getfield 93, 8, 5, 188), (.invokevirtual 122, 45, 0, 498), (.aload_n 0, 0, 0, 0), (.getfield 9, 0, 5, 164), (.iload_n 2, 2, 0, 0), (.iaload, 0, 0, 0), (.isub, 0, 0, 0),
  (.if_icmp .gt 7, 27, 0, 0), (.iconst 1, 0, 0, 1), (.goto 4, 28, 0, 0), (.iconst 0, 0, 0, 0), (.ireturn, 1, 0, 0)]
/-- StreetCries.apart(II)I -/
def jx_c53 : List (Instr × Nat × Nat × Int) := [(.aload_n 0, 0, 0, 0), (.getfield 10, 0, 8, 302), (.iload_n 1, 1, 0, 0), (.invokevirtual 82, 19, 0, 358), (.ifCond .eq 14, 10, 0, 0), (.aload_n 0, 0, 0, 0), (.getfield 10, 0, 8, 302), (.iload_n 2, 2, 0, 0),
  (.invokevirtual 82, 19, 0, 358), (.ifCond .ne 5, 12, 0, 0), (.iconst (-1), 0, 0, -1), (.ireturn, 0, 0, 0), (.aload_n 0, 0, 0, 0), (.getfield 10, 0, 8, 302), (.getfield 72, 1, 5, 170), (.iload_n 2, 2, 0, 0),
  (.aaload, 0, 0, 0), (.astore_n 3, 3, 0, 0), (.aload_n 0, 0, 0, 0), (.getfield 10, 0, 8, 302), (.getfield 72, 1, 5, 170), (.iload_n 1, 1, 0, 0), (.aaload, 0, 0, 0), (.aload_n 3, 3, 0, 0),
  (.getfield 118, 1, 2, 80), (.aload_n 3, 3, 0, 0), (.getfield 124, 3, 2, 87), (.invokevirtual 143, 54, 0, 503), (.ireturn, 0, 0, 0)]
/-- StreetCries$Seller.differsFrom([II)I -/
def jx_c54 : List (Instr × Nat × Nat × Int) := [(.iload_n 2, 2, 0, 0), (.aload_n 1, 1, 0, 0), (.arraylength, 0, 0, 0), (.invokestatic 65, 0, 4, 436), (.aload_n 0, 0, 0, 0), (.getfield 34, 3, 2, 85), (.invokestatic 65, 0, 4, 436), (.istore_n 3, 3, 0, 0),
  (.iconst 4, 0, 0, 4), (.iload_n 2, 2, 0, 0), (.aload_n 0, 0, 0, 0), (.getfield 34, 3, 2, 85), (.isub, 0, 0, 0), (.invokestatic 71, 0, 5, 507), (.imul, 0, 0, 0), (.istore 4, 4, 0, 0),
  (.iconst 0, 0, 0, 0), (.istore 5, 5, 0, 0), (.iload 5, 5, 0, 0), (.iload_n 3, 3, 0, 0), (.if_icmp .ge 29, 35, 0, 0), (.iload 4, 4, 0, 0), (.aload_n 1, 1, 0, 0), (.iload 5, 5, 0, 0),
  (.iaload, 0, 0, 0), (.aload_n 0, 0, 0, 0), (.getfield 15, 1, 2, 78), (.iload 5, 5, 0, 0), (.iaload, 0, 0, 0), (.isub, 0, 0, 0), (.invokestatic 71, 0, 5, 507), (.iadd, 0, 0, 0),
  (.istore 4, 4, 0, 0), (.iinc 5 1, 5, 0, 1), (.goto (-29), 18, 0, 0), (.iload 4, 4, 0, 0), (.ireturn, 0, 0, 0)]
/-- StreetCries.likeness(I)I -/
def jx_c55 : List (Instr × Nat × Nat × Int) := [(.iload_n 1, 1, 0, 0), (.iconst 0, 0, 0, 0), (.bipush 20, 0, 0, 20), (.invokestatic 55, 12, 0, 334), (.ifCond .ne 5, 7, 0, 0), (.iconst (-1), 0, 0, -1), (.ireturn, 0, 0, 0), (.aload_n 0, 0, 0, 0),
  (.getfield 10, 0, 8, 302), (.getfield 147, 7, 5, 187), (.istore_n 2, 2, 0, 0), (.aload_n 0, 0, 0, 0), (.getfield 10, 0, 8, 302), (.iload_n 1, 1, 0, 0), (.putfield 147, 7, 5, 187), (.iload_n 2, 2, 0, 0),
  (.ireturn, 0, 0, 0)]
/-- StreetCries.bylaw(IZ)I -/
def jx_c56 : List (Instr × Nat × Nat × Int) := [(.iload_n 1, 1, 0, 0), (.invokestatic 150, 57, 0, 516), (.ifCond .ne 5, 5, 0, 0), (.iconst (-1), 0, 0, -1), (.ireturn, 0, 0, 0), (.iconst 1, 0, 0, 1), (.iload_n 1, 1, 0, 0), (.ishl, 0, 0, 0),
  (.istore_n 3, 3, 0, 0), (.aload_n 0, 0, 0, 0), (.getfield 10, 0, 8, 302), (.getfield 134, 8, 5, 190), (.iload_n 3, 3, 0, 0), (.iand, 0, 0, 0), (.ifCond .eq 7, 17, 0, 0), (.iconst 1, 0, 0, 1),
  (.goto 4, 18, 0, 0), (.iconst 0, 0, 0, 0), (.istore 4, 4, 0, 0), (.aload_n 0, 0, 0, 0), (.getfield 10, 0, 8, 302), (.iload_n 2, 2, 0, 0), (.ifCond .eq 15, 29, 0, 0), (.aload_n 0, 0, 0, 0),
  (.getfield 10, 0, 8, 302), (.getfield 134, 8, 5, 190), (.iload_n 3, 3, 0, 0), (.ior, 0, 0, 0), (.goto 14, 36, 0, 0), (.aload_n 0, 0, 0, 0), (.getfield 10, 0, 8, 302), (.getfield 134, 8, 5, 190),
  (.iload_n 3, 3, 0, 0), (.iconst (-1), 0, 0, -1), (.ixor, 0, 0, 0), (.iand, 0, 0, 0), (.putfield 134, 8, 5, 190), (.iload 4, 4, 0, 0), (.ireturn, 0, 0, 0)]
/-- StreetCries.isBylaw(I)Z -/
def jx_c57 : List (Instr × Nat × Nat × Int) := [(.iload_n 0, 0, 0, 0), (.ifCond .lt 12, 7, 0, 0), (.iload_n 0, 0, 0, 0), (.iconst 4, 0, 0, 4), (.if_icmp .ge 7, 7, 0, 0), (.iconst 1, 0, 0, 1), (.goto 4, 8, 0, 0), (.iconst 0, 0, 0, 0),
  (.ireturn, 1, 0, 0)]
/-- StreetCries.count(I)I -/
def jx_c58 : List (Instr × Nat × Nat × Int) := [(.iload_n 1, 1, 0, 0), (.tableswitch 66 0 3 #[31, 39, 47, 55], 0, 19, 0), (.aload_n 0, 0, 0, 0), (.getfield 10, 0, 8, 302), (.getfield 68, 4, 5, 178), (.ireturn, 0, 0, 0), (.aload_n 0, 0, 0, 0), (.getfield 10, 0, 8, 302),
  (.getfield 153, 5, 5, 182), (.ireturn, 0, 0, 0), (.aload_n 0, 0, 0, 0), (.getfield 10, 0, 8, 302), (.getfield 156, 6, 5, 184), (.ireturn, 0, 0, 0), (.aload_n 0, 0, 0, 0), (.getfield 10, 0, 8, 302),
  (.getfield 134, 8, 5, 190), (.invokestatic 159, 59, 0, 523), (.ireturn, 0, 0, 0), (.iconst (-1), 0, 0, -1), (.ireturn, 0, 0, 0)]
/-- java/lang/Integer.bitCount(I)I -/
def jx_c59 : List (Instr × Nat × Nat × Int) := [(.iload_n 0, 0, 0, 0), (.iload_n 0, 0, 0, 0), (.iconst 1, 0, 0, 1), (.iushr, 0, 0, 0), (.ldc_w 265, 0, 526, 1431655765), (.iand, 0, 0, 0), (.isub, 0, 0, 0), (.istore_n 0, 0, 0, 0),
  (.iload_n 0, 0, 0, 0), (.ldc_w 266, 0, 527, 858993459), (.iand, 0, 0, 0), (.iload_n 0, 0, 0, 0), (.iconst 2, 0, 0, 2), (.iushr, 0, 0, 0), (.ldc_w 266, 0, 527, 858993459), (.iand, 0, 0, 0),
  (.iadd, 0, 0, 0), (.istore_n 0, 0, 0, 0), (.iload_n 0, 0, 0, 0), (.iload_n 0, 0, 0, 0), (.iconst 4, 0, 0, 4), (.iushr, 0, 0, 0), (.iadd, 0, 0, 0), (.ldc_w 267, 0, 528, 252645135),
  (.iand, 0, 0, 0), (.istore_n 0, 0, 0, 0), (.iload_n 0, 0, 0, 0), (.iload_n 0, 0, 0, 0), (.bipush 8, 0, 0, 8), (.iushr, 0, 0, 0), (.iadd, 0, 0, 0), (.istore_n 0, 0, 0, 0),
  (.iload_n 0, 0, 0, 0), (.iload_n 0, 0, 0, 0), (.bipush 16, 0, 0, 16), (.iushr, 0, 0, 0), (.iadd, 0, 0, 0), (.istore_n 0, 0, 0, 0), (.iload_n 0, 0, 0, 0), (.bipush 63, 0, 0, 63),
  (.iand, 0, 0, 0), (.ireturn, 0, 0, 0)]
/-- StreetCries.buyer(IIII)I -/
def jx_c60 : List (Instr × Nat × Nat × Int) := [(.iload_n 1, 1, 0, 0), (.invokestatic 51, 11, 0, 331), (.ifCond .eq 30, 16, 0, 0), (.iload_n 2, 2, 0, 0), (.invokestatic 62, 14, 0, 341), (.ifCond .eq 23, 16, 0, 0), (.iload_n 3, 3, 0, 0), (.iconst 0, 0, 0, 0),
  (.iconst 5, 0, 0, 5), (.invokestatic 55, 12, 0, 334), (.ifCond .eq 14, 16, 0, 0), (.iload 4, 4, 0, 0), (.iconst 0, 0, 0, 0), (.bipush 20, 0, 0, 20), (.invokestatic 55, 12, 0, 334), (.ifCond .ne 5, 18, 0, 0),
  (.iconst (-1), 0, 0, -1), (.ireturn, 0, 0, 0), (.aload_n 0, 0, 0, 0), (.getfield 10, 0, 8, 302), (.getfield 153, 5, 5, 182), (.bipush 12, 0, 0, 12), (.if_icmp .lt 6, 25, 0, 0), (.bipush (-3), 0, 0, -3),
  (.ireturn, 0, 0, 0), (.aload_n 0, 0, 0, 0), (.getfield 10, 0, 8, 302), (.getfield 153, 5, 5, 182), (.istore 5, 5, 0, 0), (.aload_n 0, 0, 0, 0), (.getfield 10, 0, 8, 302), (.getfield 164, 2, 5, 173),
  (.iload 5, 5, 0, 0), (.aaload, 0, 0, 0), (.iload_n 1, 1, 0, 0), (.iload_n 2, 2, 0, 0), (.iload_n 3, 3, 0, 0), (.iload 4, 4, 0, 0), (.invokevirtual 168, 61, 0, 533), (.aload_n 0, 0, 0, 0),
  (.getfield 10, 0, 8, 302), (.iload 5, 5, 0, 0), (.iconst 1, 0, 0, 1), (.iadd, 0, 0, 0), (.putfield 153, 5, 5, 182), (.iload 5, 5, 0, 0), (.ireturn, 0, 0, 0)]
/-- StreetCries$Buyer.comeAs(IIII)V -/
def jx_c61 : List (Instr × Nat × Nat × Int) := [(.aload_n 0, 0, 0, 0), (.iload_n 1, 1, 0, 0), (.putfield 7, 0, 0, 125), (.aload_n 0, 0, 0, 0), (.iload_n 2, 2, 0, 0), (.putfield 13, 1, 0, 128), (.aload_n 0, 0, 0, 0), (.iload_n 3, 3, 0, 0),
  (.putfield 16, 2, 0, 131), (.aload_n 0, 0, 0, 0), (.iload 4, 4, 0, 0), (.putfield 19, 3, 0, 134), (.return_, 0, 0, 0)]
/-- StreetCries.fate(II)I -/
def jx_c62 : List (Instr × Nat × Nat × Int) := [(.iload_n 1, 1, 0, 0), (.iconst 0, 0, 0, 0), (.aload_n 0, 0, 0, 0), (.getfield 10, 0, 8, 302), (.getfield 153, 5, 5, 182), (.iconst 1, 0, 0, 1), (.isub, 0, 0, 0), (.invokestatic 55, 12, 0, 334),
  (.ifCond .eq 12, 14, 0, 0), (.iload_n 2, 2, 0, 0), (.iconst 0, 0, 0, 0), (.iconst 2, 0, 0, 2), (.invokestatic 55, 12, 0, 334), (.ifCond .ne 5, 16, 0, 0), (.iconst (-1), 0, 0, -1), (.ireturn, 0, 0, 0),
  (.aload_n 0, 0, 0, 0), (.getfield 29, 3, 8, 305), (.aload_n 0, 0, 0, 0), (.getfield 10, 0, 8, 302), (.invokevirtual 173, 63, 0, 541), (.iload_n 2, 2, 0, 0), (.iconst 2, 0, 0, 2), (.if_icmp .ne 13, 30, 0, 0),
  (.aload_n 0, 0, 0, 0), (.getfield 29, 3, 8, 305), (.getfield 177, 2, 1, 229), (.iload_n 1, 1, 0, 0), (.iaload, 0, 0, 0), (.ireturn, 0, 0, 0), (.iload_n 2, 2, 0, 0), (.ifCond .ne 15, 38, 0, 0),
  (.aload_n 0, 0, 0, 0), (.getfield 29, 3, 8, 305), (.getfield 180, 0, 1, 225), (.iload_n 1, 1, 0, 0), (.iaload, 0, 0, 0), (.goto 12, 43, 0, 0), (.aload_n 0, 0, 0, 0), (.getfield 29, 3, 8, 305),
  (.getfield 183, 1, 1, 227), (.iload_n 1, 1, 0, 0), (.iaload, 0, 0, 0), (.ireturn, 0, 0, 0)]
/-- StreetCries$Day.spend(LStreetCries$Town;)V -/
def jx_c63 : List (Instr × Nat × Nat × Int) := [(.aload_n 0, 0, 0, 0), (.aload_n 1, 1, 0, 0), (.invokevirtual 27, 64, 0, 545), (.aload_n 0, 0, 0, 0), (.aload_n 1, 1, 0, 0), (.invokevirtual 31, 65, 0, 552), (.aload_n 0, 0, 0, 0), (.aload_n 1, 1, 0, 0),
  (.getfield 34, 5, 5, 180), (.putfield 40, 4, 1, 232), (.iconst 0, 0, 0, 0), (.istore_n 2, 2, 0, 0), (.iload_n 2, 2, 0, 0), (.aload_n 0, 0, 0, 0), (.getfield 40, 4, 1, 232), (.if_icmp .ge 21, 26, 0, 0),
  (.aload_n 0, 0, 0, 0), (.aload_n 1, 1, 0, 0), (.aload_n 1, 1, 0, 0), (.getfield 41, 2, 5, 172), (.iload_n 2, 2, 0, 0), (.aaload, 0, 0, 0), (.iload_n 2, 2, 0, 0), (.invokevirtual 45, 66, 0, 558),
  (.iinc 2 1, 2, 0, 1), (.goto (-23), 12, 0, 0), (.return_, 0, 0, 0)]
/-- StreetCries$Day.gatherCries(LStreetCries$Town;)V -/
def jx_c64 : List (Instr × Nat × Nat × Int) := [(.aload_n 0, 0, 0, 0), (.getfield 21, 5, 1, 233), (.iconst 0, 0, 0, 0), (.invokestatic 49, 2, 0, 549), (.aload_n 0, 0, 0, 0), (.iconst 0, 0, 0, 0), (.putfield 55, 3, 1, 230), (.iconst 0, 0, 0, 0),
  (.istore_n 2, 2, 0, 0), (.iload_n 2, 2, 0, 0), (.aload_n 1, 1, 0, 0), (.getfield 58, 4, 5, 177), (.if_icmp .ge 89, 60, 0, 0), (.aload_n 1, 1, 0, 0), (.getfield 61, 1, 5, 169), (.iload_n 2, 2, 0, 0),
  (.aaload, 0, 0, 0), (.astore_n 3, 3, 0, 0), (.iconst 0, 0, 0, 0), (.istore 4, 4, 0, 0), (.iload 4, 4, 0, 0), (.aload_n 3, 3, 0, 0), (.getfield 65, 2, 2, 82), (.if_icmp .ge 64, 58, 0, 0),
  (.aload_n 3, 3, 0, 0), (.getfield 70, 6, 2, 94), (.iload 4, 4, 0, 0), (.aload_n 3, 3, 0, 0), (.getfield 73, 7, 2, 97), (.imul, 0, 0, 0), (.iadd, 0, 0, 0), (.istore 5, 5, 0, 0),
  (.iload 5, 5, 0, 0), (.invokestatic 76, 21, 1, 550), (.ifCond .eq 36, 56, 0, 0), (.aload_n 1, 1, 0, 0), (.iload_n 2, 2, 0, 0), (.iload 5, 5, 0, 0), (.invokevirtual 80, 48, 0, 551), (.ifCond .eq 26, 56, 0, 0),
  (.aload_n 0, 0, 0, 0), (.getfield 21, 5, 1, 233), (.iload 5, 5, 0, 0), (.dup2, 0, 0, 0), (.iaload, 0, 0, 0), (.iconst 1, 0, 0, 1), (.iload_n 2, 2, 0, 0), (.ishl, 0, 0, 0),
  (.ior, 0, 0, 0), (.iastore, 0, 0, 0), (.aload_n 0, 0, 0, 0), (.dup, 0, 0, 0), (.getfield 55, 3, 1, 230), (.iconst 1, 0, 0, 1), (.iadd, 0, 0, 0), (.putfield 55, 3, 1, 230),
  (.iinc 4 1, 4, 0, 1), (.goto (-67), 20, 0, 0), (.iinc 2 1, 2, 0, 1), (.goto (-91), 9, 0, 0), (.return_, 0, 0, 0)]
/-- StreetCries$Day.gatherLuring(LStreetCries$Town;)V -/
def jx_c65 : List (Instr × Nat × Nat × Int) := [(.aload_n 0, 0, 0, 0), (.getfield 24, 6, 1, 234), (.iconst 0, 0, 0, 0), (.invokestatic 49, 2, 0, 549), (.iconst 0, 0, 0, 0), (.istore_n 2, 2, 0, 0), (.iload_n 2, 2, 0, 0), (.aload_n 1, 1, 0, 0),
  (.getfield 58, 4, 5, 177), (.if_icmp .ge 85, 52, 0, 0), (.aload_n 1, 1, 0, 0), (.getfield 61, 1, 5, 169), (.iload_n 2, 2, 0, 0), (.aaload, 0, 0, 0), (.astore_n 3, 3, 0, 0), (.iconst 0, 0, 0, 0),
  (.istore 4, 4, 0, 0), (.iload 4, 4, 0, 0), (.aload_n 1, 1, 0, 0), (.getfield 58, 4, 5, 177), (.if_icmp .ge 60, 50, 0, 0), (.aload_n 3, 3, 0, 0), (.getfield 84, 4, 2, 89), (.invokestatic 87, 14, 1, 556),
  (.ifCond .eq 44, 48, 0, 0), (.aload_n 1, 1, 0, 0), (.getfield 61, 1, 5, 169), (.iload 4, 4, 0, 0), (.aaload, 0, 0, 0), (.aload_n 3, 3, 0, 0), (.getfield 90, 1, 2, 79), (.aload_n 3, 3, 0, 0),
  (.getfield 93, 3, 2, 86), (.invokevirtual 96, 54, 0, 557), (.aload_n 1, 1, 0, 0), (.getfield 100, 7, 5, 186), (.if_icmp .gt 19, 48, 0, 0), (.aload_n 0, 0, 0, 0), (.getfield 24, 6, 1, 234), (.aload_n 3, 3, 0, 0),
  (.getfield 84, 4, 2, 89), (.dup2, 0, 0, 0), (.iaload, 0, 0, 0), (.iconst 1, 0, 0, 1), (.iload 4, 4, 0, 0), (.ishl, 0, 0, 0), (.ior, 0, 0, 0), (.iastore, 0, 0, 0),
  (.iinc 4 1, 4, 0, 1), (.goto (-63), 17, 0, 0), (.iinc 2 1, 2, 0, 1), (.goto (-87), 6, 0, 0), (.return_, 0, 0, 0)]
/-- StreetCries$Day.live(LStreetCries$Town;LStreetCries$Buyer;I)V -/
def jx_c66 : List (Instr × Nat × Nat × Int) := [(.aload_n 0, 0, 0, 0), (.getfield 9, 0, 1, 224), (.iload_n 3, 3, 0, 0), (.bipush (-4), 0, 0, -4), (.iastore, 0, 0, 0), (.aload_n 0, 0, 0, 0), (.getfield 15, 1, 1, 226), (.iload_n 3, 3, 0, 0),
  (.bipush (-4), 0, 0, -4), (.iastore, 0, 0, 0), (.aload_n 0, 0, 0, 0), (.getfield 18, 2, 1, 228), (.iload_n 3, 3, 0, 0), (.iconst 0, 0, 0, 0), (.iastore, 0, 0, 0), (.aload_n 2, 2, 0, 0),
  (.getfield 103, 1, 0, 130), (.invokestatic 87, 14, 1, 556), (.ifCond .eq 15, 25, 0, 0), (.aload_n 0, 0, 0, 0), (.getfield 24, 6, 1, 234), (.aload_n 2, 2, 0, 0), (.getfield 103, 1, 0, 130), (.iaload, 0, 0, 0),
  (.goto 4, 26, 0, 0), (.iconst 0, 0, 0, 0), (.istore 4, 4, 0, 0), (.iconst (-1), 0, 0, -1), (.istore 5, 5, 0, 0), (.iconst 0, 0, 0, 0), (.istore 6, 6, 0, 0), (.iload 6, 6, 0, 0),
  (.bipush 120, 0, 0, 120), (.if_icmp .ge 122, 99, 0, 0), (.iload 5, 5, 0, 0), (.iconst (-1), 0, 0, -1), (.if_icmp .ne 40, 57, 0, 0), (.aload_n 1, 1, 0, 0), (.aload_n 0, 0, 0, 0), (.getfield 21, 5, 1, 233),
  (.iload 6, 6, 0, 0), (.iaload, 0, 0, 0), (.iload 4, 4, 0, 0), (.iand, 0, 0, 0), (.aload_n 2, 2, 0, 0), (.getfield 106, 0, 0, 127), (.iload 6, 6, 0, 0), (.invokestatic 109, 67, 0, 562),
  (.ifCond .eq 87, 97, 0, 0), (.iload 6, 6, 0, 0), (.aload_n 2, 2, 0, 0), (.getfield 113, 2, 0, 133), (.iadd, 0, 0, 0), (.iconst 1, 0, 0, 1), (.iadd, 0, 0, 0), (.istore 5, 5, 0, 0),
  (.goto 73, 97, 0, 0), (.iload 6, 6, 0, 0), (.iload 5, 5, 0, 0), (.if_icmp .lt 66, 97, 0, 0), (.aload_n 1, 1, 0, 0), (.aload_n 2, 2, 0, 0), (.getfield 106, 0, 0, 127), (.aload_n 2, 2, 0, 0),
  (.getfield 103, 1, 0, 130), (.iload 6, 6, 0, 0), (.invokevirtual 116, 68, 0, 566), (.istore 7, 7, 0, 0), (.iload 7, 7, 0, 0), (.ifCond .lt 20, 81, 0, 0), (.aload_n 0, 0, 0, 0), (.getfield 9, 0, 1, 224),
  (.iload_n 3, 3, 0, 0), (.iload 7, 7, 0, 0), (.iastore, 0, 0, 0), (.aload_n 0, 0, 0, 0), (.getfield 15, 1, 1, 226), (.iload_n 3, 3, 0, 0), (.iload 6, 6, 0, 0), (.iastore, 0, 0, 0),
  (.return_, 0, 0, 0), (.iload 6, 6, 0, 0), (.iload 5, 5, 0, 0), (.isub, 0, 0, 0), (.aload_n 2, 2, 0, 0), (.getfield 120, 3, 0, 136), (.if_icmp .lt 16, 97, 0, 0), (.aload_n 0, 0, 0, 0),
  (.getfield 18, 2, 1, 228), (.iload_n 3, 3, 0, 0), (.dup2, 0, 0, 0), (.iaload, 0, 0, 0), (.iconst 1, 0, 0, 1), (.iadd, 0, 0, 0), (.iastore, 0, 0, 0), (.iconst (-1), 0, 0, -1),
  (.istore 5, 5, 0, 0), (.iinc 6 1, 6, 0, 1), (.goto (-123), 31, 0, 0), (.return_, 0, 0, 0)]
/-- StreetCries$Day.hearsOneOf(LStreetCries$Town;III)Z -/
def jx_c67 : List (Instr × Nat × Nat × Int) := [(.iload_n 1, 1, 0, 0), (.ifCond .ne 5, 4, 0, 0), (.iconst 0, 0, 0, 0), (.ireturn, 1, 0, 0), (.iconst 0, 0, 0, 0), (.istore 4, 4, 0, 0), (.iload 4, 4, 0, 0), (.aload_n 0, 0, 0, 0),
  (.getfield 58, 4, 5, 177), (.if_icmp .ge 31, 26, 0, 0), (.iload_n 1, 1, 0, 0), (.iconst 1, 0, 0, 1), (.iload 4, 4, 0, 0), (.ishl, 0, 0, 0), (.iand, 0, 0, 0), (.ifCond .eq 16, 24, 0, 0),
  (.aload_n 0, 0, 0, 0), (.iload 4, 4, 0, 0), (.iload_n 2, 2, 0, 0), (.iload_n 3, 3, 0, 0), (.invokevirtual 123, 52, 0, 565), (.ifCond .eq 5, 24, 0, 0), (.iconst 1, 0, 0, 1), (.ireturn, 1, 0, 0),
  (.iinc 4 1, 4, 0, 1), (.goto (-34), 6, 0, 0), (.iconst 0, 0, 0, 0), (.ireturn, 1, 0, 0)]
/-- StreetCries$Town.sellerAt(III)I -/
def jx_c68 : List (Instr × Nat × Nat × Int) := [(.iconst 0, 0, 0, 0), (.istore 4, 4, 0, 0), (.iload 4, 4, 0, 0), (.aload_n 0, 0, 0, 0), (.getfield 52, 4, 5, 176), (.if_icmp .ge 41, 25, 0, 0), (.aload_n 0, 0, 0, 0), (.getfield 17, 1, 5, 167),
  (.iload 4, 4, 0, 0), (.aaload, 0, 0, 0), (.getfield 117, 4, 2, 90), (.iload_n 2, 2, 0, 0), (.if_icmp .ne 21, 23, 0, 0), (.aload_n 0, 0, 0, 0), (.getfield 17, 1, 5, 167), (.iload 4, 4, 0, 0),
  (.aaload, 0, 0, 0), (.iload_n 3, 3, 0, 0), (.invokevirtual 103, 43, 0, 483), (.iload_n 1, 1, 0, 0), (.if_icmp .ne 6, 23, 0, 0), (.iload 4, 4, 0, 0), (.ireturn, 0, 0, 0), (.iinc 4 1, 4, 0, 1),
  (.goto (-44), 2, 0, 0), (.bipush (-4), 0, 0, -4), (.ireturn, 0, 0, 0)]
/-- StreetCries.brings(I)I -/
def jx_c69 : List (Instr × Nat × Nat × Int) := [(.aload_n 0, 0, 0, 0), (.getfield 10, 0, 8, 302), (.iload_n 1, 1, 0, 0), (.invokevirtual 82, 19, 0, 358), (.ifCond .ne 5, 7, 0, 0), (.iconst (-1), 0, 0, -1), (.ireturn, 0, 0, 0), (.aload_n 0, 0, 0, 0),
  (.getfield 29, 3, 8, 305), (.aload_n 0, 0, 0, 0), (.getfield 10, 0, 8, 302), (.invokevirtual 173, 63, 0, 541), (.aload_n 0, 0, 0, 0), (.getfield 29, 3, 8, 305), (.iload_n 1, 1, 0, 0), (.invokevirtual 186, 70, 0, 574),
  (.ireturn, 0, 0, 0)]
/-- StreetCries$Day.broughtTo(I)I -/
def jx_c70 : List (Instr × Nat × Nat × Int) := [(.iconst 0, 0, 0, 0), (.istore_n 2, 2, 0, 0), (.iconst 0, 0, 0, 0), (.istore_n 3, 3, 0, 0), (.iload_n 3, 3, 0, 0), (.aload_n 0, 0, 0, 0), (.getfield 40, 4, 1, 232), (.if_icmp .ge 22, 17, 0, 0),
  (.aload_n 0, 0, 0, 0), (.getfield 9, 0, 1, 224), (.iload_n 3, 3, 0, 0), (.iaload, 0, 0, 0), (.iload_n 1, 1, 0, 0), (.if_icmp .ne 6, 15, 0, 0), (.iinc 2 1, 2, 0, 1), (.iinc 3 1, 3, 0, 1),
  (.goto (-24), 4, 0, 0), (.iload_n 2, 2, 0, 0), (.ireturn, 0, 0, 0)]
/-- StreetCries.day(I)I -/
def jx_c71 : List (Instr × Nat × Nat × Int) := [(.iload_n 1, 1, 0, 0), (.iconst 0, 0, 0, 0), (.iconst 2, 0, 0, 2), (.invokestatic 55, 12, 0, 334), (.ifCond .ne 5, 7, 0, 0), (.iconst (-1), 0, 0, -1), (.ireturn, 0, 0, 0), (.aload_n 0, 0, 0, 0),
  (.getfield 29, 3, 8, 305), (.aload_n 0, 0, 0, 0), (.getfield 10, 0, 8, 302), (.invokevirtual 173, 63, 0, 541), (.iload_n 1, 1, 0, 0), (.iconst 2, 0, 0, 2), (.if_icmp .ne 11, 19, 0, 0), (.aload_n 0, 0, 0, 0),
  (.getfield 29, 3, 8, 305), (.getfield 189, 3, 1, 231), (.ireturn, 0, 0, 0), (.iload_n 1, 1, 0, 0), (.ifCond .ne 13, 25, 0, 0), (.aload_n 0, 0, 0, 0), (.getfield 29, 3, 8, 305), (.invokevirtual 192, 72, 0, 582),
  (.goto 10, 28, 0, 0), (.aload_n 0, 0, 0, 0), (.getfield 29, 3, 8, 305), (.invokevirtual 196, 73, 0, 586), (.ireturn, 0, 0, 0)]
/-- StreetCries$Day.buyingCount()I -/
def jx_c72 : List (Instr × Nat × Nat × Int) := [(.iconst 0, 0, 0, 0), (.istore_n 1, 1, 0, 0), (.iconst 0, 0, 0, 0), (.istore_n 2, 2, 0, 0), (.iload_n 2, 2, 0, 0), (.aload_n 0, 0, 0, 0), (.getfield 40, 4, 1, 232), (.if_icmp .ge 21, 16, 0, 0),
  (.aload_n 0, 0, 0, 0), (.getfield 9, 0, 1, 224), (.iload_n 2, 2, 0, 0), (.iaload, 0, 0, 0), (.ifCond .lt 6, 14, 0, 0), (.iinc 1 1, 1, 0, 1), (.iinc 2 1, 2, 0, 1), (.goto (-23), 4, 0, 0),
  (.iload_n 1, 1, 0, 0), (.ireturn, 0, 0, 0)]
/-- StreetCries$Day.wastedCount()I -/
def jx_c73 : List (Instr × Nat × Nat × Int) := [(.iconst 0, 0, 0, 0), (.istore_n 1, 1, 0, 0), (.iconst 0, 0, 0, 0), (.istore_n 2, 2, 0, 0), (.iload_n 2, 2, 0, 0), (.aload_n 0, 0, 0, 0), (.getfield 40, 4, 1, 232), (.if_icmp .ge 18, 17, 0, 0),
  (.iload_n 1, 1, 0, 0), (.aload_n 0, 0, 0, 0), (.getfield 18, 2, 1, 228), (.iload_n 2, 2, 0, 0), (.iaload, 0, 0, 0), (.iadd, 0, 0, 0), (.istore_n 1, 1, 0, 0), (.iinc 2 1, 2, 0, 1),
  (.goto (-20), 4, 0, 0), (.iload_n 1, 1, 0, 0), (.ireturn, 0, 0, 0)]
/-- StreetCries.best(II)I -/
def jx_c74 : List (Instr × Nat × Nat × Int) := [(.aload_n 0, 0, 0, 0), (.getfield 10, 0, 8, 302), (.iload_n 1, 1, 0, 0), (.invokevirtual 82, 19, 0, 358), (.ifCond .eq 12, 10, 0, 0), (.iload_n 2, 2, 0, 0), (.iconst 0, 0, 0, 0), (.iconst 2, 0, 0, 2),
  (.invokestatic 55, 12, 0, 334), (.ifCond .ne 5, 12, 0, 0), (.iconst (-1), 0, 0, -1), (.ireturn, 0, 0, 0), (.aload_n 0, 0, 0, 0), (.getfield 22, 2, 8, 304), (.aload_n 0, 0, 0, 0), (.getfield 10, 0, 8, 302),
  (.iload_n 1, 1, 0, 0), (.iload_n 2, 2, 0, 0), (.invokevirtual 199, 75, 0, 594), (.ireturn, 0, 0, 0)]
/-- StreetCries$Trial.bestBeginning(LStreetCries$Town;II)I -/
def jx_c75 : List (Instr × Nat × Nat × Int) := [(.aload_n 0, 0, 0, 0), (.getfield 12, 0, 6, 250), (.aload_n 1, 1, 0, 0), (.invokevirtual 32, 76, 0, 598), (.aload_n 0, 0, 0, 0), (.getfield 12, 0, 6, 250), (.getfield 36, 1, 5, 168), (.iload_n 2, 2, 0, 0),
  (.aaload, 0, 0, 0), (.astore 4, 4, 0, 0), (.iconst 0, 0, 0, 0), (.istore 5, 5, 0, 0), (.iconst 0, 0, 0, 0), (.istore 6, 6, 0, 0), (.iconst (-1), 0, 0, -1), (.istore 7, 7, 0, 0),
  (.iconst 0, 0, 0, 0), (.istore 8, 8, 0, 0), (.iload 8, 8, 0, 0), (.bipush 55, 0, 0, 55), (.if_icmp .gt 76, 54, 0, 0), (.aload 4, 4, 0, 0), (.iload 8, 8, 0, 0), (.putfield 40, 6, 2, 93),
  (.iconst 0, 0, 0, 0), (.istore 9, 9, 0, 0), (.iload 9, 9, 0, 0), (.iconst 1, 0, 0, 1), (.if_icmp .gt 54, 52, 0, 0), (.aload_n 0, 0, 0, 0), (.getfield 21, 1, 6, 251), (.aload_n 0, 0, 0, 0),
  (.getfield 12, 0, 6, 250), (.invokevirtual 46, 63, 0, 616), (.aload_n 0, 0, 0, 0), (.getfield 21, 1, 6, 251), (.iload_n 2, 2, 0, 0), (.invokevirtual 49, 70, 0, 617), (.istore 10, 10, 0, 0), (.iload 10, 10, 0, 0),
  (.iload 7, 7, 0, 0), (.if_icmp .le 15, 48, 0, 0), (.iload 10, 10, 0, 0), (.istore 7, 7, 0, 0), (.iload 8, 8, 0, 0), (.istore 5, 5, 0, 0), (.iload 9, 9, 0, 0), (.istore 6, 6, 0, 0),
  (.aload 4, 4, 0, 0), (.invokevirtual 53, 79, 0, 618), (.iinc 9 1, 9, 0, 1), (.goto (-54), 26, 0, 0), (.iinc 8 5, 8, 0, 5), (.goto (-77), 18, 0, 0), (.iload_n 3, 3, 0, 0), (.iconst 2, 0, 0, 2),
  (.if_icmp .ne 6, 59, 0, 0), (.iload 7, 7, 0, 0), (.ireturn, 0, 0, 0), (.iload_n 3, 3, 0, 0), (.ifCond .ne 8, 63, 0, 0), (.iload 5, 5, 0, 0), (.goto 5, 64, 0, 0), (.iload 6, 6, 0, 0),
  (.ireturn, 0, 0, 0)]
/-- StreetCries$Town.copyFrom(LStreetCries$Town;)V -/
def jx_c76 : List (Instr × Nat × Nat × Int) := [(.aload_n 1, 1, 0, 0), (.getfield 9, 0, 5, 164), (.iconst 0, 0, 0, 0), (.aload_n 0, 0, 0, 0), (.getfield 9, 0, 5, 164), (.iconst 0, 0, 0, 0), (.bipush 25, 0, 0, 25), (.invokestatic 46, 0, 3, 602),
  (.aload_n 0, 0, 0, 0), (.aload_n 1, 1, 0, 0), (.getfield 52, 4, 5, 176), (.putfield 52, 4, 5, 176), (.iconst 0, 0, 0, 0), (.istore_n 2, 2, 0, 0), (.iload_n 2, 2, 0, 0), (.aload_n 0, 0, 0, 0),
  (.getfield 52, 4, 5, 176), (.if_icmp .ge 24, 29, 0, 0), (.aload_n 0, 0, 0, 0), (.getfield 17, 1, 5, 167), (.iload_n 2, 2, 0, 0), (.aaload, 0, 0, 0), (.aload_n 1, 1, 0, 0), (.getfield 17, 1, 5, 167),
  (.iload_n 2, 2, 0, 0), (.aaload, 0, 0, 0), (.invokevirtual 55, 77, 0, 605), (.iinc 2 1, 2, 0, 1), (.goto (-26), 14, 0, 0), (.aload_n 0, 0, 0, 0), (.aload_n 1, 1, 0, 0), (.getfield 59, 5, 5, 181),
  (.putfield 59, 5, 5, 181), (.iconst 0, 0, 0, 0), (.istore_n 2, 2, 0, 0), (.iload_n 2, 2, 0, 0), (.aload_n 0, 0, 0, 0), (.getfield 59, 5, 5, 181), (.if_icmp .ge 41, 59, 0, 0), (.aload_n 1, 1, 0, 0),
  (.getfield 23, 2, 5, 171), (.iload_n 2, 2, 0, 0), (.aaload, 0, 0, 0), (.astore_n 3, 3, 0, 0), (.aload_n 0, 0, 0, 0), (.getfield 23, 2, 5, 171), (.iload_n 2, 2, 0, 0), (.aaload, 0, 0, 0),
  (.aload_n 3, 3, 0, 0), (.getfield 62, 0, 0, 126), (.aload_n 3, 3, 0, 0), (.getfield 65, 1, 0, 129), (.aload_n 3, 3, 0, 0), (.getfield 68, 2, 0, 132), (.aload_n 3, 3, 0, 0), (.getfield 71, 3, 0, 135),
  (.invokevirtual 74, 61, 0, 611), (.iinc 2 1, 2, 0, 1), (.goto (-43), 35, 0, 0), (.aload_n 0, 0, 0, 0), (.aload_n 1, 1, 0, 0), (.getfield 78, 6, 5, 183), (.putfield 78, 6, 5, 183), (.iconst 0, 0, 0, 0),
  (.istore_n 2, 2, 0, 0), (.iload_n 2, 2, 0, 0), (.aload_n 0, 0, 0, 0), (.getfield 78, 6, 5, 183), (.if_icmp .ge 37, 87, 0, 0), (.aload_n 1, 1, 0, 0), (.getfield 29, 3, 5, 174), (.iload_n 2, 2, 0, 0),
  (.aaload, 0, 0, 0), (.astore_n 3, 3, 0, 0), (.aload_n 0, 0, 0, 0), (.getfield 29, 3, 5, 174), (.iload_n 2, 2, 0, 0), (.aaload, 0, 0, 0), (.aload_n 3, 3, 0, 0), (.getfield 81, 0, 7, 152),
  (.aload_n 3, 3, 0, 0), (.getfield 82, 1, 7, 154), (.aload_n 3, 3, 0, 0), (.getfield 85, 2, 7, 156), (.invokevirtual 89, 78, 0, 612), (.iinc 2 1, 2, 0, 1), (.goto (-39), 65, 0, 0), (.aload_n 0, 0, 0, 0),
  (.aload_n 1, 1, 0, 0), (.getfield 33, 7, 5, 185), (.putfield 33, 7, 5, 185), (.aload_n 0, 0, 0, 0), (.aload_n 1, 1, 0, 0), (.getfield 93, 8, 5, 188), (.putfield 93, 8, 5, 188), (.return_, 0, 0, 0)]
/-- StreetCries$Seller.copyFrom(LStreetCries$Seller;)V -/
def jx_c77 : List (Instr × Nat × Nat × Int) := [(.aload_n 0, 0, 0, 0), (.aload_n 1, 1, 0, 0), (.getfield 9, 0, 2, 76), (.aload_n 1, 1, 0, 0), (.getfield 31, 2, 2, 81), (.invokevirtual 44, 38, 0, 609), (.aload_n 0, 0, 0, 0), (.aload_n 1, 1, 0, 0),
  (.getfield 15, 1, 2, 78), (.aload_n 1, 1, 0, 0), (.getfield 34, 3, 2, 85), (.invokevirtual 48, 40, 0, 610), (.aload_n 0, 0, 0, 0), (.aload_n 1, 1, 0, 0), (.getfield 18, 4, 2, 88), (.putfield 18, 4, 2, 88),
  (.aload_n 0, 0, 0, 0), (.aload_n 1, 1, 0, 0), (.getfield 22, 5, 2, 91), (.putfield 22, 5, 2, 91), (.aload_n 0, 0, 0, 0), (.aload_n 1, 1, 0, 0), (.getfield 28, 6, 2, 92), (.putfield 28, 6, 2, 92),
  (.aload_n 0, 0, 0, 0), (.aload_n 1, 1, 0, 0), (.getfield 25, 7, 2, 96), (.putfield 25, 7, 2, 96), (.return_, 0, 0, 0)]
/-- StreetCries$Window.note(IIZ)V -/
def jx_c78 : List (Instr × Nat × Nat × Int) := [(.aload_n 0, 0, 0, 0), (.iload_n 1, 1, 0, 0), (.putfield 7, 0, 7, 151), (.aload_n 0, 0, 0, 0), (.iload_n 2, 2, 0, 0), (.putfield 13, 1, 7, 153), (.aload_n 0, 0, 0, 0), (.iload_n 3, 3, 0, 0),
  (.putfield 16, 2, 7, 155), (.return_, 0, 0, 0)]
/-- StreetCries$Seller.turnRound()V -/
def jx_c79 : List (Instr × Nat × Nat × Int) := [(.iconst 0, 0, 0, 0), (.istore_n 1, 1, 0, 0), (.aload_n 0, 0, 0, 0), (.getfield 31, 2, 2, 81), (.iconst 1, 0, 0, 1), (.isub, 0, 0, 0), (.istore_n 2, 2, 0, 0), (.iload_n 1, 1, 0, 0),
  (.iload_n 2, 2, 0, 0), (.if_icmp .ge 38, 31, 0, 0), (.aload_n 0, 0, 0, 0), (.getfield 9, 0, 2, 76), (.iload_n 1, 1, 0, 0), (.iaload, 0, 0, 0), (.istore_n 3, 3, 0, 0), (.aload_n 0, 0, 0, 0),
  (.getfield 9, 0, 2, 76), (.iload_n 1, 1, 0, 0), (.aload_n 0, 0, 0, 0), (.getfield 9, 0, 2, 76), (.iload_n 2, 2, 0, 0), (.iaload, 0, 0, 0), (.iastore, 0, 0, 0), (.aload_n 0, 0, 0, 0),
  (.getfield 9, 0, 2, 76), (.iload_n 2, 2, 0, 0), (.iload_n 3, 3, 0, 0), (.iastore, 0, 0, 0), (.iinc 1 1, 1, 0, 1), (.iinc 2 (-1), 2, 0, -1), (.goto (-37), 7, 0, 0), (.return_, 0, 0, 0)]
/-- StreetCries.rests(III)I -/
def jx_c80 : List (Instr × Nat × Nat × Int) := [(.aload_n 0, 0, 0, 0), (.getfield 10, 0, 8, 302), (.iload_n 1, 1, 0, 0), (.invokevirtual 82, 19, 0, 358), (.ifCond .eq 28, 18, 0, 0), (.aload_n 0, 0, 0, 0), (.getfield 10, 0, 8, 302), (.iload_n 2, 2, 0, 0),
  (.invokevirtual 82, 19, 0, 358), (.ifCond .eq 17, 18, 0, 0), (.iload_n 1, 1, 0, 0), (.iload_n 2, 2, 0, 0), (.if_icmp .eq 12, 18, 0, 0), (.iload_n 3, 3, 0, 0), (.iconst 0, 0, 0, 0), (.iconst 2, 0, 0, 2),
  (.invokestatic 55, 12, 0, 334), (.ifCond .ne 5, 20, 0, 0), (.iconst (-1), 0, 0, -1), (.ireturn, 0, 0, 0), (.aload_n 0, 0, 0, 0), (.getfield 22, 2, 8, 304), (.aload_n 0, 0, 0, 0), (.getfield 10, 0, 8, 302),
  (.iload_n 1, 1, 0, 0), (.iload_n 2, 2, 0, 0), (.invokevirtual 203, 81, 0, 626), (.aload_n 0, 0, 0, 0), (.getfield 22, 2, 8, 304), (.iload_n 3, 3, 0, 0), (.invokevirtual 207, 82, 0, 630), (.ireturn, 0, 0, 0)]
/-- StreetCries$Trial.tryAllPairs(LStreetCries$Town;II)V -/
def jx_c81 : List (Instr × Nat × Nat × Int) := [(.aload_n 0, 0, 0, 0), (.getfield 12, 0, 6, 250), (.aload_n 1, 1, 0, 0), (.invokevirtual 32, 76, 0, 598), (.iconst 0, 0, 0, 0), (.istore 4, 4, 0, 0), (.iload 4, 4, 0, 0), (.bipush 36, 0, 0, 36),
  (.if_icmp .ge 90, 54, 0, 0), (.aload_n 0, 0, 0, 0), (.getfield 12, 0, 6, 250), (.getfield 36, 1, 5, 168), (.iload_n 2, 2, 0, 0), (.aaload, 0, 0, 0), (.bipush 10, 0, 0, 10), (.iload 4, 4, 0, 0),
  (.bipush 6, 0, 0, 6), (.idiv, 0, 0, 0), (.imul, 0, 0, 0), (.putfield 40, 6, 2, 93), (.aload_n 0, 0, 0, 0), (.getfield 12, 0, 6, 250), (.getfield 36, 1, 5, 168), (.iload_n 3, 3, 0, 0),
  (.aaload, 0, 0, 0), (.bipush 10, 0, 0, 10), (.iload 4, 4, 0, 0), (.bipush 6, 0, 0, 6), (.irem, 0, 0, 0), (.imul, 0, 0, 0), (.putfield 40, 6, 2, 93), (.aload_n 0, 0, 0, 0),
  (.getfield 21, 1, 6, 251), (.aload_n 0, 0, 0, 0), (.getfield 12, 0, 6, 250), (.invokevirtual 46, 63, 0, 616), (.aload_n 0, 0, 0, 0), (.getfield 25, 2, 6, 252), (.iload 4, 4, 0, 0), (.aload_n 0, 0, 0, 0),
  (.getfield 21, 1, 6, 251), (.iload_n 2, 2, 0, 0), (.invokevirtual 49, 70, 0, 617), (.iastore, 0, 0, 0), (.aload_n 0, 0, 0, 0), (.getfield 29, 3, 6, 253), (.iload 4, 4, 0, 0), (.aload_n 0, 0, 0, 0),
  (.getfield 21, 1, 6, 251), (.iload_n 3, 3, 0, 0), (.invokevirtual 49, 70, 0, 617), (.iastore, 0, 0, 0), (.iinc 4 1, 4, 0, 1), (.goto (-91), 6, 0, 0), (.return_, 0, 0, 0)]
/-- StreetCries$Trial.restsTold(I)I -/
def jx_c82 : List (Instr × Nat × Nat × Int) := [(.iconst 0, 0, 0, 0), (.istore_n 2, 2, 0, 0), (.bipush (-4), 0, 0, -4), (.istore_n 3, 3, 0, 0), (.iconst 0, 0, 0, 0), (.istore 4, 4, 0, 0), (.iload 4, 4, 0, 0), (.bipush 36, 0, 0, 36),
  (.if_icmp .ge 28, 20, 0, 0), (.aload_n 0, 0, 0, 0), (.iload 4, 4, 0, 0), (.invokevirtual 56, 83, 0, 634), (.ifCond .eq 13, 18, 0, 0), (.iinc 2 1, 2, 0, 1), (.iload_n 3, 3, 0, 0), (.ifCond .ge 6, 18, 0, 0),
  (.iload 4, 4, 0, 0), (.istore_n 3, 3, 0, 0), (.iinc 4 1, 4, 0, 1), (.goto (-29), 6, 0, 0), (.iload_n 1, 1, 0, 0), (.ifCond .ne 5, 24, 0, 0), (.iload_n 2, 2, 0, 0), (.ireturn, 0, 0, 0),
  (.iload_n 3, 3, 0, 0), (.ifCond .ge 6, 28, 0, 0), (.bipush (-4), 0, 0, -4), (.ireturn, 0, 0, 0), (.bipush 10, 0, 0, 10), (.iload_n 1, 1, 0, 0), (.iconst 1, 0, 0, 1), (.if_icmp .ne 10, 36, 0, 0),
  (.iload_n 3, 3, 0, 0), (.bipush 6, 0, 0, 6), (.idiv, 0, 0, 0), (.goto 7, 39, 0, 0), (.iload_n 3, 3, 0, 0), (.bipush 6, 0, 0, 6), (.irem, 0, 0, 0), (.imul, 0, 0, 0),
  (.ireturn, 0, 0, 0)]
/-- StreetCries$Trial.isRest(I)Z -/
def jx_c83 : List (Instr × Nat × Nat × Int) := [(.iload_n 1, 1, 0, 0), (.bipush 6, 0, 0, 6), (.idiv, 0, 0, 0), (.istore_n 2, 2, 0, 0), (.iload_n 1, 1, 0, 0), (.bipush 6, 0, 0, 6), (.irem, 0, 0, 0), (.istore_n 3, 3, 0, 0),
  (.iconst 0, 0, 0, 0), (.istore 4, 4, 0, 0), (.iload 4, 4, 0, 0), (.bipush 6, 0, 0, 6), (.if_icmp .ge 53, 43, 0, 0), (.aload_n 0, 0, 0, 0), (.getfield 25, 2, 6, 252), (.iload 4, 4, 0, 0),
  (.bipush 6, 0, 0, 6), (.imul, 0, 0, 0), (.iload_n 3, 3, 0, 0), (.iadd, 0, 0, 0), (.iaload, 0, 0, 0), (.aload_n 0, 0, 0, 0), (.getfield 25, 2, 6, 252), (.iload_n 1, 1, 0, 0),
  (.iaload, 0, 0, 0), (.if_icmp .gt 24, 39, 0, 0), (.aload_n 0, 0, 0, 0), (.getfield 29, 3, 6, 253), (.iload_n 2, 2, 0, 0), (.bipush 6, 0, 0, 6), (.imul, 0, 0, 0), (.iload 4, 4, 0, 0),
  (.iadd, 0, 0, 0), (.iaload, 0, 0, 0), (.aload_n 0, 0, 0, 0), (.getfield 29, 3, 6, 253), (.iload_n 1, 1, 0, 0), (.iaload, 0, 0, 0), (.if_icmp .le 5, 41, 0, 0), (.iconst 0, 0, 0, 0),
  (.ireturn, 1, 0, 0), (.iinc 4 1, 4, 0, 1), (.goto (-54), 10, 0, 0), (.iconst 1, 0, 0, 1), (.ireturn, 1, 0, 0)]
/-- StreetCries.fresh(IIII)I -/
def jx_c84 : List (Instr × Nat × Nat × Int) := [(.iload_n 1, 1, 0, 0), (.iconst 1, 0, 0, 1), (.iconst 3, 0, 0, 3), (.invokestatic 55, 12, 0, 334), (.ifCond .eq 32, 20, 0, 0), (.iload_n 2, 2, 0, 0), (.invokestatic 65, 15, 0, 344), (.ifCond .eq 25, 20, 0, 0),
  (.iload_n 3, 3, 0, 0), (.iconst 0, 0, 0, 0), (.bipush 12, 0, 0, 12), (.invokestatic 55, 12, 0, 334), (.ifCond .eq 15, 20, 0, 0), (.iload 4, 4, 0, 0), (.iconst (-1), 0, 0, -1), (.iload_n 1, 1, 0, 0),
  (.iconst 1, 0, 0, 1), (.isub, 0, 0, 0), (.invokestatic 55, 12, 0, 334), (.ifCond .ne 5, 22, 0, 0), (.iconst (-1), 0, 0, -1), (.ireturn, 0, 0, 0), (.iload_n 1, 1, 0, 0), (.invokestatic 210, 85, 0, 642),
  (.istore 5, 5, 0, 0), (.iconst (-1), 0, 0, -1), (.istore 6, 6, 0, 0), (.iconst 0, 0, 0, 0), (.istore 7, 7, 0, 0), (.iconst 0, 0, 0, 0), (.istore 8, 8, 0, 0), (.iload 8, 8, 0, 0),
  (.iload 5, 5, 0, 0), (.if_icmp .ge 59, 62, 0, 0), (.aload_n 0, 0, 0, 0), (.iload 8, 8, 0, 0), (.iload_n 1, 1, 0, 0), (.invokevirtual 213, 86, 0, 645), (.iload_n 2, 2, 0, 0), (.aload_n 0, 0, 0, 0),
  (.getfield 40, 6, 8, 308), (.iload_n 1, 1, 0, 0), (.invokestatic 217, 17, 0, 649), (.iadd, 0, 0, 0), (.iload_n 3, 3, 0, 0), (.if_icmp .ge 6, 47, 0, 0), (.goto 29, 60, 0, 0), (.aload_n 0, 0, 0, 0),
  (.aload_n 0, 0, 0, 0), (.getfield 40, 6, 8, 308), (.iload_n 1, 1, 0, 0), (.invokevirtual 220, 87, 0, 650), (.istore 9, 9, 0, 0), (.iload 9, 9, 0, 0), (.iload 6, 6, 0, 0), (.if_icmp .le 11, 60, 0, 0),
  (.iload 9, 9, 0, 0), (.istore 6, 6, 0, 0), (.iload 8, 8, 0, 0), (.istore 7, 7, 0, 0), (.iinc 8 1, 8, 0, 1), (.goto (-60), 31, 0, 0), (.iload 6, 6, 0, 0), (.ifCond .ge 6, 66, 0, 0),
  (.bipush (-4), 0, 0, -4), (.ireturn, 0, 0, 0), (.aload_n 0, 0, 0, 0), (.iload 7, 7, 0, 0), (.iload_n 1, 1, 0, 0), (.invokevirtual 213, 86, 0, 645), (.iload 4, 4, 0, 0), (.ifCond .ge 8, 74, 0, 0),
  (.iload 6, 6, 0, 0), (.goto 10, 78, 0, 0), (.aload_n 0, 0, 0, 0), (.getfield 40, 6, 8, 308), (.iload 4, 4, 0, 0), (.iaload, 0, 0, 0), (.ireturn, 0, 0, 0)]
/-- StreetCries.rowsOf(I)I -/
def jx_c85 : List (Instr × Nat × Nat × Int) := [(.iconst 1, 0, 0, 1), (.istore_n 1, 1, 0, 0), (.iconst 0, 0, 0, 0), (.istore_n 2, 2, 0, 0), (.iload_n 2, 2, 0, 0), (.iload_n 0, 0, 0, 0), (.if_icmp .ge 14, 13, 0, 0), (.iload_n 1, 1, 0, 0),
  (.bipush 10, 0, 0, 10), (.imul, 0, 0, 0), (.istore_n 1, 1, 0, 0), (.iinc 2 1, 2, 0, 1), (.goto (-13), 4, 0, 0), (.iload_n 1, 1, 0, 0), (.ireturn, 0, 0, 0)]
/-- StreetCries.draftRow(II)V -/
def jx_c86 : List (Instr × Nat × Nat × Int) := [(.iload_n 1, 1, 0, 0), (.istore_n 3, 3, 0, 0), (.iload_n 2, 2, 0, 0), (.iconst 1, 0, 0, 1), (.isub, 0, 0, 0), (.istore 4, 4, 0, 0), (.iload 4, 4, 0, 0), (.ifCond .lt 25, 21, 0, 0),
  (.aload_n 0, 0, 0, 0), (.getfield 40, 6, 8, 308), (.iload 4, 4, 0, 0), (.iload_n 3, 3, 0, 0), (.bipush 10, 0, 0, 10), (.irem, 0, 0, 0), (.iastore, 0, 0, 0), (.iload_n 3, 3, 0, 0),
  (.bipush 10, 0, 0, 10), (.idiv, 0, 0, 0), (.istore_n 3, 3, 0, 0), (.iinc 4 (-1), 4, 0, -1), (.goto (-24), 6, 0, 0), (.return_, 0, 0, 0)]
/-- StreetCries.distanceToNearest([II)I -/
def jx_c87 : List (Instr × Nat × Nat × Int) := [(.aload_n 0, 0, 0, 0), (.aload_n 1, 1, 0, 0), (.iload_n 2, 2, 0, 0), (.invokevirtual 276, 88, 0, 654), (.istore_n 3, 3, 0, 0), (.iload_n 3, 3, 0, 0), (.ifCond .ge 7, 9, 0, 0), (.iconst 0, 0, 0, 0),
  (.goto 17, 17, 0, 0), (.aload_n 0, 0, 0, 0), (.getfield 10, 0, 8, 302), (.getfield 72, 1, 5, 170), (.iload_n 3, 3, 0, 0), (.aaload, 0, 0, 0), (.aload_n 1, 1, 0, 0), (.iload_n 2, 2, 0, 0),
  (.invokevirtual 143, 54, 0, 503), (.ireturn, 0, 0, 0)]
/-- StreetCries.nearestSeller([II)I -/
def jx_c88 : List (Instr × Nat × Nat × Int) := [(.bipush (-4), 0, 0, -4), (.istore_n 3, 3, 0, 0), (.iconst 0, 0, 0, 0), (.istore 4, 4, 0, 0), (.iconst 0, 0, 0, 0), (.istore 5, 5, 0, 0), (.iload 5, 5, 0, 0), (.aload_n 0, 0, 0, 0),
  (.getfield 10, 0, 8, 302), (.getfield 68, 4, 5, 178), (.if_icmp .ge 44, 31, 0, 0), (.aload_n 0, 0, 0, 0), (.getfield 10, 0, 8, 302), (.getfield 72, 1, 5, 170), (.iload 5, 5, 0, 0), (.aaload, 0, 0, 0),
  (.aload_n 1, 1, 0, 0), (.iload_n 2, 2, 0, 0), (.invokevirtual 143, 54, 0, 503), (.istore 6, 6, 0, 0), (.iload_n 3, 3, 0, 0), (.ifCond .lt 10, 25, 0, 0), (.iload 6, 6, 0, 0), (.iload 4, 4, 0, 0),
  (.if_icmp .ge 10, 29, 0, 0), (.iload 5, 5, 0, 0), (.istore_n 3, 3, 0, 0), (.iload 6, 6, 0, 0), (.istore 4, 4, 0, 0), (.iinc 5 1, 5, 0, 1), (.goto (-50), 6, 0, 0), (.iload_n 3, 3, 0, 0),
  (.ireturn, 0, 0, 0)]
/-- StreetCries.loudness(I)I -/
def jx_c89 : List (Instr × Nat × Nat × Int) := [(.iload_n 1, 1, 0, 0), (.invokestatic 51, 11, 0, 331), (.ifCond .eq 14, 8, 0, 0), (.aload_n 0, 0, 0, 0), (.getfield 10, 0, 8, 302), (.iload_n 1, 1, 0, 0), (.invokevirtual 223, 90, 0, 662), (.goto 4, 9, 0, 0),
  (.iconst (-1), 0, 0, -1), (.ireturn, 0, 0, 0)]
/-- StreetCries$Town.loudnessAt(I)I -/
def jx_c90 : List (Instr × Nat × Nat × Int) := [(.iconst 0, 0, 0, 0), (.istore_n 2, 2, 0, 0), (.iconst 0, 0, 0, 0), (.istore_n 3, 3, 0, 0), (.iload_n 3, 3, 0, 0), (.aload_n 0, 0, 0, 0), (.getfield 52, 4, 5, 176), (.if_icmp .ge 18, 17, 0, 0),
  (.iload_n 2, 2, 0, 0), (.aload_n 0, 0, 0, 0), (.iload_n 3, 3, 0, 0), (.iload_n 1, 1, 0, 0), (.invokevirtual 143, 91, 0, 666), (.iadd, 0, 0, 0), (.istore_n 2, 2, 0, 0), (.iinc 3 1, 3, 0, 1),
  (.goto (-20), 4, 0, 0), (.iload_n 2, 2, 0, 0), (.ireturn, 0, 0, 0)]
/-- StreetCries$Town.timesHeard(II)I -/
def jx_c91 : List (Instr × Nat × Nat × Int) := [(.iconst 0, 0, 0, 0), (.istore_n 3, 3, 0, 0), (.iconst 0, 0, 0, 0), (.istore 4, 4, 0, 0), (.iload 4, 4, 0, 0), (.aload_n 0, 0, 0, 0), (.getfield 17, 1, 5, 167), (.iload_n 1, 1, 0, 0),
  (.aaload, 0, 0, 0), (.getfield 132, 2, 2, 83), (.if_icmp .ge 43, 32, 0, 0), (.aload_n 0, 0, 0, 0), (.iload_n 1, 1, 0, 0), (.iload_n 2, 2, 0, 0), (.aload_n 0, 0, 0, 0), (.getfield 17, 1, 5, 167),
  (.iload_n 1, 1, 0, 0), (.aaload, 0, 0, 0), (.getfield 135, 6, 2, 95), (.iload 4, 4, 0, 0), (.aload_n 0, 0, 0, 0), (.getfield 17, 1, 5, 167), (.iload_n 1, 1, 0, 0), (.aaload, 0, 0, 0),
  (.getfield 138, 7, 2, 98), (.imul, 0, 0, 0), (.iadd, 0, 0, 0), (.invokevirtual 141, 47, 0, 670), (.ifCond .eq 6, 30, 0, 0), (.iinc 3 1, 3, 0, 1), (.iinc 4 1, 4, 0, 1), (.goto (-51), 4, 0, 0),
  (.iload_n 3, 3, 0, 0), (.ireturn, 0, 0, 0)]
/-- StreetCries.quiet(II)I -/
def jx_c92 : List (Instr × Nat × Nat × Int) := [(.iload_n 1, 1, 0, 0), (.invokestatic 51, 11, 0, 331), (.ifCond .eq 14, 8, 0, 0), (.iload_n 2, 2, 0, 0), (.iconst 0, 0, 0, 0), (.sipush 999, 0, 0, 999), (.invokestatic 55, 12, 0, 334), (.ifCond .ne 5, 10, 0, 0),
  (.iconst (-1), 0, 0, -1), (.ireturn, 0, 0, 0), (.aload_n 0, 0, 0, 0), (.getfield 22, 2, 8, 304), (.aload_n 0, 0, 0, 0), (.getfield 10, 0, 8, 302), (.iload_n 1, 1, 0, 0), (.iload_n 2, 2, 0, 0),
  (.invokevirtual 226, 93, 0, 675), (.ireturn, 0, 0, 0)]
/-- StreetCries$Trial.fewestBylaws(LStreetCries$Town;II)I -/
def jx_c93 : List (Instr × Nat × Nat × Int) := [(.aload_n 0, 0, 0, 0), (.getfield 12, 0, 6, 250), (.aload_n 1, 1, 0, 0), (.invokevirtual 32, 76, 0, 598), (.iconst 0, 0, 0, 0), (.istore 4, 4, 0, 0), (.iload 4, 4, 0, 0), (.iconst 4, 0, 0, 4),
  (.if_icmp .gt 59, 34, 0, 0), (.iconst 0, 0, 0, 0), (.istore 5, 5, 0, 0), (.iload 5, 5, 0, 0), (.bipush 16, 0, 0, 16), (.if_icmp .ge 43, 32, 0, 0), (.iload 5, 5, 0, 0), (.invokestatic 60, 59, 0, 679),
  (.iload 4, 4, 0, 0), (.if_icmp .ne 27, 30, 0, 0), (.aload_n 0, 0, 0, 0), (.getfield 12, 0, 6, 250), (.iload 5, 5, 0, 0), (.putfield 65, 8, 5, 189), (.aload_n 0, 0, 0, 0), (.getfield 12, 0, 6, 250),
  (.iload_n 2, 2, 0, 0), (.invokevirtual 68, 90, 0, 680), (.iload_n 3, 3, 0, 0), (.if_icmp .gt 6, 30, 0, 0), (.iload 5, 5, 0, 0), (.ireturn, 0, 0, 0), (.iinc 5 1, 5, 0, 1), (.goto (-44), 11, 0, 0),
  (.iinc 4 1, 4, 0, 1), (.goto (-59), 6, 0, 0), (.bipush (-4), 0, 0, -4), (.ireturn, 0, 0, 0)]
/-- StreetCries.costs(II)I -/
def jx_c94 : List (Instr × Nat × Nat × Int) := [(.iload_n 1, 1, 0, 0), (.invokestatic 150, 57, 0, 516), (.ifCond .eq 14, 8, 0, 0), (.aload_n 0, 0, 0, 0), (.getfield 10, 0, 8, 302), (.iload_n 2, 2, 0, 0), (.invokevirtual 82, 19, 0, 358), (.ifCond .ne 6, 10, 0, 0),
  (.ldc 229, 0, 685, -100001), (.ireturn, 0, 0, 0), (.aload_n 0, 0, 0, 0), (.getfield 22, 2, 8, 304), (.aload_n 0, 0, 0, 0), (.getfield 10, 0, 8, 302), (.iload_n 1, 1, 0, 0), (.iload_n 2, 2, 0, 0),
  (.invokevirtual 230, 95, 0, 686), (.ireturn, 0, 0, 0)]
/-- StreetCries$Trial.costOf(LStreetCries$Town;II)I -/
def jx_c95 : List (Instr × Nat × Nat × Int) := [(.aload_n 0, 0, 0, 0), (.getfield 12, 0, 6, 250), (.aload_n 1, 1, 0, 0), (.invokevirtual 32, 76, 0, 598), (.aload_n 0, 0, 0, 0), (.getfield 21, 1, 6, 251), (.aload_n 0, 0, 0, 0), (.getfield 12, 0, 6, 250),
  (.invokevirtual 46, 63, 0, 616), (.aload_n 0, 0, 0, 0), (.getfield 21, 1, 6, 251), (.iload_n 3, 3, 0, 0), (.invokevirtual 49, 70, 0, 617), (.istore 4, 4, 0, 0), (.aload_n 0, 0, 0, 0), (.getfield 12, 0, 6, 250),
  (.dup, 0, 0, 0), (.getfield 65, 8, 5, 189), (.iconst 1, 0, 0, 1), (.iload_n 2, 2, 0, 0), (.ishl, 0, 0, 0), (.ior, 0, 0, 0), (.putfield 65, 8, 5, 189), (.aload_n 0, 0, 0, 0),
  (.getfield 21, 1, 6, 251), (.aload_n 0, 0, 0, 0), (.getfield 12, 0, 6, 250), (.invokevirtual 46, 63, 0, 616), (.iload 4, 4, 0, 0), (.aload_n 0, 0, 0, 0), (.getfield 21, 1, 6, 251), (.iload_n 3, 3, 0, 0),
  (.invokevirtual 49, 70, 0, 617), (.isub, 0, 0, 0), (.ireturn, 0, 0, 0)]
/-- StreetCries.window(IIZ)I -/
def jx_c96 : List (Instr × Nat × Nat × Int) := [(.iload_n 1, 1, 0, 0), (.invokestatic 51, 11, 0, 331), (.ifCond .eq 10, 6, 0, 0), (.iload_n 2, 2, 0, 0), (.invokestatic 127, 21, 0, 453), (.ifCond .ne 5, 8, 0, 0), (.iconst (-1), 0, 0, -1), (.ireturn, 0, 0, 0),
  (.aload_n 0, 0, 0, 0), (.getfield 10, 0, 8, 302), (.getfield 156, 6, 5, 184), (.bipush 12, 0, 0, 12), (.if_icmp .lt 6, 15, 0, 0), (.bipush (-3), 0, 0, -3), (.ireturn, 0, 0, 0), (.aload_n 0, 0, 0, 0),
  (.getfield 10, 0, 8, 302), (.getfield 233, 3, 5, 175), (.aload_n 0, 0, 0, 0), (.getfield 10, 0, 8, 302), (.getfield 156, 6, 5, 184), (.aaload, 0, 0, 0), (.iload_n 1, 1, 0, 0), (.iload_n 2, 2, 0, 0),
  (.iload_n 3, 3, 0, 0), (.invokevirtual 237, 78, 0, 694), (.aload_n 0, 0, 0, 0), (.getfield 10, 0, 8, 302), (.dup, 0, 0, 0), (.getfield 156, 6, 5, 184), (.iconst 1, 0, 0, 1), (.iadd, 0, 0, 0),
  (.putfield 156, 6, 5, 184), (.aload_n 0, 0, 0, 0), (.getfield 10, 0, 8, 302), (.getfield 156, 6, 5, 184), (.ireturn, 0, 0, 0)]
/-- StreetCries.went(II)I -/
def jx_c97 : List (Instr × Nat × Nat × Int) := [(.aload_n 0, 0, 0, 0), (.getfield 10, 0, 8, 302), (.iload_n 1, 1, 0, 0), (.invokevirtual 82, 19, 0, 358), (.ifCond .eq 12, 10, 0, 0), (.iload_n 2, 2, 0, 0), (.iconst 0, 0, 0, 0), (.iconst 2, 0, 0, 2),
  (.invokestatic 55, 12, 0, 334), (.ifCond .ne 5, 12, 0, 0), (.iconst (-1), 0, 0, -1), (.ireturn, 0, 0, 0), (.aload_n 0, 0, 0, 0), (.getfield 22, 2, 8, 304), (.aload_n 0, 0, 0, 0), (.getfield 10, 0, 8, 302),
  (.iload_n 1, 1, 0, 0), (.iload_n 2, 2, 0, 0), (.invokevirtual 243, 98, 0, 699), (.ireturn, 0, 0, 0)]
/-- StreetCries$Trial.agreeingBeginnings(LStreetCries$Town;II)I -/
def jx_c98 : List (Instr × Nat × Nat × Int) := [(.aload_n 0, 0, 0, 0), (.getfield 12, 0, 6, 250), (.aload_n 1, 1, 0, 0), (.invokevirtual 32, 76, 0, 598), (.aload_n 0, 0, 0, 0), (.getfield 12, 0, 6, 250), (.getfield 36, 1, 5, 168), (.iconst 0, 0, 0, 0),
  (.aaload, 0, 0, 0), (.aload_n 1, 1, 0, 0), (.getfield 36, 1, 5, 168), (.iload_n 2, 2, 0, 0), (.aaload, 0, 0, 0), (.invokevirtual 71, 77, 0, 703), (.aload_n 0, 0, 0, 0), (.getfield 12, 0, 6, 250),
  (.iconst 1, 0, 0, 1), (.putfield 74, 4, 5, 179), (.iconst 0, 0, 0, 0), (.istore 4, 4, 0, 0), (.bipush (-4), 0, 0, -4), (.istore 5, 5, 0, 0), (.bipush (-4), 0, 0, -4), (.istore 6, 6, 0, 0),
  (.iconst 0, 0, 0, 0), (.istore 7, 7, 0, 0), (.iload 7, 7, 0, 0), (.bipush 120, 0, 0, 120), (.if_icmp .ge 55, 52, 0, 0), (.aload_n 0, 0, 0, 0), (.getfield 12, 0, 6, 250), (.getfield 36, 1, 5, 168),
  (.iconst 0, 0, 0, 0), (.aaload, 0, 0, 0), (.iload 7, 7, 0, 0), (.putfield 40, 6, 2, 93), (.aload_n 0, 0, 0, 0), (.getfield 12, 0, 6, 250), (.iconst 0, 0, 0, 0), (.invokevirtual 77, 99, 0, 704),
  (.ifCond .eq 24, 50, 0, 0), (.iinc 4 1, 4, 0, 1), (.iload 5, 5, 0, 0), (.ifCond .ge 8, 46, 0, 0), (.iload 7, 7, 0, 0), (.goto 5, 47, 0, 0), (.iload 5, 5, 0, 0), (.istore 5, 5, 0, 0),
  (.iload 7, 7, 0, 0), (.istore 6, 6, 0, 0), (.iinc 7 1, 7, 0, 1), (.goto (-56), 26, 0, 0), (.iload_n 3, 3, 0, 0), (.ifCond .ne 6, 56, 0, 0), (.iload 4, 4, 0, 0), (.ireturn, 0, 0, 0),
  (.iload_n 3, 3, 0, 0), (.iconst 1, 0, 0, 1), (.if_icmp .ne 8, 61, 0, 0), (.iload 5, 5, 0, 0), (.goto 5, 62, 0, 0), (.iload 6, 6, 0, 0), (.ireturn, 0, 0, 0)]
/-- StreetCries$Town.agreesWithWindows(I)Z -/
def jx_c99 : List (Instr × Nat × Nat × Int) := [(.iconst 0, 0, 0, 0), (.istore_n 2, 2, 0, 0), (.iload_n 2, 2, 0, 0), (.aload_n 0, 0, 0, 0), (.getfield 78, 6, 5, 183), (.if_icmp .ge 38, 25, 0, 0), (.aload_n 0, 0, 0, 0), (.getfield 29, 3, 5, 174),
  (.iload_n 2, 2, 0, 0), (.aaload, 0, 0, 0), (.astore_n 3, 3, 0, 0), (.aload_n 0, 0, 0, 0), (.iload_n 1, 1, 0, 0), (.aload_n 3, 3, 0, 0), (.getfield 81, 0, 7, 152), (.aload_n 3, 3, 0, 0),
  (.getfield 82, 1, 7, 154), (.invokevirtual 141, 47, 0, 670), (.aload_n 3, 3, 0, 0), (.getfield 85, 2, 7, 156), (.if_icmp .eq 5, 23, 0, 0), (.iconst 0, 0, 0, 0), (.ireturn, 1, 0, 0), (.iinc 2 1, 2, 0, 1),
  (.goto (-40), 2, 0, 0), (.iconst 1, 0, 0, 1), (.ireturn, 1, 0, 0)]
/-- StreetCries.shut()I -/
def jx_c100 : List (Instr × Nat × Nat × Int) := [(.aload_n 0, 0, 0, 0), (.getfield 10, 0, 8, 302), (.getfield 156, 6, 5, 184), (.istore_n 1, 1, 0, 0), (.aload_n 0, 0, 0, 0), (.getfield 10, 0, 8, 302), (.iconst 0, 0, 0, 0), (.putfield 156, 6, 5, 184),
  (.iload_n 1, 1, 0, 0), (.ireturn, 0, 0, 0)]
/-- StreetCries.dies(II)I -/
def jx_c101 : List (Instr × Nat × Nat × Int) := [(.aload_n 0, 0, 0, 0), (.getfield 10, 0, 8, 302), (.iload_n 1, 1, 0, 0), (.invokevirtual 82, 19, 0, 358), (.ifCond .eq 10, 8, 0, 0), (.iload_n 2, 2, 0, 0), (.invokestatic 51, 11, 0, 331), (.ifCond .ne 5, 10, 0, 0),
  (.iconst (-1), 0, 0, -1), (.ireturn, 0, 0, 0), (.aload_n 0, 0, 0, 0), (.getfield 22, 2, 8, 304), (.aload_n 0, 0, 0, 0), (.getfield 10, 0, 8, 302), (.iload_n 1, 1, 0, 0), (.iload_n 2, 2, 0, 0),
  (.invokevirtual 246, 102, 0, 716), (.ireturn, 0, 0, 0)]
/-- StreetCries$Trial.deadlyNoise(LStreetCries$Town;II)I -/
def jx_c102 : List (Instr × Nat × Nat × Int) := [(.aload_n 0, 0, 0, 0), (.getfield 12, 0, 6, 250), (.aload_n 1, 1, 0, 0), (.invokevirtual 32, 76, 0, 598), (.iconst 0, 0, 0, 0), (.istore 4, 4, 0, 0), (.iload 4, 4, 0, 0), (.bipush 9, 0, 0, 9),
  (.if_icmp .gt 35, 25, 0, 0), (.aload_n 0, 0, 0, 0), (.getfield 12, 0, 6, 250), (.getfield 80, 0, 5, 166), (.iload_n 3, 3, 0, 0), (.iload 4, 4, 0, 0), (.iastore, 0, 0, 0), (.aload_n 0, 0, 0, 0),
  (.getfield 12, 0, 6, 250), (.iload_n 2, 2, 0, 0), (.iload_n 3, 3, 0, 0), (.invokevirtual 83, 91, 0, 720), (.ifCond .ne 6, 23, 0, 0), (.iload 4, 4, 0, 0), (.ireturn, 0, 0, 0), (.iinc 4 1, 4, 0, 1),
  (.goto (-36), 6, 0, 0), (.bipush (-4), 0, 0, -4), (.ireturn, 0, 0, 0)]
/-- StreetCries.clock(II)I -/
def jx_c103 : List (Instr × Nat × Nat × Int) := [(.aload_n 0, 0, 0, 0), (.getfield 10, 0, 8, 302), (.iload_n 1, 1, 0, 0), (.invokevirtual 82, 19, 0, 358), (.ifCond .eq 10, 8, 0, 0), (.iload_n 2, 2, 0, 0), (.invokestatic 51, 11, 0, 331), (.ifCond .ne 5, 10, 0, 0),
  (.iconst (-1), 0, 0, -1), (.ireturn, 0, 0, 0), (.aload_n 0, 0, 0, 0), (.getfield 10, 0, 8, 302), (.iload_n 1, 1, 0, 0), (.iload_n 2, 2, 0, 0), (.invokevirtual 249, 91, 0, 725), (.ireturn, 0, 0, 0)]
/-- StreetCries.image()I -/
def jx_c104 : List (Instr × Nat × Nat × Int) := [(.aload_n 0, 0, 0, 0), (.getfield 16, 1, 8, 303), (.aload_n 0, 0, 0, 0), (.getfield 10, 0, 8, 302), (.invokevirtual 252, 76, 0, 730), (.aload_n 0, 0, 0, 0), (.iconst 1, 0, 0, 1), (.putfield 255, 7, 8, 309),
  (.iconst 1, 0, 0, 1), (.ireturn, 0, 0, 0)]
/-- StreetCries.restore()I -/
def jx_c105 : List (Instr × Nat × Nat × Int) := [(.aload_n 0, 0, 0, 0), (.getfield 255, 7, 8, 309), (.ifCond .ne 6, 5, 0, 0), (.bipush (-4), 0, 0, -4), (.ireturn, 0, 0, 0), (.aload_n 0, 0, 0, 0), (.getfield 10, 0, 8, 302), (.aload_n 0, 0, 0, 0),
  (.getfield 16, 1, 8, 303), (.invokevirtual 252, 76, 0, 730), (.iconst 1, 0, 0, 1), (.ireturn, 0, 0, 0)]
/-- StreetCries.hands(IIIIII)I -/
def jx_c106 : List (Instr × Nat × Nat × Int) := [(.iload_n 1, 1, 0, 0), (.invokestatic 259, 107, 0, 739), (.ifCond .eq 45, 23, 0, 0), (.iload_n 2, 2, 0, 0), (.invokestatic 262, 108, 0, 742), (.ifCond .eq 38, 23, 0, 0), (.iload 4, 4, 0, 0), (.iconst 1, 0, 0, 1),
  (.bipush 6, 0, 0, 6), (.invokestatic 55, 12, 0, 334), (.ifCond .eq 27, 23, 0, 0), (.iload 5, 5, 0, 0), (.iconst 1, 0, 0, 1), (.bipush 6, 0, 0, 6), (.invokestatic 55, 12, 0, 334), (.ifCond .eq 16, 23, 0, 0),
  (.iload 6, 6, 0, 0), (.iconst (-1), 0, 0, -1), (.iload 5, 5, 0, 0), (.iconst 1, 0, 0, 1), (.isub, 0, 0, 0), (.invokestatic 55, 12, 0, 334), (.ifCond .ne 5, 25, 0, 0), (.iconst (-1), 0, 0, -1),
  (.ireturn, 0, 0, 0), (.aload_n 0, 0, 0, 0), (.getfield 46, 5, 8, 307), (.iload_n 1, 1, 0, 0), (.aaload, 0, 0, 0), (.astore 7, 7, 0, 0), (.aload 7, 7, 0, 0), (.iload_n 2, 2, 0, 0),
  (.iload_n 3, 3, 0, 0), (.iload 4, 4, 0, 0), (.iload 5, 5, 0, 0), (.imul, 0, 0, 0), (.invokevirtual 265, 109, 0, 745), (.istore 8, 8, 0, 0), (.iload 8, 8, 0, 0), (.ifCond .eq 6, 42, 0, 0),
  (.iload 8, 8, 0, 0), (.ireturn, 0, 0, 0), (.aload 7, 7, 0, 0), (.iload_n 3, 3, 0, 0), (.iload 4, 4, 0, 0), (.iload 5, 5, 0, 0), (.iconst 0, 0, 0, 0), (.invokevirtual 269, 111, 0, 753),
  (.ifCond .ne 6, 51, 0, 0), (.bipush (-2), 0, 0, -2), (.ireturn, 0, 0, 0), (.iconst 0, 0, 0, 0), (.istore 9, 9, 0, 0), (.iload 9, 9, 0, 0), (.iload 5, 5, 0, 0), (.if_icmp .ge 29, 69, 0, 0),
  (.aload_n 0, 0, 0, 0), (.getfield 40, 6, 8, 308), (.iload 9, 9, 0, 0), (.aload 7, 7, 0, 0), (.iload_n 3, 3, 0, 0), (.iload 9, 9, 0, 0), (.iadd, 0, 0, 0), (.iload 4, 4, 0, 0),
  (.iload 5, 5, 0, 0), (.invokevirtual 273, 112, 0, 758), (.iastore, 0, 0, 0), (.iinc 9 1, 9, 0, 1), (.goto (-30), 53, 0, 0), (.iload 6, 6, 0, 0), (.ifCond .ge 16, 77, 0, 0), (.aload_n 0, 0, 0, 0),
  (.aload_n 0, 0, 0, 0), (.getfield 40, 6, 8, 308), (.iload 5, 5, 0, 0), (.invokevirtual 276, 88, 0, 654), (.goto 10, 81, 0, 0), (.aload_n 0, 0, 0, 0), (.getfield 40, 6, 8, 308), (.iload 6, 6, 0, 0),
  (.iaload, 0, 0, 0), (.ireturn, 0, 0, 0)]
/-- StreetCries.isSheet(I)Z -/
def jx_c107 : List (Instr × Nat × Nat × Int) := [(.iload_n 0, 0, 0, 0), (.ifCond .lt 12, 7, 0, 0), (.iload_n 0, 0, 0, 0), (.iconst 4, 0, 0, 4), (.if_icmp .ge 7, 7, 0, 0), (.iconst 1, 0, 0, 1), (.goto 4, 8, 0, 0), (.iconst 0, 0, 0, 0),
  (.ireturn, 1, 0, 0)]
/-- StreetCries.isLane(I)Z -/
def jx_c108 : List (Instr × Nat × Nat × Int) := [(.iload_n 0, 0, 0, 0), (.ifCond .lt 12, 7, 0, 0), (.iload_n 0, 0, 0, 0), (.iconst 3, 0, 0, 3), (.if_icmp .ge 7, 7, 0, 0), (.iconst 1, 0, 0, 1), (.goto 4, 8, 0, 0), (.iconst 0, 0, 0, 0),
  (.ireturn, 1, 0, 0)]
/-- StreetCries$Sheet.refusal(III)I -/
def jx_c109 : List (Instr × Nat × Nat × Int) := [(.aload_n 0, 0, 0, 0), (.getfield 21, 1, 3, 287), (.ifCond .ne 6, 5, 0, 0), (.bipush (-11), 0, 0, -11), (.ireturn, 0, 0, 0), (.aload_n 0, 0, 0, 0), (.getfield 25, 2, 3, 289), (.iload_n 1, 1, 0, 0),
  (.if_icmp .eq 6, 11, 0, 0), (.bipush (-12), 0, 0, -12), (.ireturn, 0, 0, 0), (.aload_n 0, 0, 0, 0), (.iload_n 2, 2, 0, 0), (.iload_n 3, 3, 0, 0), (.invokevirtual 32, 110, 0, 749), (.ifCond .eq 7, 18, 0, 0),
  (.iconst 0, 0, 0, 0), (.goto 5, 19, 0, 0), (.bipush (-13), 0, 0, -13), (.ireturn, 0, 0, 0)]
/-- StreetCries$Sheet.hasItems(II)Z -/
def jx_c110 : List (Instr × Nat × Nat × Int) := [(.iload_n 1, 1, 0, 0), (.ifCond .lt 29, 16, 0, 0), (.iload_n 2, 2, 0, 0), (.ifCond .lt 25, 16, 0, 0), (.iload_n 1, 1, 0, 0), (.aload_n 0, 0, 0, 0), (.getfield 29, 3, 3, 291), (.if_icmp .gt 17, 16, 0, 0),
  (.iload_n 2, 2, 0, 0), (.aload_n 0, 0, 0, 0), (.getfield 29, 3, 3, 291), (.iload_n 1, 1, 0, 0), (.isub, 0, 0, 0), (.if_icmp .gt 7, 16, 0, 0), (.iconst 1, 0, 0, 1), (.goto 4, 17, 0, 0),
  (.iconst 0, 0, 0, 0), (.ireturn, 1, 0, 0)]
/-- StreetCries$Sheet.holdsNotes(IIII)Z -/
def jx_c111 : List (Instr × Nat × Nat × Int) := [(.iconst 0, 0, 0, 0), (.istore 5, 5, 0, 0), (.iload 5, 5, 0, 0), (.iload_n 2, 2, 0, 0), (.if_icmp .ge 59, 36, 0, 0), (.iload_n 1, 1, 0, 0), (.iload 5, 5, 0, 0), (.iload 4, 4, 0, 0),
  (.iload_n 3, 3, 0, 0), (.iadd, 0, 0, 0), (.imul, 0, 0, 0), (.iadd, 0, 0, 0), (.iload 4, 4, 0, 0), (.iadd, 0, 0, 0), (.istore 6, 6, 0, 0), (.iconst 0, 0, 0, 0),
  (.istore 7, 7, 0, 0), (.iload 7, 7, 0, 0), (.iload_n 3, 3, 0, 0), (.if_icmp .ge 30, 34, 0, 0), (.aload_n 0, 0, 0, 0), (.getfield 9, 0, 3, 285), (.iload 6, 6, 0, 0), (.iload 7, 7, 0, 0),
  (.iadd, 0, 0, 0), (.iaload, 0, 0, 0), (.iconst 0, 0, 0, 0), (.bipush 9, 0, 0, 9), (.invokestatic 36, 12, 1, 757), (.ifCond .ne 5, 32, 0, 0), (.iconst 0, 0, 0, 0), (.ireturn, 1, 0, 0),
  (.iinc 7 1, 7, 0, 1), (.goto (-30), 17, 0, 0), (.iinc 5 1, 5, 0, 1), (.goto (-59), 2, 0, 0), (.iconst 1, 0, 0, 1), (.ireturn, 1, 0, 0)]
/-- StreetCries$Sheet.mostCommon(III)I -/
def jx_c112 : List (Instr × Nat × Nat × Int) := [(.iconst 0, 0, 0, 0), (.istore 4, 4, 0, 0), (.iconst 0, 0, 0, 0), (.istore 5, 5, 0, 0), (.iconst 0, 0, 0, 0), (.istore 6, 6, 0, 0), (.iload 6, 6, 0, 0), (.bipush 9, 0, 0, 9),
  (.if_icmp .gt 61, 38, 0, 0), (.iconst 0, 0, 0, 0), (.istore 7, 7, 0, 0), (.iconst 0, 0, 0, 0), (.istore 8, 8, 0, 0), (.iload 8, 8, 0, 0), (.iload_n 2, 2, 0, 0), (.if_icmp .ge 28, 29, 0, 0),
  (.aload_n 0, 0, 0, 0), (.getfield 9, 0, 3, 285), (.iload_n 1, 1, 0, 0), (.iload 8, 8, 0, 0), (.iload_n 3, 3, 0, 0), (.imul, 0, 0, 0), (.iadd, 0, 0, 0), (.iaload, 0, 0, 0),
  (.iload 6, 6, 0, 0), (.if_icmp .ne 6, 27, 0, 0), (.iinc 7 1, 7, 0, 1), (.iinc 8 1, 8, 0, 1), (.goto (-28), 13, 0, 0), (.iload 7, 7, 0, 0), (.iload 5, 5, 0, 0), (.if_icmp .le 11, 36, 0, 0),
  (.iload 7, 7, 0, 0), (.istore 5, 5, 0, 0), (.iload 6, 6, 0, 0), (.istore 4, 4, 0, 0), (.iinc 6 1, 6, 0, 1), (.goto (-62), 6, 0, 0), (.iload 4, 4, 0, 0), (.ireturn, 0, 0, 0)]
/-- StreetCries.came(IIIIII)I -/
def jx_c113 : List (Instr × Nat × Nat × Int) := [(.iload_n 1, 1, 0, 0), (.invokestatic 259, 107, 0, 739), (.ifCond .eq 44, 23, 0, 0), (.iload_n 2, 2, 0, 0), (.invokestatic 262, 108, 0, 742), (.ifCond .eq 37, 23, 0, 0), (.iload 4, 4, 0, 0), (.iconst 1, 0, 0, 1),
  (.iconst 5, 0, 0, 5), (.invokestatic 55, 12, 0, 334), (.ifCond .eq 27, 23, 0, 0), (.iload 5, 5, 0, 0), (.iconst 1, 0, 0, 1), (.bipush 6, 0, 0, 6), (.invokestatic 55, 12, 0, 334), (.ifCond .eq 16, 23, 0, 0),
  (.iload 6, 6, 0, 0), (.iconst 0, 0, 0, 0), (.iload 4, 4, 0, 0), (.iconst 1, 0, 0, 1), (.isub, 0, 0, 0), (.invokestatic 55, 12, 0, 334), (.ifCond .ne 5, 25, 0, 0), (.iconst (-1), 0, 0, -1),
  (.ireturn, 0, 0, 0), (.aload_n 0, 0, 0, 0), (.getfield 46, 5, 8, 307), (.iload_n 1, 1, 0, 0), (.aaload, 0, 0, 0), (.astore 7, 7, 0, 0), (.aload 7, 7, 0, 0), (.iload_n 2, 2, 0, 0),
  (.iload_n 3, 3, 0, 0), (.iload 4, 4, 0, 0), (.iload 5, 5, 0, 0), (.iconst 1, 0, 0, 1), (.iadd, 0, 0, 0), (.imul, 0, 0, 0), (.invokevirtual 265, 109, 0, 745), (.istore 8, 8, 0, 0),
  (.iload 8, 8, 0, 0), (.ifCond .eq 6, 44, 0, 0), (.iload 8, 8, 0, 0), (.ireturn, 0, 0, 0), (.aload 7, 7, 0, 0), (.iload_n 3, 3, 0, 0), (.iload 4, 4, 0, 0), (.iload 5, 5, 0, 0),
  (.iconst 1, 0, 0, 1), (.invokevirtual 269, 111, 0, 753), (.ifCond .ne 6, 53, 0, 0), (.bipush (-2), 0, 0, -2), (.ireturn, 0, 0, 0), (.aload 7, 7, 0, 0), (.iload_n 3, 3, 0, 0), (.iload 4, 4, 0, 0),
  (.iload 5, 5, 0, 0), (.iload 6, 6, 0, 0), (.invokevirtual 279, 114, 0, 766), (.ireturn, 0, 0, 0)]
/-- StreetCries$Sheet.nearestEarlier(IIII)I -/
def jx_c114 : List (Instr × Nat × Nat × Int) := [(.iload_n 1, 1, 0, 0), (.iload 4, 4, 0, 0), (.iload_n 3, 3, 0, 0), (.iconst 1, 0, 0, 1), (.iadd, 0, 0, 0), (.imul, 0, 0, 0), (.iadd, 0, 0, 0), (.istore 5, 5, 0, 0),
  (.bipush (-4), 0, 0, -4), (.istore 6, 6, 0, 0), (.iconst 0, 0, 0, 0), (.istore 7, 7, 0, 0), (.iconst 0, 0, 0, 0), (.istore 8, 8, 0, 0), (.iload 8, 8, 0, 0), (.iload_n 2, 2, 0, 0),
  (.if_icmp .ge 74, 56, 0, 0), (.iload_n 1, 1, 0, 0), (.iload 8, 8, 0, 0), (.iload_n 3, 3, 0, 0), (.iconst 1, 0, 0, 1), (.iadd, 0, 0, 0), (.imul, 0, 0, 0), (.iadd, 0, 0, 0),
  (.istore 9, 9, 0, 0), (.aload_n 0, 0, 0, 0), (.getfield 9, 0, 3, 285), (.iload 9, 9, 0, 0), (.iaload, 0, 0, 0), (.aload_n 0, 0, 0, 0), (.getfield 9, 0, 3, 285), (.iload 5, 5, 0, 0),
  (.iaload, 0, 0, 0), (.if_icmp .lt 6, 35, 0, 0), (.goto 38, 54, 0, 0), (.aload_n 0, 0, 0, 0), (.iload 5, 5, 0, 0), (.iconst 1, 0, 0, 1), (.iadd, 0, 0, 0), (.iload 9, 9, 0, 0),
  (.iconst 1, 0, 0, 1), (.iadd, 0, 0, 0), (.iload_n 3, 3, 0, 0), (.invokevirtual 40, 115, 0, 770), (.istore 10, 10, 0, 0), (.iload 6, 6, 0, 0), (.ifCond .lt 10, 50, 0, 0), (.iload 10, 10, 0, 0),
  (.iload 7, 7, 0, 0), (.if_icmp .ge 11, 54, 0, 0), (.iload 8, 8, 0, 0), (.istore 6, 6, 0, 0), (.iload 10, 10, 0, 0), (.istore 7, 7, 0, 0), (.iinc 8 1, 8, 0, 1), (.goto (-74), 14, 0, 0),
  (.iload 6, 6, 0, 0), (.ireturn, 0, 0, 0)]
/-- StreetCries$Sheet.differenceOf(III)I -/
def jx_c115 : List (Instr × Nat × Nat × Int) := [(.iconst 0, 0, 0, 0), (.istore 4, 4, 0, 0), (.iconst 0, 0, 0, 0), (.istore 5, 5, 0, 0), (.iload 5, 5, 0, 0), (.iload_n 3, 3, 0, 0), (.if_icmp .ge 36, 26, 0, 0), (.iload 4, 4, 0, 0),
  (.aload_n 0, 0, 0, 0), (.getfield 9, 0, 3, 285), (.iload_n 1, 1, 0, 0), (.iload 5, 5, 0, 0), (.iadd, 0, 0, 0), (.iaload, 0, 0, 0), (.aload_n 0, 0, 0, 0), (.getfield 9, 0, 3, 285),
  (.iload_n 2, 2, 0, 0), (.iload 5, 5, 0, 0), (.iadd, 0, 0, 0), (.iaload, 0, 0, 0), (.isub, 0, 0, 0), (.invokestatic 44, 0, 5, 774), (.iadd, 0, 0, 0), (.istore 4, 4, 0, 0),
  (.iinc 5 1, 5, 0, 1), (.goto (-36), 4, 0, 0), (.iload 4, 4, 0, 0), (.ireturn, 0, 0, 0)]
/-- StreetCries.sheet(III)I -/
def jx_c116 : List (Instr × Nat × Nat × Int) := [(.iload_n 1, 1, 0, 0), (.invokestatic 259, 107, 0, 739), (.ifCond .eq 16, 9, 0, 0), (.iload_n 2, 2, 0, 0), (.invokestatic 262, 108, 0, 742), (.ifCond .eq 9, 9, 0, 0), (.iload_n 3, 3, 0, 0), (.bipush 24, 0, 0, 24),
  (.if_icmp .le 5, 11, 0, 0), (.iconst (-1), 0, 0, -1), (.ireturn, 0, 0, 0), (.iload_n 3, 3, 0, 0), (.ifCond .ge 6, 15, 0, 0), (.bipush (-14), 0, 0, -14), (.ireturn, 0, 0, 0), (.aload_n 0, 0, 0, 0),
  (.getfield 46, 5, 8, 307), (.iload_n 1, 1, 0, 0), (.aaload, 0, 0, 0), (.iload_n 2, 2, 0, 0), (.iload_n 3, 3, 0, 0), (.invokevirtual 283, 117, 0, 779), (.iload_n 3, 3, 0, 0), (.ireturn, 0, 0, 0)]
/-- StreetCries$Sheet.begin(II)V -/
def jx_c117 : List (Instr × Nat × Nat × Int) := [(.aload_n 0, 0, 0, 0), (.getfield 9, 0, 3, 285), (.iconst 0, 0, 0, 0), (.invokestatic 15, 2, 0, 783), (.aload_n 0, 0, 0, 0), (.iconst 1, 0, 0, 1), (.putfield 21, 1, 3, 287), (.aload_n 0, 0, 0, 0),
  (.iload_n 1, 1, 0, 0), (.putfield 25, 2, 3, 289), (.aload_n 0, 0, 0, 0), (.iload_n 2, 2, 0, 0), (.putfield 29, 3, 3, 291), (.return_, 0, 0, 0)]
/-- StreetCries.drop(I)I -/
def jx_c118 : List (Instr × Nat × Nat × Int) := [(.iload_n 1, 1, 0, 0), (.invokestatic 259, 107, 0, 739), (.ifCond .ne 5, 5, 0, 0), (.iconst (-1), 0, 0, -1), (.ireturn, 0, 0, 0), (.aload_n 0, 0, 0, 0), (.getfield 46, 5, 8, 307), (.iload_n 1, 1, 0, 0),
  (.aaload, 0, 0, 0), (.astore_n 2, 2, 0, 0), (.aload_n 2, 2, 0, 0), (.getfield 286, 1, 3, 288), (.ifCond .ne 6, 15, 0, 0), (.bipush (-11), 0, 0, -11), (.ireturn, 0, 0, 0), (.aload_n 2, 2, 0, 0),
  (.iconst 0, 0, 0, 0), (.putfield 286, 1, 3, 288), (.aload_n 2, 2, 0, 0), (.getfield 289, 3, 3, 292), (.ireturn, 0, 0, 0)]
/-- StreetCries.item(IIII)I -/
def jx_c119 : List (Instr × Nat × Nat × Int) := [(.iload_n 1, 1, 0, 0), (.invokestatic 259, 107, 0, 739), (.ifCond .eq 10, 6, 0, 0), (.iload_n 2, 2, 0, 0), (.invokestatic 262, 108, 0, 742), (.ifCond .ne 5, 8, 0, 0), (.iconst (-1), 0, 0, -1), (.ireturn, 0, 0, 0),
  (.aload_n 0, 0, 0, 0), (.getfield 46, 5, 8, 307), (.iload_n 1, 1, 0, 0), (.aaload, 0, 0, 0), (.astore 5, 5, 0, 0), (.aload 5, 5, 0, 0), (.iload_n 2, 2, 0, 0), (.iload_n 3, 3, 0, 0),
  (.iconst 1, 0, 0, 1), (.invokevirtual 265, 109, 0, 745), (.istore 6, 6, 0, 0), (.iload 6, 6, 0, 0), (.ifCond .eq 6, 23, 0, 0), (.iload 6, 6, 0, 0), (.ireturn, 0, 0, 0), (.aload 5, 5, 0, 0),
  (.iload_n 3, 3, 0, 0), (.iload 4, 4, 0, 0), (.invokevirtual 292, 120, 0, 792), (.iconst 1, 0, 0, 1), (.ireturn, 0, 0, 0)]
/-- StreetCries$Sheet.put(II)V -/
def jx_c120 : List (Instr × Nat × Nat × Int) := [(.aload_n 0, 0, 0, 0), (.getfield 25, 2, 3, 289), (.ifCond .ne 14, 10, 0, 0), (.aload_n 0, 0, 0, 0), (.getfield 9, 0, 3, 285), (.iload_n 1, 1, 0, 0), (.iload_n 2, 2, 0, 0), (.i2b, 0, 0, 0),
  (.iastore, 0, 0, 0), (.goto 29, 26, 0, 0), (.aload_n 0, 0, 0, 0), (.getfield 25, 2, 3, 289), (.iconst 1, 0, 0, 1), (.if_icmp .ne 14, 21, 0, 0), (.aload_n 0, 0, 0, 0), (.getfield 9, 0, 3, 285),
  (.iload_n 1, 1, 0, 0), (.iload_n 2, 2, 0, 0), (.i2s, 0, 0, 0), (.iastore, 0, 0, 0), (.goto 10, 26, 0, 0), (.aload_n 0, 0, 0, 0), (.getfield 9, 0, 3, 285), (.iload_n 1, 1, 0, 0),
  (.iload_n 2, 2, 0, 0), (.iastore, 0, 0, 0), (.return_, 0, 0, 0)]
/-- StreetCries.copy(IIIII)I -/
def jx_c121 : List (Instr × Nat × Nat × Int) := [(.iload_n 1, 1, 0, 0), (.invokestatic 259, 107, 0, 739), (.ifCond .eq 10, 6, 0, 0), (.iload_n 3, 3, 0, 0), (.invokestatic 259, 107, 0, 739), (.ifCond .ne 5, 8, 0, 0), (.iconst (-1), 0, 0, -1), (.ireturn, 0, 0, 0),
  (.aload_n 0, 0, 0, 0), (.getfield 46, 5, 8, 307), (.iload_n 1, 1, 0, 0), (.aaload, 0, 0, 0), (.astore 6, 6, 0, 0), (.aload_n 0, 0, 0, 0), (.getfield 46, 5, 8, 307), (.iload_n 3, 3, 0, 0),
  (.aaload, 0, 0, 0), (.astore 7, 7, 0, 0), (.aload 6, 6, 0, 0), (.getfield 286, 1, 3, 288), (.ifCond .eq 11, 24, 0, 0), (.aload 7, 7, 0, 0), (.getfield 286, 1, 3, 288), (.ifCond .ne 6, 26, 0, 0),
  (.bipush (-11), 0, 0, -11), (.ireturn, 0, 0, 0), (.aload 6, 6, 0, 0), (.getfield 295, 2, 3, 290), (.aload 7, 7, 0, 0), (.getfield 295, 2, 3, 290), (.if_icmp .eq 6, 33, 0, 0), (.bipush (-12), 0, 0, -12),
  (.ireturn, 0, 0, 0), (.aload 6, 6, 0, 0), (.iload_n 2, 2, 0, 0), (.iload 5, 5, 0, 0), (.invokevirtual 298, 110, 0, 800), (.ifCond .eq 15, 43, 0, 0), (.aload 7, 7, 0, 0), (.iload 4, 4, 0, 0),
  (.iload 5, 5, 0, 0), (.invokevirtual 298, 110, 0, 800), (.ifCond .ne 6, 45, 0, 0), (.bipush (-13), 0, 0, -13), (.ireturn, 0, 0, 0), (.aload 6, 6, 0, 0), (.getfield 302, 0, 3, 286), (.iload_n 2, 2, 0, 0),
  (.aload 7, 7, 0, 0), (.getfield 302, 0, 3, 286), (.iload 4, 4, 0, 0), (.iload 5, 5, 0, 0), (.invokestatic 305, 0, 3, 801), (.iload 5, 5, 0, 0), (.ireturn, 0, 0, 0)]
/-- StreetCriesModel.<init>()V -/
def jx_c122 : List (Instr × Nat × Nat × Int) := [(.aload_n 0, 0, 0, 0), (.invokespecial 1, 0, 2, 807), (.aload_n 0, 0, 0, 0), (.bipush 25, 0, 0, 25), (.newarray .int, 0, 0, 0), (.putfield 7, 0, 9, 808), (.aload_n 0, 0, 0, 0), (.bipush 24, 0, 0, 24),
  (.newarray .int, 0, 0, 0), (.putfield 13, 2, 9, 810), (.aload_n 0, 0, 0, 0), (.bipush 78, 0, 0, 78), (.newarray .int, 0, 0, 0), (.putfield 16, 3, 9, 811), (.aload_n 0, 0, 0, 0), (.bipush 42, 0, 0, 42),
  (.newarray .int, 0, 0, 0), (.putfield 19, 4, 9, 812), (.aload_n 0, 0, 0, 0), (.bipush 48, 0, 0, 48), (.newarray .int, 0, 0, 0), (.putfield 22, 8, 9, 816), (.aload_n 0, 0, 0, 0), (.bipush 36, 0, 0, 36),
  (.newarray .int, 0, 0, 0), (.putfield 25, 10, 9, 818), (.aload_n 0, 0, 0, 0), (.bipush 60, 0, 0, 60), (.newarray .int, 0, 0, 0), (.putfield 28, 11, 9, 819), (.aload_n 0, 0, 0, 0), (.bipush 25, 0, 0, 25),
  (.newarray .int, 0, 0, 0), (.putfield 31, 15, 9, 823), (.aload_n 0, 0, 0, 0), (.bipush (-4), 0, 0, -4), (.putfield 34, 16, 9, 824), (.aload_n 0, 0, 0, 0), (.bipush (-4), 0, 0, -4), (.putfield 38, 17, 9, 825),
  (.aload_n 0, 0, 0, 0), (.bipush 12, 0, 0, 12), (.newarray .int, 0, 0, 0), (.putfield 41, 18, 9, 826), (.aload_n 0, 0, 0, 0), (.bipush 12, 0, 0, 12), (.newarray .int, 0, 0, 0), (.putfield 44, 19, 9, 827),
  (.aload_n 0, 0, 0, 0), (.bipush 12, 0, 0, 12), (.newarray .int, 0, 0, 0), (.putfield 47, 20, 9, 828), (.aload_n 0, 0, 0, 0), (.bipush 12, 0, 0, 12), (.newarray .int, 0, 0, 0), (.putfield 50, 21, 9, 829),
  (.aload_n 0, 0, 0, 0), (.bipush 36, 0, 0, 36), (.newarray .int, 0, 0, 0), (.putfield 53, 22, 9, 830), (.aload_n 0, 0, 0, 0), (.bipush 36, 0, 0, 36), (.newarray .int, 0, 0, 0), (.putfield 56, 23, 9, 831),
  (.aload_n 0, 0, 0, 0), (.bipush 6, 0, 0, 6), (.newarray .int, 0, 0, 0), (.putfield 59, 24, 9, 832), (.aload_n 0, 0, 0, 0), (.sipush 300, 0, 0, 300), (.newarray .int, 0, 0, 0), (.putfield 62, 26, 9, 834),
  (.aload_n 0, 0, 0, 0), (.iconst 4, 0, 0, 4), (.newarray .int, 0, 0, 0), (.putfield 65, 28, 9, 836), (.aload_n 0, 0, 0, 0), (.iconst 4, 0, 0, 4), (.newarray .int, 0, 0, 0), (.putfield 68, 29, 9, 837),
  (.aload_n 0, 0, 0, 0), (.bipush 96, 0, 0, 96), (.newarray .int, 0, 0, 0), (.putfield 71, 30, 9, 838), (.aload_n 0, 0, 0, 0), (.bipush 24, 0, 0, 24), (.newarray .int, 0, 0, 0), (.putfield 74, 31, 9, 839),
  (.iconst 0, 0, 0, 0), (.istore_n 1, 1, 0, 0), (.iload_n 1, 1, 0, 0), (.iconst 4, 0, 0, 4), (.if_icmp .ge 16, 100, 0, 0), (.aload_n 0, 0, 0, 0), (.getfield 65, 28, 9, 836), (.iload_n 1, 1, 0, 0),
  (.iconst (-1), 0, 0, -1), (.iastore, 0, 0, 0), (.iinc 1 1, 1, 0, 1), (.goto (-15), 90, 0, 0), (.iconst 0, 0, 0, 0), (.istore_n 1, 1, 0, 0), (.iload_n 1, 1, 0, 0), (.bipush 25, 0, 0, 25),
  (.if_icmp .ge 16, 112, 0, 0), (.aload_n 0, 0, 0, 0), (.getfield 7, 0, 9, 808), (.iload_n 1, 1, 0, 0), (.iconst 1, 0, 0, 1), (.iastore, 0, 0, 0), (.iinc 1 1, 1, 0, 1), (.goto (-16), 102, 0, 0),
  (.aload_n 0, 0, 0, 0), (.iconst 3, 0, 0, 3), (.putfield 77, 5, 9, 813), (.return_, 0, 0, 0)]
/-- StreetCriesModel.noise(II)I -/
def jx_c123 : List (Instr × Nat × Nat × Int) := [(.iload_n 1, 1, 0, 0), (.invokestatic 91, 124, 0, 909), (.ifCond .eq 15, 9, 0, 0), (.iload_n 2, 2, 0, 0), (.i2l, 0, 0, 0), (.lconst 0, 0, 0, 0), (.ldc2_w 95, 0, 916, 9), (.invokestatic 82, 125, 0, 913),
  (.ifCond .ne 5, 11, 0, 0), (.iconst (-1), 0, 0, -1), (.ireturn, 0, 0, 0), (.aload_n 0, 0, 0, 0), (.getfield 7, 0, 9, 808), (.iload_n 1, 1, 0, 0), (.iaload, 0, 0, 0), (.istore_n 3, 3, 0, 0),
  (.aload_n 0, 0, 0, 0), (.getfield 7, 0, 9, 808), (.iload_n 1, 1, 0, 0), (.iload_n 2, 2, 0, 0), (.iastore, 0, 0, 0), (.iload_n 3, 3, 0, 0), (.ireturn, 0, 0, 0)]
/-- StreetCriesModel.isCorner(I)Z -/
def jx_c124 : List (Instr × Nat × Nat × Int) := [(.iload_n 0, 0, 0, 0), (.i2l, 0, 0, 0), (.lconst 0, 0, 0, 0), (.ldc2_w 80, 0, 912, 24), (.invokestatic 82, 125, 0, 913), (.ireturn, 1, 0, 0)]
/-- StreetCriesModel.in(JJJ)Z -/
def jx_c125 : List (Instr × Nat × Nat × Int) := [(.lload_n 0, 0, 0, 0), (.lload_n 2, 2, 0, 0), (.lcmp, 0, 0, 0), (.ifCond .lt 14, 10, 0, 0), (.lload_n 0, 0, 0, 0), (.lload 4, 4, 0, 0), (.lcmp, 0, 0, 0), (.ifCond .gt 7, 10, 0, 0),
  (.iconst 1, 0, 0, 1), (.goto 4, 11, 0, 0), (.iconst 0, 0, 0, 0), (.ireturn, 1, 0, 0)]
/-- StreetCriesModel.seller(III)I -/
def jx_c126 : List (Instr × Nat × Nat × Int) := [(.iconst 0, 0, 0, 0), (.iload_n 1, 1, 0, 0), (.invokestatic 104, 127, 0, 921), (.ifCond .eq 19, 12, 0, 0), (.iconst 1, 0, 0, 1), (.iload_n 2, 2, 0, 0), (.invokestatic 104, 127, 0, 921), (.ifCond .eq 11, 12, 0, 0),
  (.iconst 3, 0, 0, 3), (.iload_n 3, 3, 0, 0), (.invokestatic 104, 127, 0, 921), (.ifCond .ne 5, 14, 0, 0), (.iconst (-1), 0, 0, -1), (.ireturn, 0, 0, 0), (.aload_n 0, 0, 0, 0), (.getfield 88, 1, 9, 809),
  (.bipush 6, 0, 0, 6), (.if_icmp .ne 6, 20, 0, 0), (.bipush (-3), 0, 0, -3), (.ireturn, 0, 0, 0), (.aload_n 0, 0, 0, 0), (.getfield 88, 1, 9, 809), (.istore 4, 4, 0, 0), (.aload_n 0, 0, 0, 0),
  (.getfield 13, 2, 9, 810), (.iconst 4, 0, 0, 4), (.iload 4, 4, 0, 0), (.imul, 0, 0, 0), (.iload_n 1, 1, 0, 0), (.iastore, 0, 0, 0), (.aload_n 0, 0, 0, 0), (.getfield 13, 2, 9, 810),
  (.iconst 4, 0, 0, 4), (.iload 4, 4, 0, 0), (.imul, 0, 0, 0), (.iconst 1, 0, 0, 1), (.iadd, 0, 0, 0), (.iload_n 2, 2, 0, 0), (.iastore, 0, 0, 0), (.aload_n 0, 0, 0, 0),
  (.getfield 13, 2, 9, 810), (.iconst 4, 0, 0, 4), (.iload 4, 4, 0, 0), (.imul, 0, 0, 0), (.iconst 2, 0, 0, 2), (.iadd, 0, 0, 0), (.iconst 0, 0, 0, 0), (.iastore, 0, 0, 0),
  (.aload_n 0, 0, 0, 0), (.getfield 13, 2, 9, 810), (.iconst 4, 0, 0, 4), (.iload 4, 4, 0, 0), (.imul, 0, 0, 0), (.iconst 3, 0, 0, 3), (.iadd, 0, 0, 0), (.iload_n 3, 3, 0, 0),
  (.iastore, 0, 0, 0), (.aload_n 0, 0, 0, 0), (.getfield 16, 3, 9, 811), (.bipush 13, 0, 0, 13), (.iload 4, 4, 0, 0), (.imul, 0, 0, 0), (.iconst 1, 0, 0, 1), (.iastore, 0, 0, 0),
  (.aload_n 0, 0, 0, 0), (.getfield 16, 3, 9, 811), (.bipush 13, 0, 0, 13), (.iload 4, 4, 0, 0), (.imul, 0, 0, 0), (.iconst 1, 0, 0, 1), (.iadd, 0, 0, 0), (.iconst 0, 0, 0, 0),
  (.iastore, 0, 0, 0), (.aload_n 0, 0, 0, 0), (.getfield 19, 4, 9, 812), (.bipush 7, 0, 0, 7), (.iload 4, 4, 0, 0), (.imul, 0, 0, 0), (.iconst 1, 0, 0, 1), (.iastore, 0, 0, 0),
  (.aload_n 0, 0, 0, 0), (.getfield 19, 4, 9, 812), (.bipush 7, 0, 0, 7), (.iload 4, 4, 0, 0), (.imul, 0, 0, 0), (.iconst 1, 0, 0, 1), (.iadd, 0, 0, 0), (.iconst 5, 0, 0, 5),
  (.iastore, 0, 0, 0), (.aload_n 0, 0, 0, 0), (.dup, 0, 0, 0), (.getfield 88, 1, 9, 809), (.iconst 1, 0, 0, 1), (.iadd, 0, 0, 0), (.putfield 88, 1, 9, 809), (.iload 4, 4, 0, 0),
  (.ireturn, 0, 0, 0)]
/-- StreetCriesModel.isPart(II)Z -/
def jx_c127 : List (Instr × Nat × Nat × Int) := [(.iload_n 0, 0, 0, 0), (.ifCond .ne 15, 8, 0, 0), (.iload_n 1, 1, 0, 0), (.i2l, 0, 0, 0), (.lconst 0, 0, 0, 0), (.ldc2_w 97, 0, 924, 3), (.invokestatic 82, 125, 0, 913), (.goto 41, 28, 0, 0),
  (.iload_n 0, 0, 0, 0), (.iconst 1, 0, 0, 1), (.if_icmp .ne 15, 17, 0, 0), (.iload_n 1, 1, 0, 0), (.i2l, 0, 0, 0), (.lconst 1, 0, 0, 1), (.ldc2_w 95, 0, 916, 9), (.invokestatic 82, 125, 0, 913),
  (.goto 24, 28, 0, 0), (.iload_n 0, 0, 0, 0), (.iconst 2, 0, 0, 2), (.if_icmp .ne 10, 23, 0, 0), (.iload_n 1, 1, 0, 0), (.invokestatic 99, 128, 0, 925), (.goto 12, 28, 0, 0), (.iload_n 1, 1, 0, 0),
  (.i2l, 0, 0, 0), (.lconst 1, 0, 0, 1), (.ldc2_w 102, 0, 929, 5), (.invokestatic 82, 125, 0, 913), (.ireturn, 1, 0, 0)]
/-- StreetCriesModel.isMinute(I)Z -/
def jx_c128 : List (Instr × Nat × Nat × Int) := [(.iload_n 0, 0, 0, 0), (.i2l, 0, 0, 0), (.lconst 0, 0, 0, 0), (.ldc2_w 86, 0, 928, 119), (.invokestatic 82, 125, 0, 913), (.ireturn, 1, 0, 0)]
/-- StreetCriesModel.of(III)I -/
def jx_c129 : List (Instr × Nat × Nat × Int) := [(.aload_n 0, 0, 0, 0), (.iload_n 1, 1, 0, 0), (.invokevirtual 108, 130, 0, 934), (.ifCond .eq 23, 14, 0, 0), (.iload_n 2, 2, 0, 0), (.i2l, 0, 0, 0), (.lconst 0, 0, 0, 0), (.ldc2_w 97, 0, 924, 3),
  (.invokestatic 82, 125, 0, 913), (.ifCond .eq 11, 14, 0, 0), (.iload_n 2, 2, 0, 0), (.iload_n 3, 3, 0, 0), (.invokestatic 104, 127, 0, 921), (.ifCond .ne 5, 16, 0, 0), (.iconst (-1), 0, 0, -1), (.ireturn, 0, 0, 0),
  (.aload_n 0, 0, 0, 0), (.getfield 13, 2, 9, 810), (.iconst 4, 0, 0, 4), (.iload_n 1, 1, 0, 0), (.imul, 0, 0, 0), (.iload_n 2, 2, 0, 0), (.iadd, 0, 0, 0), (.iaload, 0, 0, 0),
  (.istore 4, 4, 0, 0), (.aload_n 0, 0, 0, 0), (.getfield 13, 2, 9, 810), (.iconst 4, 0, 0, 4), (.iload_n 1, 1, 0, 0), (.imul, 0, 0, 0), (.iload_n 2, 2, 0, 0), (.iadd, 0, 0, 0),
  (.iload_n 3, 3, 0, 0), (.iastore, 0, 0, 0), (.iload 4, 4, 0, 0), (.ireturn, 0, 0, 0)]
/-- StreetCriesModel.isSeller(I)Z -/
def jx_c130 : List (Instr × Nat × Nat × Int) := [(.iload_n 1, 1, 0, 0), (.i2l, 0, 0, 0), (.lconst 0, 0, 0, 0), (.aload_n 0, 0, 0, 0), (.getfield 88, 1, 9, 809), (.iconst 1, 0, 0, 1), (.isub, 0, 0, 0), (.i2l, 0, 0, 0),
  (.invokestatic 82, 125, 0, 913), (.ireturn, 1, 0, 0)]
/-- StreetCriesModel.type(JI)I -/
def jx_c131 : List (Instr × Nat × Nat × Int) := [(.iload_n 3, 3, 0, 0), (.i2l, 0, 0, 0), (.lconst 1, 0, 0, 1), (.ldc2_w 111, 0, 942, 8), (.invokestatic 82, 125, 0, 913), (.ifCond .ne 5, 8, 0, 0), (.iconst (-1), 0, 0, -1), (.ireturn, 0, 0, 0),
  (.iconst 0, 0, 0, 0), (.istore 4, 4, 0, 0), (.iload 4, 4, 0, 0), (.iload_n 3, 3, 0, 0), (.if_icmp .ge 34, 28, 0, 0), (.lload_n 1, 1, 0, 0), (.bipush 8, 0, 0, 8), (.iload 4, 4, 0, 0),
  (.imul, 0, 0, 0), (.lshr, 0, 0, 0), (.ldc2_w 113, 0, 943, 255), (.land, 0, 0, 0), (.ldc2_w 115, 0, 944, 32), (.ldc2_w 117, 0, 945, 126), (.invokestatic 82, 125, 0, 913), (.ifCond .ne 5, 26, 0, 0),
  (.iconst (-1), 0, 0, -1), (.ireturn, 0, 0, 0), (.iinc 4 1, 4, 0, 1), (.goto (-34), 10, 0, 0), (.aload_n 0, 0, 0, 0), (.getfield 119, 12, 9, 820), (.iload_n 3, 3, 0, 0), (.iadd, 0, 0, 0),
  (.bipush 60, 0, 0, 60), (.if_icmp .le 6, 36, 0, 0), (.bipush (-3), 0, 0, -3), (.ireturn, 0, 0, 0), (.iload_n 3, 3, 0, 0), (.iconst 1, 0, 0, 1), (.isub, 0, 0, 0), (.istore 4, 4, 0, 0),
  (.iload 4, 4, 0, 0), (.ifCond .lt 40, 63, 0, 0), (.aload_n 0, 0, 0, 0), (.getfield 28, 11, 9, 819), (.aload_n 0, 0, 0, 0), (.getfield 119, 12, 9, 820), (.lload_n 1, 1, 0, 0), (.bipush 8, 0, 0, 8),
  (.iload 4, 4, 0, 0), (.imul, 0, 0, 0), (.lshr, 0, 0, 0), (.ldc2_w 113, 0, 943, 255), (.land, 0, 0, 0), (.l2i, 0, 0, 0), (.iastore, 0, 0, 0), (.aload_n 0, 0, 0, 0),
  (.dup, 0, 0, 0), (.getfield 119, 12, 9, 820), (.iconst 1, 0, 0, 1), (.iadd, 0, 0, 0), (.putfield 119, 12, 9, 820), (.iinc 4 (-1), 4, 0, -1), (.goto (-39), 40, 0, 0), (.aload_n 0, 0, 0, 0),
  (.getfield 119, 12, 9, 820), (.ireturn, 0, 0, 0)]
/-- StreetCriesModel.town()I -/
def jx_c132 : List (Instr × Nat × Nat × Int) := [(.aload_n 0, 0, 0, 0), (.bipush 25, 0, 0, 25), (.bipush 25, 0, 0, 25), (.invokevirtual 141, 133, 0, 950), (.istore_n 1, 1, 0, 0), (.iconst 0, 0, 0, 0), (.istore_n 2, 2, 0, 0), (.iconst 0, 0, 0, 0),
  (.istore_n 3, 3, 0, 0), (.iload_n 3, 3, 0, 0), (.iload_n 1, 1, 0, 0), (.if_icmp .ge 30, 29, 0, 0), (.aload_n 0, 0, 0, 0), (.getfield 7, 0, 9, 808), (.iload_n 3, 3, 0, 0), (.aload_n 0, 0, 0, 0),
  (.getfield 31, 15, 9, 823), (.iload_n 3, 3, 0, 0), (.iaload, 0, 0, 0), (.iastore, 0, 0, 0), (.iload_n 2, 2, 0, 0), (.aload_n 0, 0, 0, 0), (.getfield 31, 15, 9, 823), (.iload_n 3, 3, 0, 0),
  (.iaload, 0, 0, 0), (.iadd, 0, 0, 0), (.istore_n 2, 2, 0, 0), (.iinc 3 1, 3, 0, 1), (.goto (-29), 9, 0, 0), (.iload_n 1, 1, 0, 0), (.ifCond .ge 7, 33, 0, 0), (.iload_n 1, 1, 0, 0),
  (.goto 4, 34, 0, 0), (.iload_n 2, 2, 0, 0), (.ireturn, 0, 0, 0)]
/-- StreetCriesModel.digits(II)I -/
def jx_c133 : List (Instr × Nat × Nat × Int) := [(.aload_n 0, 0, 0, 0), (.iconst 0, 0, 0, 0), (.putfield 122, 13, 9, 821), (.iconst 0, 0, 0, 0), (.istore_n 3, 3, 0, 0), (.iload_n 3, 3, 0, 0), (.iload_n 2, 2, 0, 0), (.if_icmp .ge 39, 27, 0, 0),
  (.aload_n 0, 0, 0, 0), (.invokevirtual 133, 134, 0, 954), (.ifCond .eq 32, 27, 0, 0), (.aload_n 0, 0, 0, 0), (.getfield 31, 15, 9, 823), (.iload_n 3, 3, 0, 0), (.aload_n 0, 0, 0, 0), (.invokevirtual 125, 135, 0, 958),
  (.bipush 48, 0, 0, 48), (.isub, 0, 0, 0), (.iastore, 0, 0, 0), (.aload_n 0, 0, 0, 0), (.dup, 0, 0, 0), (.getfield 122, 13, 9, 821), (.iconst 1, 0, 0, 1), (.iadd, 0, 0, 0),
  (.putfield 122, 13, 9, 821), (.iinc 3 1, 3, 0, 1), (.goto (-38), 5, 0, 0), (.aload_n 0, 0, 0, 0), (.iload_n 3, 3, 0, 0), (.iload_n 1, 1, 0, 0), (.if_icmp .lt 10, 34, 0, 0), (.aload_n 0, 0, 0, 0),
  (.invokevirtual 125, 135, 0, 958), (.ifCond .eq 7, 36, 0, 0), (.iconst 1, 0, 0, 1), (.goto 4, 37, 0, 0), (.iconst 0, 0, 0, 0), (.putfield 137, 14, 9, 822), (.aload_n 0, 0, 0, 0), (.iconst 0, 0, 0, 0),
  (.putfield 119, 12, 9, 820), (.aload_n 0, 0, 0, 0), (.getfield 137, 14, 9, 822), (.ifCond .eq 13, 49, 0, 0), (.bipush (-20), 0, 0, -20), (.aload_n 0, 0, 0, 0), (.getfield 122, 13, 9, 821), (.isub, 0, 0, 0),
  (.goto 4, 50, 0, 0), (.iload_n 3, 3, 0, 0), (.ireturn, 0, 0, 0)]
/-- StreetCriesModel.isDigit()Z -/
def jx_c134 : List (Instr × Nat × Nat × Int) := [(.aload_n 0, 0, 0, 0), (.invokevirtual 125, 135, 0, 958), (.i2l, 0, 0, 0), (.ldc2_w 129, 0, 962, 48), (.ldc2_w 131, 0, 963, 57), (.invokestatic 82, 125, 0, 913), (.ireturn, 1, 0, 0)]
/-- StreetCriesModel.here()I -/
def jx_c135 : List (Instr × Nat × Nat × Int) := [(.aload_n 0, 0, 0, 0), (.getfield 122, 13, 9, 821), (.aload_n 0, 0, 0, 0), (.getfield 119, 12, 9, 820), (.if_icmp .ge 30, 19, 0, 0), (.aload_n 0, 0, 0, 0), (.getfield 28, 11, 9, 819), (.aload_n 0, 0, 0, 0),
  (.getfield 122, 13, 9, 821), (.iaload, 0, 0, 0), (.bipush 32, 0, 0, 32), (.if_icmp .ne 16, 19, 0, 0), (.aload_n 0, 0, 0, 0), (.dup, 0, 0, 0), (.getfield 122, 13, 9, 821), (.iconst 1, 0, 0, 1),
  (.iadd, 0, 0, 0), (.putfield 122, 13, 9, 821), (.goto (-35), 0, 0, 0), (.aload_n 0, 0, 0, 0), (.getfield 122, 13, 9, 821), (.aload_n 0, 0, 0, 0), (.getfield 119, 12, 9, 820), (.if_icmp .ge 15, 30, 0, 0),
  (.aload_n 0, 0, 0, 0), (.getfield 28, 11, 9, 819), (.aload_n 0, 0, 0, 0), (.getfield 122, 13, 9, 821), (.iaload, 0, 0, 0), (.goto 4, 31, 0, 0), (.iconst 0, 0, 0, 0), (.ireturn, 0, 0, 0)]
/-- StreetCriesModel.round(I)I -/
def jx_c136 : List (Instr × Nat × Nat × Int) := [(.aload_n 0, 0, 0, 0), (.iload_n 1, 1, 0, 0), (.invokevirtual 108, 130, 0, 934), (.ifCond .ne 5, 6, 0, 0), (.iconst (-1), 0, 0, -1), (.ireturn, 0, 0, 0), (.aload_n 0, 0, 0, 0), (.iconst 0, 0, 0, 0),
  (.putfield 122, 13, 9, 821), (.aload_n 0, 0, 0, 0), (.iconst 0, 0, 0, 0), (.putfield 137, 14, 9, 822), (.iconst 0, 0, 0, 0), (.istore_n 2, 2, 0, 0), (.iconst 1, 0, 0, 1), (.istore_n 3, 3, 0, 0),
  (.iload_n 3, 3, 0, 0), (.ifCond .eq 60, 47, 0, 0), (.aload_n 0, 0, 0, 0), (.iload_n 2, 2, 0, 0), (.invokevirtual 148, 137, 0, 968), (.iinc 2 1, 2, 0, 1), (.aload_n 0, 0, 0, 0), (.getfield 137, 14, 9, 822),
  (.ifCond .ne 22, 34, 0, 0), (.iload_n 2, 2, 0, 0), (.bipush 12, 0, 0, 12), (.if_icmp .ge 16, 34, 0, 0), (.aload_n 0, 0, 0, 0), (.invokevirtual 125, 135, 0, 958), (.bipush 44, 0, 0, 44), (.if_icmp .ne 7, 34, 0, 0),
  (.iconst 1, 0, 0, 1), (.goto 4, 35, 0, 0), (.iconst 0, 0, 0, 0), (.istore_n 3, 3, 0, 0), (.aload_n 0, 0, 0, 0), (.dup, 0, 0, 0), (.getfield 122, 13, 9, 821), (.iload_n 3, 3, 0, 0),
  (.ifCond .eq 7, 43, 0, 0), (.iconst 1, 0, 0, 1), (.goto 4, 44, 0, 0), (.iconst 0, 0, 0, 0), (.iadd, 0, 0, 0), (.putfield 122, 13, 9, 821), (.goto (-58), 16, 0, 0), (.aload_n 0, 0, 0, 0),
  (.aload_n 0, 0, 0, 0), (.getfield 137, 14, 9, 822), (.ifCond .ne 10, 54, 0, 0), (.aload_n 0, 0, 0, 0), (.invokevirtual 125, 135, 0, 958), (.ifCond .eq 7, 56, 0, 0), (.iconst 1, 0, 0, 1), (.goto 4, 57, 0, 0),
  (.iconst 0, 0, 0, 0), (.putfield 137, 14, 9, 822), (.aload_n 0, 0, 0, 0), (.iconst 0, 0, 0, 0), (.putfield 119, 12, 9, 820), (.aload_n 0, 0, 0, 0), (.getfield 137, 14, 9, 822), (.ifCond .eq 11, 69, 0, 0),
  (.bipush (-20), 0, 0, -20), (.aload_n 0, 0, 0, 0), (.getfield 122, 13, 9, 821), (.isub, 0, 0, 0), (.ireturn, 0, 0, 0), (.aload_n 0, 0, 0, 0), (.getfield 16, 3, 9, 811), (.bipush 13, 0, 0, 13),
  (.iload_n 1, 1, 0, 0), (.imul, 0, 0, 0), (.iload_n 2, 2, 0, 0), (.iastore, 0, 0, 0), (.iconst 0, 0, 0, 0), (.istore 4, 4, 0, 0), (.iload 4, 4, 0, 0), (.iload_n 2, 2, 0, 0),
  (.if_icmp .ge 30, 97, 0, 0), (.aload_n 0, 0, 0, 0), (.getfield 16, 3, 9, 811), (.bipush 13, 0, 0, 13), (.iload_n 1, 1, 0, 0), (.imul, 0, 0, 0), (.iconst 1, 0, 0, 1), (.iadd, 0, 0, 0),
  (.iload 4, 4, 0, 0), (.iadd, 0, 0, 0), (.aload_n 0, 0, 0, 0), (.getfield 31, 15, 9, 823), (.iload 4, 4, 0, 0), (.iaload, 0, 0, 0), (.iastore, 0, 0, 0), (.iinc 4 1, 4, 0, 1),
  (.goto (-30), 78, 0, 0), (.iload_n 2, 2, 0, 0), (.ireturn, 0, 0, 0)]
/-- StreetCriesModel.corner(I)V -/
def jx_c137 : List (Instr × Nat × Nat × Int) := [(.aload_n 0, 0, 0, 0), (.invokevirtual 133, 134, 0, 954), (.ifCond .ne 9, 7, 0, 0), (.aload_n 0, 0, 0, 0), (.iconst 1, 0, 0, 1), (.putfield 137, 14, 9, 822), (.return_, 0, 0, 0), (.aload_n 0, 0, 0, 0),
  (.getfield 122, 13, 9, 821), (.istore_n 2, 2, 0, 0), (.iconst 0, 0, 0, 0), (.istore_n 3, 3, 0, 0), (.aload_n 0, 0, 0, 0), (.getfield 122, 13, 9, 821), (.aload_n 0, 0, 0, 0), (.getfield 119, 12, 9, 820),
  (.if_icmp .ge 67, 51, 0, 0), (.aload_n 0, 0, 0, 0), (.getfield 28, 11, 9, 819), (.aload_n 0, 0, 0, 0), (.getfield 122, 13, 9, 821), (.iaload, 0, 0, 0), (.i2l, 0, 0, 0), (.ldc2_w 129, 0, 962, 48),
  (.ldc2_w 131, 0, 963, 57), (.invokestatic 82, 125, 0, 913), (.ifCond .eq 45, 51, 0, 0), (.iload_n 3, 3, 0, 0), (.sipush 999, 0, 0, 999), (.if_icmp .le 7, 32, 0, 0), (.iload_n 3, 3, 0, 0), (.goto 20, 43, 0, 0),
  (.bipush 10, 0, 0, 10), (.iload_n 3, 3, 0, 0), (.imul, 0, 0, 0), (.aload_n 0, 0, 0, 0), (.getfield 28, 11, 9, 819), (.aload_n 0, 0, 0, 0), (.getfield 122, 13, 9, 821), (.iaload, 0, 0, 0),
  (.iadd, 0, 0, 0), (.bipush 48, 0, 0, 48), (.isub, 0, 0, 0), (.istore_n 3, 3, 0, 0), (.aload_n 0, 0, 0, 0), (.dup, 0, 0, 0), (.getfield 122, 13, 9, 821), (.iconst 1, 0, 0, 1),
  (.iadd, 0, 0, 0), (.putfield 122, 13, 9, 821), (.goto (-72), 12, 0, 0), (.aload_n 0, 0, 0, 0), (.iload_n 3, 3, 0, 0), (.bipush 24, 0, 0, 24), (.if_icmp .gt 31, 71, 0, 0), (.iload_n 1, 1, 0, 0),
  (.ifCond .le 31, 73, 0, 0), (.iload_n 3, 3, 0, 0), (.aload_n 0, 0, 0, 0), (.getfield 31, 15, 9, 823), (.iload_n 1, 1, 0, 0), (.ifCond .le 9, 66, 0, 0), (.iload_n 1, 1, 0, 0), (.iconst 1, 0, 0, 1),
  (.isub, 0, 0, 0), (.goto 4, 67, 0, 0), (.iconst 0, 0, 0, 0), (.iaload, 0, 0, 0), (.invokestatic 145, 138, 0, 972), (.iconst 1, 0, 0, 1), (.if_icmp .le 7, 73, 0, 0), (.iconst 1, 0, 0, 1),
  (.goto 4, 74, 0, 0), (.iconst 0, 0, 0, 0), (.putfield 137, 14, 9, 822), (.aload_n 0, 0, 0, 0), (.getfield 31, 15, 9, 823), (.iload_n 1, 1, 0, 0), (.iload_n 3, 3, 0, 0), (.iastore, 0, 0, 0),
  (.aload_n 0, 0, 0, 0), (.aload_n 0, 0, 0, 0), (.getfield 137, 14, 9, 822), (.ifCond .eq 7, 86, 0, 0), (.iload_n 2, 2, 0, 0), (.goto 7, 88, 0, 0), (.aload_n 0, 0, 0, 0), (.getfield 122, 13, 9, 821),
  (.putfield 122, 13, 9, 821), (.return_, 0, 0, 0)]
/-- StreetCriesModel.between(II)I -/
def jx_c138 : List (Instr × Nat × Nat × Int) := [(.iload_n 0, 0, 0, 0), (.iconst 5, 0, 0, 5), (.idiv, 0, 0, 0), (.iload_n 1, 1, 0, 0), (.iconst 5, 0, 0, 5), (.idiv, 0, 0, 0), (.isub, 0, 0, 0), (.istore_n 2, 2, 0, 0),
  (.iload_n 0, 0, 0, 0), (.iconst 5, 0, 0, 5), (.irem, 0, 0, 0), (.iload_n 1, 1, 0, 0), (.iconst 5, 0, 0, 5), (.irem, 0, 0, 0), (.isub, 0, 0, 0), (.istore_n 3, 3, 0, 0),
  (.iload_n 2, 2, 0, 0), (.ifCond .ge 8, 21, 0, 0), (.iload_n 2, 2, 0, 0), (.ineg, 0, 0, 0), (.goto 4, 22, 0, 0), (.iload_n 2, 2, 0, 0), (.iload_n 3, 3, 0, 0), (.ifCond .ge 8, 27, 0, 0),
  (.iload_n 3, 3, 0, 0), (.ineg, 0, 0, 0), (.goto 4, 28, 0, 0), (.iload_n 3, 3, 0, 0), (.iadd, 0, 0, 0), (.ireturn, 0, 0, 0)]
/-- StreetCriesModel.tune(I)I -/
def jx_c139 : List (Instr × Nat × Nat × Int) := [(.aload_n 0, 0, 0, 0), (.iload_n 1, 1, 0, 0), (.invokevirtual 108, 130, 0, 934), (.ifCond .ne 5, 6, 0, 0), (.iconst (-1), 0, 0, -1), (.ireturn, 0, 0, 0), (.aload_n 0, 0, 0, 0), (.iconst 1, 0, 0, 1),
  (.bipush 6, 0, 0, 6), (.invokevirtual 141, 133, 0, 950), (.istore_n 2, 2, 0, 0), (.iload_n 2, 2, 0, 0), (.ifCond .le 45, 41, 0, 0), (.aload_n 0, 0, 0, 0), (.getfield 19, 4, 9, 812), (.bipush 7, 0, 0, 7),
  (.iload_n 1, 1, 0, 0), (.imul, 0, 0, 0), (.iload_n 2, 2, 0, 0), (.iastore, 0, 0, 0), (.iconst 0, 0, 0, 0), (.istore_n 3, 3, 0, 0), (.iload_n 3, 3, 0, 0), (.iload_n 2, 2, 0, 0),
  (.if_icmp .ge 28, 41, 0, 0), (.aload_n 0, 0, 0, 0), (.getfield 19, 4, 9, 812), (.bipush 7, 0, 0, 7), (.iload_n 1, 1, 0, 0), (.imul, 0, 0, 0), (.iconst 1, 0, 0, 1), (.iadd, 0, 0, 0),
  (.iload_n 3, 3, 0, 0), (.iadd, 0, 0, 0), (.aload_n 0, 0, 0, 0), (.getfield 31, 15, 9, 823), (.iload_n 3, 3, 0, 0), (.iaload, 0, 0, 0), (.iastore, 0, 0, 0), (.iinc 3 1, 3, 0, 1),
  (.goto (-27), 22, 0, 0), (.iload_n 2, 2, 0, 0), (.ireturn, 0, 0, 0)]
/-- StreetCriesModel.told(III)I -/
def jx_c140 : List (Instr × Nat × Nat × Int) := [(.aload_n 0, 0, 0, 0), (.iload_n 1, 1, 0, 0), (.invokevirtual 108, 130, 0, 934), (.ifCond .eq 18, 13, 0, 0), (.iload_n 2, 2, 0, 0), (.i2l, 0, 0, 0), (.lconst 0, 0, 0, 0), (.lconst 1, 0, 0, 1),
  (.invokestatic 82, 125, 0, 913), (.ifCond .eq 8, 13, 0, 0), (.iload_n 3, 3, 0, 0), (.iconst (-1), 0, 0, -1), (.if_icmp .ge 5, 15, 0, 0), (.iconst (-1), 0, 0, -1), (.ireturn, 0, 0, 0), (.iload_n 2, 2, 0, 0),
  (.ifCond .ne 15, 24, 0, 0), (.aload_n 0, 0, 0, 0), (.getfield 16, 3, 9, 811), (.bipush 13, 0, 0, 13), (.iload_n 1, 1, 0, 0), (.imul, 0, 0, 0), (.iaload, 0, 0, 0), (.goto 12, 30, 0, 0),
  (.aload_n 0, 0, 0, 0), (.getfield 19, 4, 9, 812), (.bipush 7, 0, 0, 7), (.iload_n 1, 1, 0, 0), (.imul, 0, 0, 0), (.iaload, 0, 0, 0), (.istore 4, 4, 0, 0), (.iload_n 3, 3, 0, 0),
  (.ifCond .ge 6, 35, 0, 0), (.iload 4, 4, 0, 0), (.ireturn, 0, 0, 0), (.iload_n 3, 3, 0, 0), (.iload 4, 4, 0, 0), (.if_icmp .lt 8, 40, 0, 0), (.bipush (-4), 0, 0, -4), (.goto 36, 63, 0, 0),
  (.iload_n 2, 2, 0, 0), (.ifCond .ne 19, 53, 0, 0), (.aload_n 0, 0, 0, 0), (.getfield 16, 3, 9, 811), (.bipush 13, 0, 0, 13), (.iload_n 1, 1, 0, 0), (.imul, 0, 0, 0), (.iconst 1, 0, 0, 1),
  (.iadd, 0, 0, 0), (.iload_n 3, 3, 0, 0), (.iadd, 0, 0, 0), (.iaload, 0, 0, 0), (.goto 16, 63, 0, 0), (.aload_n 0, 0, 0, 0), (.getfield 19, 4, 9, 812), (.bipush 7, 0, 0, 7),
  (.iload_n 1, 1, 0, 0), (.imul, 0, 0, 0), (.iconst 1, 0, 0, 1), (.iadd, 0, 0, 0), (.iload_n 3, 3, 0, 0), (.iadd, 0, 0, 0), (.iaload, 0, 0, 0), (.ireturn, 0, 0, 0)]
/-- StreetCriesModel.where(II)I -/
def jx_c141 : List (Instr × Nat × Nat × Int) := [(.aload_n 0, 0, 0, 0), (.iload_n 1, 1, 0, 0), (.invokevirtual 108, 130, 0, 934), (.ifCond .eq 19, 12, 0, 0), (.iload_n 2, 2, 0, 0), (.invokestatic 99, 128, 0, 925), (.ifCond .eq 12, 12, 0, 0), (.aload_n 0, 0, 0, 0),
  (.iload_n 1, 1, 0, 0), (.iload_n 2, 2, 0, 0), (.invokevirtual 155, 142, 0, 987), (.goto 4, 13, 0, 0), (.iconst (-1), 0, 0, -1), (.ireturn, 0, 0, 0)]
/-- StreetCriesModel.placeOf(II)I -/
def jx_c142 : List (Instr × Nat × Nat × Int) := [(.iload_n 2, 2, 0, 0), (.aload_n 0, 0, 0, 0), (.getfield 13, 2, 9, 810), (.iconst 4, 0, 0, 4), (.iload_n 1, 1, 0, 0), (.imul, 0, 0, 0), (.iconst 2, 0, 0, 2), (.iadd, 0, 0, 0),
  (.iaload, 0, 0, 0), (.isub, 0, 0, 0), (.istore_n 3, 3, 0, 0), (.aload_n 0, 0, 0, 0), (.getfield 16, 3, 9, 811), (.bipush 13, 0, 0, 13), (.iload_n 1, 1, 0, 0), (.imul, 0, 0, 0),
  (.iaload, 0, 0, 0), (.istore 4, 4, 0, 0), (.iload_n 3, 3, 0, 0), (.ifCond .ge 7, 22, 0, 0), (.iconst (-1), 0, 0, -1), (.goto 15, 32, 0, 0), (.iload_n 3, 3, 0, 0), (.aload_n 0, 0, 0, 0),
  (.getfield 13, 2, 9, 810), (.iconst 4, 0, 0, 4), (.iload_n 1, 1, 0, 0), (.imul, 0, 0, 0), (.iconst 3, 0, 0, 3), (.iadd, 0, 0, 0), (.iaload, 0, 0, 0), (.idiv, 0, 0, 0),
  (.istore 5, 5, 0, 0), (.iload 5, 5, 0, 0), (.ifCond .lt 25, 45, 0, 0), (.iload 5, 5, 0, 0), (.iload 4, 4, 0, 0), (.if_icmp .ge 18, 45, 0, 0), (.aload_n 0, 0, 0, 0), (.getfield 38, 17, 9, 825),
  (.ifCond .lt 14, 47, 0, 0), (.aload_n 0, 0, 0, 0), (.getfield 38, 17, 9, 825), (.iload_n 1, 1, 0, 0), (.if_icmp .eq 6, 47, 0, 0), (.bipush (-4), 0, 0, -4), (.ireturn, 0, 0, 0), (.aload_n 0, 0, 0, 0),
  (.getfield 16, 3, 9, 811), (.bipush 13, 0, 0, 13), (.iload_n 1, 1, 0, 0), (.imul, 0, 0, 0), (.iconst 1, 0, 0, 1), (.iadd, 0, 0, 0), (.aload_n 0, 0, 0, 0), (.getfield 34, 16, 9, 824),
  (.iload_n 1, 1, 0, 0), (.if_icmp .ne 13, 64, 0, 0), (.iload 4, 4, 0, 0), (.iconst 1, 0, 0, 1), (.isub, 0, 0, 0), (.iload 5, 5, 0, 0), (.isub, 0, 0, 0), (.goto 5, 65, 0, 0),
  (.iload 5, 5, 0, 0), (.iadd, 0, 0, 0), (.iaload, 0, 0, 0), (.ireturn, 0, 0, 0)]
/-- StreetCriesModel.carries(I)I -/
def jx_c143 : List (Instr × Nat × Nat × Int) := [(.aload_n 0, 0, 0, 0), (.iload_n 1, 1, 0, 0), (.invokevirtual 108, 130, 0, 934), (.ifCond .eq 11, 8, 0, 0), (.aload_n 0, 0, 0, 0), (.iload_n 1, 1, 0, 0), (.invokevirtual 161, 144, 0, 995), (.goto 4, 9, 0, 0),
  (.iconst (-1), 0, 0, -1), (.ireturn, 0, 0, 0)]
/-- StreetCriesModel.carry(I)I -/
def jx_c144 : List (Instr × Nat × Nat × Int) := [(.iconst 0, 0, 0, 0), (.istore_n 2, 2, 0, 0), (.iconst 1, 0, 0, 1), (.istore_n 3, 3, 0, 0), (.iload_n 3, 3, 0, 0), (.aload_n 0, 0, 0, 0), (.getfield 19, 4, 9, 812), (.bipush 7, 0, 0, 7),
  (.iload_n 1, 1, 0, 0), (.imul, 0, 0, 0), (.iaload, 0, 0, 0), (.if_icmp .gt 23, 25, 0, 0), (.iload_n 2, 2, 0, 0), (.aload_n 0, 0, 0, 0), (.getfield 19, 4, 9, 812), (.bipush 7, 0, 0, 7),
  (.iload_n 1, 1, 0, 0), (.imul, 0, 0, 0), (.iload_n 3, 3, 0, 0), (.iadd, 0, 0, 0), (.iaload, 0, 0, 0), (.iadd, 0, 0, 0), (.istore_n 2, 2, 0, 0), (.iinc 3 1, 3, 0, 1),
  (.goto (-30), 4, 0, 0), (.aload_n 0, 0, 0, 0), (.getfield 13, 2, 9, 810), (.iconst 4, 0, 0, 4), (.iload_n 1, 1, 0, 0), (.imul, 0, 0, 0), (.iconst 1, 0, 0, 1), (.iadd, 0, 0, 0),
  (.iaload, 0, 0, 0), (.iload_n 2, 2, 0, 0), (.aload_n 0, 0, 0, 0), (.getfield 19, 4, 9, 812), (.bipush 7, 0, 0, 7), (.iload_n 1, 1, 0, 0), (.imul, 0, 0, 0), (.iaload, 0, 0, 0),
  (.idiv, 0, 0, 0), (.iconst 3, 0, 0, 3), (.idiv, 0, 0, 0), (.iadd, 0, 0, 0), (.istore_n 3, 3, 0, 0), (.aload_n 0, 0, 0, 0), (.getfield 152, 6, 9, 814), (.iconst 4, 0, 0, 4),
  (.iand, 0, 0, 0), (.ifCond .le 12, 55, 0, 0), (.iload_n 3, 3, 0, 0), (.iconst 4, 0, 0, 4), (.if_icmp .le 7, 55, 0, 0), (.iconst 4, 0, 0, 4), (.goto 4, 56, 0, 0), (.iload_n 3, 3, 0, 0),
  (.ireturn, 0, 0, 0)]
/-- StreetCriesModel.heard(II)I -/
def jx_c145 : List (Instr × Nat × Nat × Int) := [(.iload_n 1, 1, 0, 0), (.invokestatic 91, 124, 0, 909), (.ifCond .eq 10, 6, 0, 0), (.iload_n 2, 2, 0, 0), (.invokestatic 99, 128, 0, 925), (.ifCond .ne 5, 8, 0, 0), (.iconst (-1), 0, 0, -1), (.ireturn, 0, 0, 0),
  (.iconst 0, 0, 0, 0), (.istore_n 3, 3, 0, 0), (.iconst 0, 0, 0, 0), (.istore 4, 4, 0, 0), (.iload 4, 4, 0, 0), (.aload_n 0, 0, 0, 0), (.getfield 88, 1, 9, 809), (.if_icmp .ge 31, 32, 0, 0),
  (.iload_n 3, 3, 0, 0), (.aload_n 0, 0, 0, 0), (.iload_n 1, 1, 0, 0), (.iload 4, 4, 0, 0), (.iload_n 2, 2, 0, 0), (.invokevirtual 165, 146, 0, 1003), (.ifCond .eq 10, 27, 0, 0), (.iconst 1, 0, 0, 1),
  (.iload 4, 4, 0, 0), (.ishl, 0, 0, 0), (.goto 4, 28, 0, 0), (.iconst 0, 0, 0, 0), (.ior, 0, 0, 0), (.istore_n 3, 3, 0, 0), (.iinc 4 1, 4, 0, 1), (.goto (-34), 12, 0, 0),
  (.iload_n 3, 3, 0, 0), (.ireturn, 0, 0, 0)]
/-- StreetCriesModel.hears(III)Z -/
def jx_c146 : List (Instr × Nat × Nat × Int) := [(.aload_n 0, 0, 0, 0), (.iload_n 2, 2, 0, 0), (.iload_n 3, 3, 0, 0), (.invokevirtual 158, 147, 0, 1007), (.ifCond .eq 32, 22, 0, 0), (.aload_n 0, 0, 0, 0), (.iload_n 2, 2, 0, 0), (.iload_n 3, 3, 0, 0),
  (.invokevirtual 155, 142, 0, 987), (.iload_n 1, 1, 0, 0), (.invokestatic 145, 138, 0, 972), (.aload_n 0, 0, 0, 0), (.iload_n 2, 2, 0, 0), (.invokevirtual 161, 144, 0, 995), (.aload_n 0, 0, 0, 0), (.getfield 7, 0, 9, 808),
  (.iload_n 1, 1, 0, 0), (.iaload, 0, 0, 0), (.isub, 0, 0, 0), (.if_icmp .gt 7, 22, 0, 0), (.iconst 1, 0, 0, 1), (.goto 4, 23, 0, 0), (.iconst 0, 0, 0, 0), (.ireturn, 1, 0, 0)]
/-- StreetCriesModel.cries(II)Z -/
def jx_c147 : List (Instr × Nat × Nat × Int) := [(.aload_n 0, 0, 0, 0), (.iload_n 1, 1, 0, 0), (.iload_n 2, 2, 0, 0), (.invokevirtual 155, 142, 0, 987), (.istore_n 3, 3, 0, 0), (.iload_n 3, 3, 0, 0), (.ifCond .lt 29, 27, 0, 0), (.iload_n 2, 2, 0, 0),
  (.aload_n 0, 0, 0, 0), (.getfield 13, 2, 9, 810), (.iconst 4, 0, 0, 4), (.iload_n 1, 1, 0, 0), (.imul, 0, 0, 0), (.iconst 2, 0, 0, 2), (.iadd, 0, 0, 0), (.iaload, 0, 0, 0),
  (.isub, 0, 0, 0), (.aload_n 0, 0, 0, 0), (.getfield 13, 2, 9, 810), (.iconst 4, 0, 0, 4), (.iload_n 1, 1, 0, 0), (.imul, 0, 0, 0), (.iconst 3, 0, 0, 3), (.iadd, 0, 0, 0),
  (.iaload, 0, 0, 0), (.irem, 0, 0, 0), (.ifCond .le 5, 29, 0, 0), (.iconst 0, 0, 0, 0), (.ireturn, 1, 0, 0), (.aload_n 0, 0, 0, 0), (.getfield 152, 6, 9, 814), (.iconst 1, 0, 0, 1),
  (.iand, 0, 0, 0), (.ifCond .eq 9, 37, 0, 0), (.iload_n 2, 2, 0, 0), (.bipush 60, 0, 0, 60), (.if_icmp .ge 25, 49, 0, 0), (.aload_n 0, 0, 0, 0), (.getfield 152, 6, 9, 814), (.iconst 2, 0, 0, 2),
  (.iand, 0, 0, 0), (.ifCond .eq 12, 47, 0, 0), (.aload_n 0, 0, 0, 0), (.getfield 7, 0, 9, 808), (.iload_n 3, 3, 0, 0), (.iaload, 0, 0, 0), (.ifCond .le 7, 49, 0, 0), (.iconst 1, 0, 0, 1),
  (.goto 4, 50, 0, 0), (.iconst 0, 0, 0, 0), (.istore 4, 4, 0, 0), (.iconst 0, 0, 0, 0), (.istore 5, 5, 0, 0), (.iload 5, 5, 0, 0), (.iload_n 1, 1, 0, 0), (.if_icmp .ge 75, 94, 0, 0),
  (.aload_n 0, 0, 0, 0), (.getfield 152, 6, 9, 814), (.bipush 8, 0, 0, 8), (.iand, 0, 0, 0), (.ifCond .le 65, 94, 0, 0), (.aload_n 0, 0, 0, 0), (.iload 5, 5, 0, 0), (.iload_n 2, 2, 0, 0),
  (.invokevirtual 155, 142, 0, 987), (.istore 6, 6, 0, 0), (.iload 4, 4, 0, 0), (.ifCond .eq 42, 90, 0, 0), (.aload_n 0, 0, 0, 0), (.getfield 13, 2, 9, 810), (.iconst 4, 0, 0, 4), (.iload 5, 5, 0, 0),
  (.imul, 0, 0, 0), (.iaload, 0, 0, 0), (.aload_n 0, 0, 0, 0), (.getfield 13, 2, 9, 810), (.iconst 4, 0, 0, 4), (.iload_n 1, 1, 0, 0), (.imul, 0, 0, 0), (.iaload, 0, 0, 0),
  (.if_icmp .ne 18, 88, 0, 0), (.iload 6, 6, 0, 0), (.ifCond .lt 13, 88, 0, 0), (.iload 6, 6, 0, 0), (.iload_n 3, 3, 0, 0), (.invokestatic 145, 138, 0, 972), (.iconst 3, 0, 0, 3), (.if_icmp .lt 7, 90, 0, 0),
  (.iconst 1, 0, 0, 1), (.goto 4, 91, 0, 0), (.iconst 0, 0, 0, 0), (.istore 4, 4, 0, 0), (.iinc 5 1, 5, 0, 1), (.goto (-75), 53, 0, 0), (.iload 4, 4, 0, 0), (.ireturn, 1, 0, 0)]
/-- StreetCriesModel.apart(II)I -/
def jx_c148 : List (Instr × Nat × Nat × Int) := [(.aload_n 0, 0, 0, 0), (.iload_n 1, 1, 0, 0), (.invokevirtual 108, 130, 0, 934), (.ifCond .eq 20, 13, 0, 0), (.aload_n 0, 0, 0, 0), (.iload_n 2, 2, 0, 0), (.invokevirtual 108, 130, 0, 934), (.ifCond .eq 12, 13, 0, 0),
  (.aload_n 0, 0, 0, 0), (.iload_n 1, 1, 0, 0), (.iload_n 2, 2, 0, 0), (.invokevirtual 173, 149, 0, 1015), (.goto 4, 14, 0, 0), (.iconst (-1), 0, 0, -1), (.ireturn, 0, 0, 0)]
/-- StreetCriesModel.apartOf(II)I -/
def jx_c149 : List (Instr × Nat × Nat × Int) := [(.aload_n 0, 0, 0, 0), (.getfield 19, 4, 9, 812), (.bipush 7, 0, 0, 7), (.iload_n 1, 1, 0, 0), (.imul, 0, 0, 0), (.iconst 1, 0, 0, 1), (.iadd, 0, 0, 0), (.aload_n 0, 0, 0, 0),
  (.getfield 19, 4, 9, 812), (.bipush 7, 0, 0, 7), (.iload_n 1, 1, 0, 0), (.imul, 0, 0, 0), (.iaload, 0, 0, 0), (.aload_n 0, 0, 0, 0), (.getfield 19, 4, 9, 812), (.bipush 7, 0, 0, 7),
  (.iload_n 2, 2, 0, 0), (.imul, 0, 0, 0), (.iconst 1, 0, 0, 1), (.iadd, 0, 0, 0), (.aload_n 0, 0, 0, 0), (.getfield 19, 4, 9, 812), (.bipush 7, 0, 0, 7), (.iload_n 2, 2, 0, 0),
  (.imul, 0, 0, 0), (.iaload, 0, 0, 0), (.invokestatic 169, 150, 0, 1019), (.ireturn, 0, 0, 0)]
/-- StreetCriesModel.off([III[III)I -/
def jx_c150 : List (Instr × Nat × Nat × Int) := [(.iconst 0, 0, 0, 0), (.istore 6, 6, 0, 0), (.iconst 0, 0, 0, 0), (.istore 7, 7, 0, 0), (.iload 7, 7, 0, 0), (.iload_n 2, 2, 0, 0), (.if_icmp .lt 10, 10, 0, 0), (.iload 7, 7, 0, 0),
  (.iload 5, 5, 0, 0), (.if_icmp .ge 60, 41, 0, 0), (.iload 7, 7, 0, 0), (.iload_n 2, 2, 0, 0), (.if_icmp .ge 27, 28, 0, 0), (.iload 7, 7, 0, 0), (.iload 5, 5, 0, 0), (.if_icmp .ge 20, 28, 0, 0),
  (.aload_n 0, 0, 0, 0), (.iload_n 1, 1, 0, 0), (.iload 7, 7, 0, 0), (.iadd, 0, 0, 0), (.iaload, 0, 0, 0), (.aload_n 3, 3, 0, 0), (.iload 4, 4, 0, 0), (.iload 7, 7, 0, 0),
  (.iadd, 0, 0, 0), (.iaload, 0, 0, 0), (.isub, 0, 0, 0), (.goto 4, 29, 0, 0), (.iconst 4, 0, 0, 4), (.istore 8, 8, 0, 0), (.iload 6, 6, 0, 0), (.iload 8, 8, 0, 0),
  (.ifCond .ge 9, 36, 0, 0), (.iload 8, 8, 0, 0), (.ineg, 0, 0, 0), (.goto 5, 37, 0, 0), (.iload 8, 8, 0, 0), (.iadd, 0, 0, 0), (.istore 6, 6, 0, 0), (.iinc 7 1, 7, 0, 1),
  (.goto (-67), 4, 0, 0), (.iload 6, 6, 0, 0), (.ireturn, 0, 0, 0)]
/-- StreetCriesModel.likeness(I)I -/
def jx_c151 : List (Instr × Nat × Nat × Int) := [(.iload_n 1, 1, 0, 0), (.i2l, 0, 0, 0), (.lconst 0, 0, 0, 0), (.ldc2_w 176, 0, 1026, 20), (.invokestatic 82, 125, 0, 913), (.ifCond .ne 5, 8, 0, 0), (.iconst (-1), 0, 0, -1), (.ireturn, 0, 0, 0),
  (.aload_n 0, 0, 0, 0), (.getfield 77, 5, 9, 813), (.istore_n 2, 2, 0, 0), (.aload_n 0, 0, 0, 0), (.iload_n 1, 1, 0, 0), (.putfield 77, 5, 9, 813), (.iload_n 2, 2, 0, 0), (.ireturn, 0, 0, 0)]
/-- StreetCriesModel.bylaw(IZ)I -/
def jx_c152 : List (Instr × Nat × Nat × Int) := [(.iload_n 1, 1, 0, 0), (.i2l, 0, 0, 0), (.lconst 0, 0, 0, 0), (.ldc2_w 97, 0, 924, 3), (.invokestatic 82, 125, 0, 913), (.ifCond .ne 5, 8, 0, 0), (.iconst (-1), 0, 0, -1), (.ireturn, 0, 0, 0),
  (.aload_n 0, 0, 0, 0), (.getfield 152, 6, 9, 814), (.iload_n 1, 1, 0, 0), (.ishr, 0, 0, 0), (.iconst 1, 0, 0, 1), (.iand, 0, 0, 0), (.istore_n 3, 3, 0, 0), (.aload_n 0, 0, 0, 0),
  (.iload_n 2, 2, 0, 0), (.ifCond .eq 14, 25, 0, 0), (.aload_n 0, 0, 0, 0), (.getfield 152, 6, 9, 814), (.iconst 1, 0, 0, 1), (.iload_n 1, 1, 0, 0), (.ishl, 0, 0, 0), (.ior, 0, 0, 0),
  (.goto 13, 33, 0, 0), (.aload_n 0, 0, 0, 0), (.getfield 152, 6, 9, 814), (.iconst 1, 0, 0, 1), (.iload_n 1, 1, 0, 0), (.ishl, 0, 0, 0), (.iconst (-1), 0, 0, -1), (.ixor, 0, 0, 0),
  (.iand, 0, 0, 0), (.putfield 152, 6, 9, 814), (.iload_n 3, 3, 0, 0), (.ireturn, 0, 0, 0)]
/-- StreetCriesModel.count(I)I -/
def jx_c153 : List (Instr × Nat × Nat × Int) := [(.iload_n 1, 1, 0, 0), (.ifCond .ne 10, 5, 0, 0), (.aload_n 0, 0, 0, 0), (.getfield 88, 1, 9, 809), (.goto 43, 25, 0, 0), (.iload_n 1, 1, 0, 0), (.iconst 1, 0, 0, 1), (.if_icmp .ne 10, 11, 0, 0),
  (.aload_n 0, 0, 0, 0), (.getfield 178, 7, 9, 815), (.goto 31, 25, 0, 0), (.iload_n 1, 1, 0, 0), (.iconst 2, 0, 0, 2), (.if_icmp .ne 10, 17, 0, 0), (.aload_n 0, 0, 0, 0), (.getfield 181, 9, 9, 817),
  (.goto 19, 25, 0, 0), (.iload_n 1, 1, 0, 0), (.iconst 3, 0, 0, 3), (.if_icmp .ne 13, 24, 0, 0), (.aload_n 0, 0, 0, 0), (.getfield 152, 6, 9, 814), (.invokestatic 184, 154, 0, 1035), (.goto 4, 25, 0, 0),
  (.iconst (-1), 0, 0, -1), (.ireturn, 0, 0, 0)]
/-- StreetCriesModel.size(I)I -/
def jx_c154 : List (Instr × Nat × Nat × Int) := [(.iconst 0, 0, 0, 0), (.istore_n 1, 1, 0, 0), (.iload_n 0, 0, 0, 0), (.istore_n 2, 2, 0, 0), (.iload_n 2, 2, 0, 0), (.ifCond .eq 15, 14, 0, 0), (.iinc 1 1, 1, 0, 1), (.iload_n 2, 2, 0, 0),
  (.iload_n 2, 2, 0, 0), (.iconst 1, 0, 0, 1), (.isub, 0, 0, 0), (.iand, 0, 0, 0), (.istore_n 2, 2, 0, 0), (.goto (-13), 4, 0, 0), (.iload_n 1, 1, 0, 0), (.ireturn, 0, 0, 0)]
/-- StreetCriesModel.buyer(IIII)I -/
def jx_c155 : List (Instr × Nat × Nat × Int) := [(.iload_n 1, 1, 0, 0), (.invokestatic 91, 124, 0, 909), (.ifCond .eq 40, 21, 0, 0), (.iload_n 2, 2, 0, 0), (.i2l, 0, 0, 0), (.lconst 0, 0, 0, 0), (.ldc2_w 97, 0, 924, 3), (.invokestatic 82, 125, 0, 913),
  (.ifCond .eq 28, 21, 0, 0), (.iload_n 3, 3, 0, 0), (.i2l, 0, 0, 0), (.lconst 0, 0, 0, 0), (.ldc2_w 102, 0, 929, 5), (.invokestatic 82, 125, 0, 913), (.ifCond .eq 16, 21, 0, 0), (.iload 4, 4, 0, 0),
  (.i2l, 0, 0, 0), (.lconst 0, 0, 0, 0), (.ldc2_w 176, 0, 1026, 20), (.invokestatic 82, 125, 0, 913), (.ifCond .ne 5, 23, 0, 0), (.iconst (-1), 0, 0, -1), (.ireturn, 0, 0, 0), (.aload_n 0, 0, 0, 0),
  (.getfield 178, 7, 9, 815), (.bipush 12, 0, 0, 12), (.if_icmp .ne 6, 29, 0, 0), (.bipush (-3), 0, 0, -3), (.ireturn, 0, 0, 0), (.aload_n 0, 0, 0, 0), (.getfield 22, 8, 9, 816), (.iconst 4, 0, 0, 4),
  (.aload_n 0, 0, 0, 0), (.getfield 178, 7, 9, 815), (.imul, 0, 0, 0), (.iload_n 1, 1, 0, 0), (.iastore, 0, 0, 0), (.aload_n 0, 0, 0, 0), (.getfield 22, 8, 9, 816), (.iconst 4, 0, 0, 4),
  (.aload_n 0, 0, 0, 0), (.getfield 178, 7, 9, 815), (.imul, 0, 0, 0), (.iconst 1, 0, 0, 1), (.iadd, 0, 0, 0), (.iload_n 2, 2, 0, 0), (.iastore, 0, 0, 0), (.aload_n 0, 0, 0, 0),
  (.getfield 22, 8, 9, 816), (.iconst 4, 0, 0, 4), (.aload_n 0, 0, 0, 0), (.getfield 178, 7, 9, 815), (.imul, 0, 0, 0), (.iconst 2, 0, 0, 2), (.iadd, 0, 0, 0), (.iload_n 3, 3, 0, 0),
  (.iastore, 0, 0, 0), (.aload_n 0, 0, 0, 0), (.getfield 22, 8, 9, 816), (.iconst 4, 0, 0, 4), (.aload_n 0, 0, 0, 0), (.getfield 178, 7, 9, 815), (.imul, 0, 0, 0), (.iconst 3, 0, 0, 3),
  (.iadd, 0, 0, 0), (.iload 4, 4, 0, 0), (.iastore, 0, 0, 0), (.aload_n 0, 0, 0, 0), (.dup, 0, 0, 0), (.getfield 178, 7, 9, 815), (.iconst 1, 0, 0, 1), (.iadd, 0, 0, 0),
  (.putfield 178, 7, 9, 815), (.aload_n 0, 0, 0, 0), (.getfield 178, 7, 9, 815), (.iconst 1, 0, 0, 1), (.isub, 0, 0, 0), (.ireturn, 0, 0, 0)]
/-- StreetCriesModel.fate(II)I -/
def jx_c156 : List (Instr × Nat × Nat × Int) := [(.iload_n 1, 1, 0, 0), (.i2l, 0, 0, 0), (.lconst 0, 0, 0, 0), (.aload_n 0, 0, 0, 0), (.getfield 178, 7, 9, 815), (.iconst 1, 0, 0, 1), (.isub, 0, 0, 0), (.i2l, 0, 0, 0),
  (.invokestatic 82, 125, 0, 913), (.ifCond .eq 15, 16, 0, 0), (.iload_n 2, 2, 0, 0), (.i2l, 0, 0, 0), (.lconst 0, 0, 0, 0), (.ldc2_w 194, 0, 1046, 2), (.invokestatic 82, 125, 0, 913), (.ifCond .ne 5, 18, 0, 0),
  (.iconst (-1), 0, 0, -1), (.ireturn, 0, 0, 0), (.aload_n 0, 0, 0, 0), (.invokevirtual 196, 157, 0, 1047), (.iload_n 2, 2, 0, 0), (.ifCond .ne 12, 27, 0, 0), (.aload_n 0, 0, 0, 0), (.getfield 44, 19, 9, 827),
  (.iload_n 1, 1, 0, 0), (.iaload, 0, 0, 0), (.goto 23, 39, 0, 0), (.iload_n 2, 2, 0, 0), (.iconst 1, 0, 0, 1), (.if_icmp .ne 12, 35, 0, 0), (.aload_n 0, 0, 0, 0), (.getfield 47, 20, 9, 828),
  (.iload_n 1, 1, 0, 0), (.iaload, 0, 0, 0), (.goto 9, 39, 0, 0), (.aload_n 0, 0, 0, 0), (.getfield 50, 21, 9, 829), (.iload_n 1, 1, 0, 0), (.iaload, 0, 0, 0), (.ireturn, 0, 0, 0)]
/-- StreetCriesModel.minutes()V -/
def jx_c157 : List (Instr × Nat × Nat × Int) := [(.iconst 0, 0, 0, 0), (.istore_n 1, 1, 0, 0), (.iload_n 1, 1, 0, 0), (.aload_n 0, 0, 0, 0), (.getfield 178, 7, 9, 815), (.if_icmp .ge 40, 28, 0, 0), (.aload_n 0, 0, 0, 0), (.getfield 41, 18, 9, 826),
  (.iload_n 1, 1, 0, 0), (.bipush (-4), 0, 0, -4), (.iastore, 0, 0, 0), (.aload_n 0, 0, 0, 0), (.getfield 44, 19, 9, 827), (.iload_n 1, 1, 0, 0), (.bipush (-4), 0, 0, -4), (.iastore, 0, 0, 0),
  (.aload_n 0, 0, 0, 0), (.getfield 47, 20, 9, 828), (.iload_n 1, 1, 0, 0), (.bipush (-4), 0, 0, -4), (.iastore, 0, 0, 0), (.aload_n 0, 0, 0, 0), (.getfield 50, 21, 9, 829), (.iload_n 1, 1, 0, 0),
  (.iconst 0, 0, 0, 0), (.iastore, 0, 0, 0), (.iinc 1 1, 1, 0, 1), (.goto (-42), 2, 0, 0), (.iconst 0, 0, 0, 0), (.istore_n 1, 1, 0, 0), (.iload_n 1, 1, 0, 0), (.bipush 120, 0, 0, 120),
  (.if_icmp .ge 220, 165, 0, 0), (.iconst 0, 0, 0, 0), (.istore_n 2, 2, 0, 0), (.iload_n 2, 2, 0, 0), (.aload_n 0, 0, 0, 0), (.getfield 178, 7, 9, 815), (.if_icmp .ge 204, 163, 0, 0), (.aload_n 0, 0, 0, 0),
  (.getfield 41, 18, 9, 826), (.iload_n 2, 2, 0, 0), (.iaload, 0, 0, 0), (.ifCond .ge 7, 46, 0, 0), (.iconst 1, 0, 0, 1), (.goto 4, 47, 0, 0), (.iconst 0, 0, 0, 0), (.istore_n 3, 3, 0, 0),
  (.aload_n 0, 0, 0, 0), (.getfield 44, 19, 9, 827), (.iload_n 2, 2, 0, 0), (.iaload, 0, 0, 0), (.ifCond .ge 141, 138, 0, 0), (.iload_n 3, 3, 0, 0), (.ifCond .ne 137, 138, 0, 0), (.iload_n 1, 1, 0, 0),
  (.aload_n 0, 0, 0, 0), (.getfield 41, 18, 9, 826), (.iload_n 2, 2, 0, 0), (.iaload, 0, 0, 0), (.if_icmp .lt 127, 138, 0, 0), (.aload_n 0, 0, 0, 0), (.aload_n 0, 0, 0, 0), (.getfield 22, 8, 9, 816),
  (.iconst 4, 0, 0, 4), (.iload_n 2, 2, 0, 0), (.imul, 0, 0, 0), (.iconst 1, 0, 0, 1), (.iadd, 0, 0, 0), (.iaload, 0, 0, 0), (.aload_n 0, 0, 0, 0), (.getfield 22, 8, 9, 816),
  (.iconst 4, 0, 0, 4), (.iload_n 2, 2, 0, 0), (.imul, 0, 0, 0), (.iaload, 0, 0, 0), (.iload_n 1, 1, 0, 0), (.invokevirtual 187, 158, 0, 1051), (.istore 4, 4, 0, 0), (.aload_n 0, 0, 0, 0),
  (.getfield 44, 19, 9, 827), (.iload_n 2, 2, 0, 0), (.iload 4, 4, 0, 0), (.iastore, 0, 0, 0), (.aload_n 0, 0, 0, 0), (.getfield 47, 20, 9, 828), (.iload_n 2, 2, 0, 0), (.iload 4, 4, 0, 0),
  (.ifCond .ge 8, 91, 0, 0), (.bipush (-4), 0, 0, -4), (.goto 4, 92, 0, 0), (.iload_n 1, 1, 0, 0), (.iastore, 0, 0, 0), (.iload 4, 4, 0, 0), (.ifCond .ge 28, 112, 0, 0), (.iload_n 1, 1, 0, 0),
  (.aload_n 0, 0, 0, 0), (.getfield 41, 18, 9, 826), (.iload_n 2, 2, 0, 0), (.iaload, 0, 0, 0), (.isub, 0, 0, 0), (.aload_n 0, 0, 0, 0), (.getfield 22, 8, 9, 816), (.iconst 4, 0, 0, 4),
  (.iload_n 2, 2, 0, 0), (.imul, 0, 0, 0), (.iconst 3, 0, 0, 3), (.iadd, 0, 0, 0), (.iaload, 0, 0, 0), (.if_icmp .lt 7, 112, 0, 0), (.iconst 1, 0, 0, 1), (.goto 4, 113, 0, 0),
  (.iconst 0, 0, 0, 0), (.istore 5, 5, 0, 0), (.aload_n 0, 0, 0, 0), (.getfield 50, 21, 9, 829), (.iload_n 2, 2, 0, 0), (.dup2, 0, 0, 0), (.iaload, 0, 0, 0), (.iload 5, 5, 0, 0),
  (.ifCond .eq 7, 123, 0, 0), (.iconst 1, 0, 0, 1), (.goto 4, 124, 0, 0), (.iconst 0, 0, 0, 0), (.iadd, 0, 0, 0), (.iastore, 0, 0, 0), (.aload_n 0, 0, 0, 0), (.getfield 41, 18, 9, 826),
  (.iload_n 2, 2, 0, 0), (.iload 5, 5, 0, 0), (.ifCond .eq 8, 133, 0, 0), (.bipush (-4), 0, 0, -4), (.goto 9, 137, 0, 0), (.aload_n 0, 0, 0, 0), (.getfield 41, 18, 9, 826), (.iload_n 2, 2, 0, 0),
  (.iaload, 0, 0, 0), (.iastore, 0, 0, 0), (.iload_n 3, 3, 0, 0), (.ifCond .eq 32, 161, 0, 0), (.aload_n 0, 0, 0, 0), (.iload_n 2, 2, 0, 0), (.iload_n 1, 1, 0, 0), (.invokevirtual 191, 159, 0, 1055),
  (.ifCond .eq 23, 161, 0, 0), (.aload_n 0, 0, 0, 0), (.getfield 41, 18, 9, 826), (.iload_n 2, 2, 0, 0), (.iload_n 1, 1, 0, 0), (.aload_n 0, 0, 0, 0), (.getfield 22, 8, 9, 816), (.iconst 4, 0, 0, 4),
  (.iload_n 2, 2, 0, 0), (.imul, 0, 0, 0), (.iconst 2, 0, 0, 2), (.iadd, 0, 0, 0), (.iaload, 0, 0, 0), (.iadd, 0, 0, 0), (.iconst 1, 0, 0, 1), (.iadd, 0, 0, 0),
  (.iastore, 0, 0, 0), (.iinc 2 1, 2, 0, 1), (.goto (-206), 35, 0, 0), (.iinc 1 1, 1, 0, 1), (.goto (-220), 30, 0, 0), (.return_, 0, 0, 0)]
/-- StreetCriesModel.standing(III)I -/
def jx_c158 : List (Instr × Nat × Nat × Int) := [(.bipush (-4), 0, 0, -4), (.istore 4, 4, 0, 0), (.aload_n 0, 0, 0, 0), (.getfield 88, 1, 9, 809), (.iconst 1, 0, 0, 1), (.isub, 0, 0, 0), (.istore 5, 5, 0, 0), (.iload 5, 5, 0, 0),
  (.ifCond .lt 42, 29, 0, 0), (.aload_n 0, 0, 0, 0), (.getfield 13, 2, 9, 810), (.iconst 4, 0, 0, 4), (.iload 5, 5, 0, 0), (.imul, 0, 0, 0), (.iaload, 0, 0, 0), (.iload_n 1, 1, 0, 0),
  (.if_icmp .ne 19, 25, 0, 0), (.aload_n 0, 0, 0, 0), (.iload 5, 5, 0, 0), (.iload_n 3, 3, 0, 0), (.invokevirtual 155, 142, 0, 987), (.iload_n 2, 2, 0, 0), (.if_icmp .ne 8, 25, 0, 0), (.iload 5, 5, 0, 0),
  (.goto 5, 26, 0, 0), (.iload 4, 4, 0, 0), (.istore 4, 4, 0, 0), (.iinc 5 (-1), 5, 0, -1), (.goto (-41), 7, 0, 0), (.iload 4, 4, 0, 0), (.ireturn, 0, 0, 0)]
/-- StreetCriesModel.isCalled(II)Z -/
def jx_c159 : List (Instr × Nat × Nat × Int) := [(.iconst 0, 0, 0, 0), (.istore_n 3, 3, 0, 0), (.iconst 0, 0, 0, 0), (.istore 4, 4, 0, 0), (.iload 4, 4, 0, 0), (.aload_n 0, 0, 0, 0), (.getfield 88, 1, 9, 809), (.if_icmp .ge 96, 59, 0, 0),
  (.iload_n 3, 3, 0, 0), (.ifCond .ne 92, 59, 0, 0), (.aload_n 0, 0, 0, 0), (.aload_n 0, 0, 0, 0), (.getfield 22, 8, 9, 816), (.iconst 4, 0, 0, 4), (.iload_n 1, 1, 0, 0), (.imul, 0, 0, 0),
  (.iaload, 0, 0, 0), (.iload 4, 4, 0, 0), (.iload_n 2, 2, 0, 0), (.invokevirtual 165, 146, 0, 1003), (.ifCond .eq 68, 57, 0, 0), (.iconst 0, 0, 0, 0), (.istore 5, 5, 0, 0), (.iload 5, 5, 0, 0),
  (.aload_n 0, 0, 0, 0), (.getfield 88, 1, 9, 809), (.if_icmp .ge 56, 57, 0, 0), (.iload_n 3, 3, 0, 0), (.ifCond .ne 40, 51, 0, 0), (.aload_n 0, 0, 0, 0), (.getfield 13, 2, 9, 810), (.iconst 4, 0, 0, 4),
  (.iload 5, 5, 0, 0), (.imul, 0, 0, 0), (.iaload, 0, 0, 0), (.aload_n 0, 0, 0, 0), (.getfield 22, 8, 9, 816), (.iconst 4, 0, 0, 4), (.iload_n 1, 1, 0, 0), (.imul, 0, 0, 0),
  (.iconst 1, 0, 0, 1), (.iadd, 0, 0, 0), (.iaload, 0, 0, 0), (.if_icmp .ne 22, 53, 0, 0), (.aload_n 0, 0, 0, 0), (.iload 4, 4, 0, 0), (.iload 5, 5, 0, 0), (.invokevirtual 173, 149, 0, 1015),
  (.aload_n 0, 0, 0, 0), (.getfield 77, 5, 9, 813), (.if_icmp .gt 7, 53, 0, 0), (.iconst 1, 0, 0, 1), (.goto 4, 54, 0, 0), (.iconst 0, 0, 0, 0), (.istore_n 3, 3, 0, 0), (.iinc 5 1, 5, 0, 1),
  (.goto (-59), 23, 0, 0), (.iinc 4 1, 4, 0, 1), (.goto (-99), 4, 0, 0), (.iload_n 3, 3, 0, 0), (.ireturn, 1, 0, 0)]
/-- StreetCriesModel.brings(I)I -/
def jx_c160 : List (Instr × Nat × Nat × Int) := [(.aload_n 0, 0, 0, 0), (.iload_n 1, 1, 0, 0), (.invokevirtual 108, 130, 0, 934), (.ifCond .eq 11, 8, 0, 0), (.aload_n 0, 0, 0, 0), (.iload_n 1, 1, 0, 0), (.invokevirtual 199, 161, 0, 1063), (.goto 4, 9, 0, 0),
  (.iconst (-1), 0, 0, -1), (.ireturn, 0, 0, 0)]
/-- StreetCriesModel.bringsOf(I)I -/
def jx_c161 : List (Instr × Nat × Nat × Int) := [(.aload_n 0, 0, 0, 0), (.invokevirtual 196, 157, 0, 1047), (.iconst 0, 0, 0, 0), (.istore_n 2, 2, 0, 0), (.iconst 0, 0, 0, 0), (.istore_n 3, 3, 0, 0), (.iload_n 3, 3, 0, 0), (.aload_n 0, 0, 0, 0),
  (.getfield 178, 7, 9, 815), (.if_icmp .ge 27, 24, 0, 0), (.iload_n 2, 2, 0, 0), (.aload_n 0, 0, 0, 0), (.getfield 44, 19, 9, 827), (.iload_n 3, 3, 0, 0), (.iaload, 0, 0, 0), (.iload_n 1, 1, 0, 0),
  (.if_icmp .ne 7, 19, 0, 0), (.iconst 1, 0, 0, 1), (.goto 4, 20, 0, 0), (.iconst 0, 0, 0, 0), (.iadd, 0, 0, 0), (.istore_n 2, 2, 0, 0), (.iinc 3 1, 3, 0, 1), (.goto (-29), 6, 0, 0),
  (.iload_n 2, 2, 0, 0), (.ireturn, 0, 0, 0)]
/-- StreetCriesModel.day(I)I -/
def jx_c162 : List (Instr × Nat × Nat × Int) := [(.iload_n 1, 1, 0, 0), (.i2l, 0, 0, 0), (.lconst 0, 0, 0, 0), (.ldc2_w 194, 0, 1046, 2), (.invokestatic 82, 125, 0, 913), (.ifCond .ne 5, 8, 0, 0), (.iconst (-1), 0, 0, -1), (.ireturn, 0, 0, 0),
  (.aload_n 0, 0, 0, 0), (.invokevirtual 196, 157, 0, 1047), (.iconst 0, 0, 0, 0), (.istore_n 2, 2, 0, 0), (.iconst 0, 0, 0, 0), (.istore_n 3, 3, 0, 0), (.iconst 0, 0, 0, 0), (.istore 4, 4, 0, 0),
  (.iload 4, 4, 0, 0), (.aload_n 0, 0, 0, 0), (.getfield 178, 7, 9, 815), (.if_icmp .ge 37, 40, 0, 0), (.iload_n 2, 2, 0, 0), (.aload_n 0, 0, 0, 0), (.getfield 44, 19, 9, 827), (.iload 4, 4, 0, 0),
  (.iaload, 0, 0, 0), (.ifCond .lt 7, 28, 0, 0), (.iconst 1, 0, 0, 1), (.goto 4, 29, 0, 0), (.iconst 0, 0, 0, 0), (.iadd, 0, 0, 0), (.istore_n 2, 2, 0, 0), (.iload_n 3, 3, 0, 0),
  (.aload_n 0, 0, 0, 0), (.getfield 50, 21, 9, 829), (.iload 4, 4, 0, 0), (.iaload, 0, 0, 0), (.iadd, 0, 0, 0), (.istore_n 3, 3, 0, 0), (.iinc 4 1, 4, 0, 1), (.goto (-40), 16, 0, 0),
  (.iconst 0, 0, 0, 0), (.istore 4, 4, 0, 0), (.iconst 0, 0, 0, 0), (.istore 5, 5, 0, 0), (.iload 5, 5, 0, 0), (.bipush 120, 0, 0, 120), (.if_icmp .ge 48, 68, 0, 0), (.iconst 0, 0, 0, 0),
  (.istore 6, 6, 0, 0), (.iload 6, 6, 0, 0), (.aload_n 0, 0, 0, 0), (.getfield 88, 1, 9, 809), (.if_icmp .ge 30, 66, 0, 0), (.iload 4, 4, 0, 0), (.aload_n 0, 0, 0, 0), (.iload 6, 6, 0, 0),
  (.iload 5, 5, 0, 0), (.invokevirtual 158, 147, 0, 1007), (.ifCond .eq 7, 61, 0, 0), (.iconst 1, 0, 0, 1), (.goto 4, 62, 0, 0), (.iconst 0, 0, 0, 0), (.iadd, 0, 0, 0), (.istore 4, 4, 0, 0),
  (.iinc 6 1, 6, 0, 1), (.goto (-33), 49, 0, 0), (.iinc 5 1, 5, 0, 1), (.goto (-49), 44, 0, 0), (.iload_n 1, 1, 0, 0), (.ifCond .ne 7, 72, 0, 0), (.iload_n 2, 2, 0, 0), (.goto 14, 78, 0, 0),
  (.iload_n 1, 1, 0, 0), (.iconst 1, 0, 0, 1), (.if_icmp .ne 7, 77, 0, 0), (.iload_n 3, 3, 0, 0), (.goto 5, 78, 0, 0), (.iload 4, 4, 0, 0), (.ireturn, 0, 0, 0)]
/-- StreetCriesModel.best(II)I -/
def jx_c163 : List (Instr × Nat × Nat × Int) := [(.aload_n 0, 0, 0, 0), (.iload_n 1, 1, 0, 0), (.invokevirtual 108, 130, 0, 934), (.ifCond .eq 15, 10, 0, 0), (.iload_n 2, 2, 0, 0), (.i2l, 0, 0, 0), (.lconst 0, 0, 0, 0), (.ldc2_w 194, 0, 1046, 2),
  (.invokestatic 82, 125, 0, 913), (.ifCond .ne 5, 12, 0, 0), (.iconst (-1), 0, 0, -1), (.ireturn, 0, 0, 0), (.aload_n 0, 0, 0, 0), (.getfield 13, 2, 9, 810), (.iconst 4, 0, 0, 4), (.iload_n 1, 1, 0, 0),
  (.imul, 0, 0, 0), (.iconst 2, 0, 0, 2), (.iadd, 0, 0, 0), (.iaload, 0, 0, 0), (.istore_n 3, 3, 0, 0), (.iconst 0, 0, 0, 0), (.istore 4, 4, 0, 0), (.iconst (-1), 0, 0, -1),
  (.istore 5, 5, 0, 0), (.iconst 0, 0, 0, 0), (.istore 6, 6, 0, 0), (.iload 6, 6, 0, 0), (.bipush 24, 0, 0, 24), (.if_icmp .ge 82, 73, 0, 0), (.aload_n 0, 0, 0, 0), (.getfield 13, 2, 9, 810),
  (.iconst 4, 0, 0, 4), (.iload_n 1, 1, 0, 0), (.imul, 0, 0, 0), (.iconst 2, 0, 0, 2), (.iadd, 0, 0, 0), (.iconst 5, 0, 0, 5), (.iload 6, 6, 0, 0), (.iconst 2, 0, 0, 2),
  (.idiv, 0, 0, 0), (.imul, 0, 0, 0), (.iastore, 0, 0, 0), (.aload_n 0, 0, 0, 0), (.iload 6, 6, 0, 0), (.iconst 2, 0, 0, 2), (.irem, 0, 0, 0), (.iconst 1, 0, 0, 1),
  (.if_icmp .ne 7, 51, 0, 0), (.iload_n 1, 1, 0, 0), (.goto 5, 52, 0, 0), (.bipush (-4), 0, 0, -4), (.putfield 34, 16, 9, 824), (.aload_n 0, 0, 0, 0), (.iload_n 1, 1, 0, 0), (.invokevirtual 199, 161, 0, 1063),
  (.istore 7, 7, 0, 0), (.iload 7, 7, 0, 0), (.iload 5, 5, 0, 0), (.if_icmp .le 8, 62, 0, 0), (.iload 6, 6, 0, 0), (.goto 5, 63, 0, 0), (.iload 4, 4, 0, 0), (.istore 4, 4, 0, 0),
  (.iload 7, 7, 0, 0), (.iload 5, 5, 0, 0), (.if_icmp .le 8, 69, 0, 0), (.iload 7, 7, 0, 0), (.goto 5, 70, 0, 0), (.iload 5, 5, 0, 0), (.istore 5, 5, 0, 0), (.iinc 6 1, 6, 0, 1),
  (.goto (-83), 27, 0, 0), (.aload_n 0, 0, 0, 0), (.bipush (-4), 0, 0, -4), (.putfield 34, 16, 9, 824), (.aload_n 0, 0, 0, 0), (.getfield 13, 2, 9, 810), (.iconst 4, 0, 0, 4), (.iload_n 1, 1, 0, 0),
  (.imul, 0, 0, 0), (.iconst 2, 0, 0, 2), (.iadd, 0, 0, 0), (.iload_n 3, 3, 0, 0), (.iastore, 0, 0, 0), (.iload_n 2, 2, 0, 0), (.ifCond .ne 12, 93, 0, 0), (.iconst 5, 0, 0, 5),
  (.iload 4, 4, 0, 0), (.iconst 2, 0, 0, 2), (.idiv, 0, 0, 0), (.imul, 0, 0, 0), (.goto 17, 101, 0, 0), (.iload_n 2, 2, 0, 0), (.iconst 1, 0, 0, 1), (.if_icmp .ne 10, 100, 0, 0),
  (.iload 4, 4, 0, 0), (.iconst 2, 0, 0, 2), (.irem, 0, 0, 0), (.goto 5, 101, 0, 0), (.iload 5, 5, 0, 0), (.ireturn, 0, 0, 0)]
/-- StreetCriesModel.rests(III)I -/
def jx_c164 : List (Instr × Nat × Nat × Int) := [(.aload_n 0, 0, 0, 0), (.iload_n 1, 1, 0, 0), (.invokevirtual 108, 130, 0, 934), (.ifCond .eq 28, 17, 0, 0), (.aload_n 0, 0, 0, 0), (.iload_n 2, 2, 0, 0), (.invokevirtual 108, 130, 0, 934), (.ifCond .eq 20, 17, 0, 0),
  (.iload_n 1, 1, 0, 0), (.iload_n 2, 2, 0, 0), (.if_icmp .eq 15, 17, 0, 0), (.iload_n 3, 3, 0, 0), (.i2l, 0, 0, 0), (.lconst 0, 0, 0, 0), (.ldc2_w 194, 0, 1046, 2), (.invokestatic 82, 125, 0, 913),
  (.ifCond .ne 5, 19, 0, 0), (.iconst (-1), 0, 0, -1), (.ireturn, 0, 0, 0), (.aload_n 0, 0, 0, 0), (.getfield 13, 2, 9, 810), (.iconst 4, 0, 0, 4), (.iload_n 1, 1, 0, 0), (.imul, 0, 0, 0),
  (.iconst 2, 0, 0, 2), (.iadd, 0, 0, 0), (.iaload, 0, 0, 0), (.istore 4, 4, 0, 0), (.aload_n 0, 0, 0, 0), (.getfield 13, 2, 9, 810), (.iconst 4, 0, 0, 4), (.iload_n 2, 2, 0, 0),
  (.imul, 0, 0, 0), (.iconst 2, 0, 0, 2), (.iadd, 0, 0, 0), (.iaload, 0, 0, 0), (.istore 5, 5, 0, 0), (.iconst 0, 0, 0, 0), (.istore 6, 6, 0, 0), (.iload 6, 6, 0, 0),
  (.bipush 36, 0, 0, 36), (.if_icmp .ge 109, 106, 0, 0), (.aload_n 0, 0, 0, 0), (.getfield 13, 2, 9, 810), (.iconst 4, 0, 0, 4), (.iload_n 1, 1, 0, 0), (.imul, 0, 0, 0), (.iconst 2, 0, 0, 2),
  (.iadd, 0, 0, 0), (.bipush 10, 0, 0, 10), (.iload 6, 6, 0, 0), (.bipush 6, 0, 0, 6), (.idiv, 0, 0, 0), (.imul, 0, 0, 0), (.iastore, 0, 0, 0), (.aload_n 0, 0, 0, 0),
  (.getfield 13, 2, 9, 810), (.iconst 4, 0, 0, 4), (.iload_n 2, 2, 0, 0), (.imul, 0, 0, 0), (.iconst 2, 0, 0, 2), (.iadd, 0, 0, 0), (.bipush 10, 0, 0, 10), (.iload 6, 6, 0, 0),
  (.bipush 6, 0, 0, 6), (.irem, 0, 0, 0), (.imul, 0, 0, 0), (.iastore, 0, 0, 0), (.aload_n 0, 0, 0, 0), (.getfield 53, 22, 9, 830), (.iload 6, 6, 0, 0), (.aload_n 0, 0, 0, 0),
  (.iload_n 1, 1, 0, 0), (.invokevirtual 199, 161, 0, 1063), (.iastore, 0, 0, 0), (.aload_n 0, 0, 0, 0), (.getfield 56, 23, 9, 831), (.iload 6, 6, 0, 0), (.iconst 0, 0, 0, 0), (.iastore, 0, 0, 0),
  (.iconst 0, 0, 0, 0), (.istore 7, 7, 0, 0), (.iload 7, 7, 0, 0), (.aload_n 0, 0, 0, 0), (.getfield 178, 7, 9, 815), (.if_icmp .ge 35, 104, 0, 0), (.aload_n 0, 0, 0, 0), (.getfield 56, 23, 9, 831),
  (.iload 6, 6, 0, 0), (.dup2, 0, 0, 0), (.iaload, 0, 0, 0), (.aload_n 0, 0, 0, 0), (.getfield 44, 19, 9, 827), (.iload 7, 7, 0, 0), (.iaload, 0, 0, 0), (.iload_n 2, 2, 0, 0),
  (.if_icmp .ne 7, 99, 0, 0), (.iconst 1, 0, 0, 1), (.goto 4, 100, 0, 0), (.iconst 0, 0, 0, 0), (.iadd, 0, 0, 0), (.iastore, 0, 0, 0), (.iinc 7 1, 7, 0, 1), (.goto (-38), 82, 0, 0),
  (.iinc 6 1, 6, 0, 1), (.goto (-110), 39, 0, 0), (.aload_n 0, 0, 0, 0), (.getfield 13, 2, 9, 810), (.iconst 4, 0, 0, 4), (.iload_n 1, 1, 0, 0), (.imul, 0, 0, 0), (.iconst 2, 0, 0, 2),
  (.iadd, 0, 0, 0), (.iload 4, 4, 0, 0), (.iastore, 0, 0, 0), (.aload_n 0, 0, 0, 0), (.getfield 13, 2, 9, 810), (.iconst 4, 0, 0, 4), (.iload_n 2, 2, 0, 0), (.imul, 0, 0, 0),
  (.iconst 2, 0, 0, 2), (.iadd, 0, 0, 0), (.iload 5, 5, 0, 0), (.iastore, 0, 0, 0), (.iconst 0, 0, 0, 0), (.istore 6, 6, 0, 0), (.bipush (-4), 0, 0, -4), (.istore 7, 7, 0, 0),
  (.bipush 35, 0, 0, 35), (.istore 8, 8, 0, 0), (.iload 8, 8, 0, 0), (.ifCond .lt 121, 193, 0, 0), (.iconst 1, 0, 0, 1), (.istore 9, 9, 0, 0), (.iconst 0, 0, 0, 0), (.istore 10, 10, 0, 0),
  (.iload 10, 10, 0, 0), (.bipush 6, 0, 0, 6), (.if_icmp .ge 73, 177, 0, 0), (.iload 9, 9, 0, 0), (.ifCond .eq 59, 173, 0, 0), (.aload_n 0, 0, 0, 0), (.getfield 53, 22, 9, 830), (.bipush 6, 0, 0, 6),
  (.iload 10, 10, 0, 0), (.imul, 0, 0, 0), (.iload 8, 8, 0, 0), (.bipush 6, 0, 0, 6), (.irem, 0, 0, 0), (.iadd, 0, 0, 0), (.iaload, 0, 0, 0), (.aload_n 0, 0, 0, 0),
  (.getfield 53, 22, 9, 830), (.iload 8, 8, 0, 0), (.iaload, 0, 0, 0), (.if_icmp .gt 33, 173, 0, 0), (.aload_n 0, 0, 0, 0), (.getfield 56, 23, 9, 831), (.iload 8, 8, 0, 0), (.bipush 6, 0, 0, 6),
  (.idiv, 0, 0, 0), (.bipush 6, 0, 0, 6), (.imul, 0, 0, 0), (.iload 10, 10, 0, 0), (.iadd, 0, 0, 0), (.iaload, 0, 0, 0), (.aload_n 0, 0, 0, 0), (.getfield 56, 23, 9, 831),
  (.iload 8, 8, 0, 0), (.iaload, 0, 0, 0), (.if_icmp .gt 7, 173, 0, 0), (.iconst 1, 0, 0, 1), (.goto 4, 174, 0, 0), (.iconst 0, 0, 0, 0), (.istore 9, 9, 0, 0), (.iinc 10 1, 10, 0, 1),
  (.goto (-74), 136, 0, 0), (.iload 6, 6, 0, 0), (.iload 9, 9, 0, 0), (.ifCond .eq 7, 182, 0, 0), (.iconst 1, 0, 0, 1), (.goto 4, 183, 0, 0), (.iconst 0, 0, 0, 0), (.iadd, 0, 0, 0),
  (.istore 6, 6, 0, 0), (.iload 9, 9, 0, 0), (.ifCond .eq 8, 189, 0, 0), (.iload 8, 8, 0, 0), (.goto 5, 190, 0, 0), (.iload 7, 7, 0, 0), (.istore 7, 7, 0, 0), (.iinc 8 (-1), 8, 0, -1),
  (.goto (-120), 130, 0, 0), (.iload_n 3, 3, 0, 0), (.ifCond .ne 8, 197, 0, 0), (.iload 6, 6, 0, 0), (.goto 34, 213, 0, 0), (.iload 7, 7, 0, 0), (.ifCond .ge 8, 201, 0, 0), (.bipush (-4), 0, 0, -4),
  (.goto 24, 213, 0, 0), (.bipush 10, 0, 0, 10), (.iload_n 3, 3, 0, 0), (.iconst 1, 0, 0, 1), (.if_icmp .ne 11, 209, 0, 0), (.iload 7, 7, 0, 0), (.bipush 6, 0, 0, 6), (.idiv, 0, 0, 0),
  (.goto 8, 212, 0, 0), (.iload 7, 7, 0, 0), (.bipush 6, 0, 0, 6), (.irem, 0, 0, 0), (.imul, 0, 0, 0), (.ireturn, 0, 0, 0)]
/-- StreetCriesModel.fresh(IIII)I -/
def jx_c165 : List (Instr × Nat × Nat × Int) := [(.iload_n 1, 1, 0, 0), (.i2l, 0, 0, 0), (.lconst 1, 0, 0, 1), (.ldc2_w 97, 0, 924, 3), (.invokestatic 82, 125, 0, 913), (.ifCond .eq 43, 27, 0, 0), (.iload_n 2, 2, 0, 0), (.i2l, 0, 0, 0),
  (.lconst 1, 0, 0, 1), (.ldc2_w 95, 0, 916, 9), (.invokestatic 82, 125, 0, 913), (.ifCond .eq 31, 27, 0, 0), (.iload_n 3, 3, 0, 0), (.i2l, 0, 0, 0), (.lconst 0, 0, 0, 0), (.ldc2_w 205, 0, 1083, 12),
  (.invokestatic 82, 125, 0, 913), (.ifCond .eq 19, 27, 0, 0), (.iload 4, 4, 0, 0), (.i2l, 0, 0, 0), (.ldc2_w 207, 0, 1084, -1), (.iload_n 1, 1, 0, 0), (.iconst 1, 0, 0, 1), (.isub, 0, 0, 0),
  (.i2l, 0, 0, 0), (.invokestatic 82, 125, 0, 913), (.ifCond .ne 5, 29, 0, 0), (.iconst (-1), 0, 0, -1), (.ireturn, 0, 0, 0), (.bipush (-4), 0, 0, -4), (.istore 5, 5, 0, 0), (.iconst (-1), 0, 0, -1),
  (.istore 6, 6, 0, 0), (.iload_n 1, 1, 0, 0), (.iconst 1, 0, 0, 1), (.if_icmp .ne 8, 38, 0, 0), (.bipush 10, 0, 0, 10), (.goto 16, 44, 0, 0), (.iload_n 1, 1, 0, 0), (.iconst 2, 0, 0, 2),
  (.if_icmp .ne 8, 43, 0, 0), (.bipush 100, 0, 0, 100), (.goto 6, 44, 0, 0), (.sipush 1000, 0, 0, 1000), (.istore 7, 7, 0, 0), (.iconst 0, 0, 0, 0), (.istore 8, 8, 0, 0), (.iload 8, 8, 0, 0),
  (.iload 7, 7, 0, 0), (.if_icmp .ge 117, 113, 0, 0), (.aload_n 0, 0, 0, 0), (.iload 8, 8, 0, 0), (.iload_n 1, 1, 0, 0), (.invokevirtual 209, 166, 0, 1085), (.aload_n 0, 0, 0, 0), (.getfield 59, 24, 9, 832),
  (.iconst 0, 0, 0, 0), (.iaload, 0, 0, 0), (.iload_n 1, 1, 0, 0), (.iconst 1, 0, 0, 1), (.if_icmp .le 12, 66, 0, 0), (.aload_n 0, 0, 0, 0), (.getfield 59, 24, 9, 832), (.iconst 1, 0, 0, 1),
  (.iaload, 0, 0, 0), (.goto 4, 67, 0, 0), (.iconst 0, 0, 0, 0), (.iadd, 0, 0, 0), (.iload_n 1, 1, 0, 0), (.iconst 2, 0, 0, 2), (.if_icmp .le 12, 76, 0, 0), (.aload_n 0, 0, 0, 0),
  (.getfield 59, 24, 9, 832), (.iconst 2, 0, 0, 2), (.iaload, 0, 0, 0), (.goto 4, 77, 0, 0), (.iconst 0, 0, 0, 0), (.iadd, 0, 0, 0), (.istore 9, 9, 0, 0), (.aload_n 0, 0, 0, 0),
  (.iload_n 1, 1, 0, 0), (.invokevirtual 213, 167, 0, 1089), (.istore 10, 10, 0, 0), (.iload_n 2, 2, 0, 0), (.iload 9, 9, 0, 0), (.iload_n 1, 1, 0, 0), (.idiv, 0, 0, 0), (.iconst 3, 0, 0, 3),
  (.idiv, 0, 0, 0), (.iadd, 0, 0, 0), (.iload_n 3, 3, 0, 0), (.if_icmp .lt 14, 97, 0, 0), (.iload 10, 10, 0, 0), (.iload 6, 6, 0, 0), (.if_icmp .le 7, 97, 0, 0), (.iconst 1, 0, 0, 1),
  (.goto 4, 98, 0, 0), (.iconst 0, 0, 0, 0), (.istore 11, 11, 0, 0), (.iload 11, 11, 0, 0), (.ifCond .eq 8, 103, 0, 0), (.iload 8, 8, 0, 0), (.goto 5, 104, 0, 0), (.iload 5, 5, 0, 0),
  (.istore 5, 5, 0, 0), (.iload 11, 11, 0, 0), (.ifCond .eq 8, 109, 0, 0), (.iload 10, 10, 0, 0), (.goto 5, 110, 0, 0), (.iload 6, 6, 0, 0), (.istore 6, 6, 0, 0), (.iinc 8 1, 8, 0, 1),
  (.goto (-118), 47, 0, 0), (.iload 5, 5, 0, 0), (.ifCond .ge 6, 117, 0, 0), (.bipush (-4), 0, 0, -4), (.ireturn, 0, 0, 0), (.aload_n 0, 0, 0, 0), (.iload 5, 5, 0, 0), (.iload_n 1, 1, 0, 0),
  (.invokevirtual 209, 166, 0, 1085), (.iload 4, 4, 0, 0), (.ifCond .ge 8, 125, 0, 0), (.iload 6, 6, 0, 0), (.goto 10, 129, 0, 0), (.aload_n 0, 0, 0, 0), (.getfield 59, 24, 9, 832), (.iload 4, 4, 0, 0),
  (.iaload, 0, 0, 0), (.ireturn, 0, 0, 0)]
/-- StreetCriesModel.lays(II)V -/
def jx_c166 : List (Instr × Nat × Nat × Int) := [(.iload_n 1, 1, 0, 0), (.istore_n 3, 3, 0, 0), (.iload_n 2, 2, 0, 0), (.iconst 1, 0, 0, 1), (.isub, 0, 0, 0), (.istore 4, 4, 0, 0), (.iload 4, 4, 0, 0), (.ifCond .lt 25, 21, 0, 0),
  (.aload_n 0, 0, 0, 0), (.getfield 59, 24, 9, 832), (.iload 4, 4, 0, 0), (.iload_n 3, 3, 0, 0), (.bipush 10, 0, 0, 10), (.irem, 0, 0, 0), (.iastore, 0, 0, 0), (.iload_n 3, 3, 0, 0),
  (.bipush 10, 0, 0, 10), (.idiv, 0, 0, 0), (.istore_n 3, 3, 0, 0), (.iinc 4 (-1), 4, 0, -1), (.goto (-24), 6, 0, 0), (.return_, 0, 0, 0)]
/-- StreetCriesModel.nearestOff(I)I -/
def jx_c167 : List (Instr × Nat × Nat × Int) := [(.iconst 0, 0, 0, 0), (.istore_n 2, 2, 0, 0), (.aload_n 0, 0, 0, 0), (.bipush (-4), 0, 0, -4), (.putfield 202, 25, 9, 833), (.iconst 0, 0, 0, 0), (.istore_n 3, 3, 0, 0), (.iload_n 3, 3, 0, 0),
  (.aload_n 0, 0, 0, 0), (.getfield 88, 1, 9, 809), (.if_icmp .ge 88, 56, 0, 0), (.aload_n 0, 0, 0, 0), (.getfield 59, 24, 9, 832), (.iconst 0, 0, 0, 0), (.iload_n 1, 1, 0, 0), (.aload_n 0, 0, 0, 0),
  (.getfield 19, 4, 9, 812), (.bipush 7, 0, 0, 7), (.iload_n 3, 3, 0, 0), (.imul, 0, 0, 0), (.iconst 1, 0, 0, 1), (.iadd, 0, 0, 0), (.aload_n 0, 0, 0, 0), (.getfield 19, 4, 9, 812),
  (.bipush 7, 0, 0, 7), (.iload_n 3, 3, 0, 0), (.imul, 0, 0, 0), (.iaload, 0, 0, 0), (.invokestatic 169, 150, 0, 1019), (.istore 4, 4, 0, 0), (.aload_n 0, 0, 0, 0), (.getfield 202, 25, 9, 833),
  (.ifCond .lt 9, 36, 0, 0), (.iload 4, 4, 0, 0), (.iload_n 2, 2, 0, 0), (.if_icmp .ge 7, 38, 0, 0), (.iconst 1, 0, 0, 1), (.goto 4, 39, 0, 0), (.iconst 0, 0, 0, 0), (.istore 5, 5, 0, 0),
  (.aload_n 0, 0, 0, 0), (.iload 5, 5, 0, 0), (.ifCond .eq 7, 45, 0, 0), (.iload_n 3, 3, 0, 0), (.goto 7, 47, 0, 0), (.aload_n 0, 0, 0, 0), (.getfield 202, 25, 9, 833), (.putfield 202, 25, 9, 833),
  (.iload 5, 5, 0, 0), (.ifCond .eq 8, 52, 0, 0), (.iload 4, 4, 0, 0), (.goto 4, 53, 0, 0), (.iload_n 2, 2, 0, 0), (.istore_n 2, 2, 0, 0), (.iinc 3 1, 3, 0, 1), (.goto (-90), 7, 0, 0),
  (.iload_n 2, 2, 0, 0), (.ireturn, 0, 0, 0)]
/-- StreetCriesModel.loudness(I)I -/
def jx_c168 : List (Instr × Nat × Nat × Int) := [(.iload_n 1, 1, 0, 0), (.invokestatic 91, 124, 0, 909), (.ifCond .eq 11, 7, 0, 0), (.aload_n 0, 0, 0, 0), (.iload_n 1, 1, 0, 0), (.invokevirtual 216, 169, 0, 1097), (.goto 4, 8, 0, 0), (.iconst (-1), 0, 0, -1),
  (.ireturn, 0, 0, 0)]
/-- StreetCriesModel.loudnessOf(I)I -/
def jx_c169 : List (Instr × Nat × Nat × Int) := [(.iconst 0, 0, 0, 0), (.istore_n 2, 2, 0, 0), (.iconst 0, 0, 0, 0), (.istore_n 3, 3, 0, 0), (.iload_n 3, 3, 0, 0), (.bipush 120, 0, 0, 120), (.if_icmp .ge 46, 29, 0, 0), (.iconst 0, 0, 0, 0),
  (.istore 4, 4, 0, 0), (.iload 4, 4, 0, 0), (.aload_n 0, 0, 0, 0), (.getfield 88, 1, 9, 809), (.if_icmp .ge 28, 27, 0, 0), (.iload_n 2, 2, 0, 0), (.aload_n 0, 0, 0, 0), (.iload_n 1, 1, 0, 0),
  (.iload 4, 4, 0, 0), (.iload_n 3, 3, 0, 0), (.invokevirtual 165, 146, 0, 1003), (.ifCond .eq 7, 22, 0, 0), (.iconst 1, 0, 0, 1), (.goto 4, 23, 0, 0), (.iconst 0, 0, 0, 0), (.iadd, 0, 0, 0),
  (.istore_n 2, 2, 0, 0), (.iinc 4 1, 4, 0, 1), (.goto (-31), 9, 0, 0), (.iinc 3 1, 3, 0, 1), (.goto (-46), 4, 0, 0), (.iload_n 2, 2, 0, 0), (.ireturn, 0, 0, 0)]
/-- StreetCriesModel.quiet(II)I -/
def jx_c170 : List (Instr × Nat × Nat × Int) := [(.iload_n 1, 1, 0, 0), (.invokestatic 91, 124, 0, 909), (.ifCond .eq 15, 9, 0, 0), (.iload_n 2, 2, 0, 0), (.i2l, 0, 0, 0), (.lconst 0, 0, 0, 0), (.ldc2_w 219, 0, 1105, 999), (.invokestatic 82, 125, 0, 913),
  (.ifCond .ne 5, 11, 0, 0), (.iconst (-1), 0, 0, -1), (.ireturn, 0, 0, 0), (.aload_n 0, 0, 0, 0), (.getfield 152, 6, 9, 814), (.istore_n 3, 3, 0, 0), (.bipush (-4), 0, 0, -4), (.istore 4, 4, 0, 0),
  (.iconst 0, 0, 0, 0), (.istore 5, 5, 0, 0), (.iload 5, 5, 0, 0), (.bipush 16, 0, 0, 16), (.if_icmp .ge 63, 48, 0, 0), (.aload_n 0, 0, 0, 0), (.iload 5, 5, 0, 0), (.putfield 152, 6, 9, 814),
  (.iload 4, 4, 0, 0), (.ifCond .lt 16, 31, 0, 0), (.iload 5, 5, 0, 0), (.invokestatic 184, 154, 0, 1035), (.iload 4, 4, 0, 0), (.invokestatic 184, 154, 0, 1035), (.if_icmp .ge 7, 33, 0, 0), (.iconst 1, 0, 0, 1),
  (.goto 4, 34, 0, 0), (.iconst 0, 0, 0, 0), (.istore 6, 6, 0, 0), (.iload 6, 6, 0, 0), (.ifCond .eq 17, 44, 0, 0), (.aload_n 0, 0, 0, 0), (.iload_n 1, 1, 0, 0), (.invokevirtual 216, 169, 0, 1097),
  (.iload_n 2, 2, 0, 0), (.if_icmp .gt 8, 44, 0, 0), (.iload 5, 5, 0, 0), (.goto 5, 45, 0, 0), (.iload 4, 4, 0, 0), (.istore 4, 4, 0, 0), (.iinc 5 1, 5, 0, 1), (.goto (-64), 18, 0, 0),
  (.aload_n 0, 0, 0, 0), (.iload_n 3, 3, 0, 0), (.putfield 152, 6, 9, 814), (.iload 4, 4, 0, 0), (.ireturn, 0, 0, 0)]
/-- StreetCriesModel.costs(II)I -/
def jx_c171 : List (Instr × Nat × Nat × Int) := [(.iload_n 1, 1, 0, 0), (.i2l, 0, 0, 0), (.lconst 0, 0, 0, 0), (.ldc2_w 97, 0, 924, 3), (.invokestatic 82, 125, 0, 913), (.ifCond .eq 11, 10, 0, 0), (.aload_n 0, 0, 0, 0), (.iload_n 2, 2, 0, 0),
  (.invokevirtual 108, 130, 0, 934), (.ifCond .ne 6, 12, 0, 0), (.ldc 221, 0, 1110, -100001), (.ireturn, 0, 0, 0), (.aload_n 0, 0, 0, 0), (.getfield 152, 6, 9, 814), (.istore_n 3, 3, 0, 0), (.aload_n 0, 0, 0, 0),
  (.iload_n 2, 2, 0, 0), (.invokevirtual 199, 161, 0, 1063), (.istore 4, 4, 0, 0), (.aload_n 0, 0, 0, 0), (.dup, 0, 0, 0), (.getfield 152, 6, 9, 814), (.iconst 1, 0, 0, 1), (.iload_n 1, 1, 0, 0),
  (.ishl, 0, 0, 0), (.ior, 0, 0, 0), (.putfield 152, 6, 9, 814), (.aload_n 0, 0, 0, 0), (.iload_n 2, 2, 0, 0), (.invokevirtual 199, 161, 0, 1063), (.istore 5, 5, 0, 0), (.aload_n 0, 0, 0, 0),
  (.iload_n 3, 3, 0, 0), (.putfield 152, 6, 9, 814), (.iload 4, 4, 0, 0), (.iload 5, 5, 0, 0), (.isub, 0, 0, 0), (.ireturn, 0, 0, 0)]
/-- StreetCriesModel.window(IIZ)I -/
def jx_c172 : List (Instr × Nat × Nat × Int) := [(.iload_n 1, 1, 0, 0), (.invokestatic 91, 124, 0, 909), (.ifCond .eq 10, 6, 0, 0), (.iload_n 2, 2, 0, 0), (.invokestatic 99, 128, 0, 925), (.ifCond .ne 5, 8, 0, 0), (.iconst (-1), 0, 0, -1), (.ireturn, 0, 0, 0),
  (.aload_n 0, 0, 0, 0), (.getfield 181, 9, 9, 817), (.bipush 12, 0, 0, 12), (.if_icmp .ne 6, 14, 0, 0), (.bipush (-3), 0, 0, -3), (.ireturn, 0, 0, 0), (.aload_n 0, 0, 0, 0), (.getfield 25, 10, 9, 818),
  (.iconst 3, 0, 0, 3), (.aload_n 0, 0, 0, 0), (.getfield 181, 9, 9, 817), (.imul, 0, 0, 0), (.iload_n 1, 1, 0, 0), (.iastore, 0, 0, 0), (.aload_n 0, 0, 0, 0), (.getfield 25, 10, 9, 818),
  (.iconst 3, 0, 0, 3), (.aload_n 0, 0, 0, 0), (.getfield 181, 9, 9, 817), (.imul, 0, 0, 0), (.iconst 1, 0, 0, 1), (.iadd, 0, 0, 0), (.iload_n 2, 2, 0, 0), (.iastore, 0, 0, 0),
  (.aload_n 0, 0, 0, 0), (.getfield 25, 10, 9, 818), (.iconst 3, 0, 0, 3), (.aload_n 0, 0, 0, 0), (.getfield 181, 9, 9, 817), (.imul, 0, 0, 0), (.iconst 2, 0, 0, 2), (.iadd, 0, 0, 0),
  (.iload_n 3, 3, 0, 0), (.ifCond .eq 7, 44, 0, 0), (.iconst 1, 0, 0, 1), (.goto 4, 45, 0, 0), (.iconst 0, 0, 0, 0), (.iastore, 0, 0, 0), (.aload_n 0, 0, 0, 0), (.dup, 0, 0, 0),
  (.getfield 181, 9, 9, 817), (.iconst 1, 0, 0, 1), (.iadd, 0, 0, 0), (.putfield 181, 9, 9, 817), (.aload_n 0, 0, 0, 0), (.getfield 181, 9, 9, 817), (.ireturn, 0, 0, 0)]
/-- StreetCriesModel.went(II)I -/
def jx_c173 : List (Instr × Nat × Nat × Int) := [(.aload_n 0, 0, 0, 0), (.iload_n 1, 1, 0, 0), (.invokevirtual 108, 130, 0, 934), (.ifCond .eq 15, 10, 0, 0), (.iload_n 2, 2, 0, 0), (.i2l, 0, 0, 0), (.lconst 0, 0, 0, 0), (.ldc2_w 194, 0, 1046, 2),
  (.invokestatic 82, 125, 0, 913), (.ifCond .ne 5, 12, 0, 0), (.iconst (-1), 0, 0, -1), (.ireturn, 0, 0, 0), (.aload_n 0, 0, 0, 0), (.getfield 13, 2, 9, 810), (.iconst 4, 0, 0, 4), (.iload_n 1, 1, 0, 0),
  (.imul, 0, 0, 0), (.iconst 2, 0, 0, 2), (.iadd, 0, 0, 0), (.iaload, 0, 0, 0), (.istore_n 3, 3, 0, 0), (.iconst 0, 0, 0, 0), (.istore 4, 4, 0, 0), (.bipush (-4), 0, 0, -4),
  (.istore 5, 5, 0, 0), (.bipush (-4), 0, 0, -4), (.istore 6, 6, 0, 0), (.aload_n 0, 0, 0, 0), (.iload_n 1, 1, 0, 0), (.putfield 38, 17, 9, 825), (.iconst 0, 0, 0, 0), (.istore 7, 7, 0, 0),
  (.iload 7, 7, 0, 0), (.bipush 120, 0, 0, 120), (.if_icmp .ge 150, 115, 0, 0), (.aload_n 0, 0, 0, 0), (.getfield 13, 2, 9, 810), (.iconst 4, 0, 0, 4), (.iload_n 1, 1, 0, 0), (.imul, 0, 0, 0),
  (.iconst 2, 0, 0, 2), (.iadd, 0, 0, 0), (.iload 7, 7, 0, 0), (.iastore, 0, 0, 0), (.iconst 1, 0, 0, 1), (.istore 8, 8, 0, 0), (.iconst 0, 0, 0, 0), (.istore 9, 9, 0, 0),
  (.iload 9, 9, 0, 0), (.aload_n 0, 0, 0, 0), (.getfield 181, 9, 9, 817), (.if_icmp .ge 69, 91, 0, 0), (.iload 8, 8, 0, 0), (.ifCond .eq 55, 87, 0, 0), (.aload_n 0, 0, 0, 0), (.aload_n 0, 0, 0, 0),
  (.getfield 25, 10, 9, 818), (.iconst 3, 0, 0, 3), (.iload 9, 9, 0, 0), (.imul, 0, 0, 0), (.iaload, 0, 0, 0), (.iload_n 1, 1, 0, 0), (.aload_n 0, 0, 0, 0), (.getfield 25, 10, 9, 818),
  (.iconst 3, 0, 0, 3), (.iload 9, 9, 0, 0), (.imul, 0, 0, 0), (.iconst 1, 0, 0, 1), (.iadd, 0, 0, 0), (.iaload, 0, 0, 0), (.invokevirtual 165, 146, 0, 1003), (.aload_n 0, 0, 0, 0),
  (.getfield 25, 10, 9, 818), (.iconst 3, 0, 0, 3), (.iload 9, 9, 0, 0), (.imul, 0, 0, 0), (.iconst 2, 0, 0, 2), (.iadd, 0, 0, 0), (.iaload, 0, 0, 0), (.iconst 1, 0, 0, 1),
  (.if_icmp .ne 7, 83, 0, 0), (.iconst 1, 0, 0, 1), (.goto 4, 84, 0, 0), (.iconst 0, 0, 0, 0), (.if_icmp .ne 7, 87, 0, 0), (.iconst 1, 0, 0, 1), (.goto 4, 88, 0, 0), (.iconst 0, 0, 0, 0),
  (.istore 8, 8, 0, 0), (.iinc 9 1, 9, 0, 1), (.goto (-72), 48, 0, 0), (.iload 4, 4, 0, 0), (.iload 8, 8, 0, 0), (.ifCond .eq 7, 96, 0, 0), (.iconst 1, 0, 0, 1), (.goto 4, 97, 0, 0),
  (.iconst 0, 0, 0, 0), (.iadd, 0, 0, 0), (.istore 4, 4, 0, 0), (.iload 8, 8, 0, 0), (.ifCond .eq 13, 105, 0, 0), (.iload 5, 5, 0, 0), (.ifCond .ge 8, 105, 0, 0), (.iload 7, 7, 0, 0),
  (.goto 5, 106, 0, 0), (.iload 5, 5, 0, 0), (.istore 5, 5, 0, 0), (.iload 8, 8, 0, 0), (.ifCond .eq 8, 111, 0, 0), (.iload 7, 7, 0, 0), (.goto 5, 112, 0, 0), (.iload 6, 6, 0, 0),
  (.istore 6, 6, 0, 0), (.iinc 7 1, 7, 0, 1), (.goto (-151), 32, 0, 0), (.aload_n 0, 0, 0, 0), (.bipush (-4), 0, 0, -4), (.putfield 38, 17, 9, 825), (.aload_n 0, 0, 0, 0), (.getfield 13, 2, 9, 810),
  (.iconst 4, 0, 0, 4), (.iload_n 1, 1, 0, 0), (.imul, 0, 0, 0), (.iconst 2, 0, 0, 2), (.iadd, 0, 0, 0), (.iload_n 3, 3, 0, 0), (.iastore, 0, 0, 0), (.iload_n 2, 2, 0, 0),
  (.ifCond .ne 8, 131, 0, 0), (.iload 4, 4, 0, 0), (.goto 15, 137, 0, 0), (.iload_n 2, 2, 0, 0), (.iconst 1, 0, 0, 1), (.if_icmp .ne 8, 136, 0, 0), (.iload 5, 5, 0, 0), (.goto 5, 137, 0, 0),
  (.iload 6, 6, 0, 0), (.ireturn, 0, 0, 0)]
/-- StreetCriesModel.shut()I -/
def jx_c174 : List (Instr × Nat × Nat × Int) := [(.aload_n 0, 0, 0, 0), (.getfield 181, 9, 9, 817), (.istore_n 1, 1, 0, 0), (.aload_n 0, 0, 0, 0), (.iconst 0, 0, 0, 0), (.putfield 181, 9, 9, 817), (.iload_n 1, 1, 0, 0), (.ireturn, 0, 0, 0)]
/-- StreetCriesModel.dies(II)I -/
def jx_c175 : List (Instr × Nat × Nat × Int) := [(.aload_n 0, 0, 0, 0), (.iload_n 1, 1, 0, 0), (.invokevirtual 108, 130, 0, 934), (.ifCond .eq 10, 7, 0, 0), (.iload_n 2, 2, 0, 0), (.invokestatic 91, 124, 0, 909), (.ifCond .ne 5, 9, 0, 0), (.iconst (-1), 0, 0, -1),
  (.ireturn, 0, 0, 0), (.aload_n 0, 0, 0, 0), (.getfield 7, 0, 9, 808), (.iload_n 2, 2, 0, 0), (.iaload, 0, 0, 0), (.istore_n 3, 3, 0, 0), (.bipush (-4), 0, 0, -4), (.istore 4, 4, 0, 0),
  (.bipush 9, 0, 0, 9), (.istore 5, 5, 0, 0), (.iload 5, 5, 0, 0), (.ifCond .lt 35, 36, 0, 0), (.aload_n 0, 0, 0, 0), (.getfield 7, 0, 9, 808), (.iload_n 2, 2, 0, 0), (.iload 5, 5, 0, 0),
  (.iastore, 0, 0, 0), (.aload_n 0, 0, 0, 0), (.iload_n 1, 1, 0, 0), (.iload_n 2, 2, 0, 0), (.invokevirtual 222, 176, 0, 1127), (.ifCond .ne 8, 32, 0, 0), (.iload 5, 5, 0, 0), (.goto 5, 33, 0, 0),
  (.iload 4, 4, 0, 0), (.istore 4, 4, 0, 0), (.iinc 5 (-1), 5, 0, -1), (.goto (-34), 18, 0, 0), (.aload_n 0, 0, 0, 0), (.getfield 7, 0, 9, 808), (.iload_n 2, 2, 0, 0), (.iload_n 3, 3, 0, 0),
  (.iastore, 0, 0, 0), (.iload 4, 4, 0, 0), (.ireturn, 0, 0, 0)]
/-- StreetCriesModel.heardMinutes(II)I -/
def jx_c176 : List (Instr × Nat × Nat × Int) := [(.iconst 0, 0, 0, 0), (.istore_n 3, 3, 0, 0), (.iconst 0, 0, 0, 0), (.istore 4, 4, 0, 0), (.iload 4, 4, 0, 0), (.bipush 120, 0, 0, 120), (.if_icmp .ge 28, 21, 0, 0), (.iload_n 3, 3, 0, 0),
  (.aload_n 0, 0, 0, 0), (.iload_n 2, 2, 0, 0), (.iload_n 1, 1, 0, 0), (.iload 4, 4, 0, 0), (.invokevirtual 165, 146, 0, 1003), (.ifCond .eq 7, 16, 0, 0), (.iconst 1, 0, 0, 1), (.goto 4, 17, 0, 0),
  (.iconst 0, 0, 0, 0), (.iadd, 0, 0, 0), (.istore_n 3, 3, 0, 0), (.iinc 4 1, 4, 0, 1), (.goto (-29), 4, 0, 0), (.iload_n 3, 3, 0, 0), (.ireturn, 0, 0, 0)]
/-- StreetCriesModel.clock(II)I -/
def jx_c177 : List (Instr × Nat × Nat × Int) := [(.aload_n 0, 0, 0, 0), (.iload_n 1, 1, 0, 0), (.invokevirtual 108, 130, 0, 934), (.ifCond .eq 19, 12, 0, 0), (.iload_n 2, 2, 0, 0), (.invokestatic 91, 124, 0, 909), (.ifCond .eq 12, 12, 0, 0), (.aload_n 0, 0, 0, 0),
  (.iload_n 1, 1, 0, 0), (.iload_n 2, 2, 0, 0), (.invokevirtual 222, 176, 0, 1127), (.goto 4, 13, 0, 0), (.iconst (-1), 0, 0, -1), (.ireturn, 0, 0, 0)]
/-- StreetCriesModel.image()I -/
def jx_c178 : List (Instr × Nat × Nat × Int) := [(.aload_n 0, 0, 0, 0), (.getfield 7, 0, 9, 808), (.aload_n 0, 0, 0, 0), (.getfield 62, 26, 9, 834), (.iconst 0, 0, 0, 0), (.invokestatic 225, 179, 0, 1139), (.istore_n 1, 1, 0, 0), (.aload_n 0, 0, 0, 0),
  (.getfield 13, 2, 9, 810), (.aload_n 0, 0, 0, 0), (.getfield 62, 26, 9, 834), (.iload_n 1, 1, 0, 0), (.invokestatic 225, 179, 0, 1139), (.istore_n 1, 1, 0, 0), (.aload_n 0, 0, 0, 0), (.getfield 16, 3, 9, 811),
  (.aload_n 0, 0, 0, 0), (.getfield 62, 26, 9, 834), (.iload_n 1, 1, 0, 0), (.invokestatic 225, 179, 0, 1139), (.istore_n 1, 1, 0, 0), (.aload_n 0, 0, 0, 0), (.getfield 19, 4, 9, 812), (.aload_n 0, 0, 0, 0),
  (.getfield 62, 26, 9, 834), (.iload_n 1, 1, 0, 0), (.invokestatic 225, 179, 0, 1139), (.istore_n 1, 1, 0, 0), (.aload_n 0, 0, 0, 0), (.getfield 22, 8, 9, 816), (.aload_n 0, 0, 0, 0), (.getfield 62, 26, 9, 834),
  (.iload_n 1, 1, 0, 0), (.invokestatic 225, 179, 0, 1139), (.istore_n 1, 1, 0, 0), (.aload_n 0, 0, 0, 0), (.getfield 25, 10, 9, 818), (.aload_n 0, 0, 0, 0), (.getfield 62, 26, 9, 834), (.iload_n 1, 1, 0, 0),
  (.invokestatic 225, 179, 0, 1139), (.istore_n 1, 1, 0, 0), (.aload_n 0, 0, 0, 0), (.getfield 62, 26, 9, 834), (.iload_n 1, 1, 0, 0), (.aload_n 0, 0, 0, 0), (.getfield 88, 1, 9, 809), (.iastore, 0, 0, 0),
  (.aload_n 0, 0, 0, 0), (.getfield 62, 26, 9, 834), (.iload_n 1, 1, 0, 0), (.iconst 1, 0, 0, 1), (.iadd, 0, 0, 0), (.aload_n 0, 0, 0, 0), (.getfield 77, 5, 9, 813), (.iastore, 0, 0, 0),
  (.aload_n 0, 0, 0, 0), (.getfield 62, 26, 9, 834), (.iload_n 1, 1, 0, 0), (.iconst 2, 0, 0, 2), (.iadd, 0, 0, 0), (.aload_n 0, 0, 0, 0), (.getfield 152, 6, 9, 814), (.iastore, 0, 0, 0),
  (.aload_n 0, 0, 0, 0), (.getfield 62, 26, 9, 834), (.iload_n 1, 1, 0, 0), (.iconst 3, 0, 0, 3), (.iadd, 0, 0, 0), (.aload_n 0, 0, 0, 0), (.getfield 178, 7, 9, 815), (.iastore, 0, 0, 0),
  (.aload_n 0, 0, 0, 0), (.getfield 62, 26, 9, 834), (.iload_n 1, 1, 0, 0), (.iconst 4, 0, 0, 4), (.iadd, 0, 0, 0), (.aload_n 0, 0, 0, 0), (.getfield 181, 9, 9, 817), (.iastore, 0, 0, 0),
  (.aload_n 0, 0, 0, 0), (.iconst 1, 0, 0, 1), (.putfield 229, 27, 9, 835), (.iconst 1, 0, 0, 1), (.ireturn, 0, 0, 0)]
/-- StreetCriesModel.saves([I[II)I -/
def jx_c179 : List (Instr × Nat × Nat × Int) := [(.iconst 0, 0, 0, 0), (.istore_n 3, 3, 0, 0), (.iload_n 3, 3, 0, 0), (.aload_n 0, 0, 0, 0), (.arraylength, 0, 0, 0), (.if_icmp .ge 17, 16, 0, 0), (.aload_n 1, 1, 0, 0), (.iload_n 2, 2, 0, 0),
  (.iload_n 3, 3, 0, 0), (.iadd, 0, 0, 0), (.aload_n 0, 0, 0, 0), (.iload_n 3, 3, 0, 0), (.iaload, 0, 0, 0), (.iastore, 0, 0, 0), (.iinc 3 1, 3, 0, 1), (.goto (-17), 2, 0, 0),
  (.iload_n 2, 2, 0, 0), (.aload_n 0, 0, 0, 0), (.arraylength, 0, 0, 0), (.iadd, 0, 0, 0), (.ireturn, 0, 0, 0)]
/-- StreetCriesModel.restore()I -/
def jx_c180 : List (Instr × Nat × Nat × Int) := [(.aload_n 0, 0, 0, 0), (.getfield 229, 27, 9, 835), (.ifCond .ne 6, 5, 0, 0), (.bipush (-4), 0, 0, -4), (.ireturn, 0, 0, 0), (.aload_n 0, 0, 0, 0), (.getfield 62, 26, 9, 834), (.iconst 0, 0, 0, 0),
  (.aload_n 0, 0, 0, 0), (.getfield 7, 0, 9, 808), (.invokestatic 232, 181, 0, 1146), (.istore_n 1, 1, 0, 0), (.aload_n 0, 0, 0, 0), (.getfield 62, 26, 9, 834), (.iload_n 1, 1, 0, 0), (.aload_n 0, 0, 0, 0),
  (.getfield 13, 2, 9, 810), (.invokestatic 232, 181, 0, 1146), (.istore_n 1, 1, 0, 0), (.aload_n 0, 0, 0, 0), (.getfield 62, 26, 9, 834), (.iload_n 1, 1, 0, 0), (.aload_n 0, 0, 0, 0), (.getfield 16, 3, 9, 811),
  (.invokestatic 232, 181, 0, 1146), (.istore_n 1, 1, 0, 0), (.aload_n 0, 0, 0, 0), (.getfield 62, 26, 9, 834), (.iload_n 1, 1, 0, 0), (.aload_n 0, 0, 0, 0), (.getfield 19, 4, 9, 812), (.invokestatic 232, 181, 0, 1146),
  (.istore_n 1, 1, 0, 0), (.aload_n 0, 0, 0, 0), (.getfield 62, 26, 9, 834), (.iload_n 1, 1, 0, 0), (.aload_n 0, 0, 0, 0), (.getfield 22, 8, 9, 816), (.invokestatic 232, 181, 0, 1146), (.istore_n 1, 1, 0, 0),
  (.aload_n 0, 0, 0, 0), (.getfield 62, 26, 9, 834), (.iload_n 1, 1, 0, 0), (.aload_n 0, 0, 0, 0), (.getfield 25, 10, 9, 818), (.invokestatic 232, 181, 0, 1146), (.istore_n 1, 1, 0, 0), (.aload_n 0, 0, 0, 0),
  (.aload_n 0, 0, 0, 0), (.getfield 62, 26, 9, 834), (.iload_n 1, 1, 0, 0), (.iaload, 0, 0, 0), (.putfield 88, 1, 9, 809), (.aload_n 0, 0, 0, 0), (.aload_n 0, 0, 0, 0), (.getfield 62, 26, 9, 834),
  (.iload_n 1, 1, 0, 0), (.iconst 1, 0, 0, 1), (.iadd, 0, 0, 0), (.iaload, 0, 0, 0), (.putfield 77, 5, 9, 813), (.aload_n 0, 0, 0, 0), (.aload_n 0, 0, 0, 0), (.getfield 62, 26, 9, 834),
  (.iload_n 1, 1, 0, 0), (.iconst 2, 0, 0, 2), (.iadd, 0, 0, 0), (.iaload, 0, 0, 0), (.putfield 152, 6, 9, 814), (.aload_n 0, 0, 0, 0), (.aload_n 0, 0, 0, 0), (.getfield 62, 26, 9, 834),
  (.iload_n 1, 1, 0, 0), (.iconst 3, 0, 0, 3), (.iadd, 0, 0, 0), (.iaload, 0, 0, 0), (.putfield 178, 7, 9, 815), (.aload_n 0, 0, 0, 0), (.aload_n 0, 0, 0, 0), (.getfield 62, 26, 9, 834),
  (.iload_n 1, 1, 0, 0), (.iconst 4, 0, 0, 4), (.iadd, 0, 0, 0), (.iaload, 0, 0, 0), (.putfield 181, 9, 9, 817), (.iconst 1, 0, 0, 1), (.ireturn, 0, 0, 0)]
/-- StreetCriesModel.gives([II[I)I -/
def jx_c181 : List (Instr × Nat × Nat × Int) := [(.iconst 0, 0, 0, 0), (.istore_n 3, 3, 0, 0), (.iload_n 3, 3, 0, 0), (.aload_n 2, 2, 0, 0), (.arraylength, 0, 0, 0), (.if_icmp .ge 17, 16, 0, 0), (.aload_n 2, 2, 0, 0), (.iload_n 3, 3, 0, 0),
  (.aload_n 0, 0, 0, 0), (.iload_n 1, 1, 0, 0), (.iload_n 3, 3, 0, 0), (.iadd, 0, 0, 0), (.iaload, 0, 0, 0), (.iastore, 0, 0, 0), (.iinc 3 1, 3, 0, 1), (.goto (-17), 2, 0, 0),
  (.iload_n 1, 1, 0, 0), (.aload_n 2, 2, 0, 0), (.arraylength, 0, 0, 0), (.iadd, 0, 0, 0), (.ireturn, 0, 0, 0)]
/-- StreetCriesModel.hands(IIIIII)I -/
def jx_c182 : List (Instr × Nat × Nat × Int) := [(.iload_n 1, 1, 0, 0), (.invokestatic 236, 183, 0, 1153), (.ifCond .eq 53, 27, 0, 0), (.iload_n 2, 2, 0, 0), (.invokestatic 239, 184, 0, 1156), (.ifCond .eq 46, 27, 0, 0), (.iload 4, 4, 0, 0), (.i2l, 0, 0, 0),
  (.lconst 1, 0, 0, 1), (.ldc2_w 242, 0, 1159, 6), (.invokestatic 82, 125, 0, 913), (.ifCond .eq 33, 27, 0, 0), (.iload 5, 5, 0, 0), (.i2l, 0, 0, 0), (.lconst 1, 0, 0, 1), (.ldc2_w 242, 0, 1159, 6),
  (.invokestatic 82, 125, 0, 913), (.ifCond .eq 20, 27, 0, 0), (.iload 6, 6, 0, 0), (.i2l, 0, 0, 0), (.ldc2_w 207, 0, 1084, -1), (.iload 5, 5, 0, 0), (.iconst 1, 0, 0, 1), (.isub, 0, 0, 0),
  (.i2l, 0, 0, 0), (.invokestatic 82, 125, 0, 913), (.ifCond .ne 5, 29, 0, 0), (.iconst (-1), 0, 0, -1), (.ireturn, 0, 0, 0), (.aload_n 0, 0, 0, 0), (.iload_n 1, 1, 0, 0), (.iload_n 2, 2, 0, 0),
  (.iload_n 3, 3, 0, 0), (.iload 4, 4, 0, 0), (.iload 5, 5, 0, 0), (.imul, 0, 0, 0), (.invokevirtual 244, 185, 0, 1160), (.istore 7, 7, 0, 0), (.iload 7, 7, 0, 0), (.ifCond .ge 6, 42, 0, 0),
  (.iload 7, 7, 0, 0), (.ireturn, 0, 0, 0), (.bipush 24, 0, 0, 24), (.iload_n 1, 1, 0, 0), (.imul, 0, 0, 0), (.iload_n 3, 3, 0, 0), (.iadd, 0, 0, 0), (.istore 8, 8, 0, 0),
  (.iconst 0, 0, 0, 0), (.istore 9, 9, 0, 0), (.iload 9, 9, 0, 0), (.iload 4, 4, 0, 0), (.iload 5, 5, 0, 0), (.imul, 0, 0, 0), (.if_icmp .ge 33, 70, 0, 0), (.aload_n 0, 0, 0, 0),
  (.getfield 71, 30, 9, 838), (.iload 8, 8, 0, 0), (.iload 9, 9, 0, 0), (.iadd, 0, 0, 0), (.iaload, 0, 0, 0), (.i2l, 0, 0, 0), (.lconst 0, 0, 0, 0), (.ldc2_w 95, 0, 916, 9),
  (.invokestatic 82, 125, 0, 913), (.ifCond .ne 6, 68, 0, 0), (.bipush (-2), 0, 0, -2), (.ireturn, 0, 0, 0), (.iinc 9 1, 9, 0, 1), (.goto (-37), 50, 0, 0), (.iconst 0, 0, 0, 0), (.istore 9, 9, 0, 0),
  (.iload 9, 9, 0, 0), (.iload 5, 5, 0, 0), (.if_icmp .ge 120, 133, 0, 0), (.iconst 0, 0, 0, 0), (.istore 10, 10, 0, 0), (.iconst 0, 0, 0, 0), (.istore 11, 11, 0, 0), (.iload 11, 11, 0, 0),
  (.bipush 10, 0, 0, 10), (.if_icmp .ge 101, 131, 0, 0), (.iconst 0, 0, 0, 0), (.istore 12, 12, 0, 0), (.iconst 0, 0, 0, 0), (.istore 13, 13, 0, 0), (.iload 13, 13, 0, 0), (.iload 4, 4, 0, 0),
  (.if_icmp .ge 40, 109, 0, 0), (.iload 12, 12, 0, 0), (.aload_n 0, 0, 0, 0), (.getfield 71, 30, 9, 838), (.iload 8, 8, 0, 0), (.iload 5, 5, 0, 0), (.iload 13, 13, 0, 0), (.imul, 0, 0, 0),
  (.iadd, 0, 0, 0), (.iload 9, 9, 0, 0), (.iadd, 0, 0, 0), (.iaload, 0, 0, 0), (.iload 11, 11, 0, 0), (.if_icmp .ne 7, 104, 0, 0), (.iconst 1, 0, 0, 1), (.goto 4, 105, 0, 0),
  (.iconst 0, 0, 0, 0), (.iadd, 0, 0, 0), (.istore 12, 12, 0, 0), (.iinc 13 1, 13, 0, 1), (.goto (-41), 86, 0, 0), (.aload_n 0, 0, 0, 0), (.getfield 59, 24, 9, 832), (.iload 9, 9, 0, 0),
  (.iload 12, 12, 0, 0), (.iload 10, 10, 0, 0), (.if_icmp .le 8, 117, 0, 0), (.iload 11, 11, 0, 0), (.goto 10, 121, 0, 0), (.aload_n 0, 0, 0, 0), (.getfield 59, 24, 9, 832), (.iload 9, 9, 0, 0),
  (.iaload, 0, 0, 0), (.iastore, 0, 0, 0), (.iload 12, 12, 0, 0), (.iload 10, 10, 0, 0), (.if_icmp .le 8, 127, 0, 0), (.iload 12, 12, 0, 0), (.goto 5, 128, 0, 0), (.iload 10, 10, 0, 0),
  (.istore 10, 10, 0, 0), (.iinc 11 1, 11, 0, 1), (.goto (-102), 79, 0, 0), (.iinc 9 1, 9, 0, 1), (.goto (-121), 72, 0, 0), (.iload 6, 6, 0, 0), (.ifCond .lt 11, 140, 0, 0), (.aload_n 0, 0, 0, 0),
  (.getfield 59, 24, 9, 832), (.iload 6, 6, 0, 0), (.iaload, 0, 0, 0), (.ireturn, 0, 0, 0), (.aload_n 0, 0, 0, 0), (.iload 5, 5, 0, 0), (.invokevirtual 213, 167, 0, 1089), (.pop, 0, 0, 0),
  (.aload_n 0, 0, 0, 0), (.getfield 202, 25, 9, 833), (.ireturn, 0, 0, 0)]
/-- StreetCriesModel.isSheet(I)Z -/
def jx_c183 : List (Instr × Nat × Nat × Int) := [(.iload_n 0, 0, 0, 0), (.i2l, 0, 0, 0), (.lconst 0, 0, 0, 0), (.ldc2_w 97, 0, 924, 3), (.invokestatic 82, 125, 0, 913), (.ireturn, 1, 0, 0)]
/-- StreetCriesModel.isLane(I)Z -/
def jx_c184 : List (Instr × Nat × Nat × Int) := [(.iload_n 0, 0, 0, 0), (.i2l, 0, 0, 0), (.lconst 0, 0, 0, 0), (.ldc2_w 194, 0, 1046, 2), (.invokestatic 82, 125, 0, 913), (.ireturn, 1, 0, 0)]
/-- StreetCriesModel.finds(IIII)I -/
def jx_c185 : List (Instr × Nat × Nat × Int) := [(.aload_n 0, 0, 0, 0), (.getfield 65, 28, 9, 836), (.iload_n 1, 1, 0, 0), (.iaload, 0, 0, 0), (.ifCond .ge 6, 7, 0, 0), (.bipush (-11), 0, 0, -11), (.ireturn, 0, 0, 0), (.aload_n 0, 0, 0, 0),
  (.getfield 65, 28, 9, 836), (.iload_n 1, 1, 0, 0), (.iaload, 0, 0, 0), (.iload_n 2, 2, 0, 0), (.if_icmp .eq 6, 15, 0, 0), (.bipush (-12), 0, 0, -12), (.ireturn, 0, 0, 0), (.iload_n 3, 3, 0, 0),
  (.ifCond .lt 20, 29, 0, 0), (.iload_n 3, 3, 0, 0), (.i2l, 0, 0, 0), (.iload 4, 4, 0, 0), (.i2l, 0, 0, 0), (.ladd, 0, 0, 0), (.aload_n 0, 0, 0, 0), (.getfield 68, 29, 9, 837),
  (.iload_n 1, 1, 0, 0), (.iaload, 0, 0, 0), (.i2l, 0, 0, 0), (.lcmp, 0, 0, 0), (.ifCond .le 8, 31, 0, 0), (.bipush (-13), 0, 0, -13), (.goto 4, 32, 0, 0), (.iconst 0, 0, 0, 0),
  (.ireturn, 0, 0, 0)]
/-- StreetCriesModel.came(IIIIII)I -/
def jx_c186 : List (Instr × Nat × Nat × Int) := [(.iload_n 1, 1, 0, 0), (.invokestatic 236, 183, 0, 1153), (.ifCond .eq 51, 27, 0, 0), (.iload_n 2, 2, 0, 0), (.invokestatic 239, 184, 0, 1156), (.ifCond .eq 44, 27, 0, 0), (.iload 4, 4, 0, 0), (.i2l, 0, 0, 0),
  (.lconst 1, 0, 0, 1), (.ldc2_w 102, 0, 929, 5), (.invokestatic 82, 125, 0, 913), (.ifCond .eq 31, 27, 0, 0), (.iload 5, 5, 0, 0), (.i2l, 0, 0, 0), (.lconst 1, 0, 0, 1), (.ldc2_w 242, 0, 1159, 6),
  (.invokestatic 82, 125, 0, 913), (.ifCond .eq 18, 27, 0, 0), (.iload 6, 6, 0, 0), (.i2l, 0, 0, 0), (.lconst 0, 0, 0, 0), (.iload 4, 4, 0, 0), (.iconst 1, 0, 0, 1), (.isub, 0, 0, 0),
  (.i2l, 0, 0, 0), (.invokestatic 82, 125, 0, 913), (.ifCond .ne 5, 29, 0, 0), (.iconst (-1), 0, 0, -1), (.ireturn, 0, 0, 0), (.aload_n 0, 0, 0, 0), (.iload_n 1, 1, 0, 0), (.iload_n 2, 2, 0, 0),
  (.iload_n 3, 3, 0, 0), (.iload 4, 4, 0, 0), (.iload 5, 5, 0, 0), (.iconst 1, 0, 0, 1), (.iadd, 0, 0, 0), (.imul, 0, 0, 0), (.invokevirtual 244, 185, 0, 1160), (.istore 7, 7, 0, 0),
  (.iload 7, 7, 0, 0), (.ifCond .ge 6, 44, 0, 0), (.iload 7, 7, 0, 0), (.ireturn, 0, 0, 0), (.bipush 24, 0, 0, 24), (.iload_n 1, 1, 0, 0), (.imul, 0, 0, 0), (.iload_n 3, 3, 0, 0),
  (.iadd, 0, 0, 0), (.istore 8, 8, 0, 0), (.iconst 0, 0, 0, 0), (.istore 9, 9, 0, 0), (.iload 9, 9, 0, 0), (.iload 4, 4, 0, 0), (.iload 5, 5, 0, 0), (.iconst 1, 0, 0, 1),
  (.iadd, 0, 0, 0), (.imul, 0, 0, 0), (.if_icmp .ge 43, 80, 0, 0), (.iload 9, 9, 0, 0), (.iload 5, 5, 0, 0), (.iconst 1, 0, 0, 1), (.iadd, 0, 0, 0), (.irem, 0, 0, 0),
  (.ifCond .le 27, 78, 0, 0), (.aload_n 0, 0, 0, 0), (.getfield 71, 30, 9, 838), (.iload 8, 8, 0, 0), (.iload 9, 9, 0, 0), (.iadd, 0, 0, 0), (.iaload, 0, 0, 0), (.i2l, 0, 0, 0),
  (.lconst 0, 0, 0, 0), (.ldc2_w 95, 0, 916, 9), (.invokestatic 82, 125, 0, 913), (.ifCond .ne 6, 78, 0, 0), (.bipush (-2), 0, 0, -2), (.ireturn, 0, 0, 0), (.iinc 9 1, 9, 0, 1), (.goto (-49), 52, 0, 0),
  (.iload 8, 8, 0, 0), (.iload 5, 5, 0, 0), (.iconst 1, 0, 0, 1), (.iadd, 0, 0, 0), (.iload 6, 6, 0, 0), (.imul, 0, 0, 0), (.iadd, 0, 0, 0), (.istore 9, 9, 0, 0),
  (.bipush (-4), 0, 0, -4), (.istore 10, 10, 0, 0), (.iconst 0, 0, 0, 0), (.istore 11, 11, 0, 0), (.iconst 0, 0, 0, 0), (.istore 12, 12, 0, 0), (.iload 12, 12, 0, 0), (.iload 4, 4, 0, 0),
  (.if_icmp .ge 110, 151, 0, 0), (.iload 8, 8, 0, 0), (.iload 5, 5, 0, 0), (.iconst 1, 0, 0, 1), (.iadd, 0, 0, 0), (.iload 12, 12, 0, 0), (.imul, 0, 0, 0), (.iadd, 0, 0, 0),
  (.istore 13, 13, 0, 0), (.aload_n 0, 0, 0, 0), (.getfield 71, 30, 9, 838), (.iload 9, 9, 0, 0), (.iconst 1, 0, 0, 1), (.iadd, 0, 0, 0), (.iload 5, 5, 0, 0), (.aload_n 0, 0, 0, 0),
  (.getfield 71, 30, 9, 838), (.iload 13, 13, 0, 0), (.iconst 1, 0, 0, 1), (.iadd, 0, 0, 0), (.iload 5, 5, 0, 0), (.invokestatic 169, 150, 0, 1019), (.istore 14, 14, 0, 0), (.aload_n 0, 0, 0, 0),
  (.getfield 71, 30, 9, 838), (.iload 13, 13, 0, 0), (.iaload, 0, 0, 0), (.aload_n 0, 0, 0, 0), (.getfield 71, 30, 9, 838), (.iload 9, 9, 0, 0), (.iaload, 0, 0, 0), (.if_icmp .ge 19, 135, 0, 0),
  (.iload 10, 10, 0, 0), (.ifCond .lt 10, 133, 0, 0), (.iload 14, 14, 0, 0), (.iload 11, 11, 0, 0), (.if_icmp .ge 7, 135, 0, 0), (.iconst 1, 0, 0, 1), (.goto 4, 136, 0, 0), (.iconst 0, 0, 0, 0),
  (.istore 15, 15, 0, 0), (.iload 15, 15, 0, 0), (.ifCond .eq 8, 141, 0, 0), (.iload 12, 12, 0, 0), (.goto 5, 142, 0, 0), (.iload 10, 10, 0, 0), (.istore 10, 10, 0, 0), (.iload 15, 15, 0, 0),
  (.ifCond .eq 8, 147, 0, 0), (.iload 14, 14, 0, 0), (.goto 5, 148, 0, 0), (.iload 11, 11, 0, 0), (.istore 11, 11, 0, 0), (.iinc 12 1, 12, 0, 1), (.goto (-111), 94, 0, 0), (.iload 10, 10, 0, 0),
  (.ireturn, 0, 0, 0)]
/-- StreetCriesModel.sheet(III)I -/
def jx_c187 : List (Instr × Nat × Nat × Int) := [(.iload_n 1, 1, 0, 0), (.invokestatic 236, 183, 0, 1153), (.ifCond .eq 16, 9, 0, 0), (.iload_n 2, 2, 0, 0), (.invokestatic 239, 184, 0, 1156), (.ifCond .eq 9, 9, 0, 0), (.iload_n 3, 3, 0, 0), (.bipush 24, 0, 0, 24),
  (.if_icmp .le 5, 11, 0, 0), (.iconst (-1), 0, 0, -1), (.ireturn, 0, 0, 0), (.iload_n 3, 3, 0, 0), (.ifCond .ge 6, 15, 0, 0), (.bipush (-14), 0, 0, -14), (.ireturn, 0, 0, 0), (.aload_n 0, 0, 0, 0),
  (.getfield 65, 28, 9, 836), (.iload_n 1, 1, 0, 0), (.iload_n 2, 2, 0, 0), (.iastore, 0, 0, 0), (.aload_n 0, 0, 0, 0), (.getfield 68, 29, 9, 837), (.iload_n 1, 1, 0, 0), (.iload_n 3, 3, 0, 0),
  (.iastore, 0, 0, 0), (.iconst 0, 0, 0, 0), (.istore 4, 4, 0, 0), (.iload 4, 4, 0, 0), (.bipush 24, 0, 0, 24), (.if_icmp .ge 22, 41, 0, 0), (.aload_n 0, 0, 0, 0), (.getfield 71, 30, 9, 838),
  (.bipush 24, 0, 0, 24), (.iload_n 1, 1, 0, 0), (.imul, 0, 0, 0), (.iload 4, 4, 0, 0), (.iadd, 0, 0, 0), (.iconst 0, 0, 0, 0), (.iastore, 0, 0, 0), (.iinc 4 1, 4, 0, 1),
  (.goto (-23), 27, 0, 0), (.iload_n 3, 3, 0, 0), (.ireturn, 0, 0, 0)]
/-- StreetCriesModel.drop(I)I -/
def jx_c188 : List (Instr × Nat × Nat × Int) := [(.iload_n 1, 1, 0, 0), (.invokestatic 236, 183, 0, 1153), (.ifCond .ne 5, 5, 0, 0), (.iconst (-1), 0, 0, -1), (.ireturn, 0, 0, 0), (.aload_n 0, 0, 0, 0), (.getfield 65, 28, 9, 836), (.iload_n 1, 1, 0, 0),
  (.iaload, 0, 0, 0), (.ifCond .ge 6, 12, 0, 0), (.bipush (-11), 0, 0, -11), (.ireturn, 0, 0, 0), (.aload_n 0, 0, 0, 0), (.getfield 65, 28, 9, 836), (.iload_n 1, 1, 0, 0), (.iconst (-1), 0, 0, -1),
  (.iastore, 0, 0, 0), (.aload_n 0, 0, 0, 0), (.getfield 68, 29, 9, 837), (.iload_n 1, 1, 0, 0), (.iaload, 0, 0, 0), (.ireturn, 0, 0, 0)]
/-- StreetCriesModel.item(IIII)I -/
def jx_c189 : List (Instr × Nat × Nat × Int) := [(.iload_n 1, 1, 0, 0), (.invokestatic 236, 183, 0, 1153), (.ifCond .eq 10, 6, 0, 0), (.iload_n 2, 2, 0, 0), (.invokestatic 239, 184, 0, 1156), (.ifCond .ne 5, 8, 0, 0), (.iconst (-1), 0, 0, -1), (.ireturn, 0, 0, 0),
  (.aload_n 0, 0, 0, 0), (.iload_n 1, 1, 0, 0), (.iload_n 2, 2, 0, 0), (.iload_n 3, 3, 0, 0), (.iconst 1, 0, 0, 1), (.invokevirtual 244, 185, 0, 1160), (.istore 5, 5, 0, 0), (.iload 5, 5, 0, 0),
  (.ifCond .ge 6, 19, 0, 0), (.iload 5, 5, 0, 0), (.ireturn, 0, 0, 0), (.aload_n 0, 0, 0, 0), (.getfield 71, 30, 9, 838), (.bipush 24, 0, 0, 24), (.iload_n 1, 1, 0, 0), (.imul, 0, 0, 0),
  (.iload_n 3, 3, 0, 0), (.iadd, 0, 0, 0), (.iload_n 2, 2, 0, 0), (.ifCond .ne 9, 31, 0, 0), (.iload 4, 4, 0, 0), (.i2b, 0, 0, 0), (.goto 16, 38, 0, 0), (.iload_n 2, 2, 0, 0),
  (.iconst 1, 0, 0, 1), (.if_icmp .ne 9, 37, 0, 0), (.iload 4, 4, 0, 0), (.i2s, 0, 0, 0), (.goto 5, 38, 0, 0), (.iload 4, 4, 0, 0), (.iastore, 0, 0, 0), (.iconst 1, 0, 0, 1),
  (.ireturn, 0, 0, 0)]
/-- StreetCriesModel.copy(IIIII)I -/
def jx_c190 : List (Instr × Nat × Nat × Int) := [(.iload_n 1, 1, 0, 0), (.invokestatic 236, 183, 0, 1153), (.ifCond .eq 10, 6, 0, 0), (.iload_n 3, 3, 0, 0), (.invokestatic 236, 183, 0, 1153), (.ifCond .ne 5, 8, 0, 0), (.iconst (-1), 0, 0, -1), (.ireturn, 0, 0, 0),
  (.aload_n 0, 0, 0, 0), (.getfield 65, 28, 9, 836), (.iload_n 1, 1, 0, 0), (.iaload, 0, 0, 0), (.ifCond .lt 12, 18, 0, 0), (.aload_n 0, 0, 0, 0), (.getfield 65, 28, 9, 836), (.iload_n 3, 3, 0, 0),
  (.iaload, 0, 0, 0), (.ifCond .ge 6, 20, 0, 0), (.bipush (-11), 0, 0, -11), (.ireturn, 0, 0, 0), (.aload_n 0, 0, 0, 0), (.getfield 65, 28, 9, 836), (.iload_n 1, 1, 0, 0), (.iaload, 0, 0, 0),
  (.aload_n 0, 0, 0, 0), (.getfield 65, 28, 9, 836), (.iload_n 3, 3, 0, 0), (.iaload, 0, 0, 0), (.if_icmp .eq 6, 31, 0, 0), (.bipush (-12), 0, 0, -12), (.ireturn, 0, 0, 0), (.iload 5, 5, 0, 0),
  (.ifCond .lt 38, 53, 0, 0), (.aload_n 0, 0, 0, 0), (.iload_n 1, 1, 0, 0), (.aload_n 0, 0, 0, 0), (.getfield 65, 28, 9, 836), (.iload_n 1, 1, 0, 0), (.iaload, 0, 0, 0), (.iload_n 2, 2, 0, 0),
  (.iload 5, 5, 0, 0), (.invokevirtual 244, 185, 0, 1160), (.ifCond .lt 21, 53, 0, 0), (.aload_n 0, 0, 0, 0), (.iload_n 3, 3, 0, 0), (.aload_n 0, 0, 0, 0), (.getfield 65, 28, 9, 836), (.iload_n 3, 3, 0, 0),
  (.iaload, 0, 0, 0), (.iload 4, 4, 0, 0), (.iload 5, 5, 0, 0), (.invokevirtual 244, 185, 0, 1160), (.ifCond .ge 6, 55, 0, 0), (.bipush (-13), 0, 0, -13), (.ireturn, 0, 0, 0), (.iconst 0, 0, 0, 0),
  (.istore 6, 6, 0, 0), (.iload 6, 6, 0, 0), (.iload 5, 5, 0, 0), (.if_icmp .ge 30, 76, 0, 0), (.aload_n 0, 0, 0, 0), (.getfield 74, 31, 9, 839), (.iload 6, 6, 0, 0), (.aload_n 0, 0, 0, 0),
  (.getfield 71, 30, 9, 838), (.bipush 24, 0, 0, 24), (.iload_n 1, 1, 0, 0), (.imul, 0, 0, 0), (.iload_n 2, 2, 0, 0), (.iadd, 0, 0, 0), (.iload 6, 6, 0, 0), (.iadd, 0, 0, 0),
  (.iaload, 0, 0, 0), (.iastore, 0, 0, 0), (.iinc 6 1, 6, 0, 1), (.goto (-31), 57, 0, 0), (.iconst 0, 0, 0, 0), (.istore 6, 6, 0, 0), (.iload 6, 6, 0, 0), (.iload 5, 5, 0, 0),
  (.if_icmp .ge 31, 97, 0, 0), (.aload_n 0, 0, 0, 0), (.getfield 71, 30, 9, 838), (.bipush 24, 0, 0, 24), (.iload_n 3, 3, 0, 0), (.imul, 0, 0, 0), (.iload 4, 4, 0, 0), (.iadd, 0, 0, 0),
  (.iload 6, 6, 0, 0), (.iadd, 0, 0, 0), (.aload_n 0, 0, 0, 0), (.getfield 74, 31, 9, 839), (.iload 6, 6, 0, 0), (.iaload, 0, 0, 0), (.iastore, 0, 0, 0), (.iinc 6 1, 6, 0, 1),
  (.goto (-32), 78, 0, 0), (.iload 5, 5, 0, 0), (.ireturn, 0, 0, 0)]
/-- StreetCriesLaw.law([I)Z -/
def jx_c191 : List (Instr × Nat × Nat × Int) := [(.new 7, 8, 0, 48), (.dup, 0, 0, 0), (.invokespecial 9, 0, 0, 50), (.astore_n 1, 1, 0, 0), (.new 10, 9, 0, 802), (.dup, 0, 0, 0), (.invokespecial 12, 122, 0, 804), (.astore_n 2, 2, 0, 0),
  (.iconst 0, 0, 0, 0), (.istore_n 3, 3, 0, 0), (.iload_n 3, 3, 0, 0), (.aload_n 0, 0, 0, 0), (.arraylength, 0, 0, 0), (.bipush 7, 0, 0, 7), (.isub, 0, 0, 0), (.if_icmp .gt 1562, 1150, 0, 0),
  (.aload_n 0, 0, 0, 0), (.iload_n 3, 3, 0, 0), (.iaload, 0, 0, 0), (.bipush 63, 0, 0, 63), (.iand, 0, 0, 0), (.tableswitch 1547 0 37 #[167, 200, 243, 286, 349, 362, 385, 408, 451, 484, 507, 540, 573, 596, 645, 668, 721, 754, 777, 800, 833, 876, 929, 952, 985, 1018, 1077, 1110, 1123, 1156, 1189, 1202, 1215, 1290, 1365, 1408, 1431, 1484], 1, 1148, 0), (.aload_n 1, 1, 0, 0), (.aload_n 0, 0, 0, 0),
  (.iload_n 3, 3, 0, 0), (.iconst 1, 0, 0, 1), (.iadd, 0, 0, 0), (.iaload, 0, 0, 0), (.aload_n 0, 0, 0, 0), (.iload_n 3, 3, 0, 0), (.iconst 2, 0, 0, 2), (.iadd, 0, 0, 0),
  (.iaload, 0, 0, 0), (.invokevirtual 13, 10, 0, 327), (.aload_n 2, 2, 0, 0), (.aload_n 0, 0, 0, 0), (.iload_n 3, 3, 0, 0), (.iconst 1, 0, 0, 1), (.iadd, 0, 0, 0), (.iaload, 0, 0, 0),
  (.aload_n 0, 0, 0, 0), (.iload_n 3, 3, 0, 0), (.iconst 2, 0, 0, 2), (.iadd, 0, 0, 0), (.iaload, 0, 0, 0), (.invokevirtual 17, 123, 0, 905), (.if_icmp .eq 1352, 1148, 0, 0), (.iconst 0, 0, 0, 0),
  (.ireturn, 1, 0, 0), (.aload_n 1, 1, 0, 0), (.aload_n 0, 0, 0, 0), (.iload_n 3, 3, 0, 0), (.iconst 1, 0, 0, 1), (.iadd, 0, 0, 0), (.iaload, 0, 0, 0), (.aload_n 0, 0, 0, 0),
  (.iload_n 3, 3, 0, 0), (.iconst 2, 0, 0, 2), (.iadd, 0, 0, 0), (.iaload, 0, 0, 0), (.aload_n 0, 0, 0, 0), (.iload_n 3, 3, 0, 0), (.iconst 3, 0, 0, 3), (.iadd, 0, 0, 0),
  (.iaload, 0, 0, 0), (.invokevirtual 18, 13, 0, 337), (.aload_n 2, 2, 0, 0), (.aload_n 0, 0, 0, 0), (.iload_n 3, 3, 0, 0), (.iconst 1, 0, 0, 1), (.iadd, 0, 0, 0), (.iaload, 0, 0, 0),
  (.aload_n 0, 0, 0, 0), (.iload_n 3, 3, 0, 0), (.iconst 2, 0, 0, 2), (.iadd, 0, 0, 0), (.iaload, 0, 0, 0), (.aload_n 0, 0, 0, 0), (.iload_n 3, 3, 0, 0), (.iconst 3, 0, 0, 3),
  (.iadd, 0, 0, 0), (.iaload, 0, 0, 0), (.invokevirtual 22, 126, 0, 917), (.if_icmp .eq 1309, 1148, 0, 0), (.iconst 0, 0, 0, 0), (.ireturn, 1, 0, 0), (.aload_n 1, 1, 0, 0), (.aload_n 0, 0, 0, 0),
  (.iload_n 3, 3, 0, 0), (.iconst 1, 0, 0, 1), (.iadd, 0, 0, 0), (.iaload, 0, 0, 0), (.aload_n 0, 0, 0, 0), (.iload_n 3, 3, 0, 0), (.iconst 2, 0, 0, 2), (.iadd, 0, 0, 0),
  (.iaload, 0, 0, 0), (.aload_n 0, 0, 0, 0), (.iload_n 3, 3, 0, 0), (.iconst 3, 0, 0, 3), (.iadd, 0, 0, 0), (.iaload, 0, 0, 0), (.invokevirtual 23, 18, 0, 354), (.aload_n 2, 2, 0, 0),
  (.aload_n 0, 0, 0, 0), (.iload_n 3, 3, 0, 0), (.iconst 1, 0, 0, 1), (.iadd, 0, 0, 0), (.iaload, 0, 0, 0), (.aload_n 0, 0, 0, 0), (.iload_n 3, 3, 0, 0), (.iconst 2, 0, 0, 2),
  (.iadd, 0, 0, 0), (.iaload, 0, 0, 0), (.aload_n 0, 0, 0, 0), (.iload_n 3, 3, 0, 0), (.iconst 3, 0, 0, 3), (.iadd, 0, 0, 0), (.iaload, 0, 0, 0), (.invokevirtual 26, 129, 0, 930),
  (.if_icmp .eq 1266, 1148, 0, 0), (.iconst 0, 0, 0, 0), (.ireturn, 1, 0, 0), (.aload_n 1, 1, 0, 0), (.aload_n 0, 0, 0, 0), (.iload_n 3, 3, 0, 0), (.iconst 1, 0, 0, 1), (.iadd, 0, 0, 0),
  (.iaload, 0, 0, 0), (.i2l, 0, 0, 0), (.bipush 32, 0, 0, 32), (.lshl, 0, 0, 0), (.aload_n 0, 0, 0, 0), (.iload_n 3, 3, 0, 0), (.iconst 2, 0, 0, 2), (.iadd, 0, 0, 0),
  (.iaload, 0, 0, 0), (.i2l, 0, 0, 0), (.ldc2_w 27, 0, 1184, 4294967295), (.land, 0, 0, 0), (.lor, 0, 0, 0), (.aload_n 0, 0, 0, 0), (.iload_n 3, 3, 0, 0), (.iconst 3, 0, 0, 3),
  (.iadd, 0, 0, 0), (.iaload, 0, 0, 0), (.invokevirtual 29, 22, 0, 372), (.aload_n 2, 2, 0, 0), (.aload_n 0, 0, 0, 0), (.iload_n 3, 3, 0, 0), (.iconst 1, 0, 0, 1), (.iadd, 0, 0, 0),
  (.iaload, 0, 0, 0), (.i2l, 0, 0, 0), (.bipush 32, 0, 0, 32), (.lshl, 0, 0, 0), (.aload_n 0, 0, 0, 0), (.iload_n 3, 3, 0, 0), (.iconst 2, 0, 0, 2), (.iadd, 0, 0, 0),
  (.iaload, 0, 0, 0), (.i2l, 0, 0, 0), (.ldc2_w 27, 0, 1184, 4294967295), (.land, 0, 0, 0), (.lor, 0, 0, 0), (.aload_n 0, 0, 0, 0), (.iload_n 3, 3, 0, 0), (.iconst 3, 0, 0, 3),
  (.iadd, 0, 0, 0), (.iaload, 0, 0, 0), (.invokevirtual 33, 131, 0, 938), (.if_icmp .eq 1203, 1148, 0, 0), (.iconst 0, 0, 0, 0), (.ireturn, 1, 0, 0), (.aload_n 1, 1, 0, 0), (.invokevirtual 34, 26, 0, 386),
  (.aload_n 2, 2, 0, 0), (.invokevirtual 38, 132, 0, 946), (.if_icmp .eq 1190, 1148, 0, 0), (.iconst 0, 0, 0, 0), (.ireturn, 1, 0, 0), (.aload_n 1, 1, 0, 0), (.aload_n 0, 0, 0, 0), (.iload_n 3, 3, 0, 0),
  (.iconst 1, 0, 0, 1), (.iadd, 0, 0, 0), (.iaload, 0, 0, 0), (.invokevirtual 39, 30, 0, 402), (.aload_n 2, 2, 0, 0), (.aload_n 0, 0, 0, 0), (.iload_n 3, 3, 0, 0), (.iconst 1, 0, 0, 1),
  (.iadd, 0, 0, 0), (.iaload, 0, 0, 0), (.invokevirtual 43, 136, 0, 964), (.if_icmp .eq 1167, 1148, 0, 0), (.iconst 0, 0, 0, 0), (.ireturn, 1, 0, 0), (.aload_n 1, 1, 0, 0), (.aload_n 0, 0, 0, 0),
  (.iload_n 3, 3, 0, 0), (.iconst 1, 0, 0, 1), (.iadd, 0, 0, 0), (.iaload, 0, 0, 0), (.invokevirtual 44, 39, 0, 437), (.aload_n 2, 2, 0, 0), (.aload_n 0, 0, 0, 0), (.iload_n 3, 3, 0, 0),
  (.iconst 1, 0, 0, 1), (.iadd, 0, 0, 0), (.iaload, 0, 0, 0), (.invokevirtual 47, 139, 0, 975), (.if_icmp .eq 1144, 1148, 0, 0), (.iconst 0, 0, 0, 0), (.ireturn, 1, 0, 0), (.aload_n 1, 1, 0, 0),
  (.aload_n 0, 0, 0, 0), (.iload_n 3, 3, 0, 0), (.iconst 1, 0, 0, 1), (.iadd, 0, 0, 0), (.iaload, 0, 0, 0), (.aload_n 0, 0, 0, 0), (.iload_n 3, 3, 0, 0), (.iconst 2, 0, 0, 2),
  (.iadd, 0, 0, 0), (.iaload, 0, 0, 0), (.aload_n 0, 0, 0, 0), (.iload_n 3, 3, 0, 0), (.iconst 3, 0, 0, 3), (.iadd, 0, 0, 0), (.iaload, 0, 0, 0), (.invokevirtual 48, 41, 0, 445),
  (.aload_n 2, 2, 0, 0), (.aload_n 0, 0, 0, 0), (.iload_n 3, 3, 0, 0), (.iconst 1, 0, 0, 1), (.iadd, 0, 0, 0), (.iaload, 0, 0, 0), (.aload_n 0, 0, 0, 0), (.iload_n 3, 3, 0, 0),
  (.iconst 2, 0, 0, 2), (.iadd, 0, 0, 0), (.iaload, 0, 0, 0), (.aload_n 0, 0, 0, 0), (.iload_n 3, 3, 0, 0), (.iconst 3, 0, 0, 3), (.iadd, 0, 0, 0), (.iaload, 0, 0, 0),
  (.invokevirtual 51, 140, 0, 979), (.if_icmp .eq 1101, 1148, 0, 0), (.iconst 0, 0, 0, 0), (.ireturn, 1, 0, 0), (.aload_n 1, 1, 0, 0), (.aload_n 0, 0, 0, 0), (.iload_n 3, 3, 0, 0), (.iconst 1, 0, 0, 1),
  (.iadd, 0, 0, 0), (.iaload, 0, 0, 0), (.aload_n 0, 0, 0, 0), (.iload_n 3, 3, 0, 0), (.iconst 2, 0, 0, 2), (.iadd, 0, 0, 0), (.iaload, 0, 0, 0), (.invokevirtual 52, 42, 0, 449),
  (.aload_n 2, 2, 0, 0), (.aload_n 0, 0, 0, 0), (.iload_n 3, 3, 0, 0), (.iconst 1, 0, 0, 1), (.iadd, 0, 0, 0), (.iaload, 0, 0, 0), (.aload_n 0, 0, 0, 0), (.iload_n 3, 3, 0, 0),
  (.iconst 2, 0, 0, 2), (.iadd, 0, 0, 0), (.iaload, 0, 0, 0), (.invokevirtual 55, 141, 0, 983), (.if_icmp .eq 1068, 1148, 0, 0), (.iconst 0, 0, 0, 0), (.ireturn, 1, 0, 0), (.aload_n 1, 1, 0, 0),
  (.aload_n 0, 0, 0, 0), (.iload_n 3, 3, 0, 0), (.iconst 1, 0, 0, 1), (.iadd, 0, 0, 0), (.iaload, 0, 0, 0), (.invokevirtual 56, 44, 0, 458), (.aload_n 2, 2, 0, 0), (.aload_n 0, 0, 0, 0),
  (.iload_n 3, 3, 0, 0), (.iconst 1, 0, 0, 1), (.iadd, 0, 0, 0), (.iaload, 0, 0, 0), (.invokevirtual 59, 143, 0, 991), (.if_icmp .eq 1045, 1148, 0, 0), (.iconst 0, 0, 0, 0), (.ireturn, 1, 0, 0),
  (.aload_n 1, 1, 0, 0), (.aload_n 0, 0, 0, 0), (.iload_n 3, 3, 0, 0), (.iconst 1, 0, 0, 1), (.iadd, 0, 0, 0), (.iaload, 0, 0, 0), (.aload_n 0, 0, 0, 0), (.iload_n 3, 3, 0, 0),
  (.iconst 2, 0, 0, 2), (.iadd, 0, 0, 0), (.iaload, 0, 0, 0), (.invokevirtual 60, 46, 0, 466), (.aload_n 2, 2, 0, 0), (.aload_n 0, 0, 0, 0), (.iload_n 3, 3, 0, 0), (.iconst 1, 0, 0, 1),
  (.iadd, 0, 0, 0), (.iaload, 0, 0, 0), (.aload_n 0, 0, 0, 0), (.iload_n 3, 3, 0, 0), (.iconst 2, 0, 0, 2), (.iadd, 0, 0, 0), (.iaload, 0, 0, 0), (.invokevirtual 63, 145, 0, 999),
  (.if_icmp .eq 1012, 1148, 0, 0), (.iconst 0, 0, 0, 0), (.ireturn, 1, 0, 0), (.aload_n 1, 1, 0, 0), (.aload_n 0, 0, 0, 0), (.iload_n 3, 3, 0, 0), (.iconst 1, 0, 0, 1), (.iadd, 0, 0, 0),
  (.iaload, 0, 0, 0), (.aload_n 0, 0, 0, 0), (.iload_n 3, 3, 0, 0), (.iconst 2, 0, 0, 2), (.iadd, 0, 0, 0), (.iaload, 0, 0, 0), (.invokevirtual 64, 53, 0, 499), (.aload_n 2, 2, 0, 0),
  (.aload_n 0, 0, 0, 0), (.iload_n 3, 3, 0, 0), (.iconst 1, 0, 0, 1), (.iadd, 0, 0, 0), (.iaload, 0, 0, 0), (.aload_n 0, 0, 0, 0), (.iload_n 3, 3, 0, 0), (.iconst 2, 0, 0, 2),
  (.iadd, 0, 0, 0), (.iaload, 0, 0, 0), (.invokevirtual 67, 148, 0, 1011), (.if_icmp .eq 979, 1148, 0, 0), (.iconst 0, 0, 0, 0), (.ireturn, 1, 0, 0), (.aload_n 1, 1, 0, 0), (.aload_n 0, 0, 0, 0),
  (.iload_n 3, 3, 0, 0), (.iconst 1, 0, 0, 1), (.iadd, 0, 0, 0), (.iaload, 0, 0, 0), (.invokevirtual 68, 55, 0, 508), (.aload_n 2, 2, 0, 0), (.aload_n 0, 0, 0, 0), (.iload_n 3, 3, 0, 0),
  (.iconst 1, 0, 0, 1), (.iadd, 0, 0, 0), (.iaload, 0, 0, 0), (.invokevirtual 71, 151, 0, 1022), (.if_icmp .eq 956, 1148, 0, 0), (.iconst 0, 0, 0, 0), (.ireturn, 1, 0, 0), (.aload_n 1, 1, 0, 0),
  (.aload_n 0, 0, 0, 0), (.iload_n 3, 3, 0, 0), (.iconst 1, 0, 0, 1), (.iadd, 0, 0, 0), (.iaload, 0, 0, 0), (.aload_n 0, 0, 0, 0), (.iload_n 3, 3, 0, 0), (.iconst 2, 0, 0, 2),
  (.iadd, 0, 0, 0), (.iaload, 0, 0, 0), (.ifCond .eq 7, 381, 0, 0), (.iconst 1, 0, 0, 1), (.goto 4, 382, 0, 0), (.iconst 0, 0, 0, 0), (.invokevirtual 72, 56, 0, 512), (.aload_n 2, 2, 0, 0),
  (.aload_n 0, 0, 0, 0), (.iload_n 3, 3, 0, 0), (.iconst 1, 0, 0, 1), (.iadd, 0, 0, 0), (.iaload, 0, 0, 0), (.aload_n 0, 0, 0, 0), (.iload_n 3, 3, 0, 0), (.iconst 2, 0, 0, 2),
  (.iadd, 0, 0, 0), (.iaload, 0, 0, 0), (.ifCond .eq 7, 397, 0, 0), (.iconst 1, 0, 0, 1), (.goto 4, 398, 0, 0), (.iconst 0, 0, 0, 0), (.invokevirtual 76, 152, 0, 1027), (.if_icmp .eq 907, 1148, 0, 0),
  (.iconst 0, 0, 0, 0), (.ireturn, 1, 0, 0), (.aload_n 1, 1, 0, 0), (.aload_n 0, 0, 0, 0), (.iload_n 3, 3, 0, 0), (.iconst 1, 0, 0, 1), (.iadd, 0, 0, 0), (.iaload, 0, 0, 0),
  (.invokevirtual 77, 58, 0, 519), (.aload_n 2, 2, 0, 0), (.aload_n 0, 0, 0, 0), (.iload_n 3, 3, 0, 0), (.iconst 1, 0, 0, 1), (.iadd, 0, 0, 0), (.iaload, 0, 0, 0), (.invokevirtual 80, 153, 0, 1031),
  (.if_icmp .eq 884, 1148, 0, 0), (.iconst 0, 0, 0, 0), (.ireturn, 1, 0, 0), (.aload_n 1, 1, 0, 0), (.aload_n 0, 0, 0, 0), (.iload_n 3, 3, 0, 0), (.iconst 1, 0, 0, 1), (.iadd, 0, 0, 0),
  (.iaload, 0, 0, 0), (.aload_n 0, 0, 0, 0), (.iload_n 3, 3, 0, 0), (.iconst 2, 0, 0, 2), (.iadd, 0, 0, 0), (.iaload, 0, 0, 0), (.aload_n 0, 0, 0, 0), (.iload_n 3, 3, 0, 0),
  (.iconst 3, 0, 0, 3), (.iadd, 0, 0, 0), (.iaload, 0, 0, 0), (.aload_n 0, 0, 0, 0), (.iload_n 3, 3, 0, 0), (.iconst 4, 0, 0, 4), (.iadd, 0, 0, 0), (.iaload, 0, 0, 0),
  (.invokevirtual 81, 60, 0, 529), (.aload_n 2, 2, 0, 0), (.aload_n 0, 0, 0, 0), (.iload_n 3, 3, 0, 0), (.iconst 1, 0, 0, 1), (.iadd, 0, 0, 0), (.iaload, 0, 0, 0), (.aload_n 0, 0, 0, 0),
  (.iload_n 3, 3, 0, 0), (.iconst 2, 0, 0, 2), (.iadd, 0, 0, 0), (.iaload, 0, 0, 0), (.aload_n 0, 0, 0, 0), (.iload_n 3, 3, 0, 0), (.iconst 3, 0, 0, 3), (.iadd, 0, 0, 0),
  (.iaload, 0, 0, 0), (.aload_n 0, 0, 0, 0), (.iload_n 3, 3, 0, 0), (.iconst 4, 0, 0, 4), (.iadd, 0, 0, 0), (.iaload, 0, 0, 0), (.invokevirtual 85, 155, 0, 1038), (.if_icmp .eq 831, 1148, 0, 0),
  (.iconst 0, 0, 0, 0), (.ireturn, 1, 0, 0), (.aload_n 1, 1, 0, 0), (.aload_n 0, 0, 0, 0), (.iload_n 3, 3, 0, 0), (.iconst 1, 0, 0, 1), (.iadd, 0, 0, 0), (.iaload, 0, 0, 0),
  (.aload_n 0, 0, 0, 0), (.iload_n 3, 3, 0, 0), (.iconst 2, 0, 0, 2), (.iadd, 0, 0, 0), (.iaload, 0, 0, 0), (.invokevirtual 86, 62, 0, 537), (.aload_n 2, 2, 0, 0), (.aload_n 0, 0, 0, 0),
  (.iload_n 3, 3, 0, 0), (.iconst 1, 0, 0, 1), (.iadd, 0, 0, 0), (.iaload, 0, 0, 0), (.aload_n 0, 0, 0, 0), (.iload_n 3, 3, 0, 0), (.iconst 2, 0, 0, 2), (.iadd, 0, 0, 0),
  (.iaload, 0, 0, 0), (.invokevirtual 89, 156, 0, 1042), (.if_icmp .eq 798, 1148, 0, 0), (.iconst 0, 0, 0, 0), (.ireturn, 1, 0, 0), (.aload_n 1, 1, 0, 0), (.aload_n 0, 0, 0, 0), (.iload_n 3, 3, 0, 0),
  (.iconst 1, 0, 0, 1), (.iadd, 0, 0, 0), (.iaload, 0, 0, 0), (.invokevirtual 90, 69, 0, 570), (.aload_n 2, 2, 0, 0), (.aload_n 0, 0, 0, 0), (.iload_n 3, 3, 0, 0), (.iconst 1, 0, 0, 1),
  (.iadd, 0, 0, 0), (.iaload, 0, 0, 0), (.invokevirtual 93, 160, 0, 1059), (.if_icmp .eq 775, 1148, 0, 0), (.iconst 0, 0, 0, 0), (.ireturn, 1, 0, 0), (.aload_n 1, 1, 0, 0), (.aload_n 0, 0, 0, 0),
  (.iload_n 3, 3, 0, 0), (.iconst 1, 0, 0, 1), (.iadd, 0, 0, 0), (.iaload, 0, 0, 0), (.invokevirtual 94, 71, 0, 578), (.aload_n 2, 2, 0, 0), (.aload_n 0, 0, 0, 0), (.iload_n 3, 3, 0, 0),
  (.iconst 1, 0, 0, 1), (.iadd, 0, 0, 0), (.iaload, 0, 0, 0), (.invokevirtual 97, 162, 0, 1067), (.if_icmp .eq 752, 1148, 0, 0), (.iconst 0, 0, 0, 0), (.ireturn, 1, 0, 0), (.aload_n 1, 1, 0, 0),
  (.aload_n 0, 0, 0, 0), (.iload_n 3, 3, 0, 0), (.iconst 1, 0, 0, 1), (.iadd, 0, 0, 0), (.iaload, 0, 0, 0), (.aload_n 0, 0, 0, 0), (.iload_n 3, 3, 0, 0), (.iconst 2, 0, 0, 2),
  (.iadd, 0, 0, 0), (.iaload, 0, 0, 0), (.invokevirtual 98, 74, 0, 590), (.aload_n 2, 2, 0, 0), (.aload_n 0, 0, 0, 0), (.iload_n 3, 3, 0, 0), (.iconst 1, 0, 0, 1), (.iadd, 0, 0, 0),
  (.iaload, 0, 0, 0), (.aload_n 0, 0, 0, 0), (.iload_n 3, 3, 0, 0), (.iconst 2, 0, 0, 2), (.iadd, 0, 0, 0), (.iaload, 0, 0, 0), (.invokevirtual 101, 163, 0, 1071), (.if_icmp .eq 719, 1148, 0, 0),
  (.iconst 0, 0, 0, 0), (.ireturn, 1, 0, 0), (.aload_n 1, 1, 0, 0), (.aload_n 0, 0, 0, 0), (.iload_n 3, 3, 0, 0), (.iconst 1, 0, 0, 1), (.iadd, 0, 0, 0), (.iaload, 0, 0, 0),
  (.aload_n 0, 0, 0, 0), (.iload_n 3, 3, 0, 0), (.iconst 2, 0, 0, 2), (.iadd, 0, 0, 0), (.iaload, 0, 0, 0), (.aload_n 0, 0, 0, 0), (.iload_n 3, 3, 0, 0), (.iconst 3, 0, 0, 3),
  (.iadd, 0, 0, 0), (.iaload, 0, 0, 0), (.invokevirtual 102, 80, 0, 622), (.aload_n 2, 2, 0, 0), (.aload_n 0, 0, 0, 0), (.iload_n 3, 3, 0, 0), (.iconst 1, 0, 0, 1), (.iadd, 0, 0, 0),
  (.iaload, 0, 0, 0), (.aload_n 0, 0, 0, 0), (.iload_n 3, 3, 0, 0), (.iconst 2, 0, 0, 2), (.iadd, 0, 0, 0), (.iaload, 0, 0, 0), (.aload_n 0, 0, 0, 0), (.iload_n 3, 3, 0, 0),
  (.iconst 3, 0, 0, 3), (.iadd, 0, 0, 0), (.iaload, 0, 0, 0), (.invokevirtual 105, 164, 0, 1075), (.if_icmp .eq 676, 1148, 0, 0), (.iconst 0, 0, 0, 0), (.ireturn, 1, 0, 0), (.aload_n 1, 1, 0, 0),
  (.aload_n 0, 0, 0, 0), (.iload_n 3, 3, 0, 0), (.iconst 1, 0, 0, 1), (.iadd, 0, 0, 0), (.iaload, 0, 0, 0), (.aload_n 0, 0, 0, 0), (.iload_n 3, 3, 0, 0), (.iconst 2, 0, 0, 2),
  (.iadd, 0, 0, 0), (.iaload, 0, 0, 0), (.aload_n 0, 0, 0, 0), (.iload_n 3, 3, 0, 0), (.iconst 3, 0, 0, 3), (.iadd, 0, 0, 0), (.iaload, 0, 0, 0), (.aload_n 0, 0, 0, 0),
  (.iload_n 3, 3, 0, 0), (.iconst 4, 0, 0, 4), (.iadd, 0, 0, 0), (.iaload, 0, 0, 0), (.invokevirtual 106, 84, 0, 638), (.aload_n 2, 2, 0, 0), (.aload_n 0, 0, 0, 0), (.iload_n 3, 3, 0, 0),
  (.iconst 1, 0, 0, 1), (.iadd, 0, 0, 0), (.iaload, 0, 0, 0), (.aload_n 0, 0, 0, 0), (.iload_n 3, 3, 0, 0), (.iconst 2, 0, 0, 2), (.iadd, 0, 0, 0), (.iaload, 0, 0, 0),
  (.aload_n 0, 0, 0, 0), (.iload_n 3, 3, 0, 0), (.iconst 3, 0, 0, 3), (.iadd, 0, 0, 0), (.iaload, 0, 0, 0), (.aload_n 0, 0, 0, 0), (.iload_n 3, 3, 0, 0), (.iconst 4, 0, 0, 4),
  (.iadd, 0, 0, 0), (.iaload, 0, 0, 0), (.invokevirtual 109, 165, 0, 1079), (.if_icmp .eq 623, 1148, 0, 0), (.iconst 0, 0, 0, 0), (.ireturn, 1, 0, 0), (.aload_n 1, 1, 0, 0), (.aload_n 0, 0, 0, 0),
  (.iload_n 3, 3, 0, 0), (.iconst 1, 0, 0, 1), (.iadd, 0, 0, 0), (.iaload, 0, 0, 0), (.invokevirtual 110, 89, 0, 658), (.aload_n 2, 2, 0, 0), (.aload_n 0, 0, 0, 0), (.iload_n 3, 3, 0, 0),
  (.iconst 1, 0, 0, 1), (.iadd, 0, 0, 0), (.iaload, 0, 0, 0), (.invokevirtual 113, 168, 0, 1093), (.if_icmp .eq 600, 1148, 0, 0), (.iconst 0, 0, 0, 0), (.ireturn, 1, 0, 0), (.aload_n 1, 1, 0, 0),
  (.aload_n 0, 0, 0, 0), (.iload_n 3, 3, 0, 0), (.iconst 1, 0, 0, 1), (.iadd, 0, 0, 0), (.iaload, 0, 0, 0), (.aload_n 0, 0, 0, 0), (.iload_n 3, 3, 0, 0), (.iconst 2, 0, 0, 2),
  (.iadd, 0, 0, 0), (.iaload, 0, 0, 0), (.invokevirtual 114, 92, 0, 671), (.aload_n 2, 2, 0, 0), (.aload_n 0, 0, 0, 0), (.iload_n 3, 3, 0, 0), (.iconst 1, 0, 0, 1), (.iadd, 0, 0, 0),
  (.iaload, 0, 0, 0), (.aload_n 0, 0, 0, 0), (.iload_n 3, 3, 0, 0), (.iconst 2, 0, 0, 2), (.iadd, 0, 0, 0), (.iaload, 0, 0, 0), (.invokevirtual 117, 170, 0, 1101), (.if_icmp .eq 567, 1148, 0, 0),
  (.iconst 0, 0, 0, 0), (.ireturn, 1, 0, 0), (.aload_n 1, 1, 0, 0), (.aload_n 0, 0, 0, 0), (.iload_n 3, 3, 0, 0), (.iconst 1, 0, 0, 1), (.iadd, 0, 0, 0), (.iaload, 0, 0, 0),
  (.aload_n 0, 0, 0, 0), (.iload_n 3, 3, 0, 0), (.iconst 2, 0, 0, 2), (.iadd, 0, 0, 0), (.iaload, 0, 0, 0), (.invokevirtual 118, 94, 0, 681), (.aload_n 2, 2, 0, 0), (.aload_n 0, 0, 0, 0),
  (.iload_n 3, 3, 0, 0), (.iconst 1, 0, 0, 1), (.iadd, 0, 0, 0), (.iaload, 0, 0, 0), (.aload_n 0, 0, 0, 0), (.iload_n 3, 3, 0, 0), (.iconst 2, 0, 0, 2), (.iadd, 0, 0, 0),
  (.iaload, 0, 0, 0), (.invokevirtual 121, 171, 0, 1106), (.if_icmp .eq 534, 1148, 0, 0), (.iconst 0, 0, 0, 0), (.ireturn, 1, 0, 0), (.aload_n 1, 1, 0, 0), (.aload_n 0, 0, 0, 0), (.iload_n 3, 3, 0, 0),
  (.iconst 1, 0, 0, 1), (.iadd, 0, 0, 0), (.iaload, 0, 0, 0), (.aload_n 0, 0, 0, 0), (.iload_n 3, 3, 0, 0), (.iconst 2, 0, 0, 2), (.iadd, 0, 0, 0), (.iaload, 0, 0, 0),
  (.aload_n 0, 0, 0, 0), (.iload_n 3, 3, 0, 0), (.iconst 3, 0, 0, 3), (.iadd, 0, 0, 0), (.iaload, 0, 0, 0), (.ifCond .eq 7, 728, 0, 0), (.iconst 1, 0, 0, 1), (.goto 4, 729, 0, 0),
  (.iconst 0, 0, 0, 0), (.invokevirtual 122, 96, 0, 690), (.aload_n 2, 2, 0, 0), (.aload_n 0, 0, 0, 0), (.iload_n 3, 3, 0, 0), (.iconst 1, 0, 0, 1), (.iadd, 0, 0, 0), (.iaload, 0, 0, 0),
  (.aload_n 0, 0, 0, 0), (.iload_n 3, 3, 0, 0), (.iconst 2, 0, 0, 2), (.iadd, 0, 0, 0), (.iaload, 0, 0, 0), (.aload_n 0, 0, 0, 0), (.iload_n 3, 3, 0, 0), (.iconst 3, 0, 0, 3),
  (.iadd, 0, 0, 0), (.iaload, 0, 0, 0), (.ifCond .eq 7, 749, 0, 0), (.iconst 1, 0, 0, 1), (.goto 4, 750, 0, 0), (.iconst 0, 0, 0, 0), (.invokevirtual 126, 172, 0, 1111), (.if_icmp .eq 475, 1148, 0, 0),
  (.iconst 0, 0, 0, 0), (.ireturn, 1, 0, 0), (.aload_n 1, 1, 0, 0), (.aload_n 0, 0, 0, 0), (.iload_n 3, 3, 0, 0), (.iconst 1, 0, 0, 1), (.iadd, 0, 0, 0), (.iaload, 0, 0, 0),
  (.aload_n 0, 0, 0, 0), (.iload_n 3, 3, 0, 0), (.iconst 2, 0, 0, 2), (.iadd, 0, 0, 0), (.iaload, 0, 0, 0), (.invokevirtual 127, 97, 0, 695), (.aload_n 2, 2, 0, 0), (.aload_n 0, 0, 0, 0),
  (.iload_n 3, 3, 0, 0), (.iconst 1, 0, 0, 1), (.iadd, 0, 0, 0), (.iaload, 0, 0, 0), (.aload_n 0, 0, 0, 0), (.iload_n 3, 3, 0, 0), (.iconst 2, 0, 0, 2), (.iadd, 0, 0, 0),
  (.iaload, 0, 0, 0), (.invokevirtual 130, 173, 0, 1115), (.if_icmp .eq 442, 1148, 0, 0), (.iconst 0, 0, 0, 0), (.ireturn, 1, 0, 0), (.aload_n 1, 1, 0, 0), (.invokevirtual 131, 100, 0, 708), (.aload_n 2, 2, 0, 0),
  (.invokevirtual 134, 174, 0, 1119), (.if_icmp .eq 429, 1148, 0, 0), (.iconst 0, 0, 0, 0), (.ireturn, 1, 0, 0), (.aload_n 1, 1, 0, 0), (.aload_n 0, 0, 0, 0), (.iload_n 3, 3, 0, 0), (.iconst 1, 0, 0, 1),
  (.iadd, 0, 0, 0), (.iaload, 0, 0, 0), (.aload_n 0, 0, 0, 0), (.iload_n 3, 3, 0, 0), (.iconst 2, 0, 0, 2), (.iadd, 0, 0, 0), (.iaload, 0, 0, 0), (.invokevirtual 135, 101, 0, 712),
  (.aload_n 2, 2, 0, 0), (.aload_n 0, 0, 0, 0), (.iload_n 3, 3, 0, 0), (.iconst 1, 0, 0, 1), (.iadd, 0, 0, 0), (.iaload, 0, 0, 0), (.aload_n 0, 0, 0, 0), (.iload_n 3, 3, 0, 0),
  (.iconst 2, 0, 0, 2), (.iadd, 0, 0, 0), (.iaload, 0, 0, 0), (.invokevirtual 138, 175, 0, 1123), (.if_icmp .eq 396, 1148, 0, 0), (.iconst 0, 0, 0, 0), (.ireturn, 1, 0, 0), (.aload_n 1, 1, 0, 0),
  (.aload_n 0, 0, 0, 0), (.iload_n 3, 3, 0, 0), (.iconst 1, 0, 0, 1), (.iadd, 0, 0, 0), (.iaload, 0, 0, 0), (.aload_n 0, 0, 0, 0), (.iload_n 3, 3, 0, 0), (.iconst 2, 0, 0, 2),
  (.iadd, 0, 0, 0), (.iaload, 0, 0, 0), (.invokevirtual 139, 103, 0, 721), (.aload_n 2, 2, 0, 0), (.aload_n 0, 0, 0, 0), (.iload_n 3, 3, 0, 0), (.iconst 1, 0, 0, 1), (.iadd, 0, 0, 0),
  (.iaload, 0, 0, 0), (.aload_n 0, 0, 0, 0), (.iload_n 3, 3, 0, 0), (.iconst 2, 0, 0, 2), (.iadd, 0, 0, 0), (.iaload, 0, 0, 0), (.invokevirtual 142, 177, 0, 1131), (.if_icmp .eq 363, 1148, 0, 0),
  (.iconst 0, 0, 0, 0), (.ireturn, 1, 0, 0), (.aload_n 1, 1, 0, 0), (.invokevirtual 143, 104, 0, 726), (.aload_n 2, 2, 0, 0), (.invokevirtual 146, 178, 0, 1135), (.if_icmp .eq 350, 1148, 0, 0), (.iconst 0, 0, 0, 0),
  (.ireturn, 1, 0, 0), (.aload_n 1, 1, 0, 0), (.invokevirtual 147, 105, 0, 731), (.aload_n 2, 2, 0, 0), (.invokevirtual 150, 180, 0, 1142), (.if_icmp .eq 337, 1148, 0, 0), (.iconst 0, 0, 0, 0), (.ireturn, 1, 0, 0),
  (.aload_n 1, 1, 0, 0), (.aload_n 0, 0, 0, 0), (.iload_n 3, 3, 0, 0), (.iconst 1, 0, 0, 1), (.iadd, 0, 0, 0), (.iaload, 0, 0, 0), (.aload_n 0, 0, 0, 0), (.iload_n 3, 3, 0, 0),
  (.iconst 2, 0, 0, 2), (.iadd, 0, 0, 0), (.iaload, 0, 0, 0), (.aload_n 0, 0, 0, 0), (.iload_n 3, 3, 0, 0), (.iconst 3, 0, 0, 3), (.iadd, 0, 0, 0), (.iaload, 0, 0, 0),
  (.aload_n 0, 0, 0, 0), (.iload_n 3, 3, 0, 0), (.iconst 4, 0, 0, 4), (.iadd, 0, 0, 0), (.iaload, 0, 0, 0), (.aload_n 0, 0, 0, 0), (.iload_n 3, 3, 0, 0), (.iconst 5, 0, 0, 5),
  (.iadd, 0, 0, 0), (.iaload, 0, 0, 0), (.aload_n 0, 0, 0, 0), (.iload_n 3, 3, 0, 0), (.bipush 6, 0, 0, 6), (.iadd, 0, 0, 0), (.iaload, 0, 0, 0), (.invokevirtual 151, 106, 0, 735),
  (.aload_n 2, 2, 0, 0), (.aload_n 0, 0, 0, 0), (.iload_n 3, 3, 0, 0), (.iconst 1, 0, 0, 1), (.iadd, 0, 0, 0), (.iaload, 0, 0, 0), (.aload_n 0, 0, 0, 0), (.iload_n 3, 3, 0, 0),
  (.iconst 2, 0, 0, 2), (.iadd, 0, 0, 0), (.iaload, 0, 0, 0), (.aload_n 0, 0, 0, 0), (.iload_n 3, 3, 0, 0), (.iconst 3, 0, 0, 3), (.iadd, 0, 0, 0), (.iaload, 0, 0, 0),
  (.aload_n 0, 0, 0, 0), (.iload_n 3, 3, 0, 0), (.iconst 4, 0, 0, 4), (.iadd, 0, 0, 0), (.iaload, 0, 0, 0), (.aload_n 0, 0, 0, 0), (.iload_n 3, 3, 0, 0), (.iconst 5, 0, 0, 5),
  (.iadd, 0, 0, 0), (.iaload, 0, 0, 0), (.aload_n 0, 0, 0, 0), (.iload_n 3, 3, 0, 0), (.bipush 6, 0, 0, 6), (.iadd, 0, 0, 0), (.iaload, 0, 0, 0), (.invokevirtual 155, 182, 0, 1149),
  (.if_icmp .eq 262, 1148, 0, 0), (.iconst 0, 0, 0, 0), (.ireturn, 1, 0, 0), (.aload_n 1, 1, 0, 0), (.aload_n 0, 0, 0, 0), (.iload_n 3, 3, 0, 0), (.iconst 1, 0, 0, 1), (.iadd, 0, 0, 0),
  (.iaload, 0, 0, 0), (.aload_n 0, 0, 0, 0), (.iload_n 3, 3, 0, 0), (.iconst 2, 0, 0, 2), (.iadd, 0, 0, 0), (.iaload, 0, 0, 0), (.aload_n 0, 0, 0, 0), (.iload_n 3, 3, 0, 0),
  (.iconst 3, 0, 0, 3), (.iadd, 0, 0, 0), (.iaload, 0, 0, 0), (.aload_n 0, 0, 0, 0), (.iload_n 3, 3, 0, 0), (.iconst 4, 0, 0, 4), (.iadd, 0, 0, 0), (.iaload, 0, 0, 0),
  (.aload_n 0, 0, 0, 0), (.iload_n 3, 3, 0, 0), (.iconst 5, 0, 0, 5), (.iadd, 0, 0, 0), (.iaload, 0, 0, 0), (.aload_n 0, 0, 0, 0), (.iload_n 3, 3, 0, 0), (.bipush 6, 0, 0, 6),
  (.iadd, 0, 0, 0), (.iaload, 0, 0, 0), (.invokevirtual 156, 113, 0, 762), (.aload_n 2, 2, 0, 0), (.aload_n 0, 0, 0, 0), (.iload_n 3, 3, 0, 0), (.iconst 1, 0, 0, 1), (.iadd, 0, 0, 0),
  (.iaload, 0, 0, 0), (.aload_n 0, 0, 0, 0), (.iload_n 3, 3, 0, 0), (.iconst 2, 0, 0, 2), (.iadd, 0, 0, 0), (.iaload, 0, 0, 0), (.aload_n 0, 0, 0, 0), (.iload_n 3, 3, 0, 0),
  (.iconst 3, 0, 0, 3), (.iadd, 0, 0, 0), (.iaload, 0, 0, 0), (.aload_n 0, 0, 0, 0), (.iload_n 3, 3, 0, 0), (.iconst 4, 0, 0, 4), (.iadd, 0, 0, 0), (.iaload, 0, 0, 0),
  (.aload_n 0, 0, 0, 0), (.iload_n 3, 3, 0, 0), (.iconst 5, 0, 0, 5), (.iadd, 0, 0, 0), (.iaload, 0, 0, 0), (.aload_n 0, 0, 0, 0), (.iload_n 3, 3, 0, 0), (.bipush 6, 0, 0, 6),
  (.iadd, 0, 0, 0), (.iaload, 0, 0, 0), (.invokevirtual 159, 186, 0, 1164), (.if_icmp .eq 187, 1148, 0, 0), (.iconst 0, 0, 0, 0), (.ireturn, 1, 0, 0), (.aload_n 1, 1, 0, 0), (.aload_n 0, 0, 0, 0),
  (.iload_n 3, 3, 0, 0), (.iconst 1, 0, 0, 1), (.iadd, 0, 0, 0), (.iaload, 0, 0, 0), (.aload_n 0, 0, 0, 0), (.iload_n 3, 3, 0, 0), (.iconst 2, 0, 0, 2), (.iadd, 0, 0, 0),
  (.iaload, 0, 0, 0), (.aload_n 0, 0, 0, 0), (.iload_n 3, 3, 0, 0), (.iconst 3, 0, 0, 3), (.iadd, 0, 0, 0), (.iaload, 0, 0, 0), (.invokevirtual 160, 116, 0, 775), (.aload_n 2, 2, 0, 0),
  (.aload_n 0, 0, 0, 0), (.iload_n 3, 3, 0, 0), (.iconst 1, 0, 0, 1), (.iadd, 0, 0, 0), (.iaload, 0, 0, 0), (.aload_n 0, 0, 0, 0), (.iload_n 3, 3, 0, 0), (.iconst 2, 0, 0, 2),
  (.iadd, 0, 0, 0), (.iaload, 0, 0, 0), (.aload_n 0, 0, 0, 0), (.iload_n 3, 3, 0, 0), (.iconst 3, 0, 0, 3), (.iadd, 0, 0, 0), (.iaload, 0, 0, 0), (.invokevirtual 163, 187, 0, 1168),
  (.if_icmp .eq 144, 1148, 0, 0), (.iconst 0, 0, 0, 0), (.ireturn, 1, 0, 0), (.aload_n 1, 1, 0, 0), (.aload_n 0, 0, 0, 0), (.iload_n 3, 3, 0, 0), (.iconst 1, 0, 0, 1), (.iadd, 0, 0, 0),
  (.iaload, 0, 0, 0), (.invokevirtual 164, 118, 0, 784), (.aload_n 2, 2, 0, 0), (.aload_n 0, 0, 0, 0), (.iload_n 3, 3, 0, 0), (.iconst 1, 0, 0, 1), (.iadd, 0, 0, 0), (.iaload, 0, 0, 0),
  (.invokevirtual 167, 188, 0, 1172), (.if_icmp .eq 121, 1148, 0, 0), (.iconst 0, 0, 0, 0), (.ireturn, 1, 0, 0), (.aload_n 1, 1, 0, 0), (.aload_n 0, 0, 0, 0), (.iload_n 3, 3, 0, 0), (.iconst 1, 0, 0, 1),
  (.iadd, 0, 0, 0), (.iaload, 0, 0, 0), (.aload_n 0, 0, 0, 0), (.iload_n 3, 3, 0, 0), (.iconst 2, 0, 0, 2), (.iadd, 0, 0, 0), (.iaload, 0, 0, 0), (.aload_n 0, 0, 0, 0),
  (.iload_n 3, 3, 0, 0), (.iconst 3, 0, 0, 3), (.iadd, 0, 0, 0), (.iaload, 0, 0, 0), (.aload_n 0, 0, 0, 0), (.iload_n 3, 3, 0, 0), (.iconst 4, 0, 0, 4), (.iadd, 0, 0, 0),
  (.iaload, 0, 0, 0), (.invokevirtual 168, 119, 0, 788), (.aload_n 2, 2, 0, 0), (.aload_n 0, 0, 0, 0), (.iload_n 3, 3, 0, 0), (.iconst 1, 0, 0, 1), (.iadd, 0, 0, 0), (.iaload, 0, 0, 0),
  (.aload_n 0, 0, 0, 0), (.iload_n 3, 3, 0, 0), (.iconst 2, 0, 0, 2), (.iadd, 0, 0, 0), (.iaload, 0, 0, 0), (.aload_n 0, 0, 0, 0), (.iload_n 3, 3, 0, 0), (.iconst 3, 0, 0, 3),
  (.iadd, 0, 0, 0), (.iaload, 0, 0, 0), (.aload_n 0, 0, 0, 0), (.iload_n 3, 3, 0, 0), (.iconst 4, 0, 0, 4), (.iadd, 0, 0, 0), (.iaload, 0, 0, 0), (.invokevirtual 171, 189, 0, 1176),
  (.if_icmp .eq 68, 1148, 0, 0), (.iconst 0, 0, 0, 0), (.ireturn, 1, 0, 0), (.aload_n 1, 1, 0, 0), (.aload_n 0, 0, 0, 0), (.iload_n 3, 3, 0, 0), (.iconst 1, 0, 0, 1), (.iadd, 0, 0, 0),
  (.iaload, 0, 0, 0), (.aload_n 0, 0, 0, 0), (.iload_n 3, 3, 0, 0), (.iconst 2, 0, 0, 2), (.iadd, 0, 0, 0), (.iaload, 0, 0, 0), (.aload_n 0, 0, 0, 0), (.iload_n 3, 3, 0, 0),
  (.iconst 3, 0, 0, 3), (.iadd, 0, 0, 0), (.iaload, 0, 0, 0), (.aload_n 0, 0, 0, 0), (.iload_n 3, 3, 0, 0), (.iconst 4, 0, 0, 4), (.iadd, 0, 0, 0), (.iaload, 0, 0, 0),
  (.aload_n 0, 0, 0, 0), (.iload_n 3, 3, 0, 0), (.iconst 5, 0, 0, 5), (.iadd, 0, 0, 0), (.iaload, 0, 0, 0), (.invokevirtual 172, 121, 0, 796), (.aload_n 2, 2, 0, 0), (.aload_n 0, 0, 0, 0),
  (.iload_n 3, 3, 0, 0), (.iconst 1, 0, 0, 1), (.iadd, 0, 0, 0), (.iaload, 0, 0, 0), (.aload_n 0, 0, 0, 0), (.iload_n 3, 3, 0, 0), (.iconst 2, 0, 0, 2), (.iadd, 0, 0, 0),
  (.iaload, 0, 0, 0), (.aload_n 0, 0, 0, 0), (.iload_n 3, 3, 0, 0), (.iconst 3, 0, 0, 3), (.iadd, 0, 0, 0), (.iaload, 0, 0, 0), (.aload_n 0, 0, 0, 0), (.iload_n 3, 3, 0, 0),
  (.iconst 4, 0, 0, 4), (.iadd, 0, 0, 0), (.iaload, 0, 0, 0), (.aload_n 0, 0, 0, 0), (.iload_n 3, 3, 0, 0), (.iconst 5, 0, 0, 5), (.iadd, 0, 0, 0), (.iaload, 0, 0, 0),
  (.invokevirtual 176, 190, 0, 1180), (.if_icmp .eq 5, 1148, 0, 0), (.iconst 0, 0, 0, 0), (.ireturn, 1, 0, 0), (.iinc 3 7, 3, 0, 7), (.goto (-1565), 10, 0, 0), (.iconst 1, 0, 0, 1), (.ireturn, 1, 0, 0)]
def jx_cd : List (List (Instr × Nat × Nat × Int)) := [jx_c0, jx_c1, jx_c2, jx_c3, jx_c4, jx_c5, jx_c6, jx_c7, jx_c8, jx_c9, jx_c10, jx_c11,
  jx_c12, jx_c13, jx_c14, jx_c15, jx_c16, jx_c17, jx_c18, jx_c19, jx_c20, jx_c21, jx_c22, jx_c23,
  jx_c24, jx_c25, jx_c26, jx_c27, jx_c28, jx_c29, jx_c30, jx_c31, jx_c32, jx_c33, jx_c34, jx_c35,
  jx_c36, jx_c37, jx_c38, jx_c39, jx_c40, jx_c41, jx_c42, jx_c43, jx_c44, jx_c45, jx_c46, jx_c47,
  jx_c48, jx_c49, jx_c50, jx_c51, jx_c52, jx_c53, jx_c54, jx_c55, jx_c56, jx_c57, jx_c58, jx_c59,
  jx_c60, jx_c61, jx_c62, jx_c63, jx_c64, jx_c65, jx_c66, jx_c67, jx_c68, jx_c69, jx_c70, jx_c71,
  jx_c72, jx_c73, jx_c74, jx_c75, jx_c76, jx_c77, jx_c78, jx_c79, jx_c80, jx_c81, jx_c82, jx_c83,
  jx_c84, jx_c85, jx_c86, jx_c87, jx_c88, jx_c89, jx_c90, jx_c91, jx_c92, jx_c93, jx_c94, jx_c95,
  jx_c96, jx_c97, jx_c98, jx_c99, jx_c100, jx_c101, jx_c102, jx_c103, jx_c104, jx_c105, jx_c106, jx_c107,
  jx_c108, jx_c109, jx_c110, jx_c111, jx_c112, jx_c113, jx_c114, jx_c115, jx_c116, jx_c117, jx_c118, jx_c119,
  jx_c120, jx_c121, jx_c122, jx_c123, jx_c124, jx_c125, jx_c126, jx_c127, jx_c128, jx_c129, jx_c130, jx_c131,
  jx_c132, jx_c133, jx_c134, jx_c135, jx_c136, jx_c137, jx_c138, jx_c139, jx_c140, jx_c141, jx_c142, jx_c143,
  jx_c144, jx_c145, jx_c146, jx_c147, jx_c148, jx_c149, jx_c150, jx_c151, jx_c152, jx_c153, jx_c154, jx_c155,
  jx_c156, jx_c157, jx_c158, jx_c159, jx_c160, jx_c161, jx_c162, jx_c163, jx_c164, jx_c165, jx_c166, jx_c167,
  jx_c168, jx_c169, jx_c170, jx_c171, jx_c172, jx_c173, jx_c174, jx_c175, jx_c176, jx_c177, jx_c178, jx_c179,
  jx_c180, jx_c181, jx_c182, jx_c183, jx_c184, jx_c185, jx_c186, jx_c187, jx_c188, jx_c189, jx_c190, jx_c191]
def jx_p0 : List Nat := [0, 1, 4, 5, 8, 9, 12, 15, 16, 19, 20, 23, 26, 27, 30, 31, 34, 37, 38, 41, 42, 45, 48, 49, 52, 53, 56, 59, 60, 62, 64, 67, 68, 69, 72, 75, 76, 77, 78, 79,
  82, 83, 86, 87, 90, 91, 94, 95, 98, 101]
def jx_p1 : List Nat := [0, 1, 4, 5, 7, 9, 12, 13, 15, 18, 21, 22, 24, 27, 30, 31, 33, 36, 39, 40, 41, 44, 45, 48, 49, 52, 53, 54, 55, 57, 60, 61, 64, 65, 68, 69, 72, 73, 76, 79,
  80, 81, 82, 84, 87, 88, 91, 92, 95, 96, 99, 100, 103, 106, 107, 108, 109, 111, 114, 115, 118, 119, 122, 123, 126, 127, 130, 133]
def jx_p2 : List Nat := [0, 1, 2, 3, 4, 5, 6, 7, 10, 11, 12, 13, 14, 17, 20]
def jx_p3 : List Nat := [0, 1, 4, 5, 7, 9, 12, 13, 15, 17, 20]
def jx_p4 : List Nat := [0, 1, 4]
def jx_p5 : List Nat := [0, 1, 4]
def jx_p6 : List Nat := [0, 1, 4, 5, 8, 9, 12, 15, 16, 19, 20, 23, 26, 27, 29, 31, 34, 35, 37, 39, 42]
def jx_p7 : List Nat := [0, 1, 4, 5, 7, 9, 12, 13, 15, 17, 20, 21, 23, 25, 28, 29, 31, 33, 36, 37, 38, 40, 43]
def jx_p8 : List Nat := [0, 1, 4, 5, 7, 9, 12]
def jx_p9 : List Nat := [0, 1, 4, 5, 7, 9, 12]
def jx_p10 : List Nat := [0, 1, 4, 7, 8, 9, 11, 14, 17, 18, 19, 20, 23, 26, 27, 28, 29, 30, 33, 36, 37, 38, 39, 40]
def jx_p11 : List Nat := [0, 1, 4, 5, 7, 10, 11, 14, 15]
def jx_p12 : List Nat := [0, 1, 2, 5, 6, 7, 10, 11, 14, 15]
def jx_p13 : List Nat := [0, 1, 4, 7, 8, 11, 14, 15, 16, 17, 20, 23, 24, 25, 26, 29, 32, 34, 37, 39, 40, 41, 44, 47, 49, 50, 53, 56, 58, 59, 60, 61, 62, 65, 66, 69, 71, 72, 73, 76,
  78]
def jx_p14 : List Nat := [0, 1, 4, 5, 6, 9, 10, 13, 14]
def jx_p15 : List Nat := [0, 1, 2, 5, 6, 8, 11, 12, 15, 16]
def jx_p16 : List Nat := [0, 1, 2, 5, 6, 7, 10, 11, 12, 15, 16, 17, 20, 21, 24, 25, 26, 27, 28, 29, 32, 33, 36, 37, 38, 39, 40, 41, 44, 45, 46, 49, 50, 53, 56, 59]
def jx_p17 : List Nat := [0, 1, 2, 5, 6, 7, 8, 11, 12, 13, 14, 15, 16, 17, 18, 19, 22, 23, 24, 25, 26, 27, 28, 31, 34, 35, 36, 37, 38, 39]
def jx_p18 : List Nat := [0, 1, 4, 5, 8, 11, 12, 15, 18, 19, 20, 21, 22, 25, 28, 29]
def jx_p19 : List Nat := [0, 1, 4, 5, 6, 9, 12, 13, 16, 17]
def jx_p20 : List Nat := [0, 1, 4, 5, 8, 11, 12, 15, 16, 17, 18, 21, 24, 25, 26, 29, 30, 33, 36, 37, 40, 41, 42, 43, 46, 49, 50, 51, 54, 55, 58, 61, 62, 65, 66, 67, 68, 71, 74, 75,
  76, 79, 80, 81, 82, 85, 88, 89, 92, 93, 94, 95, 98, 101, 102, 103, 104]
def jx_p21 : List Nat := [0, 1, 4, 5, 7, 10, 11, 14, 15]
def jx_p22 : List Nat := [0, 1, 2, 4, 7, 10, 11, 12, 15, 18, 19, 20, 21, 24, 25, 26, 29]
def jx_p23 : List Nat := [0, 1, 2, 3, 4, 7, 8, 9, 12, 14, 16, 18, 21, 23, 25, 28, 29, 30, 33, 36, 37]
def jx_p24 : List Nat := [0, 1, 3, 4, 5, 6, 7, 10, 11]
def jx_p25 : List Nat := [0, 1, 3, 4, 7, 8, 11, 13, 14, 15, 16, 17, 19, 21, 24, 25, 28, 29, 32, 33, 35, 38, 39, 40, 41, 44, 45, 46, 49, 52, 55, 56, 59]
def jx_p26 : List Nat := [0, 1, 4, 5, 8, 10, 12, 15, 16, 17, 20, 23, 24, 27, 28, 29, 30, 31, 32, 33, 34, 36, 39, 40, 43, 46, 47, 48, 51, 52, 53, 54, 55, 56, 59, 60, 61, 62, 63, 66,
  69, 70]
def jx_p27 : List Nat := [0, 1, 3, 4, 6, 8, 9, 12, 15, 16, 19, 21, 22, 24, 27, 30, 32, 33, 36, 38, 39, 40, 43, 44, 46, 49, 52, 54, 56, 57, 58, 59, 61, 62, 65, 67, 68, 70, 71, 72,
  75, 78, 81, 83, 84, 87, 89, 90, 93, 94, 97, 99]
def jx_p28 : List Nat := [0, 1, 2, 5, 8, 9, 12, 13, 14, 16, 19, 20, 23, 24, 25, 27, 30, 31, 34, 35]
def jx_p29 : List Nat := [0, 1, 2, 5]
def jx_p30 : List Nat := [0, 1, 4, 5, 8, 11, 12, 13, 14, 17, 18, 21, 24, 25, 26, 29, 32, 33, 36, 37, 40, 43, 44, 45, 46, 49, 50, 53, 54]
def jx_p31 : List Nat := [0, 2, 3, 4, 7, 8, 9, 10, 13, 14, 15, 17, 19, 20, 23, 24, 25, 28, 31, 33, 34, 35, 36, 37, 38, 41, 43, 44, 45, 47, 50, 52, 54, 57, 60, 62, 65, 66, 68, 69,
  70, 71, 73, 76, 77, 80, 82, 83, 84, 85, 86, 88, 90, 91, 92, 94, 97, 98, 99, 100, 103, 106, 108, 109, 110, 111, 112, 115, 116, 117, 119, 122, 124, 125, 126, 127, 130, 132, 133, 134,
  135, 136, 137, 138, 139, 142, 143, 146, 149, 151, 152, 153]
def jx_p32 : List Nat := [0, 1, 2, 5, 6, 9, 10]
def jx_p33 : List Nat := [0, 1, 2, 3, 4, 7, 10, 11, 14, 15, 16, 18, 21, 22, 23, 26, 29, 30, 33]
def jx_p34 : List Nat := [0, 1, 2, 3, 4, 7, 10, 11, 12, 15, 18, 19, 20, 23, 26, 27, 30]
def jx_p35 : List Nat := [0, 1, 2, 3, 5, 7, 8, 11, 13, 15, 16, 17, 18, 21, 23, 24, 25, 27, 28, 31, 32, 35, 38, 39]
def jx_p36 : List Nat := [0, 1, 2, 3, 4, 5, 6, 7, 10, 11, 12, 13, 14, 15, 16, 17, 20, 21]
def jx_p37 : List Nat := [0, 1, 4, 5, 6, 9, 10]
def jx_p38 : List Nat := [0, 1, 2, 3, 4, 6, 9, 12, 15, 16, 17, 18, 19, 22, 25, 26, 29, 30, 31, 32, 33, 34, 37, 40]
def jx_p39 : List Nat := [0, 1, 4, 5, 8, 11, 12, 13, 14, 17, 18, 21, 22, 24, 27, 28, 29, 32, 35, 36, 39, 40, 43, 46, 47, 48, 49, 52, 53, 56, 57]
def jx_p40 : List Nat := [0, 1, 2, 3, 4, 6, 9, 12, 15, 16, 17, 18, 19, 22, 25, 26, 29, 30, 31, 32, 33, 34, 37, 40, 41, 42, 45, 46, 49, 52, 55]
def jx_p41 : List Nat := [0, 1, 4, 5, 8, 11, 12, 13, 14, 17, 20, 21, 22, 25, 26, 27, 28, 31, 34, 35, 36, 38, 39, 42, 44, 47, 50, 52, 55, 57, 58, 61, 63, 66, 69, 71, 74, 76, 77, 80,
  82, 83, 84, 86, 89, 90, 92, 93, 96, 98, 99, 100, 103, 105]
def jx_p42 : List Nat := [0, 1, 4, 5, 8, 11, 12, 15, 18, 19, 20, 21, 24, 27, 28, 29, 30, 33]
def jx_p43 : List Nat := [0, 1, 2, 5, 6, 7, 8, 11, 12, 15, 16, 19, 21, 22, 23, 24, 27, 28, 29, 30, 31, 34, 37, 38, 41, 42, 43, 46, 48]
def jx_p44 : List Nat := [0, 1, 4, 5, 8, 11, 12, 15, 18, 19, 20, 21, 24, 27, 30, 33, 34]
def jx_p45 : List Nat := [0, 1, 4, 5, 8, 9, 10, 11, 12, 13, 16, 17, 18, 21, 22, 25, 26]
def jx_p46 : List Nat := [0, 1, 4, 7, 8, 11, 14, 15, 16, 17, 18, 19, 21, 23, 24, 27, 30, 33, 34, 37, 39, 40, 41, 44, 47, 48, 49, 51, 52, 53, 54, 57, 60, 61]
def jx_p47 : List Nat := [0, 1, 2, 3, 6, 9, 10, 11, 12, 13, 16, 19, 20, 23, 24]
def jx_p48 : List Nat := [0, 1, 4, 7, 8, 11, 12, 13, 14, 17, 20, 21, 22, 23, 26, 27, 28, 31, 32, 34, 37, 38, 39, 40, 43, 44, 45, 48, 49, 50, 53, 54, 55, 56, 59, 62, 65, 66, 67, 68,
  71, 73, 74, 77, 78, 79, 80, 83, 86, 87, 90, 91]
def jx_p49 : List Nat := [0, 1, 2, 5, 6, 7, 8, 11, 12, 15, 16, 19, 20, 21, 24, 25, 28, 29, 30, 33, 34, 35, 38, 41, 42, 45, 46]
def jx_p50 : List Nat := [0, 1, 4, 7, 8, 11, 12, 13, 16, 17, 20, 21]
def jx_p51 : List Nat := [0, 1, 4, 5, 6, 7, 10, 11, 12, 14, 16, 17, 20, 21, 24, 26, 27, 28, 31, 33, 34, 37, 39, 40, 43, 44, 47, 48, 49, 52, 55, 57, 60, 61, 63, 66, 67, 70, 71, 72,
  75, 78, 79]
def jx_p52 : List Nat := [0, 1, 4, 5, 6, 7, 10, 12, 14, 17, 19, 20, 23, 24, 27, 28, 29, 30, 33, 36, 37, 40, 41, 42, 43, 46, 47, 50, 51]
def jx_p53 : List Nat := [0, 1, 4, 5, 8, 11, 12, 15, 16, 19, 22, 23, 24, 25, 28, 31, 32, 33, 34, 35, 38, 41, 42, 43, 44, 47, 48, 51, 54]
def jx_p54 : List Nat := [0, 1, 2, 3, 6, 7, 10, 13, 14, 15, 16, 17, 20, 21, 24, 25, 27, 28, 30, 32, 33, 36, 38, 39, 41, 42, 43, 46, 48, 49, 50, 53, 54, 56, 59, 62, 64]
def jx_p55 : List Nat := [0, 1, 2, 4, 7, 10, 11, 12, 13, 16, 19, 20, 21, 24, 25, 28, 29]
def jx_p56 : List Nat := [0, 1, 4, 7, 8, 9, 10, 11, 12, 13, 14, 17, 20, 21, 22, 25, 26, 29, 30, 32, 33, 36, 37, 40, 41, 44, 47, 48, 49, 52, 53, 56, 59, 60, 61, 62, 63, 66, 68]
def jx_p57 : List Nat := [0, 1, 4, 5, 6, 9, 10, 13, 14]
def jx_p58 : List Nat := [0, 1, 32, 33, 36, 39, 40, 41, 44, 47, 48, 49, 52, 55, 56, 57, 60, 63, 66, 67, 68]
def jx_p59 : List Nat := [0, 1, 2, 3, 4, 7, 8, 9, 10, 11, 14, 15, 16, 17, 18, 21, 22, 23, 24, 25, 26, 27, 28, 29, 32, 33, 34, 35, 36, 38, 39, 40, 41, 42, 43, 45, 46, 47, 48, 49,
  51, 52]
def jx_p60 : List Nat := [0, 1, 4, 7, 8, 11, 14, 15, 16, 17, 20, 23, 25, 26, 28, 31, 34, 35, 36, 37, 40, 43, 45, 48, 50, 51, 52, 55, 58, 60, 61, 64, 67, 69, 70, 71, 72, 73, 75, 78,
  79, 82, 84, 85, 86, 89, 91]
def jx_p61 : List Nat := [0, 1, 2, 5, 6, 7, 10, 11, 12, 15, 16, 18, 21]
def jx_p62 : List Nat := [0, 1, 2, 3, 6, 9, 10, 11, 14, 17, 18, 19, 20, 23, 26, 27, 28, 29, 32, 33, 36, 39, 40, 41, 44, 45, 48, 51, 52, 53, 54, 55, 58, 59, 62, 65, 66, 67, 70, 71,
  74, 77, 78, 79]
def jx_p63 : List Nat := [0, 1, 2, 5, 6, 7, 10, 11, 12, 15, 18, 19, 20, 21, 22, 25, 28, 29, 30, 31, 34, 35, 36, 37, 40, 43, 46]
def jx_p64 : List Nat := [0, 1, 4, 5, 8, 9, 10, 13, 14, 15, 16, 17, 20, 23, 24, 27, 28, 29, 30, 31, 33, 35, 36, 39, 42, 43, 46, 48, 49, 52, 53, 54, 56, 58, 61, 64, 65, 66, 68, 71,
  74, 75, 78, 80, 81, 82, 83, 84, 85, 86, 87, 88, 89, 92, 93, 94, 97, 100, 103, 106, 109]
def jx_p65 : List Nat := [0, 1, 4, 5, 8, 9, 10, 11, 12, 15, 18, 19, 22, 23, 24, 25, 26, 28, 30, 31, 34, 37, 38, 41, 44, 47, 48, 51, 53, 54, 55, 58, 59, 62, 65, 66, 69, 72, 73, 76,
  77, 80, 81, 82, 83, 85, 86, 87, 88, 91, 94, 97, 100]
def jx_p66 : List Nat := [0, 1, 4, 5, 7, 8, 9, 12, 13, 15, 16, 17, 20, 21, 22, 23, 24, 27, 30, 33, 34, 37, 38, 41, 42, 45, 46, 48, 49, 51, 52, 54, 56, 58, 61, 63, 64, 67, 68, 69,
  72, 74, 75, 77, 78, 79, 82, 84, 87, 90, 92, 93, 96, 97, 98, 99, 101, 104, 106, 108, 111, 112, 113, 116, 117, 120, 122, 125, 127, 129, 132, 133, 136, 137, 139, 140, 141, 144, 145, 147,
  148, 149, 151, 153, 154, 155, 158, 161, 162, 165, 166, 167, 168, 169, 170, 171, 172, 174, 177, 180]
def jx_p67 : List Nat := [0, 1, 4, 5, 6, 7, 9, 11, 12, 15, 18, 19, 20, 22, 23, 24, 27, 28, 30, 31, 32, 35, 38, 39, 40, 43, 46, 47]
def jx_p68 : List Nat := [0, 1, 3, 5, 6, 9, 12, 13, 16, 18, 19, 22, 23, 26, 27, 30, 32, 33, 34, 37, 38, 41, 43, 44, 47, 50, 52]
def jx_p69 : List Nat := [0, 1, 4, 5, 8, 11, 12, 13, 14, 17, 18, 21, 24, 25, 28, 29, 32]
def jx_p70 : List Nat := [0, 1, 2, 3, 4, 5, 6, 9, 12, 13, 16, 17, 18, 19, 22, 25, 28, 31, 32]
def jx_p71 : List Nat := [0, 1, 2, 3, 6, 9, 10, 11, 12, 15, 16, 19, 22, 23, 24, 27, 28, 31, 34, 35, 36, 39, 40, 43, 46, 49, 50, 53, 56]
def jx_p72 : List Nat := [0, 1, 2, 3, 4, 5, 6, 9, 12, 13, 16, 17, 18, 21, 24, 27, 30, 31]
def jx_p73 : List Nat := [0, 1, 2, 3, 4, 5, 6, 9, 12, 13, 14, 17, 18, 19, 20, 21, 24, 27, 28]
def jx_p74 : List Nat := [0, 1, 4, 5, 8, 11, 12, 13, 14, 17, 20, 21, 22, 23, 26, 27, 30, 31, 32, 35]
def jx_p75 : List Nat := [0, 1, 4, 5, 8, 9, 12, 15, 16, 17, 19, 20, 22, 23, 25, 26, 28, 29, 31, 33, 35, 38, 40, 42, 45, 46, 48, 50, 51, 54, 55, 58, 59, 62, 65, 66, 69, 70, 73, 75,
  77, 79, 82, 84, 86, 88, 90, 92, 94, 96, 99, 102, 105, 108, 111, 112, 113, 116, 118, 119, 120, 123, 125, 128, 130]
def jx_p76 : List Nat := [0, 1, 4, 5, 6, 9, 10, 12, 15, 16, 17, 20, 23, 24, 25, 26, 27, 30, 33, 34, 37, 38, 39, 40, 43, 44, 45, 48, 51, 54, 55, 56, 59, 62, 63, 64, 65, 66, 69, 72,
  73, 76, 77, 78, 79, 80, 83, 84, 85, 86, 89, 90, 93, 94, 97, 98, 101, 104, 107, 110, 111, 112, 115, 118, 119, 120, 121, 122, 125, 128, 129, 132, 133, 134, 135, 136, 139, 140, 141, 142,
  145, 146, 149, 150, 153, 156, 159, 162, 163, 164, 167, 170, 171, 172, 175, 178]
def jx_p77 : List Nat := [0, 1, 2, 5, 6, 9, 12, 13, 14, 17, 18, 21, 24, 25, 26, 29, 32, 33, 34, 37, 40, 41, 42, 45, 48, 49, 50, 53, 56]
def jx_p78 : List Nat := [0, 1, 2, 5, 6, 7, 10, 11, 12, 15]
def jx_p79 : List Nat := [0, 1, 2, 3, 6, 7, 8, 9, 10, 11, 14, 15, 18, 19, 20, 21, 22, 25, 26, 27, 30, 31, 32, 33, 34, 37, 38, 39, 40, 43, 46, 49]
def jx_p80 : List Nat := [0, 1, 4, 5, 8, 11, 12, 15, 16, 19, 22, 23, 24, 27, 28, 29, 30, 33, 36, 37, 38, 39, 42, 43, 46, 47, 48, 51, 52, 55, 56, 59]
def jx_p81 : List Nat := [0, 1, 4, 5, 8, 9, 11, 13, 15, 18, 19, 22, 25, 26, 27, 29, 31, 33, 34, 35, 38, 39, 42, 45, 46, 47, 49, 51, 53, 54, 55, 58, 59, 62, 63, 66, 69, 70, 73, 75,
  76, 79, 80, 83, 84, 85, 88, 90, 91, 94, 95, 98, 99, 102, 105]
def jx_p82 : List Nat := [0, 1, 2, 4, 5, 6, 8, 10, 12, 15, 16, 18, 21, 24, 27, 28, 31, 33, 34, 37, 40, 41, 44, 45, 46, 47, 50, 52, 53, 55, 56, 57, 60, 61, 63, 64, 67, 68, 70, 71,
  72]
def jx_p83 : List Nat := [0, 1, 3, 4, 5, 6, 8, 9, 10, 11, 13, 15, 17, 20, 21, 24, 26, 28, 29, 30, 31, 32, 33, 36, 37, 38, 41, 42, 45, 46, 48, 49, 51, 52, 53, 54, 57, 58, 59, 62,
  63, 64, 67, 70, 71]
def jx_p84 : List Nat := [0, 1, 2, 3, 6, 9, 10, 13, 16, 17, 18, 20, 23, 26, 28, 29, 30, 31, 32, 35, 38, 39, 40, 41, 44, 46, 47, 49, 50, 52, 53, 55, 57, 59, 62, 63, 65, 66, 69, 70,
  71, 74, 75, 78, 79, 80, 83, 86, 87, 88, 91, 92, 95, 97, 99, 101, 104, 106, 108, 110, 112, 115, 118, 120, 123, 125, 126, 127, 129, 130, 133, 135, 138, 140, 143, 144, 147, 149, 150]
def jx_p85 : List Nat := [0, 1, 2, 3, 4, 5, 6, 9, 10, 12, 13, 14, 17, 20, 21]
def jx_p86 : List Nat := [0, 1, 2, 3, 4, 5, 7, 9, 12, 13, 16, 18, 19, 21, 22, 23, 24, 26, 27, 28, 31, 34]
def jx_p87 : List Nat := [0, 1, 2, 3, 6, 7, 8, 11, 12, 15, 16, 19, 22, 23, 24, 25, 26, 29]
def jx_p88 : List Nat := [0, 2, 3, 4, 6, 7, 9, 11, 12, 15, 18, 21, 22, 25, 28, 30, 31, 32, 33, 36, 38, 39, 42, 44, 46, 49, 51, 52, 54, 56, 59, 62, 63]
def jx_p89 : List Nat := [0, 1, 4, 7, 8, 11, 12, 15, 18, 19]
def jx_p90 : List Nat := [0, 1, 2, 3, 4, 5, 6, 9, 12, 13, 14, 15, 16, 19, 20, 21, 24, 27, 28]
def jx_p91 : List Nat := [0, 1, 2, 3, 5, 7, 8, 11, 12, 13, 16, 19, 20, 21, 22, 23, 26, 27, 28, 31, 33, 34, 37, 38, 39, 42, 43, 44, 47, 50, 53, 56, 59, 60]
def jx_p92 : List Nat := [0, 1, 4, 7, 8, 9, 12, 15, 18, 19, 20, 21, 24, 25, 28, 29, 30, 33]
def jx_p93 : List Nat := [0, 1, 4, 5, 8, 9, 11, 13, 14, 17, 18, 20, 22, 24, 27, 29, 32, 34, 37, 38, 41, 43, 46, 47, 50, 51, 54, 55, 58, 60, 61, 64, 67, 70, 73, 75]
def jx_p94 : List Nat := [0, 1, 4, 7, 8, 11, 12, 15, 18, 20, 21, 22, 25, 26, 29, 30, 31, 34]
def jx_p95 : List Nat := [0, 1, 4, 5, 8, 9, 12, 13, 16, 19, 20, 23, 24, 27, 29, 30, 33, 34, 37, 38, 39, 40, 41, 44, 45, 48, 49, 52, 55, 57, 58, 61, 62, 65, 66]
def jx_p96 : List Nat := [0, 1, 4, 7, 8, 11, 14, 15, 16, 17, 20, 23, 25, 28, 30, 31, 32, 35, 38, 39, 42, 45, 46, 47, 48, 49, 52, 53, 56, 57, 60, 61, 62, 65, 66, 69, 72]
def jx_p97 : List Nat := [0, 1, 4, 5, 8, 11, 12, 13, 14, 17, 20, 21, 22, 23, 26, 27, 30, 31, 32, 35]
def jx_p98 : List Nat := [0, 1, 4, 5, 8, 9, 12, 15, 16, 17, 18, 21, 22, 23, 26, 27, 30, 31, 34, 35, 37, 39, 41, 43, 45, 46, 48, 50, 52, 55, 56, 59, 62, 63, 64, 66, 69, 70, 73, 74,
  77, 80, 83, 85, 88, 90, 93, 95, 97, 99, 101, 104, 107, 108, 111, 113, 114, 115, 116, 119, 121, 124, 126]
def jx_p99 : List Nat := [0, 1, 2, 3, 4, 7, 10, 11, 14, 15, 16, 17, 18, 19, 20, 23, 24, 27, 30, 31, 34, 37, 38, 39, 42, 45, 46]
def jx_p100 : List Nat := [0, 1, 4, 7, 8, 9, 12, 13, 16, 17]
def jx_p101 : List Nat := [0, 1, 4, 5, 8, 11, 12, 15, 18, 19, 20, 21, 24, 25, 28, 29, 30, 33]
def jx_p102 : List Nat := [0, 1, 4, 5, 8, 9, 11, 13, 15, 18, 19, 22, 25, 26, 28, 29, 30, 33, 34, 35, 38, 41, 43, 44, 47, 50, 52]
def jx_p103 : List Nat := [0, 1, 4, 5, 8, 11, 12, 15, 18, 19, 20, 21, 24, 25, 26, 29]
def jx_p104 : List Nat := [0, 1, 4, 5, 8, 11, 12, 13, 16, 17]
def jx_p105 : List Nat := [0, 1, 4, 7, 9, 10, 11, 14, 15, 18, 21, 22]
def jx_p106 : List Nat := [0, 1, 4, 7, 8, 11, 14, 16, 17, 19, 22, 25, 27, 28, 30, 33, 36, 38, 39, 41, 42, 43, 46, 49, 50, 51, 52, 55, 56, 57, 59, 61, 62, 63, 65, 67, 68, 71, 73, 75,
  78, 80, 81, 83, 84, 86, 88, 89, 92, 95, 97, 98, 99, 101, 103, 105, 108, 109, 112, 114, 116, 117, 119, 120, 122, 124, 127, 128, 131, 134, 136, 139, 140, 141, 144, 146, 149, 152, 153, 156,
  158, 159]
def jx_p107 : List Nat := [0, 1, 4, 5, 6, 9, 10, 13, 14]
def jx_p108 : List Nat := [0, 1, 4, 5, 6, 9, 10, 13, 14]
def jx_p109 : List Nat := [0, 1, 4, 7, 9, 10, 11, 14, 15, 18, 20, 21, 22, 23, 24, 27, 30, 31, 34, 36]
def jx_p110 : List Nat := [0, 1, 4, 5, 8, 9, 10, 13, 16, 17, 18, 21, 22, 23, 26, 27, 30, 31]
def jx_p111 : List Nat := [0, 1, 3, 5, 6, 9, 10, 12, 14, 15, 16, 17, 18, 20, 21, 23, 24, 26, 28, 29, 32, 33, 36, 38, 40, 41, 42, 43, 45, 48, 51, 52, 53, 56, 59, 62, 65, 66]
def jx_p112 : List Nat := [0, 1, 3, 4, 6, 7, 9, 11, 13, 16, 17, 19, 20, 22, 24, 25, 28, 29, 32, 33, 35, 36, 37, 38, 39, 41, 44, 47, 50, 53, 55, 57, 60, 62, 64, 66, 68, 71, 74, 76]
def jx_p113 : List Nat := [0, 1, 4, 7, 8, 11, 14, 16, 17, 18, 21, 24, 26, 27, 29, 32, 35, 37, 38, 40, 41, 42, 45, 48, 49, 50, 51, 54, 55, 56, 58, 60, 61, 62, 64, 66, 67, 68, 69, 72,
  74, 76, 79, 81, 82, 84, 85, 87, 89, 90, 93, 96, 98, 99, 101, 102, 104, 106, 108, 111]
def jx_p114 : List Nat := [0, 1, 3, 4, 5, 6, 7, 8, 10, 12, 14, 15, 17, 18, 20, 22, 23, 26, 27, 29, 30, 31, 32, 33, 34, 36, 37, 40, 42, 43, 44, 47, 49, 50, 53, 56, 57, 59, 60, 61,
  63, 64, 65, 66, 69, 71, 73, 76, 78, 80, 83, 85, 87, 89, 91, 94, 97, 99]
def jx_p115 : List Nat := [0, 1, 3, 4, 6, 8, 9, 12, 14, 15, 18, 19, 21, 22, 23, 24, 27, 28, 30, 31, 32, 33, 36, 37, 39, 42, 45, 47]
def jx_p116 : List Nat := [0, 1, 4, 7, 8, 11, 14, 15, 17, 20, 21, 22, 23, 26, 28, 29, 30, 33, 34, 35, 36, 37, 40, 41]
def jx_p117 : List Nat := [0, 1, 4, 5, 8, 9, 10, 13, 14, 15, 18, 19, 20, 23]
def jx_p118 : List Nat := [0, 1, 4, 7, 8, 9, 10, 13, 14, 15, 16, 17, 20, 23, 25, 26, 27, 28, 31, 32, 35]
def jx_p119 : List Nat := [0, 1, 4, 7, 8, 11, 14, 15, 16, 17, 20, 21, 22, 24, 26, 27, 28, 29, 32, 34, 36, 39, 41, 42, 44, 45, 47, 50, 51]
def jx_p120 : List Nat := [0, 1, 4, 7, 8, 11, 12, 13, 14, 15, 18, 19, 22, 23, 26, 27, 30, 31, 32, 33, 34, 37, 38, 41, 42, 43, 44]
def jx_p121 : List Nat := [0, 1, 4, 7, 8, 11, 14, 15, 16, 17, 20, 21, 22, 24, 25, 28, 29, 30, 32, 34, 37, 40, 42, 45, 48, 50, 51, 53, 56, 58, 61, 64, 66, 67, 69, 70, 72, 75, 78, 80,
  82, 84, 87, 90, 92, 93, 95, 98, 99, 101, 104, 106, 108, 111, 113]
def jx_p122 : List Nat := [0, 1, 4, 5, 7, 9, 12, 13, 15, 17, 20, 21, 23, 25, 28, 29, 31, 33, 36, 37, 39, 41, 44, 45, 47, 49, 52, 53, 55, 57, 60, 61, 63, 65, 68, 69, 71, 74, 75, 77,
  80, 81, 83, 85, 88, 89, 91, 93, 96, 97, 99, 101, 104, 105, 107, 109, 112, 113, 115, 117, 120, 121, 123, 125, 128, 129, 131, 133, 136, 137, 140, 142, 145, 146, 147, 149, 152, 153, 154, 156,
  159, 160, 162, 164, 167, 168, 170, 172, 175, 176, 177, 178, 179, 182, 183, 186, 187, 188, 189, 192, 195, 196, 197, 198, 200, 203, 204, 207, 208, 209, 210, 213, 216, 217, 218, 221]
def jx_p123 : List Nat := [0, 1, 4, 7, 8, 9, 10, 13, 16, 19, 20, 21, 22, 25, 26, 27, 28, 29, 32, 33, 34, 35, 36]
def jx_p124 : List Nat := [0, 1, 2, 3, 6, 9]
def jx_p125 : List Nat := [0, 1, 2, 3, 6, 7, 9, 10, 13, 14, 17, 18]
def jx_p126 : List Nat := [0, 1, 2, 5, 8, 9, 10, 13, 16, 17, 18, 21, 24, 25, 26, 27, 30, 32, 35, 37, 38, 39, 42, 44, 45, 48, 49, 51, 52, 53, 54, 55, 58, 59, 61, 62, 63, 64, 65, 66,
  67, 70, 71, 73, 74, 75, 76, 77, 78, 79, 82, 83, 85, 86, 87, 88, 89, 90, 91, 94, 96, 98, 99, 100, 101, 102, 105, 107, 109, 110, 111, 112, 113, 114, 115, 118, 120, 122, 123, 124,
  125, 126, 129, 131, 133, 134, 135, 136, 137, 138, 139, 140, 143, 144, 145, 148, 150]
def jx_p127 : List Nat := [0, 1, 4, 5, 6, 7, 10, 13, 16, 17, 18, 21, 22, 23, 24, 27, 30, 33, 34, 35, 38, 39, 42, 45, 46, 47, 48, 51, 54]
def jx_p128 : List Nat := [0, 1, 2, 3, 6, 9]
def jx_p129 : List Nat := [0, 1, 2, 5, 8, 9, 10, 11, 14, 17, 20, 21, 22, 25, 28, 29, 30, 31, 34, 35, 36, 37, 38, 39, 40, 42, 43, 46, 47, 48, 49, 50, 51, 52, 53, 55]
def jx_p130 : List Nat := [0, 1, 2, 3, 4, 7, 8, 9, 10, 13]
def jx_p131 : List Nat := [0, 1, 2, 3, 6, 9, 12, 13, 14, 15, 17, 19, 20, 23, 24, 26, 28, 29, 30, 33, 34, 37, 40, 43, 46, 47, 48, 51, 54, 55, 58, 59, 60, 62, 65, 67, 68, 69, 70, 71,
  73, 75, 78, 79, 82, 83, 86, 87, 89, 91, 92, 93, 96, 97, 98, 99, 100, 101, 104, 105, 106, 109, 112, 115, 116, 119]
def jx_p132 : List Nat := [0, 1, 3, 5, 8, 9, 10, 11, 12, 13, 14, 15, 18, 19, 22, 23, 24, 27, 28, 29, 30, 31, 32, 35, 36, 37, 38, 39, 42, 45, 46, 49, 50, 53, 54]
def jx_p133 : List Nat := [0, 1, 2, 5, 6, 7, 8, 9, 12, 13, 16, 19, 20, 23, 24, 25, 28, 30, 31, 32, 33, 34, 37, 38, 39, 42, 45, 48, 49, 50, 51, 54, 55, 58, 61, 62, 65, 66, 69, 70,
  71, 74, 75, 78, 81, 83, 84, 87, 88, 91, 92]
def jx_p134 : List Nat := [0, 1, 4, 5, 8, 11, 14]
def jx_p135 : List Nat := [0, 1, 4, 5, 8, 11, 12, 15, 16, 19, 20, 22, 25, 26, 27, 30, 31, 32, 35, 38, 39, 42, 43, 46, 49, 50, 53, 54, 57, 58, 61, 62]
def jx_p136 : List Nat := [0, 1, 2, 5, 8, 9, 10, 11, 12, 15, 16, 17, 20, 21, 22, 23, 24, 25, 28, 29, 30, 33, 36, 37, 40, 43, 44, 46, 49, 50, 53, 55, 58, 59, 62, 63, 64, 65, 66, 69,
  70, 73, 74, 77, 78, 79, 82, 85, 86, 87, 90, 93, 94, 97, 100, 101, 104, 105, 108, 109, 110, 113, 114, 117, 120, 122, 123, 126, 127, 128, 129, 132, 134, 135, 136, 137, 138, 139, 141, 143,
  144, 147, 148, 151, 153, 154, 155, 156, 157, 159, 160, 161, 164, 166, 167, 168, 171, 174, 175]
def jx_p137 : List Nat := [0, 1, 4, 7, 8, 9, 12, 13, 14, 17, 18, 19, 20, 21, 24, 25, 28, 31, 32, 35, 36, 39, 40, 41, 44, 47, 50, 53, 54, 57, 60, 61, 64, 66, 67, 68, 69, 72, 73, 76,
  77, 78, 80, 81, 82, 83, 84, 87, 88, 89, 92, 95, 96, 97, 99, 102, 103, 106, 107, 108, 111, 112, 115, 116, 117, 118, 121, 122, 123, 126, 127, 130, 131, 134, 135, 138, 139, 142, 143, 144,
  145, 146, 147, 150, 153, 154, 157, 158, 161, 164]
def jx_p138 : List Nat := [0, 1, 2, 3, 4, 5, 6, 7, 8, 9, 10, 11, 12, 13, 14, 15, 16, 17, 20, 21, 22, 25, 26, 27, 30, 31, 32, 35, 36, 37]
def jx_p139 : List Nat := [0, 1, 2, 5, 8, 9, 10, 11, 12, 14, 17, 18, 19, 22, 23, 26, 28, 29, 30, 31, 32, 33, 34, 35, 36, 39, 40, 43, 45, 46, 47, 48, 49, 50, 51, 52, 55, 56, 57, 58,
  61, 64, 65]
def jx_p140 : List Nat := [0, 1, 2, 5, 8, 9, 10, 11, 12, 15, 18, 19, 20, 23, 24, 25, 26, 29, 30, 33, 35, 36, 37, 38, 41, 42, 45, 47, 48, 49, 50, 52, 53, 56, 58, 59, 60, 62, 65, 67,
  70, 71, 74, 75, 78, 80, 81, 82, 83, 84, 85, 86, 87, 90, 91, 94, 96, 97, 98, 99, 100, 101, 102, 103]
def jx_p141 : List Nat := [0, 1, 2, 5, 8, 9, 12, 15, 16, 17, 18, 21, 24, 25]
def jx_p142 : List Nat := [0, 1, 2, 5, 6, 7, 8, 9, 10, 11, 12, 13, 14, 17, 19, 20, 21, 22, 24, 25, 28, 29, 32, 33, 34, 37, 38, 39, 40, 41, 42, 43, 44, 46, 48, 51, 53, 55, 58, 59,
  62, 65, 66, 69, 70, 73, 75, 76, 77, 80, 82, 83, 84, 85, 86, 87, 90, 91, 94, 96, 97, 98, 100, 101, 104, 106, 107, 108]
def jx_p143 : List Nat := [0, 1, 2, 5, 8, 9, 10, 13, 16, 17]
def jx_p144 : List Nat := [0, 1, 2, 3, 4, 5, 6, 9, 11, 12, 13, 14, 17, 18, 19, 22, 24, 25, 26, 27, 28, 29, 30, 31, 34, 37, 38, 41, 42, 43, 44, 45, 46, 47, 48, 49, 52, 54, 55, 56,
  57, 58, 59, 60, 61, 62, 63, 66, 67, 68, 71, 72, 73, 76, 77, 80, 81]
def jx_p145 : List Nat := [0, 1, 4, 7, 8, 11, 14, 15, 16, 17, 18, 19, 21, 23, 24, 27, 30, 31, 32, 33, 35, 36, 39, 42, 43, 45, 46, 49, 50, 51, 52, 55, 58, 59]
def jx_p146 : List Nat := [0, 1, 2, 3, 6, 9, 10, 11, 12, 15, 16, 19, 20, 21, 24, 25, 28, 29, 30, 31, 34, 35, 38, 39]
def jx_p147 : List Nat := [0, 1, 2, 3, 6, 7, 8, 11, 12, 13, 16, 17, 18, 19, 20, 21, 22, 23, 24, 27, 28, 29, 30, 31, 32, 33, 34, 37, 38, 39, 40, 43, 44, 45, 48, 49, 51, 54, 55, 58,
  59, 60, 63, 64, 67, 68, 69, 72, 73, 76, 77, 79, 80, 82, 84, 85, 88, 89, 92, 94, 95, 98, 99, 101, 102, 105, 107, 109, 112, 113, 116, 117, 119, 120, 121, 122, 125, 126, 127, 128,
  129, 132, 134, 137, 139, 140, 143, 144, 147, 148, 151, 152, 154, 157, 160, 162]
def jx_p148 : List Nat := [0, 1, 2, 5, 8, 9, 10, 13, 16, 17, 18, 19, 22, 25, 26]
def jx_p149 : List Nat := [0, 1, 4, 6, 7, 8, 9, 10, 11, 14, 16, 17, 18, 19, 20, 23, 25, 26, 27, 28, 29, 30, 33, 35, 36, 37, 38, 41]
def jx_p150 : List Nat := [0, 1, 3, 4, 6, 8, 9, 12, 14, 16, 19, 21, 22, 25, 27, 29, 32, 33, 34, 36, 37, 38, 39, 41, 43, 44, 45, 46, 49, 50, 52, 54, 56, 59, 61, 62, 65, 67, 68, 70,
  73, 76, 78]
def jx_p151 : List Nat := [0, 1, 2, 3, 6, 9, 12, 13, 14, 15, 18, 19, 20, 21, 24, 25]
def jx_p152 : List Nat := [0, 1, 2, 3, 6, 9, 12, 13, 14, 15, 18, 19, 20, 21, 22, 23, 24, 25, 28, 29, 32, 33, 34, 35, 36, 39, 40, 43, 44, 45, 46, 47, 48, 49, 52, 53]
def jx_p153 : List Nat := [0, 1, 4, 5, 8, 11, 12, 13, 16, 17, 20, 23, 24, 25, 28, 29, 32, 35, 36, 37, 40, 41, 44, 47, 50, 51]
def jx_p154 : List Nat := [0, 1, 2, 3, 4, 5, 8, 11, 12, 13, 14, 15, 16, 17, 20, 21]
def jx_p155 : List Nat := [0, 1, 4, 7, 8, 9, 10, 13, 16, 19, 20, 21, 22, 25, 28, 31, 33, 34, 35, 38, 41, 44, 45, 46, 47, 50, 52, 55, 57, 58, 59, 62, 63, 64, 67, 68, 69, 70, 71, 74,
  75, 76, 79, 80, 81, 82, 83, 84, 85, 88, 89, 90, 93, 94, 95, 96, 97, 98, 99, 102, 103, 104, 107, 108, 109, 110, 112, 113, 114, 115, 118, 119, 120, 123, 124, 127, 128, 129]
def jx_p156 : List Nat := [0, 1, 2, 3, 4, 7, 8, 9, 10, 13, 16, 17, 18, 19, 22, 25, 28, 29, 30, 31, 34, 35, 38, 39, 42, 43, 44, 47, 48, 49, 52, 53, 56, 57, 58, 61, 62, 65, 66, 67]
def jx_p157 : List Nat := [0, 1, 2, 3, 4, 7, 10, 11, 14, 15, 17, 18, 19, 22, 23, 25, 26, 27, 30, 31, 33, 34, 35, 38, 39, 40, 41, 44, 47, 48, 49, 50, 52, 55, 56, 57, 58, 59, 62, 65,
  66, 69, 70, 71, 74, 75, 78, 79, 80, 81, 84, 85, 86, 89, 90, 93, 94, 95, 98, 99, 100, 103, 104, 105, 108, 109, 110, 111, 112, 113, 114, 115, 118, 119, 120, 121, 122, 123, 126, 128,
  129, 132, 133, 135, 136, 137, 140, 141, 143, 146, 148, 151, 152, 153, 155, 158, 159, 160, 163, 164, 165, 166, 167, 170, 171, 172, 173, 174, 175, 176, 179, 180, 183, 184, 186, 187, 190, 191, 192, 193,
  195, 198, 199, 202, 203, 204, 205, 206, 209, 210, 212, 215, 217, 220, 221, 224, 225, 226, 227, 228, 231, 232, 233, 234, 237, 240, 241, 244, 245, 246, 247, 250, 251, 252, 253, 254, 255, 256, 257, 258,
  259, 260, 263, 266, 269, 272]
def jx_p158 : List Nat := [0, 2, 4, 5, 8, 9, 10, 12, 14, 17, 18, 21, 22, 24, 25, 26, 27, 30, 31, 33, 34, 37, 38, 41, 43, 46, 48, 50, 53, 56, 58]
def jx_p159 : List Nat := [0, 1, 2, 3, 5, 7, 8, 11, 14, 15, 18, 19, 20, 23, 24, 25, 26, 27, 29, 30, 33, 36, 37, 39, 41, 42, 45, 48, 49, 52, 53, 56, 57, 59, 60, 61, 62, 65, 66, 67,
  68, 69, 70, 71, 74, 75, 77, 79, 82, 83, 86, 89, 90, 93, 94, 95, 98, 101, 104, 107, 108]
def jx_p160 : List Nat := [0, 1, 2, 5, 8, 9, 10, 13, 16, 17]
def jx_p161 : List Nat := [0, 1, 4, 5, 6, 7, 8, 9, 10, 13, 16, 17, 18, 21, 22, 23, 24, 27, 28, 31, 32, 33, 34, 37, 40, 41]
def jx_p162 : List Nat := [0, 1, 2, 3, 6, 9, 12, 13, 14, 15, 18, 19, 20, 21, 22, 23, 25, 27, 28, 31, 34, 35, 36, 39, 41, 42, 45, 46, 49, 50, 51, 52, 53, 54, 57, 59, 60, 61, 62, 65,
  68, 69, 71, 72, 74, 76, 78, 81, 82, 84, 86, 87, 90, 93, 95, 96, 98, 100, 103, 106, 107, 110, 111, 112, 114, 117, 120, 123, 126, 127, 130, 131, 134, 135, 136, 139, 140, 143, 145]
def jx_p163 : List Nat := [0, 1, 2, 5, 8, 9, 10, 11, 14, 17, 20, 21, 22, 23, 26, 27, 28, 29, 30, 31, 32, 33, 34, 36, 37, 39, 40, 42, 44, 46, 49, 50, 53, 54, 55, 56, 57, 58, 59, 61,
  62, 63, 64, 65, 66, 68, 69, 70, 71, 74, 75, 78, 80, 83, 84, 85, 88, 90, 92, 94, 97, 99, 102, 104, 106, 108, 110, 113, 115, 118, 120, 122, 125, 128, 129, 131, 134, 135, 138, 139,
  140, 141, 142, 143, 144, 145, 146, 149, 150, 152, 153, 154, 155, 158, 159, 160, 163, 165, 166, 167, 170, 172]
def jx_p164 : List Nat := [0, 1, 2, 5, 8, 9, 10, 13, 16, 17, 18, 21, 22, 23, 24, 27, 30, 33, 34, 35, 36, 39, 40, 41, 42, 43, 44, 45, 47, 48, 51, 52, 53, 54, 55, 56, 57, 59, 60, 62,
  64, 66, 69, 70, 73, 74, 75, 76, 77, 78, 80, 82, 84, 85, 86, 87, 88, 91, 92, 93, 94, 95, 96, 98, 100, 102, 103, 104, 105, 106, 109, 111, 112, 113, 116, 117, 118, 121, 123, 124,
  125, 126, 128, 130, 131, 134, 137, 138, 141, 143, 144, 145, 146, 149, 151, 152, 153, 156, 157, 160, 161, 162, 163, 166, 169, 172, 175, 176, 179, 180, 181, 182, 183, 184, 186, 187, 188, 191, 192, 193,
  194, 195, 196, 198, 199, 200, 202, 204, 206, 208, 210, 212, 215, 216, 218, 219, 221, 223, 225, 228, 230, 233, 234, 237, 239, 241, 242, 244, 246, 247, 248, 249, 250, 253, 255, 256, 259, 260, 263, 265,
  267, 268, 270, 271, 273, 274, 275, 276, 279, 281, 282, 285, 286, 289, 290, 292, 295, 298, 300, 302, 305, 306, 309, 310, 311, 313, 315, 318, 320, 323, 325, 327, 330, 333, 334, 337, 339, 342, 344, 347,
  349, 352, 354, 355, 356, 359, 361, 363, 364, 367, 369, 371, 372, 373]
def jx_p165 : List Nat := [0, 1, 2, 3, 6, 9, 12, 13, 14, 15, 18, 21, 24, 25, 26, 27, 30, 33, 36, 38, 39, 42, 43, 44, 45, 46, 49, 52, 53, 54, 56, 58, 59, 61, 62, 63, 66, 68, 71, 72,
  73, 76, 78, 81, 84, 86, 87, 89, 91, 93, 96, 97, 99, 100, 103, 104, 107, 108, 109, 110, 111, 114, 115, 118, 119, 120, 123, 124, 125, 126, 127, 130, 131, 134, 135, 136, 139, 140, 141, 143,
  144, 145, 148, 150, 151, 153, 154, 155, 156, 157, 158, 159, 162, 164, 166, 169, 170, 173, 174, 176, 178, 181, 183, 186, 188, 190, 192, 195, 197, 200, 202, 204, 207, 210, 212, 215, 217, 218, 219, 221,
  222, 225, 227, 230, 232, 235, 236, 239, 241, 242]
def jx_p166 : List Nat := [0, 1, 2, 3, 4, 5, 7, 9, 12, 13, 16, 18, 19, 21, 22, 23, 24, 26, 27, 28, 31, 34]
def jx_p167 : List Nat := [0, 1, 2, 3, 5, 8, 9, 10, 11, 12, 15, 18, 19, 22, 23, 24, 25, 28, 30, 31, 32, 33, 34, 35, 38, 40, 41, 42, 43, 46, 48, 49, 52, 55, 57, 58, 61, 62, 65, 66,
  68, 69, 71, 74, 75, 78, 79, 82, 85, 87, 90, 92, 95, 96, 97, 100, 103, 104]
def jx_p168 : List Nat := [0, 1, 4, 7, 8, 9, 12, 15, 16]
def jx_p169 : List Nat := [0, 1, 2, 3, 4, 5, 7, 10, 11, 13, 15, 16, 19, 22, 23, 24, 25, 27, 28, 31, 34, 35, 38, 39, 40, 41, 44, 47, 50, 53, 54]
def jx_p170 : List Nat := [0, 1, 4, 7, 8, 9, 10, 13, 16, 19, 20, 21, 22, 25, 26, 28, 30, 31, 33, 35, 37, 40, 41, 43, 46, 48, 51, 53, 56, 58, 61, 64, 65, 68, 69, 71, 73, 76, 77, 78,
  81, 82, 85, 87, 90, 92, 94, 97, 100, 101, 102, 105, 107]
def jx_p171 : List Nat := [0, 1, 2, 3, 6, 9, 12, 13, 14, 17, 20, 22, 23, 24, 27, 28, 29, 30, 33, 35, 36, 37, 40, 41, 42, 43, 44, 47, 48, 49, 52, 54, 55, 56, 59, 61, 63, 64]
def jx_p172 : List Nat := [0, 1, 4, 7, 8, 11, 14, 15, 16, 17, 20, 22, 25, 27, 28, 29, 32, 33, 34, 37, 38, 39, 40, 41, 44, 45, 46, 49, 50, 51, 52, 53, 54, 55, 58, 59, 60, 63, 64, 65,
  66, 67, 70, 71, 74, 75, 76, 77, 78, 81, 82, 83, 86, 87, 90]
def jx_p173 : List Nat := [0, 1, 2, 5, 8, 9, 10, 11, 14, 17, 20, 21, 22, 23, 26, 27, 28, 29, 30, 31, 32, 33, 34, 36, 38, 40, 42, 44, 45, 46, 49, 50, 52, 54, 56, 59, 60, 63, 64, 65,
  66, 67, 68, 70, 71, 72, 74, 75, 77, 79, 80, 83, 86, 88, 91, 92, 93, 96, 97, 99, 100, 101, 102, 103, 106, 107, 109, 110, 111, 112, 113, 116, 117, 120, 121, 123, 124, 125, 126, 127,
  128, 131, 132, 135, 136, 139, 140, 143, 144, 146, 149, 152, 154, 156, 159, 160, 163, 164, 165, 167, 169, 172, 174, 177, 179, 182, 184, 186, 188, 191, 193, 196, 198, 200, 203, 206, 207, 209, 212, 213,
  216, 217, 218, 219, 220, 221, 222, 223, 224, 227, 229, 232, 233, 234, 237, 239, 242, 244]
def jx_p174 : List Nat := [0, 1, 4, 5, 6, 7, 10, 11]
def jx_p175 : List Nat := [0, 1, 2, 5, 8, 9, 12, 15, 16, 17, 18, 21, 22, 23, 24, 26, 28, 30, 32, 34, 37, 38, 41, 42, 44, 45, 46, 47, 48, 51, 54, 56, 59, 61, 63, 66, 69, 70, 73, 74,
  75, 76, 78]
def jx_p176 : List Nat := [0, 1, 2, 3, 5, 7, 9, 12, 13, 14, 15, 16, 18, 21, 24, 25, 28, 29, 30, 31, 34, 37, 38]
def jx_p177 : List Nat := [0, 1, 2, 5, 8, 9, 12, 15, 16, 17, 18, 21, 24, 25]
def jx_p178 : List Nat := [0, 1, 4, 5, 8, 9, 12, 13, 14, 17, 18, 21, 22, 25, 26, 27, 30, 31, 34, 35, 38, 39, 40, 43, 44, 47, 48, 51, 52, 53, 56, 57, 60, 61, 64, 65, 66, 69, 70, 73,
  74, 77, 78, 79, 82, 83, 84, 87, 88, 89, 92, 93, 94, 95, 96, 99, 100, 101, 104, 105, 106, 107, 108, 111, 112, 113, 116, 117, 118, 119, 120, 123, 124, 125, 128, 129, 130, 131, 132, 135,
  136, 137, 138, 141, 142]
def jx_p179 : List Nat := [0, 1, 2, 3, 4, 5, 8, 9, 10, 11, 12, 13, 14, 15, 16, 19, 22, 23, 24, 25, 26]
def jx_p180 : List Nat := [0, 1, 4, 7, 9, 10, 11, 14, 15, 16, 19, 22, 23, 24, 27, 28, 29, 32, 35, 36, 37, 40, 41, 42, 45, 48, 49, 50, 53, 54, 55, 58, 61, 62, 63, 66, 67, 68, 71, 74,
  75, 76, 79, 80, 81, 84, 87, 88, 89, 90, 93, 94, 95, 98, 99, 100, 103, 104, 105, 106, 107, 110, 111, 112, 115, 116, 117, 118, 119, 122, 123, 124, 127, 128, 129, 130, 131, 134, 135, 136,
  139, 140, 141, 142, 143, 146, 147]
def jx_p181 : List Nat := [0, 1, 2, 3, 4, 5, 8, 9, 10, 11, 12, 13, 14, 15, 16, 19, 22, 23, 24, 25, 26]
def jx_p182 : List Nat := [0, 1, 4, 7, 8, 11, 14, 16, 17, 18, 21, 24, 27, 29, 30, 31, 34, 37, 40, 42, 43, 46, 48, 49, 50, 51, 54, 57, 58, 59, 60, 61, 62, 63, 65, 67, 68, 71, 73, 75,
  78, 80, 81, 83, 84, 85, 86, 87, 89, 90, 92, 94, 96, 98, 99, 102, 103, 106, 108, 110, 111, 112, 113, 114, 117, 120, 123, 125, 126, 129, 132, 133, 135, 137, 139, 142, 143, 145, 146, 148,
  150, 152, 155, 156, 158, 159, 161, 163, 165, 168, 170, 171, 174, 176, 178, 180, 181, 182, 184, 185, 186, 188, 191, 192, 195, 196, 197, 199, 202, 205, 206, 209, 211, 213, 215, 218, 220, 223, 224, 227,
  229, 230, 231, 233, 235, 238, 240, 243, 245, 247, 250, 253, 256, 259, 261, 264, 265, 268, 270, 271, 272, 273, 275, 278, 279, 280, 283]
def jx_p183 : List Nat := [0, 1, 2, 3, 6, 9]
def jx_p184 : List Nat := [0, 1, 2, 3, 6, 9]
def jx_p185 : List Nat := [0, 1, 4, 5, 6, 9, 11, 12, 13, 16, 17, 18, 19, 22, 24, 25, 26, 29, 30, 31, 33, 34, 35, 36, 39, 40, 41, 42, 43, 46, 48, 51, 52]
def jx_p186 : List Nat := [0, 1, 4, 7, 8, 11, 14, 16, 17, 18, 21, 24, 27, 29, 30, 31, 34, 37, 40, 42, 43, 44, 46, 47, 48, 49, 52, 55, 56, 57, 58, 59, 60, 61, 63, 65, 66, 67, 68, 71,
  73, 75, 78, 80, 81, 83, 84, 85, 86, 87, 89, 90, 92, 94, 96, 98, 99, 100, 101, 104, 106, 108, 109, 110, 111, 114, 115, 118, 120, 122, 123, 124, 125, 126, 129, 132, 135, 137, 138, 141,
  144, 146, 148, 149, 150, 152, 153, 154, 156, 158, 160, 161, 163, 164, 166, 168, 170, 173, 175, 177, 178, 179, 181, 182, 183, 185, 186, 189, 191, 192, 193, 195, 196, 199, 201, 202, 203, 205, 208, 210,
  211, 214, 216, 217, 218, 221, 223, 224, 227, 229, 232, 234, 236, 239, 240, 243, 244, 246, 248, 251, 253, 256, 258, 260, 262, 265, 267, 270, 272, 274, 277, 280, 282]
def jx_p187 : List Nat := [0, 1, 4, 7, 8, 11, 14, 15, 17, 20, 21, 22, 23, 26, 28, 29, 30, 33, 34, 35, 36, 37, 40, 41, 42, 43, 44, 46, 48, 50, 53, 54, 57, 59, 60, 61, 63, 64, 65, 66,
  69, 72, 73]
def jx_p188 : List Nat := [0, 1, 4, 7, 8, 9, 10, 13, 14, 15, 18, 20, 21, 22, 25, 26, 27, 28, 29, 32, 33, 34]
def jx_p189 : List Nat := [0, 1, 4, 7, 8, 11, 14, 15, 16, 17, 18, 19, 20, 21, 24, 26, 28, 31, 33, 34, 35, 38, 40, 41, 42, 43, 44, 45, 48, 50, 51, 54, 55, 56, 59, 61, 62, 65, 67, 68,
  69]
def jx_p190 : List Nat := [0, 1, 4, 7, 8, 11, 14, 15, 16, 17, 20, 21, 22, 25, 26, 29, 30, 31, 34, 36, 37, 38, 41, 42, 43, 44, 47, 48, 49, 52, 54, 55, 57, 60, 61, 62, 63, 66, 67, 68,
  69, 71, 74, 77, 78, 79, 80, 83, 84, 85, 87, 89, 92, 95, 97, 98, 99, 101, 103, 105, 108, 109, 112, 114, 115, 118, 120, 121, 122, 123, 124, 126, 127, 128, 129, 132, 135, 136, 138, 140,
  142, 145, 146, 149, 151, 152, 153, 155, 156, 158, 159, 160, 163, 165, 166, 167, 170, 173, 175]
def jx_p191 : List Nat := [0, 3, 4, 7, 8, 11, 12, 15, 16, 17, 18, 19, 20, 21, 23, 24, 27, 28, 29, 30, 32, 33, 200, 201, 202, 203, 204, 205, 206, 207, 208, 209, 210, 211, 214, 215, 216, 217, 218, 219,
  220, 221, 222, 223, 224, 225, 228, 231, 232, 233, 234, 235, 236, 237, 238, 239, 240, 241, 242, 243, 244, 245, 246, 247, 248, 249, 252, 253, 254, 255, 256, 257, 258, 259, 260, 261, 262, 263, 264, 265,
  266, 267, 268, 271, 274, 275, 276, 277, 278, 279, 280, 281, 282, 283, 284, 285, 286, 287, 288, 289, 290, 291, 292, 295, 296, 297, 298, 299, 300, 301, 302, 303, 304, 305, 306, 307, 308, 309, 310, 311,
  314, 317, 318, 319, 320, 321, 322, 323, 324, 325, 326, 328, 329, 330, 331, 332, 333, 334, 335, 338, 339, 340, 341, 342, 343, 344, 345, 348, 349, 350, 351, 352, 353, 354, 355, 357, 358, 359, 360, 361,
  362, 363, 364, 367, 368, 369, 370, 371, 372, 373, 374, 377, 380, 381, 382, 383, 386, 387, 390, 393, 394, 395, 396, 397, 398, 399, 400, 401, 404, 405, 406, 407, 408, 409, 410, 413, 416, 417, 418, 419,
  420, 421, 422, 423, 424, 427, 428, 429, 430, 431, 432, 433, 436, 439, 440, 441, 442, 443, 444, 445, 446, 447, 448, 449, 450, 451, 452, 453, 454, 455, 456, 457, 460, 461, 462, 463, 464, 465, 466, 467,
  468, 469, 470, 471, 472, 473, 474, 475, 476, 479, 482, 483, 484, 485, 486, 487, 488, 489, 490, 491, 492, 493, 494, 495, 498, 499, 500, 501, 502, 503, 504, 505, 506, 507, 508, 509, 512, 515, 516, 517,
  518, 519, 520, 521, 522, 523, 526, 527, 528, 529, 530, 531, 532, 535, 538, 539, 540, 541, 542, 543, 544, 545, 546, 547, 548, 549, 550, 551, 554, 555, 556, 557, 558, 559, 560, 561, 562, 563, 564, 565,
  568, 571, 572, 573, 574, 575, 576, 577, 578, 579, 580, 581, 582, 583, 584, 587, 588, 589, 590, 591, 592, 593, 594, 595, 596, 597, 598, 601, 604, 605, 606, 607, 608, 609, 610, 611, 612, 615, 616, 617,
  618, 619, 620, 621, 624, 627, 628, 629, 630, 631, 632, 633, 634, 635, 636, 637, 638, 639, 640, 643, 644, 647, 648, 651, 652, 653, 654, 655, 656, 657, 658, 659, 660, 661, 662, 665, 666, 669, 670, 673,
  676, 677, 678, 679, 680, 681, 682, 683, 684, 687, 688, 689, 690, 691, 692, 693, 696, 699, 700, 701, 702, 703, 704, 705, 706, 707, 708, 709, 710, 711, 712, 713, 714, 715, 716, 717, 718, 719, 720, 721,
  722, 725, 726, 727, 728, 729, 730, 731, 732, 733, 734, 735, 736, 737, 738, 739, 740, 741, 742, 743, 744, 745, 746, 749, 752, 753, 754, 755, 756, 757, 758, 759, 760, 761, 762, 763, 764, 765, 768, 769,
  770, 771, 772, 773, 774, 775, 776, 777, 778, 779, 782, 785, 786, 787, 788, 789, 790, 791, 792, 793, 796, 797, 798, 799, 800, 801, 802, 805, 808, 809, 810, 811, 812, 813, 814, 815, 816, 819, 820, 821,
  822, 823, 824, 825, 828, 831, 832, 833, 834, 835, 836, 837, 838, 839, 840, 841, 842, 843, 844, 847, 848, 849, 850, 851, 852, 853, 854, 855, 856, 857, 858, 861, 864, 865, 866, 867, 868, 869, 870, 871,
  872, 873, 874, 875, 876, 877, 878, 879, 880, 881, 882, 885, 886, 887, 888, 889, 890, 891, 892, 893, 894, 895, 896, 897, 898, 899, 900, 901, 904, 907, 908, 909, 910, 911, 912, 913, 914, 915, 916, 917,
  918, 919, 920, 921, 922, 923, 924, 925, 926, 927, 928, 929, 930, 933, 934, 935, 936, 937, 938, 939, 940, 941, 942, 943, 944, 945, 946, 947, 948, 949, 950, 951, 952, 953, 954, 957, 960, 961, 962, 963,
  964, 965, 966, 967, 968, 971, 972, 973, 974, 975, 976, 977, 980, 983, 984, 985, 986, 987, 988, 989, 990, 991, 992, 993, 994, 995, 996, 999, 1000, 1001, 1002, 1003, 1004, 1005, 1006, 1007, 1008, 1009, 1010, 1013,
  1016, 1017, 1018, 1019, 1020, 1021, 1022, 1023, 1024, 1025, 1026, 1027, 1028, 1029, 1032, 1033, 1034, 1035, 1036, 1037, 1038, 1039, 1040, 1041, 1042, 1043, 1046, 1049, 1050, 1051, 1052, 1053, 1054, 1055, 1056, 1057, 1058, 1059, 1060, 1061,
  1062, 1063, 1064, 1065, 1066, 1067, 1070, 1071, 1074, 1075, 1078, 1079, 1080, 1081, 1082, 1083, 1084, 1085, 1086, 1087, 1088, 1089, 1090, 1091, 1092, 1093, 1094, 1097, 1098, 1101, 1102, 1105, 1108, 1109, 1110, 1111, 1112, 1113, 1114, 1115,
  1116, 1117, 1118, 1119, 1120, 1121, 1124, 1125, 1126, 1127, 1128, 1129, 1130, 1131, 1132, 1133, 1134, 1135, 1138, 1141, 1142, 1143, 1144, 1147, 1148, 1151, 1154, 1155, 1156, 1157, 1158, 1159, 1160, 1161, 1162, 1163, 1164, 1165, 1166, 1167,
  1170, 1171, 1172, 1173, 1174, 1175, 1176, 1177, 1178, 1179, 1180, 1181, 1184, 1187, 1188, 1189, 1190, 1191, 1192, 1193, 1194, 1195, 1196, 1197, 1198, 1199, 1200, 1203, 1204, 1205, 1206, 1207, 1208, 1209, 1210, 1211, 1212, 1213, 1214, 1217,
  1220, 1221, 1222, 1223, 1226, 1227, 1230, 1233, 1234, 1235, 1236, 1239, 1240, 1243, 1246, 1247, 1248, 1249, 1250, 1251, 1252, 1253, 1254, 1255, 1256, 1257, 1258, 1259, 1260, 1261, 1262, 1263, 1264, 1265, 1266, 1267, 1268, 1269, 1270, 1271,
  1272, 1273, 1274, 1275, 1276, 1278, 1279, 1280, 1283, 1284, 1285, 1286, 1287, 1288, 1289, 1290, 1291, 1292, 1293, 1294, 1295, 1296, 1297, 1298, 1299, 1300, 1301, 1302, 1303, 1304, 1305, 1306, 1307, 1308, 1309, 1310, 1311, 1313, 1314, 1315,
  1318, 1321, 1322, 1323, 1324, 1325, 1326, 1327, 1328, 1329, 1330, 1331, 1332, 1333, 1334, 1335, 1336, 1337, 1338, 1339, 1340, 1341, 1342, 1343, 1344, 1345, 1346, 1347, 1348, 1349, 1350, 1351, 1353, 1354, 1355, 1358, 1359, 1360, 1361, 1362,
  1363, 1364, 1365, 1366, 1367, 1368, 1369, 1370, 1371, 1372, 1373, 1374, 1375, 1376, 1377, 1378, 1379, 1380, 1381, 1382, 1383, 1384, 1385, 1386, 1388, 1389, 1390, 1393, 1396, 1397, 1398, 1399, 1400, 1401, 1402, 1403, 1404, 1405, 1406, 1407,
  1408, 1409, 1410, 1411, 1412, 1413, 1414, 1417, 1418, 1419, 1420, 1421, 1422, 1423, 1424, 1425, 1426, 1427, 1428, 1429, 1430, 1431, 1432, 1433, 1436, 1439, 1440, 1441, 1442, 1443, 1444, 1445, 1446, 1447, 1450, 1451, 1452, 1453, 1454, 1455,
  1456, 1459, 1462, 1463, 1464, 1465, 1466, 1467, 1468, 1469, 1470, 1471, 1472, 1473, 1474, 1475, 1476, 1477, 1478, 1479, 1480, 1481, 1482, 1483, 1484, 1485, 1488, 1489, 1490, 1491, 1492, 1493, 1494, 1495, 1496, 1497, 1498, 1499, 1500, 1501,
  1502, 1503, 1504, 1505, 1506, 1507, 1508, 1509, 1512, 1515, 1516, 1517, 1518, 1519, 1520, 1521, 1522, 1523, 1524, 1525, 1526, 1527, 1528, 1529, 1530, 1531, 1532, 1533, 1534, 1535, 1536, 1537, 1538, 1539, 1540, 1541, 1542, 1543, 1546, 1547,
  1548, 1549, 1550, 1551, 1552, 1553, 1554, 1555, 1556, 1557, 1558, 1559, 1560, 1561, 1562, 1563, 1564, 1565, 1566, 1567, 1568, 1569, 1570, 1571, 1572, 1575, 1578, 1579, 1580, 1583, 1586, 1587]
def jx_pcs : List (List Nat) := [jx_p0, jx_p1, jx_p2, jx_p3, jx_p4, jx_p5, jx_p6, jx_p7, jx_p8, jx_p9, jx_p10, jx_p11,
  jx_p12, jx_p13, jx_p14, jx_p15, jx_p16, jx_p17, jx_p18, jx_p19, jx_p20, jx_p21, jx_p22, jx_p23,
  jx_p24, jx_p25, jx_p26, jx_p27, jx_p28, jx_p29, jx_p30, jx_p31, jx_p32, jx_p33, jx_p34, jx_p35,
  jx_p36, jx_p37, jx_p38, jx_p39, jx_p40, jx_p41, jx_p42, jx_p43, jx_p44, jx_p45, jx_p46, jx_p47,
  jx_p48, jx_p49, jx_p50, jx_p51, jx_p52, jx_p53, jx_p54, jx_p55, jx_p56, jx_p57, jx_p58, jx_p59,
  jx_p60, jx_p61, jx_p62, jx_p63, jx_p64, jx_p65, jx_p66, jx_p67, jx_p68, jx_p69, jx_p70, jx_p71,
  jx_p72, jx_p73, jx_p74, jx_p75, jx_p76, jx_p77, jx_p78, jx_p79, jx_p80, jx_p81, jx_p82, jx_p83,
  jx_p84, jx_p85, jx_p86, jx_p87, jx_p88, jx_p89, jx_p90, jx_p91, jx_p92, jx_p93, jx_p94, jx_p95,
  jx_p96, jx_p97, jx_p98, jx_p99, jx_p100, jx_p101, jx_p102, jx_p103, jx_p104, jx_p105, jx_p106, jx_p107,
  jx_p108, jx_p109, jx_p110, jx_p111, jx_p112, jx_p113, jx_p114, jx_p115, jx_p116, jx_p117, jx_p118, jx_p119,
  jx_p120, jx_p121, jx_p122, jx_p123, jx_p124, jx_p125, jx_p126, jx_p127, jx_p128, jx_p129, jx_p130, jx_p131,
  jx_p132, jx_p133, jx_p134, jx_p135, jx_p136, jx_p137, jx_p138, jx_p139, jx_p140, jx_p141, jx_p142, jx_p143,
  jx_p144, jx_p145, jx_p146, jx_p147, jx_p148, jx_p149, jx_p150, jx_p151, jx_p152, jx_p153, jx_p154, jx_p155,
  jx_p156, jx_p157, jx_p158, jx_p159, jx_p160, jx_p161, jx_p162, jx_p163, jx_p164, jx_p165, jx_p166, jx_p167,
  jx_p168, jx_p169, jx_p170, jx_p171, jx_p172, jx_p173, jx_p174, jx_p175, jx_p176, jx_p177, jx_p178, jx_p179,
  jx_p180, jx_p181, jx_p182, jx_p183, jx_p184, jx_p185, jx_p186, jx_p187, jx_p188, jx_p189, jx_p190, jx_p191]
