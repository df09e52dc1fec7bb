def RX0 : String := "SternDesk$Expansion"
def TX0 : u_T := fun k => match k with
  | 0 => ("SternDesk$Expansion", "quotients", "[I", true)
  | 1 => ("SternDesk$Expansion", "tops", "[I", true)
  | 2 => ("SternDesk$Expansion", "bottoms", "[I", true)
  | _ => ("SternDesk$Expansion", "count", "I", false)
def tyX0 : Nat → FieldType := fun k => match k with
  | 0 => .array .int
  | 1 => .array .int
  | 2 => .array .int
  | _ => .int
abbrev wsX00 : List Cond := u_ws RX0 TX0 4
theorem nmX0 : ∀ a, a < 4 → ∀ b, b < 4 → a ≠ b → (TX0 a).2.1 ≠ (TX0 b).2.1 := by decide +kernel
theorem tyX0_ok : ∀ k, k < 4 → parseFieldDescriptor (TX0 k).2.2.1 = some (tyX0 k) := by decide +kernel
def RX1 : String := "SternDesk$Fraction"
def TX1 : u_T := fun k => match k with
  | 0 => ("SternDesk$Fraction", "top", "I", true)
  | _ => ("SternDesk$Fraction", "bottom", "I", true)
def tyX1 : Nat → FieldType := fun k => match k with
  | 0 => .int
  | _ => .int
abbrev wsX10 : List Cond := u_ws RX1 TX1 2
theorem nmX1 : ∀ a, a < 2 → ∀ b, b < 2 → a ≠ b → (TX1 a).2.1 ≠ (TX1 b).2.1 := by decide +kernel
theorem tyX1_ok : ∀ k, k < 2 → parseFieldDescriptor (TX1 k).2.2.1 = some (tyX1 k) := by decide +kernel
def RX2 : String := "SternDesk$Rows"
def TX2 : u_T := fun k => match k with
  | _ => ("SternDesk$Rows", "moebiusSums", "[I", true)
def tyX2 : Nat → FieldType := fun k => match k with
  | _ => .array .int
abbrev wsX20 : List Cond := u_ws RX2 TX2 1
theorem nmX2 : ∀ a, a < 1 → ∀ b, b < 1 → a ≠ b → (TX2 a).2.1 ≠ (TX2 b).2.1 := by decide +kernel
theorem tyX2_ok : ∀ k, k < 1 → parseFieldDescriptor (TX2 k).2.2.1 = some (tyX2 k) := by decide +kernel
def RX3 : String := "SternDesk"
def TX3 : u_T := fun k => match k with
  | 0 => ("SternDesk", "hand", "LSternDesk$Expansion;", true)
  | _ => ("SternDesk", "rows", "LSternDesk$Rows;", true)
def tyX3 : Nat → FieldType := fun k => match k with
  | 0 => .object "SternDesk$Expansion"
  | _ => .object "SternDesk$Rows"
abbrev wsX30 : List Cond := u_ws RX3 TX3 2
theorem nmX3 : ∀ a, a < 2 → ∀ b, b < 2 → a ≠ b → (TX3 a).2.1 ≠ (TX3 b).2.1 := by decide +kernel
theorem tyX3_ok : ∀ k, k < 2 → parseFieldDescriptor (TX3 k).2.2.1 = some (tyX3 k) := by decide +kernel
def RX4 : String := "SternDeskModel"
def TX4 : u_T := fun k => match k with
  | 0 => ("SternDeskModel", "thrown", "I", false)
  | 1 => ("SternDeskModel", "top", "I", false)
  | 2 => ("SternDeskModel", "bottom", "I", false)
  | 3 => ("SternDeskModel", "many", "I", false)
  | 4 => ("SternDeskModel", "terms", "[I", true)
  | 5 => ("SternDeskModel", "runs", "I", false)
  | 6 => ("SternDeskModel", "run", "[I", true)
  | 7 => ("SternDeskModel", "lowTop", "J", false)
  | 8 => ("SternDeskModel", "lowBottom", "J", false)
  | 9 => ("SternDeskModel", "highTop", "J", false)
  | _ => ("SternDeskModel", "highBottom", "J", false)
def tyX4 : Nat → FieldType := fun k => match k with
  | 0 => .int
  | 1 => .int
  | 2 => .int
  | 3 => .int
  | 4 => .array .int
  | 5 => .int
  | 6 => .array .int
  | 7 => .long
  | 8 => .long
  | 9 => .long
  | _ => .long
abbrev wsX40 : List Cond := u_ws RX4 TX4 11
theorem nmX4 : ∀ a, a < 11 → ∀ b, b < 11 → a ≠ b → (TX4 a).2.1 ≠ (TX4 b).2.1 := by decide +kernel
theorem tyX4_ok : ∀ k, k < 11 → parseFieldDescriptor (TX4 k).2.2.1 = some (tyX4 k) := by decide +kernel
abbrev vwCl : List vw_C := [(RX0, TX0, 4), (RX1, TX1, 2), (RX2, TX2, 1), (RX3, TX3, 2), (RX4, TX4, 11)]
