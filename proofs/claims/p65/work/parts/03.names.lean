def RX0 : String := "GateCounter$Clock"
def TX0 : u_T := fun k => match k with
  | 0 => ("GateCounter$Clock", "step", "I", false)
  | 1 => ("GateCounter$Clock", "drift", "I", false)
  | 2 => ("GateCounter$Clock", "age", "I", false)
  | 3 => ("GateCounter$Clock", "rest", "I", false)
  | 4 => ("GateCounter$Clock", "next", "I", false)
  | 5 => ("GateCounter$Clock", "edges", "I", false)
  | _ => ("GateCounter$Clock", "latest", "I", false)
def tyX0 : Nat → FieldType := fun k => match k with
  | 0 => .int
  | 1 => .int
  | 2 => .int
  | 3 => .int
  | 4 => .int
  | 5 => .int
  | _ => .int
abbrev wsX00 : List Cond := u_ws RX0 TX0 7
theorem nmX0 : ∀ a, a < 7 → ∀ b, b < 7 → a ≠ b → (TX0 a).2.1 ≠ (TX0 b).2.1 := by decide +kernel
theorem tyX0_ok : ∀ k, k < 7 → parseFieldDescriptor (TX0 k).2.2.1 = some (tyX0 k) := by decide +kernel
def RX1 : String := "GateCounter$Measurement"
def TX1 : u_T := fun k => match k with
  | 0 => ("GateCounter$Measurement", "byPeriod", "Z", true)
  | 1 => ("GateCounter$Measurement", "opened", "I", true)
  | 2 => ("GateCounter$Measurement", "closed", "I", true)
  | 3 => ("GateCounter$Measurement", "count", "I", true)
  | 4 => ("GateCounter$Measurement", "value", "I", true)
  | 5 => ("GateCounter$Measurement", "size", "I", true)
  | _ => ("GateCounter$Measurement", "correction", "I", true)
def tyX1 : Nat → FieldType := fun k => match k with
  | 0 => .boolean
  | 1 => .int
  | 2 => .int
  | 3 => .int
  | 4 => .int
  | 5 => .int
  | _ => .int
abbrev wsX10 : List Cond := u_ws RX1 TX1 7
theorem nmX1 : ∀ a, a < 7 → ∀ b, b < 7 → a ≠ b → (TX1 a).2.1 ≠ (TX1 b).2.1 := by decide +kernel
theorem tyX1_ok : ∀ k, k < 7 → parseFieldDescriptor (TX1 k).2.2.1 = some (tyX1 k) := by decide +kernel
def RX2 : String := "GateCounter$SetupText"
def TX2 : u_T := fun k => match k with
  | 0 => ("GateCounter$SetupText", "text", "[B", true)
  | 1 => ("GateCounter$SetupText", "length", "I", false)
  | 2 => ("GateCounter$SetupText", "error", "I", false)
  | 3 => ("GateCounter$SetupText", "errorOffset", "I", false)
  | 4 => ("GateCounter$SetupText", "draft", "LGateCounter$State;", true)
  | 5 => ("GateCounter$SetupText", "prescaleTold", "Z", false)
  | 6 => ("GateCounter$SetupText", "gateTold", "Z", false)
  | 7 => ("GateCounter$SetupText", "periodsTold", "Z", false)
  | 8 => ("GateCounter$SetupText", "kind", "I", false)
  | 9 => ("GateCounter$SetupText", "start", "I", false)
  | 10 => ("GateCounter$SetupText", "end", "I", false)
  | 11 => ("GateCounter$SetupText", "number", "I", false)
  | _ => ("GateCounter$SetupText", "taken", "I", false)
def tyX2 : Nat → FieldType := fun k => match k with
  | 0 => .array .byte
  | 1 => .int
  | 2 => .int
  | 3 => .int
  | 4 => .object "GateCounter$State"
  | 5 => .boolean
  | 6 => .boolean
  | 7 => .boolean
  | 8 => .int
  | 9 => .int
  | 10 => .int
  | 11 => .int
  | _ => .int
abbrev wsX20 : List Cond := u_ws RX2 TX2 13
theorem nmX2 : ∀ a, a < 13 → ∀ b, b < 13 → a ≠ b → (TX2 a).2.1 ≠ (TX2 b).2.1 := by decide +kernel
theorem tyX2_ok : ∀ k, k < 13 → parseFieldDescriptor (TX2 k).2.2.1 = some (tyX2 k) := by decide +kernel
def RX3 : String := "GateCounter$Signal"
def TX3 : u_T := fun k => match k with
  | 0 => ("GateCounter$Signal", "period", "I", false)
  | 1 => ("GateCounter$Signal", "nextEdge", "I", false)
  | 2 => ("GateCounter$Signal", "edges", "I", false)
  | 3 => ("GateCounter$Signal", "outputs", "I", false)
  | 4 => ("GateCounter$Signal", "prescale", "I", false)
  | 5 => ("GateCounter$Signal", "prescaled", "I", false)
  | 6 => ("GateCounter$Signal", "edgesWhenSet", "I", false)
  | 7 => ("GateCounter$Signal", "outputsWhenSet", "I", false)
  | 8 => ("GateCounter$Signal", "segments", "I", false)
  | 9 => ("GateCounter$Signal", "came", "I", false)
  | 10 => ("GateCounter$Signal", "times", "[I", true)
  | _ => ("GateCounter$Signal", "periods", "[I", true)
def tyX3 : Nat → FieldType := fun k => match k with
  | 0 => .int
  | 1 => .int
  | 2 => .int
  | 3 => .int
  | 4 => .int
  | 5 => .int
  | 6 => .int
  | 7 => .int
  | 8 => .int
  | 9 => .int
  | 10 => .array .int
  | _ => .array .int
abbrev wsX30 : List Cond := u_ws RX3 TX3 12
theorem nmX3 : ∀ a, a < 12 → ∀ b, b < 12 → a ≠ b → (TX3 a).2.1 ≠ (TX3 b).2.1 := by decide +kernel
theorem tyX3_ok : ∀ k, k < 12 → parseFieldDescriptor (TX3 k).2.2.1 = some (tyX3 k) := by decide +kernel
def RX4 : String := "GateCounter$State"
def TX4 : u_T := fun k => match k with
  | 0 => ("GateCounter$State", "time", "I", false)
  | 1 => ("GateCounter$State", "gateLength", "I", false)
  | 2 => ("GateCounter$State", "periodNumber", "I", false)
  | 3 => ("GateCounter$State", "correction", "I", false)
  | 4 => ("GateCounter$State", "made", "I", false)
  | 5 => ("GateCounter$State", "kept", "I", false)
  | 6 => ("GateCounter$State", "clock", "LGateCounter$Clock;", true)
  | 7 => ("GateCounter$State", "signal", "LGateCounter$Signal;", true)
  | _ => ("GateCounter$State", "measurements", "[LGateCounter$Measurement;", true)
def tyX4 : Nat → FieldType := fun k => match k with
  | 0 => .int
  | 1 => .int
  | 2 => .int
  | 3 => .int
  | 4 => .int
  | 5 => .int
  | 6 => .object "GateCounter$Clock"
  | 7 => .object "GateCounter$Signal"
  | _ => .array (.object "GateCounter$Measurement")
abbrev wsX40 : List Cond := u_ws RX4 TX4 9
theorem nmX4 : ∀ a, a < 9 → ∀ b, b < 9 → a ≠ b → (TX4 a).2.1 ≠ (TX4 b).2.1 := by decide +kernel
theorem tyX4_ok : ∀ k, k < 9 → parseFieldDescriptor (TX4 k).2.2.1 = some (tyX4 k) := by decide +kernel
def RX5 : String := "GateCounter"
def TX5 : u_T := fun k => match k with
  | 0 => ("GateCounter", "input", "LGateCounter$SetupText;", true)
  | 1 => ("GateCounter", "output", "Ljava/lang/StringBuilder;", true)
  | 2 => ("GateCounter", "latestReason", "I", false)
  | 3 => ("GateCounter", "latestCause", "I", false)
  | 4 => ("GateCounter", "latestChoice", "I", false)
  | 5 => ("GateCounter", "now", "LGateCounter$State;", true)
  | 6 => ("GateCounter", "trial", "LGateCounter$State;", true)
  | 7 => ("GateCounter", "rival", "LGateCounter$State;", true)
  | 8 => ("GateCounter", "saved", "LGateCounter$State;", true)
  | 9 => ("GateCounter", "isSaved", "Z", false)
  | 10 => ("GateCounter", "past", "[LGateCounter$State;", true)
  | 11 => ("GateCounter", "changes", "I", false)
  | _ => ("GateCounter", "undoable", "I", false)
def tyX5 : Nat → FieldType := fun k => match k with
  | 0 => .object "GateCounter$SetupText"
  | 1 => .object "java/lang/StringBuilder"
  | 2 => .int
  | 3 => .int
  | 4 => .int
  | 5 => .object "GateCounter$State"
  | 6 => .object "GateCounter$State"
  | 7 => .object "GateCounter$State"
  | 8 => .object "GateCounter$State"
  | 9 => .boolean
  | 10 => .array (.object "GateCounter$State")
  | 11 => .int
  | _ => .int
abbrev wsX50 : List Cond := u_ws RX5 TX5 13
theorem nmX5 : ∀ a, a < 13 → ∀ b, b < 13 → a ≠ b → (TX5 a).2.1 ≠ (TX5 b).2.1 := by decide +kernel
theorem tyX5_ok : ∀ k, k < 13 → parseFieldDescriptor (TX5 k).2.2.1 = some (tyX5 k) := by decide +kernel
def RJ0 : String := "java/lang/String"
def TJ0 : u_T := fun k => match k with
  | 0 => ("java/lang/String", "value", "[B", true)
  | 1 => ("java/lang/String", "coder", "B", true)
  | 2 => ("java/lang/String", "hash", "I", false)
  | _ => ("java/lang/String", "hashIsZero", "Z", false)
def tyJ0 : Nat → FieldType := fun k => match k with
  | 0 => .array .byte
  | 1 => .byte
  | 2 => .int
  | _ => .boolean
abbrev wsJ00 : List Cond := u_ws RJ0 TJ0 4
theorem nmJ0 : ∀ a, a < 4 → ∀ b, b < 4 → a ≠ b → (TJ0 a).2.1 ≠ (TJ0 b).2.1 := by decide +kernel
theorem tyJ0_ok : ∀ k, k < 4 → parseFieldDescriptor (TJ0 k).2.2.1 = some (tyJ0 k) := by decide +kernel
def RJ4 : String := "java/lang/StringBuilder"
def TJ4 : u_T := fun k => match k with
  | 0 => ("java/lang/AbstractStringBuilder", "value", "[B", false)
  | 1 => ("java/lang/AbstractStringBuilder", "coder", "B", false)
  | 2 => ("java/lang/AbstractStringBuilder", "maybeLatin1", "Z", false)
  | _ => ("java/lang/AbstractStringBuilder", "count", "I", false)
def tyJ4 : Nat → FieldType := fun k => match k with
  | 0 => .array .byte
  | 1 => .byte
  | 2 => .boolean
  | _ => .int
abbrev wsJ40 : List Cond := u_ws RJ4 TJ4 4
theorem nmJ4 : ∀ a, a < 4 → ∀ b, b < 4 → a ≠ b → (TJ4 a).2.1 ≠ (TJ4 b).2.1 := by decide +kernel
theorem tyJ4_ok : ∀ k, k < 4 → parseFieldDescriptor (TJ4 k).2.2.1 = some (tyJ4 k) := by decide +kernel
def RL : String := "GateCounterLaw"
def TL : u_T := fun k => match k with
  | 0 => ("GateCounterLaw", "step", "I", true)
  | 1 => ("GateCounterLaw", "many", "I", true)
  | 2 => ("GateCounterLaw", "segmentTime", "[I", true)
  | 3 => ("GateCounterLaw", "segmentPeriod", "[I", true)
  | 4 => ("GateCounterLaw", "time", "I", false)
  | 5 => ("GateCounterLaw", "clocks", "I", false)
  | 6 => ("GateCounterLaw", "edges", "I", false)
  | 7 => ("GateCounterLaw", "outputs", "I", false)
  | 8 => ("GateCounterLaw", "counted", "I", false)
  | 9 => ("GateCounterLaw", "p", "I", false)
  | 10 => ("GateCounterLaw", "gate", "I", false)
  | 11 => ("GateCounterLaw", "periods", "I", false)
  | 12 => ("GateCounterLaw", "correction", "I", false)
  | 13 => ("GateCounterLaw", "drift", "I", false)
  | 14 => ("GateCounterLaw", "age", "I", false)
  | 15 => ("GateCounterLaw", "came", "I", false)
  | 16 => ("GateCounterLaw", "start", "I", false)
  | 17 => ("GateCounterLaw", "since", "I", false)
  | 18 => ("GateCounterLaw", "period", "I", false)
  | 19 => ("GateCounterLaw", "latest", "I", false)
  | 20 => ("GateCounterLaw", "drifts", "J", false)
  | 21 => ("GateCounterLaw", "began", "I", false)
  | 22 => ("GateCounterLaw", "ended", "I", false)
  | 23 => ("GateCounterLaw", "count", "I", false)
  | _ => ("GateCounterLaw", "text", "Ljava/lang/StringBuilder;", true)
def tyL : Nat → FieldType := fun k => match k with
  | 0 => .int
  | 1 => .int
  | 2 => .array .int
  | 3 => .array .int
  | 4 => .int
  | 5 => .int
  | 6 => .int
  | 7 => .int
  | 8 => .int
  | 9 => .int
  | 10 => .int
  | 11 => .int
  | 12 => .int
  | 13 => .int
  | 14 => .int
  | 15 => .int
  | 16 => .int
  | 17 => .int
  | 18 => .int
  | 19 => .int
  | 20 => .long
  | 21 => .int
  | 22 => .int
  | 23 => .int
  | _ => .object "java/lang/StringBuilder"
abbrev wsL0 : List Cond := u_ws RL TL 25
theorem nmL : ∀ a, a < 25 → ∀ b, b < 25 → a ≠ b → (TL a).2.1 ≠ (TL b).2.1 := by decide +kernel
theorem tyL_ok : ∀ k, k < 25 → parseFieldDescriptor (TL k).2.2.1 = some (tyL k) := by decide +kernel
