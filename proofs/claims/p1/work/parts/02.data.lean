/-! DATA, written by a program (wip/whole/gen/gen_data.py): classes, methods, cells. -/
def RX0 : String := "FoldForge$Checker"
def TX0 : u_T := fun k => match k with
  | 0 => ("FoldForge$Checker", "program", "LFoldForge$Program;", false)
  | 1 => ("FoldForge$Checker", "types", "[I", true)
  | 2 => ("FoldForge$Checker", "height", "I", false)
  | 3 => ("FoldForge$Checker", "boundNames", "[J", true)
  | 4 => ("FoldForge$Checker", "boundSlots", "[I", true)
  | 5 => ("FoldForge$Checker", "bound", "I", false)
  | 6 => ("FoldForge$Checker", "firstTypes", "[I", true)
  | 7 => ("FoldForge$Checker", "parts", "I", false)
  | _ => ("FoldForge$Checker", "fault", "I", false)
def tyX0 : Nat → FieldType := fun k => match k with
  | 0 => .object "FoldForge$Program"
  | 1 => .array .int
  | 2 => .int
  | 3 => .array .long
  | 4 => .array .int
  | 5 => .int
  | 6 => .array .int
  | 7 => .int
  | _ => .int
theorem nmX0 : ∀ a, a < 9 → ∀ b, b < 9 → a ≠ b → (TX0 a).2.1 ≠ (TX0 b).2.1 := by decide +kernel
theorem tyX0_ok : ∀ k, k < 9 → parseFieldDescriptor (TX0 k).2.2.1 = some (tyX0 k) := by decide +kernel
def RX1 : String := "FoldForge$CodeReader"
def TX1 : u_T := fun k => match k with
  | 0 => ("FoldForge$CodeReader", "open", "[I", true)
  | _ => ("FoldForge$CodeReader", "depth", "I", false)
def tyX1 : Nat → FieldType := fun k => match k with
  | 0 => .array .int
  | _ => .int
theorem nmX1 : ∀ a, a < 2 → ∀ b, b < 2 → a ≠ b → (TX1 a).2.1 ≠ (TX1 b).2.1 := by decide +kernel
theorem tyX1_ok : ∀ k, k < 2 → parseFieldDescriptor (TX1 k).2.2.1 = some (tyX1 k) := by decide +kernel
def RX2 : String := "FoldForge$CodeRows"
def TX2 : u_T := fun k => match k with
  | 0 => ("FoldForge$CodeRows", "size", "I", false)
  | 1 => ("FoldForge$CodeRows", "starts", "[I", true)
  | 2 => ("FoldForge$CodeRows", "ends", "[I", true)
  | 3 => ("FoldForge$CodeRows", "locals", "[I", true)
  | 4 => ("FoldForge$CodeRows", "localTypes", "[B", true)
  | 5 => ("FoldForge$CodeRows", "instructions", "I", false)
  | 6 => ("FoldForge$CodeRows", "op", "[I", true)
  | 7 => ("FoldForge$CodeRows", "first", "[J", true)
  | 8 => ("FoldForge$CodeRows", "second", "[I", true)
  | 9 => ("FoldForge$CodeRows", "labels", "I", false)
  | _ => ("FoldForge$CodeRows", "labelRows", "[I", true)
def tyX2 : Nat → FieldType := fun k => match k with
  | 0 => .int
  | 1 => .array .int
  | 2 => .array .int
  | 3 => .array .int
  | 4 => .array .byte
  | 5 => .int
  | 6 => .array .int
  | 7 => .array .long
  | 8 => .array .int
  | 9 => .int
  | _ => .array .int
theorem nmX2 : ∀ a, a < 11 → ∀ b, b < 11 → a ≠ b → (TX2 a).2.1 ≠ (TX2 b).2.1 := by decide +kernel
theorem tyX2_ok : ∀ k, k < 11 → parseFieldDescriptor (TX2 k).2.2.1 = some (tyX2 k) := by decide +kernel
def RX3 : String := "FoldForge$Judge"
def TX3 : u_T := fun k => match k with
  | 0 => ("FoldForge$Judge", "rows", "LFoldForge$ModuleRows;", false)
  | 1 => ("FoldForge$Judge", "code", "LFoldForge$CodeRows;", false)
  | 2 => ("FoldForge$Judge", "function", "I", false)
  | 3 => ("FoldForge$Judge", "sound", "Z", false)
  | 4 => ("FoldForge$Judge", "stack", "[I", true)
  | 5 => ("FoldForge$Judge", "height", "I", false)
  | 6 => ("FoldForge$Judge", "opener", "[I", true)
  | 7 => ("FoldForge$Judge", "floor", "[I", true)
  | 8 => ("FoldForge$Judge", "gives", "[I", true)
  | 9 => ("FoldForge$Judge", "dead", "[Z", true)
  | _ => ("FoldForge$Judge", "depth", "I", false)
def tyX3 : Nat → FieldType := fun k => match k with
  | 0 => .object "FoldForge$ModuleRows"
  | 1 => .object "FoldForge$CodeRows"
  | 2 => .int
  | 3 => .boolean
  | 4 => .array .int
  | 5 => .int
  | 6 => .array .int
  | 7 => .array .int
  | 8 => .array .int
  | 9 => .array .boolean
  | _ => .int
theorem nmX3 : ∀ a, a < 11 → ∀ b, b < 11 → a ≠ b → (TX3 a).2.1 ≠ (TX3 b).2.1 := by decide +kernel
theorem tyX3_ok : ∀ k, k < 11 → parseFieldDescriptor (TX3 k).2.2.1 = some (tyX3 k) := by decide +kernel
def RX4 : String := "FoldForge$Machine"
def TX4 : u_T := fun k => match k with
  | 0 => ("FoldForge$Machine", "rows", "LFoldForge$ModuleRows;", false)
  | 1 => ("FoldForge$Machine", "code", "LFoldForge$CodeRows;", false)
  | 2 => ("FoldForge$Machine", "globals", "[J", true)
  | 3 => ("FoldForge$Machine", "words", "[J", true)
  | 4 => ("FoldForge$Machine", "pages", "I", false)
  | 5 => ("FoldForge$Machine", "placed", "[I", true)
  | 6 => ("FoldForge$Machine", "places", "I", false)
  | 7 => ("FoldForge$Machine", "stack", "[J", true)
  | 8 => ("FoldForge$Machine", "height", "I", false)
  | 9 => ("FoldForge$Machine", "frames", "[I", true)
  | 10 => ("FoldForge$Machine", "nested", "I", false)
  | 11 => ("FoldForge$Machine", "next", "I", false)
  | 12 => ("FoldForge$Machine", "base", "I", false)
  | 13 => ("FoldForge$Machine", "floor", "I", false)
  | 14 => ("FoldForge$Machine", "taken", "I", false)
  | 15 => ("FoldForge$Machine", "trap", "I", false)
  | _ => ("FoldForge$Machine", "given", "J", false)
def tyX4 : Nat → FieldType := fun k => match k with
  | 0 => .object "FoldForge$ModuleRows"
  | 1 => .object "FoldForge$CodeRows"
  | 2 => .array .long
  | 3 => .array .long
  | 4 => .int
  | 5 => .array .int
  | 6 => .int
  | 7 => .array .long
  | 8 => .int
  | 9 => .array .int
  | 10 => .int
  | 11 => .int
  | 12 => .int
  | 13 => .int
  | 14 => .int
  | 15 => .int
  | _ => .long
theorem nmX4 : ∀ a, a < 17 → ∀ b, b < 17 → a ≠ b → (TX4 a).2.1 ≠ (TX4 b).2.1 := by decide +kernel
theorem tyX4_ok : ∀ k, k < 17 → parseFieldDescriptor (TX4 k).2.2.1 = some (tyX4 k) := by decide +kernel
def RX5 : String := "FoldForge$ModuleReader"
def TX5 : u_T := fun k => match k with
  | 0 => ("FoldForge$ModuleReader", "scan", "LFoldForge$Scan;", true)
  | 1 => ("FoldForge$ModuleReader", "codeReader", "LFoldForge$CodeReader;", true)
  | _ => ("FoldForge$ModuleReader", "latestId", "I", false)
def tyX5 : Nat → FieldType := fun k => match k with
  | 0 => .object "FoldForge$Scan"
  | 1 => .object "FoldForge$CodeReader"
  | _ => .int
theorem nmX5 : ∀ a, a < 3 → ∀ b, b < 3 → a ≠ b → (TX5 a).2.1 ≠ (TX5 b).2.1 := by decide +kernel
theorem tyX5_ok : ∀ k, k < 3 → parseFieldDescriptor (TX5 k).2.2.1 = some (tyX5 k) := by decide +kernel
def RX6 : String := "FoldForge$ModuleRows"
def TX6 : u_T := fun k => match k with
  | 0 => ("FoldForge$ModuleRows", "text", "[B", true)
  | 1 => ("FoldForge$ModuleRows", "types", "I", false)
  | 2 => ("FoldForge$ModuleRows", "typeRows", "[I", true)
  | 3 => ("FoldForge$ModuleRows", "functions", "I", false)
  | 4 => ("FoldForge$ModuleRows", "functionTypes", "[I", true)
  | 5 => ("FoldForge$ModuleRows", "tables", "I", false)
  | 6 => ("FoldForge$ModuleRows", "tableLimits", "[J", true)
  | 7 => ("FoldForge$ModuleRows", "memories", "I", false)
  | 8 => ("FoldForge$ModuleRows", "memoryLimits", "[J", true)
  | 9 => ("FoldForge$ModuleRows", "globals", "I", false)
  | 10 => ("FoldForge$ModuleRows", "globalRows", "[I", true)
  | 11 => ("FoldForge$ModuleRows", "globalValues", "[J", true)
  | 12 => ("FoldForge$ModuleRows", "exports", "I", false)
  | 13 => ("FoldForge$ModuleRows", "exportRows", "[I", true)
  | 14 => ("FoldForge$ModuleRows", "elements", "I", false)
  | 15 => ("FoldForge$ModuleRows", "elementRows", "[I", true)
  | 16 => ("FoldForge$ModuleRows", "elementOffsets", "[J", true)
  | 17 => ("FoldForge$ModuleRows", "listed", "I", false)
  | 18 => ("FoldForge$ModuleRows", "elementFunctions", "[I", true)
  | _ => ("FoldForge$ModuleRows", "codes", "LFoldForge$CodeRows;", true)
def tyX6 : Nat → FieldType := fun k => match k with
  | 0 => .array .byte
  | 1 => .int
  | 2 => .array .int
  | 3 => .int
  | 4 => .array .int
  | 5 => .int
  | 6 => .array .long
  | 7 => .int
  | 8 => .array .long
  | 9 => .int
  | 10 => .array .int
  | 11 => .array .long
  | 12 => .int
  | 13 => .array .int
  | 14 => .int
  | 15 => .array .int
  | 16 => .array .long
  | 17 => .int
  | 18 => .array .int
  | _ => .object "FoldForge$CodeRows"
theorem nmX6 : ∀ a, a < 20 → ∀ b, b < 20 → a ≠ b → (TX6 a).2.1 ≠ (TX6 b).2.1 := by decide +kernel
theorem tyX6_ok : ∀ k, k < 20 → parseFieldDescriptor (TX6 k).2.2.1 = some (tyX6 k) := by decide +kernel
def RX7 : String := "FoldForge$Parser"
def TX7 : u_T := fun k => match k with
  | 0 => ("FoldForge$Parser", "program", "LFoldForge$Program;", false)
  | 1 => ("FoldForge$Parser", "text", "[B", false)
  | 2 => ("FoldForge$Parser", "end", "I", false)
  | 3 => ("FoldForge$Parser", "next", "I", false)
  | 4 => ("FoldForge$Parser", "kinds", "[I", true)
  | 5 => ("FoldForge$Parser", "ats", "[I", true)
  | 6 => ("FoldForge$Parser", "values", "[J", true)
  | 7 => ("FoldForge$Parser", "tokens", "I", false)
  | 8 => ("FoldForge$Parser", "token", "I", false)
  | 9 => ("FoldForge$Parser", "kind", "I", false)
  | 10 => ("FoldForge$Parser", "at", "I", false)
  | 11 => ("FoldForge$Parser", "value", "J", false)
  | 12 => ("FoldForge$Parser", "atoms", "I", false)
  | _ => ("FoldForge$Parser", "fault", "I", false)
def tyX7 : Nat → FieldType := fun k => match k with
  | 0 => .object "FoldForge$Program"
  | 1 => .array .byte
  | 2 => .int
  | 3 => .int
  | 4 => .array .int
  | 5 => .array .int
  | 6 => .array .long
  | 7 => .int
  | 8 => .int
  | 9 => .int
  | 10 => .int
  | 11 => .long
  | 12 => .int
  | _ => .int
theorem nmX7 : ∀ a, a < 14 → ∀ b, b < 14 → a ≠ b → (TX7 a).2.1 ≠ (TX7 b).2.1 := by decide +kernel
theorem tyX7_ok : ∀ k, k < 14 → parseFieldDescriptor (TX7 k).2.2.1 = some (tyX7 k) := by decide +kernel
def RX8 : String := "FoldForge$Program"
def TX8 : u_T := fun k => match k with
  | 0 => ("FoldForge$Program", "functions", "I", false)
  | 1 => ("FoldForge$Program", "names", "[J", true)
  | 2 => ("FoldForge$Program", "nameAts", "[I", true)
  | 3 => ("FoldForge$Program", "takes", "[I", true)
  | 4 => ("FoldForge$Program", "gives", "[I", true)
  | 5 => ("FoldForge$Program", "starts", "[I", true)
  | 6 => ("FoldForge$Program", "argumentNames", "[J", true)
  | 7 => ("FoldForge$Program", "argumentAts", "[I", true)
  | 8 => ("FoldForge$Program", "argumentTypes", "[I", true)
  | 9 => ("FoldForge$Program", "length", "I", false)
  | 10 => ("FoldForge$Program", "op", "[I", true)
  | 11 => ("FoldForge$Program", "value", "[J", true)
  | 12 => ("FoldForge$Program", "at", "[I", true)
  | _ => ("FoldForge$Program", "extra", "[I", true)
def tyX8 : Nat → FieldType := fun k => match k with
  | 0 => .int
  | 1 => .array .long
  | 2 => .array .int
  | 3 => .array .int
  | 4 => .array .int
  | 5 => .array .int
  | 6 => .array .long
  | 7 => .array .int
  | 8 => .array .int
  | 9 => .int
  | 10 => .array .int
  | 11 => .array .long
  | 12 => .array .int
  | _ => .array .int
theorem nmX8 : ∀ a, a < 14 → ∀ b, b < 14 → a ≠ b → (TX8 a).2.1 ≠ (TX8 b).2.1 := by decide +kernel
theorem tyX8_ok : ∀ k, k < 14 → parseFieldDescriptor (TX8 k).2.2.1 = some (tyX8 k) := by decide +kernel
def RX9 : String := "FoldForge$Runner"
def TX9 : u_T := fun k => match k with
  | 0 => ("FoldForge$Runner", "program", "LFoldForge$Program;", false)
  | 1 => ("FoldForge$Runner", "heads", "[I", true)
  | 2 => ("FoldForge$Runner", "tails", "[I", true)
  | 3 => ("FoldForge$Runner", "stack", "[I", true)
  | 4 => ("FoldForge$Runner", "height", "I", false)
  | 5 => ("FoldForge$Runner", "frames", "[I", true)
  | 6 => ("FoldForge$Runner", "nested", "I", false)
  | 7 => ("FoldForge$Runner", "base", "I", false)
  | 8 => ("FoldForge$Runner", "next", "I", false)
  | 9 => ("FoldForge$Runner", "conses", "I", false)
  | 10 => ("FoldForge$Runner", "calls", "I", false)
  | 11 => ("FoldForge$Runner", "deepest", "I", false)
  | 12 => ("FoldForge$Runner", "error", "I", false)
  | _ => ("FoldForge$Runner", "given", "I", false)
def tyX9 : Nat → FieldType := fun k => match k with
  | 0 => .object "FoldForge$Program"
  | 1 => .array .int
  | 2 => .array .int
  | 3 => .array .int
  | 4 => .int
  | 5 => .array .int
  | 6 => .int
  | 7 => .int
  | 8 => .int
  | 9 => .int
  | 10 => .int
  | 11 => .int
  | 12 => .int
  | _ => .int
theorem nmX9 : ∀ a, a < 14 → ∀ b, b < 14 → a ≠ b → (TX9 a).2.1 ≠ (TX9 b).2.1 := by decide +kernel
theorem tyX9_ok : ∀ k, k < 14 → parseFieldDescriptor (TX9 k).2.2.1 = some (tyX9 k) := by decide +kernel
def RX10 : String := "FoldForge$Scan"
def TX10 : u_T := fun k => match k with
  | 0 => ("FoldForge$Scan", "text", "[B", false)
  | 1 => ("FoldForge$Scan", "at", "I", false)
  | 2 => ("FoldForge$Scan", "end", "I", false)
  | 3 => ("FoldForge$Scan", "fault", "I", false)
  | _ => ("FoldForge$Scan", "faultAt", "I", false)
def tyX10 : Nat → FieldType := fun k => match k with
  | 0 => .array .byte
  | 1 => .int
  | 2 => .int
  | 3 => .int
  | _ => .int
theorem nmX10 : ∀ a, a < 5 → ∀ b, b < 5 → a ≠ b → (TX10 a).2.1 ≠ (TX10 b).2.1 := by decide +kernel
theorem tyX10_ok : ∀ k, k < 5 → parseFieldDescriptor (TX10 k).2.2.1 = some (tyX10 k) := by decide +kernel
def RX11 : String := "FoldForge"
def TX11 : u_T := fun k => match k with
  | 0 => ("FoldForge", "tape", "[B", true)
  | 1 => ("FoldForge", "fed", "I", false)
  | 2 => ("FoldForge", "arguments", "[J", true)
  | 3 => ("FoldForge", "kept", "LFoldForge$ModuleRows;", false)
  | 4 => ("FoldForge", "draft", "LFoldForge$ModuleRows;", false)
  | 5 => ("FoldForge", "made", "Z", false)
  | 6 => ("FoldForge", "faultPlace", "I", false)
  | 7 => ("FoldForge", "reader", "LFoldForge$ModuleReader;", true)
  | 8 => ("FoldForge", "judge", "LFoldForge$Judge;", true)
  | 9 => ("FoldForge", "machine", "LFoldForge$Machine;", true)
  | 10 => ("FoldForge", "keptProgram", "LFoldForge$Program;", false)
  | 11 => ("FoldForge", "draftProgram", "LFoldForge$Program;", false)
  | 12 => ("FoldForge", "parser", "LFoldForge$Parser;", true)
  | 13 => ("FoldForge", "checker", "LFoldForge$Checker;", true)
  | 14 => ("FoldForge", "runner", "LFoldForge$Runner;", true)
  | 15 => ("FoldForge", "result", "J", false)
  | 16 => ("FoldForge", "stepsTaken", "I", false)
  | _ => ("FoldForge", "trapMet", "I", false)
def tyX11 : Nat → FieldType := fun k => match k with
  | 0 => .array .byte
  | 1 => .int
  | 2 => .array .long
  | 3 => .object "FoldForge$ModuleRows"
  | 4 => .object "FoldForge$ModuleRows"
  | 5 => .boolean
  | 6 => .int
  | 7 => .object "FoldForge$ModuleReader"
  | 8 => .object "FoldForge$Judge"
  | 9 => .object "FoldForge$Machine"
  | 10 => .object "FoldForge$Program"
  | 11 => .object "FoldForge$Program"
  | 12 => .object "FoldForge$Parser"
  | 13 => .object "FoldForge$Checker"
  | 14 => .object "FoldForge$Runner"
  | 15 => .long
  | 16 => .int
  | _ => .int
theorem nmX11 : ∀ a, a < 18 → ∀ b, b < 18 → a ≠ b → (TX11 a).2.1 ≠ (TX11 b).2.1 := by decide +kernel
theorem tyX11_ok : ∀ k, k < 18 → parseFieldDescriptor (TX11 k).2.2.1 = some (tyX11 k) := by decide +kernel
def RX12 : String := "FoldForgeModel"
def TX12 : u_T := fun k => match k with
  | 0 => ("FoldForgeModel", "tape", "[I", true)
  | 1 => ("FoldForgeModel", "size", "I", false)
  | 2 => ("FoldForgeModel", "place", "I", false)
  | 3 => ("FoldForgeModel", "text", "[I", true)
  | 4 => ("FoldForgeModel", "typeMany", "[I", true)
  | 5 => ("FoldForgeModel", "paramMany", "[I", true)
  | 6 => ("FoldForgeModel", "param", "[I", true)
  | 7 => ("FoldForgeModel", "gives", "[I", true)
  | 8 => ("FoldForgeModel", "functionMany", "[I", true)
  | 9 => ("FoldForgeModel", "tableMany", "[I", true)
  | 10 => ("FoldForgeModel", "memoryMany", "[I", true)
  | 11 => ("FoldForgeModel", "globalMany", "[I", true)
  | 12 => ("FoldForgeModel", "exportMany", "[I", true)
  | 13 => ("FoldForgeModel", "elementMany", "[I", true)
  | 14 => ("FoldForgeModel", "codeMany", "[I", true)
  | 15 => ("FoldForgeModel", "functionType", "[J", true)
  | 16 => ("FoldForgeModel", "tableLeast", "[J", true)
  | 17 => ("FoldForgeModel", "tableMost", "[J", true)
  | 18 => ("FoldForgeModel", "memoryLeast", "[J", true)
  | 19 => ("FoldForgeModel", "memoryMost", "[J", true)
  | 20 => ("FoldForgeModel", "globalFirst", "[J", true)
  | 21 => ("FoldForgeModel", "exportNumber", "[J", true)
  | 22 => ("FoldForgeModel", "elementAt", "[J", true)
  | 23 => ("FoldForgeModel", "elementFunction", "[J", true)
  | 24 => ("FoldForgeModel", "globalType", "[I", true)
  | 25 => ("FoldForgeModel", "globalSet", "[I", true)
  | 26 => ("FoldForgeModel", "globalKind", "[I", true)
  | 27 => ("FoldForgeModel", "nameAt", "[I", true)
  | 28 => ("FoldForgeModel", "nameSize", "[I", true)
  | 29 => ("FoldForgeModel", "exportKind", "[I", true)
  | 30 => ("FoldForgeModel", "elementKind", "[I", true)
  | 31 => ("FoldForgeModel", "elementSize", "[I", true)
  | 32 => ("FoldForgeModel", "localMany", "[I", true)
  | 33 => ("FoldForgeModel", "local", "[I", true)
  | 34 => ("FoldForgeModel", "bodyAt", "[I", true)
  | 35 => ("FoldForgeModel", "elseAt", "[I", true)
  | 36 => ("FoldForgeModel", "endAt", "[I", true)
  | 37 => ("FoldForgeModel", "now", "I", false)
  | 38 => ("FoldForgeModel", "z", "I", false)
  | 39 => ("FoldForgeModel", "hasModule", "Z", false)
  | 40 => ("FoldForgeModel", "at", "I", false)
  | 41 => ("FoldForgeModel", "end", "I", false)
  | 42 => ("FoldForgeModel", "fault", "I", false)
  | 43 => ("FoldForgeModel", "faultPlace", "I", false)
  | 44 => ("FoldForgeModel", "nameFrom", "I", false)
  | 45 => ("FoldForgeModel", "constantValue", "J", false)
  | 46 => ("FoldForgeModel", "opened", "[I", true)
  | 47 => ("FoldForgeModel", "kept", "[I", true)
  | 48 => ("FoldForgeModel", "blockGives", "[I", true)
  | 49 => ("FoldForgeModel", "blockNeeds", "[I", true)
  | 50 => ("FoldForgeModel", "blockFrom", "[I", true)
  | 51 => ("FoldForgeModel", "blockAt", "[I", true)
  | 52 => ("FoldForgeModel", "blockAny", "[Z", true)
  | 53 => ("FoldForgeModel", "keptMany", "I", false)
  | 54 => ("FoldForgeModel", "blocks", "I", false)
  | 55 => ("FoldForgeModel", "code", "I", false)
  | 56 => ("FoldForgeModel", "type", "I", false)
  | 57 => ("FoldForgeModel", "good", "Z", false)
  | 58 => ("FoldForgeModel", "textMany", "I", false)
  | 59 => ("FoldForgeModel", "globals", "[J", true)
  | 60 => ("FoldForgeModel", "table", "[I", true)
  | 61 => ("FoldForgeModel", "memory", "[I", true)
  | 62 => ("FoldForgeModel", "pages", "I", false)
  | 63 => ("FoldForgeModel", "arguments", "[J", true)
  | 64 => ("FoldForgeModel", "stack", "[J", true)
  | 65 => ("FoldForgeModel", "locals", "[J", true)
  | 66 => ("FoldForgeModel", "sp", "I", false)
  | 67 => ("FoldForgeModel", "steps", "I", false)
  | 68 => ("FoldForgeModel", "taken", "I", false)
  | 69 => ("FoldForgeModel", "trap", "I", false)
  | 70 => ("FoldForgeModel", "depth", "I", false)
  | 71 => ("FoldForgeModel", "isSpent", "Z", false)
  | 72 => ("FoldForgeModel", "labelAt", "[I", true)
  | 73 => ("FoldForgeModel", "labelStack", "[I", true)
  | 74 => ("FoldForgeModel", "labels", "I", false)
  | 75 => ("FoldForgeModel", "result", "J", false)
  | 76 => ("FoldForgeModel", "resultTrap", "I", false)
  | 77 => ("FoldForgeModel", "resultSteps", "I", false)
  | 78 => ("FoldForgeModel", "source", "[I", true)
  | 79 => ("FoldForgeModel", "sourceSize", "I", false)
  | 80 => ("FoldForgeModel", "look", "I", false)
  | 81 => ("FoldForgeModel", "wrongAt", "I", false)
  | 82 => ("FoldForgeModel", "token", "I", false)
  | 83 => ("FoldForgeModel", "tokenAt", "I", false)
  | 84 => ("FoldForgeModel", "tokenSize", "I", false)
  | 85 => ("FoldForgeModel", "tokenValue", "J", false)
  | 86 => ("FoldForgeModel", "gotAt", "I", false)
  | 87 => ("FoldForgeModel", "gotSize", "I", false)
  | 88 => ("FoldForgeModel", "fAt", "[I", true)
  | 89 => ("FoldForgeModel", "fSize", "[I", true)
  | 90 => ("FoldForgeModel", "fMany", "[I", true)
  | 91 => ("FoldForgeModel", "fGives", "[I", true)
  | 92 => ("FoldForgeModel", "fNode", "[I", true)
  | 93 => ("FoldForgeModel", "fPlace", "[I", true)
  | 94 => ("FoldForgeModel", "aAt", "[I", true)
  | 95 => ("FoldForgeModel", "aSize", "[I", true)
  | 96 => ("FoldForgeModel", "aType", "[I", true)
  | 97 => ("FoldForgeModel", "ways", "I", false)
  | 98 => ("FoldForgeModel", "nKind", "[I", true)
  | 99 => ("FoldForgeModel", "nAt", "[I", true)
  | 100 => ("FoldForgeModel", "nA", "[I", true)
  | 101 => ("FoldForgeModel", "nB", "[I", true)
  | 102 => ("FoldForgeModel", "nC", "[I", true)
  | 103 => ("FoldForgeModel", "pA", "[I", true)
  | 104 => ("FoldForgeModel", "pB", "[I", true)
  | 105 => ("FoldForgeModel", "pC", "[I", true)
  | 106 => ("FoldForgeModel", "nName", "[I", true)
  | 107 => ("FoldForgeModel", "nNameSize", "[I", true)
  | 108 => ("FoldForgeModel", "nSecond", "[I", true)
  | 109 => ("FoldForgeModel", "nSecondSize", "[I", true)
  | 110 => ("FoldForgeModel", "nValue", "[I", true)
  | 111 => ("FoldForgeModel", "nodes", "I", false)
  | 112 => ("FoldForgeModel", "atoms", "I", false)
  | 113 => ("FoldForgeModel", "opens", "I", false)
  | 114 => ("FoldForgeModel", "eAt", "[I", true)
  | 115 => ("FoldForgeModel", "eSize", "[I", true)
  | 116 => ("FoldForgeModel", "eType", "[I", true)
  | 117 => ("FoldForgeModel", "names", "I", false)
  | 118 => ("FoldForgeModel", "most", "I", false)
  | 119 => ("FoldForgeModel", "order", "[I", true)
  | 120 => ("FoldForgeModel", "orderA", "[I", true)
  | 121 => ("FoldForgeModel", "orderB", "[I", true)
  | 122 => ("FoldForgeModel", "wayAt", "[I", true)
  | 123 => ("FoldForgeModel", "wayMany", "[I", true)
  | 124 => ("FoldForgeModel", "wayInts", "[I", true)
  | 125 => ("FoldForgeModel", "orders", "I", false)
  | 126 => ("FoldForgeModel", "kept0", "I", false)
  | 127 => ("FoldForgeModel", "values", "[I", true)
  | 128 => ("FoldForgeModel", "slot", "[I", true)
  | 129 => ("FoldForgeModel", "returns", "[I", true)
  | 130 => ("FoldForgeModel", "heads", "[I", true)
  | 131 => ("FoldForgeModel", "tails", "[I", true)
  | 132 => ("FoldForgeModel", "slots", "I", false)
  | 133 => ("FoldForgeModel", "top", "I", false)
  | 134 => ("FoldForgeModel", "pairs", "I", false)
  | 135 => ("FoldForgeModel", "runs", "I", false)
  | 136 => ("FoldForgeModel", "deep", "I", false)
  | 137 => ("FoldForgeModel", "deepest", "I", false)
  | 138 => ("FoldForgeModel", "error", "I", false)
  | 139 => ("FoldForgeModel", "spentPairs", "I", false)
  | 140 => ("FoldForgeModel", "spentRuns", "I", false)
  | 141 => ("FoldForgeModel", "spentDeep", "I", false)
  | _ => ("FoldForgeModel", "pc", "I", false)
def tyX12 : Nat → FieldType := fun k => match k with
  | 0 => .array .int
  | 1 => .int
  | 2 => .int
  | 3 => .array .int
  | 4 => .array .int
  | 5 => .array .int
  | 6 => .array .int
  | 7 => .array .int
  | 8 => .array .int
  | 9 => .array .int
  | 10 => .array .int
  | 11 => .array .int
  | 12 => .array .int
  | 13 => .array .int
  | 14 => .array .int
  | 15 => .array .long
  | 16 => .array .long
  | 17 => .array .long
  | 18 => .array .long
  | 19 => .array .long
  | 20 => .array .long
  | 21 => .array .long
  | 22 => .array .long
  | 23 => .array .long
  | 24 => .array .int
  | 25 => .array .int
  | 26 => .array .int
  | 27 => .array .int
  | 28 => .array .int
  | 29 => .array .int
  | 30 => .array .int
  | 31 => .array .int
  | 32 => .array .int
  | 33 => .array .int
  | 34 => .array .int
  | 35 => .array .int
  | 36 => .array .int
  | 37 => .int
  | 38 => .int
  | 39 => .boolean
  | 40 => .int
  | 41 => .int
  | 42 => .int
  | 43 => .int
  | 44 => .int
  | 45 => .long
  | 46 => .array .int
  | 47 => .array .int
  | 48 => .array .int
  | 49 => .array .int
  | 50 => .array .int
  | 51 => .array .int
  | 52 => .array .boolean
  | 53 => .int
  | 54 => .int
  | 55 => .int
  | 56 => .int
  | 57 => .boolean
  | 58 => .int
  | 59 => .array .long
  | 60 => .array .int
  | 61 => .array .int
  | 62 => .int
  | 63 => .array .long
  | 64 => .array .long
  | 65 => .array .long
  | 66 => .int
  | 67 => .int
  | 68 => .int
  | 69 => .int
  | 70 => .int
  | 71 => .boolean
  | 72 => .array .int
  | 73 => .array .int
  | 74 => .int
  | 75 => .long
  | 76 => .int
  | 77 => .int
  | 78 => .array .int
  | 79 => .int
  | 80 => .int
  | 81 => .int
  | 82 => .int
  | 83 => .int
  | 84 => .int
  | 85 => .long
  | 86 => .int
  | 87 => .int
  | 88 => .array .int
  | 89 => .array .int
  | 90 => .array .int
  | 91 => .array .int
  | 92 => .array .int
  | 93 => .array .int
  | 94 => .array .int
  | 95 => .array .int
  | 96 => .array .int
  | 97 => .int
  | 98 => .array .int
  | 99 => .array .int
  | 100 => .array .int
  | 101 => .array .int
  | 102 => .array .int
  | 103 => .array .int
  | 104 => .array .int
  | 105 => .array .int
  | 106 => .array .int
  | 107 => .array .int
  | 108 => .array .int
  | 109 => .array .int
  | 110 => .array .int
  | 111 => .int
  | 112 => .int
  | 113 => .int
  | 114 => .array .int
  | 115 => .array .int
  | 116 => .array .int
  | 117 => .int
  | 118 => .int
  | 119 => .array .int
  | 120 => .array .int
  | 121 => .array .int
  | 122 => .array .int
  | 123 => .array .int
  | 124 => .array .int
  | 125 => .int
  | 126 => .int
  | 127 => .array .int
  | 128 => .array .int
  | 129 => .array .int
  | 130 => .array .int
  | 131 => .array .int
  | 132 => .int
  | 133 => .int
  | 134 => .int
  | 135 => .int
  | 136 => .int
  | 137 => .int
  | 138 => .int
  | 139 => .int
  | 140 => .int
  | 141 => .int
  | _ => .int
theorem nmX12 : ∀ a, a < 143 → ∀ b, b < 143 → a ≠ b → (TX12 a).2.1 ≠ (TX12 b).2.1 := by decide +kernel
theorem tyX12_ok : ∀ k, k < 143 → parseFieldDescriptor (TX12 k).2.2.1 = some (tyX12 k) := by decide +kernel
abbrev fk_cls : List vw_C := [(RX0, TX0, 9), (RX1, TX1, 2), (RX2, TX2, 11), (RX3, TX3, 11), (RX4, TX4, 17), (RX5, TX5, 3), (RX6, TX6, 20), (RX7, TX7, 14), (RX8, TX8, 14), (RX9, TX9, 14), (RX10, TX10, 5), (RX11, TX11, 18), (RX12, TX12, 143)]
theorem layX0 : u_ws RX0 TX0 9 = [804, 806, 808, 810, 812, 814, 816, 818, 820].filterMap (fun i => lw_tbl[i]?) := by decide +kernel
theorem layX1 : u_ws RX1 TX1 2 = [539, 541].filterMap (fun i => lw_tbl[i]?) := by decide +kernel
theorem layX2 : u_ws RX2 TX2 11 = [351, 353, 355, 357, 359, 361, 363, 365, 367, 369, 371].filterMap (fun i => lw_tbl[i]?) := by decide +kernel
theorem layX3 : u_ws RX3 TX3 11 = [572, 574, 576, 578, 580, 582, 584, 586, 588, 590, 592].filterMap (fun i => lw_tbl[i]?) := by decide +kernel
theorem layX4 : u_ws RX4 TX4 17 = [626, 628, 630, 632, 634, 636, 638, 640, 642, 644, 646, 648, 650, 652, 654, 656, 658].filterMap (fun i => lw_tbl[i]?) := by decide +kernel
theorem layX5 : u_ws RX5 TX5 3 = [548, 550, 552].filterMap (fun i => lw_tbl[i]?) := by decide +kernel
theorem layX6 : u_ws RX6 TX6 20 = [455, 457, 459, 461, 463, 465, 467, 469, 471, 473, 475, 477, 479, 481, 483, 485, 487, 489, 491, 493].filterMap (fun i => lw_tbl[i]?) := by decide +kernel
theorem layX7 : u_ws RX7 TX7 14 = [760, 762, 764, 766, 768, 770, 772, 774, 776, 778, 780, 782, 784, 786].filterMap (fun i => lw_tbl[i]?) := by decide +kernel
theorem layX8 : u_ws RX8 TX8 14 = [711, 713, 715, 717, 719, 721, 723, 725, 727, 729, 731, 733, 735, 737].filterMap (fun i => lw_tbl[i]?) := by decide +kernel
theorem layX9 : u_ws RX9 TX9 14 = [848, 850, 852, 854, 856, 858, 860, 862, 864, 866, 868, 870, 872, 874].filterMap (fun i => lw_tbl[i]?) := by decide +kernel
theorem layX10 : u_ws RX10 TX10 5 = [520, 522, 524, 526, 528].filterMap (fun i => lw_tbl[i]?) := by decide +kernel
theorem layX11 : u_ws RX11 TX11 18 = [895, 897, 899, 901, 903, 905, 907, 909, 911, 913, 915, 917, 919, 921, 923, 925, 927, 929].filterMap (fun i => lw_tbl[i]?) := by decide +kernel
theorem layX12 : u_ws RX12 TX12 143 = [2020, 2022, 2024, 2026, 2028, 2030, 2032, 2034, 2036, 2038, 2040, 2042, 2044, 2046, 2048, 2050, 2052, 2054, 2056, 2058, 2060, 2062, 2064, 2066, 2068, 2070, 2072, 2074, 2076, 2078, 2080, 2082, 2084, 2086, 2088, 2090, 2092, 2094, 2096, 2098, 2100, 2102, 2104, 2106, 2108, 2110, 2112, 2114, 2116, 2118, 2120, 2122, 2124, 2126, 2128, 2130, 2132, 2134, 2136, 2138, 2140, 2142, 2144, 2146, 2148, 2150, 2152, 2154, 2156, 2158, 2160, 2162, 2164, 2166, 2168, 2170, 2172, 2174, 2176, 2178, 2180, 2182, 2184, 2186, 2188, 2190, 2192, 2194, 2196, 2198, 2200, 2202, 2204, 2206, 2208, 2210, 2212, 2214, 2216, 2218, 2220, 2222, 2224, 2226, 2228, 2230, 2232, 2234, 2236, 2238, 2240, 2242, 2244, 2246, 2248, 2250, 2252, 2254, 2256, 2258, 2260, 2262, 2264, 2266, 2268, 2270, 2272, 2274, 2276, 2278, 2280, 2282, 2284, 2286, 2288, 2290, 2292, 2294, 2296, 2298, 2300, 2302, 2304].filterMap (fun i => lw_tbl[i]?) := by decide +kernel
theorem fk_mem {big ws : List Cond} (ps : List Nat) (hp : ws = ps.filterMap (fun i => big[i]?)) : ∀ w ∈ ws, w ∈ big := by
  intro w hw
  rw [hp] at hw
  obtain ⟨i, -, hi⟩ := List.mem_filterMap.mp hw
  exact List.mem_of_getElem? hi
/-- what the tables say of a class of ours, by its number -/
def fk_ty (ci : Nat) : Nat → FieldType := match ci with
  | 0 => tyX0
  | 1 => tyX1
  | 2 => tyX2
  | 3 => tyX3
  | 4 => tyX4
  | 5 => tyX5
  | 6 => tyX6
  | 7 => tyX7
  | 8 => tyX8
  | 9 => tyX9
  | 10 => tyX10
  | 11 => tyX11
  | _ => tyX12
theorem fk_cfacts {ci : Nat} {q : vw_C} (h : fk_cls[ci]? = some q) : (∀ w ∈ u_ws q.1 q.2.1 q.2.2, w ∈ lw_tbl) ∧ (∀ k, k < q.2.2 → parseFieldDescriptor (q.2.1 k).2.2.1 = some (fk_ty ci k)) ∧ (∀ a, a < q.2.2 → ∀ b, b < q.2.2 → a ≠ b → (q.2.1 a).2.1 ≠ (q.2.1 b).2.1) := by
  match ci, h with
  | 0, h => cases h; exact ⟨fk_mem _ layX0, tyX0_ok, nmX0⟩
  | 1, h => cases h; exact ⟨fk_mem _ layX1, tyX1_ok, nmX1⟩
  | 2, h => cases h; exact ⟨fk_mem _ layX2, tyX2_ok, nmX2⟩
  | 3, h => cases h; exact ⟨fk_mem _ layX3, tyX3_ok, nmX3⟩
  | 4, h => cases h; exact ⟨fk_mem _ layX4, tyX4_ok, nmX4⟩
  | 5, h => cases h; exact ⟨fk_mem _ layX5, tyX5_ok, nmX5⟩
  | 6, h => cases h; exact ⟨fk_mem _ layX6, tyX6_ok, nmX6⟩
  | 7, h => cases h; exact ⟨fk_mem _ layX7, tyX7_ok, nmX7⟩
  | 8, h => cases h; exact ⟨fk_mem _ layX8, tyX8_ok, nmX8⟩
  | 9, h => cases h; exact ⟨fk_mem _ layX9, tyX9_ok, nmX9⟩
  | 10, h => cases h; exact ⟨fk_mem _ layX10, tyX10_ok, nmX10⟩
  | 11, h => cases h; exact ⟨fk_mem _ layX11, tyX11_ok, nmX11⟩
  | 12, h => cases h; exact ⟨fk_mem _ layX12, tyX12_ok, nmX12⟩
  | k + 13, h => simp [fk_cls] at h
abbrev fkM : Type := MethodName × ByteArray × Nat × Option FieldType
def fk_d0 : fkM := (⟨"", "", ""⟩, ⟨#[]⟩, 0, none)
def fk_ML0 : List fkM := [(⟨"FoldForge", "<init>", "()V"⟩, prog_1_method_1_code, 1, none),
  (⟨"java/lang/Object", "<init>", "()V"⟩, object_method_1_code, 1, none),
  (⟨"FoldForge$ModuleRows", "<init>", "()V"⟩, prog_8_method_1_code, 1, none),
  (⟨"FoldForge$CodeRows", "<init>", "()V"⟩, prog_4_method_1_code, 1, none),
  (⟨"FoldForge$ModuleReader", "<init>", "()V"⟩, prog_7_method_1_code, 1, none),
  (⟨"FoldForge$Scan", "<init>", "()V"⟩, prog_12_method_1_code, 1, none),
  (⟨"FoldForge$CodeReader", "<init>", "()V"⟩, prog_3_method_1_code, 1, none),
  (⟨"FoldForge$Judge", "<init>", "()V"⟩, prog_5_method_1_code, 1, none),
  (⟨"FoldForge$Machine", "<init>", "()V"⟩, prog_6_method_1_code, 1, none),
  (⟨"FoldForge$Program", "<init>", "()V"⟩, prog_10_method_1_code, 1, none),
  (⟨"FoldForge$Parser", "<init>", "()V"⟩, prog_9_method_1_code, 1, none),
  (⟨"FoldForge$Checker", "<init>", "()V"⟩, prog_2_method_1_code, 1, none),
  (⟨"FoldForge$Runner", "<init>", "()V"⟩, prog_11_method_1_code, 1, none),
  (⟨"FoldForge", "feed", "(IIIII)I"⟩, prog_1_method_2_code, 6, some (Jvm.ClassFile.FieldType.int)),
  (⟨"FoldForge", "putOnTape", "(I)V"⟩, prog_1_method_3_code, 3, none),
  (⟨"FoldForge", "module", "(I)I"⟩, prog_1_method_4_code, 4, some (Jvm.ClassFile.FieldType.int)),
  (⟨"FoldForge$ModuleReader", "read", "(LFoldForge$ModuleRows;[BI)V"⟩, prog_7_method_2_code, 6, none),
  (⟨"FoldForge$ModuleRows", "clear", "()V"⟩, prog_8_method_2_code, 1, none),
  (⟨"FoldForge$Scan", "begin", "([BI)V"⟩, prog_12_method_2_code, 3, none),
  (⟨"java/lang/Math", "min", "(II)I"⟩, prog_18_method_69_code, 2, some (Jvm.ClassFile.FieldType.int)),
  (⟨"FoldForge$Scan", "fine", "()Z"⟩, prog_12_method_3_code, 1, some (Jvm.ClassFile.FieldType.boolean)),
  (⟨"FoldForge$Scan", "expect", "(I)V"⟩, prog_12_method_6_code, 2, none),
  (⟨"FoldForge$Scan", "fail", "(II)V"⟩, prog_12_method_4_code, 3, none),
  (⟨"FoldForge$ModuleReader", "sectionId", "()I"⟩, prog_7_method_3_code, 3, some (Jvm.ClassFile.FieldType.int)),
  (⟨"FoldForge$Scan", "next", "()I"⟩, prog_12_method_5_code, 2, some (Jvm.ClassFile.FieldType.int)),
  (⟨"FoldForge$Scan", "narrow", "()V"⟩, prog_12_method_11_code, 4, none),
  (⟨"FoldForge$Scan", "unsigned", "()J"⟩, prog_12_method_7_code, 6, some (Jvm.ClassFile.FieldType.long)),
  (⟨"FoldForge$CodeReader", "read", "(LFoldForge$Scan;LFoldForge$CodeRows;)V"⟩, prog_3_method_5_code, 8, none),
  (⟨"FoldForge$Scan", "vec", "()I"⟩, prog_12_method_9_code, 4, some (Jvm.ClassFile.FieldType.int)),
  (⟨"FoldForge$CodeReader", "locals", "(LFoldForge$Scan;LFoldForge$CodeRows;I)V"⟩, prog_3_method_6_code, 12, none),
  (⟨"FoldForge$Scan", "valueType", "()I"⟩, prog_12_method_10_code, 3, some (Jvm.ClassFile.FieldType.int)),
  (⟨"FoldForge$CodeReader", "instruction", "(LFoldForge$Scan;LFoldForge$CodeRows;)Z"⟩, prog_3_method_7_code, 5, some (Jvm.ClassFile.FieldType.boolean)),
  (⟨"FoldForge$CodeReader", "close", "(LFoldForge$CodeRows;)Z"⟩, prog_3_method_8_code, 3, some (Jvm.ClassFile.FieldType.boolean)),
  (⟨"FoldForge$CodeRows", "add", "(I)I"⟩, prog_4_method_2_code, 2, some (Jvm.ClassFile.FieldType.int)),
  (⟨"FoldForge$CodeReader", "otherPart", "(LFoldForge$Scan;LFoldForge$CodeRows;I)V"⟩, prog_3_method_9_code, 5, none),
  (⟨"FoldForge$CodeReader", "block", "(LFoldForge$Scan;LFoldForge$CodeRows;II)V"⟩, prog_3_method_10_code, 6, none),
  (⟨"FoldForge$CodeReader", "isAlone", "(I)Z"⟩, prog_3_method_3_code, 1, some (Jvm.ClassFile.FieldType.boolean)),
  (⟨"FoldForge$CodeReader", "isRefused", "(I)Z"⟩, prog_3_method_2_code, 1, some (Jvm.ClassFile.FieldType.boolean)),
  (⟨"FoldForge$CodeReader", "branchTable", "(LFoldForge$Scan;LFoldForge$CodeRows;)V"⟩, prog_3_method_13_code, 6, none),
  (⟨"FoldForge$CodeRows", "addLabel", "(J)V"⟩, prog_4_method_3_code, 3, none)]
def fk_ML1 : List fkM := [(⟨"FoldForge$CodeReader", "withOperands", "(LFoldForge$Scan;LFoldForge$CodeRows;II)V"⟩, prog_3_method_11_code, 6, none),
  (⟨"FoldForge$CodeReader", "hasNumber", "(I)Z"⟩, prog_3_method_4_code, 1, some (Jvm.ClassFile.FieldType.boolean)),
  (⟨"FoldForge$CodeReader", "zero", "(LFoldForge$Scan;)V"⟩, prog_3_method_12_code, 2, none),
  (⟨"FoldForge$Scan", "signed", "(I)J"⟩, prog_12_method_8_code, 10, some (Jvm.ClassFile.FieldType.long)),
  (⟨"java/lang/Math", "min", "(JJ)J"⟩, prog_18_method_70_code, 4, some (Jvm.ClassFile.FieldType.long)),
  (⟨"java/lang/Math", "max", "(II)I"⟩, prog_18_method_65_code, 2, some (Jvm.ClassFile.FieldType.int)),
  (⟨"FoldForge$Scan", "widen", "(I)V"⟩, prog_12_method_12_code, 2, none),
  (⟨"FoldForge$ModuleReader", "content", "(LFoldForge$ModuleRows;I)V"⟩, prog_7_method_4_code, 5, none),
  (⟨"FoldForge$ModuleReader", "skipName", "()I"⟩, prog_7_method_11_code, 3, some (Jvm.ClassFile.FieldType.int)),
  (⟨"FoldForge$ModuleReader", "thing", "(LFoldForge$ModuleRows;II)V"⟩, prog_7_method_5_code, 4, none),
  (⟨"FoldForge$ModuleReader", "type", "(LFoldForge$ModuleRows;)V"⟩, prog_7_method_6_code, 6, none),
  (⟨"FoldForge$ModuleReader", "limits", "([J)V"⟩, prog_7_method_7_code, 4, none),
  (⟨"FoldForge$ModuleReader", "oneGlobal", "(LFoldForge$ModuleRows;I)V"⟩, prog_7_method_8_code, 4, none),
  (⟨"FoldForge$ModuleReader", "operator", "()I"⟩, prog_7_method_9_code, 3, some (Jvm.ClassFile.FieldType.int)),
  (⟨"FoldForge$ModuleReader", "constant", "(I)J"⟩, prog_7_method_10_code, 4, some (Jvm.ClassFile.FieldType.long)),
  (⟨"FoldForge$ModuleReader", "oneExport", "(LFoldForge$ModuleRows;I)V"⟩, prog_7_method_12_code, 6, none),
  (⟨"FoldForge$ModuleReader", "element", "(LFoldForge$ModuleRows;I)V"⟩, prog_7_method_13_code, 7, none),
  (⟨"FoldForge$Judge", "verdictOn", "(LFoldForge$ModuleRows;)I"⟩, prog_5_method_2_code, 4, some (Jvm.ClassFile.FieldType.int)),
  (⟨"FoldForge$Judge", "typesAreThere", "()Z"⟩, prog_5_method_3_code, 2, some (Jvm.ClassFile.FieldType.boolean)),
  (⟨"FoldForge$Judge", "limitsVerdict", "([JI)I"⟩, prog_5_method_4_code, 3, some (Jvm.ClassFile.FieldType.int)),
  (⟨"FoldForge$Judge", "globalsFit", "()Z"⟩, prog_5_method_5_code, 3, some (Jvm.ClassFile.FieldType.boolean)),
  (⟨"FoldForge$Judge", "exportsFit", "()Z"⟩, prog_5_method_6_code, 4, some (Jvm.ClassFile.FieldType.boolean)),
  (⟨"FoldForge$ModuleRows", "numberOf", "(I)I"⟩, prog_8_method_4_code, 2, some (Jvm.ClassFile.FieldType.int)),
  (⟨"FoldForge$ModuleRows", "kindOf", "(I)I"⟩, prog_8_method_3_code, 2, some (Jvm.ClassFile.FieldType.int)),
  (⟨"FoldForge$Judge", "thingsOfKind", "(I)I"⟩, prog_5_method_7_code, 2, some (Jvm.ClassFile.FieldType.int)),
  (⟨"FoldForge$Judge", "sameName", "(II)Z"⟩, prog_5_method_8_code, 7, some (Jvm.ClassFile.FieldType.boolean)),
  (⟨"FoldForge$Judge", "elementsFit", "()Z"⟩, prog_5_method_9_code, 2, some (Jvm.ClassFile.FieldType.boolean)),
  (⟨"FoldForge$Judge", "functionFits", "(I)Z"⟩, prog_5_method_10_code, 3, some (Jvm.ClassFile.FieldType.boolean)),
  (⟨"FoldForge$ModuleRows", "givenBy", "(I)I"⟩, prog_8_method_7_code, 2, some (Jvm.ClassFile.FieldType.int)),
  (⟨"FoldForge$Judge", "openBlock", "(II)V"⟩, prog_5_method_15_code, 3, none),
  (⟨"FoldForge$Judge", "instruction", "(II)V"⟩, prog_5_method_17_code, 3, none),
  (⟨"FoldForge$Judge", "structure", "(II)V"⟩, prog_5_method_18_code, 3, none),
  (⟨"FoldForge$Judge", "goDead", "()V"⟩, prog_5_method_16_code, 1, none),
  (⟨"FoldForge$Judge", "pop", "(I)I"⟩, prog_5_method_12_code, 4, some (Jvm.ClassFile.FieldType.int)),
  (⟨"FoldForge$Judge", "closePart", "()V"⟩, prog_5_method_19_code, 1, none),
  (⟨"FoldForge$Judge", "closeBlock", "()V"⟩, prog_5_method_20_code, 3, none),
  (⟨"FoldForge$Judge", "push", "(I)V"⟩, prog_5_method_11_code, 2, none),
  (⟨"FoldForge$Judge", "branch", "(II)V"⟩, prog_5_method_21_code, 7, none),
  (⟨"FoldForge$Judge", "popGiven", "(I)V"⟩, prog_5_method_13_code, 2, none),
  (⟨"FoldForge$Judge", "labelGives", "(I)I"⟩, prog_5_method_24_code, 3, some (Jvm.ClassFile.FieldType.int))]
def fk_ML2 : List fkM := [(⟨"FoldForge$Judge", "blockOf", "(I)I"⟩, prog_5_method_22_code, 3, some (Jvm.ClassFile.FieldType.int)),
  (⟨"FoldForge$Judge", "isLoop", "(I)Z"⟩, prog_5_method_23_code, 2, some (Jvm.ClassFile.FieldType.boolean)),
  (⟨"FoldForge$Judge", "resolve", "(I)V"⟩, prog_5_method_25_code, 4, none),
  (⟨"FoldForge$CodeRows", "endOf", "(I)I"⟩, prog_4_method_4_code, 3, some (Jvm.ClassFile.FieldType.int)),
  (⟨"FoldForge$Judge", "pushGiven", "(I)V"⟩, prog_5_method_14_code, 2, none),
  (⟨"FoldForge$Judge", "callOf", "(II)V"⟩, prog_5_method_26_code, 6, none),
  (⟨"FoldForge$ModuleRows", "argumentsOf", "(I)I"⟩, prog_8_method_5_code, 2, some (Jvm.ClassFile.FieldType.int)),
  (⟨"FoldForge$ModuleRows", "argumentType", "(II)I"⟩, prog_8_method_6_code, 3, some (Jvm.ClassFile.FieldType.int)),
  (⟨"FoldForge$Judge", "dropOrSelect", "(I)V"⟩, prog_5_method_27_code, 3, none),
  (⟨"FoldForge$Judge", "local", "(II)V"⟩, prog_5_method_28_code, 6, none),
  (⟨"FoldForge$Judge", "globalUse", "(II)V"⟩, prog_5_method_29_code, 3, none),
  (⟨"FoldForge$Judge", "memoryUse", "(II)V"⟩, prog_5_method_30_code, 4, none),
  (⟨"FoldForge$Judge", "width", "(I)I"⟩, prog_5_method_32_code, 1, some (Jvm.ClassFile.FieldType.int)),
  (⟨"FoldForge$Judge", "accessType", "(I)I"⟩, prog_5_method_31_code, 2, some (Jvm.ClassFile.FieldType.int)),
  (⟨"FoldForge$Judge", "number", "(I)V"⟩, prog_5_method_33_code, 2, none),
  (⟨"FoldForge$Judge", "turn", "(III)V"⟩, prog_5_method_34_code, 5, none),
  (⟨"FoldForge$Machine", "make", "(LFoldForge$ModuleRows;)Z"⟩, prog_6_method_2_code, 4, some (Jvm.ClassFile.FieldType.boolean)),
  (⟨"java/util/Arrays", "fill", "([JJ)V"⟩, prog_23_method_101_code, 5, none),
  (⟨"java/util/Arrays", "fill", "([II)V"⟩, prog_23_method_103_code, 4, none),
  (⟨"FoldForge", "place", "()I"⟩, prog_1_method_5_code, 1, some (Jvm.ClassFile.FieldType.int)),
  (⟨"FoldForge", "count", "(I)I"⟩, prog_1_method_6_code, 2, some (Jvm.ClassFile.FieldType.int)),
  (⟨"FoldForge", "export", "(II)I"⟩, prog_1_method_7_code, 7, some (Jvm.ClassFile.FieldType.int)),
  (⟨"FoldForge", "shapeOf", "(II)I"⟩, prog_1_method_8_code, 4, some (Jvm.ClassFile.FieldType.int)),
  (⟨"FoldForge", "argument", "(IJ)I"⟩, prog_1_method_9_code, 4, some (Jvm.ClassFile.FieldType.int)),
  (⟨"FoldForge", "run", "(II)I"⟩, prog_1_method_10_code, 5, some (Jvm.ClassFile.FieldType.int)),
  (⟨"FoldForge$Machine", "start", "(I[JI)I"⟩, prog_6_method_6_code, 8, some (Jvm.ClassFile.FieldType.int)),
  (⟨"FoldForge$Machine", "push", "(J)V"⟩, prog_6_method_7_code, 3, none),
  (⟨"FoldForge$Machine", "enter", "(II)V"⟩, prog_6_method_10_code, 6, none),
  (⟨"FoldForge$Machine", "going", "()Z"⟩, prog_6_method_9_code, 1, some (Jvm.ClassFile.FieldType.boolean)),
  (⟨"FoldForge$Machine", "mark", "(I)V"⟩, prog_6_method_12_code, 2, none),
  (⟨"FoldForge$Machine", "leave", "()V"⟩, prog_6_method_11_code, 6, none),
  (⟨"FoldForge$Machine", "pop", "()J"⟩, prog_6_method_8_code, 1, some (Jvm.ClassFile.FieldType.long)),
  (⟨"FoldForge$Machine", "step", "(II)V"⟩, prog_6_method_13_code, 3, none),
  (⟨"FoldForge$Machine", "control", "(II)V"⟩, prog_6_method_14_code, 6, none),
  (⟨"FoldForge$Machine", "branch", "(I)V"⟩, prog_6_method_15_code, 5, none),
  (⟨"FoldForge$Machine", "callIndirect", "(I)V"⟩, prog_6_method_16_code, 5, none),
  (⟨"FoldForge$ModuleRows", "sameTypes", "(II)Z"⟩, prog_8_method_8_code, 5, some (Jvm.ClassFile.FieldType.boolean)),
  (⟨"FoldForge$Machine", "variable", "(II)V"⟩, prog_6_method_17_code, 8, none),
  (⟨"FoldForge$Machine", "local", "(II)V"⟩, prog_6_method_18_code, 5, none),
  (⟨"FoldForge$Machine", "grow", "()V"⟩, prog_6_method_19_code, 5, none)]
def fk_ML3 : List fkM := [(⟨"FoldForge$Machine", "load", "(IJ)V"⟩, prog_6_method_21_code, 10, none),
  (⟨"FoldForge$Machine", "address", "(JJI)I"⟩, prog_6_method_20_code, 8, some (Jvm.ClassFile.FieldType.int)),
  (⟨"FoldForge$Machine", "bytes", "()I"⟩, prog_6_method_3_code, 1, some (Jvm.ClassFile.FieldType.int)),
  (⟨"FoldForge$Machine", "byteAt", "(I)I"⟩, prog_6_method_4_code, 2, some (Jvm.ClassFile.FieldType.int)),
  (⟨"FoldForge$Machine", "store", "(IJ)V"⟩, prog_6_method_22_code, 9, none),
  (⟨"FoldForge$Machine", "setByte", "(II)V"⟩, prog_6_method_5_code, 4, none),
  (⟨"FoldForge$Machine", "number", "(I)V"⟩, prog_6_method_23_code, 4, none),
  (⟨"FoldForge$Machine", "compare", "(IJJ)Z"⟩, prog_6_method_25_code, 5, some (Jvm.ClassFile.FieldType.boolean)),
  (⟨"FoldForge$Machine", "below", "(JJ)Z"⟩, prog_6_method_24_code, 4, some (Jvm.ClassFile.FieldType.boolean)),
  (⟨"FoldForge$Machine", "bits32", "(II)I"⟩, prog_6_method_26_code, 3, some (Jvm.ClassFile.FieldType.int)),
  (⟨"java/lang/Integer", "bitCount", "(I)I"⟩, prog_16_method_49_code, 1, some (Jvm.ClassFile.FieldType.int)),
  (⟨"FoldForge$Machine", "whole32", "(III)I"⟩, prog_6_method_28_code, 8, some (Jvm.ClassFile.FieldType.int)),
  (⟨"FoldForge$Machine", "shifted32", "(III)I"⟩, prog_6_method_31_code, 3, some (Jvm.ClassFile.FieldType.int)),
  (⟨"FoldForge$Machine", "bits64", "(IJ)I"⟩, prog_6_method_27_code, 5, some (Jvm.ClassFile.FieldType.int)),
  (⟨"java/lang/Long", "bitCount", "(J)I"⟩, prog_17_method_50_code, 2, some (Jvm.ClassFile.FieldType.int)),
  (⟨"FoldForge$Machine", "whole64", "(IJJ)J"⟩, prog_6_method_29_code, 6, some (Jvm.ClassFile.FieldType.long)),
  (⟨"FoldForge$Machine", "quotient", "(JJ)J"⟩, prog_6_method_30_code, 6, some (Jvm.ClassFile.FieldType.long)),
  (⟨"FoldForge$Machine", "shifted64", "(IJJ)J"⟩, prog_6_method_32_code, 6, some (Jvm.ClassFile.FieldType.long)),
  (⟨"FoldForge", "outcome", "(I)J"⟩, prog_1_method_11_code, 2, some (Jvm.ClassFile.FieldType.long)),
  (⟨"FoldForge", "global", "(I)J"⟩, prog_1_method_12_code, 2, some (Jvm.ClassFile.FieldType.long)),
  (⟨"FoldForge", "memory", "(I)I"⟩, prog_1_method_13_code, 2, some (Jvm.ClassFile.FieldType.int)),
  (⟨"FoldForge", "table", "(I)I"⟩, prog_1_method_14_code, 2, some (Jvm.ClassFile.FieldType.int)),
  (⟨"FoldForge", "program", "(I)I"⟩, prog_1_method_15_code, 4, some (Jvm.ClassFile.FieldType.int)),
  (⟨"FoldForge$Parser", "parse", "(LFoldForge$Program;[BI)I"⟩, prog_9_method_2_code, 5, some (Jvm.ClassFile.FieldType.int)),
  (⟨"FoldForge$Program", "clear", "()V"⟩, prog_10_method_2_code, 1, none),
  (⟨"FoldForge$Parser", "readTokens", "()V"⟩, prog_9_method_8_code, 2, none),
  (⟨"FoldForge$Parser", "skipBlanks", "()V"⟩, prog_9_method_9_code, 1, none),
  (⟨"FoldForge$Parser", "byteAt", "(I)I"⟩, prog_9_method_5_code, 2, some (Jvm.ClassFile.FieldType.int)),
  (⟨"FoldForge$Parser", "oneToken", "(I)V"⟩, prog_9_method_11_code, 2, none),
  (⟨"FoldForge$Parser", "isLetter", "(I)Z"⟩, prog_9_method_7_code, 1, some (Jvm.ClassFile.FieldType.boolean)),
  (⟨"FoldForge$Parser", "word", "()V"⟩, prog_9_method_13_code, 2, none),
  (⟨"FoldForge$Parser", "isDigit", "(I)Z"⟩, prog_9_method_6_code, 1, some (Jvm.ClassFile.FieldType.boolean)),
  (⟨"java/lang/String", "length", "()I"⟩, prog_19_method_54_code, 1, some (Jvm.ClassFile.FieldType.int)),
  (⟨"java/lang/String", "coder", "()B"⟩, prog_19_method_152_code, 1, some (Jvm.ClassFile.FieldType.byte)),
  (⟨"FoldForge$Parser", "isKeyword", "(I)Z"⟩, prog_9_method_14_code, 4, some (Jvm.ClassFile.FieldType.boolean)),
  (⟨"java/lang/String", "charAt", "(I)C"⟩, prog_19_method_56_code, 2, some (Jvm.ClassFile.FieldType.char)),
  (⟨"java/lang/String", "isLatin1", "()Z"⟩, prog_19_method_154_code, 1, some (Jvm.ClassFile.FieldType.boolean)),
  (⟨"java/lang/StringLatin1", "charAt", "([BI)C"⟩, prog_20_method_2_code, 2, some (Jvm.ClassFile.FieldType.char)),
  (⟨"java/lang/String", "checkIndex", "(II)V"⟩, prog_19_method_155_code, 2, none),
  (⟨"jdk/internal/util/Preconditions", "checkIndex", "(IILjava/util/function/BiFunction;)I"⟩, prog_24_method_11_code, 3, some (Jvm.ClassFile.FieldType.int))]
def fk_ML4 : List fkM := [(⟨"java/lang/StringUTF16", "charAt", "([BI)C"⟩, prog_21_method_83_code, 2, some (Jvm.ClassFile.FieldType.char)),
  (⟨"java/lang/StringUTF16", "checkIndex", "(I[B)V"⟩, prog_21_method_91_code, 2, none),
  (⟨"java/lang/StringUTF16", "length", "([B)I"⟩, prog_21_method_6_code, 1, some (Jvm.ClassFile.FieldType.int)),
  (⟨"java/lang/StringUTF16", "getChar", "([BI)C"⟩, prog_21_method_5_code, 2, some (Jvm.ClassFile.FieldType.char)),
  (⟨"FoldForge$Parser", "number", "()V"⟩, prog_9_method_15_code, 1, none),
  (⟨"FoldForge$Parser", "sign", "(I)V"⟩, prog_9_method_16_code, 3, none),
  (⟨"java/lang/String", "indexOf", "(I)I"⟩, prog_19_method_79_code, 2, some (Jvm.ClassFile.FieldType.int)),
  (⟨"java/lang/String", "indexOf", "(II)I"⟩, prog_19_method_80_code, 3, some (Jvm.ClassFile.FieldType.int)),
  (⟨"java/lang/StringLatin1", "indexOf", "([BIII)I"⟩, prog_20_method_22_code, 4, some (Jvm.ClassFile.FieldType.int)),
  (⟨"java/lang/StringLatin1", "canEncode", "(I)Z"⟩, prog_20_method_4_code, 1, some (Jvm.ClassFile.FieldType.boolean)),
  (⟨"java/lang/StringLatin1", "indexOfChar", "([BIII)I"⟩, prog_20_method_23_code, 6, some (Jvm.ClassFile.FieldType.int)),
  (⟨"java/lang/StringUTF16", "indexOf", "([BIII)I"⟩, prog_21_method_40_code, 4, some (Jvm.ClassFile.FieldType.int)),
  (⟨"java/lang/StringUTF16", "indexOfChar", "([BIII)I"⟩, prog_21_method_47_code, 4, some (Jvm.ClassFile.FieldType.int)),
  (⟨"java/lang/StringUTF16", "checkBoundsBeginEnd", "(II[B)V"⟩, prog_21_method_93_code, 3, none),
  (⟨"java/lang/String", "checkBoundsBeginEnd", "(III)V"⟩, prog_19_method_158_code, 3, none),
  (⟨"jdk/internal/util/Preconditions", "checkFromToIndex", "(IIILjava/util/function/BiFunction;)I"⟩, prog_24_method_12_code, 4, some (Jvm.ClassFile.FieldType.int)),
  (⟨"java/lang/StringUTF16", "indexOfCharUnsafe", "([BIII)I"⟩, prog_21_method_48_code, 5, some (Jvm.ClassFile.FieldType.int)),
  (⟨"java/lang/StringUTF16", "indexOfSupplementary", "([BIII)I"⟩, prog_21_method_49_code, 7, some (Jvm.ClassFile.FieldType.int)),
  (⟨"java/lang/Character", "isValidCodePoint", "(I)Z"⟩, prog_15_method_11_code, 2, some (Jvm.ClassFile.FieldType.boolean)),
  (⟨"java/lang/Character", "highSurrogate", "(I)C"⟩, prog_15_method_28_code, 1, some (Jvm.ClassFile.FieldType.char)),
  (⟨"java/lang/Character", "lowSurrogate", "(I)C"⟩, prog_15_method_29_code, 1, some (Jvm.ClassFile.FieldType.char)),
  (⟨"FoldForge$Parser", "keepToken", "()V"⟩, prog_9_method_10_code, 1, none),
  (⟨"FoldForge$Parser", "advance", "()V"⟩, prog_9_method_12_code, 1, none),
  (⟨"FoldForge$Parser", "fine", "()Z"⟩, prog_9_method_3_code, 1, some (Jvm.ClassFile.FieldType.boolean)),
  (⟨"FoldForge$Parser", "definition", "(I)V"⟩, prog_9_method_19_code, 5, none),
  (⟨"FoldForge$Parser", "expect", "(I)V"⟩, prog_9_method_17_code, 2, none),
  (⟨"FoldForge$Parser", "fail", "()V"⟩, prog_9_method_4_code, 1, none),
  (⟨"FoldForge$Parser", "type", "()I"⟩, prog_9_method_18_code, 2, some (Jvm.ClassFile.FieldType.int)),
  (⟨"FoldForge$Parser", "expression", "(I)V"⟩, prog_9_method_20_code, 2, none),
  (⟨"FoldForge$Parser", "letIn", "(I)V"⟩, prog_9_method_22_code, 4, none),
  (⟨"FoldForge$Program", "add", "(IJII)I"⟩, prog_10_method_3_code, 6, some (Jvm.ClassFile.FieldType.int)),
  (⟨"FoldForge$Parser", "ifElse", "(I)V"⟩, prog_9_method_23_code, 5, none),
  (⟨"FoldForge$Parser", "wanted", "(II)V"⟩, prog_9_method_21_code, 4, none),
  (⟨"FoldForge$Program", "land", "(I)V"⟩, prog_10_method_4_code, 2, none),
  (⟨"FoldForge$Parser", "match", "(I)V"⟩, prog_9_method_24_code, 5, none),
  (⟨"FoldForge$Parser", "bindPart", "(I)V"⟩, prog_9_method_25_code, 2, none),
  (⟨"FoldForge$Parser", "parts", "(II)V"⟩, prog_9_method_27_code, 8, none),
  (⟨"FoldForge$Parser", "atom", "(I)V"⟩, prog_9_method_29_code, 4, none),
  (⟨"FoldForge$Parser", "countAtom", "()V"⟩, prog_9_method_28_code, 1, none),
  (⟨"FoldForge$Parser", "plainAtom", "(I)V"⟩, prog_9_method_30_code, 3, none)]
def fk_ML5 : List fkM := [(⟨"FoldForge$Parser", "nameOrCall", "(I)V"⟩, prog_9_method_32_code, 8, none),
  (⟨"FoldForge$Parser", "pair", "(IIII)V"⟩, prog_9_method_31_code, 5, none),
  (⟨"FoldForge$Parser", "levelOf", "(I)I"⟩, prog_9_method_26_code, 1, some (Jvm.ClassFile.FieldType.int)),
  (⟨"FoldForge$Checker", "faultOf", "(LFoldForge$Program;)I"⟩, prog_2_method_2_code, 3, some (Jvm.ClassFile.FieldType.int)),
  (⟨"FoldForge$Checker", "checkNames", "(I)V"⟩, prog_2_method_4_code, 5, none),
  (⟨"FoldForge$Program", "find", "(J)I"⟩, prog_10_method_5_code, 4, some (Jvm.ClassFile.FieldType.int)),
  (⟨"FoldForge$Checker", "note", "(I)V"⟩, prog_2_method_3_code, 2, none),
  (⟨"FoldForge$Checker", "checkBody", "(I)V"⟩, prog_2_method_5_code, 4, none),
  (⟨"FoldForge$Checker", "push", "(I)V"⟩, prog_2_method_6_code, 2, none),
  (⟨"FoldForge$Checker", "bind", "(JI)V"⟩, prog_2_method_9_code, 4, none),
  (⟨"FoldForge$Checker", "want", "(II)V"⟩, prog_2_method_11_code, 4, none),
  (⟨"FoldForge$Checker", "pop", "()I"⟩, prog_2_method_7_code, 1, some (Jvm.ClassFile.FieldType.int)),
  (⟨"FoldForge$Checker", "check", "(II)V"⟩, prog_2_method_12_code, 3, none),
  (⟨"FoldForge$Checker", "name", "(I)V"⟩, prog_2_method_16_code, 3, none),
  (⟨"FoldForge$Checker", "slotOf", "(J)I"⟩, prog_2_method_10_code, 4, some (Jvm.ClassFile.FieldType.int)),
  (⟨"FoldForge$Checker", "callOf", "(I)V"⟩, prog_2_method_18_code, 3, none),
  (⟨"FoldForge$Checker", "drop", "(I)V"⟩, prog_2_method_8_code, 2, none),
  (⟨"FoldForge$Checker", "actOf", "(I)V"⟩, prog_2_method_19_code, 3, none),
  (⟨"FoldForge$Program", "takesAndGivesInt", "(I)Z"⟩, prog_10_method_6_code, 3, some (Jvm.ClassFile.FieldType.boolean)),
  (⟨"FoldForge$Checker", "pass", "(I)V"⟩, prog_2_method_17_code, 4, none),
  (⟨"FoldForge$Checker", "checkParts", "(II)V"⟩, prog_2_method_13_code, 3, none),
  (⟨"FoldForge$Checker", "endFirstPart", "()V"⟩, prog_2_method_14_code, 2, none),
  (⟨"FoldForge$Checker", "unbind", "(I)V"⟩, prog_2_method_15_code, 3, none),
  (⟨"FoldForge", "call", "(I)I"⟩, prog_1_method_16_code, 2, some (Jvm.ClassFile.FieldType.int)),
  (⟨"FoldForge$Runner", "start", "(LFoldForge$Program;I[J)V"⟩, prog_11_method_2_code, 5, none),
  (⟨"FoldForge$Runner", "push", "(I)V"⟩, prog_11_method_3_code, 2, none),
  (⟨"FoldForge$Runner", "enter", "(II)V"⟩, prog_11_method_6_code, 3, none),
  (⟨"FoldForge$Runner", "step", "(IJ)V"⟩, prog_11_method_8_code, 6, none),
  (⟨"FoldForge$Runner", "operate", "(I)V"⟩, prog_11_method_11_code, 4, none),
  (⟨"FoldForge$Runner", "pop", "()I"⟩, prog_11_method_4_code, 1, some (Jvm.ClassFile.FieldType.int)),
  (⟨"FoldForge$Runner", "divide", "(III)V"⟩, prog_11_method_12_code, 4, none),
  (⟨"FoldForge$Runner", "standing", "(I)I"⟩, prog_11_method_5_code, 2, some (Jvm.ClassFile.FieldType.int)),
  (⟨"FoldForge$Runner", "cons", "()V"⟩, prog_11_method_10_code, 3, none),
  (⟨"FoldForge$Runner", "leave", "()V"⟩, prog_11_method_7_code, 2, none),
  (⟨"FoldForge$Runner", "goOn", "(II)V"⟩, prog_11_method_9_code, 5, none),
  (⟨"FoldForge", "spent", "(I)I"⟩, prog_1_method_17_code, 2, some (Jvm.ClassFile.FieldType.int)),
  (⟨"FoldForgeModel", "<init>", "()V"⟩, prog_14_method_1_code, 1, none),
  (⟨"FoldForgeModel", "feed", "(IIIII)I"⟩, prog_14_method_3_code, 6, some (Jvm.ClassFile.FieldType.int)),
  (⟨"FoldForgeModel", "feeds", "(I)V"⟩, prog_14_method_4_code, 3, none),
  (⟨"FoldForgeModel", "module", "(I)I"⟩, prog_14_method_54_code, 4, some (Jvm.ClassFile.FieldType.int))]
def fk_ML6 : List fkM := [(⟨"FoldForgeModel", "reads", "(I)V"⟩, prog_14_method_16_code, 6, none),
  (⟨"FoldForgeModel", "must", "(I)V"⟩, prog_14_method_9_code, 3, none),
  (⟨"FoldForgeModel", "either", "(II)I"⟩, prog_14_method_8_code, 5, some (Jvm.ClassFile.FieldType.int)),
  (⟨"FoldForgeModel", "next", "()I"⟩, prog_14_method_7_code, 1, some (Jvm.ClassFile.FieldType.int)),
  (⟨"FoldForgeModel", "fails", "(II)V"⟩, prog_14_method_5_code, 3, none),
  (⟨"FoldForgeModel", "sizeOf", "()I"⟩, prog_14_method_15_code, 4, some (Jvm.ClassFile.FieldType.int)),
  (⟨"FoldForgeModel", "u32", "()J"⟩, prog_14_method_10_code, 6, some (Jvm.ClassFile.FieldType.long)),
  (⟨"FoldForgeModel", "here", "()I"⟩, prog_14_method_6_code, 1, some (Jvm.ClassFile.FieldType.int)),
  (⟨"FoldForgeModel", "section", "(I)V"⟩, prog_14_method_17_code, 4, none),
  (⟨"FoldForgeModel", "nameOf", "()I"⟩, prog_14_method_18_code, 3, some (Jvm.ClassFile.FieldType.int)),
  (⟨"FoldForgeModel", "many", "()I"⟩, prog_14_method_13_code, 4, some (Jvm.ClassFile.FieldType.int)),
  (⟨"FoldForgeModel", "thing", "(II)V"⟩, prog_14_method_19_code, 4, none),
  (⟨"FoldForgeModel", "type", "(I)V"⟩, prog_14_method_21_code, 4, none),
  (⟨"FoldForgeModel", "valueType", "()I"⟩, prog_14_method_14_code, 3, some (Jvm.ClassFile.FieldType.int)),
  (⟨"FoldForgeModel", "limits", "(I[J[J)V"⟩, prog_14_method_22_code, 9, none),
  (⟨"FoldForgeModel", "constant", "()I"⟩, prog_14_method_23_code, 3, some (Jvm.ClassFile.FieldType.int)),
  (⟨"FoldForgeModel", "isRefused", "(I)Z"⟩, prog_14_method_25_code, 1, some (Jvm.ClassFile.FieldType.boolean)),
  (⟨"FoldForgeModel", "signed", "(I)J"⟩, prog_14_method_11_code, 9, some (Jvm.ClassFile.FieldType.long)),
  (⟨"FoldForgeModel", "isLikeSign", "(II)Z"⟩, prog_14_method_12_code, 3, some (Jvm.ClassFile.FieldType.boolean)),
  (⟨"FoldForgeModel", "exportOf", "(I)V"⟩, prog_14_method_20_code, 3, none),
  (⟨"FoldForgeModel", "element", "(I)V"⟩, prog_14_method_24_code, 4, none),
  (⟨"FoldForgeModel", "code", "(I)V"⟩, prog_14_method_26_code, 11, none),
  (⟨"FoldForgeModel", "expression", "()V"⟩, prog_14_method_27_code, 5, none),
  (⟨"FoldForgeModel", "operands", "(II)V"⟩, prog_14_method_28_code, 7, none),
  (⟨"FoldForgeModel", "isPlain", "(I)Z"⟩, prog_14_method_29_code, 1, some (Jvm.ClassFile.FieldType.boolean)),
  (⟨"FoldForgeModel", "judge", "()I"⟩, prog_14_method_30_code, 3, some (Jvm.ClassFile.FieldType.int)),
  (⟨"FoldForgeModel", "areExports", "()Z"⟩, prog_14_method_31_code, 5, some (Jvm.ClassFile.FieldType.boolean)),
  (⟨"FoldForgeModel", "isAlike", "(II)Z"⟩, prog_14_method_32_code, 5, some (Jvm.ClassFile.FieldType.boolean)),
  (⟨"FoldForgeModel", "areElements", "()Z"⟩, prog_14_method_33_code, 4, some (Jvm.ClassFile.FieldType.boolean)),
  (⟨"FoldForgeModel", "isCode", "(I)Z"⟩, prog_14_method_43_code, 4, some (Jvm.ClassFile.FieldType.boolean)),
  (⟨"FoldForgeModel", "opens", "(III)V"⟩, prog_14_method_37_code, 4, none),
  (⟨"FoldForgeModel", "judges", "(II)V"⟩, prog_14_method_44_code, 6, none),
  (⟨"FoldForgeModel", "gone", "()V"⟩, prog_14_method_38_code, 1, none),
  (⟨"FoldForgeModel", "popOf", "(I)V"⟩, prog_14_method_36_code, 3, none),
  (⟨"FoldForgeModel", "pop", "()I"⟩, prog_14_method_35_code, 1, some (Jvm.ClassFile.FieldType.int)),
  (⟨"FoldForgeModel", "closes", "()V"⟩, prog_14_method_39_code, 1, none),
  (⟨"FoldForgeModel", "ends", "()V"⟩, prog_14_method_45_code, 3, none),
  (⟨"FoldForgeModel", "push", "(I)V"⟩, prog_14_method_34_code, 2, none),
  (⟨"FoldForgeModel", "isLabel", "(J)Z"⟩, prog_14_method_40_code, 3, some (Jvm.ClassFile.FieldType.boolean)),
  (⟨"FoldForgeModel", "needs", "(J)I"⟩, prog_14_method_41_code, 3, some (Jvm.ClassFile.FieldType.int))]
def fk_ML7 : List fkM := [(⟨"FoldForgeModel", "branches", "()V"⟩, prog_14_method_46_code, 6, none),
  (⟨"FoldForgeModel", "judgesMore", "(I)V"⟩, prog_14_method_48_code, 5, none),
  (⟨"FoldForgeModel", "calls", "(I)V"⟩, prog_14_method_47_code, 3, none),
  (⟨"FoldForgeModel", "variables", "(IJ)V"⟩, prog_14_method_49_code, 5, none),
  (⟨"FoldForgeModel", "localType", "(J)I"⟩, prog_14_method_42_code, 4, some (Jvm.ClassFile.FieldType.int)),
  (⟨"FoldForgeModel", "memories", "(I)V"⟩, prog_14_method_52_code, 6, none),
  (⟨"FoldForgeModel", "bytesOf", "(I)I"⟩, prog_14_method_50_code, 1, some (Jvm.ClassFile.FieldType.int)),
  (⟨"FoldForgeModel", "isWide", "(I)Z"⟩, prog_14_method_51_code, 1, some (Jvm.ClassFile.FieldType.boolean)),
  (⟨"FoldForgeModel", "numbers", "(I)V"⟩, prog_14_method_53_code, 5, none),
  (⟨"FoldForgeModel", "makes", "()V"⟩, prog_14_method_55_code, 4, none),
  (⟨"FoldForgeModel", "place", "()I"⟩, prog_14_method_56_code, 1, some (Jvm.ClassFile.FieldType.int)),
  (⟨"FoldForgeModel", "count", "(I)I"⟩, prog_14_method_57_code, 2, some (Jvm.ClassFile.FieldType.int)),
  (⟨"FoldForgeModel", "export", "(II)I"⟩, prog_14_method_59_code, 5, some (Jvm.ClassFile.FieldType.int)),
  (⟨"FoldForgeModel", "isIn", "(II)Z"⟩, prog_14_method_2_code, 2, some (Jvm.ClassFile.FieldType.boolean)),
  (⟨"FoldForgeModel", "typeOf", "(I)I"⟩, prog_14_method_58_code, 2, some (Jvm.ClassFile.FieldType.int)),
  (⟨"FoldForgeModel", "argument", "(IJ)I"⟩, prog_14_method_60_code, 4, some (Jvm.ClassFile.FieldType.int)),
  (⟨"FoldForgeModel", "run", "(II)I"⟩, prog_14_method_61_code, 6, some (Jvm.ClassFile.FieldType.int)),
  (⟨"FoldForgeModel", "pushes", "(J)V"⟩, prog_14_method_62_code, 3, none),
  (⟨"FoldForgeModel", "enters", "(I)V"⟩, prog_14_method_66_code, 9, none),
  (⟨"FoldForgeModel", "traps", "(I)V"⟩, prog_14_method_65_code, 2, none),
  (⟨"FoldForgeModel", "goesOn", "(II)Z"⟩, prog_14_method_68_code, 5, some (Jvm.ClassFile.FieldType.boolean)),
  (⟨"FoldForgeModel", "jumps", "(II)Z"⟩, prog_14_method_71_code, 11, some (Jvm.ClassFile.FieldType.boolean)),
  (⟨"FoldForgeModel", "pops", "()J"⟩, prog_14_method_63_code, 1, some (Jvm.ClassFile.FieldType.long)),
  (⟨"FoldForgeModel", "branch", "(JI)Z"⟩, prog_14_method_70_code, 10, some (Jvm.ClassFile.FieldType.boolean)),
  (⟨"FoldForgeModel", "blockType", "(I)I"⟩, prog_14_method_67_code, 2, some (Jvm.ClassFile.FieldType.int)),
  (⟨"FoldForgeModel", "popInt", "()I"⟩, prog_14_method_64_code, 1, some (Jvm.ClassFile.FieldType.int)),
  (⟨"FoldForgeModel", "blocksOn", "(II)V"⟩, prog_14_method_69_code, 4, none),
  (⟨"FoldForgeModel", "does", "(II)V"⟩, prog_14_method_72_code, 6, none),
  (⟨"FoldForgeModel", "indirect", "()V"⟩, prog_14_method_73_code, 6, none),
  (⟨"FoldForgeModel", "isSame", "(II)Z"⟩, prog_14_method_74_code, 5, some (Jvm.ClassFile.FieldType.boolean)),
  (⟨"FoldForgeModel", "variable", "(III)V"⟩, prog_14_method_75_code, 4, none),
  (⟨"FoldForgeModel", "memoryOn", "(I)V"⟩, prog_14_method_76_code, 14, none),
  (⟨"FoldForgeModel", "grows", "()V"⟩, prog_14_method_77_code, 5, none),
  (⟨"FoldForgeModel", "bits", "(I)J"⟩, prog_14_method_78_code, 8, some (Jvm.ClassFile.FieldType.long)),
  (⟨"FoldForgeModel", "binary", "(I)V"⟩, prog_14_method_81_code, 11, none),
  (⟨"FoldForgeModel", "compared", "(IJJZ)Z"⟩, prog_14_method_82_code, 10, some (Jvm.ClassFile.FieldType.boolean)),
  (⟨"FoldForgeModel", "isBelow", "(JJ)Z"⟩, prog_14_method_80_code, 4, some (Jvm.ClassFile.FieldType.boolean)),
  (⟨"FoldForgeModel", "reckoned", "(IJJZ)J"⟩, prog_14_method_83_code, 13, some (Jvm.ClassFile.FieldType.long)),
  (⟨"FoldForgeModel", "divided", "(IJJJJZ)J"⟩, prog_14_method_84_code, 11, some (Jvm.ClassFile.FieldType.long)),
  (⟨"FoldForgeModel", "unsigned", "(JJZ)J"⟩, prog_14_method_79_code, 11, some (Jvm.ClassFile.FieldType.long))]
def fk_ML8 : List fkM := [(⟨"FoldForgeModel", "outcome", "(I)J"⟩, prog_14_method_85_code, 2, some (Jvm.ClassFile.FieldType.long)),
  (⟨"FoldForgeModel", "global", "(I)J"⟩, prog_14_method_86_code, 2, some (Jvm.ClassFile.FieldType.long)),
  (⟨"FoldForgeModel", "memory", "(I)I"⟩, prog_14_method_87_code, 2, some (Jvm.ClassFile.FieldType.int)),
  (⟨"FoldForgeModel", "table", "(I)I"⟩, prog_14_method_88_code, 2, some (Jvm.ClassFile.FieldType.int)),
  (⟨"FoldForgeModel", "program", "(I)I"⟩, prog_14_method_126_code, 4, some (Jvm.ClassFile.FieldType.int)),
  (⟨"FoldForgeModel", "scan", "()V"⟩, prog_14_method_92_code, 3, none),
  (⟨"FoldForgeModel", "byteAt", "(I)I"⟩, prog_14_method_91_code, 2, some (Jvm.ClassFile.FieldType.int)),
  (⟨"FoldForgeModel", "isLetter", "(I)Z"⟩, prog_14_method_90_code, 1, some (Jvm.ClassFile.FieldType.boolean)),
  (⟨"FoldForgeModel", "isDigit", "(I)Z"⟩, prog_14_method_89_code, 1, some (Jvm.ClassFile.FieldType.boolean)),
  (⟨"FoldForgeModel", "definition", "()V"⟩, prog_14_method_102_code, 4, none),
  (⟨"FoldForgeModel", "word", "(Ljava/lang/String;)V"⟩, prog_14_method_97_code, 2, none),
  (⟨"FoldForgeModel", "isWord", "(Ljava/lang/String;)Z"⟩, prog_14_method_96_code, 4, some (Jvm.ClassFile.FieldType.boolean)),
  (⟨"FoldForgeModel", "wrong", "(I)V"⟩, prog_14_method_93_code, 2, none),
  (⟨"FoldForgeModel", "name", "()V"⟩, prog_14_method_99_code, 1, none),
  (⟨"FoldForgeModel", "isName", "()Z"⟩, prog_14_method_98_code, 5, some (Jvm.ClassFile.FieldType.boolean)),
  (⟨"FoldForgeModel", "sign", "(I)V"⟩, prog_14_method_95_code, 2, none),
  (⟨"FoldForgeModel", "isSign", "(I)Z"⟩, prog_14_method_94_code, 2, some (Jvm.ClassFile.FieldType.boolean)),
  (⟨"FoldForgeModel", "typeWord", "()I"⟩, prog_14_method_100_code, 2, some (Jvm.ClassFile.FieldType.int)),
  (⟨"FoldForgeModel", "anyE", "()I"⟩, prog_14_method_103_code, 3, some (Jvm.ClassFile.FieldType.int)),
  (⟨"FoldForgeModel", "let", "(I)I"⟩, prog_14_method_104_code, 3, some (Jvm.ClassFile.FieldType.int)),
  (⟨"FoldForgeModel", "node", "(II)I"⟩, prog_14_method_101_code, 4, some (Jvm.ClassFile.FieldType.int)),
  (⟨"FoldForgeModel", "choice", "(I)I"⟩, prog_14_method_105_code, 3, some (Jvm.ClassFile.FieldType.int)),
  (⟨"FoldForgeModel", "match", "(I)I"⟩, prog_14_method_106_code, 3, some (Jvm.ClassFile.FieldType.int)),
  (⟨"FoldForgeModel", "compare", "(I)I"⟩, prog_14_method_108_code, 4, some (Jvm.ClassFile.FieldType.int)),
  (⟨"FoldForgeModel", "sum", "()I"⟩, prog_14_method_109_code, 4, some (Jvm.ClassFile.FieldType.int)),
  (⟨"FoldForgeModel", "product", "()I"⟩, prog_14_method_110_code, 4, some (Jvm.ClassFile.FieldType.int)),
  (⟨"FoldForgeModel", "atom", "()I"⟩, prog_14_method_112_code, 4, some (Jvm.ClassFile.FieldType.int)),
  (⟨"FoldForgeModel", "isRoom", "()Z"⟩, prog_14_method_111_code, 1, some (Jvm.ClassFile.FieldType.boolean)),
  (⟨"FoldForgeModel", "simple", "(I)I"⟩, prog_14_method_113_code, 6, some (Jvm.ClassFile.FieldType.int)),
  (⟨"FoldForgeModel", "two", "(III)I"⟩, prog_14_method_107_code, 5, some (Jvm.ClassFile.FieldType.int)),
  (⟨"FoldForgeModel", "checks", "()V"⟩, prog_14_method_123_code, 3, none),
  (⟨"FoldForgeModel", "isAlikeText", "(IIII)Z"⟩, prog_14_method_115_code, 7, some (Jvm.ClassFile.FieldType.boolean)),
  (⟨"FoldForgeModel", "faultAt", "(I)V"⟩, prog_14_method_114_code, 2, none),
  (⟨"FoldForgeModel", "placeOf", "(II)I"⟩, prog_14_method_117_code, 4, some (Jvm.ClassFile.FieldType.int)),
  (⟨"FoldForgeModel", "binds", "(III)V"⟩, prog_14_method_118_code, 4, none),
  (⟨"FoldForgeModel", "expects", "(III)V"⟩, prog_14_method_120_code, 5, none),
  (⟨"FoldForgeModel", "check", "(I)I"⟩, prog_14_method_121_code, 8, some (Jvm.ClassFile.FieldType.int)),
  (⟨"FoldForgeModel", "checkCall", "(I)I"⟩, prog_14_method_122_code, 5, some (Jvm.ClassFile.FieldType.int)),
  (⟨"FoldForgeModel", "functionOf", "(II)I"⟩, prog_14_method_116_code, 4, some (Jvm.ClassFile.FieldType.int)),
  (⟨"FoldForgeModel", "isAct", "(I)Z"⟩, prog_14_method_119_code, 2, some (Jvm.ClassFile.FieldType.boolean))]
def fk_ML9 : List fkM := [(⟨"FoldForgeModel", "turns", "(I)V"⟩, prog_14_method_125_code, 5, none),
  (⟨"FoldForgeModel", "lays", "(III)I"⟩, prog_14_method_124_code, 4, some (Jvm.ClassFile.FieldType.int)),
  (⟨"FoldForgeModel", "call", "(I)I"⟩, prog_14_method_128_code, 3, some (Jvm.ClassFile.FieldType.int)),
  (⟨"FoldForgeModel", "begins", "(I)V"⟩, prog_14_method_127_code, 3, none),
  (⟨"FoldForgeModel", "one", "()V"⟩, prog_14_method_129_code, 7, none),
  (⟨"FoldForgeModel", "signOf", "(III)I"⟩, prog_14_method_131_code, 4, some (Jvm.ClassFile.FieldType.int)),
  (⟨"FoldForgeModel", "pairUp", "()V"⟩, prog_14_method_130_code, 1, none),
  (⟨"FoldForgeModel", "spent", "(I)I"⟩, prog_14_method_132_code, 2, some (Jvm.ClassFile.FieldType.int))]
def fk_ML : List fkM := fk_ML0 ++ (fk_ML1 ++ (fk_ML2 ++ (fk_ML3 ++ (fk_ML4 ++ (fk_ML5 ++ (fk_ML6 ++ (fk_ML7 ++ (fk_ML8 ++ (fk_ML9)))))))))
/-- method j: its name, bytes, locals, answer -/
def fk_M (j : Nat) : fkM := fk_ML.getD j fk_d0
abbrev fk_cw (j : Nat) : Cond := .code (fk_M j).1 (fk_M j).2.1 (fk_M j).2.2.1 (fk_M j).2.2.2
theorem fk_in1 {w : Cond} (h : w ∈ tables_1_1) : w ∈ lw_tbl := List.mem_append_right _ (show w ∈ tables_1 from List.mem_append_left _ h)
theorem fk_in2 {w : Cond} (h : w ∈ tables_1_2) : w ∈ lw_tbl := List.mem_append_right _ (show w ∈ tables_1 from List.mem_append_right _ (List.mem_append_left _ h))
theorem fk_in3 {w : Cond} (h : w ∈ tables_1_3) : w ∈ lw_tbl := List.mem_append_right _ (show w ∈ tables_1 from List.mem_append_right _ (List.mem_append_right _ (List.mem_append_left _ h)))
theorem fk_in4 {w : Cond} (h : w ∈ tables_1_4) : w ∈ lw_tbl := List.mem_append_right _ (show w ∈ tables_1 from List.mem_append_right _ (List.mem_append_right _ (List.mem_append_right _ (List.mem_append_left _ h))))
theorem fk_in5 {w : Cond} (h : w ∈ tables_1_5) : w ∈ lw_tbl := List.mem_append_right _ (show w ∈ tables_1 from List.mem_append_right _ (List.mem_append_right _ (List.mem_append_right _ (List.mem_append_right _ (List.mem_append_left _ h)))))
theorem fk_in6 {w : Cond} (h : w ∈ tables_1_6) : w ∈ lw_tbl := List.mem_append_right _ (show w ∈ tables_1 from List.mem_append_right _ (List.mem_append_right _ (List.mem_append_right _ (List.mem_append_right _ (List.mem_append_right _ (List.mem_append_left _ h))))))
theorem fk_in7 {w : Cond} (h : w ∈ tables_1_7) : w ∈ lw_tbl := List.mem_append_right _ (show w ∈ tables_1 from List.mem_append_right _ (List.mem_append_right _ (List.mem_append_right _ (List.mem_append_right _ (List.mem_append_right _ (List.mem_append_right _ (List.mem_append_left _ h)))))))
theorem fk_in8 {w : Cond} (h : w ∈ tables_1_8) : w ∈ lw_tbl := List.mem_append_right _ (show w ∈ tables_1 from List.mem_append_right _ (List.mem_append_right _ (List.mem_append_right _ (List.mem_append_right _ (List.mem_append_right _ (List.mem_append_right _ (List.mem_append_right _ (List.mem_append_left _ h))))))))
theorem fk_in9 {w : Cond} (h : w ∈ tables_1_9) : w ∈ lw_tbl := List.mem_append_right _ (show w ∈ tables_1 from List.mem_append_right _ (List.mem_append_right _ (List.mem_append_right _ (List.mem_append_right _ (List.mem_append_right _ (List.mem_append_right _ (List.mem_append_right _ (List.mem_append_right _ (List.mem_append_left _ h)))))))))
theorem fk_in10 {w : Cond} (h : w ∈ tables_1_10) : w ∈ lw_tbl := List.mem_append_right _ (show w ∈ tables_1 from List.mem_append_right _ (List.mem_append_right _ (List.mem_append_right _ (List.mem_append_right _ (List.mem_append_right _ (List.mem_append_right _ (List.mem_append_right _ (List.mem_append_right _ (List.mem_append_right _ (List.mem_append_left _ h))))))))))
theorem fk_in11 {w : Cond} (h : w ∈ tables_1_11) : w ∈ lw_tbl := List.mem_append_right _ (show w ∈ tables_1 from List.mem_append_right _ (List.mem_append_right _ (List.mem_append_right _ (List.mem_append_right _ (List.mem_append_right _ (List.mem_append_right _ (List.mem_append_right _ (List.mem_append_right _ (List.mem_append_right _ (List.mem_append_right _ (h)))))))))))
theorem fk_cls0 : ("FoldForge" ≠ "java/lang/invoke/MethodHandle" ∧ "FoldForge" ≠ "java/lang/invoke/VarHandle") ∧ plainName "FoldForge" = true := by decide +kernel
theorem fk_cls1 : ("FoldForge$ModuleRows" ≠ "java/lang/invoke/MethodHandle" ∧ "FoldForge$ModuleRows" ≠ "java/lang/invoke/VarHandle") ∧ plainName "FoldForge$ModuleRows" = true := by decide +kernel
theorem fk_cls2 : ("FoldForge$CodeRows" ≠ "java/lang/invoke/MethodHandle" ∧ "FoldForge$CodeRows" ≠ "java/lang/invoke/VarHandle") ∧ plainName "FoldForge$CodeRows" = true := by decide +kernel
theorem fk_cls3 : ("FoldForge$ModuleReader" ≠ "java/lang/invoke/MethodHandle" ∧ "FoldForge$ModuleReader" ≠ "java/lang/invoke/VarHandle") ∧ plainName "FoldForge$ModuleReader" = true := by decide +kernel
theorem fk_cls4 : ("FoldForge$Scan" ≠ "java/lang/invoke/MethodHandle" ∧ "FoldForge$Scan" ≠ "java/lang/invoke/VarHandle") ∧ plainName "FoldForge$Scan" = true := by decide +kernel
theorem fk_cls5 : ("FoldForge$CodeReader" ≠ "java/lang/invoke/MethodHandle" ∧ "FoldForge$CodeReader" ≠ "java/lang/invoke/VarHandle") ∧ plainName "FoldForge$CodeReader" = true := by decide +kernel
theorem fk_cls6 : ("FoldForge$Judge" ≠ "java/lang/invoke/MethodHandle" ∧ "FoldForge$Judge" ≠ "java/lang/invoke/VarHandle") ∧ plainName "FoldForge$Judge" = true := by decide +kernel
theorem fk_cls7 : ("FoldForge$Machine" ≠ "java/lang/invoke/MethodHandle" ∧ "FoldForge$Machine" ≠ "java/lang/invoke/VarHandle") ∧ plainName "FoldForge$Machine" = true := by decide +kernel
theorem fk_cls8 : ("FoldForge$Program" ≠ "java/lang/invoke/MethodHandle" ∧ "FoldForge$Program" ≠ "java/lang/invoke/VarHandle") ∧ plainName "FoldForge$Program" = true := by decide +kernel
theorem fk_cls9 : ("FoldForge$Parser" ≠ "java/lang/invoke/MethodHandle" ∧ "FoldForge$Parser" ≠ "java/lang/invoke/VarHandle") ∧ plainName "FoldForge$Parser" = true := by decide +kernel
theorem fk_cls10 : ("FoldForge$Checker" ≠ "java/lang/invoke/MethodHandle" ∧ "FoldForge$Checker" ≠ "java/lang/invoke/VarHandle") ∧ plainName "FoldForge$Checker" = true := by decide +kernel
theorem fk_cls11 : ("FoldForge$Runner" ≠ "java/lang/invoke/MethodHandle" ∧ "FoldForge$Runner" ≠ "java/lang/invoke/VarHandle") ∧ plainName "FoldForge$Runner" = true := by decide +kernel
theorem fk_cls12 : ("java/util/Arrays" ≠ "java/lang/invoke/MethodHandle" ∧ "java/util/Arrays" ≠ "java/lang/invoke/VarHandle") ∧ plainName "java/util/Arrays" = true := by decide +kernel
theorem fk_cls13 : ("java/lang/Integer" ≠ "java/lang/invoke/MethodHandle" ∧ "java/lang/Integer" ≠ "java/lang/invoke/VarHandle") ∧ plainName "java/lang/Integer" = true := by decide +kernel
theorem fk_cls14 : ("java/lang/Long" ≠ "java/lang/invoke/MethodHandle" ∧ "java/lang/Long" ≠ "java/lang/invoke/VarHandle") ∧ plainName "java/lang/Long" = true := by decide +kernel
theorem fk_cls15 : ("java/lang/String" ≠ "java/lang/invoke/MethodHandle" ∧ "java/lang/String" ≠ "java/lang/invoke/VarHandle") ∧ plainName "java/lang/String" = true := by decide +kernel
theorem fk_cls16 : ("java/lang/StringLatin1" ≠ "java/lang/invoke/MethodHandle" ∧ "java/lang/StringLatin1" ≠ "java/lang/invoke/VarHandle") ∧ plainName "java/lang/StringLatin1" = true := by decide +kernel
theorem fk_cls17 : ("jdk/internal/util/Preconditions" ≠ "java/lang/invoke/MethodHandle" ∧ "jdk/internal/util/Preconditions" ≠ "java/lang/invoke/VarHandle") ∧ plainName "jdk/internal/util/Preconditions" = true := by decide +kernel
theorem fk_cls18 : ("java/lang/StringUTF16" ≠ "java/lang/invoke/MethodHandle" ∧ "java/lang/StringUTF16" ≠ "java/lang/invoke/VarHandle") ∧ plainName "java/lang/StringUTF16" = true := by decide +kernel
theorem fk_cls19 : ("java/lang/Character" ≠ "java/lang/invoke/MethodHandle" ∧ "java/lang/Character" ≠ "java/lang/invoke/VarHandle") ∧ plainName "java/lang/Character" = true := by decide +kernel
theorem fk_cls20 : ("FoldForgeModel" ≠ "java/lang/invoke/MethodHandle" ∧ "FoldForgeModel" ≠ "java/lang/invoke/VarHandle") ∧ plainName "FoldForgeModel" = true := by decide +kernel
abbrev fk_mok (j : Nat) : Prop := fk_cw j ∈ lw_tbl ∧ Cond.initialized (fk_M j).1.cls ∈ lw_tbl ∧ ((fk_M j).1.cls ≠ "java/lang/invoke/MethodHandle" ∧ (fk_M j).1.cls ≠ "java/lang/invoke/VarHandle") ∧ plainName (fk_M j).1.cls = true
set_option maxRecDepth 100000 in
theorem fk_q0 : fk_mok 0 := ⟨fk_in1 (List.mem_of_getElem? (i := 28) rfl), fk_in1 (List.mem_of_getElem? (i := 1) rfl), fk_cls0⟩
set_option maxRecDepth 100000 in
theorem fk_q2 : fk_mok 2 := ⟨fk_in1 (List.mem_of_getElem? (i := 36) rfl), fk_in1 (List.mem_of_getElem? (i := 2) rfl), fk_cls1⟩
set_option maxRecDepth 100000 in
theorem fk_q3 : fk_mok 3 := ⟨fk_in1 (List.mem_of_getElem? (i := 42) rfl), fk_in1 (List.mem_of_getElem? (i := 3) rfl), fk_cls2⟩
set_option maxRecDepth 100000 in
theorem fk_q4 : fk_mok 4 := ⟨fk_in1 (List.mem_of_getElem? (i := 233) rfl), fk_in1 (List.mem_of_getElem? (i := 4) rfl), fk_cls3⟩
set_option maxRecDepth 100000 in
theorem fk_q5 : fk_mok 5 := ⟨fk_in1 (List.mem_of_getElem? (i := 239) rfl), fk_in1 (List.mem_of_getElem? (i := 5) rfl), fk_cls4⟩
set_option maxRecDepth 100000 in
theorem fk_q6 : fk_mok 6 := ⟨fk_in2 (List.mem_of_getElem? (i := 28) rfl), fk_in1 (List.mem_of_getElem? (i := 6) rfl), fk_cls5⟩
set_option maxRecDepth 100000 in
theorem fk_q7 : fk_mok 7 := ⟨fk_in2 (List.mem_of_getElem? (i := 52) rfl), fk_in1 (List.mem_of_getElem? (i := 7) rfl), fk_cls6⟩
set_option maxRecDepth 100000 in
theorem fk_q8 : fk_mok 8 := ⟨fk_in2 (List.mem_of_getElem? (i := 93) rfl), fk_in1 (List.mem_of_getElem? (i := 8) rfl), fk_cls7⟩
set_option maxRecDepth 100000 in
theorem fk_q9 : fk_mok 9 := ⟨fk_in2 (List.mem_of_getElem? (i := 158) rfl), fk_in1 (List.mem_of_getElem? (i := 9) rfl), fk_cls8⟩
set_option maxRecDepth 100000 in
theorem fk_q10 : fk_mok 10 := ⟨fk_in2 (List.mem_of_getElem? (i := 237) rfl), fk_in1 (List.mem_of_getElem? (i := 10) rfl), fk_cls9⟩
set_option maxRecDepth 100000 in
theorem fk_q11 : fk_mok 11 := ⟨fk_in3 (List.mem_of_getElem? (i := 46) rfl), fk_in1 (List.mem_of_getElem? (i := 11) rfl), fk_cls10⟩
set_option maxRecDepth 100000 in
theorem fk_q12 : fk_mok 12 := ⟨fk_in3 (List.mem_of_getElem? (i := 80) rfl), fk_in1 (List.mem_of_getElem? (i := 12) rfl), fk_cls11⟩
set_option maxRecDepth 100000 in
theorem fk_q13 : fk_mok 13 := ⟨fk_in3 (List.mem_of_getElem? (i := 188) rfl), fk_in1 (List.mem_of_getElem? (i := 1) rfl), fk_cls0⟩
set_option maxRecDepth 100000 in
theorem fk_q14 : fk_mok 14 := ⟨fk_in3 (List.mem_of_getElem? (i := 192) rfl), fk_in1 (List.mem_of_getElem? (i := 1) rfl), fk_cls0⟩
set_option maxRecDepth 100000 in
theorem fk_q15 : fk_mok 15 := ⟨fk_in3 (List.mem_of_getElem? (i := 196) rfl), fk_in1 (List.mem_of_getElem? (i := 1) rfl), fk_cls0⟩
set_option maxRecDepth 100000 in
theorem fk_q16 : fk_mok 16 := ⟨fk_in3 (List.mem_of_getElem? (i := 200) rfl), fk_in1 (List.mem_of_getElem? (i := 4) rfl), fk_cls3⟩
set_option maxRecDepth 100000 in
theorem fk_q17 : fk_mok 17 := ⟨fk_in3 (List.mem_of_getElem? (i := 204) rfl), fk_in1 (List.mem_of_getElem? (i := 2) rfl), fk_cls1⟩
set_option maxRecDepth 100000 in
theorem fk_q18 : fk_mok 18 := ⟨fk_in3 (List.mem_of_getElem? (i := 211) rfl), fk_in1 (List.mem_of_getElem? (i := 5) rfl), fk_cls4⟩
set_option maxRecDepth 100000 in
theorem fk_q20 : fk_mok 20 := ⟨fk_in3 (List.mem_of_getElem? (i := 220) rfl), fk_in1 (List.mem_of_getElem? (i := 5) rfl), fk_cls4⟩
set_option maxRecDepth 100000 in
theorem fk_q21 : fk_mok 21 := ⟨fk_in3 (List.mem_of_getElem? (i := 224) rfl), fk_in1 (List.mem_of_getElem? (i := 5) rfl), fk_cls4⟩
set_option maxRecDepth 100000 in
theorem fk_q22 : fk_mok 22 := ⟨fk_in3 (List.mem_of_getElem? (i := 228) rfl), fk_in1 (List.mem_of_getElem? (i := 5) rfl), fk_cls4⟩
set_option maxRecDepth 100000 in
theorem fk_q23 : fk_mok 23 := ⟨fk_in3 (List.mem_of_getElem? (i := 232) rfl), fk_in1 (List.mem_of_getElem? (i := 4) rfl), fk_cls3⟩
set_option maxRecDepth 100000 in
theorem fk_q24 : fk_mok 24 := ⟨fk_in3 (List.mem_of_getElem? (i := 236) rfl), fk_in1 (List.mem_of_getElem? (i := 5) rfl), fk_cls4⟩
set_option maxRecDepth 100000 in
theorem fk_q25 : fk_mok 25 := ⟨fk_in4 (List.mem_of_getElem? (i := 1) rfl), fk_in1 (List.mem_of_getElem? (i := 5) rfl), fk_cls4⟩
set_option maxRecDepth 100000 in
theorem fk_q26 : fk_mok 26 := ⟨fk_in4 (List.mem_of_getElem? (i := 5) rfl), fk_in1 (List.mem_of_getElem? (i := 5) rfl), fk_cls4⟩
set_option maxRecDepth 100000 in
theorem fk_q27 : fk_mok 27 := ⟨fk_in4 (List.mem_of_getElem? (i := 9) rfl), fk_in1 (List.mem_of_getElem? (i := 6) rfl), fk_cls5⟩
set_option maxRecDepth 100000 in
theorem fk_q28 : fk_mok 28 := ⟨fk_in4 (List.mem_of_getElem? (i := 14) rfl), fk_in1 (List.mem_of_getElem? (i := 5) rfl), fk_cls4⟩
set_option maxRecDepth 100000 in
theorem fk_q29 : fk_mok 29 := ⟨fk_in4 (List.mem_of_getElem? (i := 20) rfl), fk_in1 (List.mem_of_getElem? (i := 6) rfl), fk_cls5⟩
set_option maxRecDepth 100000 in
theorem fk_q30 : fk_mok 30 := ⟨fk_in4 (List.mem_of_getElem? (i := 27) rfl), fk_in1 (List.mem_of_getElem? (i := 5) rfl), fk_cls4⟩
set_option maxRecDepth 100000 in
theorem fk_q31 : fk_mok 31 := ⟨fk_in4 (List.mem_of_getElem? (i := 32) rfl), fk_in1 (List.mem_of_getElem? (i := 6) rfl), fk_cls5⟩
set_option maxRecDepth 100000 in
theorem fk_q32 : fk_mok 32 := ⟨fk_in4 (List.mem_of_getElem? (i := 37) rfl), fk_in1 (List.mem_of_getElem? (i := 6) rfl), fk_cls5⟩
set_option maxRecDepth 100000 in
theorem fk_q33 : fk_mok 33 := ⟨fk_in4 (List.mem_of_getElem? (i := 41) rfl), fk_in1 (List.mem_of_getElem? (i := 3) rfl), fk_cls2⟩
set_option maxRecDepth 100000 in
theorem fk_q34 : fk_mok 34 := ⟨fk_in4 (List.mem_of_getElem? (i := 45) rfl), fk_in1 (List.mem_of_getElem? (i := 6) rfl), fk_cls5⟩
set_option maxRecDepth 100000 in
theorem fk_q35 : fk_mok 35 := ⟨fk_in4 (List.mem_of_getElem? (i := 49) rfl), fk_in1 (List.mem_of_getElem? (i := 6) rfl), fk_cls5⟩
set_option maxRecDepth 100000 in
theorem fk_q36 : fk_mok 36 := ⟨fk_in4 (List.mem_of_getElem? (i := 52) rfl), fk_in1 (List.mem_of_getElem? (i := 6) rfl), fk_cls5⟩
set_option maxRecDepth 100000 in
theorem fk_q37 : fk_mok 37 := ⟨fk_in4 (List.mem_of_getElem? (i := 55) rfl), fk_in1 (List.mem_of_getElem? (i := 6) rfl), fk_cls5⟩
set_option maxRecDepth 100000 in
theorem fk_q38 : fk_mok 38 := ⟨fk_in4 (List.mem_of_getElem? (i := 59) rfl), fk_in1 (List.mem_of_getElem? (i := 6) rfl), fk_cls5⟩
set_option maxRecDepth 100000 in
theorem fk_q39 : fk_mok 39 := ⟨fk_in4 (List.mem_of_getElem? (i := 63) rfl), fk_in1 (List.mem_of_getElem? (i := 3) rfl), fk_cls2⟩
set_option maxRecDepth 100000 in
theorem fk_q40 : fk_mok 40 := ⟨fk_in4 (List.mem_of_getElem? (i := 67) rfl), fk_in1 (List.mem_of_getElem? (i := 6) rfl), fk_cls5⟩
set_option maxRecDepth 100000 in
theorem fk_q41 : fk_mok 41 := ⟨fk_in4 (List.mem_of_getElem? (i := 70) rfl), fk_in1 (List.mem_of_getElem? (i := 6) rfl), fk_cls5⟩
set_option maxRecDepth 100000 in
theorem fk_q42 : fk_mok 42 := ⟨fk_in4 (List.mem_of_getElem? (i := 74) rfl), fk_in1 (List.mem_of_getElem? (i := 6) rfl), fk_cls5⟩
set_option maxRecDepth 100000 in
theorem fk_q43 : fk_mok 43 := ⟨fk_in4 (List.mem_of_getElem? (i := 79) rfl), fk_in1 (List.mem_of_getElem? (i := 5) rfl), fk_cls4⟩
set_option maxRecDepth 100000 in
theorem fk_q46 : fk_mok 46 := ⟨fk_in4 (List.mem_of_getElem? (i := 91) rfl), fk_in1 (List.mem_of_getElem? (i := 5) rfl), fk_cls4⟩
set_option maxRecDepth 100000 in
theorem fk_q47 : fk_mok 47 := ⟨fk_in4 (List.mem_of_getElem? (i := 95) rfl), fk_in1 (List.mem_of_getElem? (i := 4) rfl), fk_cls3⟩
set_option maxRecDepth 100000 in
theorem fk_q48 : fk_mok 48 := ⟨fk_in4 (List.mem_of_getElem? (i := 99) rfl), fk_in1 (List.mem_of_getElem? (i := 4) rfl), fk_cls3⟩
set_option maxRecDepth 100000 in
theorem fk_q49 : fk_mok 49 := ⟨fk_in4 (List.mem_of_getElem? (i := 105) rfl), fk_in1 (List.mem_of_getElem? (i := 4) rfl), fk_cls3⟩
set_option maxRecDepth 100000 in
theorem fk_q50 : fk_mok 50 := ⟨fk_in4 (List.mem_of_getElem? (i := 109) rfl), fk_in1 (List.mem_of_getElem? (i := 4) rfl), fk_cls3⟩
set_option maxRecDepth 100000 in
theorem fk_q51 : fk_mok 51 := ⟨fk_in4 (List.mem_of_getElem? (i := 114) rfl), fk_in1 (List.mem_of_getElem? (i := 4) rfl), fk_cls3⟩
set_option maxRecDepth 100000 in
theorem fk_q52 : fk_mok 52 := ⟨fk_in4 (List.mem_of_getElem? (i := 119) rfl), fk_in1 (List.mem_of_getElem? (i := 4) rfl), fk_cls3⟩
set_option maxRecDepth 100000 in
theorem fk_q53 : fk_mok 53 := ⟨fk_in4 (List.mem_of_getElem? (i := 123) rfl), fk_in1 (List.mem_of_getElem? (i := 4) rfl), fk_cls3⟩
set_option maxRecDepth 100000 in
theorem fk_q54 : fk_mok 54 := ⟨fk_in4 (List.mem_of_getElem? (i := 128) rfl), fk_in1 (List.mem_of_getElem? (i := 4) rfl), fk_cls3⟩
set_option maxRecDepth 100000 in
theorem fk_q55 : fk_mok 55 := ⟨fk_in4 (List.mem_of_getElem? (i := 133) rfl), fk_in1 (List.mem_of_getElem? (i := 4) rfl), fk_cls3⟩
set_option maxRecDepth 100000 in
theorem fk_q56 : fk_mok 56 := ⟨fk_in4 (List.mem_of_getElem? (i := 137) rfl), fk_in1 (List.mem_of_getElem? (i := 4) rfl), fk_cls3⟩
set_option maxRecDepth 100000 in
theorem fk_q57 : fk_mok 57 := ⟨fk_in4 (List.mem_of_getElem? (i := 142) rfl), fk_in1 (List.mem_of_getElem? (i := 7) rfl), fk_cls6⟩
set_option maxRecDepth 100000 in
theorem fk_q58 : fk_mok 58 := ⟨fk_in4 (List.mem_of_getElem? (i := 146) rfl), fk_in1 (List.mem_of_getElem? (i := 7) rfl), fk_cls6⟩
set_option maxRecDepth 100000 in
theorem fk_q59 : fk_mok 59 := ⟨fk_in4 (List.mem_of_getElem? (i := 150) rfl), fk_in1 (List.mem_of_getElem? (i := 7) rfl), fk_cls6⟩
set_option maxRecDepth 100000 in
theorem fk_q60 : fk_mok 60 := ⟨fk_in4 (List.mem_of_getElem? (i := 154) rfl), fk_in1 (List.mem_of_getElem? (i := 7) rfl), fk_cls6⟩
set_option maxRecDepth 100000 in
theorem fk_q61 : fk_mok 61 := ⟨fk_in4 (List.mem_of_getElem? (i := 158) rfl), fk_in1 (List.mem_of_getElem? (i := 7) rfl), fk_cls6⟩
set_option maxRecDepth 100000 in
theorem fk_q62 : fk_mok 62 := ⟨fk_in4 (List.mem_of_getElem? (i := 162) rfl), fk_in1 (List.mem_of_getElem? (i := 2) rfl), fk_cls1⟩
set_option maxRecDepth 100000 in
theorem fk_q63 : fk_mok 63 := ⟨fk_in4 (List.mem_of_getElem? (i := 166) rfl), fk_in1 (List.mem_of_getElem? (i := 2) rfl), fk_cls1⟩
set_option maxRecDepth 100000 in
theorem fk_q64 : fk_mok 64 := ⟨fk_in4 (List.mem_of_getElem? (i := 170) rfl), fk_in1 (List.mem_of_getElem? (i := 7) rfl), fk_cls6⟩
set_option maxRecDepth 100000 in
theorem fk_q65 : fk_mok 65 := ⟨fk_in4 (List.mem_of_getElem? (i := 174) rfl), fk_in1 (List.mem_of_getElem? (i := 7) rfl), fk_cls6⟩
set_option maxRecDepth 100000 in
theorem fk_q66 : fk_mok 66 := ⟨fk_in4 (List.mem_of_getElem? (i := 178) rfl), fk_in1 (List.mem_of_getElem? (i := 7) rfl), fk_cls6⟩
set_option maxRecDepth 100000 in
theorem fk_q67 : fk_mok 67 := ⟨fk_in4 (List.mem_of_getElem? (i := 182) rfl), fk_in1 (List.mem_of_getElem? (i := 7) rfl), fk_cls6⟩
set_option maxRecDepth 100000 in
theorem fk_q68 : fk_mok 68 := ⟨fk_in4 (List.mem_of_getElem? (i := 186) rfl), fk_in1 (List.mem_of_getElem? (i := 2) rfl), fk_cls1⟩
set_option maxRecDepth 100000 in
theorem fk_q69 : fk_mok 69 := ⟨fk_in4 (List.mem_of_getElem? (i := 190) rfl), fk_in1 (List.mem_of_getElem? (i := 7) rfl), fk_cls6⟩
set_option maxRecDepth 100000 in
theorem fk_q70 : fk_mok 70 := ⟨fk_in4 (List.mem_of_getElem? (i := 194) rfl), fk_in1 (List.mem_of_getElem? (i := 7) rfl), fk_cls6⟩
set_option maxRecDepth 100000 in
theorem fk_q71 : fk_mok 71 := ⟨fk_in4 (List.mem_of_getElem? (i := 198) rfl), fk_in1 (List.mem_of_getElem? (i := 7) rfl), fk_cls6⟩
set_option maxRecDepth 100000 in
theorem fk_q72 : fk_mok 72 := ⟨fk_in4 (List.mem_of_getElem? (i := 202) rfl), fk_in1 (List.mem_of_getElem? (i := 7) rfl), fk_cls6⟩
set_option maxRecDepth 100000 in
theorem fk_q73 : fk_mok 73 := ⟨fk_in4 (List.mem_of_getElem? (i := 206) rfl), fk_in1 (List.mem_of_getElem? (i := 7) rfl), fk_cls6⟩
set_option maxRecDepth 100000 in
theorem fk_q74 : fk_mok 74 := ⟨fk_in4 (List.mem_of_getElem? (i := 210) rfl), fk_in1 (List.mem_of_getElem? (i := 7) rfl), fk_cls6⟩
set_option maxRecDepth 100000 in
theorem fk_q75 : fk_mok 75 := ⟨fk_in4 (List.mem_of_getElem? (i := 214) rfl), fk_in1 (List.mem_of_getElem? (i := 7) rfl), fk_cls6⟩
set_option maxRecDepth 100000 in
theorem fk_q76 : fk_mok 76 := ⟨fk_in4 (List.mem_of_getElem? (i := 218) rfl), fk_in1 (List.mem_of_getElem? (i := 7) rfl), fk_cls6⟩
set_option maxRecDepth 100000 in
theorem fk_q77 : fk_mok 77 := ⟨fk_in4 (List.mem_of_getElem? (i := 222) rfl), fk_in1 (List.mem_of_getElem? (i := 7) rfl), fk_cls6⟩
set_option maxRecDepth 100000 in
theorem fk_q78 : fk_mok 78 := ⟨fk_in4 (List.mem_of_getElem? (i := 226) rfl), fk_in1 (List.mem_of_getElem? (i := 7) rfl), fk_cls6⟩
set_option maxRecDepth 100000 in
theorem fk_q79 : fk_mok 79 := ⟨fk_in4 (List.mem_of_getElem? (i := 230) rfl), fk_in1 (List.mem_of_getElem? (i := 7) rfl), fk_cls6⟩
set_option maxRecDepth 100000 in
theorem fk_q80 : fk_mok 80 := ⟨fk_in4 (List.mem_of_getElem? (i := 234) rfl), fk_in1 (List.mem_of_getElem? (i := 7) rfl), fk_cls6⟩
set_option maxRecDepth 100000 in
theorem fk_q81 : fk_mok 81 := ⟨fk_in4 (List.mem_of_getElem? (i := 238) rfl), fk_in1 (List.mem_of_getElem? (i := 7) rfl), fk_cls6⟩
set_option maxRecDepth 100000 in
theorem fk_q82 : fk_mok 82 := ⟨fk_in5 (List.mem_of_getElem? (i := 2) rfl), fk_in1 (List.mem_of_getElem? (i := 7) rfl), fk_cls6⟩
set_option maxRecDepth 100000 in
theorem fk_q83 : fk_mok 83 := ⟨fk_in5 (List.mem_of_getElem? (i := 6) rfl), fk_in1 (List.mem_of_getElem? (i := 3) rfl), fk_cls2⟩
set_option maxRecDepth 100000 in
theorem fk_q84 : fk_mok 84 := ⟨fk_in5 (List.mem_of_getElem? (i := 10) rfl), fk_in1 (List.mem_of_getElem? (i := 7) rfl), fk_cls6⟩
set_option maxRecDepth 100000 in
theorem fk_q85 : fk_mok 85 := ⟨fk_in5 (List.mem_of_getElem? (i := 14) rfl), fk_in1 (List.mem_of_getElem? (i := 7) rfl), fk_cls6⟩
set_option maxRecDepth 100000 in
theorem fk_q86 : fk_mok 86 := ⟨fk_in5 (List.mem_of_getElem? (i := 18) rfl), fk_in1 (List.mem_of_getElem? (i := 2) rfl), fk_cls1⟩
set_option maxRecDepth 100000 in
theorem fk_q87 : fk_mok 87 := ⟨fk_in5 (List.mem_of_getElem? (i := 22) rfl), fk_in1 (List.mem_of_getElem? (i := 2) rfl), fk_cls1⟩
set_option maxRecDepth 100000 in
theorem fk_q88 : fk_mok 88 := ⟨fk_in5 (List.mem_of_getElem? (i := 26) rfl), fk_in1 (List.mem_of_getElem? (i := 7) rfl), fk_cls6⟩
set_option maxRecDepth 100000 in
theorem fk_q89 : fk_mok 89 := ⟨fk_in5 (List.mem_of_getElem? (i := 30) rfl), fk_in1 (List.mem_of_getElem? (i := 7) rfl), fk_cls6⟩
set_option maxRecDepth 100000 in
theorem fk_q90 : fk_mok 90 := ⟨fk_in5 (List.mem_of_getElem? (i := 34) rfl), fk_in1 (List.mem_of_getElem? (i := 7) rfl), fk_cls6⟩
set_option maxRecDepth 100000 in
theorem fk_q91 : fk_mok 91 := ⟨fk_in5 (List.mem_of_getElem? (i := 38) rfl), fk_in1 (List.mem_of_getElem? (i := 7) rfl), fk_cls6⟩
set_option maxRecDepth 100000 in
theorem fk_q92 : fk_mok 92 := ⟨fk_in5 (List.mem_of_getElem? (i := 41) rfl), fk_in1 (List.mem_of_getElem? (i := 7) rfl), fk_cls6⟩
set_option maxRecDepth 100000 in
theorem fk_q93 : fk_mok 93 := ⟨fk_in5 (List.mem_of_getElem? (i := 44) rfl), fk_in1 (List.mem_of_getElem? (i := 7) rfl), fk_cls6⟩
set_option maxRecDepth 100000 in
theorem fk_q94 : fk_mok 94 := ⟨fk_in5 (List.mem_of_getElem? (i := 48) rfl), fk_in1 (List.mem_of_getElem? (i := 7) rfl), fk_cls6⟩
set_option maxRecDepth 100000 in
theorem fk_q95 : fk_mok 95 := ⟨fk_in5 (List.mem_of_getElem? (i := 52) rfl), fk_in1 (List.mem_of_getElem? (i := 7) rfl), fk_cls6⟩
set_option maxRecDepth 100000 in
theorem fk_q96 : fk_mok 96 := ⟨fk_in5 (List.mem_of_getElem? (i := 56) rfl), fk_in1 (List.mem_of_getElem? (i := 8) rfl), fk_cls7⟩
set_option maxRecDepth 100000 in
theorem fk_q97 : fk_mok 97 := ⟨fk_in5 (List.mem_of_getElem? (i := 61) rfl), fk_in1 (List.mem_of_getElem? (i := 16) rfl), fk_cls12⟩
set_option maxRecDepth 100000 in
theorem fk_q98 : fk_mok 98 := ⟨fk_in5 (List.mem_of_getElem? (i := 64) rfl), fk_in1 (List.mem_of_getElem? (i := 16) rfl), fk_cls12⟩
set_option maxRecDepth 100000 in
theorem fk_q99 : fk_mok 99 := ⟨fk_in5 (List.mem_of_getElem? (i := 68) rfl), fk_in1 (List.mem_of_getElem? (i := 1) rfl), fk_cls0⟩
set_option maxRecDepth 100000 in
theorem fk_q100 : fk_mok 100 := ⟨fk_in5 (List.mem_of_getElem? (i := 72) rfl), fk_in1 (List.mem_of_getElem? (i := 1) rfl), fk_cls0⟩
set_option maxRecDepth 100000 in
theorem fk_q101 : fk_mok 101 := ⟨fk_in5 (List.mem_of_getElem? (i := 76) rfl), fk_in1 (List.mem_of_getElem? (i := 1) rfl), fk_cls0⟩
set_option maxRecDepth 100000 in
theorem fk_q102 : fk_mok 102 := ⟨fk_in5 (List.mem_of_getElem? (i := 82) rfl), fk_in1 (List.mem_of_getElem? (i := 1) rfl), fk_cls0⟩
set_option maxRecDepth 100000 in
theorem fk_q103 : fk_mok 103 := ⟨fk_in5 (List.mem_of_getElem? (i := 88) rfl), fk_in1 (List.mem_of_getElem? (i := 1) rfl), fk_cls0⟩
set_option maxRecDepth 100000 in
theorem fk_q104 : fk_mok 104 := ⟨fk_in5 (List.mem_of_getElem? (i := 92) rfl), fk_in1 (List.mem_of_getElem? (i := 1) rfl), fk_cls0⟩
set_option maxRecDepth 100000 in
theorem fk_q105 : fk_mok 105 := ⟨fk_in5 (List.mem_of_getElem? (i := 96) rfl), fk_in1 (List.mem_of_getElem? (i := 8) rfl), fk_cls7⟩
set_option maxRecDepth 100000 in
theorem fk_q106 : fk_mok 106 := ⟨fk_in5 (List.mem_of_getElem? (i := 102) rfl), fk_in1 (List.mem_of_getElem? (i := 8) rfl), fk_cls7⟩
set_option maxRecDepth 100000 in
theorem fk_q107 : fk_mok 107 := ⟨fk_in5 (List.mem_of_getElem? (i := 106) rfl), fk_in1 (List.mem_of_getElem? (i := 8) rfl), fk_cls7⟩
set_option maxRecDepth 100000 in
theorem fk_q108 : fk_mok 108 := ⟨fk_in5 (List.mem_of_getElem? (i := 111) rfl), fk_in1 (List.mem_of_getElem? (i := 8) rfl), fk_cls7⟩
set_option maxRecDepth 100000 in
theorem fk_q109 : fk_mok 109 := ⟨fk_in5 (List.mem_of_getElem? (i := 115) rfl), fk_in1 (List.mem_of_getElem? (i := 8) rfl), fk_cls7⟩
set_option maxRecDepth 100000 in
theorem fk_q110 : fk_mok 110 := ⟨fk_in5 (List.mem_of_getElem? (i := 119) rfl), fk_in1 (List.mem_of_getElem? (i := 8) rfl), fk_cls7⟩
set_option maxRecDepth 100000 in
theorem fk_q111 : fk_mok 111 := ⟨fk_in5 (List.mem_of_getElem? (i := 124) rfl), fk_in1 (List.mem_of_getElem? (i := 8) rfl), fk_cls7⟩
set_option maxRecDepth 100000 in
theorem fk_q112 : fk_mok 112 := ⟨fk_in5 (List.mem_of_getElem? (i := 128) rfl), fk_in1 (List.mem_of_getElem? (i := 8) rfl), fk_cls7⟩
set_option maxRecDepth 100000 in
theorem fk_q113 : fk_mok 113 := ⟨fk_in5 (List.mem_of_getElem? (i := 132) rfl), fk_in1 (List.mem_of_getElem? (i := 8) rfl), fk_cls7⟩
set_option maxRecDepth 100000 in
theorem fk_q114 : fk_mok 114 := ⟨fk_in5 (List.mem_of_getElem? (i := 136) rfl), fk_in1 (List.mem_of_getElem? (i := 8) rfl), fk_cls7⟩
set_option maxRecDepth 100000 in
theorem fk_q115 : fk_mok 115 := ⟨fk_in5 (List.mem_of_getElem? (i := 141) rfl), fk_in1 (List.mem_of_getElem? (i := 8) rfl), fk_cls7⟩
set_option maxRecDepth 100000 in
theorem fk_q116 : fk_mok 116 := ⟨fk_in5 (List.mem_of_getElem? (i := 145) rfl), fk_in1 (List.mem_of_getElem? (i := 2) rfl), fk_cls1⟩
set_option maxRecDepth 100000 in
theorem fk_q117 : fk_mok 117 := ⟨fk_in5 (List.mem_of_getElem? (i := 152) rfl), fk_in1 (List.mem_of_getElem? (i := 8) rfl), fk_cls7⟩
set_option maxRecDepth 100000 in
theorem fk_q118 : fk_mok 118 := ⟨fk_in5 (List.mem_of_getElem? (i := 156) rfl), fk_in1 (List.mem_of_getElem? (i := 8) rfl), fk_cls7⟩
set_option maxRecDepth 100000 in
theorem fk_q119 : fk_mok 119 := ⟨fk_in5 (List.mem_of_getElem? (i := 160) rfl), fk_in1 (List.mem_of_getElem? (i := 8) rfl), fk_cls7⟩
set_option maxRecDepth 100000 in
theorem fk_q120 : fk_mok 120 := ⟨fk_in5 (List.mem_of_getElem? (i := 166) rfl), fk_in1 (List.mem_of_getElem? (i := 8) rfl), fk_cls7⟩
set_option maxRecDepth 100000 in
theorem fk_q121 : fk_mok 121 := ⟨fk_in5 (List.mem_of_getElem? (i := 171) rfl), fk_in1 (List.mem_of_getElem? (i := 8) rfl), fk_cls7⟩
set_option maxRecDepth 100000 in
theorem fk_q122 : fk_mok 122 := ⟨fk_in5 (List.mem_of_getElem? (i := 175) rfl), fk_in1 (List.mem_of_getElem? (i := 8) rfl), fk_cls7⟩
set_option maxRecDepth 100000 in
theorem fk_q123 : fk_mok 123 := ⟨fk_in5 (List.mem_of_getElem? (i := 180) rfl), fk_in1 (List.mem_of_getElem? (i := 8) rfl), fk_cls7⟩
set_option maxRecDepth 100000 in
theorem fk_q124 : fk_mok 124 := ⟨fk_in5 (List.mem_of_getElem? (i := 184) rfl), fk_in1 (List.mem_of_getElem? (i := 8) rfl), fk_cls7⟩
set_option maxRecDepth 100000 in
theorem fk_q125 : fk_mok 125 := ⟨fk_in5 (List.mem_of_getElem? (i := 188) rfl), fk_in1 (List.mem_of_getElem? (i := 8) rfl), fk_cls7⟩
set_option maxRecDepth 100000 in
theorem fk_q126 : fk_mok 126 := ⟨fk_in5 (List.mem_of_getElem? (i := 193) rfl), fk_in1 (List.mem_of_getElem? (i := 8) rfl), fk_cls7⟩
set_option maxRecDepth 100000 in
theorem fk_q127 : fk_mok 127 := ⟨fk_in5 (List.mem_of_getElem? (i := 196) rfl), fk_in1 (List.mem_of_getElem? (i := 8) rfl), fk_cls7⟩
set_option maxRecDepth 100000 in
theorem fk_q128 : fk_mok 128 := ⟨fk_in5 (List.mem_of_getElem? (i := 199) rfl), fk_in1 (List.mem_of_getElem? (i := 8) rfl), fk_cls7⟩
set_option maxRecDepth 100000 in
theorem fk_q129 : fk_mok 129 := ⟨fk_in5 (List.mem_of_getElem? (i := 203) rfl), fk_in1 (List.mem_of_getElem? (i := 8) rfl), fk_cls7⟩
set_option maxRecDepth 100000 in
theorem fk_q130 : fk_mok 130 := ⟨fk_in5 (List.mem_of_getElem? (i := 206) rfl), fk_in1 (List.mem_of_getElem? (i := 17) rfl), fk_cls13⟩
set_option maxRecDepth 100000 in
theorem fk_q131 : fk_mok 131 := ⟨fk_in5 (List.mem_of_getElem? (i := 213) rfl), fk_in1 (List.mem_of_getElem? (i := 8) rfl), fk_cls7⟩
set_option maxRecDepth 100000 in
theorem fk_q132 : fk_mok 132 := ⟨fk_in5 (List.mem_of_getElem? (i := 217) rfl), fk_in1 (List.mem_of_getElem? (i := 8) rfl), fk_cls7⟩
set_option maxRecDepth 100000 in
theorem fk_q133 : fk_mok 133 := ⟨fk_in5 (List.mem_of_getElem? (i := 220) rfl), fk_in1 (List.mem_of_getElem? (i := 8) rfl), fk_cls7⟩
set_option maxRecDepth 100000 in
theorem fk_q134 : fk_mok 134 := ⟨fk_in5 (List.mem_of_getElem? (i := 223) rfl), fk_in1 (List.mem_of_getElem? (i := 18) rfl), fk_cls14⟩
set_option maxRecDepth 100000 in
theorem fk_q135 : fk_mok 135 := ⟨fk_in5 (List.mem_of_getElem? (i := 230) rfl), fk_in1 (List.mem_of_getElem? (i := 8) rfl), fk_cls7⟩
set_option maxRecDepth 100000 in
theorem fk_q136 : fk_mok 136 := ⟨fk_in5 (List.mem_of_getElem? (i := 233) rfl), fk_in1 (List.mem_of_getElem? (i := 8) rfl), fk_cls7⟩
set_option maxRecDepth 100000 in
theorem fk_q137 : fk_mok 137 := ⟨fk_in5 (List.mem_of_getElem? (i := 236) rfl), fk_in1 (List.mem_of_getElem? (i := 8) rfl), fk_cls7⟩
set_option maxRecDepth 100000 in
theorem fk_q138 : fk_mok 138 := ⟨fk_in6 (List.mem_of_getElem? (i := 0) rfl), fk_in1 (List.mem_of_getElem? (i := 1) rfl), fk_cls0⟩
set_option maxRecDepth 100000 in
theorem fk_q139 : fk_mok 139 := ⟨fk_in6 (List.mem_of_getElem? (i := 4) rfl), fk_in1 (List.mem_of_getElem? (i := 1) rfl), fk_cls0⟩
set_option maxRecDepth 100000 in
theorem fk_q140 : fk_mok 140 := ⟨fk_in6 (List.mem_of_getElem? (i := 8) rfl), fk_in1 (List.mem_of_getElem? (i := 1) rfl), fk_cls0⟩
set_option maxRecDepth 100000 in
theorem fk_q141 : fk_mok 141 := ⟨fk_in6 (List.mem_of_getElem? (i := 14) rfl), fk_in1 (List.mem_of_getElem? (i := 1) rfl), fk_cls0⟩
set_option maxRecDepth 100000 in
theorem fk_q142 : fk_mok 142 := ⟨fk_in6 (List.mem_of_getElem? (i := 18) rfl), fk_in1 (List.mem_of_getElem? (i := 1) rfl), fk_cls0⟩
set_option maxRecDepth 100000 in
theorem fk_q143 : fk_mok 143 := ⟨fk_in6 (List.mem_of_getElem? (i := 22) rfl), fk_in1 (List.mem_of_getElem? (i := 10) rfl), fk_cls9⟩
set_option maxRecDepth 100000 in
theorem fk_q144 : fk_mok 144 := ⟨fk_in6 (List.mem_of_getElem? (i := 26) rfl), fk_in1 (List.mem_of_getElem? (i := 9) rfl), fk_cls8⟩
set_option maxRecDepth 100000 in
theorem fk_q145 : fk_mok 145 := ⟨fk_in6 (List.mem_of_getElem? (i := 31) rfl), fk_in1 (List.mem_of_getElem? (i := 10) rfl), fk_cls9⟩
set_option maxRecDepth 100000 in
theorem fk_q146 : fk_mok 146 := ⟨fk_in6 (List.mem_of_getElem? (i := 35) rfl), fk_in1 (List.mem_of_getElem? (i := 10) rfl), fk_cls9⟩
set_option maxRecDepth 100000 in
theorem fk_q147 : fk_mok 147 := ⟨fk_in6 (List.mem_of_getElem? (i := 39) rfl), fk_in1 (List.mem_of_getElem? (i := 10) rfl), fk_cls9⟩
set_option maxRecDepth 100000 in
theorem fk_q148 : fk_mok 148 := ⟨fk_in6 (List.mem_of_getElem? (i := 43) rfl), fk_in1 (List.mem_of_getElem? (i := 10) rfl), fk_cls9⟩
set_option maxRecDepth 100000 in
theorem fk_q149 : fk_mok 149 := ⟨fk_in6 (List.mem_of_getElem? (i := 46) rfl), fk_in1 (List.mem_of_getElem? (i := 10) rfl), fk_cls9⟩
set_option maxRecDepth 100000 in
theorem fk_q150 : fk_mok 150 := ⟨fk_in6 (List.mem_of_getElem? (i := 50) rfl), fk_in1 (List.mem_of_getElem? (i := 10) rfl), fk_cls9⟩
set_option maxRecDepth 100000 in
theorem fk_q151 : fk_mok 151 := ⟨fk_in6 (List.mem_of_getElem? (i := 53) rfl), fk_in1 (List.mem_of_getElem? (i := 10) rfl), fk_cls9⟩
set_option maxRecDepth 100000 in
theorem fk_q152 : fk_mok 152 := ⟨fk_in6 (List.mem_of_getElem? (i := 59) rfl), fk_in1 (List.mem_of_getElem? (i := 19) rfl), fk_cls15⟩
set_option maxRecDepth 100000 in
theorem fk_q153 : fk_mok 153 := ⟨fk_in6 (List.mem_of_getElem? (i := 63) rfl), fk_in1 (List.mem_of_getElem? (i := 19) rfl), fk_cls15⟩
set_option maxRecDepth 100000 in
theorem fk_q154 : fk_mok 154 := ⟨fk_in6 (List.mem_of_getElem? (i := 69) rfl), fk_in1 (List.mem_of_getElem? (i := 10) rfl), fk_cls9⟩
set_option maxRecDepth 100000 in
theorem fk_q155 : fk_mok 155 := ⟨fk_in6 (List.mem_of_getElem? (i := 73) rfl), fk_in1 (List.mem_of_getElem? (i := 19) rfl), fk_cls15⟩
set_option maxRecDepth 100000 in
theorem fk_q156 : fk_mok 156 := ⟨fk_in6 (List.mem_of_getElem? (i := 77) rfl), fk_in1 (List.mem_of_getElem? (i := 19) rfl), fk_cls15⟩
set_option maxRecDepth 100000 in
theorem fk_q157 : fk_mok 157 := ⟨fk_in6 (List.mem_of_getElem? (i := 80) rfl), fk_in1 (List.mem_of_getElem? (i := 20) rfl), fk_cls16⟩
set_option maxRecDepth 100000 in
theorem fk_q158 : fk_mok 158 := ⟨fk_in6 (List.mem_of_getElem? (i := 83) rfl), fk_in1 (List.mem_of_getElem? (i := 19) rfl), fk_cls15⟩
set_option maxRecDepth 100000 in
theorem fk_q159 : fk_mok 159 := ⟨fk_in6 (List.mem_of_getElem? (i := 88) rfl), fk_in1 (List.mem_of_getElem? (i := 21) rfl), fk_cls17⟩
set_option maxRecDepth 100000 in
theorem fk_q160 : fk_mok 160 := ⟨fk_in6 (List.mem_of_getElem? (i := 91) rfl), fk_in1 (List.mem_of_getElem? (i := 22) rfl), fk_cls18⟩
set_option maxRecDepth 100000 in
theorem fk_q161 : fk_mok 161 := ⟨fk_in6 (List.mem_of_getElem? (i := 94) rfl), fk_in1 (List.mem_of_getElem? (i := 22) rfl), fk_cls18⟩
set_option maxRecDepth 100000 in
theorem fk_q162 : fk_mok 162 := ⟨fk_in6 (List.mem_of_getElem? (i := 97) rfl), fk_in1 (List.mem_of_getElem? (i := 22) rfl), fk_cls18⟩
set_option maxRecDepth 100000 in
theorem fk_q163 : fk_mok 163 := ⟨fk_in6 (List.mem_of_getElem? (i := 101) rfl), fk_in1 (List.mem_of_getElem? (i := 22) rfl), fk_cls18⟩
set_option maxRecDepth 100000 in
theorem fk_q164 : fk_mok 164 := ⟨fk_in6 (List.mem_of_getElem? (i := 111) rfl), fk_in1 (List.mem_of_getElem? (i := 10) rfl), fk_cls9⟩
set_option maxRecDepth 100000 in
theorem fk_q165 : fk_mok 165 := ⟨fk_in6 (List.mem_of_getElem? (i := 120) rfl), fk_in1 (List.mem_of_getElem? (i := 10) rfl), fk_cls9⟩
set_option maxRecDepth 100000 in
theorem fk_q166 : fk_mok 166 := ⟨fk_in6 (List.mem_of_getElem? (i := 125) rfl), fk_in1 (List.mem_of_getElem? (i := 19) rfl), fk_cls15⟩
set_option maxRecDepth 100000 in
theorem fk_q167 : fk_mok 167 := ⟨fk_in6 (List.mem_of_getElem? (i := 129) rfl), fk_in1 (List.mem_of_getElem? (i := 19) rfl), fk_cls15⟩
set_option maxRecDepth 100000 in
theorem fk_q168 : fk_mok 168 := ⟨fk_in6 (List.mem_of_getElem? (i := 133) rfl), fk_in1 (List.mem_of_getElem? (i := 20) rfl), fk_cls16⟩
set_option maxRecDepth 100000 in
theorem fk_q169 : fk_mok 169 := ⟨fk_in6 (List.mem_of_getElem? (i := 136) rfl), fk_in1 (List.mem_of_getElem? (i := 20) rfl), fk_cls16⟩
set_option maxRecDepth 100000 in
theorem fk_q170 : fk_mok 170 := ⟨fk_in6 (List.mem_of_getElem? (i := 141) rfl), fk_in1 (List.mem_of_getElem? (i := 20) rfl), fk_cls16⟩
set_option maxRecDepth 100000 in
theorem fk_q171 : fk_mok 171 := ⟨fk_in6 (List.mem_of_getElem? (i := 144) rfl), fk_in1 (List.mem_of_getElem? (i := 22) rfl), fk_cls18⟩
set_option maxRecDepth 100000 in
theorem fk_q172 : fk_mok 172 := ⟨fk_in6 (List.mem_of_getElem? (i := 150) rfl), fk_in1 (List.mem_of_getElem? (i := 22) rfl), fk_cls18⟩
set_option maxRecDepth 100000 in
theorem fk_q173 : fk_mok 173 := ⟨fk_in6 (List.mem_of_getElem? (i := 153) rfl), fk_in1 (List.mem_of_getElem? (i := 22) rfl), fk_cls18⟩
set_option maxRecDepth 100000 in
theorem fk_q174 : fk_mok 174 := ⟨fk_in6 (List.mem_of_getElem? (i := 156) rfl), fk_in1 (List.mem_of_getElem? (i := 19) rfl), fk_cls15⟩
set_option maxRecDepth 100000 in
theorem fk_q175 : fk_mok 175 := ⟨fk_in6 (List.mem_of_getElem? (i := 159) rfl), fk_in1 (List.mem_of_getElem? (i := 21) rfl), fk_cls17⟩
set_option maxRecDepth 100000 in
theorem fk_q176 : fk_mok 176 := ⟨fk_in6 (List.mem_of_getElem? (i := 162) rfl), fk_in1 (List.mem_of_getElem? (i := 22) rfl), fk_cls18⟩
set_option maxRecDepth 100000 in
theorem fk_q177 : fk_mok 177 := ⟨fk_in6 (List.mem_of_getElem? (i := 165) rfl), fk_in1 (List.mem_of_getElem? (i := 22) rfl), fk_cls18⟩
set_option maxRecDepth 100000 in
theorem fk_q178 : fk_mok 178 := ⟨fk_in6 (List.mem_of_getElem? (i := 168) rfl), fk_in1 (List.mem_of_getElem? (i := 23) rfl), fk_cls19⟩
set_option maxRecDepth 100000 in
theorem fk_q179 : fk_mok 179 := ⟨fk_in6 (List.mem_of_getElem? (i := 171) rfl), fk_in1 (List.mem_of_getElem? (i := 23) rfl), fk_cls19⟩
set_option maxRecDepth 100000 in
theorem fk_q180 : fk_mok 180 := ⟨fk_in6 (List.mem_of_getElem? (i := 175) rfl), fk_in1 (List.mem_of_getElem? (i := 23) rfl), fk_cls19⟩
set_option maxRecDepth 100000 in
theorem fk_q181 : fk_mok 181 := ⟨fk_in6 (List.mem_of_getElem? (i := 180) rfl), fk_in1 (List.mem_of_getElem? (i := 10) rfl), fk_cls9⟩
set_option maxRecDepth 100000 in
theorem fk_q182 : fk_mok 182 := ⟨fk_in6 (List.mem_of_getElem? (i := 184) rfl), fk_in1 (List.mem_of_getElem? (i := 10) rfl), fk_cls9⟩
set_option maxRecDepth 100000 in
theorem fk_q183 : fk_mok 183 := ⟨fk_in6 (List.mem_of_getElem? (i := 188) rfl), fk_in1 (List.mem_of_getElem? (i := 10) rfl), fk_cls9⟩
set_option maxRecDepth 100000 in
theorem fk_q184 : fk_mok 184 := ⟨fk_in6 (List.mem_of_getElem? (i := 192) rfl), fk_in1 (List.mem_of_getElem? (i := 10) rfl), fk_cls9⟩
set_option maxRecDepth 100000 in
theorem fk_q185 : fk_mok 185 := ⟨fk_in6 (List.mem_of_getElem? (i := 196) rfl), fk_in1 (List.mem_of_getElem? (i := 10) rfl), fk_cls9⟩
set_option maxRecDepth 100000 in
theorem fk_q186 : fk_mok 186 := ⟨fk_in6 (List.mem_of_getElem? (i := 200) rfl), fk_in1 (List.mem_of_getElem? (i := 10) rfl), fk_cls9⟩
set_option maxRecDepth 100000 in
theorem fk_q187 : fk_mok 187 := ⟨fk_in6 (List.mem_of_getElem? (i := 204) rfl), fk_in1 (List.mem_of_getElem? (i := 10) rfl), fk_cls9⟩
set_option maxRecDepth 100000 in
theorem fk_q188 : fk_mok 188 := ⟨fk_in6 (List.mem_of_getElem? (i := 208) rfl), fk_in1 (List.mem_of_getElem? (i := 10) rfl), fk_cls9⟩
set_option maxRecDepth 100000 in
theorem fk_q189 : fk_mok 189 := ⟨fk_in6 (List.mem_of_getElem? (i := 212) rfl), fk_in1 (List.mem_of_getElem? (i := 10) rfl), fk_cls9⟩
set_option maxRecDepth 100000 in
theorem fk_q190 : fk_mok 190 := ⟨fk_in6 (List.mem_of_getElem? (i := 216) rfl), fk_in1 (List.mem_of_getElem? (i := 9) rfl), fk_cls8⟩
set_option maxRecDepth 100000 in
theorem fk_q191 : fk_mok 191 := ⟨fk_in6 (List.mem_of_getElem? (i := 220) rfl), fk_in1 (List.mem_of_getElem? (i := 10) rfl), fk_cls9⟩
set_option maxRecDepth 100000 in
theorem fk_q192 : fk_mok 192 := ⟨fk_in6 (List.mem_of_getElem? (i := 224) rfl), fk_in1 (List.mem_of_getElem? (i := 10) rfl), fk_cls9⟩
set_option maxRecDepth 100000 in
theorem fk_q193 : fk_mok 193 := ⟨fk_in6 (List.mem_of_getElem? (i := 228) rfl), fk_in1 (List.mem_of_getElem? (i := 9) rfl), fk_cls8⟩
set_option maxRecDepth 100000 in
theorem fk_q194 : fk_mok 194 := ⟨fk_in6 (List.mem_of_getElem? (i := 232) rfl), fk_in1 (List.mem_of_getElem? (i := 10) rfl), fk_cls9⟩
set_option maxRecDepth 100000 in
theorem fk_q195 : fk_mok 195 := ⟨fk_in6 (List.mem_of_getElem? (i := 236) rfl), fk_in1 (List.mem_of_getElem? (i := 10) rfl), fk_cls9⟩
set_option maxRecDepth 100000 in
theorem fk_q196 : fk_mok 196 := ⟨fk_in7 (List.mem_of_getElem? (i := 1) rfl), fk_in1 (List.mem_of_getElem? (i := 10) rfl), fk_cls9⟩
set_option maxRecDepth 100000 in
theorem fk_q197 : fk_mok 197 := ⟨fk_in7 (List.mem_of_getElem? (i := 5) rfl), fk_in1 (List.mem_of_getElem? (i := 10) rfl), fk_cls9⟩
set_option maxRecDepth 100000 in
theorem fk_q198 : fk_mok 198 := ⟨fk_in7 (List.mem_of_getElem? (i := 9) rfl), fk_in1 (List.mem_of_getElem? (i := 10) rfl), fk_cls9⟩
set_option maxRecDepth 100000 in
theorem fk_q199 : fk_mok 199 := ⟨fk_in7 (List.mem_of_getElem? (i := 13) rfl), fk_in1 (List.mem_of_getElem? (i := 10) rfl), fk_cls9⟩
set_option maxRecDepth 100000 in
theorem fk_q200 : fk_mok 200 := ⟨fk_in7 (List.mem_of_getElem? (i := 17) rfl), fk_in1 (List.mem_of_getElem? (i := 10) rfl), fk_cls9⟩
set_option maxRecDepth 100000 in
theorem fk_q201 : fk_mok 201 := ⟨fk_in7 (List.mem_of_getElem? (i := 21) rfl), fk_in1 (List.mem_of_getElem? (i := 10) rfl), fk_cls9⟩
set_option maxRecDepth 100000 in
theorem fk_q202 : fk_mok 202 := ⟨fk_in7 (List.mem_of_getElem? (i := 24) rfl), fk_in1 (List.mem_of_getElem? (i := 10) rfl), fk_cls9⟩
set_option maxRecDepth 100000 in
theorem fk_q203 : fk_mok 203 := ⟨fk_in7 (List.mem_of_getElem? (i := 28) rfl), fk_in1 (List.mem_of_getElem? (i := 11) rfl), fk_cls10⟩
set_option maxRecDepth 100000 in
theorem fk_q204 : fk_mok 204 := ⟨fk_in7 (List.mem_of_getElem? (i := 32) rfl), fk_in1 (List.mem_of_getElem? (i := 11) rfl), fk_cls10⟩
set_option maxRecDepth 100000 in
theorem fk_q205 : fk_mok 205 := ⟨fk_in7 (List.mem_of_getElem? (i := 36) rfl), fk_in1 (List.mem_of_getElem? (i := 9) rfl), fk_cls8⟩
set_option maxRecDepth 100000 in
theorem fk_q206 : fk_mok 206 := ⟨fk_in7 (List.mem_of_getElem? (i := 40) rfl), fk_in1 (List.mem_of_getElem? (i := 11) rfl), fk_cls10⟩
set_option maxRecDepth 100000 in
theorem fk_q207 : fk_mok 207 := ⟨fk_in7 (List.mem_of_getElem? (i := 44) rfl), fk_in1 (List.mem_of_getElem? (i := 11) rfl), fk_cls10⟩
set_option maxRecDepth 100000 in
theorem fk_q208 : fk_mok 208 := ⟨fk_in7 (List.mem_of_getElem? (i := 48) rfl), fk_in1 (List.mem_of_getElem? (i := 11) rfl), fk_cls10⟩
set_option maxRecDepth 100000 in
theorem fk_q209 : fk_mok 209 := ⟨fk_in7 (List.mem_of_getElem? (i := 52) rfl), fk_in1 (List.mem_of_getElem? (i := 11) rfl), fk_cls10⟩
set_option maxRecDepth 100000 in
theorem fk_q210 : fk_mok 210 := ⟨fk_in7 (List.mem_of_getElem? (i := 56) rfl), fk_in1 (List.mem_of_getElem? (i := 11) rfl), fk_cls10⟩
set_option maxRecDepth 100000 in
theorem fk_q211 : fk_mok 211 := ⟨fk_in7 (List.mem_of_getElem? (i := 60) rfl), fk_in1 (List.mem_of_getElem? (i := 11) rfl), fk_cls10⟩
set_option maxRecDepth 100000 in
theorem fk_q212 : fk_mok 212 := ⟨fk_in7 (List.mem_of_getElem? (i := 64) rfl), fk_in1 (List.mem_of_getElem? (i := 11) rfl), fk_cls10⟩
set_option maxRecDepth 100000 in
theorem fk_q213 : fk_mok 213 := ⟨fk_in7 (List.mem_of_getElem? (i := 68) rfl), fk_in1 (List.mem_of_getElem? (i := 11) rfl), fk_cls10⟩
set_option maxRecDepth 100000 in
theorem fk_q214 : fk_mok 214 := ⟨fk_in7 (List.mem_of_getElem? (i := 72) rfl), fk_in1 (List.mem_of_getElem? (i := 11) rfl), fk_cls10⟩
set_option maxRecDepth 100000 in
theorem fk_q215 : fk_mok 215 := ⟨fk_in7 (List.mem_of_getElem? (i := 76) rfl), fk_in1 (List.mem_of_getElem? (i := 11) rfl), fk_cls10⟩
set_option maxRecDepth 100000 in
theorem fk_q216 : fk_mok 216 := ⟨fk_in7 (List.mem_of_getElem? (i := 80) rfl), fk_in1 (List.mem_of_getElem? (i := 11) rfl), fk_cls10⟩
set_option maxRecDepth 100000 in
theorem fk_q217 : fk_mok 217 := ⟨fk_in7 (List.mem_of_getElem? (i := 85) rfl), fk_in1 (List.mem_of_getElem? (i := 11) rfl), fk_cls10⟩
set_option maxRecDepth 100000 in
theorem fk_q218 : fk_mok 218 := ⟨fk_in7 (List.mem_of_getElem? (i := 89) rfl), fk_in1 (List.mem_of_getElem? (i := 9) rfl), fk_cls8⟩
set_option maxRecDepth 100000 in
theorem fk_q219 : fk_mok 219 := ⟨fk_in7 (List.mem_of_getElem? (i := 93) rfl), fk_in1 (List.mem_of_getElem? (i := 11) rfl), fk_cls10⟩
set_option maxRecDepth 100000 in
theorem fk_q220 : fk_mok 220 := ⟨fk_in7 (List.mem_of_getElem? (i := 97) rfl), fk_in1 (List.mem_of_getElem? (i := 11) rfl), fk_cls10⟩
set_option maxRecDepth 100000 in
theorem fk_q221 : fk_mok 221 := ⟨fk_in7 (List.mem_of_getElem? (i := 101) rfl), fk_in1 (List.mem_of_getElem? (i := 11) rfl), fk_cls10⟩
set_option maxRecDepth 100000 in
theorem fk_q222 : fk_mok 222 := ⟨fk_in7 (List.mem_of_getElem? (i := 105) rfl), fk_in1 (List.mem_of_getElem? (i := 11) rfl), fk_cls10⟩
set_option maxRecDepth 100000 in
theorem fk_q223 : fk_mok 223 := ⟨fk_in7 (List.mem_of_getElem? (i := 109) rfl), fk_in1 (List.mem_of_getElem? (i := 1) rfl), fk_cls0⟩
set_option maxRecDepth 100000 in
theorem fk_q224 : fk_mok 224 := ⟨fk_in7 (List.mem_of_getElem? (i := 114) rfl), fk_in1 (List.mem_of_getElem? (i := 12) rfl), fk_cls11⟩
set_option maxRecDepth 100000 in
theorem fk_q225 : fk_mok 225 := ⟨fk_in7 (List.mem_of_getElem? (i := 118) rfl), fk_in1 (List.mem_of_getElem? (i := 12) rfl), fk_cls11⟩
set_option maxRecDepth 100000 in
theorem fk_q226 : fk_mok 226 := ⟨fk_in7 (List.mem_of_getElem? (i := 122) rfl), fk_in1 (List.mem_of_getElem? (i := 12) rfl), fk_cls11⟩
set_option maxRecDepth 100000 in
theorem fk_q227 : fk_mok 227 := ⟨fk_in7 (List.mem_of_getElem? (i := 128) rfl), fk_in1 (List.mem_of_getElem? (i := 12) rfl), fk_cls11⟩
set_option maxRecDepth 100000 in
theorem fk_q228 : fk_mok 228 := ⟨fk_in7 (List.mem_of_getElem? (i := 132) rfl), fk_in1 (List.mem_of_getElem? (i := 12) rfl), fk_cls11⟩
set_option maxRecDepth 100000 in
theorem fk_q229 : fk_mok 229 := ⟨fk_in7 (List.mem_of_getElem? (i := 136) rfl), fk_in1 (List.mem_of_getElem? (i := 12) rfl), fk_cls11⟩
set_option maxRecDepth 100000 in
theorem fk_q230 : fk_mok 230 := ⟨fk_in7 (List.mem_of_getElem? (i := 140) rfl), fk_in1 (List.mem_of_getElem? (i := 12) rfl), fk_cls11⟩
set_option maxRecDepth 100000 in
theorem fk_q231 : fk_mok 231 := ⟨fk_in7 (List.mem_of_getElem? (i := 144) rfl), fk_in1 (List.mem_of_getElem? (i := 12) rfl), fk_cls11⟩
set_option maxRecDepth 100000 in
theorem fk_q232 : fk_mok 232 := ⟨fk_in7 (List.mem_of_getElem? (i := 148) rfl), fk_in1 (List.mem_of_getElem? (i := 12) rfl), fk_cls11⟩
set_option maxRecDepth 100000 in
theorem fk_q233 : fk_mok 233 := ⟨fk_in7 (List.mem_of_getElem? (i := 152) rfl), fk_in1 (List.mem_of_getElem? (i := 12) rfl), fk_cls11⟩
set_option maxRecDepth 100000 in
theorem fk_q234 : fk_mok 234 := ⟨fk_in7 (List.mem_of_getElem? (i := 156) rfl), fk_in1 (List.mem_of_getElem? (i := 12) rfl), fk_cls11⟩
set_option maxRecDepth 100000 in
theorem fk_q235 : fk_mok 235 := ⟨fk_in7 (List.mem_of_getElem? (i := 160) rfl), fk_in1 (List.mem_of_getElem? (i := 1) rfl), fk_cls0⟩
set_option maxRecDepth 100000 in
theorem fk_q236 : fk_mok 236 := ⟨fk_in7 (List.mem_of_getElem? (i := 165) rfl), fk_in1 (List.mem_of_getElem? (i := 13) rfl), fk_cls20⟩
set_option maxRecDepth 100000 in
theorem fk_q237 : fk_mok 237 := ⟨fk_in9 (List.mem_of_getElem? (i := 123) rfl), fk_in1 (List.mem_of_getElem? (i := 13) rfl), fk_cls20⟩
set_option maxRecDepth 100000 in
theorem fk_q238 : fk_mok 238 := ⟨fk_in9 (List.mem_of_getElem? (i := 127) rfl), fk_in1 (List.mem_of_getElem? (i := 13) rfl), fk_cls20⟩
set_option maxRecDepth 100000 in
theorem fk_q239 : fk_mok 239 := ⟨fk_in9 (List.mem_of_getElem? (i := 131) rfl), fk_in1 (List.mem_of_getElem? (i := 13) rfl), fk_cls20⟩
set_option maxRecDepth 100000 in
theorem fk_q240 : fk_mok 240 := ⟨fk_in9 (List.mem_of_getElem? (i := 135) rfl), fk_in1 (List.mem_of_getElem? (i := 13) rfl), fk_cls20⟩
set_option maxRecDepth 100000 in
theorem fk_q241 : fk_mok 241 := ⟨fk_in9 (List.mem_of_getElem? (i := 139) rfl), fk_in1 (List.mem_of_getElem? (i := 13) rfl), fk_cls20⟩
set_option maxRecDepth 100000 in
theorem fk_q242 : fk_mok 242 := ⟨fk_in9 (List.mem_of_getElem? (i := 143) rfl), fk_in1 (List.mem_of_getElem? (i := 13) rfl), fk_cls20⟩
set_option maxRecDepth 100000 in
theorem fk_q243 : fk_mok 243 := ⟨fk_in9 (List.mem_of_getElem? (i := 147) rfl), fk_in1 (List.mem_of_getElem? (i := 13) rfl), fk_cls20⟩
set_option maxRecDepth 100000 in
theorem fk_q244 : fk_mok 244 := ⟨fk_in9 (List.mem_of_getElem? (i := 151) rfl), fk_in1 (List.mem_of_getElem? (i := 13) rfl), fk_cls20⟩
set_option maxRecDepth 100000 in
theorem fk_q245 : fk_mok 245 := ⟨fk_in9 (List.mem_of_getElem? (i := 155) rfl), fk_in1 (List.mem_of_getElem? (i := 13) rfl), fk_cls20⟩
set_option maxRecDepth 100000 in
theorem fk_q246 : fk_mok 246 := ⟨fk_in9 (List.mem_of_getElem? (i := 159) rfl), fk_in1 (List.mem_of_getElem? (i := 13) rfl), fk_cls20⟩
set_option maxRecDepth 100000 in
theorem fk_q247 : fk_mok 247 := ⟨fk_in9 (List.mem_of_getElem? (i := 163) rfl), fk_in1 (List.mem_of_getElem? (i := 13) rfl), fk_cls20⟩
set_option maxRecDepth 100000 in
theorem fk_q248 : fk_mok 248 := ⟨fk_in9 (List.mem_of_getElem? (i := 167) rfl), fk_in1 (List.mem_of_getElem? (i := 13) rfl), fk_cls20⟩
set_option maxRecDepth 100000 in
theorem fk_q249 : fk_mok 249 := ⟨fk_in9 (List.mem_of_getElem? (i := 171) rfl), fk_in1 (List.mem_of_getElem? (i := 13) rfl), fk_cls20⟩
set_option maxRecDepth 100000 in
theorem fk_q250 : fk_mok 250 := ⟨fk_in9 (List.mem_of_getElem? (i := 175) rfl), fk_in1 (List.mem_of_getElem? (i := 13) rfl), fk_cls20⟩
set_option maxRecDepth 100000 in
theorem fk_q251 : fk_mok 251 := ⟨fk_in9 (List.mem_of_getElem? (i := 180) rfl), fk_in1 (List.mem_of_getElem? (i := 13) rfl), fk_cls20⟩
set_option maxRecDepth 100000 in
theorem fk_q252 : fk_mok 252 := ⟨fk_in9 (List.mem_of_getElem? (i := 184) rfl), fk_in1 (List.mem_of_getElem? (i := 13) rfl), fk_cls20⟩
set_option maxRecDepth 100000 in
theorem fk_q253 : fk_mok 253 := ⟨fk_in9 (List.mem_of_getElem? (i := 188) rfl), fk_in1 (List.mem_of_getElem? (i := 13) rfl), fk_cls20⟩
set_option maxRecDepth 100000 in
theorem fk_q254 : fk_mok 254 := ⟨fk_in9 (List.mem_of_getElem? (i := 192) rfl), fk_in1 (List.mem_of_getElem? (i := 13) rfl), fk_cls20⟩
set_option maxRecDepth 100000 in
theorem fk_q255 : fk_mok 255 := ⟨fk_in9 (List.mem_of_getElem? (i := 197) rfl), fk_in1 (List.mem_of_getElem? (i := 13) rfl), fk_cls20⟩
set_option maxRecDepth 100000 in
theorem fk_q256 : fk_mok 256 := ⟨fk_in9 (List.mem_of_getElem? (i := 200) rfl), fk_in1 (List.mem_of_getElem? (i := 13) rfl), fk_cls20⟩
set_option maxRecDepth 100000 in
theorem fk_q257 : fk_mok 257 := ⟨fk_in9 (List.mem_of_getElem? (i := 204) rfl), fk_in1 (List.mem_of_getElem? (i := 13) rfl), fk_cls20⟩
set_option maxRecDepth 100000 in
theorem fk_q258 : fk_mok 258 := ⟨fk_in9 (List.mem_of_getElem? (i := 207) rfl), fk_in1 (List.mem_of_getElem? (i := 13) rfl), fk_cls20⟩
set_option maxRecDepth 100000 in
theorem fk_q259 : fk_mok 259 := ⟨fk_in9 (List.mem_of_getElem? (i := 211) rfl), fk_in1 (List.mem_of_getElem? (i := 13) rfl), fk_cls20⟩
set_option maxRecDepth 100000 in
theorem fk_q260 : fk_mok 260 := ⟨fk_in9 (List.mem_of_getElem? (i := 215) rfl), fk_in1 (List.mem_of_getElem? (i := 13) rfl), fk_cls20⟩
set_option maxRecDepth 100000 in
theorem fk_q261 : fk_mok 261 := ⟨fk_in9 (List.mem_of_getElem? (i := 220) rfl), fk_in1 (List.mem_of_getElem? (i := 13) rfl), fk_cls20⟩
set_option maxRecDepth 100000 in
theorem fk_q262 : fk_mok 262 := ⟨fk_in9 (List.mem_of_getElem? (i := 224) rfl), fk_in1 (List.mem_of_getElem? (i := 13) rfl), fk_cls20⟩
set_option maxRecDepth 100000 in
theorem fk_q263 : fk_mok 263 := ⟨fk_in9 (List.mem_of_getElem? (i := 228) rfl), fk_in1 (List.mem_of_getElem? (i := 13) rfl), fk_cls20⟩
set_option maxRecDepth 100000 in
theorem fk_q264 : fk_mok 264 := ⟨fk_in9 (List.mem_of_getElem? (i := 231) rfl), fk_in1 (List.mem_of_getElem? (i := 13) rfl), fk_cls20⟩
set_option maxRecDepth 100000 in
theorem fk_q265 : fk_mok 265 := ⟨fk_in9 (List.mem_of_getElem? (i := 235) rfl), fk_in1 (List.mem_of_getElem? (i := 13) rfl), fk_cls20⟩
set_option maxRecDepth 100000 in
theorem fk_q266 : fk_mok 266 := ⟨fk_in10 (List.mem_of_getElem? (i := 1) rfl), fk_in1 (List.mem_of_getElem? (i := 13) rfl), fk_cls20⟩
set_option maxRecDepth 100000 in
theorem fk_q267 : fk_mok 267 := ⟨fk_in10 (List.mem_of_getElem? (i := 5) rfl), fk_in1 (List.mem_of_getElem? (i := 13) rfl), fk_cls20⟩
set_option maxRecDepth 100000 in
theorem fk_q268 : fk_mok 268 := ⟨fk_in10 (List.mem_of_getElem? (i := 9) rfl), fk_in1 (List.mem_of_getElem? (i := 13) rfl), fk_cls20⟩
set_option maxRecDepth 100000 in
theorem fk_q269 : fk_mok 269 := ⟨fk_in10 (List.mem_of_getElem? (i := 13) rfl), fk_in1 (List.mem_of_getElem? (i := 13) rfl), fk_cls20⟩
set_option maxRecDepth 100000 in
theorem fk_q270 : fk_mok 270 := ⟨fk_in10 (List.mem_of_getElem? (i := 17) rfl), fk_in1 (List.mem_of_getElem? (i := 13) rfl), fk_cls20⟩
set_option maxRecDepth 100000 in
theorem fk_q271 : fk_mok 271 := ⟨fk_in10 (List.mem_of_getElem? (i := 21) rfl), fk_in1 (List.mem_of_getElem? (i := 13) rfl), fk_cls20⟩
set_option maxRecDepth 100000 in
theorem fk_q272 : fk_mok 272 := ⟨fk_in10 (List.mem_of_getElem? (i := 25) rfl), fk_in1 (List.mem_of_getElem? (i := 13) rfl), fk_cls20⟩
set_option maxRecDepth 100000 in
theorem fk_q273 : fk_mok 273 := ⟨fk_in10 (List.mem_of_getElem? (i := 29) rfl), fk_in1 (List.mem_of_getElem? (i := 13) rfl), fk_cls20⟩
set_option maxRecDepth 100000 in
theorem fk_q274 : fk_mok 274 := ⟨fk_in10 (List.mem_of_getElem? (i := 33) rfl), fk_in1 (List.mem_of_getElem? (i := 13) rfl), fk_cls20⟩
set_option maxRecDepth 100000 in
theorem fk_q275 : fk_mok 275 := ⟨fk_in10 (List.mem_of_getElem? (i := 37) rfl), fk_in1 (List.mem_of_getElem? (i := 13) rfl), fk_cls20⟩
set_option maxRecDepth 100000 in
theorem fk_q276 : fk_mok 276 := ⟨fk_in10 (List.mem_of_getElem? (i := 41) rfl), fk_in1 (List.mem_of_getElem? (i := 13) rfl), fk_cls20⟩
set_option maxRecDepth 100000 in
theorem fk_q277 : fk_mok 277 := ⟨fk_in10 (List.mem_of_getElem? (i := 45) rfl), fk_in1 (List.mem_of_getElem? (i := 13) rfl), fk_cls20⟩
set_option maxRecDepth 100000 in
theorem fk_q278 : fk_mok 278 := ⟨fk_in10 (List.mem_of_getElem? (i := 49) rfl), fk_in1 (List.mem_of_getElem? (i := 13) rfl), fk_cls20⟩
set_option maxRecDepth 100000 in
theorem fk_q279 : fk_mok 279 := ⟨fk_in10 (List.mem_of_getElem? (i := 53) rfl), fk_in1 (List.mem_of_getElem? (i := 13) rfl), fk_cls20⟩
set_option maxRecDepth 100000 in
theorem fk_q280 : fk_mok 280 := ⟨fk_in10 (List.mem_of_getElem? (i := 57) rfl), fk_in1 (List.mem_of_getElem? (i := 13) rfl), fk_cls20⟩
set_option maxRecDepth 100000 in
theorem fk_q281 : fk_mok 281 := ⟨fk_in10 (List.mem_of_getElem? (i := 61) rfl), fk_in1 (List.mem_of_getElem? (i := 13) rfl), fk_cls20⟩
set_option maxRecDepth 100000 in
theorem fk_q282 : fk_mok 282 := ⟨fk_in10 (List.mem_of_getElem? (i := 65) rfl), fk_in1 (List.mem_of_getElem? (i := 13) rfl), fk_cls20⟩
set_option maxRecDepth 100000 in
theorem fk_q283 : fk_mok 283 := ⟨fk_in10 (List.mem_of_getElem? (i := 69) rfl), fk_in1 (List.mem_of_getElem? (i := 13) rfl), fk_cls20⟩
set_option maxRecDepth 100000 in
theorem fk_q284 : fk_mok 284 := ⟨fk_in10 (List.mem_of_getElem? (i := 73) rfl), fk_in1 (List.mem_of_getElem? (i := 13) rfl), fk_cls20⟩
set_option maxRecDepth 100000 in
theorem fk_q285 : fk_mok 285 := ⟨fk_in10 (List.mem_of_getElem? (i := 77) rfl), fk_in1 (List.mem_of_getElem? (i := 13) rfl), fk_cls20⟩
set_option maxRecDepth 100000 in
theorem fk_q286 : fk_mok 286 := ⟨fk_in10 (List.mem_of_getElem? (i := 81) rfl), fk_in1 (List.mem_of_getElem? (i := 13) rfl), fk_cls20⟩
set_option maxRecDepth 100000 in
theorem fk_q287 : fk_mok 287 := ⟨fk_in10 (List.mem_of_getElem? (i := 84) rfl), fk_in1 (List.mem_of_getElem? (i := 13) rfl), fk_cls20⟩
set_option maxRecDepth 100000 in
theorem fk_q288 : fk_mok 288 := ⟨fk_in10 (List.mem_of_getElem? (i := 88) rfl), fk_in1 (List.mem_of_getElem? (i := 13) rfl), fk_cls20⟩
set_option maxRecDepth 100000 in
theorem fk_q289 : fk_mok 289 := ⟨fk_in10 (List.mem_of_getElem? (i := 92) rfl), fk_in1 (List.mem_of_getElem? (i := 13) rfl), fk_cls20⟩
set_option maxRecDepth 100000 in
theorem fk_q290 : fk_mok 290 := ⟨fk_in10 (List.mem_of_getElem? (i := 96) rfl), fk_in1 (List.mem_of_getElem? (i := 13) rfl), fk_cls20⟩
set_option maxRecDepth 100000 in
theorem fk_q291 : fk_mok 291 := ⟨fk_in10 (List.mem_of_getElem? (i := 100) rfl), fk_in1 (List.mem_of_getElem? (i := 13) rfl), fk_cls20⟩
set_option maxRecDepth 100000 in
theorem fk_q292 : fk_mok 292 := ⟨fk_in10 (List.mem_of_getElem? (i := 104) rfl), fk_in1 (List.mem_of_getElem? (i := 13) rfl), fk_cls20⟩
set_option maxRecDepth 100000 in
theorem fk_q293 : fk_mok 293 := ⟨fk_in10 (List.mem_of_getElem? (i := 107) rfl), fk_in1 (List.mem_of_getElem? (i := 13) rfl), fk_cls20⟩
set_option maxRecDepth 100000 in
theorem fk_q294 : fk_mok 294 := ⟨fk_in10 (List.mem_of_getElem? (i := 111) rfl), fk_in1 (List.mem_of_getElem? (i := 13) rfl), fk_cls20⟩
set_option maxRecDepth 100000 in
theorem fk_q295 : fk_mok 295 := ⟨fk_in10 (List.mem_of_getElem? (i := 115) rfl), fk_in1 (List.mem_of_getElem? (i := 13) rfl), fk_cls20⟩
set_option maxRecDepth 100000 in
theorem fk_q296 : fk_mok 296 := ⟨fk_in10 (List.mem_of_getElem? (i := 119) rfl), fk_in1 (List.mem_of_getElem? (i := 13) rfl), fk_cls20⟩
set_option maxRecDepth 100000 in
theorem fk_q297 : fk_mok 297 := ⟨fk_in10 (List.mem_of_getElem? (i := 123) rfl), fk_in1 (List.mem_of_getElem? (i := 13) rfl), fk_cls20⟩
set_option maxRecDepth 100000 in
theorem fk_q298 : fk_mok 298 := ⟨fk_in10 (List.mem_of_getElem? (i := 127) rfl), fk_in1 (List.mem_of_getElem? (i := 13) rfl), fk_cls20⟩
set_option maxRecDepth 100000 in
theorem fk_q299 : fk_mok 299 := ⟨fk_in10 (List.mem_of_getElem? (i := 131) rfl), fk_in1 (List.mem_of_getElem? (i := 13) rfl), fk_cls20⟩
set_option maxRecDepth 100000 in
theorem fk_q300 : fk_mok 300 := ⟨fk_in10 (List.mem_of_getElem? (i := 135) rfl), fk_in1 (List.mem_of_getElem? (i := 13) rfl), fk_cls20⟩
set_option maxRecDepth 100000 in
theorem fk_q301 : fk_mok 301 := ⟨fk_in10 (List.mem_of_getElem? (i := 139) rfl), fk_in1 (List.mem_of_getElem? (i := 13) rfl), fk_cls20⟩
set_option maxRecDepth 100000 in
theorem fk_q302 : fk_mok 302 := ⟨fk_in10 (List.mem_of_getElem? (i := 143) rfl), fk_in1 (List.mem_of_getElem? (i := 13) rfl), fk_cls20⟩
set_option maxRecDepth 100000 in
theorem fk_q303 : fk_mok 303 := ⟨fk_in10 (List.mem_of_getElem? (i := 147) rfl), fk_in1 (List.mem_of_getElem? (i := 13) rfl), fk_cls20⟩
set_option maxRecDepth 100000 in
theorem fk_q304 : fk_mok 304 := ⟨fk_in10 (List.mem_of_getElem? (i := 151) rfl), fk_in1 (List.mem_of_getElem? (i := 13) rfl), fk_cls20⟩
set_option maxRecDepth 100000 in
theorem fk_q305 : fk_mok 305 := ⟨fk_in10 (List.mem_of_getElem? (i := 155) rfl), fk_in1 (List.mem_of_getElem? (i := 13) rfl), fk_cls20⟩
set_option maxRecDepth 100000 in
theorem fk_q306 : fk_mok 306 := ⟨fk_in10 (List.mem_of_getElem? (i := 159) rfl), fk_in1 (List.mem_of_getElem? (i := 13) rfl), fk_cls20⟩
set_option maxRecDepth 100000 in
theorem fk_q307 : fk_mok 307 := ⟨fk_in10 (List.mem_of_getElem? (i := 163) rfl), fk_in1 (List.mem_of_getElem? (i := 13) rfl), fk_cls20⟩
set_option maxRecDepth 100000 in
theorem fk_q308 : fk_mok 308 := ⟨fk_in10 (List.mem_of_getElem? (i := 167) rfl), fk_in1 (List.mem_of_getElem? (i := 13) rfl), fk_cls20⟩
set_option maxRecDepth 100000 in
theorem fk_q309 : fk_mok 309 := ⟨fk_in10 (List.mem_of_getElem? (i := 171) rfl), fk_in1 (List.mem_of_getElem? (i := 13) rfl), fk_cls20⟩
set_option maxRecDepth 100000 in
theorem fk_q310 : fk_mok 310 := ⟨fk_in10 (List.mem_of_getElem? (i := 175) rfl), fk_in1 (List.mem_of_getElem? (i := 13) rfl), fk_cls20⟩
set_option maxRecDepth 100000 in
theorem fk_q311 : fk_mok 311 := ⟨fk_in10 (List.mem_of_getElem? (i := 179) rfl), fk_in1 (List.mem_of_getElem? (i := 13) rfl), fk_cls20⟩
set_option maxRecDepth 100000 in
theorem fk_q312 : fk_mok 312 := ⟨fk_in10 (List.mem_of_getElem? (i := 183) rfl), fk_in1 (List.mem_of_getElem? (i := 13) rfl), fk_cls20⟩
set_option maxRecDepth 100000 in
theorem fk_q313 : fk_mok 313 := ⟨fk_in10 (List.mem_of_getElem? (i := 188) rfl), fk_in1 (List.mem_of_getElem? (i := 13) rfl), fk_cls20⟩
set_option maxRecDepth 100000 in
theorem fk_q314 : fk_mok 314 := ⟨fk_in10 (List.mem_of_getElem? (i := 192) rfl), fk_in1 (List.mem_of_getElem? (i := 13) rfl), fk_cls20⟩
set_option maxRecDepth 100000 in
theorem fk_q315 : fk_mok 315 := ⟨fk_in10 (List.mem_of_getElem? (i := 195) rfl), fk_in1 (List.mem_of_getElem? (i := 13) rfl), fk_cls20⟩
set_option maxRecDepth 100000 in
theorem fk_q316 : fk_mok 316 := ⟨fk_in10 (List.mem_of_getElem? (i := 198) rfl), fk_in1 (List.mem_of_getElem? (i := 13) rfl), fk_cls20⟩
set_option maxRecDepth 100000 in
theorem fk_q317 : fk_mok 317 := ⟨fk_in10 (List.mem_of_getElem? (i := 203) rfl), fk_in1 (List.mem_of_getElem? (i := 13) rfl), fk_cls20⟩
set_option maxRecDepth 100000 in
theorem fk_q318 : fk_mok 318 := ⟨fk_in10 (List.mem_of_getElem? (i := 207) rfl), fk_in1 (List.mem_of_getElem? (i := 13) rfl), fk_cls20⟩
set_option maxRecDepth 100000 in
theorem fk_q319 : fk_mok 319 := ⟨fk_in10 (List.mem_of_getElem? (i := 211) rfl), fk_in1 (List.mem_of_getElem? (i := 13) rfl), fk_cls20⟩
set_option maxRecDepth 100000 in
theorem fk_q320 : fk_mok 320 := ⟨fk_in10 (List.mem_of_getElem? (i := 215) rfl), fk_in1 (List.mem_of_getElem? (i := 13) rfl), fk_cls20⟩
set_option maxRecDepth 100000 in
theorem fk_q321 : fk_mok 321 := ⟨fk_in10 (List.mem_of_getElem? (i := 219) rfl), fk_in1 (List.mem_of_getElem? (i := 13) rfl), fk_cls20⟩
set_option maxRecDepth 100000 in
theorem fk_q322 : fk_mok 322 := ⟨fk_in10 (List.mem_of_getElem? (i := 223) rfl), fk_in1 (List.mem_of_getElem? (i := 13) rfl), fk_cls20⟩
set_option maxRecDepth 100000 in
theorem fk_q323 : fk_mok 323 := ⟨fk_in10 (List.mem_of_getElem? (i := 228) rfl), fk_in1 (List.mem_of_getElem? (i := 13) rfl), fk_cls20⟩
set_option maxRecDepth 100000 in
theorem fk_q324 : fk_mok 324 := ⟨fk_in10 (List.mem_of_getElem? (i := 232) rfl), fk_in1 (List.mem_of_getElem? (i := 13) rfl), fk_cls20⟩
set_option maxRecDepth 100000 in
theorem fk_q325 : fk_mok 325 := ⟨fk_in10 (List.mem_of_getElem? (i := 236) rfl), fk_in1 (List.mem_of_getElem? (i := 13) rfl), fk_cls20⟩
set_option maxRecDepth 100000 in
theorem fk_q326 : fk_mok 326 := ⟨fk_in11 (List.mem_of_getElem? (i := 0) rfl), fk_in1 (List.mem_of_getElem? (i := 13) rfl), fk_cls20⟩
set_option maxRecDepth 100000 in
theorem fk_q327 : fk_mok 327 := ⟨fk_in11 (List.mem_of_getElem? (i := 3) rfl), fk_in1 (List.mem_of_getElem? (i := 13) rfl), fk_cls20⟩
set_option maxRecDepth 100000 in
theorem fk_q328 : fk_mok 328 := ⟨fk_in11 (List.mem_of_getElem? (i := 6) rfl), fk_in1 (List.mem_of_getElem? (i := 13) rfl), fk_cls20⟩
set_option maxRecDepth 100000 in
theorem fk_q329 : fk_mok 329 := ⟨fk_in11 (List.mem_of_getElem? (i := 15) rfl), fk_in1 (List.mem_of_getElem? (i := 13) rfl), fk_cls20⟩
set_option maxRecDepth 100000 in
theorem fk_q330 : fk_mok 330 := ⟨fk_in11 (List.mem_of_getElem? (i := 20) rfl), fk_in1 (List.mem_of_getElem? (i := 13) rfl), fk_cls20⟩
set_option maxRecDepth 100000 in
theorem fk_q331 : fk_mok 331 := ⟨fk_in11 (List.mem_of_getElem? (i := 24) rfl), fk_in1 (List.mem_of_getElem? (i := 13) rfl), fk_cls20⟩
set_option maxRecDepth 100000 in
theorem fk_q332 : fk_mok 332 := ⟨fk_in11 (List.mem_of_getElem? (i := 30) rfl), fk_in1 (List.mem_of_getElem? (i := 13) rfl), fk_cls20⟩
set_option maxRecDepth 100000 in
theorem fk_q333 : fk_mok 333 := ⟨fk_in11 (List.mem_of_getElem? (i := 34) rfl), fk_in1 (List.mem_of_getElem? (i := 13) rfl), fk_cls20⟩
set_option maxRecDepth 100000 in
theorem fk_q334 : fk_mok 334 := ⟨fk_in11 (List.mem_of_getElem? (i := 38) rfl), fk_in1 (List.mem_of_getElem? (i := 13) rfl), fk_cls20⟩
set_option maxRecDepth 100000 in
theorem fk_q335 : fk_mok 335 := ⟨fk_in11 (List.mem_of_getElem? (i := 43) rfl), fk_in1 (List.mem_of_getElem? (i := 13) rfl), fk_cls20⟩
set_option maxRecDepth 100000 in
theorem fk_q336 : fk_mok 336 := ⟨fk_in11 (List.mem_of_getElem? (i := 47) rfl), fk_in1 (List.mem_of_getElem? (i := 13) rfl), fk_cls20⟩
set_option maxRecDepth 100000 in
theorem fk_q337 : fk_mok 337 := ⟨fk_in11 (List.mem_of_getElem? (i := 51) rfl), fk_in1 (List.mem_of_getElem? (i := 13) rfl), fk_cls20⟩
set_option maxRecDepth 100000 in
theorem fk_q338 : fk_mok 338 := ⟨fk_in11 (List.mem_of_getElem? (i := 58) rfl), fk_in1 (List.mem_of_getElem? (i := 13) rfl), fk_cls20⟩
set_option maxRecDepth 100000 in
theorem fk_q339 : fk_mok 339 := ⟨fk_in11 (List.mem_of_getElem? (i := 63) rfl), fk_in1 (List.mem_of_getElem? (i := 13) rfl), fk_cls20⟩
set_option maxRecDepth 100000 in
theorem fk_q340 : fk_mok 340 := ⟨fk_in11 (List.mem_of_getElem? (i := 67) rfl), fk_in1 (List.mem_of_getElem? (i := 13) rfl), fk_cls20⟩
set_option maxRecDepth 100000 in
theorem fk_q341 : fk_mok 341 := ⟨fk_in11 (List.mem_of_getElem? (i := 73) rfl), fk_in1 (List.mem_of_getElem? (i := 13) rfl), fk_cls20⟩
set_option maxRecDepth 100000 in
theorem fk_q342 : fk_mok 342 := ⟨fk_in11 (List.mem_of_getElem? (i := 80) rfl), fk_in1 (List.mem_of_getElem? (i := 13) rfl), fk_cls20⟩
set_option maxRecDepth 100000 in
theorem fk_q343 : fk_mok 343 := ⟨fk_in11 (List.mem_of_getElem? (i := 86) rfl), fk_in1 (List.mem_of_getElem? (i := 13) rfl), fk_cls20⟩
set_option maxRecDepth 100000 in
theorem fk_q344 : fk_mok 344 := ⟨fk_in11 (List.mem_of_getElem? (i := 90) rfl), fk_in1 (List.mem_of_getElem? (i := 13) rfl), fk_cls20⟩
set_option maxRecDepth 100000 in
theorem fk_q345 : fk_mok 345 := ⟨fk_in11 (List.mem_of_getElem? (i := 94) rfl), fk_in1 (List.mem_of_getElem? (i := 13) rfl), fk_cls20⟩
set_option maxRecDepth 100000 in
theorem fk_q346 : fk_mok 346 := ⟨fk_in11 (List.mem_of_getElem? (i := 98) rfl), fk_in1 (List.mem_of_getElem? (i := 13) rfl), fk_cls20⟩
set_option maxRecDepth 100000 in
theorem fk_q347 : fk_mok 347 := ⟨fk_in11 (List.mem_of_getElem? (i := 102) rfl), fk_in1 (List.mem_of_getElem? (i := 13) rfl), fk_cls20⟩
set_option maxRecDepth 100000 in
theorem fk_q348 : fk_mok 348 := ⟨fk_in11 (List.mem_of_getElem? (i := 106) rfl), fk_in1 (List.mem_of_getElem? (i := 13) rfl), fk_cls20⟩
set_option maxRecDepth 100000 in
theorem fk_q349 : fk_mok 349 := ⟨fk_in11 (List.mem_of_getElem? (i := 112) rfl), fk_in1 (List.mem_of_getElem? (i := 13) rfl), fk_cls20⟩
set_option maxRecDepth 100000 in
theorem fk_q350 : fk_mok 350 := ⟨fk_in11 (List.mem_of_getElem? (i := 116) rfl), fk_in1 (List.mem_of_getElem? (i := 13) rfl), fk_cls20⟩
set_option maxRecDepth 100000 in
theorem fk_q351 : fk_mok 351 := ⟨fk_in11 (List.mem_of_getElem? (i := 120) rfl), fk_in1 (List.mem_of_getElem? (i := 13) rfl), fk_cls20⟩
set_option maxRecDepth 100000 in
theorem fk_q352 : fk_mok 352 := ⟨fk_in11 (List.mem_of_getElem? (i := 124) rfl), fk_in1 (List.mem_of_getElem? (i := 13) rfl), fk_cls20⟩
set_option maxRecDepth 100000 in
theorem fk_q353 : fk_mok 353 := ⟨fk_in11 (List.mem_of_getElem? (i := 128) rfl), fk_in1 (List.mem_of_getElem? (i := 13) rfl), fk_cls20⟩
set_option maxRecDepth 100000 in
theorem fk_q354 : fk_mok 354 := ⟨fk_in11 (List.mem_of_getElem? (i := 132) rfl), fk_in1 (List.mem_of_getElem? (i := 13) rfl), fk_cls20⟩
set_option maxRecDepth 100000 in
theorem fk_q355 : fk_mok 355 := ⟨fk_in11 (List.mem_of_getElem? (i := 136) rfl), fk_in1 (List.mem_of_getElem? (i := 13) rfl), fk_cls20⟩
set_option maxRecDepth 100000 in
theorem fk_q356 : fk_mok 356 := ⟨fk_in11 (List.mem_of_getElem? (i := 140) rfl), fk_in1 (List.mem_of_getElem? (i := 13) rfl), fk_cls20⟩
set_option maxRecDepth 100000 in
theorem fk_q357 : fk_mok 357 := ⟨fk_in11 (List.mem_of_getElem? (i := 144) rfl), fk_in1 (List.mem_of_getElem? (i := 13) rfl), fk_cls20⟩
set_option maxRecDepth 100000 in
theorem fk_q358 : fk_mok 358 := ⟨fk_in11 (List.mem_of_getElem? (i := 148) rfl), fk_in1 (List.mem_of_getElem? (i := 13) rfl), fk_cls20⟩
set_option maxRecDepth 100000 in
theorem fk_q359 : fk_mok 359 := ⟨fk_in11 (List.mem_of_getElem? (i := 152) rfl), fk_in1 (List.mem_of_getElem? (i := 13) rfl), fk_cls20⟩
set_option maxRecDepth 100000 in
theorem fk_q360 : fk_mok 360 := ⟨fk_in11 (List.mem_of_getElem? (i := 156) rfl), fk_in1 (List.mem_of_getElem? (i := 13) rfl), fk_cls20⟩
set_option maxRecDepth 100000 in
theorem fk_q361 : fk_mok 361 := ⟨fk_in11 (List.mem_of_getElem? (i := 160) rfl), fk_in1 (List.mem_of_getElem? (i := 13) rfl), fk_cls20⟩
set_option maxRecDepth 100000 in
theorem fk_q362 : fk_mok 362 := ⟨fk_in11 (List.mem_of_getElem? (i := 164) rfl), fk_in1 (List.mem_of_getElem? (i := 13) rfl), fk_cls20⟩
set_option maxRecDepth 100000 in
theorem fk_q363 : fk_mok 363 := ⟨fk_in11 (List.mem_of_getElem? (i := 168) rfl), fk_in1 (List.mem_of_getElem? (i := 13) rfl), fk_cls20⟩
set_option maxRecDepth 100000 in
theorem fk_q364 : fk_mok 364 := ⟨fk_in11 (List.mem_of_getElem? (i := 172) rfl), fk_in1 (List.mem_of_getElem? (i := 13) rfl), fk_cls20⟩
set_option maxRecDepth 100000 in
theorem fk_q365 : fk_mok 365 := ⟨fk_in11 (List.mem_of_getElem? (i := 176) rfl), fk_in1 (List.mem_of_getElem? (i := 13) rfl), fk_cls20⟩
set_option maxRecDepth 100000 in
theorem fk_q366 : fk_mok 366 := ⟨fk_in11 (List.mem_of_getElem? (i := 180) rfl), fk_in1 (List.mem_of_getElem? (i := 13) rfl), fk_cls20⟩
set_option maxRecDepth 100000 in
theorem fk_q367 : fk_mok 367 := ⟨fk_in11 (List.mem_of_getElem? (i := 184) rfl), fk_in1 (List.mem_of_getElem? (i := 13) rfl), fk_cls20⟩
abbrev fk_np (j n : Nat) : Prop := (parseMethodDescriptor (fk_M j).1.desc).map (fun d => d.parameters.length) = some n
abbrev fk_I (q : Nat × Nat × Nat) : Prop := fk_mok q.1 ∧ Cond.instanceMethod (fk_M q.1).1 ∈ lw_tbl ∧ Cond.selects (fk_M q.1).1.cls (fk_M q.1).1 (fk_M q.1).1 ∈ lw_tbl ∧ fk_np q.1 q.2.2 ∧ (fk_M q.1).2.2.1 ≤ 21 ∧ ∃ c, fk_cls[q.2.1]? = some c ∧ c.1 = (fk_M q.1).1.cls
abbrev fk_S (q : Nat × Nat) : Prop := fk_mok q.1 ∧ Cond.static (fk_M q.1).1 ∈ lw_tbl ∧ fk_np q.1 q.2 ∧ (fk_M q.1).2.2.1 ≤ 21
theorem fk_sel {q : MethodName × Nat} (h : q ∈ lw_privs) : Cond.selects q.1.cls q.1 q.1 ∈ lw_tbl := List.mem_append_left _ (List.mem_map.mpr ⟨q, h, rfl⟩)
set_option maxRecDepth 100000 in
theorem fk_i13 : fk_I (13, 11, 5) := ⟨fk_q13, fk_in3 (List.mem_of_getElem? (i := 186) rfl), fk_in3 (List.mem_of_getElem? (i := 187) rfl), by decide +kernel, by decide +kernel, _, rfl, rfl⟩
set_option maxRecDepth 100000 in
theorem fk_i14 : fk_I (14, 11, 1) := ⟨fk_q14, fk_in3 (List.mem_of_getElem? (i := 191) rfl), fk_sel (q := (⟨"FoldForge", "putOnTape", "(I)V"⟩, 18)) (List.mem_append_left _ (List.mem_of_getElem? (i := 0) rfl)), by decide +kernel, by decide +kernel, _, rfl, rfl⟩
set_option maxRecDepth 100000 in
theorem fk_i15 : fk_I (15, 11, 1) := ⟨fk_q15, fk_in3 (List.mem_of_getElem? (i := 194) rfl), fk_in3 (List.mem_of_getElem? (i := 195) rfl), by decide +kernel, by decide +kernel, _, rfl, rfl⟩
set_option maxRecDepth 100000 in
theorem fk_i16 : fk_I (16, 5, 3) := ⟨fk_q16, fk_in3 (List.mem_of_getElem? (i := 199) rfl), fk_sel (q := (⟨"FoldForge$ModuleReader", "read", "(LFoldForge$ModuleRows;[BI)V"⟩, 3)) (List.mem_append_left _ (List.mem_of_getElem? (i := 1) rfl)), by decide +kernel, by decide +kernel, _, rfl, rfl⟩
set_option maxRecDepth 100000 in
theorem fk_i17 : fk_I (17, 6, 0) := ⟨fk_q17, fk_in3 (List.mem_of_getElem? (i := 203) rfl), fk_sel (q := (⟨"FoldForge$ModuleRows", "clear", "()V"⟩, 20)) (List.mem_append_left _ (List.mem_of_getElem? (i := 2) rfl)), by decide +kernel, by decide +kernel, _, rfl, rfl⟩
set_option maxRecDepth 100000 in
theorem fk_i18 : fk_I (18, 10, 2) := ⟨fk_q18, fk_in3 (List.mem_of_getElem? (i := 210) rfl), fk_sel (q := (⟨"FoldForge$Scan", "begin", "([BI)V"⟩, 5)) (List.mem_append_left _ (List.mem_of_getElem? (i := 3) rfl)), by decide +kernel, by decide +kernel, _, rfl, rfl⟩
set_option maxRecDepth 100000 in
theorem fk_i20 : fk_I (20, 10, 0) := ⟨fk_q20, fk_in3 (List.mem_of_getElem? (i := 219) rfl), fk_sel (q := (⟨"FoldForge$Scan", "fine", "()Z"⟩, 5)) (List.mem_append_left _ (List.mem_of_getElem? (i := 4) rfl)), by decide +kernel, by decide +kernel, _, rfl, rfl⟩
set_option maxRecDepth 100000 in
theorem fk_i21 : fk_I (21, 10, 1) := ⟨fk_q21, fk_in3 (List.mem_of_getElem? (i := 223) rfl), fk_sel (q := (⟨"FoldForge$Scan", "expect", "(I)V"⟩, 5)) (List.mem_append_left _ (List.mem_of_getElem? (i := 5) rfl)), by decide +kernel, by decide +kernel, _, rfl, rfl⟩
set_option maxRecDepth 100000 in
theorem fk_i22 : fk_I (22, 10, 2) := ⟨fk_q22, fk_in3 (List.mem_of_getElem? (i := 227) rfl), fk_sel (q := (⟨"FoldForge$Scan", "fail", "(II)V"⟩, 5)) (List.mem_append_left _ (List.mem_of_getElem? (i := 6) rfl)), by decide +kernel, by decide +kernel, _, rfl, rfl⟩
set_option maxRecDepth 100000 in
theorem fk_i23 : fk_I (23, 5, 0) := ⟨fk_q23, fk_in3 (List.mem_of_getElem? (i := 231) rfl), fk_sel (q := (⟨"FoldForge$ModuleReader", "sectionId", "()I"⟩, 3)) (List.mem_append_left _ (List.mem_of_getElem? (i := 7) rfl)), by decide +kernel, by decide +kernel, _, rfl, rfl⟩
set_option maxRecDepth 100000 in
theorem fk_i24 : fk_I (24, 10, 0) := ⟨fk_q24, fk_in3 (List.mem_of_getElem? (i := 235) rfl), fk_sel (q := (⟨"FoldForge$Scan", "next", "()I"⟩, 5)) (List.mem_append_left _ (List.mem_of_getElem? (i := 8) rfl)), by decide +kernel, by decide +kernel, _, rfl, rfl⟩
set_option maxRecDepth 100000 in
theorem fk_i25 : fk_I (25, 10, 0) := ⟨fk_q25, fk_in4 (List.mem_of_getElem? (i := 0) rfl), fk_sel (q := (⟨"FoldForge$Scan", "narrow", "()V"⟩, 5)) (List.mem_append_left _ (List.mem_of_getElem? (i := 9) rfl)), by decide +kernel, by decide +kernel, _, rfl, rfl⟩
set_option maxRecDepth 100000 in
theorem fk_i26 : fk_I (26, 10, 0) := ⟨fk_q26, fk_in4 (List.mem_of_getElem? (i := 4) rfl), fk_sel (q := (⟨"FoldForge$Scan", "unsigned", "()J"⟩, 5)) (List.mem_append_left _ (List.mem_of_getElem? (i := 10) rfl)), by decide +kernel, by decide +kernel, _, rfl, rfl⟩
set_option maxRecDepth 100000 in
theorem fk_i27 : fk_I (27, 1, 2) := ⟨fk_q27, fk_in4 (List.mem_of_getElem? (i := 8) rfl), fk_sel (q := (⟨"FoldForge$CodeReader", "read", "(LFoldForge$Scan;LFoldForge$CodeRows;)V"⟩, 2)) (List.mem_append_left _ (List.mem_of_getElem? (i := 11) rfl)), by decide +kernel, by decide +kernel, _, rfl, rfl⟩
set_option maxRecDepth 100000 in
theorem fk_i28 : fk_I (28, 10, 0) := ⟨fk_q28, fk_in4 (List.mem_of_getElem? (i := 13) rfl), fk_sel (q := (⟨"FoldForge$Scan", "vec", "()I"⟩, 5)) (List.mem_append_left _ (List.mem_of_getElem? (i := 12) rfl)), by decide +kernel, by decide +kernel, _, rfl, rfl⟩
set_option maxRecDepth 100000 in
theorem fk_i29 : fk_I (29, 1, 3) := ⟨fk_q29, fk_in4 (List.mem_of_getElem? (i := 19) rfl), fk_sel (q := (⟨"FoldForge$CodeReader", "locals", "(LFoldForge$Scan;LFoldForge$CodeRows;I)V"⟩, 2)) (List.mem_append_left _ (List.mem_of_getElem? (i := 13) rfl)), by decide +kernel, by decide +kernel, _, rfl, rfl⟩
set_option maxRecDepth 100000 in
theorem fk_i30 : fk_I (30, 10, 0) := ⟨fk_q30, fk_in4 (List.mem_of_getElem? (i := 26) rfl), fk_sel (q := (⟨"FoldForge$Scan", "valueType", "()I"⟩, 5)) (List.mem_append_left _ (List.mem_of_getElem? (i := 14) rfl)), by decide +kernel, by decide +kernel, _, rfl, rfl⟩
set_option maxRecDepth 100000 in
theorem fk_i31 : fk_I (31, 1, 2) := ⟨fk_q31, fk_in4 (List.mem_of_getElem? (i := 31) rfl), fk_sel (q := (⟨"FoldForge$CodeReader", "instruction", "(LFoldForge$Scan;LFoldForge$CodeRows;)Z"⟩, 2)) (List.mem_append_left _ (List.mem_of_getElem? (i := 15) rfl)), by decide +kernel, by decide +kernel, _, rfl, rfl⟩
set_option maxRecDepth 100000 in
theorem fk_i32 : fk_I (32, 1, 1) := ⟨fk_q32, fk_in4 (List.mem_of_getElem? (i := 36) rfl), fk_sel (q := (⟨"FoldForge$CodeReader", "close", "(LFoldForge$CodeRows;)Z"⟩, 2)) (List.mem_append_right _ (List.mem_append_left _ (List.mem_of_getElem? (i := 0) rfl))), by decide +kernel, by decide +kernel, _, rfl, rfl⟩
set_option maxRecDepth 100000 in
theorem fk_i33 : fk_I (33, 2, 1) := ⟨fk_q33, fk_in4 (List.mem_of_getElem? (i := 40) rfl), fk_sel (q := (⟨"FoldForge$CodeRows", "add", "(I)I"⟩, 11)) (List.mem_append_right _ (List.mem_append_left _ (List.mem_of_getElem? (i := 1) rfl))), by decide +kernel, by decide +kernel, _, rfl, rfl⟩
set_option maxRecDepth 100000 in
theorem fk_i34 : fk_I (34, 1, 3) := ⟨fk_q34, fk_in4 (List.mem_of_getElem? (i := 44) rfl), fk_sel (q := (⟨"FoldForge$CodeReader", "otherPart", "(LFoldForge$Scan;LFoldForge$CodeRows;I)V"⟩, 2)) (List.mem_append_right _ (List.mem_append_left _ (List.mem_of_getElem? (i := 2) rfl))), by decide +kernel, by decide +kernel, _, rfl, rfl⟩
set_option maxRecDepth 100000 in
theorem fk_i35 : fk_I (35, 1, 4) := ⟨fk_q35, fk_in4 (List.mem_of_getElem? (i := 48) rfl), fk_sel (q := (⟨"FoldForge$CodeReader", "block", "(LFoldForge$Scan;LFoldForge$CodeRows;II)V"⟩, 2)) (List.mem_append_right _ (List.mem_append_left _ (List.mem_of_getElem? (i := 3) rfl))), by decide +kernel, by decide +kernel, _, rfl, rfl⟩
set_option maxRecDepth 100000 in
theorem fk_s36 : fk_S (36, 1) := ⟨fk_q36, fk_in4 (List.mem_of_getElem? (i := 51) rfl), by decide +kernel, by decide +kernel⟩
set_option maxRecDepth 100000 in
theorem fk_s37 : fk_S (37, 1) := ⟨fk_q37, fk_in4 (List.mem_of_getElem? (i := 54) rfl), by decide +kernel, by decide +kernel⟩
set_option maxRecDepth 100000 in
theorem fk_i38 : fk_I (38, 1, 2) := ⟨fk_q38, fk_in4 (List.mem_of_getElem? (i := 58) rfl), fk_sel (q := (⟨"FoldForge$CodeReader", "branchTable", "(LFoldForge$Scan;LFoldForge$CodeRows;)V"⟩, 2)) (List.mem_append_right _ (List.mem_append_left _ (List.mem_of_getElem? (i := 4) rfl))), by decide +kernel, by decide +kernel, _, rfl, rfl⟩
set_option maxRecDepth 100000 in
theorem fk_i39 : fk_I (39, 2, 1) := ⟨fk_q39, fk_in4 (List.mem_of_getElem? (i := 62) rfl), fk_sel (q := (⟨"FoldForge$CodeRows", "addLabel", "(J)V"⟩, 11)) (List.mem_append_right _ (List.mem_append_left _ (List.mem_of_getElem? (i := 5) rfl))), by decide +kernel, by decide +kernel, _, rfl, rfl⟩
set_option maxRecDepth 100000 in
theorem fk_i40 : fk_I (40, 1, 4) := ⟨fk_q40, fk_in4 (List.mem_of_getElem? (i := 66) rfl), fk_sel (q := (⟨"FoldForge$CodeReader", "withOperands", "(LFoldForge$Scan;LFoldForge$CodeRows;II)V"⟩, 2)) (List.mem_append_right _ (List.mem_append_left _ (List.mem_of_getElem? (i := 6) rfl))), by decide +kernel, by decide +kernel, _, rfl, rfl⟩
set_option maxRecDepth 100000 in
theorem fk_s41 : fk_S (41, 1) := ⟨fk_q41, fk_in4 (List.mem_of_getElem? (i := 69) rfl), by decide +kernel, by decide +kernel⟩
set_option maxRecDepth 100000 in
theorem fk_i42 : fk_I (42, 1, 1) := ⟨fk_q42, fk_in4 (List.mem_of_getElem? (i := 73) rfl), fk_sel (q := (⟨"FoldForge$CodeReader", "zero", "(LFoldForge$Scan;)V"⟩, 2)) (List.mem_append_right _ (List.mem_append_left _ (List.mem_of_getElem? (i := 7) rfl))), by decide +kernel, by decide +kernel, _, rfl, rfl⟩
set_option maxRecDepth 100000 in
theorem fk_i43 : fk_I (43, 10, 1) := ⟨fk_q43, fk_in4 (List.mem_of_getElem? (i := 78) rfl), fk_sel (q := (⟨"FoldForge$Scan", "signed", "(I)J"⟩, 5)) (List.mem_append_right _ (List.mem_append_left _ (List.mem_of_getElem? (i := 8) rfl))), by decide +kernel, by decide +kernel, _, rfl, rfl⟩
set_option maxRecDepth 100000 in
theorem fk_i46 : fk_I (46, 10, 1) := ⟨fk_q46, fk_in4 (List.mem_of_getElem? (i := 90) rfl), fk_sel (q := (⟨"FoldForge$Scan", "widen", "(I)V"⟩, 5)) (List.mem_append_right _ (List.mem_append_left _ (List.mem_of_getElem? (i := 9) rfl))), by decide +kernel, by decide +kernel, _, rfl, rfl⟩
set_option maxRecDepth 100000 in
theorem fk_i47 : fk_I (47, 5, 2) := ⟨fk_q47, fk_in4 (List.mem_of_getElem? (i := 94) rfl), fk_sel (q := (⟨"FoldForge$ModuleReader", "content", "(LFoldForge$ModuleRows;I)V"⟩, 3)) (List.mem_append_right _ (List.mem_append_left _ (List.mem_of_getElem? (i := 10) rfl))), by decide +kernel, by decide +kernel, _, rfl, rfl⟩
set_option maxRecDepth 100000 in
theorem fk_i48 : fk_I (48, 5, 0) := ⟨fk_q48, fk_in4 (List.mem_of_getElem? (i := 98) rfl), fk_sel (q := (⟨"FoldForge$ModuleReader", "skipName", "()I"⟩, 3)) (List.mem_append_right _ (List.mem_append_left _ (List.mem_of_getElem? (i := 11) rfl))), by decide +kernel, by decide +kernel, _, rfl, rfl⟩
set_option maxRecDepth 100000 in
theorem fk_i49 : fk_I (49, 5, 3) := ⟨fk_q49, fk_in4 (List.mem_of_getElem? (i := 104) rfl), fk_sel (q := (⟨"FoldForge$ModuleReader", "thing", "(LFoldForge$ModuleRows;II)V"⟩, 3)) (List.mem_append_right _ (List.mem_append_left _ (List.mem_of_getElem? (i := 12) rfl))), by decide +kernel, by decide +kernel, _, rfl, rfl⟩
set_option maxRecDepth 100000 in
theorem fk_i50 : fk_I (50, 5, 1) := ⟨fk_q50, fk_in4 (List.mem_of_getElem? (i := 108) rfl), fk_sel (q := (⟨"FoldForge$ModuleReader", "type", "(LFoldForge$ModuleRows;)V"⟩, 3)) (List.mem_append_right _ (List.mem_append_left _ (List.mem_of_getElem? (i := 13) rfl))), by decide +kernel, by decide +kernel, _, rfl, rfl⟩
set_option maxRecDepth 100000 in
theorem fk_i51 : fk_I (51, 5, 1) := ⟨fk_q51, fk_in4 (List.mem_of_getElem? (i := 113) rfl), fk_sel (q := (⟨"FoldForge$ModuleReader", "limits", "([J)V"⟩, 3)) (List.mem_append_right _ (List.mem_append_left _ (List.mem_of_getElem? (i := 14) rfl))), by decide +kernel, by decide +kernel, _, rfl, rfl⟩
set_option maxRecDepth 100000 in
theorem fk_i52 : fk_I (52, 5, 2) := ⟨fk_q52, fk_in4 (List.mem_of_getElem? (i := 118) rfl), fk_sel (q := (⟨"FoldForge$ModuleReader", "oneGlobal", "(LFoldForge$ModuleRows;I)V"⟩, 3)) (List.mem_append_right _ (List.mem_append_left _ (List.mem_of_getElem? (i := 15) rfl))), by decide +kernel, by decide +kernel, _, rfl, rfl⟩
set_option maxRecDepth 100000 in
theorem fk_i53 : fk_I (53, 5, 0) := ⟨fk_q53, fk_in4 (List.mem_of_getElem? (i := 122) rfl), fk_sel (q := (⟨"FoldForge$ModuleReader", "operator", "()I"⟩, 3)) (List.mem_append_right _ (List.mem_append_right _ (List.mem_append_left _ (List.mem_of_getElem? (i := 0) rfl)))), by decide +kernel, by decide +kernel, _, rfl, rfl⟩
set_option maxRecDepth 100000 in
theorem fk_i54 : fk_I (54, 5, 1) := ⟨fk_q54, fk_in4 (List.mem_of_getElem? (i := 127) rfl), fk_sel (q := (⟨"FoldForge$ModuleReader", "constant", "(I)J"⟩, 3)) (List.mem_append_right _ (List.mem_append_right _ (List.mem_append_left _ (List.mem_of_getElem? (i := 1) rfl)))), by decide +kernel, by decide +kernel, _, rfl, rfl⟩
set_option maxRecDepth 100000 in
theorem fk_i55 : fk_I (55, 5, 2) := ⟨fk_q55, fk_in4 (List.mem_of_getElem? (i := 132) rfl), fk_sel (q := (⟨"FoldForge$ModuleReader", "oneExport", "(LFoldForge$ModuleRows;I)V"⟩, 3)) (List.mem_append_right _ (List.mem_append_right _ (List.mem_append_left _ (List.mem_of_getElem? (i := 2) rfl)))), by decide +kernel, by decide +kernel, _, rfl, rfl⟩
set_option maxRecDepth 100000 in
theorem fk_i56 : fk_I (56, 5, 2) := ⟨fk_q56, fk_in4 (List.mem_of_getElem? (i := 136) rfl), fk_sel (q := (⟨"FoldForge$ModuleReader", "element", "(LFoldForge$ModuleRows;I)V"⟩, 3)) (List.mem_append_right _ (List.mem_append_right _ (List.mem_append_left _ (List.mem_of_getElem? (i := 3) rfl)))), by decide +kernel, by decide +kernel, _, rfl, rfl⟩
set_option maxRecDepth 100000 in
theorem fk_i57 : fk_I (57, 3, 1) := ⟨fk_q57, fk_in4 (List.mem_of_getElem? (i := 141) rfl), fk_sel (q := (⟨"FoldForge$Judge", "verdictOn", "(LFoldForge$ModuleRows;)I"⟩, 11)) (List.mem_append_right _ (List.mem_append_right _ (List.mem_append_left _ (List.mem_of_getElem? (i := 4) rfl)))), by decide +kernel, by decide +kernel, _, rfl, rfl⟩
set_option maxRecDepth 100000 in
theorem fk_i58 : fk_I (58, 3, 0) := ⟨fk_q58, fk_in4 (List.mem_of_getElem? (i := 145) rfl), fk_sel (q := (⟨"FoldForge$Judge", "typesAreThere", "()Z"⟩, 11)) (List.mem_append_right _ (List.mem_append_right _ (List.mem_append_left _ (List.mem_of_getElem? (i := 5) rfl)))), by decide +kernel, by decide +kernel, _, rfl, rfl⟩
set_option maxRecDepth 100000 in
theorem fk_i59 : fk_I (59, 3, 2) := ⟨fk_q59, fk_in4 (List.mem_of_getElem? (i := 149) rfl), fk_sel (q := (⟨"FoldForge$Judge", "limitsVerdict", "([JI)I"⟩, 11)) (List.mem_append_right _ (List.mem_append_right _ (List.mem_append_left _ (List.mem_of_getElem? (i := 6) rfl)))), by decide +kernel, by decide +kernel, _, rfl, rfl⟩
set_option maxRecDepth 100000 in
theorem fk_i60 : fk_I (60, 3, 0) := ⟨fk_q60, fk_in4 (List.mem_of_getElem? (i := 153) rfl), fk_sel (q := (⟨"FoldForge$Judge", "globalsFit", "()Z"⟩, 11)) (List.mem_append_right _ (List.mem_append_right _ (List.mem_append_left _ (List.mem_of_getElem? (i := 7) rfl)))), by decide +kernel, by decide +kernel, _, rfl, rfl⟩
set_option maxRecDepth 100000 in
theorem fk_i61 : fk_I (61, 3, 0) := ⟨fk_q61, fk_in4 (List.mem_of_getElem? (i := 157) rfl), fk_sel (q := (⟨"FoldForge$Judge", "exportsFit", "()Z"⟩, 11)) (List.mem_append_right _ (List.mem_append_right _ (List.mem_append_left _ (List.mem_of_getElem? (i := 8) rfl)))), by decide +kernel, by decide +kernel, _, rfl, rfl⟩
set_option maxRecDepth 100000 in
theorem fk_i62 : fk_I (62, 6, 1) := ⟨fk_q62, fk_in4 (List.mem_of_getElem? (i := 161) rfl), fk_sel (q := (⟨"FoldForge$ModuleRows", "numberOf", "(I)I"⟩, 20)) (List.mem_append_right _ (List.mem_append_right _ (List.mem_append_left _ (List.mem_of_getElem? (i := 9) rfl)))), by decide +kernel, by decide +kernel, _, rfl, rfl⟩
set_option maxRecDepth 100000 in
theorem fk_i63 : fk_I (63, 6, 1) := ⟨fk_q63, fk_in4 (List.mem_of_getElem? (i := 165) rfl), fk_sel (q := (⟨"FoldForge$ModuleRows", "kindOf", "(I)I"⟩, 20)) (List.mem_append_right _ (List.mem_append_right _ (List.mem_append_left _ (List.mem_of_getElem? (i := 10) rfl)))), by decide +kernel, by decide +kernel, _, rfl, rfl⟩
set_option maxRecDepth 100000 in
theorem fk_i64 : fk_I (64, 3, 1) := ⟨fk_q64, fk_in4 (List.mem_of_getElem? (i := 169) rfl), fk_sel (q := (⟨"FoldForge$Judge", "thingsOfKind", "(I)I"⟩, 11)) (List.mem_append_right _ (List.mem_append_right _ (List.mem_append_left _ (List.mem_of_getElem? (i := 11) rfl)))), by decide +kernel, by decide +kernel, _, rfl, rfl⟩
set_option maxRecDepth 100000 in
theorem fk_i65 : fk_I (65, 3, 2) := ⟨fk_q65, fk_in4 (List.mem_of_getElem? (i := 173) rfl), fk_sel (q := (⟨"FoldForge$Judge", "sameName", "(II)Z"⟩, 11)) (List.mem_append_right _ (List.mem_append_right _ (List.mem_append_left _ (List.mem_of_getElem? (i := 12) rfl)))), by decide +kernel, by decide +kernel, _, rfl, rfl⟩
set_option maxRecDepth 100000 in
theorem fk_i66 : fk_I (66, 3, 0) := ⟨fk_q66, fk_in4 (List.mem_of_getElem? (i := 177) rfl), fk_sel (q := (⟨"FoldForge$Judge", "elementsFit", "()Z"⟩, 11)) (List.mem_append_right _ (List.mem_append_right _ (List.mem_append_left _ (List.mem_of_getElem? (i := 13) rfl)))), by decide +kernel, by decide +kernel, _, rfl, rfl⟩
set_option maxRecDepth 100000 in
theorem fk_i67 : fk_I (67, 3, 1) := ⟨fk_q67, fk_in4 (List.mem_of_getElem? (i := 181) rfl), fk_sel (q := (⟨"FoldForge$Judge", "functionFits", "(I)Z"⟩, 11)) (List.mem_append_right _ (List.mem_append_right _ (List.mem_append_left _ (List.mem_of_getElem? (i := 14) rfl)))), by decide +kernel, by decide +kernel, _, rfl, rfl⟩
set_option maxRecDepth 100000 in
theorem fk_i68 : fk_I (68, 6, 1) := ⟨fk_q68, fk_in4 (List.mem_of_getElem? (i := 185) rfl), fk_sel (q := (⟨"FoldForge$ModuleRows", "givenBy", "(I)I"⟩, 20)) (List.mem_append_right _ (List.mem_append_right _ (List.mem_append_left _ (List.mem_of_getElem? (i := 15) rfl)))), by decide +kernel, by decide +kernel, _, rfl, rfl⟩
set_option maxRecDepth 100000 in
theorem fk_i69 : fk_I (69, 3, 2) := ⟨fk_q69, fk_in4 (List.mem_of_getElem? (i := 189) rfl), fk_sel (q := (⟨"FoldForge$Judge", "openBlock", "(II)V"⟩, 11)) (List.mem_append_right _ (List.mem_append_right _ (List.mem_append_right _ (List.mem_append_left _ (List.mem_of_getElem? (i := 0) rfl))))), by decide +kernel, by decide +kernel, _, rfl, rfl⟩
set_option maxRecDepth 100000 in
theorem fk_i70 : fk_I (70, 3, 2) := ⟨fk_q70, fk_in4 (List.mem_of_getElem? (i := 193) rfl), fk_sel (q := (⟨"FoldForge$Judge", "instruction", "(II)V"⟩, 11)) (List.mem_append_right _ (List.mem_append_right _ (List.mem_append_right _ (List.mem_append_left _ (List.mem_of_getElem? (i := 1) rfl))))), by decide +kernel, by decide +kernel, _, rfl, rfl⟩
set_option maxRecDepth 100000 in
theorem fk_i71 : fk_I (71, 3, 2) := ⟨fk_q71, fk_in4 (List.mem_of_getElem? (i := 197) rfl), fk_sel (q := (⟨"FoldForge$Judge", "structure", "(II)V"⟩, 11)) (List.mem_append_right _ (List.mem_append_right _ (List.mem_append_right _ (List.mem_append_left _ (List.mem_of_getElem? (i := 2) rfl))))), by decide +kernel, by decide +kernel, _, rfl, rfl⟩
set_option maxRecDepth 100000 in
theorem fk_i72 : fk_I (72, 3, 0) := ⟨fk_q72, fk_in4 (List.mem_of_getElem? (i := 201) rfl), fk_sel (q := (⟨"FoldForge$Judge", "goDead", "()V"⟩, 11)) (List.mem_append_right _ (List.mem_append_right _ (List.mem_append_right _ (List.mem_append_left _ (List.mem_of_getElem? (i := 3) rfl))))), by decide +kernel, by decide +kernel, _, rfl, rfl⟩
set_option maxRecDepth 100000 in
theorem fk_i73 : fk_I (73, 3, 1) := ⟨fk_q73, fk_in4 (List.mem_of_getElem? (i := 205) rfl), fk_sel (q := (⟨"FoldForge$Judge", "pop", "(I)I"⟩, 11)) (List.mem_append_right _ (List.mem_append_right _ (List.mem_append_right _ (List.mem_append_left _ (List.mem_of_getElem? (i := 4) rfl))))), by decide +kernel, by decide +kernel, _, rfl, rfl⟩
set_option maxRecDepth 100000 in
theorem fk_i74 : fk_I (74, 3, 0) := ⟨fk_q74, fk_in4 (List.mem_of_getElem? (i := 209) rfl), fk_sel (q := (⟨"FoldForge$Judge", "closePart", "()V"⟩, 11)) (List.mem_append_right _ (List.mem_append_right _ (List.mem_append_right _ (List.mem_append_left _ (List.mem_of_getElem? (i := 5) rfl))))), by decide +kernel, by decide +kernel, _, rfl, rfl⟩
set_option maxRecDepth 100000 in
theorem fk_i75 : fk_I (75, 3, 0) := ⟨fk_q75, fk_in4 (List.mem_of_getElem? (i := 213) rfl), fk_sel (q := (⟨"FoldForge$Judge", "closeBlock", "()V"⟩, 11)) (List.mem_append_right _ (List.mem_append_right _ (List.mem_append_right _ (List.mem_append_left _ (List.mem_of_getElem? (i := 6) rfl))))), by decide +kernel, by decide +kernel, _, rfl, rfl⟩
set_option maxRecDepth 100000 in
theorem fk_i76 : fk_I (76, 3, 1) := ⟨fk_q76, fk_in4 (List.mem_of_getElem? (i := 217) rfl), fk_sel (q := (⟨"FoldForge$Judge", "push", "(I)V"⟩, 11)) (List.mem_append_right _ (List.mem_append_right _ (List.mem_append_right _ (List.mem_append_left _ (List.mem_of_getElem? (i := 7) rfl))))), by decide +kernel, by decide +kernel, _, rfl, rfl⟩
set_option maxRecDepth 100000 in
theorem fk_i77 : fk_I (77, 3, 2) := ⟨fk_q77, fk_in4 (List.mem_of_getElem? (i := 221) rfl), fk_sel (q := (⟨"FoldForge$Judge", "branch", "(II)V"⟩, 11)) (List.mem_append_right _ (List.mem_append_right _ (List.mem_append_right _ (List.mem_append_left _ (List.mem_of_getElem? (i := 8) rfl))))), by decide +kernel, by decide +kernel, _, rfl, rfl⟩
set_option maxRecDepth 100000 in
theorem fk_i78 : fk_I (78, 3, 1) := ⟨fk_q78, fk_in4 (List.mem_of_getElem? (i := 225) rfl), fk_sel (q := (⟨"FoldForge$Judge", "popGiven", "(I)V"⟩, 11)) (List.mem_append_right _ (List.mem_append_right _ (List.mem_append_right _ (List.mem_append_left _ (List.mem_of_getElem? (i := 9) rfl))))), by decide +kernel, by decide +kernel, _, rfl, rfl⟩
set_option maxRecDepth 100000 in
theorem fk_i79 : fk_I (79, 3, 1) := ⟨fk_q79, fk_in4 (List.mem_of_getElem? (i := 229) rfl), fk_sel (q := (⟨"FoldForge$Judge", "labelGives", "(I)I"⟩, 11)) (List.mem_append_right _ (List.mem_append_right _ (List.mem_append_right _ (List.mem_append_left _ (List.mem_of_getElem? (i := 10) rfl))))), by decide +kernel, by decide +kernel, _, rfl, rfl⟩
set_option maxRecDepth 100000 in
theorem fk_i80 : fk_I (80, 3, 1) := ⟨fk_q80, fk_in4 (List.mem_of_getElem? (i := 233) rfl), fk_sel (q := (⟨"FoldForge$Judge", "blockOf", "(I)I"⟩, 11)) (List.mem_append_right _ (List.mem_append_right _ (List.mem_append_right _ (List.mem_append_left _ (List.mem_of_getElem? (i := 11) rfl))))), by decide +kernel, by decide +kernel, _, rfl, rfl⟩
set_option maxRecDepth 100000 in
theorem fk_i81 : fk_I (81, 3, 1) := ⟨fk_q81, fk_in4 (List.mem_of_getElem? (i := 237) rfl), fk_sel (q := (⟨"FoldForge$Judge", "isLoop", "(I)Z"⟩, 11)) (List.mem_append_right _ (List.mem_append_right _ (List.mem_append_right _ (List.mem_append_left _ (List.mem_of_getElem? (i := 12) rfl))))), by decide +kernel, by decide +kernel, _, rfl, rfl⟩
set_option maxRecDepth 100000 in
theorem fk_i82 : fk_I (82, 3, 1) := ⟨fk_q82, fk_in5 (List.mem_of_getElem? (i := 1) rfl), fk_sel (q := (⟨"FoldForge$Judge", "resolve", "(I)V"⟩, 11)) (List.mem_append_right _ (List.mem_append_right _ (List.mem_append_right _ (List.mem_append_left _ (List.mem_of_getElem? (i := 13) rfl))))), by decide +kernel, by decide +kernel, _, rfl, rfl⟩
set_option maxRecDepth 100000 in
theorem fk_i83 : fk_I (83, 2, 1) := ⟨fk_q83, fk_in5 (List.mem_of_getElem? (i := 5) rfl), fk_sel (q := (⟨"FoldForge$CodeRows", "endOf", "(I)I"⟩, 11)) (List.mem_append_right _ (List.mem_append_right _ (List.mem_append_right _ (List.mem_append_left _ (List.mem_of_getElem? (i := 14) rfl))))), by decide +kernel, by decide +kernel, _, rfl, rfl⟩
set_option maxRecDepth 100000 in
theorem fk_i84 : fk_I (84, 3, 1) := ⟨fk_q84, fk_in5 (List.mem_of_getElem? (i := 9) rfl), fk_sel (q := (⟨"FoldForge$Judge", "pushGiven", "(I)V"⟩, 11)) (List.mem_append_right _ (List.mem_append_right _ (List.mem_append_right _ (List.mem_append_left _ (List.mem_of_getElem? (i := 15) rfl))))), by decide +kernel, by decide +kernel, _, rfl, rfl⟩
set_option maxRecDepth 100000 in
theorem fk_i85 : fk_I (85, 3, 2) := ⟨fk_q85, fk_in5 (List.mem_of_getElem? (i := 13) rfl), fk_sel (q := (⟨"FoldForge$Judge", "callOf", "(II)V"⟩, 11)) (List.mem_append_right _ (List.mem_append_right _ (List.mem_append_right _ (List.mem_append_right _ (List.mem_append_left _ (List.mem_of_getElem? (i := 0) rfl)))))), by decide +kernel, by decide +kernel, _, rfl, rfl⟩
set_option maxRecDepth 100000 in
theorem fk_i86 : fk_I (86, 6, 1) := ⟨fk_q86, fk_in5 (List.mem_of_getElem? (i := 17) rfl), fk_sel (q := (⟨"FoldForge$ModuleRows", "argumentsOf", "(I)I"⟩, 20)) (List.mem_append_right _ (List.mem_append_right _ (List.mem_append_right _ (List.mem_append_right _ (List.mem_append_left _ (List.mem_of_getElem? (i := 1) rfl)))))), by decide +kernel, by decide +kernel, _, rfl, rfl⟩
set_option maxRecDepth 100000 in
theorem fk_i87 : fk_I (87, 6, 2) := ⟨fk_q87, fk_in5 (List.mem_of_getElem? (i := 21) rfl), fk_sel (q := (⟨"FoldForge$ModuleRows", "argumentType", "(II)I"⟩, 20)) (List.mem_append_right _ (List.mem_append_right _ (List.mem_append_right _ (List.mem_append_right _ (List.mem_append_left _ (List.mem_of_getElem? (i := 2) rfl)))))), by decide +kernel, by decide +kernel, _, rfl, rfl⟩
set_option maxRecDepth 100000 in
theorem fk_i88 : fk_I (88, 3, 1) := ⟨fk_q88, fk_in5 (List.mem_of_getElem? (i := 25) rfl), fk_sel (q := (⟨"FoldForge$Judge", "dropOrSelect", "(I)V"⟩, 11)) (List.mem_append_right _ (List.mem_append_right _ (List.mem_append_right _ (List.mem_append_right _ (List.mem_append_left _ (List.mem_of_getElem? (i := 3) rfl)))))), by decide +kernel, by decide +kernel, _, rfl, rfl⟩
set_option maxRecDepth 100000 in
theorem fk_i89 : fk_I (89, 3, 2) := ⟨fk_q89, fk_in5 (List.mem_of_getElem? (i := 29) rfl), fk_sel (q := (⟨"FoldForge$Judge", "local", "(II)V"⟩, 11)) (List.mem_append_right _ (List.mem_append_right _ (List.mem_append_right _ (List.mem_append_right _ (List.mem_append_left _ (List.mem_of_getElem? (i := 4) rfl)))))), by decide +kernel, by decide +kernel, _, rfl, rfl⟩
set_option maxRecDepth 100000 in
theorem fk_i90 : fk_I (90, 3, 2) := ⟨fk_q90, fk_in5 (List.mem_of_getElem? (i := 33) rfl), fk_sel (q := (⟨"FoldForge$Judge", "globalUse", "(II)V"⟩, 11)) (List.mem_append_right _ (List.mem_append_right _ (List.mem_append_right _ (List.mem_append_right _ (List.mem_append_left _ (List.mem_of_getElem? (i := 5) rfl)))))), by decide +kernel, by decide +kernel, _, rfl, rfl⟩
set_option maxRecDepth 100000 in
theorem fk_i91 : fk_I (91, 3, 2) := ⟨fk_q91, fk_in5 (List.mem_of_getElem? (i := 37) rfl), fk_sel (q := (⟨"FoldForge$Judge", "memoryUse", "(II)V"⟩, 11)) (List.mem_append_right _ (List.mem_append_right _ (List.mem_append_right _ (List.mem_append_right _ (List.mem_append_left _ (List.mem_of_getElem? (i := 6) rfl)))))), by decide +kernel, by decide +kernel, _, rfl, rfl⟩
set_option maxRecDepth 100000 in
theorem fk_s92 : fk_S (92, 1) := ⟨fk_q92, fk_in5 (List.mem_of_getElem? (i := 40) rfl), by decide +kernel, by decide +kernel⟩
set_option maxRecDepth 100000 in
theorem fk_s93 : fk_S (93, 1) := ⟨fk_q93, fk_in5 (List.mem_of_getElem? (i := 43) rfl), by decide +kernel, by decide +kernel⟩
set_option maxRecDepth 100000 in
theorem fk_i94 : fk_I (94, 3, 1) := ⟨fk_q94, fk_in5 (List.mem_of_getElem? (i := 47) rfl), fk_sel (q := (⟨"FoldForge$Judge", "number", "(I)V"⟩, 11)) (List.mem_append_right _ (List.mem_append_right _ (List.mem_append_right _ (List.mem_append_right _ (List.mem_append_left _ (List.mem_of_getElem? (i := 7) rfl)))))), by decide +kernel, by decide +kernel, _, rfl, rfl⟩
set_option maxRecDepth 100000 in
theorem fk_i95 : fk_I (95, 3, 3) := ⟨fk_q95, fk_in5 (List.mem_of_getElem? (i := 51) rfl), fk_sel (q := (⟨"FoldForge$Judge", "turn", "(III)V"⟩, 11)) (List.mem_append_right _ (List.mem_append_right _ (List.mem_append_right _ (List.mem_append_right _ (List.mem_append_left _ (List.mem_of_getElem? (i := 8) rfl)))))), by decide +kernel, by decide +kernel, _, rfl, rfl⟩
set_option maxRecDepth 100000 in
theorem fk_i96 : fk_I (96, 4, 1) := ⟨fk_q96, fk_in5 (List.mem_of_getElem? (i := 55) rfl), fk_sel (q := (⟨"FoldForge$Machine", "make", "(LFoldForge$ModuleRows;)Z"⟩, 17)) (List.mem_append_right _ (List.mem_append_right _ (List.mem_append_right _ (List.mem_append_right _ (List.mem_append_left _ (List.mem_of_getElem? (i := 9) rfl)))))), by decide +kernel, by decide +kernel, _, rfl, rfl⟩
set_option maxRecDepth 100000 in
theorem fk_s97 : fk_S (97, 2) := ⟨fk_q97, fk_in5 (List.mem_of_getElem? (i := 60) rfl), by decide +kernel, by decide +kernel⟩
set_option maxRecDepth 100000 in
theorem fk_s98 : fk_S (98, 2) := ⟨fk_q98, fk_in5 (List.mem_of_getElem? (i := 63) rfl), by decide +kernel, by decide +kernel⟩
set_option maxRecDepth 100000 in
theorem fk_i99 : fk_I (99, 11, 0) := ⟨fk_q99, fk_in5 (List.mem_of_getElem? (i := 66) rfl), fk_in5 (List.mem_of_getElem? (i := 67) rfl), by decide +kernel, by decide +kernel, _, rfl, rfl⟩
set_option maxRecDepth 100000 in
theorem fk_i100 : fk_I (100, 11, 1) := ⟨fk_q100, fk_in5 (List.mem_of_getElem? (i := 70) rfl), fk_in5 (List.mem_of_getElem? (i := 71) rfl), by decide +kernel, by decide +kernel, _, rfl, rfl⟩
set_option maxRecDepth 100000 in
theorem fk_i101 : fk_I (101, 11, 2) := ⟨fk_q101, fk_in5 (List.mem_of_getElem? (i := 74) rfl), fk_in5 (List.mem_of_getElem? (i := 75) rfl), by decide +kernel, by decide +kernel, _, rfl, rfl⟩
set_option maxRecDepth 100000 in
theorem fk_i102 : fk_I (102, 11, 2) := ⟨fk_q102, fk_in5 (List.mem_of_getElem? (i := 81) rfl), fk_sel (q := (⟨"FoldForge", "shapeOf", "(II)I"⟩, 18)) (List.mem_append_right _ (List.mem_append_right _ (List.mem_append_right _ (List.mem_append_right _ (List.mem_append_left _ (List.mem_of_getElem? (i := 10) rfl)))))), by decide +kernel, by decide +kernel, _, rfl, rfl⟩
set_option maxRecDepth 100000 in
theorem fk_i103 : fk_I (103, 11, 2) := ⟨fk_q103, fk_in5 (List.mem_of_getElem? (i := 86) rfl), fk_in5 (List.mem_of_getElem? (i := 87) rfl), by decide +kernel, by decide +kernel, _, rfl, rfl⟩
set_option maxRecDepth 100000 in
theorem fk_i104 : fk_I (104, 11, 2) := ⟨fk_q104, fk_in5 (List.mem_of_getElem? (i := 90) rfl), fk_in5 (List.mem_of_getElem? (i := 91) rfl), by decide +kernel, by decide +kernel, _, rfl, rfl⟩
set_option maxRecDepth 100000 in
theorem fk_i105 : fk_I (105, 4, 3) := ⟨fk_q105, fk_in5 (List.mem_of_getElem? (i := 95) rfl), fk_sel (q := (⟨"FoldForge$Machine", "start", "(I[JI)I"⟩, 17)) (List.mem_append_right _ (List.mem_append_right _ (List.mem_append_right _ (List.mem_append_right _ (List.mem_append_left _ (List.mem_of_getElem? (i := 11) rfl)))))), by decide +kernel, by decide +kernel, _, rfl, rfl⟩
set_option maxRecDepth 100000 in
theorem fk_i106 : fk_I (106, 4, 1) := ⟨fk_q106, fk_in5 (List.mem_of_getElem? (i := 101) rfl), fk_sel (q := (⟨"FoldForge$Machine", "push", "(J)V"⟩, 17)) (List.mem_append_right _ (List.mem_append_right _ (List.mem_append_right _ (List.mem_append_right _ (List.mem_append_left _ (List.mem_of_getElem? (i := 12) rfl)))))), by decide +kernel, by decide +kernel, _, rfl, rfl⟩
set_option maxRecDepth 100000 in
theorem fk_i107 : fk_I (107, 4, 2) := ⟨fk_q107, fk_in5 (List.mem_of_getElem? (i := 105) rfl), fk_sel (q := (⟨"FoldForge$Machine", "enter", "(II)V"⟩, 17)) (List.mem_append_right _ (List.mem_append_right _ (List.mem_append_right _ (List.mem_append_right _ (List.mem_append_left _ (List.mem_of_getElem? (i := 13) rfl)))))), by decide +kernel, by decide +kernel, _, rfl, rfl⟩
set_option maxRecDepth 100000 in
theorem fk_i108 : fk_I (108, 4, 0) := ⟨fk_q108, fk_in5 (List.mem_of_getElem? (i := 110) rfl), fk_sel (q := (⟨"FoldForge$Machine", "going", "()Z"⟩, 17)) (List.mem_append_right _ (List.mem_append_right _ (List.mem_append_right _ (List.mem_append_right _ (List.mem_append_left _ (List.mem_of_getElem? (i := 14) rfl)))))), by decide +kernel, by decide +kernel, _, rfl, rfl⟩
set_option maxRecDepth 100000 in
theorem fk_i109 : fk_I (109, 4, 1) := ⟨fk_q109, fk_in5 (List.mem_of_getElem? (i := 114) rfl), fk_sel (q := (⟨"FoldForge$Machine", "mark", "(I)V"⟩, 17)) (List.mem_append_right _ (List.mem_append_right _ (List.mem_append_right _ (List.mem_append_right _ (List.mem_append_left _ (List.mem_of_getElem? (i := 15) rfl)))))), by decide +kernel, by decide +kernel, _, rfl, rfl⟩
set_option maxRecDepth 100000 in
theorem fk_i110 : fk_I (110, 4, 0) := ⟨fk_q110, fk_in5 (List.mem_of_getElem? (i := 118) rfl), fk_sel (q := (⟨"FoldForge$Machine", "leave", "()V"⟩, 17)) (List.mem_append_right _ (List.mem_append_right _ (List.mem_append_right _ (List.mem_append_right _ (List.mem_append_right _ (List.mem_append_left _ (List.mem_of_getElem? (i := 0) rfl))))))), by decide +kernel, by decide +kernel, _, rfl, rfl⟩
set_option maxRecDepth 100000 in
theorem fk_i111 : fk_I (111, 4, 0) := ⟨fk_q111, fk_in5 (List.mem_of_getElem? (i := 123) rfl), fk_sel (q := (⟨"FoldForge$Machine", "pop", "()J"⟩, 17)) (List.mem_append_right _ (List.mem_append_right _ (List.mem_append_right _ (List.mem_append_right _ (List.mem_append_right _ (List.mem_append_left _ (List.mem_of_getElem? (i := 1) rfl))))))), by decide +kernel, by decide +kernel, _, rfl, rfl⟩
set_option maxRecDepth 100000 in
theorem fk_i112 : fk_I (112, 4, 2) := ⟨fk_q112, fk_in5 (List.mem_of_getElem? (i := 127) rfl), fk_sel (q := (⟨"FoldForge$Machine", "step", "(II)V"⟩, 17)) (List.mem_append_right _ (List.mem_append_right _ (List.mem_append_right _ (List.mem_append_right _ (List.mem_append_right _ (List.mem_append_left _ (List.mem_of_getElem? (i := 2) rfl))))))), by decide +kernel, by decide +kernel, _, rfl, rfl⟩
set_option maxRecDepth 100000 in
theorem fk_i113 : fk_I (113, 4, 2) := ⟨fk_q113, fk_in5 (List.mem_of_getElem? (i := 131) rfl), fk_sel (q := (⟨"FoldForge$Machine", "control", "(II)V"⟩, 17)) (List.mem_append_right _ (List.mem_append_right _ (List.mem_append_right _ (List.mem_append_right _ (List.mem_append_right _ (List.mem_append_left _ (List.mem_of_getElem? (i := 3) rfl))))))), by decide +kernel, by decide +kernel, _, rfl, rfl⟩
set_option maxRecDepth 100000 in
theorem fk_i114 : fk_I (114, 4, 1) := ⟨fk_q114, fk_in5 (List.mem_of_getElem? (i := 135) rfl), fk_sel (q := (⟨"FoldForge$Machine", "branch", "(I)V"⟩, 17)) (List.mem_append_right _ (List.mem_append_right _ (List.mem_append_right _ (List.mem_append_right _ (List.mem_append_right _ (List.mem_append_left _ (List.mem_of_getElem? (i := 4) rfl))))))), by decide +kernel, by decide +kernel, _, rfl, rfl⟩
set_option maxRecDepth 100000 in
theorem fk_i115 : fk_I (115, 4, 1) := ⟨fk_q115, fk_in5 (List.mem_of_getElem? (i := 140) rfl), fk_sel (q := (⟨"FoldForge$Machine", "callIndirect", "(I)V"⟩, 17)) (List.mem_append_right _ (List.mem_append_right _ (List.mem_append_right _ (List.mem_append_right _ (List.mem_append_right _ (List.mem_append_left _ (List.mem_of_getElem? (i := 5) rfl))))))), by decide +kernel, by decide +kernel, _, rfl, rfl⟩
set_option maxRecDepth 100000 in
theorem fk_i116 : fk_I (116, 6, 2) := ⟨fk_q116, fk_in5 (List.mem_of_getElem? (i := 144) rfl), fk_sel (q := (⟨"FoldForge$ModuleRows", "sameTypes", "(II)Z"⟩, 20)) (List.mem_append_right _ (List.mem_append_right _ (List.mem_append_right _ (List.mem_append_right _ (List.mem_append_right _ (List.mem_append_left _ (List.mem_of_getElem? (i := 6) rfl))))))), by decide +kernel, by decide +kernel, _, rfl, rfl⟩
set_option maxRecDepth 100000 in
theorem fk_i117 : fk_I (117, 4, 2) := ⟨fk_q117, fk_in5 (List.mem_of_getElem? (i := 151) rfl), fk_sel (q := (⟨"FoldForge$Machine", "variable", "(II)V"⟩, 17)) (List.mem_append_right _ (List.mem_append_right _ (List.mem_append_right _ (List.mem_append_right _ (List.mem_append_right _ (List.mem_append_left _ (List.mem_of_getElem? (i := 7) rfl))))))), by decide +kernel, by decide +kernel, _, rfl, rfl⟩
set_option maxRecDepth 100000 in
theorem fk_i118 : fk_I (118, 4, 2) := ⟨fk_q118, fk_in5 (List.mem_of_getElem? (i := 155) rfl), fk_sel (q := (⟨"FoldForge$Machine", "local", "(II)V"⟩, 17)) (List.mem_append_right _ (List.mem_append_right _ (List.mem_append_right _ (List.mem_append_right _ (List.mem_append_right _ (List.mem_append_left _ (List.mem_of_getElem? (i := 8) rfl))))))), by decide +kernel, by decide +kernel, _, rfl, rfl⟩
set_option maxRecDepth 100000 in
theorem fk_i119 : fk_I (119, 4, 0) := ⟨fk_q119, fk_in5 (List.mem_of_getElem? (i := 159) rfl), fk_sel (q := (⟨"FoldForge$Machine", "grow", "()V"⟩, 17)) (List.mem_append_right _ (List.mem_append_right _ (List.mem_append_right _ (List.mem_append_right _ (List.mem_append_right _ (List.mem_append_left _ (List.mem_of_getElem? (i := 9) rfl))))))), by decide +kernel, by decide +kernel, _, rfl, rfl⟩
set_option maxRecDepth 100000 in
theorem fk_i120 : fk_I (120, 4, 2) := ⟨fk_q120, fk_in5 (List.mem_of_getElem? (i := 165) rfl), fk_sel (q := (⟨"FoldForge$Machine", "load", "(IJ)V"⟩, 17)) (List.mem_append_right _ (List.mem_append_right _ (List.mem_append_right _ (List.mem_append_right _ (List.mem_append_right _ (List.mem_append_left _ (List.mem_of_getElem? (i := 10) rfl))))))), by decide +kernel, by decide +kernel, _, rfl, rfl⟩
set_option maxRecDepth 100000 in
theorem fk_i121 : fk_I (121, 4, 3) := ⟨fk_q121, fk_in5 (List.mem_of_getElem? (i := 170) rfl), fk_sel (q := (⟨"FoldForge$Machine", "address", "(JJI)I"⟩, 17)) (List.mem_append_right _ (List.mem_append_right _ (List.mem_append_right _ (List.mem_append_right _ (List.mem_append_right _ (List.mem_append_left _ (List.mem_of_getElem? (i := 11) rfl))))))), by decide +kernel, by decide +kernel, _, rfl, rfl⟩
set_option maxRecDepth 100000 in
theorem fk_i122 : fk_I (122, 4, 0) := ⟨fk_q122, fk_in5 (List.mem_of_getElem? (i := 174) rfl), fk_sel (q := (⟨"FoldForge$Machine", "bytes", "()I"⟩, 17)) (List.mem_append_right _ (List.mem_append_right _ (List.mem_append_right _ (List.mem_append_right _ (List.mem_append_right _ (List.mem_append_left _ (List.mem_of_getElem? (i := 12) rfl))))))), by decide +kernel, by decide +kernel, _, rfl, rfl⟩
set_option maxRecDepth 100000 in
theorem fk_i123 : fk_I (123, 4, 1) := ⟨fk_q123, fk_in5 (List.mem_of_getElem? (i := 179) rfl), fk_sel (q := (⟨"FoldForge$Machine", "byteAt", "(I)I"⟩, 17)) (List.mem_append_right _ (List.mem_append_right _ (List.mem_append_right _ (List.mem_append_right _ (List.mem_append_right _ (List.mem_append_left _ (List.mem_of_getElem? (i := 13) rfl))))))), by decide +kernel, by decide +kernel, _, rfl, rfl⟩
set_option maxRecDepth 100000 in
theorem fk_i124 : fk_I (124, 4, 2) := ⟨fk_q124, fk_in5 (List.mem_of_getElem? (i := 183) rfl), fk_sel (q := (⟨"FoldForge$Machine", "store", "(IJ)V"⟩, 17)) (List.mem_append_right _ (List.mem_append_right _ (List.mem_append_right _ (List.mem_append_right _ (List.mem_append_right _ (List.mem_append_left _ (List.mem_of_getElem? (i := 14) rfl))))))), by decide +kernel, by decide +kernel, _, rfl, rfl⟩
set_option maxRecDepth 100000 in
theorem fk_i125 : fk_I (125, 4, 2) := ⟨fk_q125, fk_in5 (List.mem_of_getElem? (i := 187) rfl), fk_sel (q := (⟨"FoldForge$Machine", "setByte", "(II)V"⟩, 17)) (List.mem_append_right _ (List.mem_append_right _ (List.mem_append_right _ (List.mem_append_right _ (List.mem_append_right _ (List.mem_append_left _ (List.mem_of_getElem? (i := 15) rfl))))))), by decide +kernel, by decide +kernel, _, rfl, rfl⟩
set_option maxRecDepth 100000 in
theorem fk_i126 : fk_I (126, 4, 1) := ⟨fk_q126, fk_in5 (List.mem_of_getElem? (i := 192) rfl), fk_sel (q := (⟨"FoldForge$Machine", "number", "(I)V"⟩, 17)) (List.mem_append_right _ (List.mem_append_right _ (List.mem_append_right _ (List.mem_append_right _ (List.mem_append_right _ (List.mem_append_right _ (List.mem_append_left _ (List.mem_of_getElem? (i := 0) rfl)))))))), by decide +kernel, by decide +kernel, _, rfl, rfl⟩
set_option maxRecDepth 100000 in
theorem fk_s127 : fk_S (127, 3) := ⟨fk_q127, fk_in5 (List.mem_of_getElem? (i := 195) rfl), by decide +kernel, by decide +kernel⟩
set_option maxRecDepth 100000 in
theorem fk_s128 : fk_S (128, 2) := ⟨fk_q128, fk_in5 (List.mem_of_getElem? (i := 198) rfl), by decide +kernel, by decide +kernel⟩
set_option maxRecDepth 100000 in
theorem fk_s129 : fk_S (129, 2) := ⟨fk_q129, fk_in5 (List.mem_of_getElem? (i := 202) rfl), by decide +kernel, by decide +kernel⟩
set_option maxRecDepth 100000 in
theorem fk_s130 : fk_S (130, 1) := ⟨fk_q130, fk_in5 (List.mem_of_getElem? (i := 205) rfl), by decide +kernel, by decide +kernel⟩
set_option maxRecDepth 100000 in
theorem fk_i131 : fk_I (131, 4, 3) := ⟨fk_q131, fk_in5 (List.mem_of_getElem? (i := 212) rfl), fk_sel (q := (⟨"FoldForge$Machine", "whole32", "(III)I"⟩, 17)) (List.mem_append_right _ (List.mem_append_right _ (List.mem_append_right _ (List.mem_append_right _ (List.mem_append_right _ (List.mem_append_right _ (List.mem_append_left _ (List.mem_of_getElem? (i := 1) rfl)))))))), by decide +kernel, by decide +kernel, _, rfl, rfl⟩
set_option maxRecDepth 100000 in
theorem fk_s132 : fk_S (132, 3) := ⟨fk_q132, fk_in5 (List.mem_of_getElem? (i := 216) rfl), by decide +kernel, by decide +kernel⟩
set_option maxRecDepth 100000 in
theorem fk_s133 : fk_S (133, 2) := ⟨fk_q133, fk_in5 (List.mem_of_getElem? (i := 219) rfl), by decide +kernel, by decide +kernel⟩
set_option maxRecDepth 100000 in
theorem fk_s134 : fk_S (134, 1) := ⟨fk_q134, fk_in5 (List.mem_of_getElem? (i := 222) rfl), by decide +kernel, by decide +kernel⟩
set_option maxRecDepth 100000 in
theorem fk_i135 : fk_I (135, 4, 3) := ⟨fk_q135, fk_in5 (List.mem_of_getElem? (i := 229) rfl), fk_sel (q := (⟨"FoldForge$Machine", "whole64", "(IJJ)J"⟩, 17)) (List.mem_append_right _ (List.mem_append_right _ (List.mem_append_right _ (List.mem_append_right _ (List.mem_append_right _ (List.mem_append_right _ (List.mem_append_left _ (List.mem_of_getElem? (i := 2) rfl)))))))), by decide +kernel, by decide +kernel, _, rfl, rfl⟩
set_option maxRecDepth 100000 in
theorem fk_s136 : fk_S (136, 2) := ⟨fk_q136, fk_in5 (List.mem_of_getElem? (i := 232) rfl), by decide +kernel, by decide +kernel⟩
set_option maxRecDepth 100000 in
theorem fk_s137 : fk_S (137, 3) := ⟨fk_q137, fk_in5 (List.mem_of_getElem? (i := 235) rfl), by decide +kernel, by decide +kernel⟩
set_option maxRecDepth 100000 in
theorem fk_i138 : fk_I (138, 11, 1) := ⟨fk_q138, fk_in5 (List.mem_of_getElem? (i := 238) rfl), fk_in5 (List.mem_of_getElem? (i := 239) rfl), by decide +kernel, by decide +kernel, _, rfl, rfl⟩
set_option maxRecDepth 100000 in
theorem fk_i139 : fk_I (139, 11, 1) := ⟨fk_q139, fk_in6 (List.mem_of_getElem? (i := 2) rfl), fk_in6 (List.mem_of_getElem? (i := 3) rfl), by decide +kernel, by decide +kernel, _, rfl, rfl⟩
set_option maxRecDepth 100000 in
theorem fk_i140 : fk_I (140, 11, 1) := ⟨fk_q140, fk_in6 (List.mem_of_getElem? (i := 6) rfl), fk_in6 (List.mem_of_getElem? (i := 7) rfl), by decide +kernel, by decide +kernel, _, rfl, rfl⟩
set_option maxRecDepth 100000 in
theorem fk_i141 : fk_I (141, 11, 1) := ⟨fk_q141, fk_in6 (List.mem_of_getElem? (i := 12) rfl), fk_in6 (List.mem_of_getElem? (i := 13) rfl), by decide +kernel, by decide +kernel, _, rfl, rfl⟩
set_option maxRecDepth 100000 in
theorem fk_i142 : fk_I (142, 11, 1) := ⟨fk_q142, fk_in6 (List.mem_of_getElem? (i := 16) rfl), fk_in6 (List.mem_of_getElem? (i := 17) rfl), by decide +kernel, by decide +kernel, _, rfl, rfl⟩
set_option maxRecDepth 100000 in
theorem fk_i143 : fk_I (143, 7, 3) := ⟨fk_q143, fk_in6 (List.mem_of_getElem? (i := 21) rfl), fk_sel (q := (⟨"FoldForge$Parser", "parse", "(LFoldForge$Program;[BI)I"⟩, 14)) (List.mem_append_right _ (List.mem_append_right _ (List.mem_append_right _ (List.mem_append_right _ (List.mem_append_right _ (List.mem_append_right _ (List.mem_append_left _ (List.mem_of_getElem? (i := 3) rfl)))))))), by decide +kernel, by decide +kernel, _, rfl, rfl⟩
set_option maxRecDepth 100000 in
theorem fk_i144 : fk_I (144, 8, 0) := ⟨fk_q144, fk_in6 (List.mem_of_getElem? (i := 25) rfl), fk_sel (q := (⟨"FoldForge$Program", "clear", "()V"⟩, 14)) (List.mem_append_right _ (List.mem_append_right _ (List.mem_append_right _ (List.mem_append_right _ (List.mem_append_right _ (List.mem_append_right _ (List.mem_append_left _ (List.mem_of_getElem? (i := 4) rfl)))))))), by decide +kernel, by decide +kernel, _, rfl, rfl⟩
set_option maxRecDepth 100000 in
theorem fk_i145 : fk_I (145, 7, 0) := ⟨fk_q145, fk_in6 (List.mem_of_getElem? (i := 30) rfl), fk_sel (q := (⟨"FoldForge$Parser", "readTokens", "()V"⟩, 14)) (List.mem_append_right _ (List.mem_append_right _ (List.mem_append_right _ (List.mem_append_right _ (List.mem_append_right _ (List.mem_append_right _ (List.mem_append_left _ (List.mem_of_getElem? (i := 5) rfl)))))))), by decide +kernel, by decide +kernel, _, rfl, rfl⟩
set_option maxRecDepth 100000 in
theorem fk_i146 : fk_I (146, 7, 0) := ⟨fk_q146, fk_in6 (List.mem_of_getElem? (i := 34) rfl), fk_sel (q := (⟨"FoldForge$Parser", "skipBlanks", "()V"⟩, 14)) (List.mem_append_right _ (List.mem_append_right _ (List.mem_append_right _ (List.mem_append_right _ (List.mem_append_right _ (List.mem_append_right _ (List.mem_append_left _ (List.mem_of_getElem? (i := 6) rfl)))))))), by decide +kernel, by decide +kernel, _, rfl, rfl⟩
set_option maxRecDepth 100000 in
theorem fk_i147 : fk_I (147, 7, 1) := ⟨fk_q147, fk_in6 (List.mem_of_getElem? (i := 38) rfl), fk_sel (q := (⟨"FoldForge$Parser", "byteAt", "(I)I"⟩, 14)) (List.mem_append_right _ (List.mem_append_right _ (List.mem_append_right _ (List.mem_append_right _ (List.mem_append_right _ (List.mem_append_right _ (List.mem_append_left _ (List.mem_of_getElem? (i := 7) rfl)))))))), by decide +kernel, by decide +kernel, _, rfl, rfl⟩
set_option maxRecDepth 100000 in
theorem fk_i148 : fk_I (148, 7, 1) := ⟨fk_q148, fk_in6 (List.mem_of_getElem? (i := 42) rfl), fk_sel (q := (⟨"FoldForge$Parser", "oneToken", "(I)V"⟩, 14)) (List.mem_append_right _ (List.mem_append_right _ (List.mem_append_right _ (List.mem_append_right _ (List.mem_append_right _ (List.mem_append_right _ (List.mem_append_left _ (List.mem_of_getElem? (i := 8) rfl)))))))), by decide +kernel, by decide +kernel, _, rfl, rfl⟩
set_option maxRecDepth 100000 in
theorem fk_s149 : fk_S (149, 1) := ⟨fk_q149, fk_in6 (List.mem_of_getElem? (i := 45) rfl), by decide +kernel, by decide +kernel⟩
set_option maxRecDepth 100000 in
theorem fk_i150 : fk_I (150, 7, 0) := ⟨fk_q150, fk_in6 (List.mem_of_getElem? (i := 49) rfl), fk_sel (q := (⟨"FoldForge$Parser", "word", "()V"⟩, 14)) (List.mem_append_right _ (List.mem_append_right _ (List.mem_append_right _ (List.mem_append_right _ (List.mem_append_right _ (List.mem_append_right _ (List.mem_append_left _ (List.mem_of_getElem? (i := 9) rfl)))))))), by decide +kernel, by decide +kernel, _, rfl, rfl⟩
set_option maxRecDepth 100000 in
theorem fk_s151 : fk_S (151, 1) := ⟨fk_q151, fk_in6 (List.mem_of_getElem? (i := 52) rfl), by decide +kernel, by decide +kernel⟩
set_option maxRecDepth 100000 in
theorem fk_i154 : fk_I (154, 7, 1) := ⟨fk_q154, fk_in6 (List.mem_of_getElem? (i := 68) rfl), fk_sel (q := (⟨"FoldForge$Parser", "isKeyword", "(I)Z"⟩, 14)) (List.mem_append_right _ (List.mem_append_right _ (List.mem_append_right _ (List.mem_append_right _ (List.mem_append_right _ (List.mem_append_right _ (List.mem_append_left _ (List.mem_of_getElem? (i := 10) rfl)))))))), by decide +kernel, by decide +kernel, _, rfl, rfl⟩
set_option maxRecDepth 100000 in
theorem fk_s157 : fk_S (157, 2) := ⟨fk_q157, fk_in6 (List.mem_of_getElem? (i := 79) rfl), by decide +kernel, by decide +kernel⟩
set_option maxRecDepth 100000 in
theorem fk_s158 : fk_S (158, 2) := ⟨fk_q158, fk_in6 (List.mem_of_getElem? (i := 82) rfl), by decide +kernel, by decide +kernel⟩
set_option maxRecDepth 100000 in
theorem fk_s159 : fk_S (159, 3) := ⟨fk_q159, fk_in6 (List.mem_of_getElem? (i := 87) rfl), by decide +kernel, by decide +kernel⟩
set_option maxRecDepth 100000 in
theorem fk_s160 : fk_S (160, 2) := ⟨fk_q160, fk_in6 (List.mem_of_getElem? (i := 90) rfl), by decide +kernel, by decide +kernel⟩
set_option maxRecDepth 100000 in
theorem fk_s161 : fk_S (161, 2) := ⟨fk_q161, fk_in6 (List.mem_of_getElem? (i := 93) rfl), by decide +kernel, by decide +kernel⟩
set_option maxRecDepth 100000 in
theorem fk_s162 : fk_S (162, 1) := ⟨fk_q162, fk_in6 (List.mem_of_getElem? (i := 96) rfl), by decide +kernel, by decide +kernel⟩
set_option maxRecDepth 100000 in
theorem fk_s163 : fk_S (163, 2) := ⟨fk_q163, fk_in6 (List.mem_of_getElem? (i := 100) rfl), by decide +kernel, by decide +kernel⟩
set_option maxRecDepth 100000 in
theorem fk_i164 : fk_I (164, 7, 0) := ⟨fk_q164, fk_in6 (List.mem_of_getElem? (i := 110) rfl), fk_sel (q := (⟨"FoldForge$Parser", "number", "()V"⟩, 14)) (List.mem_append_right _ (List.mem_append_right _ (List.mem_append_right _ (List.mem_append_right _ (List.mem_append_right _ (List.mem_append_right _ (List.mem_append_left _ (List.mem_of_getElem? (i := 11) rfl)))))))), by decide +kernel, by decide +kernel, _, rfl, rfl⟩
set_option maxRecDepth 100000 in
theorem fk_i165 : fk_I (165, 7, 1) := ⟨fk_q165, fk_in6 (List.mem_of_getElem? (i := 119) rfl), fk_sel (q := (⟨"FoldForge$Parser", "sign", "(I)V"⟩, 14)) (List.mem_append_right _ (List.mem_append_right _ (List.mem_append_right _ (List.mem_append_right _ (List.mem_append_right _ (List.mem_append_right _ (List.mem_append_left _ (List.mem_of_getElem? (i := 12) rfl)))))))), by decide +kernel, by decide +kernel, _, rfl, rfl⟩
set_option maxRecDepth 100000 in
theorem fk_s168 : fk_S (168, 4) := ⟨fk_q168, fk_in6 (List.mem_of_getElem? (i := 132) rfl), by decide +kernel, by decide +kernel⟩
set_option maxRecDepth 100000 in
theorem fk_s169 : fk_S (169, 1) := ⟨fk_q169, fk_in6 (List.mem_of_getElem? (i := 135) rfl), by decide +kernel, by decide +kernel⟩
set_option maxRecDepth 100000 in
theorem fk_s170 : fk_S (170, 4) := ⟨fk_q170, fk_in6 (List.mem_of_getElem? (i := 140) rfl), by decide +kernel, by decide +kernel⟩
set_option maxRecDepth 100000 in
theorem fk_s171 : fk_S (171, 4) := ⟨fk_q171, fk_in6 (List.mem_of_getElem? (i := 143) rfl), by decide +kernel, by decide +kernel⟩
set_option maxRecDepth 100000 in
theorem fk_s172 : fk_S (172, 4) := ⟨fk_q172, fk_in6 (List.mem_of_getElem? (i := 149) rfl), by decide +kernel, by decide +kernel⟩
set_option maxRecDepth 100000 in
theorem fk_s173 : fk_S (173, 3) := ⟨fk_q173, fk_in6 (List.mem_of_getElem? (i := 152) rfl), by decide +kernel, by decide +kernel⟩
set_option maxRecDepth 100000 in
theorem fk_s174 : fk_S (174, 3) := ⟨fk_q174, fk_in6 (List.mem_of_getElem? (i := 155) rfl), by decide +kernel, by decide +kernel⟩
set_option maxRecDepth 100000 in
theorem fk_s175 : fk_S (175, 4) := ⟨fk_q175, fk_in6 (List.mem_of_getElem? (i := 158) rfl), by decide +kernel, by decide +kernel⟩
set_option maxRecDepth 100000 in
theorem fk_s176 : fk_S (176, 4) := ⟨fk_q176, fk_in6 (List.mem_of_getElem? (i := 161) rfl), by decide +kernel, by decide +kernel⟩
set_option maxRecDepth 100000 in
theorem fk_s177 : fk_S (177, 4) := ⟨fk_q177, fk_in6 (List.mem_of_getElem? (i := 164) rfl), by decide +kernel, by decide +kernel⟩
set_option maxRecDepth 100000 in
theorem fk_s178 : fk_S (178, 1) := ⟨fk_q178, fk_in6 (List.mem_of_getElem? (i := 167) rfl), by decide +kernel, by decide +kernel⟩
set_option maxRecDepth 100000 in
theorem fk_s179 : fk_S (179, 1) := ⟨fk_q179, fk_in6 (List.mem_of_getElem? (i := 170) rfl), by decide +kernel, by decide +kernel⟩
set_option maxRecDepth 100000 in
theorem fk_s180 : fk_S (180, 1) := ⟨fk_q180, fk_in6 (List.mem_of_getElem? (i := 174) rfl), by decide +kernel, by decide +kernel⟩
set_option maxRecDepth 100000 in
theorem fk_i181 : fk_I (181, 7, 0) := ⟨fk_q181, fk_in6 (List.mem_of_getElem? (i := 179) rfl), fk_sel (q := (⟨"FoldForge$Parser", "keepToken", "()V"⟩, 14)) (List.mem_append_right _ (List.mem_append_right _ (List.mem_append_right _ (List.mem_append_right _ (List.mem_append_right _ (List.mem_append_right _ (List.mem_append_left _ (List.mem_of_getElem? (i := 13) rfl)))))))), by decide +kernel, by decide +kernel, _, rfl, rfl⟩
set_option maxRecDepth 100000 in
theorem fk_i182 : fk_I (182, 7, 0) := ⟨fk_q182, fk_in6 (List.mem_of_getElem? (i := 183) rfl), fk_sel (q := (⟨"FoldForge$Parser", "advance", "()V"⟩, 14)) (List.mem_append_right _ (List.mem_append_right _ (List.mem_append_right _ (List.mem_append_right _ (List.mem_append_right _ (List.mem_append_right _ (List.mem_append_left _ (List.mem_of_getElem? (i := 14) rfl)))))))), by decide +kernel, by decide +kernel, _, rfl, rfl⟩
set_option maxRecDepth 100000 in
theorem fk_i183 : fk_I (183, 7, 0) := ⟨fk_q183, fk_in6 (List.mem_of_getElem? (i := 187) rfl), fk_sel (q := (⟨"FoldForge$Parser", "fine", "()Z"⟩, 14)) (List.mem_append_right _ (List.mem_append_right _ (List.mem_append_right _ (List.mem_append_right _ (List.mem_append_right _ (List.mem_append_right _ (List.mem_append_left _ (List.mem_of_getElem? (i := 15) rfl)))))))), by decide +kernel, by decide +kernel, _, rfl, rfl⟩
set_option maxRecDepth 100000 in
theorem fk_i184 : fk_I (184, 7, 1) := ⟨fk_q184, fk_in6 (List.mem_of_getElem? (i := 191) rfl), fk_sel (q := (⟨"FoldForge$Parser", "definition", "(I)V"⟩, 14)) (List.mem_append_right _ (List.mem_append_right _ (List.mem_append_right _ (List.mem_append_right _ (List.mem_append_right _ (List.mem_append_right _ (List.mem_append_right _ (List.mem_append_left _ (List.mem_of_getElem? (i := 0) rfl))))))))), by decide +kernel, by decide +kernel, _, rfl, rfl⟩
set_option maxRecDepth 100000 in
theorem fk_i185 : fk_I (185, 7, 1) := ⟨fk_q185, fk_in6 (List.mem_of_getElem? (i := 195) rfl), fk_sel (q := (⟨"FoldForge$Parser", "expect", "(I)V"⟩, 14)) (List.mem_append_right _ (List.mem_append_right _ (List.mem_append_right _ (List.mem_append_right _ (List.mem_append_right _ (List.mem_append_right _ (List.mem_append_right _ (List.mem_append_left _ (List.mem_of_getElem? (i := 1) rfl))))))))), by decide +kernel, by decide +kernel, _, rfl, rfl⟩
set_option maxRecDepth 100000 in
theorem fk_i186 : fk_I (186, 7, 0) := ⟨fk_q186, fk_in6 (List.mem_of_getElem? (i := 199) rfl), fk_sel (q := (⟨"FoldForge$Parser", "fail", "()V"⟩, 14)) (List.mem_append_right _ (List.mem_append_right _ (List.mem_append_right _ (List.mem_append_right _ (List.mem_append_right _ (List.mem_append_right _ (List.mem_append_right _ (List.mem_append_left _ (List.mem_of_getElem? (i := 2) rfl))))))))), by decide +kernel, by decide +kernel, _, rfl, rfl⟩
set_option maxRecDepth 100000 in
theorem fk_i187 : fk_I (187, 7, 0) := ⟨fk_q187, fk_in6 (List.mem_of_getElem? (i := 203) rfl), fk_sel (q := (⟨"FoldForge$Parser", "type", "()I"⟩, 14)) (List.mem_append_right _ (List.mem_append_right _ (List.mem_append_right _ (List.mem_append_right _ (List.mem_append_right _ (List.mem_append_right _ (List.mem_append_right _ (List.mem_append_left _ (List.mem_of_getElem? (i := 3) rfl))))))))), by decide +kernel, by decide +kernel, _, rfl, rfl⟩
set_option maxRecDepth 100000 in
theorem fk_i188 : fk_I (188, 7, 1) := ⟨fk_q188, fk_in6 (List.mem_of_getElem? (i := 207) rfl), fk_sel (q := (⟨"FoldForge$Parser", "expression", "(I)V"⟩, 14)) (List.mem_append_right _ (List.mem_append_right _ (List.mem_append_right _ (List.mem_append_right _ (List.mem_append_right _ (List.mem_append_right _ (List.mem_append_right _ (List.mem_append_left _ (List.mem_of_getElem? (i := 4) rfl))))))))), by decide +kernel, by decide +kernel, _, rfl, rfl⟩
set_option maxRecDepth 100000 in
theorem fk_i189 : fk_I (189, 7, 1) := ⟨fk_q189, fk_in6 (List.mem_of_getElem? (i := 211) rfl), fk_sel (q := (⟨"FoldForge$Parser", "letIn", "(I)V"⟩, 14)) (List.mem_append_right _ (List.mem_append_right _ (List.mem_append_right _ (List.mem_append_right _ (List.mem_append_right _ (List.mem_append_right _ (List.mem_append_right _ (List.mem_append_left _ (List.mem_of_getElem? (i := 5) rfl))))))))), by decide +kernel, by decide +kernel, _, rfl, rfl⟩
set_option maxRecDepth 100000 in
theorem fk_i190 : fk_I (190, 8, 4) := ⟨fk_q190, fk_in6 (List.mem_of_getElem? (i := 215) rfl), fk_sel (q := (⟨"FoldForge$Program", "add", "(IJII)I"⟩, 14)) (List.mem_append_right _ (List.mem_append_right _ (List.mem_append_right _ (List.mem_append_right _ (List.mem_append_right _ (List.mem_append_right _ (List.mem_append_right _ (List.mem_append_left _ (List.mem_of_getElem? (i := 6) rfl))))))))), by decide +kernel, by decide +kernel, _, rfl, rfl⟩
set_option maxRecDepth 100000 in
theorem fk_i191 : fk_I (191, 7, 1) := ⟨fk_q191, fk_in6 (List.mem_of_getElem? (i := 219) rfl), fk_sel (q := (⟨"FoldForge$Parser", "ifElse", "(I)V"⟩, 14)) (List.mem_append_right _ (List.mem_append_right _ (List.mem_append_right _ (List.mem_append_right _ (List.mem_append_right _ (List.mem_append_right _ (List.mem_append_right _ (List.mem_append_left _ (List.mem_of_getElem? (i := 7) rfl))))))))), by decide +kernel, by decide +kernel, _, rfl, rfl⟩
set_option maxRecDepth 100000 in
theorem fk_i192 : fk_I (192, 7, 2) := ⟨fk_q192, fk_in6 (List.mem_of_getElem? (i := 223) rfl), fk_sel (q := (⟨"FoldForge$Parser", "wanted", "(II)V"⟩, 14)) (List.mem_append_right _ (List.mem_append_right _ (List.mem_append_right _ (List.mem_append_right _ (List.mem_append_right _ (List.mem_append_right _ (List.mem_append_right _ (List.mem_append_left _ (List.mem_of_getElem? (i := 8) rfl))))))))), by decide +kernel, by decide +kernel, _, rfl, rfl⟩
set_option maxRecDepth 100000 in
theorem fk_i193 : fk_I (193, 8, 1) := ⟨fk_q193, fk_in6 (List.mem_of_getElem? (i := 227) rfl), fk_sel (q := (⟨"FoldForge$Program", "land", "(I)V"⟩, 14)) (List.mem_append_right _ (List.mem_append_right _ (List.mem_append_right _ (List.mem_append_right _ (List.mem_append_right _ (List.mem_append_right _ (List.mem_append_right _ (List.mem_append_left _ (List.mem_of_getElem? (i := 9) rfl))))))))), by decide +kernel, by decide +kernel, _, rfl, rfl⟩
set_option maxRecDepth 100000 in
theorem fk_i194 : fk_I (194, 7, 1) := ⟨fk_q194, fk_in6 (List.mem_of_getElem? (i := 231) rfl), fk_sel (q := (⟨"FoldForge$Parser", "match", "(I)V"⟩, 14)) (List.mem_append_right _ (List.mem_append_right _ (List.mem_append_right _ (List.mem_append_right _ (List.mem_append_right _ (List.mem_append_right _ (List.mem_append_right _ (List.mem_append_left _ (List.mem_of_getElem? (i := 10) rfl))))))))), by decide +kernel, by decide +kernel, _, rfl, rfl⟩
set_option maxRecDepth 100000 in
theorem fk_i195 : fk_I (195, 7, 1) := ⟨fk_q195, fk_in6 (List.mem_of_getElem? (i := 235) rfl), fk_sel (q := (⟨"FoldForge$Parser", "bindPart", "(I)V"⟩, 14)) (List.mem_append_right _ (List.mem_append_right _ (List.mem_append_right _ (List.mem_append_right _ (List.mem_append_right _ (List.mem_append_right _ (List.mem_append_right _ (List.mem_append_left _ (List.mem_of_getElem? (i := 11) rfl))))))))), by decide +kernel, by decide +kernel, _, rfl, rfl⟩
set_option maxRecDepth 100000 in
theorem fk_i196 : fk_I (196, 7, 2) := ⟨fk_q196, fk_in7 (List.mem_of_getElem? (i := 0) rfl), fk_sel (q := (⟨"FoldForge$Parser", "parts", "(II)V"⟩, 14)) (List.mem_append_right _ (List.mem_append_right _ (List.mem_append_right _ (List.mem_append_right _ (List.mem_append_right _ (List.mem_append_right _ (List.mem_append_right _ (List.mem_append_left _ (List.mem_of_getElem? (i := 12) rfl))))))))), by decide +kernel, by decide +kernel, _, rfl, rfl⟩
set_option maxRecDepth 100000 in
theorem fk_i197 : fk_I (197, 7, 1) := ⟨fk_q197, fk_in7 (List.mem_of_getElem? (i := 4) rfl), fk_sel (q := (⟨"FoldForge$Parser", "atom", "(I)V"⟩, 14)) (List.mem_append_right _ (List.mem_append_right _ (List.mem_append_right _ (List.mem_append_right _ (List.mem_append_right _ (List.mem_append_right _ (List.mem_append_right _ (List.mem_append_left _ (List.mem_of_getElem? (i := 13) rfl))))))))), by decide +kernel, by decide +kernel, _, rfl, rfl⟩
set_option maxRecDepth 100000 in
theorem fk_i198 : fk_I (198, 7, 0) := ⟨fk_q198, fk_in7 (List.mem_of_getElem? (i := 8) rfl), fk_sel (q := (⟨"FoldForge$Parser", "countAtom", "()V"⟩, 14)) (List.mem_append_right _ (List.mem_append_right _ (List.mem_append_right _ (List.mem_append_right _ (List.mem_append_right _ (List.mem_append_right _ (List.mem_append_right _ (List.mem_append_left _ (List.mem_of_getElem? (i := 14) rfl))))))))), by decide +kernel, by decide +kernel, _, rfl, rfl⟩
set_option maxRecDepth 100000 in
theorem fk_i199 : fk_I (199, 7, 1) := ⟨fk_q199, fk_in7 (List.mem_of_getElem? (i := 12) rfl), fk_sel (q := (⟨"FoldForge$Parser", "plainAtom", "(I)V"⟩, 14)) (List.mem_append_right _ (List.mem_append_right _ (List.mem_append_right _ (List.mem_append_right _ (List.mem_append_right _ (List.mem_append_right _ (List.mem_append_right _ (List.mem_append_left _ (List.mem_of_getElem? (i := 15) rfl))))))))), by decide +kernel, by decide +kernel, _, rfl, rfl⟩
set_option maxRecDepth 100000 in
theorem fk_i200 : fk_I (200, 7, 1) := ⟨fk_q200, fk_in7 (List.mem_of_getElem? (i := 16) rfl), fk_sel (q := (⟨"FoldForge$Parser", "nameOrCall", "(I)V"⟩, 14)) (List.mem_append_right _ (List.mem_append_right _ (List.mem_append_right _ (List.mem_append_right _ (List.mem_append_right _ (List.mem_append_right _ (List.mem_append_right _ (List.mem_append_right _ (List.mem_append_left _ (List.mem_of_getElem? (i := 0) rfl)))))))))), by decide +kernel, by decide +kernel, _, rfl, rfl⟩
set_option maxRecDepth 100000 in
theorem fk_i201 : fk_I (201, 7, 4) := ⟨fk_q201, fk_in7 (List.mem_of_getElem? (i := 20) rfl), fk_sel (q := (⟨"FoldForge$Parser", "pair", "(IIII)V"⟩, 14)) (List.mem_append_right _ (List.mem_append_right _ (List.mem_append_right _ (List.mem_append_right _ (List.mem_append_right _ (List.mem_append_right _ (List.mem_append_right _ (List.mem_append_right _ (List.mem_append_left _ (List.mem_of_getElem? (i := 1) rfl)))))))))), by decide +kernel, by decide +kernel, _, rfl, rfl⟩
set_option maxRecDepth 100000 in
theorem fk_s202 : fk_S (202, 1) := ⟨fk_q202, fk_in7 (List.mem_of_getElem? (i := 23) rfl), by decide +kernel, by decide +kernel⟩
set_option maxRecDepth 100000 in
theorem fk_i203 : fk_I (203, 0, 1) := ⟨fk_q203, fk_in7 (List.mem_of_getElem? (i := 27) rfl), fk_sel (q := (⟨"FoldForge$Checker", "faultOf", "(LFoldForge$Program;)I"⟩, 9)) (List.mem_append_right _ (List.mem_append_right _ (List.mem_append_right _ (List.mem_append_right _ (List.mem_append_right _ (List.mem_append_right _ (List.mem_append_right _ (List.mem_append_right _ (List.mem_append_left _ (List.mem_of_getElem? (i := 2) rfl)))))))))), by decide +kernel, by decide +kernel, _, rfl, rfl⟩
set_option maxRecDepth 100000 in
theorem fk_i204 : fk_I (204, 0, 1) := ⟨fk_q204, fk_in7 (List.mem_of_getElem? (i := 31) rfl), fk_sel (q := (⟨"FoldForge$Checker", "checkNames", "(I)V"⟩, 9)) (List.mem_append_right _ (List.mem_append_right _ (List.mem_append_right _ (List.mem_append_right _ (List.mem_append_right _ (List.mem_append_right _ (List.mem_append_right _ (List.mem_append_right _ (List.mem_append_left _ (List.mem_of_getElem? (i := 3) rfl)))))))))), by decide +kernel, by decide +kernel, _, rfl, rfl⟩
set_option maxRecDepth 100000 in
theorem fk_i205 : fk_I (205, 8, 1) := ⟨fk_q205, fk_in7 (List.mem_of_getElem? (i := 35) rfl), fk_sel (q := (⟨"FoldForge$Program", "find", "(J)I"⟩, 14)) (List.mem_append_right _ (List.mem_append_right _ (List.mem_append_right _ (List.mem_append_right _ (List.mem_append_right _ (List.mem_append_right _ (List.mem_append_right _ (List.mem_append_right _ (List.mem_append_left _ (List.mem_of_getElem? (i := 4) rfl)))))))))), by decide +kernel, by decide +kernel, _, rfl, rfl⟩
set_option maxRecDepth 100000 in
theorem fk_i206 : fk_I (206, 0, 1) := ⟨fk_q206, fk_in7 (List.mem_of_getElem? (i := 39) rfl), fk_sel (q := (⟨"FoldForge$Checker", "note", "(I)V"⟩, 9)) (List.mem_append_right _ (List.mem_append_right _ (List.mem_append_right _ (List.mem_append_right _ (List.mem_append_right _ (List.mem_append_right _ (List.mem_append_right _ (List.mem_append_right _ (List.mem_append_left _ (List.mem_of_getElem? (i := 5) rfl)))))))))), by decide +kernel, by decide +kernel, _, rfl, rfl⟩
set_option maxRecDepth 100000 in
theorem fk_i207 : fk_I (207, 0, 1) := ⟨fk_q207, fk_in7 (List.mem_of_getElem? (i := 43) rfl), fk_sel (q := (⟨"FoldForge$Checker", "checkBody", "(I)V"⟩, 9)) (List.mem_append_right _ (List.mem_append_right _ (List.mem_append_right _ (List.mem_append_right _ (List.mem_append_right _ (List.mem_append_right _ (List.mem_append_right _ (List.mem_append_right _ (List.mem_append_left _ (List.mem_of_getElem? (i := 6) rfl)))))))))), by decide +kernel, by decide +kernel, _, rfl, rfl⟩
set_option maxRecDepth 100000 in
theorem fk_i208 : fk_I (208, 0, 1) := ⟨fk_q208, fk_in7 (List.mem_of_getElem? (i := 47) rfl), fk_sel (q := (⟨"FoldForge$Checker", "push", "(I)V"⟩, 9)) (List.mem_append_right _ (List.mem_append_right _ (List.mem_append_right _ (List.mem_append_right _ (List.mem_append_right _ (List.mem_append_right _ (List.mem_append_right _ (List.mem_append_right _ (List.mem_append_left _ (List.mem_of_getElem? (i := 7) rfl)))))))))), by decide +kernel, by decide +kernel, _, rfl, rfl⟩
set_option maxRecDepth 100000 in
theorem fk_i209 : fk_I (209, 0, 2) := ⟨fk_q209, fk_in7 (List.mem_of_getElem? (i := 51) rfl), fk_sel (q := (⟨"FoldForge$Checker", "bind", "(JI)V"⟩, 9)) (List.mem_append_right _ (List.mem_append_right _ (List.mem_append_right _ (List.mem_append_right _ (List.mem_append_right _ (List.mem_append_right _ (List.mem_append_right _ (List.mem_append_right _ (List.mem_append_left _ (List.mem_of_getElem? (i := 8) rfl)))))))))), by decide +kernel, by decide +kernel, _, rfl, rfl⟩
set_option maxRecDepth 100000 in
theorem fk_i210 : fk_I (210, 0, 2) := ⟨fk_q210, fk_in7 (List.mem_of_getElem? (i := 55) rfl), fk_sel (q := (⟨"FoldForge$Checker", "want", "(II)V"⟩, 9)) (List.mem_append_right _ (List.mem_append_right _ (List.mem_append_right _ (List.mem_append_right _ (List.mem_append_right _ (List.mem_append_right _ (List.mem_append_right _ (List.mem_append_right _ (List.mem_append_left _ (List.mem_of_getElem? (i := 9) rfl)))))))))), by decide +kernel, by decide +kernel, _, rfl, rfl⟩
set_option maxRecDepth 100000 in
theorem fk_i211 : fk_I (211, 0, 0) := ⟨fk_q211, fk_in7 (List.mem_of_getElem? (i := 59) rfl), fk_sel (q := (⟨"FoldForge$Checker", "pop", "()I"⟩, 9)) (List.mem_append_right _ (List.mem_append_right _ (List.mem_append_right _ (List.mem_append_right _ (List.mem_append_right _ (List.mem_append_right _ (List.mem_append_right _ (List.mem_append_right _ (List.mem_append_left _ (List.mem_of_getElem? (i := 10) rfl)))))))))), by decide +kernel, by decide +kernel, _, rfl, rfl⟩
set_option maxRecDepth 100000 in
theorem fk_i212 : fk_I (212, 0, 2) := ⟨fk_q212, fk_in7 (List.mem_of_getElem? (i := 63) rfl), fk_sel (q := (⟨"FoldForge$Checker", "check", "(II)V"⟩, 9)) (List.mem_append_right _ (List.mem_append_right _ (List.mem_append_right _ (List.mem_append_right _ (List.mem_append_right _ (List.mem_append_right _ (List.mem_append_right _ (List.mem_append_right _ (List.mem_append_left _ (List.mem_of_getElem? (i := 11) rfl)))))))))), by decide +kernel, by decide +kernel, _, rfl, rfl⟩
set_option maxRecDepth 100000 in
theorem fk_i213 : fk_I (213, 0, 1) := ⟨fk_q213, fk_in7 (List.mem_of_getElem? (i := 67) rfl), fk_sel (q := (⟨"FoldForge$Checker", "name", "(I)V"⟩, 9)) (List.mem_append_right _ (List.mem_append_right _ (List.mem_append_right _ (List.mem_append_right _ (List.mem_append_right _ (List.mem_append_right _ (List.mem_append_right _ (List.mem_append_right _ (List.mem_append_left _ (List.mem_of_getElem? (i := 12) rfl)))))))))), by decide +kernel, by decide +kernel, _, rfl, rfl⟩
set_option maxRecDepth 100000 in
theorem fk_i214 : fk_I (214, 0, 1) := ⟨fk_q214, fk_in7 (List.mem_of_getElem? (i := 71) rfl), fk_sel (q := (⟨"FoldForge$Checker", "slotOf", "(J)I"⟩, 9)) (List.mem_append_right _ (List.mem_append_right _ (List.mem_append_right _ (List.mem_append_right _ (List.mem_append_right _ (List.mem_append_right _ (List.mem_append_right _ (List.mem_append_right _ (List.mem_append_left _ (List.mem_of_getElem? (i := 13) rfl)))))))))), by decide +kernel, by decide +kernel, _, rfl, rfl⟩
set_option maxRecDepth 100000 in
theorem fk_i215 : fk_I (215, 0, 1) := ⟨fk_q215, fk_in7 (List.mem_of_getElem? (i := 75) rfl), fk_sel (q := (⟨"FoldForge$Checker", "callOf", "(I)V"⟩, 9)) (List.mem_append_right _ (List.mem_append_right _ (List.mem_append_right _ (List.mem_append_right _ (List.mem_append_right _ (List.mem_append_right _ (List.mem_append_right _ (List.mem_append_right _ (List.mem_append_left _ (List.mem_of_getElem? (i := 14) rfl)))))))))), by decide +kernel, by decide +kernel, _, rfl, rfl⟩
set_option maxRecDepth 100000 in
theorem fk_i216 : fk_I (216, 0, 1) := ⟨fk_q216, fk_in7 (List.mem_of_getElem? (i := 79) rfl), fk_sel (q := (⟨"FoldForge$Checker", "drop", "(I)V"⟩, 9)) (List.mem_append_right _ (List.mem_append_right _ (List.mem_append_right _ (List.mem_append_right _ (List.mem_append_right _ (List.mem_append_right _ (List.mem_append_right _ (List.mem_append_right _ (List.mem_append_left _ (List.mem_of_getElem? (i := 15) rfl)))))))))), by decide +kernel, by decide +kernel, _, rfl, rfl⟩
set_option maxRecDepth 100000 in
theorem fk_i217 : fk_I (217, 0, 1) := ⟨fk_q217, fk_in7 (List.mem_of_getElem? (i := 84) rfl), fk_sel (q := (⟨"FoldForge$Checker", "actOf", "(I)V"⟩, 9)) (List.mem_append_right _ (List.mem_append_right _ (List.mem_append_right _ (List.mem_append_right _ (List.mem_append_right _ (List.mem_append_right _ (List.mem_append_right _ (List.mem_append_right _ (List.mem_append_right _ (List.mem_append_left _ (List.mem_of_getElem? (i := 0) rfl))))))))))), by decide +kernel, by decide +kernel, _, rfl, rfl⟩
set_option maxRecDepth 100000 in
theorem fk_i218 : fk_I (218, 8, 1) := ⟨fk_q218, fk_in7 (List.mem_of_getElem? (i := 88) rfl), fk_sel (q := (⟨"FoldForge$Program", "takesAndGivesInt", "(I)Z"⟩, 14)) (List.mem_append_right _ (List.mem_append_right _ (List.mem_append_right _ (List.mem_append_right _ (List.mem_append_right _ (List.mem_append_right _ (List.mem_append_right _ (List.mem_append_right _ (List.mem_append_right _ (List.mem_append_left _ (List.mem_of_getElem? (i := 1) rfl))))))))))), by decide +kernel, by decide +kernel, _, rfl, rfl⟩
set_option maxRecDepth 100000 in
theorem fk_i219 : fk_I (219, 0, 1) := ⟨fk_q219, fk_in7 (List.mem_of_getElem? (i := 92) rfl), fk_sel (q := (⟨"FoldForge$Checker", "pass", "(I)V"⟩, 9)) (List.mem_append_right _ (List.mem_append_right _ (List.mem_append_right _ (List.mem_append_right _ (List.mem_append_right _ (List.mem_append_right _ (List.mem_append_right _ (List.mem_append_right _ (List.mem_append_right _ (List.mem_append_left _ (List.mem_of_getElem? (i := 2) rfl))))))))))), by decide +kernel, by decide +kernel, _, rfl, rfl⟩
set_option maxRecDepth 100000 in
theorem fk_i220 : fk_I (220, 0, 2) := ⟨fk_q220, fk_in7 (List.mem_of_getElem? (i := 96) rfl), fk_sel (q := (⟨"FoldForge$Checker", "checkParts", "(II)V"⟩, 9)) (List.mem_append_right _ (List.mem_append_right _ (List.mem_append_right _ (List.mem_append_right _ (List.mem_append_right _ (List.mem_append_right _ (List.mem_append_right _ (List.mem_append_right _ (List.mem_append_right _ (List.mem_append_left _ (List.mem_of_getElem? (i := 3) rfl))))))))))), by decide +kernel, by decide +kernel, _, rfl, rfl⟩
set_option maxRecDepth 100000 in
theorem fk_i221 : fk_I (221, 0, 0) := ⟨fk_q221, fk_in7 (List.mem_of_getElem? (i := 100) rfl), fk_sel (q := (⟨"FoldForge$Checker", "endFirstPart", "()V"⟩, 9)) (List.mem_append_right _ (List.mem_append_right _ (List.mem_append_right _ (List.mem_append_right _ (List.mem_append_right _ (List.mem_append_right _ (List.mem_append_right _ (List.mem_append_right _ (List.mem_append_right _ (List.mem_append_left _ (List.mem_of_getElem? (i := 4) rfl))))))))))), by decide +kernel, by decide +kernel, _, rfl, rfl⟩
set_option maxRecDepth 100000 in
theorem fk_i222 : fk_I (222, 0, 1) := ⟨fk_q222, fk_in7 (List.mem_of_getElem? (i := 104) rfl), fk_sel (q := (⟨"FoldForge$Checker", "unbind", "(I)V"⟩, 9)) (List.mem_append_right _ (List.mem_append_right _ (List.mem_append_right _ (List.mem_append_right _ (List.mem_append_right _ (List.mem_append_right _ (List.mem_append_right _ (List.mem_append_right _ (List.mem_append_right _ (List.mem_append_left _ (List.mem_of_getElem? (i := 5) rfl))))))))))), by decide +kernel, by decide +kernel, _, rfl, rfl⟩
set_option maxRecDepth 100000 in
theorem fk_i223 : fk_I (223, 11, 1) := ⟨fk_q223, fk_in7 (List.mem_of_getElem? (i := 107) rfl), fk_in7 (List.mem_of_getElem? (i := 108) rfl), by decide +kernel, by decide +kernel, _, rfl, rfl⟩
set_option maxRecDepth 100000 in
theorem fk_i224 : fk_I (224, 9, 3) := ⟨fk_q224, fk_in7 (List.mem_of_getElem? (i := 113) rfl), fk_sel (q := (⟨"FoldForge$Runner", "start", "(LFoldForge$Program;I[J)V"⟩, 14)) (List.mem_append_right _ (List.mem_append_right _ (List.mem_append_right _ (List.mem_append_right _ (List.mem_append_right _ (List.mem_append_right _ (List.mem_append_right _ (List.mem_append_right _ (List.mem_append_right _ (List.mem_append_left _ (List.mem_of_getElem? (i := 6) rfl))))))))))), by decide +kernel, by decide +kernel, _, rfl, rfl⟩
set_option maxRecDepth 100000 in
theorem fk_i225 : fk_I (225, 9, 1) := ⟨fk_q225, fk_in7 (List.mem_of_getElem? (i := 117) rfl), fk_sel (q := (⟨"FoldForge$Runner", "push", "(I)V"⟩, 14)) (List.mem_append_right _ (List.mem_append_right _ (List.mem_append_right _ (List.mem_append_right _ (List.mem_append_right _ (List.mem_append_right _ (List.mem_append_right _ (List.mem_append_right _ (List.mem_append_right _ (List.mem_append_left _ (List.mem_of_getElem? (i := 7) rfl))))))))))), by decide +kernel, by decide +kernel, _, rfl, rfl⟩
set_option maxRecDepth 100000 in
theorem fk_i226 : fk_I (226, 9, 2) := ⟨fk_q226, fk_in7 (List.mem_of_getElem? (i := 121) rfl), fk_sel (q := (⟨"FoldForge$Runner", "enter", "(II)V"⟩, 14)) (List.mem_append_right _ (List.mem_append_right _ (List.mem_append_right _ (List.mem_append_right _ (List.mem_append_right _ (List.mem_append_right _ (List.mem_append_right _ (List.mem_append_right _ (List.mem_append_right _ (List.mem_append_left _ (List.mem_of_getElem? (i := 8) rfl))))))))))), by decide +kernel, by decide +kernel, _, rfl, rfl⟩
set_option maxRecDepth 100000 in
theorem fk_i227 : fk_I (227, 9, 2) := ⟨fk_q227, fk_in7 (List.mem_of_getElem? (i := 127) rfl), fk_sel (q := (⟨"FoldForge$Runner", "step", "(IJ)V"⟩, 14)) (List.mem_append_right _ (List.mem_append_right _ (List.mem_append_right _ (List.mem_append_right _ (List.mem_append_right _ (List.mem_append_right _ (List.mem_append_right _ (List.mem_append_right _ (List.mem_append_right _ (List.mem_append_left _ (List.mem_of_getElem? (i := 9) rfl))))))))))), by decide +kernel, by decide +kernel, _, rfl, rfl⟩
set_option maxRecDepth 100000 in
theorem fk_i228 : fk_I (228, 9, 1) := ⟨fk_q228, fk_in7 (List.mem_of_getElem? (i := 131) rfl), fk_sel (q := (⟨"FoldForge$Runner", "operate", "(I)V"⟩, 14)) (List.mem_append_right _ (List.mem_append_right _ (List.mem_append_right _ (List.mem_append_right _ (List.mem_append_right _ (List.mem_append_right _ (List.mem_append_right _ (List.mem_append_right _ (List.mem_append_right _ (List.mem_append_left _ (List.mem_of_getElem? (i := 10) rfl))))))))))), by decide +kernel, by decide +kernel, _, rfl, rfl⟩
set_option maxRecDepth 100000 in
theorem fk_i229 : fk_I (229, 9, 0) := ⟨fk_q229, fk_in7 (List.mem_of_getElem? (i := 135) rfl), fk_sel (q := (⟨"FoldForge$Runner", "pop", "()I"⟩, 14)) (List.mem_append_right _ (List.mem_append_right _ (List.mem_append_right _ (List.mem_append_right _ (List.mem_append_right _ (List.mem_append_right _ (List.mem_append_right _ (List.mem_append_right _ (List.mem_append_right _ (List.mem_append_left _ (List.mem_of_getElem? (i := 11) rfl))))))))))), by decide +kernel, by decide +kernel, _, rfl, rfl⟩
set_option maxRecDepth 100000 in
theorem fk_i230 : fk_I (230, 9, 3) := ⟨fk_q230, fk_in7 (List.mem_of_getElem? (i := 139) rfl), fk_sel (q := (⟨"FoldForge$Runner", "divide", "(III)V"⟩, 14)) (List.mem_append_right _ (List.mem_append_right _ (List.mem_append_right _ (List.mem_append_right _ (List.mem_append_right _ (List.mem_append_right _ (List.mem_append_right _ (List.mem_append_right _ (List.mem_append_right _ (List.mem_append_left _ (List.mem_of_getElem? (i := 12) rfl))))))))))), by decide +kernel, by decide +kernel, _, rfl, rfl⟩
set_option maxRecDepth 100000 in
theorem fk_i231 : fk_I (231, 9, 1) := ⟨fk_q231, fk_in7 (List.mem_of_getElem? (i := 143) rfl), fk_sel (q := (⟨"FoldForge$Runner", "standing", "(I)I"⟩, 14)) (List.mem_append_right _ (List.mem_append_right _ (List.mem_append_right _ (List.mem_append_right _ (List.mem_append_right _ (List.mem_append_right _ (List.mem_append_right _ (List.mem_append_right _ (List.mem_append_right _ (List.mem_append_left _ (List.mem_of_getElem? (i := 13) rfl))))))))))), by decide +kernel, by decide +kernel, _, rfl, rfl⟩
set_option maxRecDepth 100000 in
theorem fk_i232 : fk_I (232, 9, 0) := ⟨fk_q232, fk_in7 (List.mem_of_getElem? (i := 147) rfl), fk_sel (q := (⟨"FoldForge$Runner", "cons", "()V"⟩, 14)) (List.mem_append_right _ (List.mem_append_right _ (List.mem_append_right _ (List.mem_append_right _ (List.mem_append_right _ (List.mem_append_right _ (List.mem_append_right _ (List.mem_append_right _ (List.mem_append_right _ (List.mem_append_left _ (List.mem_of_getElem? (i := 14) rfl))))))))))), by decide +kernel, by decide +kernel, _, rfl, rfl⟩
set_option maxRecDepth 100000 in
theorem fk_i233 : fk_I (233, 9, 0) := ⟨fk_q233, fk_in7 (List.mem_of_getElem? (i := 151) rfl), fk_sel (q := (⟨"FoldForge$Runner", "leave", "()V"⟩, 14)) (List.mem_append_right _ (List.mem_append_right _ (List.mem_append_right _ (List.mem_append_right _ (List.mem_append_right _ (List.mem_append_right _ (List.mem_append_right _ (List.mem_append_right _ (List.mem_append_right _ (List.mem_append_left _ (List.mem_of_getElem? (i := 15) rfl))))))))))), by decide +kernel, by decide +kernel, _, rfl, rfl⟩
set_option maxRecDepth 100000 in
theorem fk_i234 : fk_I (234, 9, 2) := ⟨fk_q234, fk_in7 (List.mem_of_getElem? (i := 155) rfl), fk_sel (q := (⟨"FoldForge$Runner", "goOn", "(II)V"⟩, 14)) (List.mem_append_right _ (List.mem_append_right _ (List.mem_append_right _ (List.mem_append_right _ (List.mem_append_right _ (List.mem_append_right _ (List.mem_append_right _ (List.mem_append_right _ (List.mem_append_right _ (List.mem_append_right _ (List.mem_append_left _ (List.mem_of_getElem? (i := 0) rfl)))))))))))), by decide +kernel, by decide +kernel, _, rfl, rfl⟩
set_option maxRecDepth 100000 in
theorem fk_i235 : fk_I (235, 11, 1) := ⟨fk_q235, fk_in7 (List.mem_of_getElem? (i := 158) rfl), fk_in7 (List.mem_of_getElem? (i := 159) rfl), by decide +kernel, by decide +kernel, _, rfl, rfl⟩
set_option maxRecDepth 100000 in
theorem fk_i237 : fk_I (237, 12, 5) := ⟨fk_q237, fk_in9 (List.mem_of_getElem? (i := 121) rfl), fk_in9 (List.mem_of_getElem? (i := 122) rfl), by decide +kernel, by decide +kernel, _, rfl, rfl⟩
set_option maxRecDepth 100000 in
theorem fk_i238 : fk_I (238, 12, 1) := ⟨fk_q238, fk_in9 (List.mem_of_getElem? (i := 126) rfl), fk_sel (q := (⟨"FoldForgeModel", "feeds", "(I)V"⟩, 143)) (List.mem_append_right _ (List.mem_append_right _ (List.mem_append_right _ (List.mem_append_right _ (List.mem_append_right _ (List.mem_append_right _ (List.mem_append_right _ (List.mem_append_right _ (List.mem_append_right _ (List.mem_append_right _ (List.mem_append_left _ (List.mem_of_getElem? (i := 1) rfl)))))))))))), by decide +kernel, by decide +kernel, _, rfl, rfl⟩
set_option maxRecDepth 100000 in
theorem fk_i239 : fk_I (239, 12, 1) := ⟨fk_q239, fk_in9 (List.mem_of_getElem? (i := 129) rfl), fk_in9 (List.mem_of_getElem? (i := 130) rfl), by decide +kernel, by decide +kernel, _, rfl, rfl⟩
set_option maxRecDepth 100000 in
theorem fk_i240 : fk_I (240, 12, 1) := ⟨fk_q240, fk_in9 (List.mem_of_getElem? (i := 134) rfl), fk_sel (q := (⟨"FoldForgeModel", "reads", "(I)V"⟩, 143)) (List.mem_append_right _ (List.mem_append_right _ (List.mem_append_right _ (List.mem_append_right _ (List.mem_append_right _ (List.mem_append_right _ (List.mem_append_right _ (List.mem_append_right _ (List.mem_append_right _ (List.mem_append_right _ (List.mem_append_left _ (List.mem_of_getElem? (i := 2) rfl)))))))))))), by decide +kernel, by decide +kernel, _, rfl, rfl⟩
set_option maxRecDepth 100000 in
theorem fk_i241 : fk_I (241, 12, 1) := ⟨fk_q241, fk_in9 (List.mem_of_getElem? (i := 138) rfl), fk_sel (q := (⟨"FoldForgeModel", "must", "(I)V"⟩, 143)) (List.mem_append_right _ (List.mem_append_right _ (List.mem_append_right _ (List.mem_append_right _ (List.mem_append_right _ (List.mem_append_right _ (List.mem_append_right _ (List.mem_append_right _ (List.mem_append_right _ (List.mem_append_right _ (List.mem_append_left _ (List.mem_of_getElem? (i := 3) rfl)))))))))))), by decide +kernel, by decide +kernel, _, rfl, rfl⟩
set_option maxRecDepth 100000 in
theorem fk_i242 : fk_I (242, 12, 2) := ⟨fk_q242, fk_in9 (List.mem_of_getElem? (i := 142) rfl), fk_sel (q := (⟨"FoldForgeModel", "either", "(II)I"⟩, 143)) (List.mem_append_right _ (List.mem_append_right _ (List.mem_append_right _ (List.mem_append_right _ (List.mem_append_right _ (List.mem_append_right _ (List.mem_append_right _ (List.mem_append_right _ (List.mem_append_right _ (List.mem_append_right _ (List.mem_append_left _ (List.mem_of_getElem? (i := 4) rfl)))))))))))), by decide +kernel, by decide +kernel, _, rfl, rfl⟩
set_option maxRecDepth 100000 in
theorem fk_i243 : fk_I (243, 12, 0) := ⟨fk_q243, fk_in9 (List.mem_of_getElem? (i := 146) rfl), fk_sel (q := (⟨"FoldForgeModel", "next", "()I"⟩, 143)) (List.mem_append_right _ (List.mem_append_right _ (List.mem_append_right _ (List.mem_append_right _ (List.mem_append_right _ (List.mem_append_right _ (List.mem_append_right _ (List.mem_append_right _ (List.mem_append_right _ (List.mem_append_right _ (List.mem_append_left _ (List.mem_of_getElem? (i := 5) rfl)))))))))))), by decide +kernel, by decide +kernel, _, rfl, rfl⟩
set_option maxRecDepth 100000 in
theorem fk_i244 : fk_I (244, 12, 2) := ⟨fk_q244, fk_in9 (List.mem_of_getElem? (i := 150) rfl), fk_sel (q := (⟨"FoldForgeModel", "fails", "(II)V"⟩, 143)) (List.mem_append_right _ (List.mem_append_right _ (List.mem_append_right _ (List.mem_append_right _ (List.mem_append_right _ (List.mem_append_right _ (List.mem_append_right _ (List.mem_append_right _ (List.mem_append_right _ (List.mem_append_right _ (List.mem_append_left _ (List.mem_of_getElem? (i := 6) rfl)))))))))))), by decide +kernel, by decide +kernel, _, rfl, rfl⟩
set_option maxRecDepth 100000 in
theorem fk_i245 : fk_I (245, 12, 0) := ⟨fk_q245, fk_in9 (List.mem_of_getElem? (i := 154) rfl), fk_sel (q := (⟨"FoldForgeModel", "sizeOf", "()I"⟩, 143)) (List.mem_append_right _ (List.mem_append_right _ (List.mem_append_right _ (List.mem_append_right _ (List.mem_append_right _ (List.mem_append_right _ (List.mem_append_right _ (List.mem_append_right _ (List.mem_append_right _ (List.mem_append_right _ (List.mem_append_left _ (List.mem_of_getElem? (i := 7) rfl)))))))))))), by decide +kernel, by decide +kernel, _, rfl, rfl⟩
set_option maxRecDepth 100000 in
theorem fk_i246 : fk_I (246, 12, 0) := ⟨fk_q246, fk_in9 (List.mem_of_getElem? (i := 158) rfl), fk_sel (q := (⟨"FoldForgeModel", "u32", "()J"⟩, 143)) (List.mem_append_right _ (List.mem_append_right _ (List.mem_append_right _ (List.mem_append_right _ (List.mem_append_right _ (List.mem_append_right _ (List.mem_append_right _ (List.mem_append_right _ (List.mem_append_right _ (List.mem_append_right _ (List.mem_append_left _ (List.mem_of_getElem? (i := 8) rfl)))))))))))), by decide +kernel, by decide +kernel, _, rfl, rfl⟩
set_option maxRecDepth 100000 in
theorem fk_i247 : fk_I (247, 12, 0) := ⟨fk_q247, fk_in9 (List.mem_of_getElem? (i := 162) rfl), fk_sel (q := (⟨"FoldForgeModel", "here", "()I"⟩, 143)) (List.mem_append_right _ (List.mem_append_right _ (List.mem_append_right _ (List.mem_append_right _ (List.mem_append_right _ (List.mem_append_right _ (List.mem_append_right _ (List.mem_append_right _ (List.mem_append_right _ (List.mem_append_right _ (List.mem_append_left _ (List.mem_of_getElem? (i := 9) rfl)))))))))))), by decide +kernel, by decide +kernel, _, rfl, rfl⟩
set_option maxRecDepth 100000 in
theorem fk_i248 : fk_I (248, 12, 1) := ⟨fk_q248, fk_in9 (List.mem_of_getElem? (i := 166) rfl), fk_sel (q := (⟨"FoldForgeModel", "section", "(I)V"⟩, 143)) (List.mem_append_right _ (List.mem_append_right _ (List.mem_append_right _ (List.mem_append_right _ (List.mem_append_right _ (List.mem_append_right _ (List.mem_append_right _ (List.mem_append_right _ (List.mem_append_right _ (List.mem_append_right _ (List.mem_append_left _ (List.mem_of_getElem? (i := 10) rfl)))))))))))), by decide +kernel, by decide +kernel, _, rfl, rfl⟩
set_option maxRecDepth 100000 in
theorem fk_i249 : fk_I (249, 12, 0) := ⟨fk_q249, fk_in9 (List.mem_of_getElem? (i := 170) rfl), fk_sel (q := (⟨"FoldForgeModel", "nameOf", "()I"⟩, 143)) (List.mem_append_right _ (List.mem_append_right _ (List.mem_append_right _ (List.mem_append_right _ (List.mem_append_right _ (List.mem_append_right _ (List.mem_append_right _ (List.mem_append_right _ (List.mem_append_right _ (List.mem_append_right _ (List.mem_append_left _ (List.mem_of_getElem? (i := 11) rfl)))))))))))), by decide +kernel, by decide +kernel, _, rfl, rfl⟩
set_option maxRecDepth 100000 in
theorem fk_i250 : fk_I (250, 12, 0) := ⟨fk_q250, fk_in9 (List.mem_of_getElem? (i := 174) rfl), fk_sel (q := (⟨"FoldForgeModel", "many", "()I"⟩, 143)) (List.mem_append_right _ (List.mem_append_right _ (List.mem_append_right _ (List.mem_append_right _ (List.mem_append_right _ (List.mem_append_right _ (List.mem_append_right _ (List.mem_append_right _ (List.mem_append_right _ (List.mem_append_right _ (List.mem_append_left _ (List.mem_of_getElem? (i := 12) rfl)))))))))))), by decide +kernel, by decide +kernel, _, rfl, rfl⟩
set_option maxRecDepth 100000 in
theorem fk_i251 : fk_I (251, 12, 2) := ⟨fk_q251, fk_in9 (List.mem_of_getElem? (i := 179) rfl), fk_sel (q := (⟨"FoldForgeModel", "thing", "(II)V"⟩, 143)) (List.mem_append_right _ (List.mem_append_right _ (List.mem_append_right _ (List.mem_append_right _ (List.mem_append_right _ (List.mem_append_right _ (List.mem_append_right _ (List.mem_append_right _ (List.mem_append_right _ (List.mem_append_right _ (List.mem_append_left _ (List.mem_of_getElem? (i := 13) rfl)))))))))))), by decide +kernel, by decide +kernel, _, rfl, rfl⟩
set_option maxRecDepth 100000 in
theorem fk_i252 : fk_I (252, 12, 1) := ⟨fk_q252, fk_in9 (List.mem_of_getElem? (i := 183) rfl), fk_sel (q := (⟨"FoldForgeModel", "type", "(I)V"⟩, 143)) (List.mem_append_right _ (List.mem_append_right _ (List.mem_append_right _ (List.mem_append_right _ (List.mem_append_right _ (List.mem_append_right _ (List.mem_append_right _ (List.mem_append_right _ (List.mem_append_right _ (List.mem_append_right _ (List.mem_append_left _ (List.mem_of_getElem? (i := 14) rfl)))))))))))), by decide +kernel, by decide +kernel, _, rfl, rfl⟩
set_option maxRecDepth 100000 in
theorem fk_i253 : fk_I (253, 12, 0) := ⟨fk_q253, fk_in9 (List.mem_of_getElem? (i := 187) rfl), fk_sel (q := (⟨"FoldForgeModel", "valueType", "()I"⟩, 143)) (List.mem_append_right _ (List.mem_append_right _ (List.mem_append_right _ (List.mem_append_right _ (List.mem_append_right _ (List.mem_append_right _ (List.mem_append_right _ (List.mem_append_right _ (List.mem_append_right _ (List.mem_append_right _ (List.mem_append_left _ (List.mem_of_getElem? (i := 15) rfl)))))))))))), by decide +kernel, by decide +kernel, _, rfl, rfl⟩
set_option maxRecDepth 100000 in
theorem fk_i254 : fk_I (254, 12, 3) := ⟨fk_q254, fk_in9 (List.mem_of_getElem? (i := 191) rfl), fk_sel (q := (⟨"FoldForgeModel", "limits", "(I[J[J)V"⟩, 143)) (List.mem_append_right _ (List.mem_append_right _ (List.mem_append_right _ (List.mem_append_right _ (List.mem_append_right _ (List.mem_append_right _ (List.mem_append_right _ (List.mem_append_right _ (List.mem_append_right _ (List.mem_append_right _ (List.mem_append_right _ (List.mem_append_left _ (List.mem_of_getElem? (i := 0) rfl))))))))))))), by decide +kernel, by decide +kernel, _, rfl, rfl⟩
set_option maxRecDepth 100000 in
theorem fk_i255 : fk_I (255, 12, 0) := ⟨fk_q255, fk_in9 (List.mem_of_getElem? (i := 196) rfl), fk_sel (q := (⟨"FoldForgeModel", "constant", "()I"⟩, 143)) (List.mem_append_right _ (List.mem_append_right _ (List.mem_append_right _ (List.mem_append_right _ (List.mem_append_right _ (List.mem_append_right _ (List.mem_append_right _ (List.mem_append_right _ (List.mem_append_right _ (List.mem_append_right _ (List.mem_append_right _ (List.mem_append_left _ (List.mem_of_getElem? (i := 1) rfl))))))))))))), by decide +kernel, by decide +kernel, _, rfl, rfl⟩
set_option maxRecDepth 100000 in
theorem fk_s256 : fk_S (256, 1) := ⟨fk_q256, fk_in9 (List.mem_of_getElem? (i := 199) rfl), by decide +kernel, by decide +kernel⟩
set_option maxRecDepth 100000 in
theorem fk_i257 : fk_I (257, 12, 1) := ⟨fk_q257, fk_in9 (List.mem_of_getElem? (i := 203) rfl), fk_sel (q := (⟨"FoldForgeModel", "signed", "(I)J"⟩, 143)) (List.mem_append_right _ (List.mem_append_right _ (List.mem_append_right _ (List.mem_append_right _ (List.mem_append_right _ (List.mem_append_right _ (List.mem_append_right _ (List.mem_append_right _ (List.mem_append_right _ (List.mem_append_right _ (List.mem_append_right _ (List.mem_append_left _ (List.mem_of_getElem? (i := 2) rfl))))))))))))), by decide +kernel, by decide +kernel, _, rfl, rfl⟩
set_option maxRecDepth 100000 in
theorem fk_s258 : fk_S (258, 2) := ⟨fk_q258, fk_in9 (List.mem_of_getElem? (i := 206) rfl), by decide +kernel, by decide +kernel⟩
set_option maxRecDepth 100000 in
theorem fk_i259 : fk_I (259, 12, 1) := ⟨fk_q259, fk_in9 (List.mem_of_getElem? (i := 210) rfl), fk_sel (q := (⟨"FoldForgeModel", "exportOf", "(I)V"⟩, 143)) (List.mem_append_right _ (List.mem_append_right _ (List.mem_append_right _ (List.mem_append_right _ (List.mem_append_right _ (List.mem_append_right _ (List.mem_append_right _ (List.mem_append_right _ (List.mem_append_right _ (List.mem_append_right _ (List.mem_append_right _ (List.mem_append_left _ (List.mem_of_getElem? (i := 3) rfl))))))))))))), by decide +kernel, by decide +kernel, _, rfl, rfl⟩
set_option maxRecDepth 100000 in
theorem fk_i260 : fk_I (260, 12, 1) := ⟨fk_q260, fk_in9 (List.mem_of_getElem? (i := 214) rfl), fk_sel (q := (⟨"FoldForgeModel", "element", "(I)V"⟩, 143)) (List.mem_append_right _ (List.mem_append_right _ (List.mem_append_right _ (List.mem_append_right _ (List.mem_append_right _ (List.mem_append_right _ (List.mem_append_right _ (List.mem_append_right _ (List.mem_append_right _ (List.mem_append_right _ (List.mem_append_right _ (List.mem_append_left _ (List.mem_of_getElem? (i := 4) rfl))))))))))))), by decide +kernel, by decide +kernel, _, rfl, rfl⟩
set_option maxRecDepth 100000 in
theorem fk_i261 : fk_I (261, 12, 1) := ⟨fk_q261, fk_in9 (List.mem_of_getElem? (i := 219) rfl), fk_sel (q := (⟨"FoldForgeModel", "code", "(I)V"⟩, 143)) (List.mem_append_right _ (List.mem_append_right _ (List.mem_append_right _ (List.mem_append_right _ (List.mem_append_right _ (List.mem_append_right _ (List.mem_append_right _ (List.mem_append_right _ (List.mem_append_right _ (List.mem_append_right _ (List.mem_append_right _ (List.mem_append_left _ (List.mem_of_getElem? (i := 5) rfl))))))))))))), by decide +kernel, by decide +kernel, _, rfl, rfl⟩
set_option maxRecDepth 100000 in
theorem fk_i262 : fk_I (262, 12, 0) := ⟨fk_q262, fk_in9 (List.mem_of_getElem? (i := 223) rfl), fk_sel (q := (⟨"FoldForgeModel", "expression", "()V"⟩, 143)) (List.mem_append_right _ (List.mem_append_right _ (List.mem_append_right _ (List.mem_append_right _ (List.mem_append_right _ (List.mem_append_right _ (List.mem_append_right _ (List.mem_append_right _ (List.mem_append_right _ (List.mem_append_right _ (List.mem_append_right _ (List.mem_append_left _ (List.mem_of_getElem? (i := 6) rfl))))))))))))), by decide +kernel, by decide +kernel, _, rfl, rfl⟩
set_option maxRecDepth 100000 in
theorem fk_i263 : fk_I (263, 12, 2) := ⟨fk_q263, fk_in9 (List.mem_of_getElem? (i := 227) rfl), fk_sel (q := (⟨"FoldForgeModel", "operands", "(II)V"⟩, 143)) (List.mem_append_right _ (List.mem_append_right _ (List.mem_append_right _ (List.mem_append_right _ (List.mem_append_right _ (List.mem_append_right _ (List.mem_append_right _ (List.mem_append_right _ (List.mem_append_right _ (List.mem_append_right _ (List.mem_append_right _ (List.mem_append_left _ (List.mem_of_getElem? (i := 7) rfl))))))))))))), by decide +kernel, by decide +kernel, _, rfl, rfl⟩
set_option maxRecDepth 100000 in
theorem fk_s264 : fk_S (264, 1) := ⟨fk_q264, fk_in9 (List.mem_of_getElem? (i := 230) rfl), by decide +kernel, by decide +kernel⟩
set_option maxRecDepth 100000 in
theorem fk_i265 : fk_I (265, 12, 0) := ⟨fk_q265, fk_in9 (List.mem_of_getElem? (i := 234) rfl), fk_sel (q := (⟨"FoldForgeModel", "judge", "()I"⟩, 143)) (List.mem_append_right _ (List.mem_append_right _ (List.mem_append_right _ (List.mem_append_right _ (List.mem_append_right _ (List.mem_append_right _ (List.mem_append_right _ (List.mem_append_right _ (List.mem_append_right _ (List.mem_append_right _ (List.mem_append_right _ (List.mem_append_left _ (List.mem_of_getElem? (i := 8) rfl))))))))))))), by decide +kernel, by decide +kernel, _, rfl, rfl⟩
set_option maxRecDepth 100000 in
theorem fk_i266 : fk_I (266, 12, 0) := ⟨fk_q266, fk_in10 (List.mem_of_getElem? (i := 0) rfl), fk_sel (q := (⟨"FoldForgeModel", "areExports", "()Z"⟩, 143)) (List.mem_append_right _ (List.mem_append_right _ (List.mem_append_right _ (List.mem_append_right _ (List.mem_append_right _ (List.mem_append_right _ (List.mem_append_right _ (List.mem_append_right _ (List.mem_append_right _ (List.mem_append_right _ (List.mem_append_right _ (List.mem_append_left _ (List.mem_of_getElem? (i := 9) rfl))))))))))))), by decide +kernel, by decide +kernel, _, rfl, rfl⟩
set_option maxRecDepth 100000 in
theorem fk_i267 : fk_I (267, 12, 2) := ⟨fk_q267, fk_in10 (List.mem_of_getElem? (i := 4) rfl), fk_sel (q := (⟨"FoldForgeModel", "isAlike", "(II)Z"⟩, 143)) (List.mem_append_right _ (List.mem_append_right _ (List.mem_append_right _ (List.mem_append_right _ (List.mem_append_right _ (List.mem_append_right _ (List.mem_append_right _ (List.mem_append_right _ (List.mem_append_right _ (List.mem_append_right _ (List.mem_append_right _ (List.mem_append_left _ (List.mem_of_getElem? (i := 10) rfl))))))))))))), by decide +kernel, by decide +kernel, _, rfl, rfl⟩
set_option maxRecDepth 100000 in
theorem fk_i268 : fk_I (268, 12, 0) := ⟨fk_q268, fk_in10 (List.mem_of_getElem? (i := 8) rfl), fk_sel (q := (⟨"FoldForgeModel", "areElements", "()Z"⟩, 143)) (List.mem_append_right _ (List.mem_append_right _ (List.mem_append_right _ (List.mem_append_right _ (List.mem_append_right _ (List.mem_append_right _ (List.mem_append_right _ (List.mem_append_right _ (List.mem_append_right _ (List.mem_append_right _ (List.mem_append_right _ (List.mem_append_left _ (List.mem_of_getElem? (i := 11) rfl))))))))))))), by decide +kernel, by decide +kernel, _, rfl, rfl⟩
set_option maxRecDepth 100000 in
theorem fk_i269 : fk_I (269, 12, 1) := ⟨fk_q269, fk_in10 (List.mem_of_getElem? (i := 12) rfl), fk_sel (q := (⟨"FoldForgeModel", "isCode", "(I)Z"⟩, 143)) (List.mem_append_right _ (List.mem_append_right _ (List.mem_append_right _ (List.mem_append_right _ (List.mem_append_right _ (List.mem_append_right _ (List.mem_append_right _ (List.mem_append_right _ (List.mem_append_right _ (List.mem_append_right _ (List.mem_append_right _ (List.mem_append_left _ (List.mem_of_getElem? (i := 12) rfl))))))))))))), by decide +kernel, by decide +kernel, _, rfl, rfl⟩
set_option maxRecDepth 100000 in
theorem fk_i270 : fk_I (270, 12, 3) := ⟨fk_q270, fk_in10 (List.mem_of_getElem? (i := 16) rfl), fk_sel (q := (⟨"FoldForgeModel", "opens", "(III)V"⟩, 143)) (List.mem_append_right _ (List.mem_append_right _ (List.mem_append_right _ (List.mem_append_right _ (List.mem_append_right _ (List.mem_append_right _ (List.mem_append_right _ (List.mem_append_right _ (List.mem_append_right _ (List.mem_append_right _ (List.mem_append_right _ (List.mem_append_left _ (List.mem_of_getElem? (i := 13) rfl))))))))))))), by decide +kernel, by decide +kernel, _, rfl, rfl⟩
set_option maxRecDepth 100000 in
theorem fk_i271 : fk_I (271, 12, 2) := ⟨fk_q271, fk_in10 (List.mem_of_getElem? (i := 20) rfl), fk_sel (q := (⟨"FoldForgeModel", "judges", "(II)V"⟩, 143)) (List.mem_append_right _ (List.mem_append_right _ (List.mem_append_right _ (List.mem_append_right _ (List.mem_append_right _ (List.mem_append_right _ (List.mem_append_right _ (List.mem_append_right _ (List.mem_append_right _ (List.mem_append_right _ (List.mem_append_right _ (List.mem_append_left _ (List.mem_of_getElem? (i := 14) rfl))))))))))))), by decide +kernel, by decide +kernel, _, rfl, rfl⟩
set_option maxRecDepth 100000 in
theorem fk_i272 : fk_I (272, 12, 0) := ⟨fk_q272, fk_in10 (List.mem_of_getElem? (i := 24) rfl), fk_sel (q := (⟨"FoldForgeModel", "gone", "()V"⟩, 143)) (List.mem_append_right _ (List.mem_append_right _ (List.mem_append_right _ (List.mem_append_right _ (List.mem_append_right _ (List.mem_append_right _ (List.mem_append_right _ (List.mem_append_right _ (List.mem_append_right _ (List.mem_append_right _ (List.mem_append_right _ (List.mem_append_left _ (List.mem_of_getElem? (i := 15) rfl))))))))))))), by decide +kernel, by decide +kernel, _, rfl, rfl⟩
set_option maxRecDepth 100000 in
theorem fk_i273 : fk_I (273, 12, 1) := ⟨fk_q273, fk_in10 (List.mem_of_getElem? (i := 28) rfl), fk_sel (q := (⟨"FoldForgeModel", "popOf", "(I)V"⟩, 143)) (List.mem_append_right _ (List.mem_append_right _ (List.mem_append_right _ (List.mem_append_right _ (List.mem_append_right _ (List.mem_append_right _ (List.mem_append_right _ (List.mem_append_right _ (List.mem_append_right _ (List.mem_append_right _ (List.mem_append_right _ (List.mem_append_right _ (List.mem_append_left _ (List.mem_of_getElem? (i := 0) rfl)))))))))))))), by decide +kernel, by decide +kernel, _, rfl, rfl⟩
set_option maxRecDepth 100000 in
theorem fk_i274 : fk_I (274, 12, 0) := ⟨fk_q274, fk_in10 (List.mem_of_getElem? (i := 32) rfl), fk_sel (q := (⟨"FoldForgeModel", "pop", "()I"⟩, 143)) (List.mem_append_right _ (List.mem_append_right _ (List.mem_append_right _ (List.mem_append_right _ (List.mem_append_right _ (List.mem_append_right _ (List.mem_append_right _ (List.mem_append_right _ (List.mem_append_right _ (List.mem_append_right _ (List.mem_append_right _ (List.mem_append_right _ (List.mem_append_left _ (List.mem_of_getElem? (i := 1) rfl)))))))))))))), by decide +kernel, by decide +kernel, _, rfl, rfl⟩
set_option maxRecDepth 100000 in
theorem fk_i275 : fk_I (275, 12, 0) := ⟨fk_q275, fk_in10 (List.mem_of_getElem? (i := 36) rfl), fk_sel (q := (⟨"FoldForgeModel", "closes", "()V"⟩, 143)) (List.mem_append_right _ (List.mem_append_right _ (List.mem_append_right _ (List.mem_append_right _ (List.mem_append_right _ (List.mem_append_right _ (List.mem_append_right _ (List.mem_append_right _ (List.mem_append_right _ (List.mem_append_right _ (List.mem_append_right _ (List.mem_append_right _ (List.mem_append_left _ (List.mem_of_getElem? (i := 2) rfl)))))))))))))), by decide +kernel, by decide +kernel, _, rfl, rfl⟩
set_option maxRecDepth 100000 in
theorem fk_i276 : fk_I (276, 12, 0) := ⟨fk_q276, fk_in10 (List.mem_of_getElem? (i := 40) rfl), fk_sel (q := (⟨"FoldForgeModel", "ends", "()V"⟩, 143)) (List.mem_append_right _ (List.mem_append_right _ (List.mem_append_right _ (List.mem_append_right _ (List.mem_append_right _ (List.mem_append_right _ (List.mem_append_right _ (List.mem_append_right _ (List.mem_append_right _ (List.mem_append_right _ (List.mem_append_right _ (List.mem_append_right _ (List.mem_append_left _ (List.mem_of_getElem? (i := 3) rfl)))))))))))))), by decide +kernel, by decide +kernel, _, rfl, rfl⟩
set_option maxRecDepth 100000 in
theorem fk_i277 : fk_I (277, 12, 1) := ⟨fk_q277, fk_in10 (List.mem_of_getElem? (i := 44) rfl), fk_sel (q := (⟨"FoldForgeModel", "push", "(I)V"⟩, 143)) (List.mem_append_right _ (List.mem_append_right _ (List.mem_append_right _ (List.mem_append_right _ (List.mem_append_right _ (List.mem_append_right _ (List.mem_append_right _ (List.mem_append_right _ (List.mem_append_right _ (List.mem_append_right _ (List.mem_append_right _ (List.mem_append_right _ (List.mem_append_left _ (List.mem_of_getElem? (i := 4) rfl)))))))))))))), by decide +kernel, by decide +kernel, _, rfl, rfl⟩
set_option maxRecDepth 100000 in
theorem fk_i278 : fk_I (278, 12, 1) := ⟨fk_q278, fk_in10 (List.mem_of_getElem? (i := 48) rfl), fk_sel (q := (⟨"FoldForgeModel", "isLabel", "(J)Z"⟩, 143)) (List.mem_append_right _ (List.mem_append_right _ (List.mem_append_right _ (List.mem_append_right _ (List.mem_append_right _ (List.mem_append_right _ (List.mem_append_right _ (List.mem_append_right _ (List.mem_append_right _ (List.mem_append_right _ (List.mem_append_right _ (List.mem_append_right _ (List.mem_append_left _ (List.mem_of_getElem? (i := 5) rfl)))))))))))))), by decide +kernel, by decide +kernel, _, rfl, rfl⟩
set_option maxRecDepth 100000 in
theorem fk_i279 : fk_I (279, 12, 1) := ⟨fk_q279, fk_in10 (List.mem_of_getElem? (i := 52) rfl), fk_sel (q := (⟨"FoldForgeModel", "needs", "(J)I"⟩, 143)) (List.mem_append_right _ (List.mem_append_right _ (List.mem_append_right _ (List.mem_append_right _ (List.mem_append_right _ (List.mem_append_right _ (List.mem_append_right _ (List.mem_append_right _ (List.mem_append_right _ (List.mem_append_right _ (List.mem_append_right _ (List.mem_append_right _ (List.mem_append_left _ (List.mem_of_getElem? (i := 6) rfl)))))))))))))), by decide +kernel, by decide +kernel, _, rfl, rfl⟩
set_option maxRecDepth 100000 in
theorem fk_i280 : fk_I (280, 12, 0) := ⟨fk_q280, fk_in10 (List.mem_of_getElem? (i := 56) rfl), fk_sel (q := (⟨"FoldForgeModel", "branches", "()V"⟩, 143)) (List.mem_append_right _ (List.mem_append_right _ (List.mem_append_right _ (List.mem_append_right _ (List.mem_append_right _ (List.mem_append_right _ (List.mem_append_right _ (List.mem_append_right _ (List.mem_append_right _ (List.mem_append_right _ (List.mem_append_right _ (List.mem_append_right _ (List.mem_append_left _ (List.mem_of_getElem? (i := 7) rfl)))))))))))))), by decide +kernel, by decide +kernel, _, rfl, rfl⟩
set_option maxRecDepth 100000 in
theorem fk_i281 : fk_I (281, 12, 1) := ⟨fk_q281, fk_in10 (List.mem_of_getElem? (i := 60) rfl), fk_sel (q := (⟨"FoldForgeModel", "judgesMore", "(I)V"⟩, 143)) (List.mem_append_right _ (List.mem_append_right _ (List.mem_append_right _ (List.mem_append_right _ (List.mem_append_right _ (List.mem_append_right _ (List.mem_append_right _ (List.mem_append_right _ (List.mem_append_right _ (List.mem_append_right _ (List.mem_append_right _ (List.mem_append_right _ (List.mem_append_left _ (List.mem_of_getElem? (i := 8) rfl)))))))))))))), by decide +kernel, by decide +kernel, _, rfl, rfl⟩
set_option maxRecDepth 100000 in
theorem fk_i282 : fk_I (282, 12, 1) := ⟨fk_q282, fk_in10 (List.mem_of_getElem? (i := 64) rfl), fk_sel (q := (⟨"FoldForgeModel", "calls", "(I)V"⟩, 143)) (List.mem_append_right _ (List.mem_append_right _ (List.mem_append_right _ (List.mem_append_right _ (List.mem_append_right _ (List.mem_append_right _ (List.mem_append_right _ (List.mem_append_right _ (List.mem_append_right _ (List.mem_append_right _ (List.mem_append_right _ (List.mem_append_right _ (List.mem_append_left _ (List.mem_of_getElem? (i := 9) rfl)))))))))))))), by decide +kernel, by decide +kernel, _, rfl, rfl⟩
set_option maxRecDepth 100000 in
theorem fk_i283 : fk_I (283, 12, 2) := ⟨fk_q283, fk_in10 (List.mem_of_getElem? (i := 68) rfl), fk_sel (q := (⟨"FoldForgeModel", "variables", "(IJ)V"⟩, 143)) (List.mem_append_right _ (List.mem_append_right _ (List.mem_append_right _ (List.mem_append_right _ (List.mem_append_right _ (List.mem_append_right _ (List.mem_append_right _ (List.mem_append_right _ (List.mem_append_right _ (List.mem_append_right _ (List.mem_append_right _ (List.mem_append_right _ (List.mem_append_left _ (List.mem_of_getElem? (i := 10) rfl)))))))))))))), by decide +kernel, by decide +kernel, _, rfl, rfl⟩
set_option maxRecDepth 100000 in
theorem fk_i284 : fk_I (284, 12, 1) := ⟨fk_q284, fk_in10 (List.mem_of_getElem? (i := 72) rfl), fk_sel (q := (⟨"FoldForgeModel", "localType", "(J)I"⟩, 143)) (List.mem_append_right _ (List.mem_append_right _ (List.mem_append_right _ (List.mem_append_right _ (List.mem_append_right _ (List.mem_append_right _ (List.mem_append_right _ (List.mem_append_right _ (List.mem_append_right _ (List.mem_append_right _ (List.mem_append_right _ (List.mem_append_right _ (List.mem_append_left _ (List.mem_of_getElem? (i := 11) rfl)))))))))))))), by decide +kernel, by decide +kernel, _, rfl, rfl⟩
set_option maxRecDepth 100000 in
theorem fk_i285 : fk_I (285, 12, 1) := ⟨fk_q285, fk_in10 (List.mem_of_getElem? (i := 76) rfl), fk_sel (q := (⟨"FoldForgeModel", "memories", "(I)V"⟩, 143)) (List.mem_append_right _ (List.mem_append_right _ (List.mem_append_right _ (List.mem_append_right _ (List.mem_append_right _ (List.mem_append_right _ (List.mem_append_right _ (List.mem_append_right _ (List.mem_append_right _ (List.mem_append_right _ (List.mem_append_right _ (List.mem_append_right _ (List.mem_append_left _ (List.mem_of_getElem? (i := 12) rfl)))))))))))))), by decide +kernel, by decide +kernel, _, rfl, rfl⟩
set_option maxRecDepth 100000 in
theorem fk_s286 : fk_S (286, 1) := ⟨fk_q286, fk_in10 (List.mem_of_getElem? (i := 80) rfl), by decide +kernel, by decide +kernel⟩
set_option maxRecDepth 100000 in
theorem fk_s287 : fk_S (287, 1) := ⟨fk_q287, fk_in10 (List.mem_of_getElem? (i := 83) rfl), by decide +kernel, by decide +kernel⟩
set_option maxRecDepth 100000 in
theorem fk_i288 : fk_I (288, 12, 1) := ⟨fk_q288, fk_in10 (List.mem_of_getElem? (i := 87) rfl), fk_sel (q := (⟨"FoldForgeModel", "numbers", "(I)V"⟩, 143)) (List.mem_append_right _ (List.mem_append_right _ (List.mem_append_right _ (List.mem_append_right _ (List.mem_append_right _ (List.mem_append_right _ (List.mem_append_right _ (List.mem_append_right _ (List.mem_append_right _ (List.mem_append_right _ (List.mem_append_right _ (List.mem_append_right _ (List.mem_append_left _ (List.mem_of_getElem? (i := 13) rfl)))))))))))))), by decide +kernel, by decide +kernel, _, rfl, rfl⟩
set_option maxRecDepth 100000 in
theorem fk_i289 : fk_I (289, 12, 0) := ⟨fk_q289, fk_in10 (List.mem_of_getElem? (i := 91) rfl), fk_sel (q := (⟨"FoldForgeModel", "makes", "()V"⟩, 143)) (List.mem_append_right _ (List.mem_append_right _ (List.mem_append_right _ (List.mem_append_right _ (List.mem_append_right _ (List.mem_append_right _ (List.mem_append_right _ (List.mem_append_right _ (List.mem_append_right _ (List.mem_append_right _ (List.mem_append_right _ (List.mem_append_right _ (List.mem_append_left _ (List.mem_of_getElem? (i := 14) rfl)))))))))))))), by decide +kernel, by decide +kernel, _, rfl, rfl⟩
set_option maxRecDepth 100000 in
theorem fk_i290 : fk_I (290, 12, 0) := ⟨fk_q290, fk_in10 (List.mem_of_getElem? (i := 94) rfl), fk_in10 (List.mem_of_getElem? (i := 95) rfl), by decide +kernel, by decide +kernel, _, rfl, rfl⟩
set_option maxRecDepth 100000 in
theorem fk_i291 : fk_I (291, 12, 1) := ⟨fk_q291, fk_in10 (List.mem_of_getElem? (i := 98) rfl), fk_in10 (List.mem_of_getElem? (i := 99) rfl), by decide +kernel, by decide +kernel, _, rfl, rfl⟩
set_option maxRecDepth 100000 in
theorem fk_i292 : fk_I (292, 12, 2) := ⟨fk_q292, fk_in10 (List.mem_of_getElem? (i := 102) rfl), fk_in10 (List.mem_of_getElem? (i := 103) rfl), by decide +kernel, by decide +kernel, _, rfl, rfl⟩
set_option maxRecDepth 100000 in
theorem fk_s293 : fk_S (293, 2) := ⟨fk_q293, fk_in10 (List.mem_of_getElem? (i := 106) rfl), by decide +kernel, by decide +kernel⟩
set_option maxRecDepth 100000 in
theorem fk_i294 : fk_I (294, 12, 1) := ⟨fk_q294, fk_in10 (List.mem_of_getElem? (i := 110) rfl), fk_sel (q := (⟨"FoldForgeModel", "typeOf", "(I)I"⟩, 143)) (List.mem_append_right _ (List.mem_append_right _ (List.mem_append_right _ (List.mem_append_right _ (List.mem_append_right _ (List.mem_append_right _ (List.mem_append_right _ (List.mem_append_right _ (List.mem_append_right _ (List.mem_append_right _ (List.mem_append_right _ (List.mem_append_right _ (List.mem_append_left _ (List.mem_of_getElem? (i := 15) rfl)))))))))))))), by decide +kernel, by decide +kernel, _, rfl, rfl⟩
set_option maxRecDepth 100000 in
theorem fk_i295 : fk_I (295, 12, 2) := ⟨fk_q295, fk_in10 (List.mem_of_getElem? (i := 113) rfl), fk_in10 (List.mem_of_getElem? (i := 114) rfl), by decide +kernel, by decide +kernel, _, rfl, rfl⟩
set_option maxRecDepth 100000 in
theorem fk_i296 : fk_I (296, 12, 2) := ⟨fk_q296, fk_in10 (List.mem_of_getElem? (i := 117) rfl), fk_in10 (List.mem_of_getElem? (i := 118) rfl), by decide +kernel, by decide +kernel, _, rfl, rfl⟩
set_option maxRecDepth 100000 in
theorem fk_i297 : fk_I (297, 12, 1) := ⟨fk_q297, fk_in10 (List.mem_of_getElem? (i := 122) rfl), fk_sel (q := (⟨"FoldForgeModel", "pushes", "(J)V"⟩, 143)) (List.mem_append_right _ (List.mem_append_right _ (List.mem_append_right _ (List.mem_append_right _ (List.mem_append_right _ (List.mem_append_right _ (List.mem_append_right _ (List.mem_append_right _ (List.mem_append_right _ (List.mem_append_right _ (List.mem_append_right _ (List.mem_append_right _ (List.mem_append_right _ (List.mem_append_left _ (List.mem_of_getElem? (i := 0) rfl))))))))))))))), by decide +kernel, by decide +kernel, _, rfl, rfl⟩
set_option maxRecDepth 100000 in
theorem fk_i298 : fk_I (298, 12, 1) := ⟨fk_q298, fk_in10 (List.mem_of_getElem? (i := 126) rfl), fk_sel (q := (⟨"FoldForgeModel", "enters", "(I)V"⟩, 143)) (List.mem_append_right _ (List.mem_append_right _ (List.mem_append_right _ (List.mem_append_right _ (List.mem_append_right _ (List.mem_append_right _ (List.mem_append_right _ (List.mem_append_right _ (List.mem_append_right _ (List.mem_append_right _ (List.mem_append_right _ (List.mem_append_right _ (List.mem_append_right _ (List.mem_append_left _ (List.mem_of_getElem? (i := 1) rfl))))))))))))))), by decide +kernel, by decide +kernel, _, rfl, rfl⟩
set_option maxRecDepth 100000 in
theorem fk_i299 : fk_I (299, 12, 1) := ⟨fk_q299, fk_in10 (List.mem_of_getElem? (i := 130) rfl), fk_sel (q := (⟨"FoldForgeModel", "traps", "(I)V"⟩, 143)) (List.mem_append_right _ (List.mem_append_right _ (List.mem_append_right _ (List.mem_append_right _ (List.mem_append_right _ (List.mem_append_right _ (List.mem_append_right _ (List.mem_append_right _ (List.mem_append_right _ (List.mem_append_right _ (List.mem_append_right _ (List.mem_append_right _ (List.mem_append_right _ (List.mem_append_left _ (List.mem_of_getElem? (i := 2) rfl))))))))))))))), by decide +kernel, by decide +kernel, _, rfl, rfl⟩
set_option maxRecDepth 100000 in
theorem fk_i300 : fk_I (300, 12, 2) := ⟨fk_q300, fk_in10 (List.mem_of_getElem? (i := 134) rfl), fk_sel (q := (⟨"FoldForgeModel", "goesOn", "(II)Z"⟩, 143)) (List.mem_append_right _ (List.mem_append_right _ (List.mem_append_right _ (List.mem_append_right _ (List.mem_append_right _ (List.mem_append_right _ (List.mem_append_right _ (List.mem_append_right _ (List.mem_append_right _ (List.mem_append_right _ (List.mem_append_right _ (List.mem_append_right _ (List.mem_append_right _ (List.mem_append_left _ (List.mem_of_getElem? (i := 3) rfl))))))))))))))), by decide +kernel, by decide +kernel, _, rfl, rfl⟩
set_option maxRecDepth 100000 in
theorem fk_i301 : fk_I (301, 12, 2) := ⟨fk_q301, fk_in10 (List.mem_of_getElem? (i := 138) rfl), fk_sel (q := (⟨"FoldForgeModel", "jumps", "(II)Z"⟩, 143)) (List.mem_append_right _ (List.mem_append_right _ (List.mem_append_right _ (List.mem_append_right _ (List.mem_append_right _ (List.mem_append_right _ (List.mem_append_right _ (List.mem_append_right _ (List.mem_append_right _ (List.mem_append_right _ (List.mem_append_right _ (List.mem_append_right _ (List.mem_append_right _ (List.mem_append_left _ (List.mem_of_getElem? (i := 4) rfl))))))))))))))), by decide +kernel, by decide +kernel, _, rfl, rfl⟩
set_option maxRecDepth 100000 in
theorem fk_i302 : fk_I (302, 12, 0) := ⟨fk_q302, fk_in10 (List.mem_of_getElem? (i := 142) rfl), fk_sel (q := (⟨"FoldForgeModel", "pops", "()J"⟩, 143)) (List.mem_append_right _ (List.mem_append_right _ (List.mem_append_right _ (List.mem_append_right _ (List.mem_append_right _ (List.mem_append_right _ (List.mem_append_right _ (List.mem_append_right _ (List.mem_append_right _ (List.mem_append_right _ (List.mem_append_right _ (List.mem_append_right _ (List.mem_append_right _ (List.mem_append_left _ (List.mem_of_getElem? (i := 5) rfl))))))))))))))), by decide +kernel, by decide +kernel, _, rfl, rfl⟩
set_option maxRecDepth 100000 in
theorem fk_i303 : fk_I (303, 12, 2) := ⟨fk_q303, fk_in10 (List.mem_of_getElem? (i := 146) rfl), fk_sel (q := (⟨"FoldForgeModel", "branch", "(JI)Z"⟩, 143)) (List.mem_append_right _ (List.mem_append_right _ (List.mem_append_right _ (List.mem_append_right _ (List.mem_append_right _ (List.mem_append_right _ (List.mem_append_right _ (List.mem_append_right _ (List.mem_append_right _ (List.mem_append_right _ (List.mem_append_right _ (List.mem_append_right _ (List.mem_append_right _ (List.mem_append_left _ (List.mem_of_getElem? (i := 6) rfl))))))))))))))), by decide +kernel, by decide +kernel, _, rfl, rfl⟩
set_option maxRecDepth 100000 in
theorem fk_i304 : fk_I (304, 12, 1) := ⟨fk_q304, fk_in10 (List.mem_of_getElem? (i := 150) rfl), fk_sel (q := (⟨"FoldForgeModel", "blockType", "(I)I"⟩, 143)) (List.mem_append_right _ (List.mem_append_right _ (List.mem_append_right _ (List.mem_append_right _ (List.mem_append_right _ (List.mem_append_right _ (List.mem_append_right _ (List.mem_append_right _ (List.mem_append_right _ (List.mem_append_right _ (List.mem_append_right _ (List.mem_append_right _ (List.mem_append_right _ (List.mem_append_left _ (List.mem_of_getElem? (i := 7) rfl))))))))))))))), by decide +kernel, by decide +kernel, _, rfl, rfl⟩
set_option maxRecDepth 100000 in
theorem fk_i305 : fk_I (305, 12, 0) := ⟨fk_q305, fk_in10 (List.mem_of_getElem? (i := 154) rfl), fk_sel (q := (⟨"FoldForgeModel", "popInt", "()I"⟩, 143)) (List.mem_append_right _ (List.mem_append_right _ (List.mem_append_right _ (List.mem_append_right _ (List.mem_append_right _ (List.mem_append_right _ (List.mem_append_right _ (List.mem_append_right _ (List.mem_append_right _ (List.mem_append_right _ (List.mem_append_right _ (List.mem_append_right _ (List.mem_append_right _ (List.mem_append_left _ (List.mem_of_getElem? (i := 8) rfl))))))))))))))), by decide +kernel, by decide +kernel, _, rfl, rfl⟩
set_option maxRecDepth 100000 in
theorem fk_i306 : fk_I (306, 12, 2) := ⟨fk_q306, fk_in10 (List.mem_of_getElem? (i := 158) rfl), fk_sel (q := (⟨"FoldForgeModel", "blocksOn", "(II)V"⟩, 143)) (List.mem_append_right _ (List.mem_append_right _ (List.mem_append_right _ (List.mem_append_right _ (List.mem_append_right _ (List.mem_append_right _ (List.mem_append_right _ (List.mem_append_right _ (List.mem_append_right _ (List.mem_append_right _ (List.mem_append_right _ (List.mem_append_right _ (List.mem_append_right _ (List.mem_append_left _ (List.mem_of_getElem? (i := 9) rfl))))))))))))))), by decide +kernel, by decide +kernel, _, rfl, rfl⟩
set_option maxRecDepth 100000 in
theorem fk_i307 : fk_I (307, 12, 2) := ⟨fk_q307, fk_in10 (List.mem_of_getElem? (i := 162) rfl), fk_sel (q := (⟨"FoldForgeModel", "does", "(II)V"⟩, 143)) (List.mem_append_right _ (List.mem_append_right _ (List.mem_append_right _ (List.mem_append_right _ (List.mem_append_right _ (List.mem_append_right _ (List.mem_append_right _ (List.mem_append_right _ (List.mem_append_right _ (List.mem_append_right _ (List.mem_append_right _ (List.mem_append_right _ (List.mem_append_right _ (List.mem_append_left _ (List.mem_of_getElem? (i := 10) rfl))))))))))))))), by decide +kernel, by decide +kernel, _, rfl, rfl⟩
set_option maxRecDepth 100000 in
theorem fk_i308 : fk_I (308, 12, 0) := ⟨fk_q308, fk_in10 (List.mem_of_getElem? (i := 166) rfl), fk_sel (q := (⟨"FoldForgeModel", "indirect", "()V"⟩, 143)) (List.mem_append_right _ (List.mem_append_right _ (List.mem_append_right _ (List.mem_append_right _ (List.mem_append_right _ (List.mem_append_right _ (List.mem_append_right _ (List.mem_append_right _ (List.mem_append_right _ (List.mem_append_right _ (List.mem_append_right _ (List.mem_append_right _ (List.mem_append_right _ (List.mem_append_left _ (List.mem_of_getElem? (i := 11) rfl))))))))))))))), by decide +kernel, by decide +kernel, _, rfl, rfl⟩
set_option maxRecDepth 100000 in
theorem fk_i309 : fk_I (309, 12, 2) := ⟨fk_q309, fk_in10 (List.mem_of_getElem? (i := 170) rfl), fk_sel (q := (⟨"FoldForgeModel", "isSame", "(II)Z"⟩, 143)) (List.mem_append_right _ (List.mem_append_right _ (List.mem_append_right _ (List.mem_append_right _ (List.mem_append_right _ (List.mem_append_right _ (List.mem_append_right _ (List.mem_append_right _ (List.mem_append_right _ (List.mem_append_right _ (List.mem_append_right _ (List.mem_append_right _ (List.mem_append_right _ (List.mem_append_left _ (List.mem_of_getElem? (i := 12) rfl))))))))))))))), by decide +kernel, by decide +kernel, _, rfl, rfl⟩
set_option maxRecDepth 100000 in
theorem fk_i310 : fk_I (310, 12, 3) := ⟨fk_q310, fk_in10 (List.mem_of_getElem? (i := 174) rfl), fk_sel (q := (⟨"FoldForgeModel", "variable", "(III)V"⟩, 143)) (List.mem_append_right _ (List.mem_append_right _ (List.mem_append_right _ (List.mem_append_right _ (List.mem_append_right _ (List.mem_append_right _ (List.mem_append_right _ (List.mem_append_right _ (List.mem_append_right _ (List.mem_append_right _ (List.mem_append_right _ (List.mem_append_right _ (List.mem_append_right _ (List.mem_append_left _ (List.mem_of_getElem? (i := 13) rfl))))))))))))))), by decide +kernel, by decide +kernel, _, rfl, rfl⟩
set_option maxRecDepth 100000 in
theorem fk_i311 : fk_I (311, 12, 1) := ⟨fk_q311, fk_in10 (List.mem_of_getElem? (i := 178) rfl), fk_sel (q := (⟨"FoldForgeModel", "memoryOn", "(I)V"⟩, 143)) (List.mem_append_right _ (List.mem_append_right _ (List.mem_append_right _ (List.mem_append_right _ (List.mem_append_right _ (List.mem_append_right _ (List.mem_append_right _ (List.mem_append_right _ (List.mem_append_right _ (List.mem_append_right _ (List.mem_append_right _ (List.mem_append_right _ (List.mem_append_right _ (List.mem_append_left _ (List.mem_of_getElem? (i := 14) rfl))))))))))))))), by decide +kernel, by decide +kernel, _, rfl, rfl⟩
set_option maxRecDepth 100000 in
theorem fk_i312 : fk_I (312, 12, 0) := ⟨fk_q312, fk_in10 (List.mem_of_getElem? (i := 182) rfl), fk_sel (q := (⟨"FoldForgeModel", "grows", "()V"⟩, 143)) (List.mem_append_right _ (List.mem_append_right _ (List.mem_append_right _ (List.mem_append_right _ (List.mem_append_right _ (List.mem_append_right _ (List.mem_append_right _ (List.mem_append_right _ (List.mem_append_right _ (List.mem_append_right _ (List.mem_append_right _ (List.mem_append_right _ (List.mem_append_right _ (List.mem_append_left _ (List.mem_of_getElem? (i := 15) rfl))))))))))))))), by decide +kernel, by decide +kernel, _, rfl, rfl⟩
set_option maxRecDepth 100000 in
theorem fk_i313 : fk_I (313, 12, 1) := ⟨fk_q313, fk_in10 (List.mem_of_getElem? (i := 187) rfl), fk_sel (q := (⟨"FoldForgeModel", "bits", "(I)J"⟩, 143)) (List.mem_append_right _ (List.mem_append_right _ (List.mem_append_right _ (List.mem_append_right _ (List.mem_append_right _ (List.mem_append_right _ (List.mem_append_right _ (List.mem_append_right _ (List.mem_append_right _ (List.mem_append_right _ (List.mem_append_right _ (List.mem_append_right _ (List.mem_append_right _ (List.mem_append_right _ (List.mem_append_left _ (List.mem_of_getElem? (i := 0) rfl)))))))))))))))), by decide +kernel, by decide +kernel, _, rfl, rfl⟩
set_option maxRecDepth 100000 in
theorem fk_i314 : fk_I (314, 12, 1) := ⟨fk_q314, fk_in10 (List.mem_of_getElem? (i := 191) rfl), fk_sel (q := (⟨"FoldForgeModel", "binary", "(I)V"⟩, 143)) (List.mem_append_right _ (List.mem_append_right _ (List.mem_append_right _ (List.mem_append_right _ (List.mem_append_right _ (List.mem_append_right _ (List.mem_append_right _ (List.mem_append_right _ (List.mem_append_right _ (List.mem_append_right _ (List.mem_append_right _ (List.mem_append_right _ (List.mem_append_right _ (List.mem_append_right _ (List.mem_append_left _ (List.mem_of_getElem? (i := 1) rfl)))))))))))))))), by decide +kernel, by decide +kernel, _, rfl, rfl⟩
set_option maxRecDepth 100000 in
theorem fk_s315 : fk_S (315, 4) := ⟨fk_q315, fk_in10 (List.mem_of_getElem? (i := 194) rfl), by decide +kernel, by decide +kernel⟩
set_option maxRecDepth 100000 in
theorem fk_s316 : fk_S (316, 2) := ⟨fk_q316, fk_in10 (List.mem_of_getElem? (i := 197) rfl), by decide +kernel, by decide +kernel⟩
set_option maxRecDepth 100000 in
theorem fk_i317 : fk_I (317, 12, 4) := ⟨fk_q317, fk_in10 (List.mem_of_getElem? (i := 202) rfl), fk_sel (q := (⟨"FoldForgeModel", "reckoned", "(IJJZ)J"⟩, 143)) (List.mem_append_right _ (List.mem_append_right _ (List.mem_append_right _ (List.mem_append_right _ (List.mem_append_right _ (List.mem_append_right _ (List.mem_append_right _ (List.mem_append_right _ (List.mem_append_right _ (List.mem_append_right _ (List.mem_append_right _ (List.mem_append_right _ (List.mem_append_right _ (List.mem_append_right _ (List.mem_append_left _ (List.mem_of_getElem? (i := 2) rfl)))))))))))))))), by decide +kernel, by decide +kernel, _, rfl, rfl⟩
set_option maxRecDepth 100000 in
theorem fk_i318 : fk_I (318, 12, 6) := ⟨fk_q318, fk_in10 (List.mem_of_getElem? (i := 206) rfl), fk_sel (q := (⟨"FoldForgeModel", "divided", "(IJJJJZ)J"⟩, 143)) (List.mem_append_right _ (List.mem_append_right _ (List.mem_append_right _ (List.mem_append_right _ (List.mem_append_right _ (List.mem_append_right _ (List.mem_append_right _ (List.mem_append_right _ (List.mem_append_right _ (List.mem_append_right _ (List.mem_append_right _ (List.mem_append_right _ (List.mem_append_right _ (List.mem_append_right _ (List.mem_append_left _ (List.mem_of_getElem? (i := 3) rfl)))))))))))))))), by decide +kernel, by decide +kernel, _, rfl, rfl⟩
set_option maxRecDepth 100000 in
theorem fk_s319 : fk_S (319, 3) := ⟨fk_q319, fk_in10 (List.mem_of_getElem? (i := 210) rfl), by decide +kernel, by decide +kernel⟩
set_option maxRecDepth 100000 in
theorem fk_i320 : fk_I (320, 12, 1) := ⟨fk_q320, fk_in10 (List.mem_of_getElem? (i := 213) rfl), fk_in10 (List.mem_of_getElem? (i := 214) rfl), by decide +kernel, by decide +kernel, _, rfl, rfl⟩
set_option maxRecDepth 100000 in
theorem fk_i321 : fk_I (321, 12, 1) := ⟨fk_q321, fk_in10 (List.mem_of_getElem? (i := 217) rfl), fk_in10 (List.mem_of_getElem? (i := 218) rfl), by decide +kernel, by decide +kernel, _, rfl, rfl⟩
set_option maxRecDepth 100000 in
theorem fk_i322 : fk_I (322, 12, 1) := ⟨fk_q322, fk_in10 (List.mem_of_getElem? (i := 221) rfl), fk_in10 (List.mem_of_getElem? (i := 222) rfl), by decide +kernel, by decide +kernel, _, rfl, rfl⟩
set_option maxRecDepth 100000 in
theorem fk_i323 : fk_I (323, 12, 1) := ⟨fk_q323, fk_in10 (List.mem_of_getElem? (i := 226) rfl), fk_in10 (List.mem_of_getElem? (i := 227) rfl), by decide +kernel, by decide +kernel, _, rfl, rfl⟩
set_option maxRecDepth 100000 in
theorem fk_i324 : fk_I (324, 12, 1) := ⟨fk_q324, fk_in10 (List.mem_of_getElem? (i := 230) rfl), fk_in10 (List.mem_of_getElem? (i := 231) rfl), by decide +kernel, by decide +kernel, _, rfl, rfl⟩
set_option maxRecDepth 100000 in
theorem fk_i325 : fk_I (325, 12, 0) := ⟨fk_q325, fk_in10 (List.mem_of_getElem? (i := 235) rfl), fk_sel (q := (⟨"FoldForgeModel", "scan", "()V"⟩, 143)) (List.mem_append_right _ (List.mem_append_right _ (List.mem_append_right _ (List.mem_append_right _ (List.mem_append_right _ (List.mem_append_right _ (List.mem_append_right _ (List.mem_append_right _ (List.mem_append_right _ (List.mem_append_right _ (List.mem_append_right _ (List.mem_append_right _ (List.mem_append_right _ (List.mem_append_right _ (List.mem_append_left _ (List.mem_of_getElem? (i := 4) rfl)))))))))))))))), by decide +kernel, by decide +kernel, _, rfl, rfl⟩
set_option maxRecDepth 100000 in
theorem fk_i326 : fk_I (326, 12, 1) := ⟨fk_q326, fk_in10 (List.mem_of_getElem? (i := 239) rfl), fk_sel (q := (⟨"FoldForgeModel", "byteAt", "(I)I"⟩, 143)) (List.mem_append_right _ (List.mem_append_right _ (List.mem_append_right _ (List.mem_append_right _ (List.mem_append_right _ (List.mem_append_right _ (List.mem_append_right _ (List.mem_append_right _ (List.mem_append_right _ (List.mem_append_right _ (List.mem_append_right _ (List.mem_append_right _ (List.mem_append_right _ (List.mem_append_right _ (List.mem_append_left _ (List.mem_of_getElem? (i := 5) rfl)))))))))))))))), by decide +kernel, by decide +kernel, _, rfl, rfl⟩
set_option maxRecDepth 100000 in
theorem fk_s327 : fk_S (327, 1) := ⟨fk_q327, fk_in11 (List.mem_of_getElem? (i := 2) rfl), by decide +kernel, by decide +kernel⟩
set_option maxRecDepth 100000 in
theorem fk_s328 : fk_S (328, 1) := ⟨fk_q328, fk_in11 (List.mem_of_getElem? (i := 5) rfl), by decide +kernel, by decide +kernel⟩
set_option maxRecDepth 100000 in
theorem fk_i329 : fk_I (329, 12, 0) := ⟨fk_q329, fk_in11 (List.mem_of_getElem? (i := 14) rfl), fk_sel (q := (⟨"FoldForgeModel", "definition", "()V"⟩, 143)) (List.mem_append_right _ (List.mem_append_right _ (List.mem_append_right _ (List.mem_append_right _ (List.mem_append_right _ (List.mem_append_right _ (List.mem_append_right _ (List.mem_append_right _ (List.mem_append_right _ (List.mem_append_right _ (List.mem_append_right _ (List.mem_append_right _ (List.mem_append_right _ (List.mem_append_right _ (List.mem_append_left _ (List.mem_of_getElem? (i := 6) rfl)))))))))))))))), by decide +kernel, by decide +kernel, _, rfl, rfl⟩
set_option maxRecDepth 100000 in
theorem fk_i330 : fk_I (330, 12, 1) := ⟨fk_q330, fk_in11 (List.mem_of_getElem? (i := 19) rfl), fk_sel (q := (⟨"FoldForgeModel", "word", "(Ljava/lang/String;)V"⟩, 143)) (List.mem_append_right _ (List.mem_append_right _ (List.mem_append_right _ (List.mem_append_right _ (List.mem_append_right _ (List.mem_append_right _ (List.mem_append_right _ (List.mem_append_right _ (List.mem_append_right _ (List.mem_append_right _ (List.mem_append_right _ (List.mem_append_right _ (List.mem_append_right _ (List.mem_append_right _ (List.mem_append_left _ (List.mem_of_getElem? (i := 7) rfl)))))))))))))))), by decide +kernel, by decide +kernel, _, rfl, rfl⟩
set_option maxRecDepth 100000 in
theorem fk_i331 : fk_I (331, 12, 1) := ⟨fk_q331, fk_in11 (List.mem_of_getElem? (i := 23) rfl), fk_sel (q := (⟨"FoldForgeModel", "isWord", "(Ljava/lang/String;)Z"⟩, 143)) (List.mem_append_right _ (List.mem_append_right _ (List.mem_append_right _ (List.mem_append_right _ (List.mem_append_right _ (List.mem_append_right _ (List.mem_append_right _ (List.mem_append_right _ (List.mem_append_right _ (List.mem_append_right _ (List.mem_append_right _ (List.mem_append_right _ (List.mem_append_right _ (List.mem_append_right _ (List.mem_append_left _ (List.mem_of_getElem? (i := 8) rfl)))))))))))))))), by decide +kernel, by decide +kernel, _, rfl, rfl⟩
set_option maxRecDepth 100000 in
theorem fk_i332 : fk_I (332, 12, 1) := ⟨fk_q332, fk_in11 (List.mem_of_getElem? (i := 29) rfl), fk_sel (q := (⟨"FoldForgeModel", "wrong", "(I)V"⟩, 143)) (List.mem_append_right _ (List.mem_append_right _ (List.mem_append_right _ (List.mem_append_right _ (List.mem_append_right _ (List.mem_append_right _ (List.mem_append_right _ (List.mem_append_right _ (List.mem_append_right _ (List.mem_append_right _ (List.mem_append_right _ (List.mem_append_right _ (List.mem_append_right _ (List.mem_append_right _ (List.mem_append_left _ (List.mem_of_getElem? (i := 9) rfl)))))))))))))))), by decide +kernel, by decide +kernel, _, rfl, rfl⟩
set_option maxRecDepth 100000 in
theorem fk_i333 : fk_I (333, 12, 0) := ⟨fk_q333, fk_in11 (List.mem_of_getElem? (i := 33) rfl), fk_sel (q := (⟨"FoldForgeModel", "name", "()V"⟩, 143)) (List.mem_append_right _ (List.mem_append_right _ (List.mem_append_right _ (List.mem_append_right _ (List.mem_append_right _ (List.mem_append_right _ (List.mem_append_right _ (List.mem_append_right _ (List.mem_append_right _ (List.mem_append_right _ (List.mem_append_right _ (List.mem_append_right _ (List.mem_append_right _ (List.mem_append_right _ (List.mem_append_left _ (List.mem_of_getElem? (i := 10) rfl)))))))))))))))), by decide +kernel, by decide +kernel, _, rfl, rfl⟩
set_option maxRecDepth 100000 in
theorem fk_i334 : fk_I (334, 12, 0) := ⟨fk_q334, fk_in11 (List.mem_of_getElem? (i := 37) rfl), fk_sel (q := (⟨"FoldForgeModel", "isName", "()Z"⟩, 143)) (List.mem_append_right _ (List.mem_append_right _ (List.mem_append_right _ (List.mem_append_right _ (List.mem_append_right _ (List.mem_append_right _ (List.mem_append_right _ (List.mem_append_right _ (List.mem_append_right _ (List.mem_append_right _ (List.mem_append_right _ (List.mem_append_right _ (List.mem_append_right _ (List.mem_append_right _ (List.mem_append_left _ (List.mem_of_getElem? (i := 11) rfl)))))))))))))))), by decide +kernel, by decide +kernel, _, rfl, rfl⟩
set_option maxRecDepth 100000 in
theorem fk_i335 : fk_I (335, 12, 1) := ⟨fk_q335, fk_in11 (List.mem_of_getElem? (i := 42) rfl), fk_sel (q := (⟨"FoldForgeModel", "sign", "(I)V"⟩, 143)) (List.mem_append_right _ (List.mem_append_right _ (List.mem_append_right _ (List.mem_append_right _ (List.mem_append_right _ (List.mem_append_right _ (List.mem_append_right _ (List.mem_append_right _ (List.mem_append_right _ (List.mem_append_right _ (List.mem_append_right _ (List.mem_append_right _ (List.mem_append_right _ (List.mem_append_right _ (List.mem_append_left _ (List.mem_of_getElem? (i := 12) rfl)))))))))))))))), by decide +kernel, by decide +kernel, _, rfl, rfl⟩
set_option maxRecDepth 100000 in
theorem fk_i336 : fk_I (336, 12, 1) := ⟨fk_q336, fk_in11 (List.mem_of_getElem? (i := 46) rfl), fk_sel (q := (⟨"FoldForgeModel", "isSign", "(I)Z"⟩, 143)) (List.mem_append_right _ (List.mem_append_right _ (List.mem_append_right _ (List.mem_append_right _ (List.mem_append_right _ (List.mem_append_right _ (List.mem_append_right _ (List.mem_append_right _ (List.mem_append_right _ (List.mem_append_right _ (List.mem_append_right _ (List.mem_append_right _ (List.mem_append_right _ (List.mem_append_right _ (List.mem_append_left _ (List.mem_of_getElem? (i := 13) rfl)))))))))))))))), by decide +kernel, by decide +kernel, _, rfl, rfl⟩
set_option maxRecDepth 100000 in
theorem fk_i337 : fk_I (337, 12, 0) := ⟨fk_q337, fk_in11 (List.mem_of_getElem? (i := 50) rfl), fk_sel (q := (⟨"FoldForgeModel", "typeWord", "()I"⟩, 143)) (List.mem_append_right _ (List.mem_append_right _ (List.mem_append_right _ (List.mem_append_right _ (List.mem_append_right _ (List.mem_append_right _ (List.mem_append_right _ (List.mem_append_right _ (List.mem_append_right _ (List.mem_append_right _ (List.mem_append_right _ (List.mem_append_right _ (List.mem_append_right _ (List.mem_append_right _ (List.mem_append_left _ (List.mem_of_getElem? (i := 14) rfl)))))))))))))))), by decide +kernel, by decide +kernel, _, rfl, rfl⟩
set_option maxRecDepth 100000 in
theorem fk_i338 : fk_I (338, 12, 0) := ⟨fk_q338, fk_in11 (List.mem_of_getElem? (i := 57) rfl), fk_sel (q := (⟨"FoldForgeModel", "anyE", "()I"⟩, 143)) (List.mem_append_right _ (List.mem_append_right _ (List.mem_append_right _ (List.mem_append_right _ (List.mem_append_right _ (List.mem_append_right _ (List.mem_append_right _ (List.mem_append_right _ (List.mem_append_right _ (List.mem_append_right _ (List.mem_append_right _ (List.mem_append_right _ (List.mem_append_right _ (List.mem_append_right _ (List.mem_append_left _ (List.mem_of_getElem? (i := 15) rfl)))))))))))))))), by decide +kernel, by decide +kernel, _, rfl, rfl⟩
set_option maxRecDepth 100000 in
theorem fk_i339 : fk_I (339, 12, 1) := ⟨fk_q339, fk_in11 (List.mem_of_getElem? (i := 62) rfl), fk_sel (q := (⟨"FoldForgeModel", "let", "(I)I"⟩, 143)) (List.mem_append_right _ (List.mem_append_right _ (List.mem_append_right _ (List.mem_append_right _ (List.mem_append_right _ (List.mem_append_right _ (List.mem_append_right _ (List.mem_append_right _ (List.mem_append_right _ (List.mem_append_right _ (List.mem_append_right _ (List.mem_append_right _ (List.mem_append_right _ (List.mem_append_right _ (List.mem_append_right _ (List.mem_append_left _ (List.mem_of_getElem? (i := 0) rfl))))))))))))))))), by decide +kernel, by decide +kernel, _, rfl, rfl⟩
set_option maxRecDepth 100000 in
theorem fk_i340 : fk_I (340, 12, 2) := ⟨fk_q340, fk_in11 (List.mem_of_getElem? (i := 66) rfl), fk_sel (q := (⟨"FoldForgeModel", "node", "(II)I"⟩, 143)) (List.mem_append_right _ (List.mem_append_right _ (List.mem_append_right _ (List.mem_append_right _ (List.mem_append_right _ (List.mem_append_right _ (List.mem_append_right _ (List.mem_append_right _ (List.mem_append_right _ (List.mem_append_right _ (List.mem_append_right _ (List.mem_append_right _ (List.mem_append_right _ (List.mem_append_right _ (List.mem_append_right _ (List.mem_append_left _ (List.mem_of_getElem? (i := 1) rfl))))))))))))))))), by decide +kernel, by decide +kernel, _, rfl, rfl⟩
set_option maxRecDepth 100000 in
theorem fk_i341 : fk_I (341, 12, 1) := ⟨fk_q341, fk_in11 (List.mem_of_getElem? (i := 72) rfl), fk_sel (q := (⟨"FoldForgeModel", "choice", "(I)I"⟩, 143)) (List.mem_append_right _ (List.mem_append_right _ (List.mem_append_right _ (List.mem_append_right _ (List.mem_append_right _ (List.mem_append_right _ (List.mem_append_right _ (List.mem_append_right _ (List.mem_append_right _ (List.mem_append_right _ (List.mem_append_right _ (List.mem_append_right _ (List.mem_append_right _ (List.mem_append_right _ (List.mem_append_right _ (List.mem_append_left _ (List.mem_of_getElem? (i := 2) rfl))))))))))))))))), by decide +kernel, by decide +kernel, _, rfl, rfl⟩
set_option maxRecDepth 100000 in
theorem fk_i342 : fk_I (342, 12, 1) := ⟨fk_q342, fk_in11 (List.mem_of_getElem? (i := 79) rfl), fk_sel (q := (⟨"FoldForgeModel", "match", "(I)I"⟩, 143)) (List.mem_append_right _ (List.mem_append_right _ (List.mem_append_right _ (List.mem_append_right _ (List.mem_append_right _ (List.mem_append_right _ (List.mem_append_right _ (List.mem_append_right _ (List.mem_append_right _ (List.mem_append_right _ (List.mem_append_right _ (List.mem_append_right _ (List.mem_append_right _ (List.mem_append_right _ (List.mem_append_right _ (List.mem_append_left _ (List.mem_of_getElem? (i := 3) rfl))))))))))))))))), by decide +kernel, by decide +kernel, _, rfl, rfl⟩
set_option maxRecDepth 100000 in
theorem fk_i343 : fk_I (343, 12, 1) := ⟨fk_q343, fk_in11 (List.mem_of_getElem? (i := 85) rfl), fk_sel (q := (⟨"FoldForgeModel", "compare", "(I)I"⟩, 143)) (List.mem_append_right _ (List.mem_append_right _ (List.mem_append_right _ (List.mem_append_right _ (List.mem_append_right _ (List.mem_append_right _ (List.mem_append_right _ (List.mem_append_right _ (List.mem_append_right _ (List.mem_append_right _ (List.mem_append_right _ (List.mem_append_right _ (List.mem_append_right _ (List.mem_append_right _ (List.mem_append_right _ (List.mem_append_left _ (List.mem_of_getElem? (i := 4) rfl))))))))))))))))), by decide +kernel, by decide +kernel, _, rfl, rfl⟩
set_option maxRecDepth 100000 in
theorem fk_i344 : fk_I (344, 12, 0) := ⟨fk_q344, fk_in11 (List.mem_of_getElem? (i := 89) rfl), fk_sel (q := (⟨"FoldForgeModel", "sum", "()I"⟩, 143)) (List.mem_append_right _ (List.mem_append_right _ (List.mem_append_right _ (List.mem_append_right _ (List.mem_append_right _ (List.mem_append_right _ (List.mem_append_right _ (List.mem_append_right _ (List.mem_append_right _ (List.mem_append_right _ (List.mem_append_right _ (List.mem_append_right _ (List.mem_append_right _ (List.mem_append_right _ (List.mem_append_right _ (List.mem_append_left _ (List.mem_of_getElem? (i := 5) rfl))))))))))))))))), by decide +kernel, by decide +kernel, _, rfl, rfl⟩
set_option maxRecDepth 100000 in
theorem fk_i345 : fk_I (345, 12, 0) := ⟨fk_q345, fk_in11 (List.mem_of_getElem? (i := 93) rfl), fk_sel (q := (⟨"FoldForgeModel", "product", "()I"⟩, 143)) (List.mem_append_right _ (List.mem_append_right _ (List.mem_append_right _ (List.mem_append_right _ (List.mem_append_right _ (List.mem_append_right _ (List.mem_append_right _ (List.mem_append_right _ (List.mem_append_right _ (List.mem_append_right _ (List.mem_append_right _ (List.mem_append_right _ (List.mem_append_right _ (List.mem_append_right _ (List.mem_append_right _ (List.mem_append_left _ (List.mem_of_getElem? (i := 6) rfl))))))))))))))))), by decide +kernel, by decide +kernel, _, rfl, rfl⟩
set_option maxRecDepth 100000 in
theorem fk_i346 : fk_I (346, 12, 0) := ⟨fk_q346, fk_in11 (List.mem_of_getElem? (i := 97) rfl), fk_sel (q := (⟨"FoldForgeModel", "atom", "()I"⟩, 143)) (List.mem_append_right _ (List.mem_append_right _ (List.mem_append_right _ (List.mem_append_right _ (List.mem_append_right _ (List.mem_append_right _ (List.mem_append_right _ (List.mem_append_right _ (List.mem_append_right _ (List.mem_append_right _ (List.mem_append_right _ (List.mem_append_right _ (List.mem_append_right _ (List.mem_append_right _ (List.mem_append_right _ (List.mem_append_left _ (List.mem_of_getElem? (i := 7) rfl))))))))))))))))), by decide +kernel, by decide +kernel, _, rfl, rfl⟩
set_option maxRecDepth 100000 in
theorem fk_i347 : fk_I (347, 12, 0) := ⟨fk_q347, fk_in11 (List.mem_of_getElem? (i := 101) rfl), fk_sel (q := (⟨"FoldForgeModel", "isRoom", "()Z"⟩, 143)) (List.mem_append_right _ (List.mem_append_right _ (List.mem_append_right _ (List.mem_append_right _ (List.mem_append_right _ (List.mem_append_right _ (List.mem_append_right _ (List.mem_append_right _ (List.mem_append_right _ (List.mem_append_right _ (List.mem_append_right _ (List.mem_append_right _ (List.mem_append_right _ (List.mem_append_right _ (List.mem_append_right _ (List.mem_append_left _ (List.mem_of_getElem? (i := 8) rfl))))))))))))))))), by decide +kernel, by decide +kernel, _, rfl, rfl⟩
set_option maxRecDepth 100000 in
theorem fk_i348 : fk_I (348, 12, 1) := ⟨fk_q348, fk_in11 (List.mem_of_getElem? (i := 105) rfl), fk_sel (q := (⟨"FoldForgeModel", "simple", "(I)I"⟩, 143)) (List.mem_append_right _ (List.mem_append_right _ (List.mem_append_right _ (List.mem_append_right _ (List.mem_append_right _ (List.mem_append_right _ (List.mem_append_right _ (List.mem_append_right _ (List.mem_append_right _ (List.mem_append_right _ (List.mem_append_right _ (List.mem_append_right _ (List.mem_append_right _ (List.mem_append_right _ (List.mem_append_right _ (List.mem_append_left _ (List.mem_of_getElem? (i := 9) rfl))))))))))))))))), by decide +kernel, by decide +kernel, _, rfl, rfl⟩
set_option maxRecDepth 100000 in
theorem fk_i349 : fk_I (349, 12, 3) := ⟨fk_q349, fk_in11 (List.mem_of_getElem? (i := 111) rfl), fk_sel (q := (⟨"FoldForgeModel", "two", "(III)I"⟩, 143)) (List.mem_append_right _ (List.mem_append_right _ (List.mem_append_right _ (List.mem_append_right _ (List.mem_append_right _ (List.mem_append_right _ (List.mem_append_right _ (List.mem_append_right _ (List.mem_append_right _ (List.mem_append_right _ (List.mem_append_right _ (List.mem_append_right _ (List.mem_append_right _ (List.mem_append_right _ (List.mem_append_right _ (List.mem_append_left _ (List.mem_of_getElem? (i := 10) rfl))))))))))))))))), by decide +kernel, by decide +kernel, _, rfl, rfl⟩
set_option maxRecDepth 100000 in
theorem fk_i350 : fk_I (350, 12, 0) := ⟨fk_q350, fk_in11 (List.mem_of_getElem? (i := 115) rfl), fk_sel (q := (⟨"FoldForgeModel", "checks", "()V"⟩, 143)) (List.mem_append_right _ (List.mem_append_right _ (List.mem_append_right _ (List.mem_append_right _ (List.mem_append_right _ (List.mem_append_right _ (List.mem_append_right _ (List.mem_append_right _ (List.mem_append_right _ (List.mem_append_right _ (List.mem_append_right _ (List.mem_append_right _ (List.mem_append_right _ (List.mem_append_right _ (List.mem_append_right _ (List.mem_append_left _ (List.mem_of_getElem? (i := 11) rfl))))))))))))))))), by decide +kernel, by decide +kernel, _, rfl, rfl⟩
set_option maxRecDepth 100000 in
theorem fk_i351 : fk_I (351, 12, 4) := ⟨fk_q351, fk_in11 (List.mem_of_getElem? (i := 119) rfl), fk_sel (q := (⟨"FoldForgeModel", "isAlikeText", "(IIII)Z"⟩, 143)) (List.mem_append_right _ (List.mem_append_right _ (List.mem_append_right _ (List.mem_append_right _ (List.mem_append_right _ (List.mem_append_right _ (List.mem_append_right _ (List.mem_append_right _ (List.mem_append_right _ (List.mem_append_right _ (List.mem_append_right _ (List.mem_append_right _ (List.mem_append_right _ (List.mem_append_right _ (List.mem_append_right _ (List.mem_append_left _ (List.mem_of_getElem? (i := 12) rfl))))))))))))))))), by decide +kernel, by decide +kernel, _, rfl, rfl⟩
set_option maxRecDepth 100000 in
theorem fk_i352 : fk_I (352, 12, 1) := ⟨fk_q352, fk_in11 (List.mem_of_getElem? (i := 123) rfl), fk_sel (q := (⟨"FoldForgeModel", "faultAt", "(I)V"⟩, 143)) (List.mem_append_right _ (List.mem_append_right _ (List.mem_append_right _ (List.mem_append_right _ (List.mem_append_right _ (List.mem_append_right _ (List.mem_append_right _ (List.mem_append_right _ (List.mem_append_right _ (List.mem_append_right _ (List.mem_append_right _ (List.mem_append_right _ (List.mem_append_right _ (List.mem_append_right _ (List.mem_append_right _ (List.mem_append_left _ (List.mem_of_getElem? (i := 13) rfl))))))))))))))))), by decide +kernel, by decide +kernel, _, rfl, rfl⟩
set_option maxRecDepth 100000 in
theorem fk_i353 : fk_I (353, 12, 2) := ⟨fk_q353, fk_in11 (List.mem_of_getElem? (i := 127) rfl), fk_sel (q := (⟨"FoldForgeModel", "placeOf", "(II)I"⟩, 143)) (List.mem_append_right _ (List.mem_append_right _ (List.mem_append_right _ (List.mem_append_right _ (List.mem_append_right _ (List.mem_append_right _ (List.mem_append_right _ (List.mem_append_right _ (List.mem_append_right _ (List.mem_append_right _ (List.mem_append_right _ (List.mem_append_right _ (List.mem_append_right _ (List.mem_append_right _ (List.mem_append_right _ (List.mem_append_left _ (List.mem_of_getElem? (i := 14) rfl))))))))))))))))), by decide +kernel, by decide +kernel, _, rfl, rfl⟩
set_option maxRecDepth 100000 in
theorem fk_i354 : fk_I (354, 12, 3) := ⟨fk_q354, fk_in11 (List.mem_of_getElem? (i := 131) rfl), fk_sel (q := (⟨"FoldForgeModel", "binds", "(III)V"⟩, 143)) (List.mem_append_right _ (List.mem_append_right _ (List.mem_append_right _ (List.mem_append_right _ (List.mem_append_right _ (List.mem_append_right _ (List.mem_append_right _ (List.mem_append_right _ (List.mem_append_right _ (List.mem_append_right _ (List.mem_append_right _ (List.mem_append_right _ (List.mem_append_right _ (List.mem_append_right _ (List.mem_append_right _ (List.mem_append_left _ (List.mem_of_getElem? (i := 15) rfl))))))))))))))))), by decide +kernel, by decide +kernel, _, rfl, rfl⟩
set_option maxRecDepth 100000 in
theorem fk_i355 : fk_I (355, 12, 3) := ⟨fk_q355, fk_in11 (List.mem_of_getElem? (i := 135) rfl), fk_sel (q := (⟨"FoldForgeModel", "expects", "(III)V"⟩, 143)) (List.mem_append_right _ (List.mem_append_right _ (List.mem_append_right _ (List.mem_append_right _ (List.mem_append_right _ (List.mem_append_right _ (List.mem_append_right _ (List.mem_append_right _ (List.mem_append_right _ (List.mem_append_right _ (List.mem_append_right _ (List.mem_append_right _ (List.mem_append_right _ (List.mem_append_right _ (List.mem_append_right _ (List.mem_append_right _ (List.mem_of_getElem? (i := 0) rfl))))))))))))))))), by decide +kernel, by decide +kernel, _, rfl, rfl⟩
set_option maxRecDepth 100000 in
theorem fk_i356 : fk_I (356, 12, 1) := ⟨fk_q356, fk_in11 (List.mem_of_getElem? (i := 139) rfl), fk_sel (q := (⟨"FoldForgeModel", "check", "(I)I"⟩, 143)) (List.mem_append_right _ (List.mem_append_right _ (List.mem_append_right _ (List.mem_append_right _ (List.mem_append_right _ (List.mem_append_right _ (List.mem_append_right _ (List.mem_append_right _ (List.mem_append_right _ (List.mem_append_right _ (List.mem_append_right _ (List.mem_append_right _ (List.mem_append_right _ (List.mem_append_right _ (List.mem_append_right _ (List.mem_append_right _ (List.mem_of_getElem? (i := 1) rfl))))))))))))))))), by decide +kernel, by decide +kernel, _, rfl, rfl⟩
set_option maxRecDepth 100000 in
theorem fk_i357 : fk_I (357, 12, 1) := ⟨fk_q357, fk_in11 (List.mem_of_getElem? (i := 143) rfl), fk_sel (q := (⟨"FoldForgeModel", "checkCall", "(I)I"⟩, 143)) (List.mem_append_right _ (List.mem_append_right _ (List.mem_append_right _ (List.mem_append_right _ (List.mem_append_right _ (List.mem_append_right _ (List.mem_append_right _ (List.mem_append_right _ (List.mem_append_right _ (List.mem_append_right _ (List.mem_append_right _ (List.mem_append_right _ (List.mem_append_right _ (List.mem_append_right _ (List.mem_append_right _ (List.mem_append_right _ (List.mem_of_getElem? (i := 2) rfl))))))))))))))))), by decide +kernel, by decide +kernel, _, rfl, rfl⟩
set_option maxRecDepth 100000 in
theorem fk_i358 : fk_I (358, 12, 2) := ⟨fk_q358, fk_in11 (List.mem_of_getElem? (i := 147) rfl), fk_sel (q := (⟨"FoldForgeModel", "functionOf", "(II)I"⟩, 143)) (List.mem_append_right _ (List.mem_append_right _ (List.mem_append_right _ (List.mem_append_right _ (List.mem_append_right _ (List.mem_append_right _ (List.mem_append_right _ (List.mem_append_right _ (List.mem_append_right _ (List.mem_append_right _ (List.mem_append_right _ (List.mem_append_right _ (List.mem_append_right _ (List.mem_append_right _ (List.mem_append_right _ (List.mem_append_right _ (List.mem_of_getElem? (i := 3) rfl))))))))))))))))), by decide +kernel, by decide +kernel, _, rfl, rfl⟩
set_option maxRecDepth 100000 in
theorem fk_i359 : fk_I (359, 12, 1) := ⟨fk_q359, fk_in11 (List.mem_of_getElem? (i := 151) rfl), fk_sel (q := (⟨"FoldForgeModel", "isAct", "(I)Z"⟩, 143)) (List.mem_append_right _ (List.mem_append_right _ (List.mem_append_right _ (List.mem_append_right _ (List.mem_append_right _ (List.mem_append_right _ (List.mem_append_right _ (List.mem_append_right _ (List.mem_append_right _ (List.mem_append_right _ (List.mem_append_right _ (List.mem_append_right _ (List.mem_append_right _ (List.mem_append_right _ (List.mem_append_right _ (List.mem_append_right _ (List.mem_of_getElem? (i := 4) rfl))))))))))))))))), by decide +kernel, by decide +kernel, _, rfl, rfl⟩
set_option maxRecDepth 100000 in
theorem fk_i360 : fk_I (360, 12, 1) := ⟨fk_q360, fk_in11 (List.mem_of_getElem? (i := 155) rfl), fk_sel (q := (⟨"FoldForgeModel", "turns", "(I)V"⟩, 143)) (List.mem_append_right _ (List.mem_append_right _ (List.mem_append_right _ (List.mem_append_right _ (List.mem_append_right _ (List.mem_append_right _ (List.mem_append_right _ (List.mem_append_right _ (List.mem_append_right _ (List.mem_append_right _ (List.mem_append_right _ (List.mem_append_right _ (List.mem_append_right _ (List.mem_append_right _ (List.mem_append_right _ (List.mem_append_right _ (List.mem_of_getElem? (i := 5) rfl))))))))))))))))), by decide +kernel, by decide +kernel, _, rfl, rfl⟩
set_option maxRecDepth 100000 in
theorem fk_i361 : fk_I (361, 12, 3) := ⟨fk_q361, fk_in11 (List.mem_of_getElem? (i := 159) rfl), fk_sel (q := (⟨"FoldForgeModel", "lays", "(III)I"⟩, 143)) (List.mem_append_right _ (List.mem_append_right _ (List.mem_append_right _ (List.mem_append_right _ (List.mem_append_right _ (List.mem_append_right _ (List.mem_append_right _ (List.mem_append_right _ (List.mem_append_right _ (List.mem_append_right _ (List.mem_append_right _ (List.mem_append_right _ (List.mem_append_right _ (List.mem_append_right _ (List.mem_append_right _ (List.mem_append_right _ (List.mem_of_getElem? (i := 6) rfl))))))))))))))))), by decide +kernel, by decide +kernel, _, rfl, rfl⟩
set_option maxRecDepth 100000 in
theorem fk_i362 : fk_I (362, 12, 1) := ⟨fk_q362, fk_in11 (List.mem_of_getElem? (i := 162) rfl), fk_in11 (List.mem_of_getElem? (i := 163) rfl), by decide +kernel, by decide +kernel, _, rfl, rfl⟩
set_option maxRecDepth 100000 in
theorem fk_i363 : fk_I (363, 12, 1) := ⟨fk_q363, fk_in11 (List.mem_of_getElem? (i := 167) rfl), fk_sel (q := (⟨"FoldForgeModel", "begins", "(I)V"⟩, 143)) (List.mem_append_right _ (List.mem_append_right _ (List.mem_append_right _ (List.mem_append_right _ (List.mem_append_right _ (List.mem_append_right _ (List.mem_append_right _ (List.mem_append_right _ (List.mem_append_right _ (List.mem_append_right _ (List.mem_append_right _ (List.mem_append_right _ (List.mem_append_right _ (List.mem_append_right _ (List.mem_append_right _ (List.mem_append_right _ (List.mem_of_getElem? (i := 7) rfl))))))))))))))))), by decide +kernel, by decide +kernel, _, rfl, rfl⟩
set_option maxRecDepth 100000 in
theorem fk_i364 : fk_I (364, 12, 0) := ⟨fk_q364, fk_in11 (List.mem_of_getElem? (i := 171) rfl), fk_sel (q := (⟨"FoldForgeModel", "one", "()V"⟩, 143)) (List.mem_append_right _ (List.mem_append_right _ (List.mem_append_right _ (List.mem_append_right _ (List.mem_append_right _ (List.mem_append_right _ (List.mem_append_right _ (List.mem_append_right _ (List.mem_append_right _ (List.mem_append_right _ (List.mem_append_right _ (List.mem_append_right _ (List.mem_append_right _ (List.mem_append_right _ (List.mem_append_right _ (List.mem_append_right _ (List.mem_of_getElem? (i := 8) rfl))))))))))))))))), by decide +kernel, by decide +kernel, _, rfl, rfl⟩
set_option maxRecDepth 100000 in
theorem fk_i365 : fk_I (365, 12, 3) := ⟨fk_q365, fk_in11 (List.mem_of_getElem? (i := 175) rfl), fk_sel (q := (⟨"FoldForgeModel", "signOf", "(III)I"⟩, 143)) (List.mem_append_right _ (List.mem_append_right _ (List.mem_append_right _ (List.mem_append_right _ (List.mem_append_right _ (List.mem_append_right _ (List.mem_append_right _ (List.mem_append_right _ (List.mem_append_right _ (List.mem_append_right _ (List.mem_append_right _ (List.mem_append_right _ (List.mem_append_right _ (List.mem_append_right _ (List.mem_append_right _ (List.mem_append_right _ (List.mem_of_getElem? (i := 9) rfl))))))))))))))))), by decide +kernel, by decide +kernel, _, rfl, rfl⟩
set_option maxRecDepth 100000 in
theorem fk_i366 : fk_I (366, 12, 0) := ⟨fk_q366, fk_in11 (List.mem_of_getElem? (i := 179) rfl), fk_sel (q := (⟨"FoldForgeModel", "pairUp", "()V"⟩, 143)) (List.mem_append_right _ (List.mem_append_right _ (List.mem_append_right _ (List.mem_append_right _ (List.mem_append_right _ (List.mem_append_right _ (List.mem_append_right _ (List.mem_append_right _ (List.mem_append_right _ (List.mem_append_right _ (List.mem_append_right _ (List.mem_append_right _ (List.mem_append_right _ (List.mem_append_right _ (List.mem_append_right _ (List.mem_append_right _ (List.mem_of_getElem? (i := 10) rfl))))))))))))))))), by decide +kernel, by decide +kernel, _, rfl, rfl⟩
set_option maxRecDepth 100000 in
theorem fk_i367 : fk_I (367, 12, 1) := ⟨fk_q367, fk_in11 (List.mem_of_getElem? (i := 182) rfl), fk_in11 (List.mem_of_getElem? (i := 183) rfl), by decide +kernel, by decide +kernel, _, rfl, rfl⟩
def fk_Il_0 : List (Nat × Nat × Nat) := [(13, 11, 5), (14, 11, 1), (15, 11, 1), (16, 5, 3), (17, 6, 0), (18, 10, 2), (20, 10, 0), (21, 10, 1), (22, 10, 2), (23, 5, 0), (24, 10, 0), (25, 10, 0), (26, 10, 0), (27, 1, 2), (28, 10, 0), (29, 1, 3), (30, 10, 0), (31, 1, 2), (32, 1, 1), (33, 2, 1), (34, 1, 3), (35, 1, 4), (38, 1, 2), (39, 2, 1), (40, 1, 4), (42, 1, 1), (43, 10, 1), (46, 10, 1), (47, 5, 2), (48, 5, 0)]
theorem fk_Il_0_ok : ∀ q ∈ fk_Il_0, fk_I q := List.forall_mem_cons.mpr ⟨fk_i13, List.forall_mem_cons.mpr ⟨fk_i14, List.forall_mem_cons.mpr ⟨fk_i15, List.forall_mem_cons.mpr ⟨fk_i16, List.forall_mem_cons.mpr ⟨fk_i17, List.forall_mem_cons.mpr ⟨fk_i18, List.forall_mem_cons.mpr ⟨fk_i20, List.forall_mem_cons.mpr ⟨fk_i21, List.forall_mem_cons.mpr ⟨fk_i22, List.forall_mem_cons.mpr ⟨fk_i23, List.forall_mem_cons.mpr ⟨fk_i24, List.forall_mem_cons.mpr ⟨fk_i25, List.forall_mem_cons.mpr ⟨fk_i26, List.forall_mem_cons.mpr ⟨fk_i27, List.forall_mem_cons.mpr ⟨fk_i28, List.forall_mem_cons.mpr ⟨fk_i29, List.forall_mem_cons.mpr ⟨fk_i30, List.forall_mem_cons.mpr ⟨fk_i31, List.forall_mem_cons.mpr ⟨fk_i32, List.forall_mem_cons.mpr ⟨fk_i33, List.forall_mem_cons.mpr ⟨fk_i34, List.forall_mem_cons.mpr ⟨fk_i35, List.forall_mem_cons.mpr ⟨fk_i38, List.forall_mem_cons.mpr ⟨fk_i39, List.forall_mem_cons.mpr ⟨fk_i40, List.forall_mem_cons.mpr ⟨fk_i42, List.forall_mem_cons.mpr ⟨fk_i43, List.forall_mem_cons.mpr ⟨fk_i46, List.forall_mem_cons.mpr ⟨fk_i47, List.forall_mem_cons.mpr ⟨fk_i48, fun _ h => absurd h List.not_mem_nil⟩⟩⟩⟩⟩⟩⟩⟩⟩⟩⟩⟩⟩⟩⟩⟩⟩⟩⟩⟩⟩⟩⟩⟩⟩⟩⟩⟩⟩⟩
def fk_Il_1 : List (Nat × Nat × Nat) := [(49, 5, 3), (50, 5, 1), (51, 5, 1), (52, 5, 2), (53, 5, 0), (54, 5, 1), (55, 5, 2), (56, 5, 2), (57, 3, 1), (58, 3, 0), (59, 3, 2), (60, 3, 0), (61, 3, 0), (62, 6, 1), (63, 6, 1), (64, 3, 1), (65, 3, 2), (66, 3, 0), (67, 3, 1), (68, 6, 1), (69, 3, 2), (70, 3, 2), (71, 3, 2), (72, 3, 0), (73, 3, 1), (74, 3, 0), (75, 3, 0), (76, 3, 1), (77, 3, 2), (78, 3, 1)]
theorem fk_Il_1_ok : ∀ q ∈ fk_Il_1, fk_I q := List.forall_mem_cons.mpr ⟨fk_i49, List.forall_mem_cons.mpr ⟨fk_i50, List.forall_mem_cons.mpr ⟨fk_i51, List.forall_mem_cons.mpr ⟨fk_i52, List.forall_mem_cons.mpr ⟨fk_i53, List.forall_mem_cons.mpr ⟨fk_i54, List.forall_mem_cons.mpr ⟨fk_i55, List.forall_mem_cons.mpr ⟨fk_i56, List.forall_mem_cons.mpr ⟨fk_i57, List.forall_mem_cons.mpr ⟨fk_i58, List.forall_mem_cons.mpr ⟨fk_i59, List.forall_mem_cons.mpr ⟨fk_i60, List.forall_mem_cons.mpr ⟨fk_i61, List.forall_mem_cons.mpr ⟨fk_i62, List.forall_mem_cons.mpr ⟨fk_i63, List.forall_mem_cons.mpr ⟨fk_i64, List.forall_mem_cons.mpr ⟨fk_i65, List.forall_mem_cons.mpr ⟨fk_i66, List.forall_mem_cons.mpr ⟨fk_i67, List.forall_mem_cons.mpr ⟨fk_i68, List.forall_mem_cons.mpr ⟨fk_i69, List.forall_mem_cons.mpr ⟨fk_i70, List.forall_mem_cons.mpr ⟨fk_i71, List.forall_mem_cons.mpr ⟨fk_i72, List.forall_mem_cons.mpr ⟨fk_i73, List.forall_mem_cons.mpr ⟨fk_i74, List.forall_mem_cons.mpr ⟨fk_i75, List.forall_mem_cons.mpr ⟨fk_i76, List.forall_mem_cons.mpr ⟨fk_i77, List.forall_mem_cons.mpr ⟨fk_i78, fun _ h => absurd h List.not_mem_nil⟩⟩⟩⟩⟩⟩⟩⟩⟩⟩⟩⟩⟩⟩⟩⟩⟩⟩⟩⟩⟩⟩⟩⟩⟩⟩⟩⟩⟩⟩
def fk_Il_2 : List (Nat × Nat × Nat) := [(79, 3, 1), (80, 3, 1), (81, 3, 1), (82, 3, 1), (83, 2, 1), (84, 3, 1), (85, 3, 2), (86, 6, 1), (87, 6, 2), (88, 3, 1), (89, 3, 2), (90, 3, 2), (91, 3, 2), (94, 3, 1), (95, 3, 3), (96, 4, 1), (99, 11, 0), (100, 11, 1), (101, 11, 2), (102, 11, 2), (103, 11, 2), (104, 11, 2), (105, 4, 3), (106, 4, 1), (107, 4, 2), (108, 4, 0), (109, 4, 1), (110, 4, 0), (111, 4, 0), (112, 4, 2)]
theorem fk_Il_2_ok : ∀ q ∈ fk_Il_2, fk_I q := List.forall_mem_cons.mpr ⟨fk_i79, List.forall_mem_cons.mpr ⟨fk_i80, List.forall_mem_cons.mpr ⟨fk_i81, List.forall_mem_cons.mpr ⟨fk_i82, List.forall_mem_cons.mpr ⟨fk_i83, List.forall_mem_cons.mpr ⟨fk_i84, List.forall_mem_cons.mpr ⟨fk_i85, List.forall_mem_cons.mpr ⟨fk_i86, List.forall_mem_cons.mpr ⟨fk_i87, List.forall_mem_cons.mpr ⟨fk_i88, List.forall_mem_cons.mpr ⟨fk_i89, List.forall_mem_cons.mpr ⟨fk_i90, List.forall_mem_cons.mpr ⟨fk_i91, List.forall_mem_cons.mpr ⟨fk_i94, List.forall_mem_cons.mpr ⟨fk_i95, List.forall_mem_cons.mpr ⟨fk_i96, List.forall_mem_cons.mpr ⟨fk_i99, List.forall_mem_cons.mpr ⟨fk_i100, List.forall_mem_cons.mpr ⟨fk_i101, List.forall_mem_cons.mpr ⟨fk_i102, List.forall_mem_cons.mpr ⟨fk_i103, List.forall_mem_cons.mpr ⟨fk_i104, List.forall_mem_cons.mpr ⟨fk_i105, List.forall_mem_cons.mpr ⟨fk_i106, List.forall_mem_cons.mpr ⟨fk_i107, List.forall_mem_cons.mpr ⟨fk_i108, List.forall_mem_cons.mpr ⟨fk_i109, List.forall_mem_cons.mpr ⟨fk_i110, List.forall_mem_cons.mpr ⟨fk_i111, List.forall_mem_cons.mpr ⟨fk_i112, fun _ h => absurd h List.not_mem_nil⟩⟩⟩⟩⟩⟩⟩⟩⟩⟩⟩⟩⟩⟩⟩⟩⟩⟩⟩⟩⟩⟩⟩⟩⟩⟩⟩⟩⟩⟩
def fk_Il_3 : List (Nat × Nat × Nat) := [(113, 4, 2), (114, 4, 1), (115, 4, 1), (116, 6, 2), (117, 4, 2), (118, 4, 2), (119, 4, 0), (120, 4, 2), (121, 4, 3), (122, 4, 0), (123, 4, 1), (124, 4, 2), (125, 4, 2), (126, 4, 1), (131, 4, 3), (135, 4, 3), (138, 11, 1), (139, 11, 1), (140, 11, 1), (141, 11, 1), (142, 11, 1), (143, 7, 3), (144, 8, 0), (145, 7, 0), (146, 7, 0), (147, 7, 1), (148, 7, 1), (150, 7, 0), (154, 7, 1), (164, 7, 0)]
theorem fk_Il_3_ok : ∀ q ∈ fk_Il_3, fk_I q := List.forall_mem_cons.mpr ⟨fk_i113, List.forall_mem_cons.mpr ⟨fk_i114, List.forall_mem_cons.mpr ⟨fk_i115, List.forall_mem_cons.mpr ⟨fk_i116, List.forall_mem_cons.mpr ⟨fk_i117, List.forall_mem_cons.mpr ⟨fk_i118, List.forall_mem_cons.mpr ⟨fk_i119, List.forall_mem_cons.mpr ⟨fk_i120, List.forall_mem_cons.mpr ⟨fk_i121, List.forall_mem_cons.mpr ⟨fk_i122, List.forall_mem_cons.mpr ⟨fk_i123, List.forall_mem_cons.mpr ⟨fk_i124, List.forall_mem_cons.mpr ⟨fk_i125, List.forall_mem_cons.mpr ⟨fk_i126, List.forall_mem_cons.mpr ⟨fk_i131, List.forall_mem_cons.mpr ⟨fk_i135, List.forall_mem_cons.mpr ⟨fk_i138, List.forall_mem_cons.mpr ⟨fk_i139, List.forall_mem_cons.mpr ⟨fk_i140, List.forall_mem_cons.mpr ⟨fk_i141, List.forall_mem_cons.mpr ⟨fk_i142, List.forall_mem_cons.mpr ⟨fk_i143, List.forall_mem_cons.mpr ⟨fk_i144, List.forall_mem_cons.mpr ⟨fk_i145, List.forall_mem_cons.mpr ⟨fk_i146, List.forall_mem_cons.mpr ⟨fk_i147, List.forall_mem_cons.mpr ⟨fk_i148, List.forall_mem_cons.mpr ⟨fk_i150, List.forall_mem_cons.mpr ⟨fk_i154, List.forall_mem_cons.mpr ⟨fk_i164, fun _ h => absurd h List.not_mem_nil⟩⟩⟩⟩⟩⟩⟩⟩⟩⟩⟩⟩⟩⟩⟩⟩⟩⟩⟩⟩⟩⟩⟩⟩⟩⟩⟩⟩⟩⟩
def fk_Il_4 : List (Nat × Nat × Nat) := [(165, 7, 1), (181, 7, 0), (182, 7, 0), (183, 7, 0), (184, 7, 1), (185, 7, 1), (186, 7, 0), (187, 7, 0), (188, 7, 1), (189, 7, 1), (190, 8, 4), (191, 7, 1), (192, 7, 2), (193, 8, 1), (194, 7, 1), (195, 7, 1), (196, 7, 2), (197, 7, 1), (198, 7, 0), (199, 7, 1), (200, 7, 1), (201, 7, 4), (203, 0, 1), (204, 0, 1), (205, 8, 1), (206, 0, 1), (207, 0, 1), (208, 0, 1), (209, 0, 2), (210, 0, 2)]
theorem fk_Il_4_ok : ∀ q ∈ fk_Il_4, fk_I q := List.forall_mem_cons.mpr ⟨fk_i165, List.forall_mem_cons.mpr ⟨fk_i181, List.forall_mem_cons.mpr ⟨fk_i182, List.forall_mem_cons.mpr ⟨fk_i183, List.forall_mem_cons.mpr ⟨fk_i184, List.forall_mem_cons.mpr ⟨fk_i185, List.forall_mem_cons.mpr ⟨fk_i186, List.forall_mem_cons.mpr ⟨fk_i187, List.forall_mem_cons.mpr ⟨fk_i188, List.forall_mem_cons.mpr ⟨fk_i189, List.forall_mem_cons.mpr ⟨fk_i190, List.forall_mem_cons.mpr ⟨fk_i191, List.forall_mem_cons.mpr ⟨fk_i192, List.forall_mem_cons.mpr ⟨fk_i193, List.forall_mem_cons.mpr ⟨fk_i194, List.forall_mem_cons.mpr ⟨fk_i195, List.forall_mem_cons.mpr ⟨fk_i196, List.forall_mem_cons.mpr ⟨fk_i197, List.forall_mem_cons.mpr ⟨fk_i198, List.forall_mem_cons.mpr ⟨fk_i199, List.forall_mem_cons.mpr ⟨fk_i200, List.forall_mem_cons.mpr ⟨fk_i201, List.forall_mem_cons.mpr ⟨fk_i203, List.forall_mem_cons.mpr ⟨fk_i204, List.forall_mem_cons.mpr ⟨fk_i205, List.forall_mem_cons.mpr ⟨fk_i206, List.forall_mem_cons.mpr ⟨fk_i207, List.forall_mem_cons.mpr ⟨fk_i208, List.forall_mem_cons.mpr ⟨fk_i209, List.forall_mem_cons.mpr ⟨fk_i210, fun _ h => absurd h List.not_mem_nil⟩⟩⟩⟩⟩⟩⟩⟩⟩⟩⟩⟩⟩⟩⟩⟩⟩⟩⟩⟩⟩⟩⟩⟩⟩⟩⟩⟩⟩⟩
def fk_Il_5 : List (Nat × Nat × Nat) := [(211, 0, 0), (212, 0, 2), (213, 0, 1), (214, 0, 1), (215, 0, 1), (216, 0, 1), (217, 0, 1), (218, 8, 1), (219, 0, 1), (220, 0, 2), (221, 0, 0), (222, 0, 1), (223, 11, 1), (224, 9, 3), (225, 9, 1), (226, 9, 2), (227, 9, 2), (228, 9, 1), (229, 9, 0), (230, 9, 3), (231, 9, 1), (232, 9, 0), (233, 9, 0), (234, 9, 2), (235, 11, 1), (237, 12, 5), (238, 12, 1), (239, 12, 1), (240, 12, 1), (241, 12, 1)]
theorem fk_Il_5_ok : ∀ q ∈ fk_Il_5, fk_I q := List.forall_mem_cons.mpr ⟨fk_i211, List.forall_mem_cons.mpr ⟨fk_i212, List.forall_mem_cons.mpr ⟨fk_i213, List.forall_mem_cons.mpr ⟨fk_i214, List.forall_mem_cons.mpr ⟨fk_i215, List.forall_mem_cons.mpr ⟨fk_i216, List.forall_mem_cons.mpr ⟨fk_i217, List.forall_mem_cons.mpr ⟨fk_i218, List.forall_mem_cons.mpr ⟨fk_i219, List.forall_mem_cons.mpr ⟨fk_i220, List.forall_mem_cons.mpr ⟨fk_i221, List.forall_mem_cons.mpr ⟨fk_i222, List.forall_mem_cons.mpr ⟨fk_i223, List.forall_mem_cons.mpr ⟨fk_i224, List.forall_mem_cons.mpr ⟨fk_i225, List.forall_mem_cons.mpr ⟨fk_i226, List.forall_mem_cons.mpr ⟨fk_i227, List.forall_mem_cons.mpr ⟨fk_i228, List.forall_mem_cons.mpr ⟨fk_i229, List.forall_mem_cons.mpr ⟨fk_i230, List.forall_mem_cons.mpr ⟨fk_i231, List.forall_mem_cons.mpr ⟨fk_i232, List.forall_mem_cons.mpr ⟨fk_i233, List.forall_mem_cons.mpr ⟨fk_i234, List.forall_mem_cons.mpr ⟨fk_i235, List.forall_mem_cons.mpr ⟨fk_i237, List.forall_mem_cons.mpr ⟨fk_i238, List.forall_mem_cons.mpr ⟨fk_i239, List.forall_mem_cons.mpr ⟨fk_i240, List.forall_mem_cons.mpr ⟨fk_i241, fun _ h => absurd h List.not_mem_nil⟩⟩⟩⟩⟩⟩⟩⟩⟩⟩⟩⟩⟩⟩⟩⟩⟩⟩⟩⟩⟩⟩⟩⟩⟩⟩⟩⟩⟩⟩
def fk_Il_6 : List (Nat × Nat × Nat) := [(242, 12, 2), (243, 12, 0), (244, 12, 2), (245, 12, 0), (246, 12, 0), (247, 12, 0), (248, 12, 1), (249, 12, 0), (250, 12, 0), (251, 12, 2), (252, 12, 1), (253, 12, 0), (254, 12, 3), (255, 12, 0), (257, 12, 1), (259, 12, 1), (260, 12, 1), (261, 12, 1), (262, 12, 0), (263, 12, 2), (265, 12, 0), (266, 12, 0), (267, 12, 2), (268, 12, 0), (269, 12, 1), (270, 12, 3), (271, 12, 2), (272, 12, 0), (273, 12, 1), (274, 12, 0)]
theorem fk_Il_6_ok : ∀ q ∈ fk_Il_6, fk_I q := List.forall_mem_cons.mpr ⟨fk_i242, List.forall_mem_cons.mpr ⟨fk_i243, List.forall_mem_cons.mpr ⟨fk_i244, List.forall_mem_cons.mpr ⟨fk_i245, List.forall_mem_cons.mpr ⟨fk_i246, List.forall_mem_cons.mpr ⟨fk_i247, List.forall_mem_cons.mpr ⟨fk_i248, List.forall_mem_cons.mpr ⟨fk_i249, List.forall_mem_cons.mpr ⟨fk_i250, List.forall_mem_cons.mpr ⟨fk_i251, List.forall_mem_cons.mpr ⟨fk_i252, List.forall_mem_cons.mpr ⟨fk_i253, List.forall_mem_cons.mpr ⟨fk_i254, List.forall_mem_cons.mpr ⟨fk_i255, List.forall_mem_cons.mpr ⟨fk_i257, List.forall_mem_cons.mpr ⟨fk_i259, List.forall_mem_cons.mpr ⟨fk_i260, List.forall_mem_cons.mpr ⟨fk_i261, List.forall_mem_cons.mpr ⟨fk_i262, List.forall_mem_cons.mpr ⟨fk_i263, List.forall_mem_cons.mpr ⟨fk_i265, List.forall_mem_cons.mpr ⟨fk_i266, List.forall_mem_cons.mpr ⟨fk_i267, List.forall_mem_cons.mpr ⟨fk_i268, List.forall_mem_cons.mpr ⟨fk_i269, List.forall_mem_cons.mpr ⟨fk_i270, List.forall_mem_cons.mpr ⟨fk_i271, List.forall_mem_cons.mpr ⟨fk_i272, List.forall_mem_cons.mpr ⟨fk_i273, List.forall_mem_cons.mpr ⟨fk_i274, fun _ h => absurd h List.not_mem_nil⟩⟩⟩⟩⟩⟩⟩⟩⟩⟩⟩⟩⟩⟩⟩⟩⟩⟩⟩⟩⟩⟩⟩⟩⟩⟩⟩⟩⟩⟩
def fk_Il_7 : List (Nat × Nat × Nat) := [(275, 12, 0), (276, 12, 0), (277, 12, 1), (278, 12, 1), (279, 12, 1), (280, 12, 0), (281, 12, 1), (282, 12, 1), (283, 12, 2), (284, 12, 1), (285, 12, 1), (288, 12, 1), (289, 12, 0), (290, 12, 0), (291, 12, 1), (292, 12, 2), (294, 12, 1), (295, 12, 2), (296, 12, 2), (297, 12, 1), (298, 12, 1), (299, 12, 1), (300, 12, 2), (301, 12, 2), (302, 12, 0), (303, 12, 2), (304, 12, 1), (305, 12, 0), (306, 12, 2), (307, 12, 2)]
theorem fk_Il_7_ok : ∀ q ∈ fk_Il_7, fk_I q := List.forall_mem_cons.mpr ⟨fk_i275, List.forall_mem_cons.mpr ⟨fk_i276, List.forall_mem_cons.mpr ⟨fk_i277, List.forall_mem_cons.mpr ⟨fk_i278, List.forall_mem_cons.mpr ⟨fk_i279, List.forall_mem_cons.mpr ⟨fk_i280, List.forall_mem_cons.mpr ⟨fk_i281, List.forall_mem_cons.mpr ⟨fk_i282, List.forall_mem_cons.mpr ⟨fk_i283, List.forall_mem_cons.mpr ⟨fk_i284, List.forall_mem_cons.mpr ⟨fk_i285, List.forall_mem_cons.mpr ⟨fk_i288, List.forall_mem_cons.mpr ⟨fk_i289, List.forall_mem_cons.mpr ⟨fk_i290, List.forall_mem_cons.mpr ⟨fk_i291, List.forall_mem_cons.mpr ⟨fk_i292, List.forall_mem_cons.mpr ⟨fk_i294, List.forall_mem_cons.mpr ⟨fk_i295, List.forall_mem_cons.mpr ⟨fk_i296, List.forall_mem_cons.mpr ⟨fk_i297, List.forall_mem_cons.mpr ⟨fk_i298, List.forall_mem_cons.mpr ⟨fk_i299, List.forall_mem_cons.mpr ⟨fk_i300, List.forall_mem_cons.mpr ⟨fk_i301, List.forall_mem_cons.mpr ⟨fk_i302, List.forall_mem_cons.mpr ⟨fk_i303, List.forall_mem_cons.mpr ⟨fk_i304, List.forall_mem_cons.mpr ⟨fk_i305, List.forall_mem_cons.mpr ⟨fk_i306, List.forall_mem_cons.mpr ⟨fk_i307, fun _ h => absurd h List.not_mem_nil⟩⟩⟩⟩⟩⟩⟩⟩⟩⟩⟩⟩⟩⟩⟩⟩⟩⟩⟩⟩⟩⟩⟩⟩⟩⟩⟩⟩⟩⟩
def fk_Il_8 : List (Nat × Nat × Nat) := [(308, 12, 0), (309, 12, 2), (310, 12, 3), (311, 12, 1), (312, 12, 0), (313, 12, 1), (314, 12, 1), (317, 12, 4), (318, 12, 6), (320, 12, 1), (321, 12, 1), (322, 12, 1), (323, 12, 1), (324, 12, 1), (325, 12, 0), (326, 12, 1), (329, 12, 0), (330, 12, 1), (331, 12, 1), (332, 12, 1), (333, 12, 0), (334, 12, 0), (335, 12, 1), (336, 12, 1), (337, 12, 0), (338, 12, 0), (339, 12, 1), (340, 12, 2), (341, 12, 1), (342, 12, 1)]
theorem fk_Il_8_ok : ∀ q ∈ fk_Il_8, fk_I q := List.forall_mem_cons.mpr ⟨fk_i308, List.forall_mem_cons.mpr ⟨fk_i309, List.forall_mem_cons.mpr ⟨fk_i310, List.forall_mem_cons.mpr ⟨fk_i311, List.forall_mem_cons.mpr ⟨fk_i312, List.forall_mem_cons.mpr ⟨fk_i313, List.forall_mem_cons.mpr ⟨fk_i314, List.forall_mem_cons.mpr ⟨fk_i317, List.forall_mem_cons.mpr ⟨fk_i318, List.forall_mem_cons.mpr ⟨fk_i320, List.forall_mem_cons.mpr ⟨fk_i321, List.forall_mem_cons.mpr ⟨fk_i322, List.forall_mem_cons.mpr ⟨fk_i323, List.forall_mem_cons.mpr ⟨fk_i324, List.forall_mem_cons.mpr ⟨fk_i325, List.forall_mem_cons.mpr ⟨fk_i326, List.forall_mem_cons.mpr ⟨fk_i329, List.forall_mem_cons.mpr ⟨fk_i330, List.forall_mem_cons.mpr ⟨fk_i331, List.forall_mem_cons.mpr ⟨fk_i332, List.forall_mem_cons.mpr ⟨fk_i333, List.forall_mem_cons.mpr ⟨fk_i334, List.forall_mem_cons.mpr ⟨fk_i335, List.forall_mem_cons.mpr ⟨fk_i336, List.forall_mem_cons.mpr ⟨fk_i337, List.forall_mem_cons.mpr ⟨fk_i338, List.forall_mem_cons.mpr ⟨fk_i339, List.forall_mem_cons.mpr ⟨fk_i340, List.forall_mem_cons.mpr ⟨fk_i341, List.forall_mem_cons.mpr ⟨fk_i342, fun _ h => absurd h List.not_mem_nil⟩⟩⟩⟩⟩⟩⟩⟩⟩⟩⟩⟩⟩⟩⟩⟩⟩⟩⟩⟩⟩⟩⟩⟩⟩⟩⟩⟩⟩⟩
def fk_Il_9 : List (Nat × Nat × Nat) := [(343, 12, 1), (344, 12, 0), (345, 12, 0), (346, 12, 0), (347, 12, 0), (348, 12, 1), (349, 12, 3), (350, 12, 0), (351, 12, 4), (352, 12, 1), (353, 12, 2), (354, 12, 3), (355, 12, 3), (356, 12, 1), (357, 12, 1), (358, 12, 2), (359, 12, 1), (360, 12, 1), (361, 12, 3), (362, 12, 1), (363, 12, 1), (364, 12, 0), (365, 12, 3), (366, 12, 0), (367, 12, 1)]
theorem fk_Il_9_ok : ∀ q ∈ fk_Il_9, fk_I q := List.forall_mem_cons.mpr ⟨fk_i343, List.forall_mem_cons.mpr ⟨fk_i344, List.forall_mem_cons.mpr ⟨fk_i345, List.forall_mem_cons.mpr ⟨fk_i346, List.forall_mem_cons.mpr ⟨fk_i347, List.forall_mem_cons.mpr ⟨fk_i348, List.forall_mem_cons.mpr ⟨fk_i349, List.forall_mem_cons.mpr ⟨fk_i350, List.forall_mem_cons.mpr ⟨fk_i351, List.forall_mem_cons.mpr ⟨fk_i352, List.forall_mem_cons.mpr ⟨fk_i353, List.forall_mem_cons.mpr ⟨fk_i354, List.forall_mem_cons.mpr ⟨fk_i355, List.forall_mem_cons.mpr ⟨fk_i356, List.forall_mem_cons.mpr ⟨fk_i357, List.forall_mem_cons.mpr ⟨fk_i358, List.forall_mem_cons.mpr ⟨fk_i359, List.forall_mem_cons.mpr ⟨fk_i360, List.forall_mem_cons.mpr ⟨fk_i361, List.forall_mem_cons.mpr ⟨fk_i362, List.forall_mem_cons.mpr ⟨fk_i363, List.forall_mem_cons.mpr ⟨fk_i364, List.forall_mem_cons.mpr ⟨fk_i365, List.forall_mem_cons.mpr ⟨fk_i366, List.forall_mem_cons.mpr ⟨fk_i367, fun _ h => absurd h List.not_mem_nil⟩⟩⟩⟩⟩⟩⟩⟩⟩⟩⟩⟩⟩⟩⟩⟩⟩⟩⟩⟩⟩⟩⟩⟩⟩
def fk_Il : List (Nat × Nat × Nat) := fk_Il_0 ++ (fk_Il_1 ++ (fk_Il_2 ++ (fk_Il_3 ++ (fk_Il_4 ++ (fk_Il_5 ++ (fk_Il_6 ++ (fk_Il_7 ++ (fk_Il_8 ++ (fk_Il_9)))))))))
theorem fk_Il_ok : ∀ q ∈ fk_Il, fk_I q := List.forall_mem_append.mpr ⟨fk_Il_0_ok, List.forall_mem_append.mpr ⟨fk_Il_1_ok, List.forall_mem_append.mpr ⟨fk_Il_2_ok, List.forall_mem_append.mpr ⟨fk_Il_3_ok, List.forall_mem_append.mpr ⟨fk_Il_4_ok, List.forall_mem_append.mpr ⟨fk_Il_5_ok, List.forall_mem_append.mpr ⟨fk_Il_6_ok, List.forall_mem_append.mpr ⟨fk_Il_7_ok, List.forall_mem_append.mpr ⟨fk_Il_8_ok, fk_Il_9_ok⟩⟩⟩⟩⟩⟩⟩⟩⟩
def fk_Sl_0 : List (Nat × Nat) := [(36, 1), (37, 1), (41, 1), (92, 1), (93, 1), (97, 2), (98, 2), (127, 3), (128, 2), (129, 2), (130, 1), (132, 3), (133, 2), (134, 1), (136, 2), (137, 3), (149, 1), (151, 1), (157, 2), (158, 2), (159, 3), (160, 2), (161, 2), (162, 1), (163, 2), (168, 4), (169, 1), (170, 4), (171, 4), (172, 4)]
theorem fk_Sl_0_ok : ∀ q ∈ fk_Sl_0, fk_S q := List.forall_mem_cons.mpr ⟨fk_s36, List.forall_mem_cons.mpr ⟨fk_s37, List.forall_mem_cons.mpr ⟨fk_s41, List.forall_mem_cons.mpr ⟨fk_s92, List.forall_mem_cons.mpr ⟨fk_s93, List.forall_mem_cons.mpr ⟨fk_s97, List.forall_mem_cons.mpr ⟨fk_s98, List.forall_mem_cons.mpr ⟨fk_s127, List.forall_mem_cons.mpr ⟨fk_s128, List.forall_mem_cons.mpr ⟨fk_s129, List.forall_mem_cons.mpr ⟨fk_s130, List.forall_mem_cons.mpr ⟨fk_s132, List.forall_mem_cons.mpr ⟨fk_s133, List.forall_mem_cons.mpr ⟨fk_s134, List.forall_mem_cons.mpr ⟨fk_s136, List.forall_mem_cons.mpr ⟨fk_s137, List.forall_mem_cons.mpr ⟨fk_s149, List.forall_mem_cons.mpr ⟨fk_s151, List.forall_mem_cons.mpr ⟨fk_s157, List.forall_mem_cons.mpr ⟨fk_s158, List.forall_mem_cons.mpr ⟨fk_s159, List.forall_mem_cons.mpr ⟨fk_s160, List.forall_mem_cons.mpr ⟨fk_s161, List.forall_mem_cons.mpr ⟨fk_s162, List.forall_mem_cons.mpr ⟨fk_s163, List.forall_mem_cons.mpr ⟨fk_s168, List.forall_mem_cons.mpr ⟨fk_s169, List.forall_mem_cons.mpr ⟨fk_s170, List.forall_mem_cons.mpr ⟨fk_s171, List.forall_mem_cons.mpr ⟨fk_s172, fun _ h => absurd h List.not_mem_nil⟩⟩⟩⟩⟩⟩⟩⟩⟩⟩⟩⟩⟩⟩⟩⟩⟩⟩⟩⟩⟩⟩⟩⟩⟩⟩⟩⟩⟩⟩
def fk_Sl_1 : List (Nat × Nat) := [(173, 3), (174, 3), (175, 4), (176, 4), (177, 4), (178, 1), (179, 1), (180, 1), (202, 1), (256, 1), (258, 2), (264, 1), (286, 1), (287, 1), (293, 2), (315, 4), (316, 2), (319, 3), (327, 1), (328, 1)]
theorem fk_Sl_1_ok : ∀ q ∈ fk_Sl_1, fk_S q := List.forall_mem_cons.mpr ⟨fk_s173, List.forall_mem_cons.mpr ⟨fk_s174, List.forall_mem_cons.mpr ⟨fk_s175, List.forall_mem_cons.mpr ⟨fk_s176, List.forall_mem_cons.mpr ⟨fk_s177, List.forall_mem_cons.mpr ⟨fk_s178, List.forall_mem_cons.mpr ⟨fk_s179, List.forall_mem_cons.mpr ⟨fk_s180, List.forall_mem_cons.mpr ⟨fk_s202, List.forall_mem_cons.mpr ⟨fk_s256, List.forall_mem_cons.mpr ⟨fk_s258, List.forall_mem_cons.mpr ⟨fk_s264, List.forall_mem_cons.mpr ⟨fk_s286, List.forall_mem_cons.mpr ⟨fk_s287, List.forall_mem_cons.mpr ⟨fk_s293, List.forall_mem_cons.mpr ⟨fk_s315, List.forall_mem_cons.mpr ⟨fk_s316, List.forall_mem_cons.mpr ⟨fk_s319, List.forall_mem_cons.mpr ⟨fk_s327, List.forall_mem_cons.mpr ⟨fk_s328, fun _ h => absurd h List.not_mem_nil⟩⟩⟩⟩⟩⟩⟩⟩⟩⟩⟩⟩⟩⟩⟩⟩⟩⟩⟩⟩
def fk_Sl : List (Nat × Nat) := fk_Sl_0 ++ (fk_Sl_1)
theorem fk_Sl_ok : ∀ q ∈ fk_Sl, fk_S q := List.forall_mem_append.mpr ⟨fk_Sl_0_ok, fk_Sl_1_ok⟩
abbrev fk_nM : Nat := 368
def fk_sh : List (Nat × Nat) := [(15, 18), (2, 4000), (1, 8), (10, 20), (2, 4000), (0, 180), (0, 60), (1, 2), (1, 2), (0, 180), (1, 60), (0, 240), (0, 180), (1, 60), (0, 4000), (6, 11), (0, 60), (0, 60), (0, 60), (2, 3000), (0, 4000), (1, 4000), (0, 4000), (0, 12000), (10, 20), (2, 4000), (0, 180), (0, 60), (1, 2), (1, 2), (0, 180), (1, 60), (0, 240), (0, 180), (1, 60), (0, 4000), (6, 11), (0, 60), (0, 60), (0, 60), (2, 3000), (0, 4000), (1, 4000), (0, 4000), (0, 12000), (9, 3), (14, 5), (2, 0), (5, 2), (0, 20), (7, 11), (0, 4100), (0, 22), (0, 22), (0, 22), (3, 22), (8, 17), (1, 60), (1, 16384), (0, 100), (1, 24000), (0, 192), (12, 14), (1, 20), (0, 20), (0, 20), (0, 20), (0, 20), (1, 80), (0, 80), (0, 80), (0, 3000), (1, 3000), (0, 3000), (0, 3000), (12, 14), (1, 20), (0, 20), (0, 20), (0, 20), (0, 20), (1, 80), (0, 80), (0, 80), (0, 3000), (1, 3000), (0, 3000), (0, 3000), (11, 14), (2, 0), (0, 4001), (0, 4001), (1, 4001), (4, 9), (0, 2000), (1, 100), (0, 100), (0, 40), (13, 14), (0, 501), (0, 501), (0, 12000), (0, 120), (16, 143), (0, 4000), (0, 8000), (0, 2), (0, 120), (0, 7200), (0, 120), (0, 2), (0, 2), (0, 2), (0, 2), (0, 2), (0, 2), (0, 2), (1, 120), (1, 2), (1, 2), (1, 2), (1, 2), (1, 120), (1, 120), (1, 120), (1, 7200), (0, 120), (0, 120), (0, 120), (0, 120), (0, 120), (0, 120), (0, 120), (0, 120), (0, 120), (0, 6000), (0, 120), (0, 8000), (0, 8000), (0, 21), (0, 4080), (0, 22), (0, 22), (0, 22), (0, 22), (3, 22), (1, 60), (0, 100), (0, 131072), (1, 8), (1, 140000), (1, 7150), (0, 1365), (0, 1365), (0, 4000), (0, 20), (0, 20), (0, 20), (0, 20), (0, 20), (0, 20), (0, 80), (0, 80), (0, 80), (0, 3000), (0, 3000), (0, 3000), (0, 3000), (0, 3000), (0, 3000), (0, 3000), (0, 3000), (0, 3000), (0, 3000), (0, 3000), (0, 3000), (0, 3000), (0, 3000), (0, 3000), (0, 3000), (0, 4000), (0, 4000), (0, 4000), (0, 20), (0, 20), (0, 20), (0, 40000), (0, 30500), (0, 61), (0, 500), (0, 500)]
abbrev fk_nC : Nat := 191
def fk_tg : List (List Nat) := [[5, 4, 0, 4, 4, 0, 4, 0, 0], [4, 0], [0, 4, 4, 4, 4, 0, 4, 4, 4, 0, 4], [5, 5, 0, 1, 4, 0, 4, 4, 4, 4, 0], [5, 5, 4, 4, 0, 4, 0, 4, 0, 4, 0, 0, 0, 0, 0, 0, 3], [4, 4, 0], [4, 0, 4, 0, 4, 0, 4, 0, 4, 0, 4, 4, 0, 4, 0, 4, 4, 0, 4, 4], [5, 5, 0, 0, 4, 4, 4, 0, 0, 0, 0, 3, 0, 0], [0, 4, 4, 4, 4, 4, 4, 4, 4, 0, 4, 4, 4, 4], [5, 4, 4, 4, 0, 4, 0, 0, 0, 0, 0, 0, 0, 0], [5, 0, 0, 0, 0], [4, 0, 4, 5, 5, 1, 0, 4, 4, 4, 5, 5, 4, 4, 4, 3, 0, 0], [4, 0, 0, 4, 4, 4, 4, 4, 4, 4, 4, 4, 4, 4, 4, 4, 4, 4, 4, 4, 4, 4, 4, 4, 4, 4, 4, 4, 4, 4, 4, 4, 4, 4, 4, 4, 4, 0, 0, 1, 0, 0, 0, 0, 0, 3, 4, 4, 4, 4, 4, 4, 4, 0, 0, 0, 0, 1, 0, 4, 4, 4, 0, 4, 4, 4, 0, 0, 0, 0, 0, 1, 4, 4, 0, 3, 0, 0, 4, 0, 0, 0, 0, 0, 0, 3, 0, 0, 4, 4, 4, 4, 4, 4, 4, 4, 4, 0, 4, 4, 4, 4, 4, 4, 4, 4, 4, 4, 4, 4, 4, 0, 0, 0, 4, 4, 4, 0, 0, 4, 4, 4, 4, 4, 4, 0, 0, 4, 4, 4, 4, 4, 0, 0, 0, 0, 0, 0, 0, 0, 0, 0, 0]]
def fk_co : List (List Nat) := [[1, 0, 2, 0, 0, 0, 0, 45, 50, 56, 0, 0, 88, 93, 98, 0, 0, 0], [], [], [4, 0, 5, 0, 6, 0, 7, 0, 8, 0, 9, 10, 0, 11, 0, 12, 13, 0, 14, 15], [], [], [], [], [], [], [], [], [], [], [], [0, 16, 17, 18, 19, 0, 20, 21, 22, 0, 23], [], [], [], [], [], [], [], [], [25, 0, 26, 0, 27, 0, 28, 0, 29, 0, 30, 31, 0, 32, 0, 33, 34, 0, 35, 36], [], [], [], [], [], [], [], [], [], [], [], [0, 37, 38, 39, 40, 0, 41, 42, 43, 0, 44], [], [], [], [], [], [], [], [], [46, 48, 0], [0, 0, 0, 0, 0], [], [49, 0], [], [0, 0, 0, 0, 51, 0, 52, 53, 54, 55, 0], [], [], [], [], [], [0, 0, 57, 58, 0, 59, 0, 60, 0, 61, 0, 0, 0, 0, 0, 0, 0], [], [], [], [], [], [0, 63, 64, 65, 66, 67, 68, 69, 70, 0, 71, 72, 73, 74], [], [], [], [], [], [], [], [], [], [], [], [], [0, 76, 77, 78, 79, 80, 81, 82, 83, 0, 84, 85, 86, 87], [], [], [], [], [], [], [], [], [], [], [], [], [0, 0, 0, 0, 90, 91, 92, 0, 0, 0, 0, 0, 0, 0], [], [], [], [], [0, 94, 0, 95, 96, 0, 97, 0, 0], [], [], [], [], [0, 99, 100, 101, 0, 102, 0, 0, 0, 0, 0, 0, 0, 0], [], [], [], [], [104, 0, 0, 105, 106, 107, 108, 109, 110, 111, 112, 113, 114, 115, 116, 117, 118, 119, 120, 121, 122, 123, 124, 125, 126, 127, 128, 129, 130, 131, 132, 133, 134, 135, 136, 137, 138, 0, 0, 0, 0, 0, 0, 0, 0, 0, 139, 140, 141, 142, 143, 144, 145, 0, 0, 0, 0, 0, 0, 146, 147, 148, 0, 149, 150, 151, 0, 0, 0, 0, 0, 0, 152, 153, 0, 0, 0, 0, 154, 0, 0, 0, 0, 0, 0, 0, 0, 0, 155, 156, 157, 158, 159, 160, 161, 162, 163, 0, 164, 165, 166, 167, 168, 169, 170, 171, 172, 173, 174, 175, 176, 0, 0, 0, 177, 178, 179, 0, 0, 180, 181, 182, 183, 184, 185, 0, 0, 186, 187, 188, 189, 190, 0, 0, 0, 0, 0, 0, 0, 0, 0, 0, 0], [], [], [], [], [], [], [], [], [], [], [], [], [], [], [], [], [], [], [], [], [], [], [], [], [], [], [], [], [], [], [], [], [], [], [], [], [], [], [], [], [], [], [], [], [], [], [], [], [], [], [], [], [], [], [], [], [], [], [], [], [], [], [], [], [], [], [], [], [], [], [], [], [], [], [], [], [], [], [], [], [], [], [], [], [], [], []]
/-- the cell that a field of a cell holds for good -/
def fk_cr (i j : Nat) : Nat := (fk_co.getD i []).getD j 0
