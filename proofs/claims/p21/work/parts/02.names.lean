def RX0 : String := "OwnerHeap$Code"
def TX0 : u_T := fun k => match k with
  | 0 => ("OwnerHeap$Code", "ops", "[I", true)
  | 1 => ("OwnerHeap$Code", "args", "[I", true)
  | 2 => ("OwnerHeap$Code", "places", "[I", true)
  | _ => ("OwnerHeap$Code", "size", "I", false)
def tyX0 : Nat → FieldType := fun k => match k with
  | 0 => .array .int
  | 1 => .array .int
  | 2 => .array .int
  | _ => .int
theorem nmX0 : ∀ a, a < 4 → ∀ b, b < 4 → a ≠ b → (TX0 a).2.1 ≠ (TX0 b).2.1 := by decide +kernel
theorem tyX0_ok : ∀ k, k < 4 → parseFieldDescriptor (TX0 k).2.2.1 = some (tyX0 k) := by decide +kernel
def RX1 : String := "OwnerHeap$Coder"
def TX1 : u_T := fun k => match k with
  | 0 => ("OwnerHeap$Coder", "tokens", "LOwnerHeap$Tokens;", true)
  | 1 => ("OwnerHeap$Coder", "reader", "LOwnerHeap$Reader;", true)
  | 2 => ("OwnerHeap$Coder", "judge", "LOwnerHeap$Judge;", true)
  | 3 => ("OwnerHeap$Coder", "program", "LOwnerHeap$Program;", false)
  | 4 => ("OwnerHeap$Coder", "members", "LOwnerHeap$Members;", false)
  | 5 => ("OwnerHeap$Coder", "code", "LOwnerHeap$Code;", false)
  | 6 => ("OwnerHeap$Coder", "home", "I", false)
  | 7 => ("OwnerHeap$Coder", "returned", "I", false)
  | 8 => ("OwnerHeap$Coder", "keys", "[J", true)
  | 9 => ("OwnerHeap$Coder", "types", "[I", true)
  | 10 => ("OwnerHeap$Coder", "numbers", "[I", true)
  | 11 => ("OwnerHeap$Coder", "known", "I", false)
  | 12 => ("OwnerHeap$Coder", "told", "I", false)
  | 13 => ("OwnerHeap$Coder", "targetOp", "I", false)
  | 14 => ("OwnerHeap$Coder", "target", "I", false)
  | 15 => ("OwnerHeap$Coder", "targetPlace", "I", false)
  | _ => ("OwnerHeap$Coder", "targetType", "I", false)
def tyX1 : Nat → FieldType := fun k => match k with
  | 0 => .object "OwnerHeap$Tokens"
  | 1 => .object "OwnerHeap$Reader"
  | 2 => .object "OwnerHeap$Judge"
  | 3 => .object "OwnerHeap$Program"
  | 4 => .object "OwnerHeap$Members"
  | 5 => .object "OwnerHeap$Code"
  | 6 => .int
  | 7 => .int
  | 8 => .array .long
  | 9 => .array .int
  | 10 => .array .int
  | 11 => .int
  | 12 => .int
  | 13 => .int
  | 14 => .int
  | 15 => .int
  | _ => .int
theorem nmX1 : ∀ a, a < 17 → ∀ b, b < 17 → a ≠ b → (TX1 a).2.1 ≠ (TX1 b).2.1 := by decide +kernel
theorem tyX1_ok : ∀ k, k < 17 → parseFieldDescriptor (TX1 k).2.2.1 = some (tyX1 k) := by decide +kernel
def RX2 : String := "OwnerHeap$Frames"
def TX2 : u_T := fun k => match k with
  | 0 => ("OwnerHeap$Frames", "open", "I", false)
  | 1 => ("OwnerHeap$Frames", "most", "I", false)
  | 2 => ("OwnerHeap$Frames", "member", "[I", true)
  | 3 => ("OwnerHeap$Frames", "self", "[I", true)
  | 4 => ("OwnerHeap$Frames", "back", "[I", true)
  | 5 => ("OwnerHeap$Frames", "statement", "[I", true)
  | _ => ("OwnerHeap$Frames", "variables", "[I", true)
def tyX2 : Nat → FieldType := fun k => match k with
  | 0 => .int
  | 1 => .int
  | 2 => .array .int
  | 3 => .array .int
  | 4 => .array .int
  | 5 => .array .int
  | _ => .array .int
theorem nmX2 : ∀ a, a < 7 → ∀ b, b < 7 → a ≠ b → (TX2 a).2.1 ≠ (TX2 b).2.1 := by decide +kernel
theorem tyX2_ok : ∀ k, k < 7 → parseFieldDescriptor (TX2 k).2.2.1 = some (tyX2 k) := by decide +kernel
def RX3 : String := "OwnerHeap$Heap"
def TX3 : u_T := fun k => match k with
  | 0 => ("OwnerHeap$Heap", "words", "[I", true)
  | 1 => ("OwnerHeap$Heap", "bases", "[I", true)
  | 2 => ("OwnerHeap$Heap", "count", "I", false)
  | 3 => ("OwnerHeap$Heap", "taken", "I", false)
  | _ => ("OwnerHeap$Heap", "limit", "I", false)
def tyX3 : Nat → FieldType := fun k => match k with
  | 0 => .array .int
  | 1 => .array .int
  | 2 => .int
  | 3 => .int
  | _ => .int
theorem nmX3 : ∀ a, a < 5 → ∀ b, b < 5 → a ≠ b → (TX3 a).2.1 ≠ (TX3 b).2.1 := by decide +kernel
theorem tyX3_ok : ∀ k, k < 5 → parseFieldDescriptor (TX3 k).2.2.1 = some (tyX3 k) := by decide +kernel
def RX4 : String := "OwnerHeap$Judge"
def TX4 : u_T := fun k => match k with
  | 0 => ("OwnerHeap$Judge", "tokens", "LOwnerHeap$Tokens;", true)
  | 1 => ("OwnerHeap$Judge", "reader", "LOwnerHeap$Reader;", true)
  | 2 => ("OwnerHeap$Judge", "program", "LOwnerHeap$Program;", false)
  | 3 => ("OwnerHeap$Judge", "members", "LOwnerHeap$Members;", false)
  | 4 => ("OwnerHeap$Judge", "trust", "Z", false)
  | 5 => ("OwnerHeap$Judge", "classKeys", "[J", true)
  | 6 => ("OwnerHeap$Judge", "nameKeys", "[J", true)
  | _ => ("OwnerHeap$Judge", "paramKeys", "[J", true)
def tyX4 : Nat → FieldType := fun k => match k with
  | 0 => .object "OwnerHeap$Tokens"
  | 1 => .object "OwnerHeap$Reader"
  | 2 => .object "OwnerHeap$Program"
  | 3 => .object "OwnerHeap$Members"
  | 4 => .boolean
  | 5 => .array .long
  | 6 => .array .long
  | _ => .array .long
theorem nmX4 : ∀ a, a < 8 → ∀ b, b < 8 → a ≠ b → (TX4 a).2.1 ≠ (TX4 b).2.1 := by decide +kernel
theorem tyX4_ok : ∀ k, k < 8 → parseFieldDescriptor (TX4 k).2.2.1 = some (tyX4 k) := by decide +kernel
def RX5 : String := "OwnerHeap$Machine"
def TX5 : u_T := fun k => match k with
  | 0 => ("OwnerHeap$Machine", "heap", "LOwnerHeap$Heap;", true)
  | 1 => ("OwnerHeap$Machine", "frames", "LOwnerHeap$Frames;", true)
  | 2 => ("OwnerHeap$Machine", "program", "LOwnerHeap$Program;", false)
  | 3 => ("OwnerHeap$Machine", "code", "LOwnerHeap$Code;", false)
  | 4 => ("OwnerHeap$Machine", "pc", "I", false)
  | 5 => ("OwnerHeap$Machine", "stack", "[I", true)
  | 6 => ("OwnerHeap$Machine", "height", "I", false)
  | 7 => ("OwnerHeap$Machine", "calls", "I", false)
  | 8 => ("OwnerHeap$Machine", "phase", "I", false)
  | 9 => ("OwnerHeap$Machine", "result", "I", false)
  | 10 => ("OwnerHeap$Machine", "trouble", "I", false)
  | 11 => ("OwnerHeap$Machine", "troublePlace", "I", false)
  | 12 => ("OwnerHeap$Machine", "steps", "I", false)
  | 13 => ("OwnerHeap$Machine", "saidCount", "I", false)
  | _ => ("OwnerHeap$Machine", "saidRow", "[I", true)
def tyX5 : Nat → FieldType := fun k => match k with
  | 0 => .object "OwnerHeap$Heap"
  | 1 => .object "OwnerHeap$Frames"
  | 2 => .object "OwnerHeap$Program"
  | 3 => .object "OwnerHeap$Code"
  | 4 => .int
  | 5 => .array .int
  | 6 => .int
  | 7 => .int
  | 8 => .int
  | 9 => .int
  | 10 => .int
  | 11 => .int
  | 12 => .int
  | 13 => .int
  | _ => .array .int
theorem nmX5 : ∀ a, a < 15 → ∀ b, b < 15 → a ≠ b → (TX5 a).2.1 ≠ (TX5 b).2.1 := by decide +kernel
theorem tyX5_ok : ∀ k, k < 15 → parseFieldDescriptor (TX5 k).2.2.1 = some (tyX5 k) := by decide +kernel
def RX6 : String := "OwnerHeap$Members"
def TX6 : u_T := fun k => match k with
  | 0 => ("OwnerHeap$Members", "count", "I", false)
  | 1 => ("OwnerHeap$Members", "key", "[J", true)
  | 2 => ("OwnerHeap$Members", "home", "[I", true)
  | 3 => ("OwnerHeap$Members", "types", "[I", true)
  | 4 => ("OwnerHeap$Members", "isMethod", "[Z", true)
  | 5 => ("OwnerHeap$Members", "number", "[I", true)
  | 6 => ("OwnerHeap$Members", "params", "[I", true)
  | 7 => ("OwnerHeap$Members", "paramTypes", "[I", true)
  | 8 => ("OwnerHeap$Members", "variables", "[I", true)
  | _ => ("OwnerHeap$Members", "start", "[I", true)
def tyX6 : Nat → FieldType := fun k => match k with
  | 0 => .int
  | 1 => .array .long
  | 2 => .array .int
  | 3 => .array .int
  | 4 => .array .boolean
  | 5 => .array .int
  | 6 => .array .int
  | 7 => .array .int
  | 8 => .array .int
  | _ => .array .int
theorem nmX6 : ∀ a, a < 10 → ∀ b, b < 10 → a ≠ b → (TX6 a).2.1 ≠ (TX6 b).2.1 := by decide +kernel
theorem tyX6_ok : ∀ k, k < 10 → parseFieldDescriptor (TX6 k).2.2.1 = some (tyX6 k) := by decide +kernel
def RX7 : String := "OwnerHeap$Program"
def TX7 : u_T := fun k => match k with
  | 0 => ("OwnerHeap$Program", "classes", "I", false)
  | 1 => ("OwnerHeap$Program", "names", "[I", true)
  | 2 => ("OwnerHeap$Program", "places", "[I", true)
  | 3 => ("OwnerHeap$Program", "ins", "[I", true)
  | 4 => ("OwnerHeap$Program", "inPairs", "[I", true)
  | 5 => ("OwnerHeap$Program", "aboveKinds", "[I", true)
  | 6 => ("OwnerHeap$Program", "methods", "[I", true)
  | 7 => ("OwnerHeap$Program", "ownFields", "[I", true)
  | 8 => ("OwnerHeap$Program", "fields", "[I", true)
  | 9 => ("OwnerHeap$Program", "firstMember", "[I", true)
  | 10 => ("OwnerHeap$Program", "memberCount", "[I", true)
  | 11 => ("OwnerHeap$Program", "known", "[I", true)
  | 12 => ("OwnerHeap$Program", "views", "[I", true)
  | 13 => ("OwnerHeap$Program", "objectFields", "[J", true)
  | 14 => ("OwnerHeap$Program", "members", "LOwnerHeap$Members;", true)
  | _ => ("OwnerHeap$Program", "code", "LOwnerHeap$Code;", true)
def tyX7 : Nat → FieldType := fun k => match k with
  | 0 => .int
  | 1 => .array .int
  | 2 => .array .int
  | 3 => .array .int
  | 4 => .array .int
  | 5 => .array .int
  | 6 => .array .int
  | 7 => .array .int
  | 8 => .array .int
  | 9 => .array .int
  | 10 => .array .int
  | 11 => .array .int
  | 12 => .array .int
  | 13 => .array .long
  | 14 => .object "OwnerHeap$Members"
  | _ => .object "OwnerHeap$Code"
theorem nmX7 : ∀ a, a < 16 → ∀ b, b < 16 → a ≠ b → (TX7 a).2.1 ≠ (TX7 b).2.1 := by decide +kernel
theorem tyX7_ok : ∀ k, k < 16 → parseFieldDescriptor (TX7 k).2.2.1 = some (tyX7 k) := by decide +kernel
def RX8 : String := "OwnerHeap$Reader"
def TX8 : u_T := fun k => match k with
  | 0 => ("OwnerHeap$Reader", "tokens", "LOwnerHeap$Tokens;", true)
  | 1 => ("OwnerHeap$Reader", "program", "LOwnerHeap$Program;", false)
  | 2 => ("OwnerHeap$Reader", "members", "LOwnerHeap$Members;", false)
  | 3 => ("OwnerHeap$Reader", "classTokens", "[I", true)
  | 4 => ("OwnerHeap$Reader", "isTokens", "[I", true)
  | 5 => ("OwnerHeap$Reader", "inTokens", "[I", true)
  | 6 => ("OwnerHeap$Reader", "typeTokens", "[I", true)
  | 7 => ("OwnerHeap$Reader", "nameTokens", "[I", true)
  | 8 => ("OwnerHeap$Reader", "blockTokens", "[I", true)
  | 9 => ("OwnerHeap$Reader", "opened", "I", false)
  | _ => ("OwnerHeap$Reader", "variables", "I", false)
def tyX8 : Nat → FieldType := fun k => match k with
  | 0 => .object "OwnerHeap$Tokens"
  | 1 => .object "OwnerHeap$Program"
  | 2 => .object "OwnerHeap$Members"
  | 3 => .array .int
  | 4 => .array .int
  | 5 => .array .int
  | 6 => .array .int
  | 7 => .array .int
  | 8 => .array .int
  | 9 => .int
  | _ => .int
theorem nmX8 : ∀ a, a < 11 → ∀ b, b < 11 → a ≠ b → (TX8 a).2.1 ≠ (TX8 b).2.1 := by decide +kernel
theorem tyX8_ok : ∀ k, k < 11 → parseFieldDescriptor (TX8 k).2.2.1 = some (tyX8 k) := by decide +kernel
def RX9 : String := "OwnerHeap$Tokens"
def TX9 : u_T := fun k => match k with
  | 0 => ("OwnerHeap$Tokens", "words", "[J", true)
  | 1 => ("OwnerHeap$Tokens", "kinds", "[I", true)
  | 2 => ("OwnerHeap$Tokens", "places", "[I", true)
  | 3 => ("OwnerHeap$Tokens", "keys", "[J", true)
  | 4 => ("OwnerHeap$Tokens", "arguments", "[I", true)
  | 5 => ("OwnerHeap$Tokens", "count", "I", false)
  | 6 => ("OwnerHeap$Tokens", "cursor", "I", false)
  | 7 => ("OwnerHeap$Tokens", "faultNumber", "I", false)
  | _ => ("OwnerHeap$Tokens", "faultPlace", "I", false)
def tyX9 : Nat → FieldType := fun k => match k with
  | 0 => .array .long
  | 1 => .array .int
  | 2 => .array .int
  | 3 => .array .long
  | 4 => .array .int
  | 5 => .int
  | 6 => .int
  | 7 => .int
  | _ => .int
theorem nmX9 : ∀ a, a < 9 → ∀ b, b < 9 → a ≠ b → (TX9 a).2.1 ≠ (TX9 b).2.1 := by decide +kernel
theorem tyX9_ok : ∀ k, k < 9 → parseFieldDescriptor (TX9 k).2.2.1 = some (tyX9 k) := by decide +kernel
def RX10 : String := "OwnerHeap$Walker"
def TX10 : u_T := fun k => match k with
  | 0 => ("OwnerHeap$Walker", "heap", "LOwnerHeap$Heap;", true)
  | 1 => ("OwnerHeap$Walker", "program", "LOwnerHeap$Program;", false)
  | 2 => ("OwnerHeap$Walker", "queue", "[I", true)
  | 3 => ("OwnerHeap$Walker", "queued", "I", false)
  | 4 => ("OwnerHeap$Walker", "from", "[I", true)
  | 5 => ("OwnerHeap$Walker", "known", "Z", false)
  | 6 => ("OwnerHeap$Walker", "nearest", "[I", true)
  | 7 => ("OwnerHeap$Walker", "ranks", "[I", true)
  | 8 => ("OwnerHeap$Walker", "leakRow", "[I", true)
  | _ => ("OwnerHeap$Walker", "leakTotal", "I", false)
def tyX10 : Nat → FieldType := fun k => match k with
  | 0 => .object "OwnerHeap$Heap"
  | 1 => .object "OwnerHeap$Program"
  | 2 => .array .int
  | 3 => .int
  | 4 => .array .int
  | 5 => .boolean
  | 6 => .array .int
  | 7 => .array .int
  | 8 => .array .int
  | _ => .int
theorem nmX10 : ∀ a, a < 10 → ∀ b, b < 10 → a ≠ b → (TX10 a).2.1 ≠ (TX10 b).2.1 := by decide +kernel
theorem tyX10_ok : ∀ k, k < 10 → parseFieldDescriptor (TX10 k).2.2.1 = some (tyX10 k) := by decide +kernel
def RX11 : String := "OwnerHeap"
def TX11 : u_T := fun k => match k with
  | 0 => ("OwnerHeap", "tape", "[B", true)
  | 1 => ("OwnerHeap", "taped", "I", false)
  | 2 => ("OwnerHeap", "tokens", "LOwnerHeap$Tokens;", true)
  | 3 => ("OwnerHeap", "reader", "LOwnerHeap$Reader;", true)
  | 4 => ("OwnerHeap", "judge", "LOwnerHeap$Judge;", true)
  | 5 => ("OwnerHeap", "coder", "LOwnerHeap$Coder;", true)
  | 6 => ("OwnerHeap", "program", "LOwnerHeap$Program;", false)
  | 7 => ("OwnerHeap", "spare", "LOwnerHeap$Program;", false)
  | 8 => ("OwnerHeap", "hasProgram", "Z", false)
  | 9 => ("OwnerHeap", "faultNumber", "I", false)
  | 10 => ("OwnerHeap", "faultPlace", "I", false)
  | 11 => ("OwnerHeap", "heap", "LOwnerHeap$Heap;", true)
  | 12 => ("OwnerHeap", "machine", "LOwnerHeap$Machine;", true)
  | _ => ("OwnerHeap", "walker", "LOwnerHeap$Walker;", true)
def tyX11 : Nat → FieldType := fun k => match k with
  | 0 => .array .byte
  | 1 => .int
  | 2 => .object "OwnerHeap$Tokens"
  | 3 => .object "OwnerHeap$Reader"
  | 4 => .object "OwnerHeap$Judge"
  | 5 => .object "OwnerHeap$Coder"
  | 6 => .object "OwnerHeap$Program"
  | 7 => .object "OwnerHeap$Program"
  | 8 => .boolean
  | 9 => .int
  | 10 => .int
  | 11 => .object "OwnerHeap$Heap"
  | 12 => .object "OwnerHeap$Machine"
  | _ => .object "OwnerHeap$Walker"
theorem nmX11 : ∀ a, a < 14 → ∀ b, b < 14 → a ≠ b → (TX11 a).2.1 ≠ (TX11 b).2.1 := by decide +kernel
theorem tyX11_ok : ∀ k, k < 14 → parseFieldDescriptor (TX11 k).2.2.1 = some (tyX11 k) := by decide +kernel
def RX12 : String := "OwnerHeapModel"
def TX12 : u_T := fun k => match k with
  | 0 => ("OwnerHeapModel", "tape", "[B", true)
  | 1 => ("OwnerHeapModel", "taped", "I", false)
  | 2 => ("OwnerHeapModel", "end", "I", false)
  | 3 => ("OwnerHeapModel", "sort", "I", false)
  | 4 => ("OwnerHeapModel", "at", "I", false)
  | 5 => ("OwnerHeapModel", "behind", "I", false)
  | 6 => ("OwnerHeapModel", "number", "I", false)
  | 7 => ("OwnerHeapModel", "name", "J", false)
  | 8 => ("OwnerHeapModel", "kept", "[J", true)
  | 9 => ("OwnerHeapModel", "half", "I", false)
  | 10 => ("OwnerHeapModel", "has", "Z", false)
  | 11 => ("OwnerHeapModel", "classes", "[I", true)
  | 12 => ("OwnerHeapModel", "cName", "[J", true)
  | 13 => ("OwnerHeapModel", "cAt", "[I", true)
  | 14 => ("OwnerHeapModel", "cIs", "[I", true)
  | 15 => ("OwnerHeapModel", "cNames", "[I", true)
  | 16 => ("OwnerHeapModel", "cAbove", "[I", true)
  | 17 => ("OwnerHeapModel", "cIns", "[I", true)
  | 18 => ("OwnerHeapModel", "cFirst", "[I", true)
  | 19 => ("OwnerHeapModel", "cMembers", "[I", true)
  | 20 => ("OwnerHeapModel", "cFields", "[I", true)
  | 21 => ("OwnerHeapModel", "cMethods", "[I", true)
  | 22 => ("OwnerHeapModel", "cNameOf", "[J", true)
  | 23 => ("OwnerHeapModel", "cNameAt", "[I", true)
  | 24 => ("OwnerHeapModel", "inA", "[J", true)
  | 25 => ("OwnerHeapModel", "inB", "[J", true)
  | 26 => ("OwnerHeapModel", "inAAt", "[I", true)
  | 27 => ("OwnerHeapModel", "inBAt", "[I", true)
  | 28 => ("OwnerHeapModel", "inI", "[I", true)
  | 29 => ("OwnerHeapModel", "inJ", "[I", true)
  | 30 => ("OwnerHeapModel", "within", "[Z", true)
  | 31 => ("OwnerHeapModel", "members", "[I", true)
  | 32 => ("OwnerHeapModel", "kinds", "[I", true)
  | 33 => ("OwnerHeapModel", "orders", "[I", true)
  | 34 => ("OwnerHeapModel", "mainCode", "[I", true)
  | 35 => ("OwnerHeapModel", "mClass", "[I", true)
  | 36 => ("OwnerHeapModel", "mSort", "[I", true)
  | 37 => ("OwnerHeapModel", "mType", "[I", true)
  | 38 => ("OwnerHeapModel", "mAt", "[I", true)
  | 39 => ("OwnerHeapModel", "mParams", "[I", true)
  | 40 => ("OwnerHeapModel", "mCode", "[I", true)
  | 41 => ("OwnerHeapModel", "mIndex", "[I", true)
  | 42 => ("OwnerHeapModel", "mVars", "[I", true)
  | 43 => ("OwnerHeapModel", "mName", "[J", true)
  | 44 => ("OwnerHeapModel", "pType", "[I", true)
  | 45 => ("OwnerHeapModel", "pAt", "[I", true)
  | 46 => ("OwnerHeapModel", "pName", "[J", true)
  | 47 => ("OwnerHeapModel", "kName", "[J", true)
  | 48 => ("OwnerHeapModel", "kAt", "[I", true)
  | 49 => ("OwnerHeapModel", "kCount", "[I", true)
  | 50 => ("OwnerHeapModel", "kClass", "[I", true)
  | 51 => ("OwnerHeapModel", "kOwner", "[J", true)
  | 52 => ("OwnerHeapModel", "kOwnerAt", "[I", true)
  | 53 => ("OwnerHeapModel", "kO", "[I", true)
  | 54 => ("OwnerHeapModel", "op", "[I", true)
  | 55 => ("OwnerHeapModel", "opAt", "[I", true)
  | 56 => ("OwnerHeapModel", "opA", "[I", true)
  | 57 => ("OwnerHeapModel", "opB", "[I", true)
  | 58 => ("OwnerHeapModel", "opName", "[J", true)
  | 59 => ("OwnerHeapModel", "faultKind", "I", false)
  | 60 => ("OwnerHeapModel", "faultAt", "I", false)
  | 61 => ("OwnerHeapModel", "bad", "I", false)
  | 62 => ("OwnerHeapModel", "badAt", "I", false)
  | 63 => ("OwnerHeapModel", "bank", "I", false)
  | 64 => ("OwnerHeapModel", "open", "I", false)
  | 65 => ("OwnerHeapModel", "nowClass", "I", false)
  | 66 => ("OwnerHeapModel", "nowMember", "I", false)
  | 67 => ("OwnerHeapModel", "told", "I", false)
  | 68 => ("OwnerHeapModel", "bSort", "[I", true)
  | 69 => ("OwnerHeapModel", "bJump", "[I", true)
  | 70 => ("OwnerHeapModel", "bTop", "[I", true)
  | 71 => ("OwnerHeapModel", "blocks", "I", false)
  | 72 => ("OwnerHeapModel", "xSort", "[I", true)
  | 73 => ("OwnerHeapModel", "xOp", "[I", true)
  | 74 => ("OwnerHeapModel", "xAt", "[I", true)
  | 75 => ("OwnerHeapModel", "xMany", "[I", true)
  | 76 => ("OwnerHeapModel", "waits", "I", false)
  | 77 => ("OwnerHeapModel", "shape", "I", false)
  | 78 => ("OwnerHeapModel", "shapeAt", "I", false)
  | 79 => ("OwnerHeapModel", "tClass", "[I", true)
  | 80 => ("OwnerHeapModel", "tAlone", "[I", true)
  | 81 => ("OwnerHeapModel", "tOwner", "[I", true)
  | 82 => ("OwnerHeapModel", "types", "I", false)
  | 83 => ("OwnerHeapModel", "vName", "[J", true)
  | 84 => ("OwnerHeapModel", "vType", "[I", true)
  | 85 => ("OwnerHeapModel", "vDepth", "[I", true)
  | 86 => ("OwnerHeapModel", "vKnown", "[Z", true)
  | 87 => ("OwnerHeapModel", "vars", "I", false)
  | 88 => ("OwnerHeapModel", "depth", "I", false)
  | 89 => ("OwnerHeapModel", "jMember", "[I", true)
  | 90 => ("OwnerHeapModel", "jOwner", "[I", true)
  | 91 => ("OwnerHeapModel", "jCount", "[I", true)
  | 92 => ("OwnerHeapModel", "judged", "I", false)
  | 93 => ("OwnerHeapModel", "up", "[I", true)
  | 94 => ("OwnerHeapModel", "upOther", "[I", true)
  | 95 => ("OwnerHeapModel", "upClass", "I", false)
  | 96 => ("OwnerHeapModel", "state", "I", false)
  | 97 => ("OwnerHeapModel", "ended", "I", false)
  | 98 => ("OwnerHeapModel", "trouble", "I", false)
  | 99 => ("OwnerHeapModel", "troubleAt", "I", false)
  | 100 => ("OwnerHeapModel", "steps", "I", false)
  | 101 => ("OwnerHeapModel", "wordsMost", "I", false)
  | 102 => ("OwnerHeapModel", "words", "I", false)
  | 103 => ("OwnerHeapModel", "objects", "I", false)
  | 104 => ("OwnerHeapModel", "callsMost", "I", false)
  | 105 => ("OwnerHeapModel", "mostCalls", "I", false)
  | 106 => ("OwnerHeapModel", "saids", "I", false)
  | 107 => ("OwnerHeapModel", "said", "[I", true)
  | 108 => ("OwnerHeapModel", "heap", "[I", true)
  | 109 => ("OwnerHeapModel", "oClass", "[I", true)
  | 110 => ("OwnerHeapModel", "oFrom", "[I", true)
  | 111 => ("OwnerHeapModel", "fMember", "[I", true)
  | 112 => ("OwnerHeapModel", "fObject", "[I", true)
  | 113 => ("OwnerHeapModel", "fLine", "[I", true)
  | 114 => ("OwnerHeapModel", "fBack", "[I", true)
  | 115 => ("OwnerHeapModel", "fVar", "[I", true)
  | 116 => ("OwnerHeapModel", "calls", "I", false)
  | 117 => ("OwnerHeapModel", "value", "[I", true)
  | 118 => ("OwnerHeapModel", "top", "I", false)
  | 119 => ("OwnerHeapModel", "spot", "I", false)
  | 120 => ("OwnerHeapModel", "seen", "[Z", true)
  | 121 => ("OwnerHeapModel", "queue", "[I", true)
  | 122 => ("OwnerHeapModel", "from", "[I", true)
  | 123 => ("OwnerHeapModel", "far", "[I", true)
  | 124 => ("OwnerHeapModel", "queued", "I", false)
  | 125 => ("OwnerHeapModel", "isLeak", "[Z", true)
  | 126 => ("OwnerHeapModel", "leaksKnown", "Z", false)
  | 127 => ("OwnerHeapModel", "leakMany", "I", false)
  | 128 => ("OwnerHeapModel", "argumentAt", "[I", true)
  | 129 => ("OwnerHeapModel", "trusts", "Z", false)
  | 130 => ("OwnerHeapModel", "chain", "[I", true)
  | 131 => ("OwnerHeapModel", "isObject", "[Z", true)
  | 132 => ("OwnerHeapModel", "nowIn", "I", false)
  | 133 => ("OwnerHeapModel", "nowMethod", "I", false)
  | 134 => ("OwnerHeapModel", "now", "[I", true)
  | 135 => ("OwnerHeapModel", "owns", "[Z", true)
  | _ => ("OwnerHeapModel", "along", "[I", true)
def tyX12 : Nat → FieldType := fun k => match k with
  | 0 => .array .byte
  | 1 => .int
  | 2 => .int
  | 3 => .int
  | 4 => .int
  | 5 => .int
  | 6 => .int
  | 7 => .long
  | 8 => .array .long
  | 9 => .int
  | 10 => .boolean
  | 11 => .array .int
  | 12 => .array .long
  | 13 => .array .int
  | 14 => .array .int
  | 15 => .array .int
  | 16 => .array .int
  | 17 => .array .int
  | 18 => .array .int
  | 19 => .array .int
  | 20 => .array .int
  | 21 => .array .int
  | 22 => .array .long
  | 23 => .array .int
  | 24 => .array .long
  | 25 => .array .long
  | 26 => .array .int
  | 27 => .array .int
  | 28 => .array .int
  | 29 => .array .int
  | 30 => .array .boolean
  | 31 => .array .int
  | 32 => .array .int
  | 33 => .array .int
  | 34 => .array .int
  | 35 => .array .int
  | 36 => .array .int
  | 37 => .array .int
  | 38 => .array .int
  | 39 => .array .int
  | 40 => .array .int
  | 41 => .array .int
  | 42 => .array .int
  | 43 => .array .long
  | 44 => .array .int
  | 45 => .array .int
  | 46 => .array .long
  | 47 => .array .long
  | 48 => .array .int
  | 49 => .array .int
  | 50 => .array .int
  | 51 => .array .long
  | 52 => .array .int
  | 53 => .array .int
  | 54 => .array .int
  | 55 => .array .int
  | 56 => .array .int
  | 57 => .array .int
  | 58 => .array .long
  | 59 => .int
  | 60 => .int
  | 61 => .int
  | 62 => .int
  | 63 => .int
  | 64 => .int
  | 65 => .int
  | 66 => .int
  | 67 => .int
  | 68 => .array .int
  | 69 => .array .int
  | 70 => .array .int
  | 71 => .int
  | 72 => .array .int
  | 73 => .array .int
  | 74 => .array .int
  | 75 => .array .int
  | 76 => .int
  | 77 => .int
  | 78 => .int
  | 79 => .array .int
  | 80 => .array .int
  | 81 => .array .int
  | 82 => .int
  | 83 => .array .long
  | 84 => .array .int
  | 85 => .array .int
  | 86 => .array .boolean
  | 87 => .int
  | 88 => .int
  | 89 => .array .int
  | 90 => .array .int
  | 91 => .array .int
  | 92 => .int
  | 93 => .array .int
  | 94 => .array .int
  | 95 => .int
  | 96 => .int
  | 97 => .int
  | 98 => .int
  | 99 => .int
  | 100 => .int
  | 101 => .int
  | 102 => .int
  | 103 => .int
  | 104 => .int
  | 105 => .int
  | 106 => .int
  | 107 => .array .int
  | 108 => .array .int
  | 109 => .array .int
  | 110 => .array .int
  | 111 => .array .int
  | 112 => .array .int
  | 113 => .array .int
  | 114 => .array .int
  | 115 => .array .int
  | 116 => .int
  | 117 => .array .int
  | 118 => .int
  | 119 => .int
  | 120 => .array .boolean
  | 121 => .array .int
  | 122 => .array .int
  | 123 => .array .int
  | 124 => .int
  | 125 => .array .boolean
  | 126 => .boolean
  | 127 => .int
  | 128 => .array .int
  | 129 => .boolean
  | 130 => .array .int
  | 131 => .array .boolean
  | 132 => .int
  | 133 => .int
  | 134 => .array .int
  | 135 => .array .boolean
  | _ => .array .int
theorem tyX12_ok : ∀ k, k < 137 → parseFieldDescriptor (TX12 k).2.2.1 = some (tyX12 k) := by decide +kernel
theorem nmX12 : ∀ a, a < 137 → ∀ b, b < 137 → a ≠ b → (TX12 a).2.1 ≠ (TX12 b).2.1 := by decide +kernel
abbrev vwCl : List vw_C := [(RX0, TX0, 4), (RX1, TX1, 17), (RX2, TX2, 7), (RX3, TX3, 5), (RX4, TX4, 8), (RX5, TX5, 15), (RX6, TX6, 10), (RX7, TX7, 16), (RX8, TX8, 11), (RX9, TX9, 9), (RX10, TX10, 10), (RX11, TX11, 14), (RX12, TX12, 137)]
def mjTyv : Nat → Nat → FieldType := fun ci => match ci with
  | 0 => tyX0
  | 1 => tyX1
  | 2 => tyX2
  | 3 => tyX3
  | 4 => tyX4
  | 5 => tyX5
  | 6 => tyX6
  | 7 => tyX7
  | 8 => tyX8
  | 9 => tyX9
  | 10 => tyX10
  | 11 => tyX11
  | _ => tyX12
/-- the names of the classes, by number -/
def mjCs : List String := ["OwnerHeap$Code", "OwnerHeap$Coder", "OwnerHeap$Frames", "OwnerHeap$Heap", "OwnerHeap$Judge", "OwnerHeap$Machine", "OwnerHeap$Members", "OwnerHeap$Program", "OwnerHeap$Reader", "OwnerHeap$Tokens", "OwnerHeap$Walker", "OwnerHeap", "OwnerHeapModel", "OwnerHeapLaw", "java/lang/Character", "java/lang/Math", "java/lang/Object", "java/lang/String", "java/lang/StringLatin1", "java/lang/StringUTF16", "java/util/Arrays", "jdk/internal/util/Preconditions"]
def mjCn (n : Nat) : String := mjCs.getD n ""
abbrev mjI : Type := MethodName × Nat × ByteArray × Nat × Option FieldType × Nat × Bool
def mjMs_0 : List mjI := [(⟨"OwnerHeap$Code", "<init>", "()V"⟩, 0, prog_2_method_1_code, 1, none, 0, false),
  (⟨"OwnerHeap$Code", "emit", "(III)I"⟩, 0, prog_2_method_2_code, 5, (some .int), 3, false),
  (⟨"OwnerHeap$Code", "aimHere", "(I)V"⟩, 0, prog_2_method_3_code, 2, none, 1, false)]
def mjMs_1 : List mjI := [(⟨"OwnerHeap$Coder", "<init>", "(LOwnerHeap$Tokens;LOwnerHeap$Reader;LOwnerHeap$Judge;LOwnerHeap$Program;)V"⟩, 1, prog_3_method_1_code, 5, none, 4, false),
  (⟨"OwnerHeap$Coder", "codeAll", "(LOwnerHeap$Program;)V"⟩, 1, prog_3_method_2_code, 3, none, 1, false),
  (⟨"OwnerHeap$Coder", "knowParams", "(I)V"⟩, 1, prog_3_method_3_code, 5, none, 1, false),
  (⟨"OwnerHeap$Coder", "know", "(JI)V"⟩, 1, prog_3_method_4_code, 4, none, 2, false),
  (⟨"OwnerHeap$Coder", "codeBlock", "()V"⟩, 1, prog_3_method_6_code, 3, none, 0, false),
  (⟨"OwnerHeap$Coder", "codeStatement", "()V"⟩, 1, prog_3_method_7_code, 5, none, 0, false),
  (⟨"OwnerHeap$Coder", "codeIf", "()V"⟩, 1, prog_3_method_14_code, 3, none, 0, false),
  (⟨"OwnerHeap$Coder", "codeCondition", "()I"⟩, 1, prog_3_method_16_code, 2, (some .int), 0, false),
  (⟨"OwnerHeap$Coder", "codeValue", "()I"⟩, 1, prog_3_method_20_code, 4, (some .int), 0, false),
  (⟨"OwnerHeap$Coder", "codeSum", "()I"⟩, 1, prog_3_method_22_code, 4, (some .int), 0, false),
  (⟨"OwnerHeap$Coder", "codeProduct", "()I"⟩, 1, prog_3_method_23_code, 4, (some .int), 0, false),
  (⟨"OwnerHeap$Coder", "codeUnit", "()I"⟩, 1, prog_3_method_26_code, 2, (some .int), 0, false),
  (⟨"OwnerHeap$Coder", "codePost", "()I"⟩, 1, prog_3_method_27_code, 6, (some .int), 0, false),
  (⟨"OwnerHeap$Coder", "codeAtom", "()I"⟩, 1, prog_3_method_28_code, 5, (some .int), 0, false),
  (⟨"OwnerHeap$Coder", "knownHere", "()I"⟩, 1, prog_3_method_17_code, 2, (some .int), 0, false),
  (⟨"OwnerHeap$Coder", "knownNamed", "(J)I"⟩, 1, prog_3_method_5_code, 4, (some .int), 1, false),
  (⟨"OwnerHeap$Coder", "numberOfKnown", "(I)I"⟩, 1, prog_3_method_19_code, 2, (some .int), 1, false),
  (⟨"OwnerHeap$Coder", "typeOfKnown", "(I)I"⟩, 1, prog_3_method_18_code, 2, (some .int), 1, false),
  (⟨"OwnerHeap$Coder", "codeThis", "()I"⟩, 1, prog_3_method_29_code, 1, (some .int), 0, false),
  (⟨"OwnerHeap$Coder", "codeMember", "(IZ)I"⟩, 1, prog_3_method_30_code, 8, (some .int), 2, false),
  (⟨"OwnerHeap$Coder", "codeCall", "(III)V"⟩, 1, prog_3_method_32_code, 7, none, 3, false),
  (⟨"OwnerHeap$Coder", "codeField", "(II)V"⟩, 1, prog_3_method_31_code, 4, none, 2, false),
  (⟨"OwnerHeap$Coder", "aimAt", "(III)V"⟩, 1, prog_3_method_11_code, 4, none, 3, false),
  (⟨"OwnerHeap$Coder", "refuseIfInt", "(II)V"⟩, 1, prog_3_method_12_code, 3, none, 2, false),
  (⟨"OwnerHeap$Coder", "askNumber", "(II)V"⟩, 1, prog_3_method_13_code, 3, none, 2, false),
  (⟨"OwnerHeap$Coder", "askNumbers", "(III)V"⟩, 1, prog_3_method_21_code, 4, none, 3, false),
  (⟨"OwnerHeap$Coder", "codeOperator", "(I)I"⟩, 1, prog_3_method_24_code, 2, (some .int), 1, false),
  (⟨"OwnerHeap$Coder", "operatorOf", "(I)I"⟩, 1, prog_3_method_25_code, 1, (some .int), 1, true),
  (⟨"OwnerHeap$Coder", "codeWhile", "()V"⟩, 1, prog_3_method_15_code, 3, none, 0, false),
  (⟨"OwnerHeap$Coder", "codeFitting", "(I)V"⟩, 1, prog_3_method_9_code, 3, none, 1, false),
  (⟨"OwnerHeap$Coder", "newNameHere", "()J"⟩, 1, prog_3_method_8_code, 3, (some .long), 0, false),
  (⟨"OwnerHeap$Coder", "codeLeft", "()I"⟩, 1, prog_3_method_10_code, 2, (some .int), 0, false)]
def mjMs_2 : List mjI := [(⟨"OwnerHeap$Frames", "<init>", "()V"⟩, 2, prog_4_method_1_code, 1, none, 0, false),
  (⟨"OwnerHeap$Frames", "close", "()V"⟩, 2, prog_4_method_2_code, 1, none, 0, false),
  (⟨"OwnerHeap$Frames", "add", "(III)V"⟩, 2, prog_4_method_3_code, 5, none, 3, false),
  (⟨"OwnerHeap$Frames", "top", "()I"⟩, 2, prog_4_method_5_code, 1, (some .int), 0, false),
  (⟨"OwnerHeap$Frames", "variableAt", "(II)I"⟩, 2, prog_4_method_4_code, 3, (some .int), 2, false),
  (⟨"OwnerHeap$Frames", "setVariable", "(II)V"⟩, 2, prog_4_method_6_code, 3, none, 2, false)]
def mjMs_3 : List mjI := [(⟨"OwnerHeap$Heap", "<init>", "()V"⟩, 3, prog_5_method_1_code, 1, none, 0, false),
  (⟨"OwnerHeap$Heap", "empty", "(I)V"⟩, 3, prog_5_method_2_code, 2, none, 1, false),
  (⟨"OwnerHeap$Heap", "has", "(I)Z"⟩, 3, prog_5_method_4_code, 2, (some .boolean), 1, false),
  (⟨"OwnerHeap$Heap", "setField", "(III)V"⟩, 3, prog_5_method_10_code, 5, none, 3, false),
  (⟨"OwnerHeap$Heap", "fieldAt", "(II)I"⟩, 3, prog_5_method_9_code, 4, (some .int), 2, false),
  (⟨"OwnerHeap$Heap", "classOf", "(I)I"⟩, 3, prog_5_method_5_code, 2, (some .int), 1, false),
  (⟨"OwnerHeap$Heap", "make", "(III)I"⟩, 3, prog_5_method_3_code, 5, (some .int), 3, false),
  (⟨"OwnerHeap$Heap", "ownersOf", "(I)I"⟩, 3, prog_5_method_6_code, 2, (some .int), 1, false),
  (⟨"OwnerHeap$Heap", "ownerAt", "(II)I"⟩, 3, prog_5_method_7_code, 3, (some .int), 2, false),
  (⟨"OwnerHeap$Heap", "setOwner", "(III)V"⟩, 3, prog_5_method_8_code, 4, none, 3, false),
  (⟨"OwnerHeap$Heap", "depthOf", "(I)I"⟩, 3, prog_5_method_11_code, 4, (some .int), 1, false),
  (⟨"OwnerHeap$Heap", "liesInside", "(II)Z"⟩, 3, prog_5_method_12_code, 5, (some .boolean), 2, false)]
def mjMs_4 : List mjI := [(⟨"OwnerHeap$Judge", "<init>", "(LOwnerHeap$Tokens;LOwnerHeap$Reader;LOwnerHeap$Program;)V"⟩, 4, prog_6_method_1_code, 4, none, 3, false),
  (⟨"OwnerHeap$Judge", "judgeHeads", "(LOwnerHeap$Program;Z)V"⟩, 4, prog_6_method_2_code, 3, none, 2, false),
  (⟨"OwnerHeap$Judge", "judgeNames", "()V"⟩, 4, prog_6_method_3_code, 3, none, 0, false),
  (⟨"OwnerHeap$Judge", "classNamed", "(J)I"⟩, 4, prog_6_method_5_code, 4, (some .int), 1, false),
  (⟨"OwnerHeap$Judge", "judgeNamesOf", "(II)V"⟩, 4, prog_6_method_4_code, 5, none, 2, false),
  (⟨"OwnerHeap$Judge", "nameNumber", "(IJ)I"⟩, 4, prog_6_method_6_code, 5, (some .int), 2, false),
  (⟨"OwnerHeap$Judge", "judgeAboves", "()V"⟩, 4, prog_6_method_7_code, 4, none, 0, false),
  (⟨"OwnerHeap$Judge", "kindHere", "(IZ)I"⟩, 4, prog_6_method_17_code, 9, (some .int), 2, false),
  (⟨"OwnerHeap$Judge", "ownersAt", "(I)I"⟩, 4, prog_6_method_18_code, 3, (some .int), 1, false),
  (⟨"OwnerHeap$Judge", "ownerHere", "(IIZ)I"⟩, 4, prog_6_method_19_code, 4, (some .int), 3, false),
  (⟨"OwnerHeap$Judge", "judgeCircles", "()V"⟩, 4, prog_6_method_8_code, 4, none, 0, false),
  (⟨"OwnerHeap$Judge", "judgeIns", "()V"⟩, 4, prog_6_method_9_code, 6, none, 0, false),
  (⟨"OwnerHeap$Judge", "nameInIn", "(II)I"⟩, 4, prog_6_method_10_code, 4, (some .int), 2, false),
  (⟨"OwnerHeap$Judge", "judgeMembers", "()V"⟩, 4, prog_6_method_11_code, 5, none, 0, false),
  (⟨"OwnerHeap$Judge", "judgeMember", "(II)V"⟩, 4, prog_6_method_12_code, 5, none, 2, false),
  (⟨"OwnerHeap$Judge", "typeHere", "(I)I"⟩, 4, prog_6_method_16_code, 2, (some .int), 1, false),
  (⟨"OwnerHeap$Judge", "judgeParamName", "(I)V"⟩, 4, prog_6_method_13_code, 5, none, 1, false),
  (⟨"OwnerHeap$Judge", "judgeOvers", "()V"⟩, 4, prog_6_method_14_code, 6, none, 0, false),
  (⟨"OwnerHeap$Judge", "isSame", "(II)Z"⟩, 4, prog_6_method_15_code, 6, (some .boolean), 2, false)]
def mjMs_5 : List mjI := [(⟨"OwnerHeap$Machine", "<init>", "(LOwnerHeap$Heap;LOwnerHeap$Program;)V"⟩, 5, prog_7_method_1_code, 3, none, 2, false),
  (⟨"OwnerHeap$Machine", "drop", "()V"⟩, 5, prog_7_method_2_code, 1, none, 0, false),
  (⟨"OwnerHeap$Machine", "begin", "(LOwnerHeap$Program;II)V"⟩, 5, prog_7_method_3_code, 4, none, 3, false),
  (⟨"OwnerHeap$Machine", "goOn", "(I)V"⟩, 5, prog_7_method_4_code, 4, none, 1, false),
  (⟨"OwnerHeap$Machine", "coast", "()V"⟩, 5, prog_7_method_5_code, 3, none, 0, false),
  (⟨"OwnerHeap$Machine", "isAtOnce", "()Z"⟩, 5, prog_7_method_6_code, 1, (some .boolean), 0, false),
  (⟨"OwnerHeap$Machine", "workAtOnce", "(III)V"⟩, 5, prog_7_method_7_code, 4, none, 3, false),
  (⟨"OwnerHeap$Machine", "push", "(I)V"⟩, 5, prog_7_method_11_code, 2, none, 1, false),
  (⟨"OwnerHeap$Machine", "pop", "()I"⟩, 5, prog_7_method_12_code, 1, (some .int), 0, false),
  (⟨"OwnerHeap$Machine", "putField", "(II)V"⟩, 5, prog_7_method_18_code, 5, none, 2, false),
  (⟨"OwnerHeap$Machine", "fail", "(II)V"⟩, 5, prog_7_method_14_code, 3, none, 2, false),
  (⟨"OwnerHeap$Machine", "sayNumber", "(I)V"⟩, 5, prog_7_method_15_code, 2, none, 1, false),
  (⟨"OwnerHeap$Machine", "giveBack", "(I)V"⟩, 5, prog_7_method_16_code, 3, none, 1, false),
  (⟨"OwnerHeap$Machine", "workOperator", "(II)V"⟩, 5, prog_7_method_9_code, 5, none, 2, false),
  (⟨"OwnerHeap$Machine", "divide", "(IIII)V"⟩, 5, prog_7_method_10_code, 5, none, 4, false),
  (⟨"OwnerHeap$Machine", "workStep", "(III)V"⟩, 5, prog_7_method_8_code, 4, none, 3, false),
  (⟨"OwnerHeap$Machine", "getField", "(II)V"⟩, 5, prog_7_method_17_code, 4, none, 2, false),
  (⟨"OwnerHeap$Machine", "callMethod", "(II)V"⟩, 5, prog_7_method_19_code, 7, none, 2, false),
  (⟨"OwnerHeap$Machine", "peek", "(I)I"⟩, 5, prog_7_method_13_code, 3, (some .int), 1, false),
  (⟨"OwnerHeap$Machine", "makeObject", "(II)V"⟩, 5, prog_7_method_20_code, 7, none, 2, false),
  (⟨"OwnerHeap$Machine", "ownerHere", "(I)I"⟩, 5, prog_7_method_21_code, 5, (some .int), 1, false),
  (⟨"OwnerHeap$Machine", "ownerSeen", "(III)I"⟩, 5, prog_7_method_22_code, 5, (some .int), 3, false),
  (⟨"OwnerHeap$Machine", "isAs", "(II)Z"⟩, 5, prog_7_method_23_code, 7, (some .boolean), 2, false)]
def mjMs_6 : List mjI := [(⟨"OwnerHeap$Members", "<init>", "()V"⟩, 6, prog_8_method_1_code, 1, none, 0, false),
  (⟨"OwnerHeap$Members", "clear", "()V"⟩, 6, prog_8_method_2_code, 2, none, 0, false),
  (⟨"OwnerHeap$Members", "setParamType", "(III)V"⟩, 6, prog_8_method_4_code, 4, none, 3, false),
  (⟨"OwnerHeap$Members", "paramType", "(II)I"⟩, 6, prog_8_method_3_code, 3, (some .int), 2, false),
  (⟨"OwnerHeap$Members", "hasThis", "(I)Z"⟩, 6, prog_8_method_5_code, 4, (some .boolean), 1, false)]
def mjMs_7 : List mjI := [(⟨"OwnerHeap$Program", "<init>", "()V"⟩, 7, prog_9_method_1_code, 1, none, 0, false),
  (⟨"OwnerHeap$Program", "clear", "()V"⟩, 7, prog_9_method_2_code, 1, none, 0, false),
  (⟨"OwnerHeap$Program", "bareKind", "(I)I"⟩, 7, prog_9_method_5_code, 1, (some .int), 1, true),
  (⟨"OwnerHeap$Program", "withOwner", "(III)I"⟩, 7, prog_9_method_6_code, 3, (some .int), 3, true),
  (⟨"OwnerHeap$Program", "isNested", "(II)Z"⟩, 7, prog_9_method_22_code, 8, (some .boolean), 2, false),
  (⟨"OwnerHeap$Program", "classOf", "(I)I"⟩, 7, prog_9_method_3_code, 1, (some .int), 1, true),
  (⟨"OwnerHeap$Program", "ownerIn", "(II)I"⟩, 7, prog_9_method_4_code, 2, (some .int), 2, true),
  (⟨"OwnerHeap$Program", "isKnown", "(III)Z"⟩, 7, prog_9_method_21_code, 4, (some .boolean), 3, false),
  (⟨"OwnerHeap$Program", "classAbove", "(I)I"⟩, 7, prog_9_method_10_code, 2, (some .int), 1, false),
  (⟨"OwnerHeap$Program", "setIn", "(IIII)V"⟩, 7, prog_9_method_18_code, 5, none, 4, false),
  (⟨"OwnerHeap$Program", "fillViews", "()V"⟩, 7, prog_9_method_12_code, 5, none, 0, false),
  (⟨"OwnerHeap$Program", "ownKind", "(I)I"⟩, 7, prog_9_method_8_code, 4, (some .int), 1, false),
  (⟨"OwnerHeap$Program", "standing", "(II)I"⟩, 7, prog_9_method_9_code, 7, (some .int), 2, false),
  (⟨"OwnerHeap$Program", "fillFields", "()V"⟩, 7, prog_9_method_13_code, 3, none, 0, false),
  (⟨"OwnerHeap$Program", "viewOf", "(II)I"⟩, 7, prog_9_method_11_code, 3, (some .int), 2, false),
  (⟨"OwnerHeap$Program", "fillKnown", "()V"⟩, 7, prog_9_method_16_code, 2, none, 0, false),
  (⟨"OwnerHeap$Program", "fillToldKnown", "(I)V"⟩, 7, prog_9_method_17_code, 4, none, 1, false),
  (⟨"OwnerHeap$Program", "know", "(III)V"⟩, 7, prog_9_method_19_code, 4, none, 3, false),
  (⟨"OwnerHeap$Program", "closeKnown", "(I)V"⟩, 7, prog_9_method_20_code, 4, none, 1, false),
  (⟨"OwnerHeap$Program", "ownMemberNamed", "(IJ)I"⟩, 7, prog_9_method_25_code, 6, (some .int), 2, false),
  (⟨"OwnerHeap$Program", "fillObjectFields", "()V"⟩, 7, prog_9_method_14_code, 4, none, 0, false),
  (⟨"OwnerHeap$Program", "memberNamed", "(IJZ)I"⟩, 7, prog_9_method_24_code, 8, (some .int), 3, false),
  (⟨"OwnerHeap$Program", "hasThis", "(I)Z"⟩, 7, prog_9_method_7_code, 3, (some .boolean), 1, true),
  (⟨"OwnerHeap$Program", "fits", "(II)Z"⟩, 7, prog_9_method_23_code, 4, (some .boolean), 2, false),
  (⟨"OwnerHeap$Program", "holdsObject", "(II)Z"⟩, 7, prog_9_method_15_code, 3, (some .boolean), 2, false)]
def mjMs_8 : List mjI := [(⟨"OwnerHeap$Reader", "<init>", "(LOwnerHeap$Tokens;LOwnerHeap$Program;)V"⟩, 8, prog_10_method_1_code, 3, none, 2, false),
  (⟨"OwnerHeap$Reader", "readText", "(LOwnerHeap$Program;)V"⟩, 8, prog_10_method_2_code, 4, none, 1, false),
  (⟨"OwnerHeap$Reader", "readHead", "(I)V"⟩, 8, prog_10_method_5_code, 2, none, 1, false),
  (⟨"OwnerHeap$Reader", "readNames", "(I)V"⟩, 8, prog_10_method_6_code, 3, none, 1, false),
  (⟨"OwnerHeap$Reader", "readName", "(I)V"⟩, 8, prog_10_method_7_code, 2, none, 1, false),
  (⟨"OwnerHeap$Reader", "readType", "(Z)V"⟩, 8, prog_10_method_13_code, 3, none, 1, false),
  (⟨"OwnerHeap$Reader", "readOwner", "(I)V"⟩, 8, prog_10_method_14_code, 2, none, 1, false),
  (⟨"OwnerHeap$Reader", "readIns", "(I)V"⟩, 8, prog_10_method_8_code, 3, none, 1, false),
  (⟨"OwnerHeap$Reader", "readIn", "(I)V"⟩, 8, prog_10_method_9_code, 2, none, 1, false),
  (⟨"OwnerHeap$Reader", "open", "(I)V"⟩, 8, prog_10_method_3_code, 2, none, 1, false),
  (⟨"OwnerHeap$Reader", "startsType", "()Z"⟩, 8, prog_10_method_12_code, 1, (some .boolean), 0, false),
  (⟨"OwnerHeap$Reader", "readMember", "(II)V"⟩, 8, prog_10_method_10_code, 4, none, 2, false),
  (⟨"OwnerHeap$Reader", "readParams", "(I)V"⟩, 8, prog_10_method_11_code, 4, none, 1, false),
  (⟨"OwnerHeap$Reader", "close", "(I)V"⟩, 8, prog_10_method_4_code, 2, none, 1, false),
  (⟨"OwnerHeap$Reader", "readBlock", "()V"⟩, 8, prog_10_method_15_code, 2, none, 0, false),
  (⟨"OwnerHeap$Reader", "readStatement", "()V"⟩, 8, prog_10_method_16_code, 1, none, 0, false),
  (⟨"OwnerHeap$Reader", "readGuarded", "()V"⟩, 8, prog_10_method_17_code, 1, none, 0, false),
  (⟨"OwnerHeap$Reader", "readValue", "()I"⟩, 8, prog_10_method_20_code, 2, (some .int), 0, false),
  (⟨"OwnerHeap$Reader", "readSum", "()I"⟩, 8, prog_10_method_21_code, 3, (some .int), 0, false),
  (⟨"OwnerHeap$Reader", "readProduct", "()I"⟩, 8, prog_10_method_22_code, 3, (some .int), 0, false),
  (⟨"OwnerHeap$Reader", "readUnit", "()I"⟩, 8, prog_10_method_23_code, 1, (some .int), 0, false),
  (⟨"OwnerHeap$Reader", "readPost", "()I"⟩, 8, prog_10_method_24_code, 3, (some .int), 0, false),
  (⟨"OwnerHeap$Reader", "readAtom", "()I"⟩, 8, prog_10_method_27_code, 1, (some .int), 0, false),
  (⟨"OwnerHeap$Reader", "readArguments", "()I"⟩, 8, prog_10_method_25_code, 5, (some .int), 0, false),
  (⟨"OwnerHeap$Reader", "startsValue", "()Z"⟩, 8, prog_10_method_26_code, 1, (some .boolean), 0, false),
  (⟨"OwnerHeap$Reader", "readVariable", "()V"⟩, 8, prog_10_method_18_code, 1, none, 0, false),
  (⟨"OwnerHeap$Reader", "readSetSign", "(I)Z"⟩, 8, prog_10_method_19_code, 4, (some .boolean), 1, false)]
def mjMs_9 : List mjI := [(⟨"OwnerHeap$Tokens", "<init>", "()V"⟩, 9, prog_11_method_1_code, 3, none, 0, false),
  (⟨"OwnerHeap$Tokens", "spelled", "(JI)J"⟩, 9, prog_11_method_2_code, 4, (some .long), 2, true),
  (⟨"OwnerHeap$Tokens", "cut", "([BI)V"⟩, 9, prog_11_method_3_code, 5, none, 2, false),
  (⟨"OwnerHeap$Tokens", "behindBlanks", "([BII)I"⟩, 9, prog_11_method_5_code, 6, (some .int), 3, true),
  (⟨"OwnerHeap$Tokens", "cutOne", "([BII)I"⟩, 9, prog_11_method_6_code, 6, (some .int), 3, false),
  (⟨"OwnerHeap$Tokens", "isLetter", "(I)Z"⟩, 9, prog_11_method_11_code, 1, (some .boolean), 1, true),
  (⟨"OwnerHeap$Tokens", "cutName", "([BII)I"⟩, 9, prog_11_method_7_code, 7, (some .int), 3, false),
  (⟨"OwnerHeap$Tokens", "isDigit", "(I)Z"⟩, 9, prog_11_method_12_code, 1, (some .boolean), 1, true),
  (⟨"OwnerHeap$Tokens", "wordOrName", "(J)I"⟩, 9, prog_11_method_8_code, 4, (some .int), 1, false),
  (⟨"OwnerHeap$Tokens", "put", "(IIJ)V"⟩, 9, prog_11_method_4_code, 5, none, 3, false),
  (⟨"OwnerHeap$Tokens", "cutNumber", "([BII)I"⟩, 9, prog_11_method_9_code, 7, (some .int), 3, false),
  (⟨"OwnerHeap$Tokens", "cutSign", "([BII)I"⟩, 9, prog_11_method_10_code, 6, (some .int), 3, false),
  (⟨"OwnerHeap$Tokens", "is", "(I)Z"⟩, 9, prog_11_method_15_code, 2, (some .boolean), 1, false),
  (⟨"OwnerHeap$Tokens", "refuse", "(I)V"⟩, 9, prog_11_method_29_code, 2, none, 1, false),
  (⟨"OwnerHeap$Tokens", "skip", "()V"⟩, 9, prog_11_method_22_code, 1, none, 0, false),
  (⟨"OwnerHeap$Tokens", "now", "()I"⟩, 9, prog_11_method_14_code, 1, (some .int), 0, false),
  (⟨"OwnerHeap$Tokens", "placeAt", "(I)I"⟩, 9, prog_11_method_19_code, 2, (some .int), 1, false),
  (⟨"OwnerHeap$Tokens", "need", "(I)V"⟩, 9, prog_11_method_24_code, 2, none, 1, false),
  (⟨"OwnerHeap$Tokens", "keyAt", "(I)J"⟩, 9, prog_11_method_18_code, 2, (some .long), 1, false),
  (⟨"OwnerHeap$Tokens", "size", "()I"⟩, 9, prog_11_method_13_code, 1, (some .int), 0, false),
  (⟨"OwnerHeap$Tokens", "isFine", "()Z"⟩, 9, prog_11_method_28_code, 1, (some .boolean), 0, false),
  (⟨"OwnerHeap$Tokens", "kindNow", "()I"⟩, 9, prog_11_method_16_code, 1, (some .int), 0, false),
  (⟨"OwnerHeap$Tokens", "setArguments", "(II)V"⟩, 9, prog_11_method_21_code, 3, none, 2, false),
  (⟨"OwnerHeap$Tokens", "isProductSign", "()Z"⟩, 9, prog_11_method_27_code, 1, (some .boolean), 0, false),
  (⟨"OwnerHeap$Tokens", "isSumSign", "()Z"⟩, 9, prog_11_method_26_code, 1, (some .boolean), 0, false),
  (⟨"OwnerHeap$Tokens", "isCompareSign", "()Z"⟩, 9, prog_11_method_25_code, 1, (some .boolean), 0, false),
  (⟨"OwnerHeap$Tokens", "refuseAt", "(II)V"⟩, 9, prog_11_method_30_code, 3, none, 2, false),
  (⟨"OwnerHeap$Tokens", "goTo", "(I)V"⟩, 9, prog_11_method_23_code, 2, none, 1, false),
  (⟨"OwnerHeap$Tokens", "kindAt", "(I)I"⟩, 9, prog_11_method_17_code, 2, (some .int), 1, false),
  (⟨"OwnerHeap$Tokens", "argumentsAt", "(I)I"⟩, 9, prog_11_method_20_code, 2, (some .int), 1, false)]
def mjMs_10 : List mjI := [(⟨"OwnerHeap$Walker", "<init>", "(LOwnerHeap$Heap;LOwnerHeap$Program;)V"⟩, 10, prog_12_method_1_code, 4, none, 2, false),
  (⟨"OwnerHeap$Walker", "forget", "()V"⟩, 10, prog_12_method_3_code, 1, none, 0, false),
  (⟨"OwnerHeap$Walker", "look", "(LOwnerHeap$Program;)V"⟩, 10, prog_12_method_2_code, 2, none, 1, false),
  (⟨"OwnerHeap$Walker", "hopsBetween", "(II)I"⟩, 10, prog_12_method_10_code, 3, (some .int), 2, false),
  (⟨"OwnerHeap$Walker", "spread", "(II)V"⟩, 10, prog_12_method_4_code, 4, none, 2, false),
  (⟨"OwnerHeap$Walker", "comeTo", "(II)V"⟩, 10, prog_12_method_6_code, 3, none, 2, false),
  (⟨"OwnerHeap$Walker", "spreadFrom", "(II)V"⟩, 10, prog_12_method_5_code, 6, none, 2, false),
  (⟨"OwnerHeap$Walker", "fieldsOf", "(I)I"⟩, 10, prog_12_method_7_code, 2, (some .int), 1, false),
  (⟨"OwnerHeap$Walker", "hop", "(II)I"⟩, 10, prog_12_method_8_code, 3, (some .int), 2, false),
  (⟨"OwnerHeap$Walker", "hopsTo", "(I)I"⟩, 10, prog_12_method_9_code, 4, (some .int), 1, false),
  (⟨"OwnerHeap$Walker", "nearestAbove", "(I)I"⟩, 10, prog_12_method_11_code, 2, (some .int), 1, false),
  (⟨"OwnerHeap$Walker", "learn", "()V"⟩, 10, prog_12_method_14_code, 2, none, 0, false),
  (⟨"OwnerHeap$Walker", "findNearest", "()V"⟩, 10, prog_12_method_15_code, 4, none, 0, false),
  (⟨"OwnerHeap$Walker", "narrowFrom", "(I)Z"⟩, 10, prog_12_method_16_code, 7, (some .boolean), 1, false),
  (⟨"OwnerHeap$Walker", "aboveBoth", "(II)I"⟩, 10, prog_12_method_17_code, 6, (some .int), 2, false),
  (⟨"OwnerHeap$Walker", "isLeak", "(I)Z"⟩, 10, prog_12_method_18_code, 5, (some .boolean), 1, false),
  (⟨"OwnerHeap$Walker", "leakCount", "()I"⟩, 10, prog_12_method_12_code, 1, (some .int), 0, false),
  (⟨"OwnerHeap$Walker", "leakAt", "(I)I"⟩, 10, prog_12_method_13_code, 2, (some .int), 1, false),
  (⟨"OwnerHeap$Walker", "objectPast", "(II)I"⟩, 10, prog_12_method_19_code, 6, (some .int), 2, false)]
def mjMs_11 : List mjI := [(⟨"OwnerHeap", "<init>", "()V"⟩, 11, prog_1_method_1_code, 1, none, 0, false),
  (⟨"OwnerHeap", "feed", "(IIIII)I"⟩, 11, prog_1_method_2_code, 6, (some .int), 5, false),
  (⟨"OwnerHeap", "tapeInt", "(I)V"⟩, 11, prog_1_method_3_code, 3, none, 1, false),
  (⟨"OwnerHeap", "load", "(IZ)I"⟩, 11, prog_1_method_4_code, 3, (some .int), 2, false),
  (⟨"OwnerHeap", "takeSpare", "()V"⟩, 11, prog_1_method_5_code, 2, none, 0, false),
  (⟨"OwnerHeap", "fault", "(I)I"⟩, 11, prog_1_method_6_code, 2, (some .int), 1, false),
  (⟨"OwnerHeap", "type", "(II)I"⟩, 11, prog_1_method_7_code, 3, (some .int), 2, false),
  (⟨"OwnerHeap", "isIn", "(III)Z"⟩, 11, prog_1_method_8_code, 6, (some .boolean), 3, false),
  (⟨"OwnerHeap", "ownerAsked", "(II)I"⟩, 11, prog_1_method_9_code, 3, (some .int), 2, false),
  (⟨"OwnerHeap", "start", "(II)Z"⟩, 11, prog_1_method_10_code, 3, (some .boolean), 2, false),
  (⟨"OwnerHeap", "run", "(I)I"⟩, 11, prog_1_method_11_code, 2, (some .int), 1, false),
  (⟨"OwnerHeap", "state", "(I)I"⟩, 11, prog_1_method_12_code, 2, (some .int), 1, false),
  (⟨"OwnerHeap", "said", "(I)I"⟩, 11, prog_1_method_13_code, 2, (some .int), 1, false),
  (⟨"OwnerHeap", "call", "(II)I"⟩, 11, prog_1_method_14_code, 5, (some .int), 2, false),
  (⟨"OwnerHeap", "variable", "(II)I"⟩, 11, prog_1_method_15_code, 5, (some .int), 2, false),
  (⟨"OwnerHeap", "object", "(II)I"⟩, 11, prog_1_method_16_code, 3, (some .int), 2, false),
  (⟨"OwnerHeap", "owner", "(II)I"⟩, 11, prog_1_method_17_code, 4, (some .int), 2, false),
  (⟨"OwnerHeap", "field", "(II)I"⟩, 11, prog_1_method_18_code, 4, (some .int), 2, false),
  (⟨"OwnerHeap", "isInside", "(II)Z"⟩, 11, prog_1_method_19_code, 3, (some .boolean), 2, false),
  (⟨"OwnerHeap", "way", "(II)I"⟩, 11, prog_1_method_20_code, 3, (some .int), 2, false),
  (⟨"OwnerHeap", "above", "(I)I"⟩, 11, prog_1_method_21_code, 2, (some .int), 1, false),
  (⟨"OwnerHeap", "leaks", "()I"⟩, 11, prog_1_method_22_code, 1, (some .int), 0, false),
  (⟨"OwnerHeap", "leak", "(I)I"⟩, 11, prog_1_method_23_code, 2, (some .int), 1, false),
  (⟨"OwnerHeap", "past", "(II)I"⟩, 11, prog_1_method_24_code, 3, (some .int), 2, false)]
def mjMs_12 : List mjI := [(⟨"OwnerHeapModel", "<init>", "()V"⟩, 12, prog_14_method_1_code, 1, none, 0, false),
  (⟨"OwnerHeapModel", "keep", "(IIIIIII)V"⟩, 12, prog_14_method_4_code, 10, none, 7, false),
  (⟨"OwnerHeapModel", "longer", "(JI)J"⟩, 12, prog_14_method_3_code, 3, (some .long), 2, true),
  (⟨"OwnerHeapModel", "code", "(I)I"⟩, 12, prog_14_method_2_code, 1, (some .int), 1, true),
  (⟨"OwnerHeapModel", "run", "(I)I"⟩, 12, prog_14_method_88_code, 5, (some .int), 1, false),
  (⟨"OwnerHeapModel", "costs", "(I)Z"⟩, 12, prog_14_method_87_code, 1, (some .boolean), 1, true),
  (⟨"OwnerHeapModel", "act", "(I)V"⟩, 12, prog_14_method_89_code, 5, none, 1, false),
  (⟨"OwnerHeapModel", "push", "(I)V"⟩, 12, prog_14_method_84_code, 2, none, 1, false),
  (⟨"OwnerHeapModel", "make", "(I)V"⟩, 12, prog_14_method_90_code, 7, none, 1, false),
  (⟨"OwnerHeapModel", "ends", "(II)V"⟩, 12, prog_14_method_86_code, 3, none, 2, false),
  (⟨"OwnerHeapModel", "ownersNow", "(I)V"⟩, 12, prog_14_method_83_code, 5, none, 1, false),
  (⟨"OwnerHeapModel", "ownersOf", "(II)V"⟩, 12, prog_14_method_81_code, 4, none, 2, false),
  (⟨"OwnerHeapModel", "riseNow", "()V"⟩, 12, prog_14_method_82_code, 3, none, 0, false),
  (⟨"OwnerHeapModel", "pop", "()I"⟩, 12, prog_14_method_85_code, 1, (some .int), 0, false),
  (⟨"OwnerHeapModel", "two", "(I)V"⟩, 12, prog_14_method_91_code, 4, none, 1, false),
  (⟨"OwnerHeapModel", "call", "(I)V"⟩, 12, prog_14_method_93_code, 7, none, 1, false),
  (⟨"OwnerHeapModel", "methodOf", "(IJ)I"⟩, 12, prog_14_method_92_code, 8, (some .int), 2, false),
  (⟨"OwnerHeapModel", "higher", "(I)I"⟩, 12, prog_14_method_54_code, 2, (some .int), 1, false),
  (⟨"OwnerHeapModel", "isOf", "(II)Z"⟩, 12, prog_14_method_95_code, 5, (some .boolean), 2, false),
  (⟨"OwnerHeapModel", "returns", "(I)V"⟩, 12, prog_14_method_94_code, 2, none, 1, false),
  (⟨"OwnerHeapModel", "way", "(II)I"⟩, 12, prog_14_method_103_code, 4, (some .int), 2, false),
  (⟨"OwnerHeapModel", "isThere", "(I)Z"⟩, 12, prog_14_method_96_code, 2, (some .boolean), 1, false),
  (⟨"OwnerHeapModel", "clearWay", "()V"⟩, 12, prog_14_method_99_code, 2, none, 0, false),
  (⟨"OwnerHeapModel", "comes", "(II)V"⟩, 12, prog_14_method_98_code, 3, none, 2, false),
  (⟨"OwnerHeapModel", "goes", "(I)V"⟩, 12, prog_14_method_100_code, 7, none, 1, false),
  (⟨"OwnerHeapModel", "placeOf", "(I)I"⟩, 12, prog_14_method_102_code, 3, (some .int), 1, false),
  (⟨"OwnerHeapModel", "leaks", "()I"⟩, 12, prog_14_method_104_code, 1, (some .int), 0, false),
  (⟨"OwnerHeapModel", "looks", "()V"⟩, 12, prog_14_method_105_code, 3, none, 0, false),
  (⟨"OwnerHeapModel", "ownerAt", "(I)I"⟩, 12, prog_14_method_97_code, 2, (some .int), 1, false),
  (⟨"OwnerHeapModel", "fromRoots", "(I)V"⟩, 12, prog_14_method_101_code, 3, none, 1, false),
  (⟨"OwnerHeapModel", "leak", "(I)I"⟩, 12, prog_14_method_106_code, 4, (some .int), 1, false),
  (⟨"OwnerHeapModel", "past", "(II)I"⟩, 12, prog_14_method_107_code, 4, (some .int), 2, false),
  (⟨"OwnerHeapModel", "above", "(I)I"⟩, 12, prog_14_method_108_code, 5, (some .int), 1, false),
  (⟨"OwnerHeapModel", "feed", "(IIIII)I"⟩, 12, prog_14_method_109_code, 6, (some .int), 5, false),
  (⟨"OwnerHeapModel", "lay", "(I)V"⟩, 12, prog_14_method_110_code, 3, none, 1, false),
  (⟨"OwnerHeapModel", "load", "(IZ)I"⟩, 12, prog_14_method_111_code, 3, (some .int), 2, false),
  (⟨"OwnerHeapModel", "readAll", "()V"⟩, 12, prog_14_method_18_code, 1, none, 0, false),
  (⟨"OwnerHeapModel", "next", "()V"⟩, 12, prog_14_method_6_code, 3, none, 0, false),
  (⟨"OwnerHeapModel", "look", "(I)I"⟩, 12, prog_14_method_5_code, 2, (some .int), 1, false),
  (⟨"OwnerHeapModel", "keptWord", "()V"⟩, 12, prog_14_method_7_code, 2, none, 0, false),
  (⟨"OwnerHeapModel", "sign", "(I)V"⟩, 12, prog_14_method_8_code, 3, none, 1, false),
  (⟨"OwnerHeapModel", "isWord", "(I)Z"⟩, 12, prog_14_method_10_code, 2, (some .boolean), 1, false),
  (⟨"OwnerHeapModel", "readClass", "()V"⟩, 12, prog_14_method_19_code, 3, none, 0, false),
  (⟨"OwnerHeapModel", "fail", "(II)V"⟩, 12, prog_14_method_11_code, 3, none, 2, false),
  (⟨"OwnerHeapModel", "wrong", "()V"⟩, 12, prog_14_method_12_code, 1, none, 0, false),
  (⟨"OwnerHeapModel", "take", "(I)V"⟩, 12, prog_14_method_13_code, 2, none, 1, false),
  (⟨"OwnerHeapModel", "isSign", "(I)Z"⟩, 12, prog_14_method_9_code, 2, (some .boolean), 1, false),
  (⟨"OwnerHeapModel", "readKind", "()I"⟩, 12, prog_14_method_21_code, 4, (some .int), 0, false),
  (⟨"OwnerHeapModel", "readIns", "(I)V"⟩, 12, prog_14_method_20_code, 4, none, 1, false),
  (⟨"OwnerHeapModel", "opens", "(I)V"⟩, 12, prog_14_method_14_code, 2, none, 1, false),
  (⟨"OwnerHeapModel", "readMember", "(I)V"⟩, 12, prog_14_method_24_code, 5, none, 1, false),
  (⟨"OwnerHeapModel", "isType", "()Z"⟩, 12, prog_14_method_22_code, 1, (some .boolean), 0, false),
  (⟨"OwnerHeapModel", "readType", "()I"⟩, 12, prog_14_method_23_code, 1, (some .int), 0, false),
  (⟨"OwnerHeapModel", "closes", "(I)V"⟩, 12, prog_14_method_15_code, 2, none, 1, false),
  (⟨"OwnerHeapModel", "readBody", "()V"⟩, 12, prog_14_method_26_code, 1, none, 0, false),
  (⟨"OwnerHeapModel", "beginBlock", "(III)V"⟩, 12, prog_14_method_25_code, 4, none, 3, false),
  (⟨"OwnerHeapModel", "order", "(IIII)V"⟩, 12, prog_14_method_16_code, 6, none, 4, false),
  (⟨"OwnerHeapModel", "endBlock", "()V"⟩, 12, prog_14_method_28_code, 2, none, 0, false),
  (⟨"OwnerHeapModel", "toHere", "(I)V"⟩, 12, prog_14_method_27_code, 2, none, 1, false),
  (⟨"OwnerHeapModel", "readStep", "()V"⟩, 12, prog_14_method_29_code, 4, none, 0, false),
  (⟨"OwnerHeapModel", "readDeclare", "(I)V"⟩, 12, prog_14_method_30_code, 5, none, 1, false),
  (⟨"OwnerHeapModel", "orderName", "(IIJI)V"⟩, 12, prog_14_method_17_code, 6, none, 4, false),
  (⟨"OwnerHeapModel", "readE", "()V"⟩, 12, prog_14_method_34_code, 2, none, 0, false),
  (⟨"OwnerHeapModel", "waits", "(IIII)V"⟩, 12, prog_14_method_32_code, 5, none, 4, false),
  (⟨"OwnerHeapModel", "readAtom", "()Z"⟩, 12, prog_14_method_35_code, 3, (some .boolean), 0, false),
  (⟨"OwnerHeapModel", "beginsE", "()Z"⟩, 12, prog_14_method_33_code, 1, (some .boolean), 0, false),
  (⟨"OwnerHeapModel", "readBehind", "()Z"⟩, 12, prog_14_method_38_code, 3, (some .boolean), 0, false),
  (⟨"OwnerHeapModel", "readDot", "()Z"⟩, 12, prog_14_method_42_code, 4, (some .boolean), 0, false),
  (⟨"OwnerHeapModel", "endCall", "(I)V"⟩, 12, prog_14_method_41_code, 2, none, 1, false),
  (⟨"OwnerHeapModel", "beginArgument", "(I)Z"⟩, 12, prog_14_method_40_code, 2, (some .boolean), 1, false),
  (⟨"OwnerHeapModel", "level", "()I"⟩, 12, prog_14_method_36_code, 1, (some .int), 0, false),
  (⟨"OwnerHeapModel", "levelOf", "(I)I"⟩, 12, prog_14_method_37_code, 1, (some .int), 1, true),
  (⟨"OwnerHeapModel", "readEnd", "()Z"⟩, 12, prog_14_method_39_code, 2, (some .boolean), 0, false),
  (⟨"OwnerHeapModel", "readUse", "(I)V"⟩, 12, prog_14_method_31_code, 7, none, 1, false),
  (⟨"OwnerHeapModel", "judgeAll", "()V"⟩, 12, prog_14_method_51_code, 4, none, 0, false),
  (⟨"OwnerHeapModel", "judgeOwnNames", "(II)V"⟩, 12, prog_14_method_52_code, 5, none, 2, false),
  (⟨"OwnerHeapModel", "judgeAbove", "(I)V"⟩, 12, prog_14_method_53_code, 3, none, 1, false),
  (⟨"OwnerHeapModel", "judgeNames", "(IIZ)V"⟩, 12, prog_14_method_48_code, 7, none, 3, false),
  (⟨"OwnerHeapModel", "classOf", "(J)I"⟩, 12, prog_14_method_43_code, 4, (some .int), 1, false),
  (⟨"OwnerHeapModel", "ownerOf", "(IJZ)I"⟩, 12, prog_14_method_45_code, 5, (some .int), 3, false),
  (⟨"OwnerHeapModel", "nameOf", "(IJ)I"⟩, 12, prog_14_method_44_code, 5, (some .int), 2, false),
  (⟨"OwnerHeapModel", "judgeRing", "(I)V"⟩, 12, prog_14_method_55_code, 4, none, 1, false),
  (⟨"OwnerHeapModel", "judgeIns", "(I)V"⟩, 12, prog_14_method_56_code, 3, none, 1, false),
  (⟨"OwnerHeapModel", "knows", "(I)V"⟩, 12, prog_14_method_57_code, 6, none, 1, false),
  (⟨"OwnerHeapModel", "judgeMembers", "(I)V"⟩, 12, prog_14_method_58_code, 5, none, 1, false),
  (⟨"OwnerHeapModel", "judgeNested", "(II)V"⟩, 12, prog_14_method_49_code, 6, none, 2, false),
  (⟨"OwnerHeapModel", "isKnown", "(III)Z"⟩, 12, prog_14_method_47_code, 4, (some .boolean), 3, false),
  (⟨"OwnerHeapModel", "row", "(I)I"⟩, 12, prog_14_method_46_code, 1, (some .int), 1, true),
  (⟨"OwnerHeapModel", "judgeKind", "(II)V"⟩, 12, prog_14_method_50_code, 3, none, 2, false),
  (⟨"OwnerHeapModel", "judgeOver", "(I)V"⟩, 12, prog_14_method_63_code, 4, none, 1, false),
  (⟨"OwnerHeapModel", "own", "(I)V"⟩, 12, prog_14_method_59_code, 3, none, 1, false),
  (⟨"OwnerHeapModel", "findMember", "(JIZ)I"⟩, 12, prog_14_method_62_code, 9, (some .int), 3, false),
  (⟨"OwnerHeapModel", "rise", "()V"⟩, 12, prog_14_method_60_code, 3, none, 0, false),
  (⟨"OwnerHeapModel", "under", "(I)I"⟩, 12, prog_14_method_61_code, 2, (some .int), 1, false),
  (⟨"OwnerHeapModel", "isLike", "(II)Z"⟩, 12, prog_14_method_64_code, 5, (some .boolean), 2, false),
  (⟨"OwnerHeapModel", "isLikeType", "(II)Z"⟩, 12, prog_14_method_65_code, 5, (some .boolean), 2, false),
  (⟨"OwnerHeapModel", "places", "(I)V"⟩, 12, prog_14_method_66_code, 8, none, 1, false),
  (⟨"OwnerHeapModel", "judgeBody", "(I)V"⟩, 12, prog_14_method_72_code, 3, none, 1, false),
  (⟨"OwnerHeapModel", "judge", "(I)V"⟩, 12, prog_14_method_74_code, 3, none, 1, false),
  (⟨"OwnerHeapModel", "type", "(I)V"⟩, 12, prog_14_method_67_code, 2, none, 1, false),
  (⟨"OwnerHeapModel", "known", "(J)I"⟩, 12, prog_14_method_73_code, 4, (some .int), 1, false),
  (⟨"OwnerHeapModel", "typeOf", "(I)V"⟩, 12, prog_14_method_68_code, 3, none, 1, false),
  (⟨"OwnerHeapModel", "judgeTwo", "(I)V"⟩, 12, prog_14_method_75_code, 5, none, 1, false),
  (⟨"OwnerHeapModel", "judgePart", "(I)V"⟩, 12, prog_14_method_78_code, 5, none, 1, false),
  (⟨"OwnerHeapModel", "load", "(I)V"⟩, 12, prog_14_method_70_code, 3, none, 1, false),
  (⟨"OwnerHeapModel", "isHidden", "(I)Z"⟩, 12, prog_14_method_77_code, 4, (some .boolean), 1, false),
  (⟨"OwnerHeapModel", "hasThis", "(I)Z"⟩, 12, prog_14_method_76_code, 4, (some .boolean), 1, false),
  (⟨"OwnerHeapModel", "typeUnder", "(I)V"⟩, 12, prog_14_method_69_code, 3, none, 1, false),
  (⟨"OwnerHeapModel", "judgeArgument", "(I)V"⟩, 12, prog_14_method_79_code, 4, none, 1, false),
  (⟨"OwnerHeapModel", "fits", "(II)Z"⟩, 12, prog_14_method_71_code, 5, (some .boolean), 2, false),
  (⟨"OwnerHeapModel", "judgeStep", "(I)V"⟩, 12, prog_14_method_80_code, 3, none, 1, false),
  (⟨"OwnerHeapModel", "fault", "(I)I"⟩, 12, prog_14_method_112_code, 2, (some .int), 1, false),
  (⟨"OwnerHeapModel", "type", "(II)I"⟩, 12, prog_14_method_114_code, 4, (some .int), 2, false),
  (⟨"OwnerHeapModel", "isClass", "(I)Z"⟩, 12, prog_14_method_113_code, 2, (some .boolean), 1, false),
  (⟨"OwnerHeapModel", "isIn", "(III)Z"⟩, 12, prog_14_method_115_code, 5, (some .boolean), 3, false),
  (⟨"OwnerHeapModel", "start", "(II)Z"⟩, 12, prog_14_method_116_code, 4, (some .boolean), 2, false),
  (⟨"OwnerHeapModel", "state", "(I)I"⟩, 12, prog_14_method_117_code, 2, (some .int), 1, false),
  (⟨"OwnerHeapModel", "said", "(I)I"⟩, 12, prog_14_method_118_code, 2, (some .int), 1, false),
  (⟨"OwnerHeapModel", "call", "(II)I"⟩, 12, prog_14_method_120_code, 4, (some .int), 2, false),
  (⟨"OwnerHeapModel", "isOpen", "(I)Z"⟩, 12, prog_14_method_119_code, 2, (some .boolean), 1, false),
  (⟨"OwnerHeapModel", "variable", "(II)I"⟩, 12, prog_14_method_121_code, 3, (some .int), 2, false),
  (⟨"OwnerHeapModel", "object", "(II)I"⟩, 12, prog_14_method_123_code, 4, (some .int), 2, false),
  (⟨"OwnerHeapModel", "insides", "(I)I"⟩, 12, prog_14_method_122_code, 4, (some .int), 1, false),
  (⟨"OwnerHeapModel", "owner", "(II)I"⟩, 12, prog_14_method_124_code, 3, (some .int), 2, false),
  (⟨"OwnerHeapModel", "field", "(II)I"⟩, 12, prog_14_method_125_code, 3, (some .int), 2, false),
  (⟨"OwnerHeapModel", "isInside", "(II)Z"⟩, 12, prog_14_method_126_code, 4, (some .boolean), 2, false)]
def mjMs_13 : List mjI := []
def mjMs_14 : List mjI := [(⟨"java/lang/Character", "isValidCodePoint", "(I)Z"⟩, 14, prog_15_method_11_code, 2, (some .boolean), 1, true),
  (⟨"java/lang/Character", "highSurrogate", "(I)C"⟩, 14, prog_15_method_28_code, 1, (some .char), 1, true),
  (⟨"java/lang/Character", "lowSurrogate", "(I)C"⟩, 14, prog_15_method_29_code, 1, (some .char), 1, true)]
def mjMs_15 : List mjI := [(⟨"java/lang/Math", "max", "(II)I"⟩, 15, prog_16_method_65_code, 2, (some .int), 2, true),
  (⟨"java/lang/Math", "min", "(II)I"⟩, 15, prog_16_method_69_code, 2, (some .int), 2, true)]
def mjMs_16 : List mjI := []
def mjMs_17 : List mjI := [(⟨"java/lang/String", "length", "()I"⟩, 17, prog_17_method_54_code, 1, (some .int), 0, false),
  (⟨"java/lang/String", "coder", "()B"⟩, 17, prog_17_method_152_code, 1, (some .byte), 0, false),
  (⟨"java/lang/String", "charAt", "(I)C"⟩, 17, prog_17_method_56_code, 2, (some .char), 1, false),
  (⟨"java/lang/String", "isLatin1", "()Z"⟩, 17, prog_17_method_154_code, 1, (some .boolean), 0, false),
  (⟨"java/lang/String", "checkIndex", "(II)V"⟩, 17, prog_17_method_155_code, 2, none, 2, true),
  (⟨"java/lang/String", "indexOf", "(I)I"⟩, 17, prog_17_method_79_code, 2, (some .int), 1, false),
  (⟨"java/lang/String", "indexOf", "(II)I"⟩, 17, prog_17_method_80_code, 3, (some .int), 2, false),
  (⟨"java/lang/String", "checkBoundsBeginEnd", "(III)V"⟩, 17, prog_17_method_158_code, 3, none, 3, true)]
def mjMs_18 : List mjI := [(⟨"java/lang/StringLatin1", "charAt", "([BI)C"⟩, 18, prog_18_method_2_code, 2, (some .char), 2, true),
  (⟨"java/lang/StringLatin1", "indexOf", "([BIII)I"⟩, 18, prog_18_method_22_code, 4, (some .int), 4, true),
  (⟨"java/lang/StringLatin1", "canEncode", "(I)Z"⟩, 18, prog_18_method_4_code, 1, (some .boolean), 1, true),
  (⟨"java/lang/StringLatin1", "indexOfChar", "([BIII)I"⟩, 18, prog_18_method_23_code, 6, (some .int), 4, true)]
def mjMs_19 : List mjI := [(⟨"java/lang/StringUTF16", "charAt", "([BI)C"⟩, 19, prog_19_method_83_code, 2, (some .char), 2, true),
  (⟨"java/lang/StringUTF16", "checkIndex", "(I[B)V"⟩, 19, prog_19_method_91_code, 2, none, 2, true),
  (⟨"java/lang/StringUTF16", "length", "([B)I"⟩, 19, prog_19_method_6_code, 1, (some .int), 1, true),
  (⟨"java/lang/StringUTF16", "getChar", "([BI)C"⟩, 19, prog_19_method_5_code, 2, (some .char), 2, true),
  (⟨"java/lang/StringUTF16", "indexOf", "([BIII)I"⟩, 19, prog_19_method_40_code, 4, (some .int), 4, true),
  (⟨"java/lang/StringUTF16", "indexOfChar", "([BIII)I"⟩, 19, prog_19_method_47_code, 4, (some .int), 4, true),
  (⟨"java/lang/StringUTF16", "checkBoundsBeginEnd", "(II[B)V"⟩, 19, prog_19_method_93_code, 3, none, 3, true),
  (⟨"java/lang/StringUTF16", "indexOfCharUnsafe", "([BIII)I"⟩, 19, prog_19_method_48_code, 5, (some .int), 4, true),
  (⟨"java/lang/StringUTF16", "indexOfSupplementary", "([BIII)I"⟩, 19, prog_19_method_49_code, 7, (some .int), 4, true)]
def mjMs_20 : List mjI := [(⟨"java/util/Arrays", "fill", "([II)V"⟩, 20, prog_21_method_103_code, 4, none, 2, true),
  (⟨"java/util/Arrays", "fill", "([JJ)V"⟩, 20, prog_21_method_101_code, 5, none, 2, true),
  (⟨"java/util/Arrays", "fill", "([IIII)V"⟩, 20, prog_21_method_104_code, 5, none, 4, true),
  (⟨"java/util/Arrays", "rangeCheck", "(III)V"⟩, 20, prog_21_method_30_code, 3, none, 3, true)]
def mjMs_21 : List mjI := [(⟨"jdk/internal/util/Preconditions", "checkIndex", "(IILjava/util/function/BiFunction;)I"⟩, 21, prog_22_method_11_code, 3, (some .int), 3, true),
  (⟨"jdk/internal/util/Preconditions", "checkFromToIndex", "(IIILjava/util/function/BiFunction;)I"⟩, 21, prog_22_method_12_code, 4, (some .int), 4, true)]
def mjMc_0 : List mjI := [(⟨"OwnerHeap$Code", "<init>", "()V"⟩, 0, prog_2_method_1_code, 1, none, 0, false),
  (⟨"OwnerHeap$Code", "emit", "(III)I"⟩, 0, prog_2_method_2_code, 5, (some .int), 3, false),
  (⟨"OwnerHeap$Code", "aimHere", "(I)V"⟩, 0, prog_2_method_3_code, 2, none, 1, false),
  (⟨"OwnerHeap$Coder", "<init>", "(LOwnerHeap$Tokens;LOwnerHeap$Reader;LOwnerHeap$Judge;LOwnerHeap$Program;)V"⟩, 1, prog_3_method_1_code, 5, none, 4, false),
  (⟨"OwnerHeap$Coder", "codeAll", "(LOwnerHeap$Program;)V"⟩, 1, prog_3_method_2_code, 3, none, 1, false),
  (⟨"OwnerHeap$Coder", "knowParams", "(I)V"⟩, 1, prog_3_method_3_code, 5, none, 1, false),
  (⟨"OwnerHeap$Coder", "know", "(JI)V"⟩, 1, prog_3_method_4_code, 4, none, 2, false),
  (⟨"OwnerHeap$Coder", "codeBlock", "()V"⟩, 1, prog_3_method_6_code, 3, none, 0, false),
  (⟨"OwnerHeap$Coder", "codeStatement", "()V"⟩, 1, prog_3_method_7_code, 5, none, 0, false),
  (⟨"OwnerHeap$Coder", "codeIf", "()V"⟩, 1, prog_3_method_14_code, 3, none, 0, false),
  (⟨"OwnerHeap$Coder", "codeCondition", "()I"⟩, 1, prog_3_method_16_code, 2, (some .int), 0, false),
  (⟨"OwnerHeap$Coder", "codeValue", "()I"⟩, 1, prog_3_method_20_code, 4, (some .int), 0, false),
  (⟨"OwnerHeap$Coder", "codeSum", "()I"⟩, 1, prog_3_method_22_code, 4, (some .int), 0, false),
  (⟨"OwnerHeap$Coder", "codeProduct", "()I"⟩, 1, prog_3_method_23_code, 4, (some .int), 0, false),
  (⟨"OwnerHeap$Coder", "codeUnit", "()I"⟩, 1, prog_3_method_26_code, 2, (some .int), 0, false),
  (⟨"OwnerHeap$Coder", "codePost", "()I"⟩, 1, prog_3_method_27_code, 6, (some .int), 0, false)]
def mjMc_1 : List mjI := [(⟨"OwnerHeap$Coder", "codeAtom", "()I"⟩, 1, prog_3_method_28_code, 5, (some .int), 0, false),
  (⟨"OwnerHeap$Coder", "knownHere", "()I"⟩, 1, prog_3_method_17_code, 2, (some .int), 0, false),
  (⟨"OwnerHeap$Coder", "knownNamed", "(J)I"⟩, 1, prog_3_method_5_code, 4, (some .int), 1, false),
  (⟨"OwnerHeap$Coder", "numberOfKnown", "(I)I"⟩, 1, prog_3_method_19_code, 2, (some .int), 1, false),
  (⟨"OwnerHeap$Coder", "typeOfKnown", "(I)I"⟩, 1, prog_3_method_18_code, 2, (some .int), 1, false),
  (⟨"OwnerHeap$Coder", "codeThis", "()I"⟩, 1, prog_3_method_29_code, 1, (some .int), 0, false),
  (⟨"OwnerHeap$Coder", "codeMember", "(IZ)I"⟩, 1, prog_3_method_30_code, 8, (some .int), 2, false),
  (⟨"OwnerHeap$Coder", "codeCall", "(III)V"⟩, 1, prog_3_method_32_code, 7, none, 3, false),
  (⟨"OwnerHeap$Coder", "codeField", "(II)V"⟩, 1, prog_3_method_31_code, 4, none, 2, false),
  (⟨"OwnerHeap$Coder", "aimAt", "(III)V"⟩, 1, prog_3_method_11_code, 4, none, 3, false),
  (⟨"OwnerHeap$Coder", "refuseIfInt", "(II)V"⟩, 1, prog_3_method_12_code, 3, none, 2, false),
  (⟨"OwnerHeap$Coder", "askNumber", "(II)V"⟩, 1, prog_3_method_13_code, 3, none, 2, false),
  (⟨"OwnerHeap$Coder", "askNumbers", "(III)V"⟩, 1, prog_3_method_21_code, 4, none, 3, false),
  (⟨"OwnerHeap$Coder", "codeOperator", "(I)I"⟩, 1, prog_3_method_24_code, 2, (some .int), 1, false),
  (⟨"OwnerHeap$Coder", "operatorOf", "(I)I"⟩, 1, prog_3_method_25_code, 1, (some .int), 1, true),
  (⟨"OwnerHeap$Coder", "codeWhile", "()V"⟩, 1, prog_3_method_15_code, 3, none, 0, false)]
def mjMc_2 : List mjI := [(⟨"OwnerHeap$Coder", "codeFitting", "(I)V"⟩, 1, prog_3_method_9_code, 3, none, 1, false),
  (⟨"OwnerHeap$Coder", "newNameHere", "()J"⟩, 1, prog_3_method_8_code, 3, (some .long), 0, false),
  (⟨"OwnerHeap$Coder", "codeLeft", "()I"⟩, 1, prog_3_method_10_code, 2, (some .int), 0, false),
  (⟨"OwnerHeap$Frames", "<init>", "()V"⟩, 2, prog_4_method_1_code, 1, none, 0, false),
  (⟨"OwnerHeap$Frames", "close", "()V"⟩, 2, prog_4_method_2_code, 1, none, 0, false),
  (⟨"OwnerHeap$Frames", "add", "(III)V"⟩, 2, prog_4_method_3_code, 5, none, 3, false),
  (⟨"OwnerHeap$Frames", "top", "()I"⟩, 2, prog_4_method_5_code, 1, (some .int), 0, false),
  (⟨"OwnerHeap$Frames", "variableAt", "(II)I"⟩, 2, prog_4_method_4_code, 3, (some .int), 2, false),
  (⟨"OwnerHeap$Frames", "setVariable", "(II)V"⟩, 2, prog_4_method_6_code, 3, none, 2, false),
  (⟨"OwnerHeap$Heap", "<init>", "()V"⟩, 3, prog_5_method_1_code, 1, none, 0, false),
  (⟨"OwnerHeap$Heap", "empty", "(I)V"⟩, 3, prog_5_method_2_code, 2, none, 1, false),
  (⟨"OwnerHeap$Heap", "has", "(I)Z"⟩, 3, prog_5_method_4_code, 2, (some .boolean), 1, false),
  (⟨"OwnerHeap$Heap", "setField", "(III)V"⟩, 3, prog_5_method_10_code, 5, none, 3, false),
  (⟨"OwnerHeap$Heap", "fieldAt", "(II)I"⟩, 3, prog_5_method_9_code, 4, (some .int), 2, false),
  (⟨"OwnerHeap$Heap", "classOf", "(I)I"⟩, 3, prog_5_method_5_code, 2, (some .int), 1, false),
  (⟨"OwnerHeap$Heap", "make", "(III)I"⟩, 3, prog_5_method_3_code, 5, (some .int), 3, false)]
def mjMc_3 : List mjI := [(⟨"OwnerHeap$Heap", "ownersOf", "(I)I"⟩, 3, prog_5_method_6_code, 2, (some .int), 1, false),
  (⟨"OwnerHeap$Heap", "ownerAt", "(II)I"⟩, 3, prog_5_method_7_code, 3, (some .int), 2, false),
  (⟨"OwnerHeap$Heap", "setOwner", "(III)V"⟩, 3, prog_5_method_8_code, 4, none, 3, false),
  (⟨"OwnerHeap$Heap", "depthOf", "(I)I"⟩, 3, prog_5_method_11_code, 4, (some .int), 1, false),
  (⟨"OwnerHeap$Heap", "liesInside", "(II)Z"⟩, 3, prog_5_method_12_code, 5, (some .boolean), 2, false),
  (⟨"OwnerHeap$Judge", "<init>", "(LOwnerHeap$Tokens;LOwnerHeap$Reader;LOwnerHeap$Program;)V"⟩, 4, prog_6_method_1_code, 4, none, 3, false),
  (⟨"OwnerHeap$Judge", "judgeHeads", "(LOwnerHeap$Program;Z)V"⟩, 4, prog_6_method_2_code, 3, none, 2, false),
  (⟨"OwnerHeap$Judge", "judgeNames", "()V"⟩, 4, prog_6_method_3_code, 3, none, 0, false),
  (⟨"OwnerHeap$Judge", "classNamed", "(J)I"⟩, 4, prog_6_method_5_code, 4, (some .int), 1, false),
  (⟨"OwnerHeap$Judge", "judgeNamesOf", "(II)V"⟩, 4, prog_6_method_4_code, 5, none, 2, false),
  (⟨"OwnerHeap$Judge", "nameNumber", "(IJ)I"⟩, 4, prog_6_method_6_code, 5, (some .int), 2, false),
  (⟨"OwnerHeap$Judge", "judgeAboves", "()V"⟩, 4, prog_6_method_7_code, 4, none, 0, false),
  (⟨"OwnerHeap$Judge", "kindHere", "(IZ)I"⟩, 4, prog_6_method_17_code, 9, (some .int), 2, false),
  (⟨"OwnerHeap$Judge", "ownersAt", "(I)I"⟩, 4, prog_6_method_18_code, 3, (some .int), 1, false),
  (⟨"OwnerHeap$Judge", "ownerHere", "(IIZ)I"⟩, 4, prog_6_method_19_code, 4, (some .int), 3, false),
  (⟨"OwnerHeap$Judge", "judgeCircles", "()V"⟩, 4, prog_6_method_8_code, 4, none, 0, false)]
def mjMc_4 : List mjI := [(⟨"OwnerHeap$Judge", "judgeIns", "()V"⟩, 4, prog_6_method_9_code, 6, none, 0, false),
  (⟨"OwnerHeap$Judge", "nameInIn", "(II)I"⟩, 4, prog_6_method_10_code, 4, (some .int), 2, false),
  (⟨"OwnerHeap$Judge", "judgeMembers", "()V"⟩, 4, prog_6_method_11_code, 5, none, 0, false),
  (⟨"OwnerHeap$Judge", "judgeMember", "(II)V"⟩, 4, prog_6_method_12_code, 5, none, 2, false),
  (⟨"OwnerHeap$Judge", "typeHere", "(I)I"⟩, 4, prog_6_method_16_code, 2, (some .int), 1, false),
  (⟨"OwnerHeap$Judge", "judgeParamName", "(I)V"⟩, 4, prog_6_method_13_code, 5, none, 1, false),
  (⟨"OwnerHeap$Judge", "judgeOvers", "()V"⟩, 4, prog_6_method_14_code, 6, none, 0, false),
  (⟨"OwnerHeap$Judge", "isSame", "(II)Z"⟩, 4, prog_6_method_15_code, 6, (some .boolean), 2, false),
  (⟨"OwnerHeap$Machine", "<init>", "(LOwnerHeap$Heap;LOwnerHeap$Program;)V"⟩, 5, prog_7_method_1_code, 3, none, 2, false),
  (⟨"OwnerHeap$Machine", "drop", "()V"⟩, 5, prog_7_method_2_code, 1, none, 0, false),
  (⟨"OwnerHeap$Machine", "begin", "(LOwnerHeap$Program;II)V"⟩, 5, prog_7_method_3_code, 4, none, 3, false),
  (⟨"OwnerHeap$Machine", "goOn", "(I)V"⟩, 5, prog_7_method_4_code, 4, none, 1, false),
  (⟨"OwnerHeap$Machine", "coast", "()V"⟩, 5, prog_7_method_5_code, 3, none, 0, false),
  (⟨"OwnerHeap$Machine", "isAtOnce", "()Z"⟩, 5, prog_7_method_6_code, 1, (some .boolean), 0, false),
  (⟨"OwnerHeap$Machine", "workAtOnce", "(III)V"⟩, 5, prog_7_method_7_code, 4, none, 3, false),
  (⟨"OwnerHeap$Machine", "push", "(I)V"⟩, 5, prog_7_method_11_code, 2, none, 1, false)]
def mjMc_5 : List mjI := [(⟨"OwnerHeap$Machine", "pop", "()I"⟩, 5, prog_7_method_12_code, 1, (some .int), 0, false),
  (⟨"OwnerHeap$Machine", "putField", "(II)V"⟩, 5, prog_7_method_18_code, 5, none, 2, false),
  (⟨"OwnerHeap$Machine", "fail", "(II)V"⟩, 5, prog_7_method_14_code, 3, none, 2, false),
  (⟨"OwnerHeap$Machine", "sayNumber", "(I)V"⟩, 5, prog_7_method_15_code, 2, none, 1, false),
  (⟨"OwnerHeap$Machine", "giveBack", "(I)V"⟩, 5, prog_7_method_16_code, 3, none, 1, false),
  (⟨"OwnerHeap$Machine", "workOperator", "(II)V"⟩, 5, prog_7_method_9_code, 5, none, 2, false),
  (⟨"OwnerHeap$Machine", "divide", "(IIII)V"⟩, 5, prog_7_method_10_code, 5, none, 4, false),
  (⟨"OwnerHeap$Machine", "workStep", "(III)V"⟩, 5, prog_7_method_8_code, 4, none, 3, false),
  (⟨"OwnerHeap$Machine", "getField", "(II)V"⟩, 5, prog_7_method_17_code, 4, none, 2, false),
  (⟨"OwnerHeap$Machine", "callMethod", "(II)V"⟩, 5, prog_7_method_19_code, 7, none, 2, false),
  (⟨"OwnerHeap$Machine", "peek", "(I)I"⟩, 5, prog_7_method_13_code, 3, (some .int), 1, false),
  (⟨"OwnerHeap$Machine", "makeObject", "(II)V"⟩, 5, prog_7_method_20_code, 7, none, 2, false),
  (⟨"OwnerHeap$Machine", "ownerHere", "(I)I"⟩, 5, prog_7_method_21_code, 5, (some .int), 1, false),
  (⟨"OwnerHeap$Machine", "ownerSeen", "(III)I"⟩, 5, prog_7_method_22_code, 5, (some .int), 3, false),
  (⟨"OwnerHeap$Machine", "isAs", "(II)Z"⟩, 5, prog_7_method_23_code, 7, (some .boolean), 2, false),
  (⟨"OwnerHeap$Members", "<init>", "()V"⟩, 6, prog_8_method_1_code, 1, none, 0, false)]
def mjMc_6 : List mjI := [(⟨"OwnerHeap$Members", "clear", "()V"⟩, 6, prog_8_method_2_code, 2, none, 0, false),
  (⟨"OwnerHeap$Members", "setParamType", "(III)V"⟩, 6, prog_8_method_4_code, 4, none, 3, false),
  (⟨"OwnerHeap$Members", "paramType", "(II)I"⟩, 6, prog_8_method_3_code, 3, (some .int), 2, false),
  (⟨"OwnerHeap$Members", "hasThis", "(I)Z"⟩, 6, prog_8_method_5_code, 4, (some .boolean), 1, false),
  (⟨"OwnerHeap$Program", "<init>", "()V"⟩, 7, prog_9_method_1_code, 1, none, 0, false),
  (⟨"OwnerHeap$Program", "clear", "()V"⟩, 7, prog_9_method_2_code, 1, none, 0, false),
  (⟨"OwnerHeap$Program", "bareKind", "(I)I"⟩, 7, prog_9_method_5_code, 1, (some .int), 1, true),
  (⟨"OwnerHeap$Program", "withOwner", "(III)I"⟩, 7, prog_9_method_6_code, 3, (some .int), 3, true),
  (⟨"OwnerHeap$Program", "isNested", "(II)Z"⟩, 7, prog_9_method_22_code, 8, (some .boolean), 2, false),
  (⟨"OwnerHeap$Program", "classOf", "(I)I"⟩, 7, prog_9_method_3_code, 1, (some .int), 1, true),
  (⟨"OwnerHeap$Program", "ownerIn", "(II)I"⟩, 7, prog_9_method_4_code, 2, (some .int), 2, true),
  (⟨"OwnerHeap$Program", "isKnown", "(III)Z"⟩, 7, prog_9_method_21_code, 4, (some .boolean), 3, false),
  (⟨"OwnerHeap$Program", "classAbove", "(I)I"⟩, 7, prog_9_method_10_code, 2, (some .int), 1, false),
  (⟨"OwnerHeap$Program", "setIn", "(IIII)V"⟩, 7, prog_9_method_18_code, 5, none, 4, false),
  (⟨"OwnerHeap$Program", "fillViews", "()V"⟩, 7, prog_9_method_12_code, 5, none, 0, false),
  (⟨"OwnerHeap$Program", "ownKind", "(I)I"⟩, 7, prog_9_method_8_code, 4, (some .int), 1, false)]
def mjMc_7 : List mjI := [(⟨"OwnerHeap$Program", "standing", "(II)I"⟩, 7, prog_9_method_9_code, 7, (some .int), 2, false),
  (⟨"OwnerHeap$Program", "fillFields", "()V"⟩, 7, prog_9_method_13_code, 3, none, 0, false),
  (⟨"OwnerHeap$Program", "viewOf", "(II)I"⟩, 7, prog_9_method_11_code, 3, (some .int), 2, false),
  (⟨"OwnerHeap$Program", "fillKnown", "()V"⟩, 7, prog_9_method_16_code, 2, none, 0, false),
  (⟨"OwnerHeap$Program", "fillToldKnown", "(I)V"⟩, 7, prog_9_method_17_code, 4, none, 1, false),
  (⟨"OwnerHeap$Program", "know", "(III)V"⟩, 7, prog_9_method_19_code, 4, none, 3, false),
  (⟨"OwnerHeap$Program", "closeKnown", "(I)V"⟩, 7, prog_9_method_20_code, 4, none, 1, false),
  (⟨"OwnerHeap$Program", "ownMemberNamed", "(IJ)I"⟩, 7, prog_9_method_25_code, 6, (some .int), 2, false),
  (⟨"OwnerHeap$Program", "fillObjectFields", "()V"⟩, 7, prog_9_method_14_code, 4, none, 0, false),
  (⟨"OwnerHeap$Program", "memberNamed", "(IJZ)I"⟩, 7, prog_9_method_24_code, 8, (some .int), 3, false),
  (⟨"OwnerHeap$Program", "hasThis", "(I)Z"⟩, 7, prog_9_method_7_code, 3, (some .boolean), 1, true),
  (⟨"OwnerHeap$Program", "fits", "(II)Z"⟩, 7, prog_9_method_23_code, 4, (some .boolean), 2, false),
  (⟨"OwnerHeap$Program", "holdsObject", "(II)Z"⟩, 7, prog_9_method_15_code, 3, (some .boolean), 2, false),
  (⟨"OwnerHeap$Reader", "<init>", "(LOwnerHeap$Tokens;LOwnerHeap$Program;)V"⟩, 8, prog_10_method_1_code, 3, none, 2, false),
  (⟨"OwnerHeap$Reader", "readText", "(LOwnerHeap$Program;)V"⟩, 8, prog_10_method_2_code, 4, none, 1, false),
  (⟨"OwnerHeap$Reader", "readHead", "(I)V"⟩, 8, prog_10_method_5_code, 2, none, 1, false)]
def mjMc_8 : List mjI := [(⟨"OwnerHeap$Reader", "readNames", "(I)V"⟩, 8, prog_10_method_6_code, 3, none, 1, false),
  (⟨"OwnerHeap$Reader", "readName", "(I)V"⟩, 8, prog_10_method_7_code, 2, none, 1, false),
  (⟨"OwnerHeap$Reader", "readType", "(Z)V"⟩, 8, prog_10_method_13_code, 3, none, 1, false),
  (⟨"OwnerHeap$Reader", "readOwner", "(I)V"⟩, 8, prog_10_method_14_code, 2, none, 1, false),
  (⟨"OwnerHeap$Reader", "readIns", "(I)V"⟩, 8, prog_10_method_8_code, 3, none, 1, false),
  (⟨"OwnerHeap$Reader", "readIn", "(I)V"⟩, 8, prog_10_method_9_code, 2, none, 1, false),
  (⟨"OwnerHeap$Reader", "open", "(I)V"⟩, 8, prog_10_method_3_code, 2, none, 1, false),
  (⟨"OwnerHeap$Reader", "startsType", "()Z"⟩, 8, prog_10_method_12_code, 1, (some .boolean), 0, false),
  (⟨"OwnerHeap$Reader", "readMember", "(II)V"⟩, 8, prog_10_method_10_code, 4, none, 2, false),
  (⟨"OwnerHeap$Reader", "readParams", "(I)V"⟩, 8, prog_10_method_11_code, 4, none, 1, false),
  (⟨"OwnerHeap$Reader", "close", "(I)V"⟩, 8, prog_10_method_4_code, 2, none, 1, false),
  (⟨"OwnerHeap$Reader", "readBlock", "()V"⟩, 8, prog_10_method_15_code, 2, none, 0, false),
  (⟨"OwnerHeap$Reader", "readStatement", "()V"⟩, 8, prog_10_method_16_code, 1, none, 0, false),
  (⟨"OwnerHeap$Reader", "readGuarded", "()V"⟩, 8, prog_10_method_17_code, 1, none, 0, false),
  (⟨"OwnerHeap$Reader", "readValue", "()I"⟩, 8, prog_10_method_20_code, 2, (some .int), 0, false),
  (⟨"OwnerHeap$Reader", "readSum", "()I"⟩, 8, prog_10_method_21_code, 3, (some .int), 0, false)]
def mjMc_9 : List mjI := [(⟨"OwnerHeap$Reader", "readProduct", "()I"⟩, 8, prog_10_method_22_code, 3, (some .int), 0, false),
  (⟨"OwnerHeap$Reader", "readUnit", "()I"⟩, 8, prog_10_method_23_code, 1, (some .int), 0, false),
  (⟨"OwnerHeap$Reader", "readPost", "()I"⟩, 8, prog_10_method_24_code, 3, (some .int), 0, false),
  (⟨"OwnerHeap$Reader", "readAtom", "()I"⟩, 8, prog_10_method_27_code, 1, (some .int), 0, false),
  (⟨"OwnerHeap$Reader", "readArguments", "()I"⟩, 8, prog_10_method_25_code, 5, (some .int), 0, false),
  (⟨"OwnerHeap$Reader", "startsValue", "()Z"⟩, 8, prog_10_method_26_code, 1, (some .boolean), 0, false),
  (⟨"OwnerHeap$Reader", "readVariable", "()V"⟩, 8, prog_10_method_18_code, 1, none, 0, false),
  (⟨"OwnerHeap$Reader", "readSetSign", "(I)Z"⟩, 8, prog_10_method_19_code, 4, (some .boolean), 1, false),
  (⟨"OwnerHeap$Tokens", "<init>", "()V"⟩, 9, prog_11_method_1_code, 3, none, 0, false),
  (⟨"OwnerHeap$Tokens", "spelled", "(JI)J"⟩, 9, prog_11_method_2_code, 4, (some .long), 2, true),
  (⟨"OwnerHeap$Tokens", "cut", "([BI)V"⟩, 9, prog_11_method_3_code, 5, none, 2, false),
  (⟨"OwnerHeap$Tokens", "behindBlanks", "([BII)I"⟩, 9, prog_11_method_5_code, 6, (some .int), 3, true),
  (⟨"OwnerHeap$Tokens", "cutOne", "([BII)I"⟩, 9, prog_11_method_6_code, 6, (some .int), 3, false),
  (⟨"OwnerHeap$Tokens", "isLetter", "(I)Z"⟩, 9, prog_11_method_11_code, 1, (some .boolean), 1, true),
  (⟨"OwnerHeap$Tokens", "cutName", "([BII)I"⟩, 9, prog_11_method_7_code, 7, (some .int), 3, false),
  (⟨"OwnerHeap$Tokens", "isDigit", "(I)Z"⟩, 9, prog_11_method_12_code, 1, (some .boolean), 1, true)]
def mjMc_10 : List mjI := [(⟨"OwnerHeap$Tokens", "wordOrName", "(J)I"⟩, 9, prog_11_method_8_code, 4, (some .int), 1, false),
  (⟨"OwnerHeap$Tokens", "put", "(IIJ)V"⟩, 9, prog_11_method_4_code, 5, none, 3, false),
  (⟨"OwnerHeap$Tokens", "cutNumber", "([BII)I"⟩, 9, prog_11_method_9_code, 7, (some .int), 3, false),
  (⟨"OwnerHeap$Tokens", "cutSign", "([BII)I"⟩, 9, prog_11_method_10_code, 6, (some .int), 3, false),
  (⟨"OwnerHeap$Tokens", "is", "(I)Z"⟩, 9, prog_11_method_15_code, 2, (some .boolean), 1, false),
  (⟨"OwnerHeap$Tokens", "refuse", "(I)V"⟩, 9, prog_11_method_29_code, 2, none, 1, false),
  (⟨"OwnerHeap$Tokens", "skip", "()V"⟩, 9, prog_11_method_22_code, 1, none, 0, false),
  (⟨"OwnerHeap$Tokens", "now", "()I"⟩, 9, prog_11_method_14_code, 1, (some .int), 0, false),
  (⟨"OwnerHeap$Tokens", "placeAt", "(I)I"⟩, 9, prog_11_method_19_code, 2, (some .int), 1, false),
  (⟨"OwnerHeap$Tokens", "need", "(I)V"⟩, 9, prog_11_method_24_code, 2, none, 1, false),
  (⟨"OwnerHeap$Tokens", "keyAt", "(I)J"⟩, 9, prog_11_method_18_code, 2, (some .long), 1, false),
  (⟨"OwnerHeap$Tokens", "size", "()I"⟩, 9, prog_11_method_13_code, 1, (some .int), 0, false),
  (⟨"OwnerHeap$Tokens", "isFine", "()Z"⟩, 9, prog_11_method_28_code, 1, (some .boolean), 0, false),
  (⟨"OwnerHeap$Tokens", "kindNow", "()I"⟩, 9, prog_11_method_16_code, 1, (some .int), 0, false),
  (⟨"OwnerHeap$Tokens", "setArguments", "(II)V"⟩, 9, prog_11_method_21_code, 3, none, 2, false),
  (⟨"OwnerHeap$Tokens", "isProductSign", "()Z"⟩, 9, prog_11_method_27_code, 1, (some .boolean), 0, false)]
def mjMc_11 : List mjI := [(⟨"OwnerHeap$Tokens", "isSumSign", "()Z"⟩, 9, prog_11_method_26_code, 1, (some .boolean), 0, false),
  (⟨"OwnerHeap$Tokens", "isCompareSign", "()Z"⟩, 9, prog_11_method_25_code, 1, (some .boolean), 0, false),
  (⟨"OwnerHeap$Tokens", "refuseAt", "(II)V"⟩, 9, prog_11_method_30_code, 3, none, 2, false),
  (⟨"OwnerHeap$Tokens", "goTo", "(I)V"⟩, 9, prog_11_method_23_code, 2, none, 1, false),
  (⟨"OwnerHeap$Tokens", "kindAt", "(I)I"⟩, 9, prog_11_method_17_code, 2, (some .int), 1, false),
  (⟨"OwnerHeap$Tokens", "argumentsAt", "(I)I"⟩, 9, prog_11_method_20_code, 2, (some .int), 1, false),
  (⟨"OwnerHeap$Walker", "<init>", "(LOwnerHeap$Heap;LOwnerHeap$Program;)V"⟩, 10, prog_12_method_1_code, 4, none, 2, false),
  (⟨"OwnerHeap$Walker", "forget", "()V"⟩, 10, prog_12_method_3_code, 1, none, 0, false),
  (⟨"OwnerHeap$Walker", "look", "(LOwnerHeap$Program;)V"⟩, 10, prog_12_method_2_code, 2, none, 1, false),
  (⟨"OwnerHeap$Walker", "hopsBetween", "(II)I"⟩, 10, prog_12_method_10_code, 3, (some .int), 2, false),
  (⟨"OwnerHeap$Walker", "spread", "(II)V"⟩, 10, prog_12_method_4_code, 4, none, 2, false),
  (⟨"OwnerHeap$Walker", "comeTo", "(II)V"⟩, 10, prog_12_method_6_code, 3, none, 2, false),
  (⟨"OwnerHeap$Walker", "spreadFrom", "(II)V"⟩, 10, prog_12_method_5_code, 6, none, 2, false),
  (⟨"OwnerHeap$Walker", "fieldsOf", "(I)I"⟩, 10, prog_12_method_7_code, 2, (some .int), 1, false),
  (⟨"OwnerHeap$Walker", "hop", "(II)I"⟩, 10, prog_12_method_8_code, 3, (some .int), 2, false),
  (⟨"OwnerHeap$Walker", "hopsTo", "(I)I"⟩, 10, prog_12_method_9_code, 4, (some .int), 1, false)]
def mjMc_12 : List mjI := [(⟨"OwnerHeap$Walker", "nearestAbove", "(I)I"⟩, 10, prog_12_method_11_code, 2, (some .int), 1, false),
  (⟨"OwnerHeap$Walker", "learn", "()V"⟩, 10, prog_12_method_14_code, 2, none, 0, false),
  (⟨"OwnerHeap$Walker", "findNearest", "()V"⟩, 10, prog_12_method_15_code, 4, none, 0, false),
  (⟨"OwnerHeap$Walker", "narrowFrom", "(I)Z"⟩, 10, prog_12_method_16_code, 7, (some .boolean), 1, false),
  (⟨"OwnerHeap$Walker", "aboveBoth", "(II)I"⟩, 10, prog_12_method_17_code, 6, (some .int), 2, false),
  (⟨"OwnerHeap$Walker", "isLeak", "(I)Z"⟩, 10, prog_12_method_18_code, 5, (some .boolean), 1, false),
  (⟨"OwnerHeap$Walker", "leakCount", "()I"⟩, 10, prog_12_method_12_code, 1, (some .int), 0, false),
  (⟨"OwnerHeap$Walker", "leakAt", "(I)I"⟩, 10, prog_12_method_13_code, 2, (some .int), 1, false),
  (⟨"OwnerHeap$Walker", "objectPast", "(II)I"⟩, 10, prog_12_method_19_code, 6, (some .int), 2, false),
  (⟨"OwnerHeap", "<init>", "()V"⟩, 11, prog_1_method_1_code, 1, none, 0, false),
  (⟨"OwnerHeap", "feed", "(IIIII)I"⟩, 11, prog_1_method_2_code, 6, (some .int), 5, false),
  (⟨"OwnerHeap", "tapeInt", "(I)V"⟩, 11, prog_1_method_3_code, 3, none, 1, false),
  (⟨"OwnerHeap", "load", "(IZ)I"⟩, 11, prog_1_method_4_code, 3, (some .int), 2, false),
  (⟨"OwnerHeap", "takeSpare", "()V"⟩, 11, prog_1_method_5_code, 2, none, 0, false),
  (⟨"OwnerHeap", "fault", "(I)I"⟩, 11, prog_1_method_6_code, 2, (some .int), 1, false),
  (⟨"OwnerHeap", "type", "(II)I"⟩, 11, prog_1_method_7_code, 3, (some .int), 2, false)]
def mjMc_13 : List mjI := [(⟨"OwnerHeap", "isIn", "(III)Z"⟩, 11, prog_1_method_8_code, 6, (some .boolean), 3, false),
  (⟨"OwnerHeap", "ownerAsked", "(II)I"⟩, 11, prog_1_method_9_code, 3, (some .int), 2, false),
  (⟨"OwnerHeap", "start", "(II)Z"⟩, 11, prog_1_method_10_code, 3, (some .boolean), 2, false),
  (⟨"OwnerHeap", "run", "(I)I"⟩, 11, prog_1_method_11_code, 2, (some .int), 1, false),
  (⟨"OwnerHeap", "state", "(I)I"⟩, 11, prog_1_method_12_code, 2, (some .int), 1, false),
  (⟨"OwnerHeap", "said", "(I)I"⟩, 11, prog_1_method_13_code, 2, (some .int), 1, false),
  (⟨"OwnerHeap", "call", "(II)I"⟩, 11, prog_1_method_14_code, 5, (some .int), 2, false),
  (⟨"OwnerHeap", "variable", "(II)I"⟩, 11, prog_1_method_15_code, 5, (some .int), 2, false),
  (⟨"OwnerHeap", "object", "(II)I"⟩, 11, prog_1_method_16_code, 3, (some .int), 2, false),
  (⟨"OwnerHeap", "owner", "(II)I"⟩, 11, prog_1_method_17_code, 4, (some .int), 2, false),
  (⟨"OwnerHeap", "field", "(II)I"⟩, 11, prog_1_method_18_code, 4, (some .int), 2, false),
  (⟨"OwnerHeap", "isInside", "(II)Z"⟩, 11, prog_1_method_19_code, 3, (some .boolean), 2, false),
  (⟨"OwnerHeap", "way", "(II)I"⟩, 11, prog_1_method_20_code, 3, (some .int), 2, false),
  (⟨"OwnerHeap", "above", "(I)I"⟩, 11, prog_1_method_21_code, 2, (some .int), 1, false),
  (⟨"OwnerHeap", "leaks", "()I"⟩, 11, prog_1_method_22_code, 1, (some .int), 0, false),
  (⟨"OwnerHeap", "leak", "(I)I"⟩, 11, prog_1_method_23_code, 2, (some .int), 1, false)]
def mjMc_14 : List mjI := [(⟨"OwnerHeap", "past", "(II)I"⟩, 11, prog_1_method_24_code, 3, (some .int), 2, false),
  (⟨"OwnerHeapModel", "<init>", "()V"⟩, 12, prog_14_method_1_code, 1, none, 0, false),
  (⟨"OwnerHeapModel", "keep", "(IIIIIII)V"⟩, 12, prog_14_method_4_code, 10, none, 7, false),
  (⟨"OwnerHeapModel", "longer", "(JI)J"⟩, 12, prog_14_method_3_code, 3, (some .long), 2, true),
  (⟨"OwnerHeapModel", "code", "(I)I"⟩, 12, prog_14_method_2_code, 1, (some .int), 1, true),
  (⟨"OwnerHeapModel", "run", "(I)I"⟩, 12, prog_14_method_88_code, 5, (some .int), 1, false),
  (⟨"OwnerHeapModel", "costs", "(I)Z"⟩, 12, prog_14_method_87_code, 1, (some .boolean), 1, true),
  (⟨"OwnerHeapModel", "act", "(I)V"⟩, 12, prog_14_method_89_code, 5, none, 1, false),
  (⟨"OwnerHeapModel", "push", "(I)V"⟩, 12, prog_14_method_84_code, 2, none, 1, false),
  (⟨"OwnerHeapModel", "make", "(I)V"⟩, 12, prog_14_method_90_code, 7, none, 1, false),
  (⟨"OwnerHeapModel", "ends", "(II)V"⟩, 12, prog_14_method_86_code, 3, none, 2, false),
  (⟨"OwnerHeapModel", "ownersNow", "(I)V"⟩, 12, prog_14_method_83_code, 5, none, 1, false),
  (⟨"OwnerHeapModel", "ownersOf", "(II)V"⟩, 12, prog_14_method_81_code, 4, none, 2, false),
  (⟨"OwnerHeapModel", "riseNow", "()V"⟩, 12, prog_14_method_82_code, 3, none, 0, false),
  (⟨"OwnerHeapModel", "pop", "()I"⟩, 12, prog_14_method_85_code, 1, (some .int), 0, false),
  (⟨"OwnerHeapModel", "two", "(I)V"⟩, 12, prog_14_method_91_code, 4, none, 1, false)]
def mjMc_15 : List mjI := [(⟨"OwnerHeapModel", "call", "(I)V"⟩, 12, prog_14_method_93_code, 7, none, 1, false),
  (⟨"OwnerHeapModel", "methodOf", "(IJ)I"⟩, 12, prog_14_method_92_code, 8, (some .int), 2, false),
  (⟨"OwnerHeapModel", "higher", "(I)I"⟩, 12, prog_14_method_54_code, 2, (some .int), 1, false),
  (⟨"OwnerHeapModel", "isOf", "(II)Z"⟩, 12, prog_14_method_95_code, 5, (some .boolean), 2, false),
  (⟨"OwnerHeapModel", "returns", "(I)V"⟩, 12, prog_14_method_94_code, 2, none, 1, false),
  (⟨"OwnerHeapModel", "way", "(II)I"⟩, 12, prog_14_method_103_code, 4, (some .int), 2, false),
  (⟨"OwnerHeapModel", "isThere", "(I)Z"⟩, 12, prog_14_method_96_code, 2, (some .boolean), 1, false),
  (⟨"OwnerHeapModel", "clearWay", "()V"⟩, 12, prog_14_method_99_code, 2, none, 0, false),
  (⟨"OwnerHeapModel", "comes", "(II)V"⟩, 12, prog_14_method_98_code, 3, none, 2, false),
  (⟨"OwnerHeapModel", "goes", "(I)V"⟩, 12, prog_14_method_100_code, 7, none, 1, false),
  (⟨"OwnerHeapModel", "placeOf", "(I)I"⟩, 12, prog_14_method_102_code, 3, (some .int), 1, false),
  (⟨"OwnerHeapModel", "leaks", "()I"⟩, 12, prog_14_method_104_code, 1, (some .int), 0, false),
  (⟨"OwnerHeapModel", "looks", "()V"⟩, 12, prog_14_method_105_code, 3, none, 0, false),
  (⟨"OwnerHeapModel", "ownerAt", "(I)I"⟩, 12, prog_14_method_97_code, 2, (some .int), 1, false),
  (⟨"OwnerHeapModel", "fromRoots", "(I)V"⟩, 12, prog_14_method_101_code, 3, none, 1, false),
  (⟨"OwnerHeapModel", "leak", "(I)I"⟩, 12, prog_14_method_106_code, 4, (some .int), 1, false)]
def mjMc_16 : List mjI := [(⟨"OwnerHeapModel", "past", "(II)I"⟩, 12, prog_14_method_107_code, 4, (some .int), 2, false),
  (⟨"OwnerHeapModel", "above", "(I)I"⟩, 12, prog_14_method_108_code, 5, (some .int), 1, false),
  (⟨"OwnerHeapModel", "feed", "(IIIII)I"⟩, 12, prog_14_method_109_code, 6, (some .int), 5, false),
  (⟨"OwnerHeapModel", "lay", "(I)V"⟩, 12, prog_14_method_110_code, 3, none, 1, false),
  (⟨"OwnerHeapModel", "load", "(IZ)I"⟩, 12, prog_14_method_111_code, 3, (some .int), 2, false),
  (⟨"OwnerHeapModel", "readAll", "()V"⟩, 12, prog_14_method_18_code, 1, none, 0, false),
  (⟨"OwnerHeapModel", "next", "()V"⟩, 12, prog_14_method_6_code, 3, none, 0, false),
  (⟨"OwnerHeapModel", "look", "(I)I"⟩, 12, prog_14_method_5_code, 2, (some .int), 1, false),
  (⟨"OwnerHeapModel", "keptWord", "()V"⟩, 12, prog_14_method_7_code, 2, none, 0, false),
  (⟨"OwnerHeapModel", "sign", "(I)V"⟩, 12, prog_14_method_8_code, 3, none, 1, false),
  (⟨"OwnerHeapModel", "isWord", "(I)Z"⟩, 12, prog_14_method_10_code, 2, (some .boolean), 1, false),
  (⟨"OwnerHeapModel", "readClass", "()V"⟩, 12, prog_14_method_19_code, 3, none, 0, false),
  (⟨"OwnerHeapModel", "fail", "(II)V"⟩, 12, prog_14_method_11_code, 3, none, 2, false),
  (⟨"OwnerHeapModel", "wrong", "()V"⟩, 12, prog_14_method_12_code, 1, none, 0, false),
  (⟨"OwnerHeapModel", "take", "(I)V"⟩, 12, prog_14_method_13_code, 2, none, 1, false),
  (⟨"OwnerHeapModel", "isSign", "(I)Z"⟩, 12, prog_14_method_9_code, 2, (some .boolean), 1, false)]
def mjMc_17 : List mjI := [(⟨"OwnerHeapModel", "readKind", "()I"⟩, 12, prog_14_method_21_code, 4, (some .int), 0, false),
  (⟨"OwnerHeapModel", "readIns", "(I)V"⟩, 12, prog_14_method_20_code, 4, none, 1, false),
  (⟨"OwnerHeapModel", "opens", "(I)V"⟩, 12, prog_14_method_14_code, 2, none, 1, false),
  (⟨"OwnerHeapModel", "readMember", "(I)V"⟩, 12, prog_14_method_24_code, 5, none, 1, false),
  (⟨"OwnerHeapModel", "isType", "()Z"⟩, 12, prog_14_method_22_code, 1, (some .boolean), 0, false),
  (⟨"OwnerHeapModel", "readType", "()I"⟩, 12, prog_14_method_23_code, 1, (some .int), 0, false),
  (⟨"OwnerHeapModel", "closes", "(I)V"⟩, 12, prog_14_method_15_code, 2, none, 1, false),
  (⟨"OwnerHeapModel", "readBody", "()V"⟩, 12, prog_14_method_26_code, 1, none, 0, false),
  (⟨"OwnerHeapModel", "beginBlock", "(III)V"⟩, 12, prog_14_method_25_code, 4, none, 3, false),
  (⟨"OwnerHeapModel", "order", "(IIII)V"⟩, 12, prog_14_method_16_code, 6, none, 4, false),
  (⟨"OwnerHeapModel", "endBlock", "()V"⟩, 12, prog_14_method_28_code, 2, none, 0, false),
  (⟨"OwnerHeapModel", "toHere", "(I)V"⟩, 12, prog_14_method_27_code, 2, none, 1, false),
  (⟨"OwnerHeapModel", "readStep", "()V"⟩, 12, prog_14_method_29_code, 4, none, 0, false),
  (⟨"OwnerHeapModel", "readDeclare", "(I)V"⟩, 12, prog_14_method_30_code, 5, none, 1, false),
  (⟨"OwnerHeapModel", "orderName", "(IIJI)V"⟩, 12, prog_14_method_17_code, 6, none, 4, false),
  (⟨"OwnerHeapModel", "readE", "()V"⟩, 12, prog_14_method_34_code, 2, none, 0, false)]
def mjMc_18 : List mjI := [(⟨"OwnerHeapModel", "waits", "(IIII)V"⟩, 12, prog_14_method_32_code, 5, none, 4, false),
  (⟨"OwnerHeapModel", "readAtom", "()Z"⟩, 12, prog_14_method_35_code, 3, (some .boolean), 0, false),
  (⟨"OwnerHeapModel", "beginsE", "()Z"⟩, 12, prog_14_method_33_code, 1, (some .boolean), 0, false),
  (⟨"OwnerHeapModel", "readBehind", "()Z"⟩, 12, prog_14_method_38_code, 3, (some .boolean), 0, false),
  (⟨"OwnerHeapModel", "readDot", "()Z"⟩, 12, prog_14_method_42_code, 4, (some .boolean), 0, false),
  (⟨"OwnerHeapModel", "endCall", "(I)V"⟩, 12, prog_14_method_41_code, 2, none, 1, false),
  (⟨"OwnerHeapModel", "beginArgument", "(I)Z"⟩, 12, prog_14_method_40_code, 2, (some .boolean), 1, false),
  (⟨"OwnerHeapModel", "level", "()I"⟩, 12, prog_14_method_36_code, 1, (some .int), 0, false),
  (⟨"OwnerHeapModel", "levelOf", "(I)I"⟩, 12, prog_14_method_37_code, 1, (some .int), 1, true),
  (⟨"OwnerHeapModel", "readEnd", "()Z"⟩, 12, prog_14_method_39_code, 2, (some .boolean), 0, false),
  (⟨"OwnerHeapModel", "readUse", "(I)V"⟩, 12, prog_14_method_31_code, 7, none, 1, false),
  (⟨"OwnerHeapModel", "judgeAll", "()V"⟩, 12, prog_14_method_51_code, 4, none, 0, false),
  (⟨"OwnerHeapModel", "judgeOwnNames", "(II)V"⟩, 12, prog_14_method_52_code, 5, none, 2, false),
  (⟨"OwnerHeapModel", "judgeAbove", "(I)V"⟩, 12, prog_14_method_53_code, 3, none, 1, false),
  (⟨"OwnerHeapModel", "judgeNames", "(IIZ)V"⟩, 12, prog_14_method_48_code, 7, none, 3, false),
  (⟨"OwnerHeapModel", "classOf", "(J)I"⟩, 12, prog_14_method_43_code, 4, (some .int), 1, false)]
def mjMc_19 : List mjI := [(⟨"OwnerHeapModel", "ownerOf", "(IJZ)I"⟩, 12, prog_14_method_45_code, 5, (some .int), 3, false),
  (⟨"OwnerHeapModel", "nameOf", "(IJ)I"⟩, 12, prog_14_method_44_code, 5, (some .int), 2, false),
  (⟨"OwnerHeapModel", "judgeRing", "(I)V"⟩, 12, prog_14_method_55_code, 4, none, 1, false),
  (⟨"OwnerHeapModel", "judgeIns", "(I)V"⟩, 12, prog_14_method_56_code, 3, none, 1, false),
  (⟨"OwnerHeapModel", "knows", "(I)V"⟩, 12, prog_14_method_57_code, 6, none, 1, false),
  (⟨"OwnerHeapModel", "judgeMembers", "(I)V"⟩, 12, prog_14_method_58_code, 5, none, 1, false),
  (⟨"OwnerHeapModel", "judgeNested", "(II)V"⟩, 12, prog_14_method_49_code, 6, none, 2, false),
  (⟨"OwnerHeapModel", "isKnown", "(III)Z"⟩, 12, prog_14_method_47_code, 4, (some .boolean), 3, false),
  (⟨"OwnerHeapModel", "row", "(I)I"⟩, 12, prog_14_method_46_code, 1, (some .int), 1, true),
  (⟨"OwnerHeapModel", "judgeKind", "(II)V"⟩, 12, prog_14_method_50_code, 3, none, 2, false),
  (⟨"OwnerHeapModel", "judgeOver", "(I)V"⟩, 12, prog_14_method_63_code, 4, none, 1, false),
  (⟨"OwnerHeapModel", "own", "(I)V"⟩, 12, prog_14_method_59_code, 3, none, 1, false),
  (⟨"OwnerHeapModel", "findMember", "(JIZ)I"⟩, 12, prog_14_method_62_code, 9, (some .int), 3, false),
  (⟨"OwnerHeapModel", "rise", "()V"⟩, 12, prog_14_method_60_code, 3, none, 0, false),
  (⟨"OwnerHeapModel", "under", "(I)I"⟩, 12, prog_14_method_61_code, 2, (some .int), 1, false),
  (⟨"OwnerHeapModel", "isLike", "(II)Z"⟩, 12, prog_14_method_64_code, 5, (some .boolean), 2, false)]
def mjMc_20 : List mjI := [(⟨"OwnerHeapModel", "isLikeType", "(II)Z"⟩, 12, prog_14_method_65_code, 5, (some .boolean), 2, false),
  (⟨"OwnerHeapModel", "places", "(I)V"⟩, 12, prog_14_method_66_code, 8, none, 1, false),
  (⟨"OwnerHeapModel", "judgeBody", "(I)V"⟩, 12, prog_14_method_72_code, 3, none, 1, false),
  (⟨"OwnerHeapModel", "judge", "(I)V"⟩, 12, prog_14_method_74_code, 3, none, 1, false),
  (⟨"OwnerHeapModel", "type", "(I)V"⟩, 12, prog_14_method_67_code, 2, none, 1, false),
  (⟨"OwnerHeapModel", "known", "(J)I"⟩, 12, prog_14_method_73_code, 4, (some .int), 1, false),
  (⟨"OwnerHeapModel", "typeOf", "(I)V"⟩, 12, prog_14_method_68_code, 3, none, 1, false),
  (⟨"OwnerHeapModel", "judgeTwo", "(I)V"⟩, 12, prog_14_method_75_code, 5, none, 1, false),
  (⟨"OwnerHeapModel", "judgePart", "(I)V"⟩, 12, prog_14_method_78_code, 5, none, 1, false),
  (⟨"OwnerHeapModel", "load", "(I)V"⟩, 12, prog_14_method_70_code, 3, none, 1, false),
  (⟨"OwnerHeapModel", "isHidden", "(I)Z"⟩, 12, prog_14_method_77_code, 4, (some .boolean), 1, false),
  (⟨"OwnerHeapModel", "hasThis", "(I)Z"⟩, 12, prog_14_method_76_code, 4, (some .boolean), 1, false),
  (⟨"OwnerHeapModel", "typeUnder", "(I)V"⟩, 12, prog_14_method_69_code, 3, none, 1, false),
  (⟨"OwnerHeapModel", "judgeArgument", "(I)V"⟩, 12, prog_14_method_79_code, 4, none, 1, false),
  (⟨"OwnerHeapModel", "fits", "(II)Z"⟩, 12, prog_14_method_71_code, 5, (some .boolean), 2, false),
  (⟨"OwnerHeapModel", "judgeStep", "(I)V"⟩, 12, prog_14_method_80_code, 3, none, 1, false)]
def mjMc_21 : List mjI := [(⟨"OwnerHeapModel", "fault", "(I)I"⟩, 12, prog_14_method_112_code, 2, (some .int), 1, false),
  (⟨"OwnerHeapModel", "type", "(II)I"⟩, 12, prog_14_method_114_code, 4, (some .int), 2, false),
  (⟨"OwnerHeapModel", "isClass", "(I)Z"⟩, 12, prog_14_method_113_code, 2, (some .boolean), 1, false),
  (⟨"OwnerHeapModel", "isIn", "(III)Z"⟩, 12, prog_14_method_115_code, 5, (some .boolean), 3, false),
  (⟨"OwnerHeapModel", "start", "(II)Z"⟩, 12, prog_14_method_116_code, 4, (some .boolean), 2, false),
  (⟨"OwnerHeapModel", "state", "(I)I"⟩, 12, prog_14_method_117_code, 2, (some .int), 1, false),
  (⟨"OwnerHeapModel", "said", "(I)I"⟩, 12, prog_14_method_118_code, 2, (some .int), 1, false),
  (⟨"OwnerHeapModel", "call", "(II)I"⟩, 12, prog_14_method_120_code, 4, (some .int), 2, false),
  (⟨"OwnerHeapModel", "isOpen", "(I)Z"⟩, 12, prog_14_method_119_code, 2, (some .boolean), 1, false),
  (⟨"OwnerHeapModel", "variable", "(II)I"⟩, 12, prog_14_method_121_code, 3, (some .int), 2, false),
  (⟨"OwnerHeapModel", "object", "(II)I"⟩, 12, prog_14_method_123_code, 4, (some .int), 2, false),
  (⟨"OwnerHeapModel", "insides", "(I)I"⟩, 12, prog_14_method_122_code, 4, (some .int), 1, false),
  (⟨"OwnerHeapModel", "owner", "(II)I"⟩, 12, prog_14_method_124_code, 3, (some .int), 2, false),
  (⟨"OwnerHeapModel", "field", "(II)I"⟩, 12, prog_14_method_125_code, 3, (some .int), 2, false),
  (⟨"OwnerHeapModel", "isInside", "(II)Z"⟩, 12, prog_14_method_126_code, 4, (some .boolean), 2, false),
  (⟨"java/lang/Character", "isValidCodePoint", "(I)Z"⟩, 14, prog_15_method_11_code, 2, (some .boolean), 1, true)]
def mjMc_22 : List mjI := [(⟨"java/lang/Character", "highSurrogate", "(I)C"⟩, 14, prog_15_method_28_code, 1, (some .char), 1, true),
  (⟨"java/lang/Character", "lowSurrogate", "(I)C"⟩, 14, prog_15_method_29_code, 1, (some .char), 1, true),
  (⟨"java/lang/Math", "max", "(II)I"⟩, 15, prog_16_method_65_code, 2, (some .int), 2, true),
  (⟨"java/lang/Math", "min", "(II)I"⟩, 15, prog_16_method_69_code, 2, (some .int), 2, true),
  (⟨"java/lang/String", "length", "()I"⟩, 17, prog_17_method_54_code, 1, (some .int), 0, false),
  (⟨"java/lang/String", "coder", "()B"⟩, 17, prog_17_method_152_code, 1, (some .byte), 0, false),
  (⟨"java/lang/String", "charAt", "(I)C"⟩, 17, prog_17_method_56_code, 2, (some .char), 1, false),
  (⟨"java/lang/String", "isLatin1", "()Z"⟩, 17, prog_17_method_154_code, 1, (some .boolean), 0, false),
  (⟨"java/lang/String", "checkIndex", "(II)V"⟩, 17, prog_17_method_155_code, 2, none, 2, true),
  (⟨"java/lang/String", "indexOf", "(I)I"⟩, 17, prog_17_method_79_code, 2, (some .int), 1, false),
  (⟨"java/lang/String", "indexOf", "(II)I"⟩, 17, prog_17_method_80_code, 3, (some .int), 2, false),
  (⟨"java/lang/String", "checkBoundsBeginEnd", "(III)V"⟩, 17, prog_17_method_158_code, 3, none, 3, true),
  (⟨"java/lang/StringLatin1", "charAt", "([BI)C"⟩, 18, prog_18_method_2_code, 2, (some .char), 2, true),
  (⟨"java/lang/StringLatin1", "indexOf", "([BIII)I"⟩, 18, prog_18_method_22_code, 4, (some .int), 4, true),
  (⟨"java/lang/StringLatin1", "canEncode", "(I)Z"⟩, 18, prog_18_method_4_code, 1, (some .boolean), 1, true),
  (⟨"java/lang/StringLatin1", "indexOfChar", "([BIII)I"⟩, 18, prog_18_method_23_code, 6, (some .int), 4, true)]
def mjMc_23 : List mjI := [(⟨"java/lang/StringUTF16", "charAt", "([BI)C"⟩, 19, prog_19_method_83_code, 2, (some .char), 2, true),
  (⟨"java/lang/StringUTF16", "checkIndex", "(I[B)V"⟩, 19, prog_19_method_91_code, 2, none, 2, true),
  (⟨"java/lang/StringUTF16", "length", "([B)I"⟩, 19, prog_19_method_6_code, 1, (some .int), 1, true),
  (⟨"java/lang/StringUTF16", "getChar", "([BI)C"⟩, 19, prog_19_method_5_code, 2, (some .char), 2, true),
  (⟨"java/lang/StringUTF16", "indexOf", "([BIII)I"⟩, 19, prog_19_method_40_code, 4, (some .int), 4, true),
  (⟨"java/lang/StringUTF16", "indexOfChar", "([BIII)I"⟩, 19, prog_19_method_47_code, 4, (some .int), 4, true),
  (⟨"java/lang/StringUTF16", "checkBoundsBeginEnd", "(II[B)V"⟩, 19, prog_19_method_93_code, 3, none, 3, true),
  (⟨"java/lang/StringUTF16", "indexOfCharUnsafe", "([BIII)I"⟩, 19, prog_19_method_48_code, 5, (some .int), 4, true),
  (⟨"java/lang/StringUTF16", "indexOfSupplementary", "([BIII)I"⟩, 19, prog_19_method_49_code, 7, (some .int), 4, true),
  (⟨"java/util/Arrays", "fill", "([II)V"⟩, 20, prog_21_method_103_code, 4, none, 2, true),
  (⟨"java/util/Arrays", "fill", "([JJ)V"⟩, 20, prog_21_method_101_code, 5, none, 2, true),
  (⟨"java/util/Arrays", "fill", "([IIII)V"⟩, 20, prog_21_method_104_code, 5, none, 4, true),
  (⟨"java/util/Arrays", "rangeCheck", "(III)V"⟩, 20, prog_21_method_30_code, 3, none, 3, true),
  (⟨"jdk/internal/util/Preconditions", "checkIndex", "(IILjava/util/function/BiFunction;)I"⟩, 21, prog_22_method_11_code, 3, (some .int), 3, true),
  (⟨"jdk/internal/util/Preconditions", "checkFromToIndex", "(IIILjava/util/function/BiFunction;)I"⟩, 21, prog_22_method_12_code, 4, (some .int), 4, true)]
def mjMc : List (List mjI) := [mjMc_0, mjMc_1, mjMc_2, mjMc_3, mjMc_4, mjMc_5, mjMc_6, mjMc_7, mjMc_8, mjMc_9, mjMc_10, mjMc_11, mjMc_12, mjMc_13, mjMc_14, mjMc_15, mjMc_16, mjMc_17, mjMc_18, mjMc_19, mjMc_20, mjMc_21, mjMc_22, mjMc_23]
def mjMs : List mjI := mjMs_0 ++ (mjMs_1 ++ (mjMs_2 ++ (mjMs_3 ++ (mjMs_4 ++ (mjMs_5 ++ (mjMs_6 ++ (mjMs_7 ++ (mjMs_8 ++ (mjMs_9 ++ (mjMs_10 ++ (mjMs_11 ++ (mjMs_12 ++ (mjMs_13 ++ (mjMs_14 ++ (mjMs_15 ++ (mjMs_16 ++ (mjMs_17 ++ (mjMs_18 ++ (mjMs_19 ++ (mjMs_20 ++ (mjMs_21)))))))))))))))))))))
def mjMt (j : Nat) : Option mjI := (mjMc[j / 16]?).bind (fun t => t[j % 16]?)
def mjMn : Nat := 383
def mjTab : List (List Cond) := [k2_sels lw_privs, tables_1_1, tables_1_2, tables_1_3, tables_1_4, tables_1_5, tables_1_6, tables_1_7, tables_1_8, tables_1_9, tables_1_10, tables_1_11]
def mj_at (q : Nat × Nat) : Option Cond := (mjTab[q.1]?).bind (fun t => t[q.2]?)
theorem mj_at_mem {q : Nat × Nat} {w : Cond} (h : mj_at q = some w) : w ∈ lw_tbl := by
  unfold mj_at at h
  obtain ⟨t, h1, h2⟩ := Option.bind_eq_some_iff.mp h
  have hm : w ∈ t := List.mem_of_getElem? h2
  have ht : t ∈ mjTab := List.mem_of_getElem? h1
  show w ∈ k2_sels lw_privs ++ (tables_1_1 ++ (tables_1_2 ++ (tables_1_3 ++ (tables_1_4 ++ (tables_1_5 ++ (tables_1_6 ++ (tables_1_7 ++ (tables_1_8 ++ (tables_1_9 ++ (tables_1_10 ++ tables_1_11))))))))))
  simp only [List.mem_append]
  simp only [mjTab, List.mem_cons, List.not_mem_nil, or_false] at ht
  rcases ht with rfl | rfl | rfl | rfl | rfl | rfl | rfl | rfl | rfl | rfl | rfl | rfl <;> simp only [hm, true_or, or_true]
/-- fields by class and pool number: pool number, (class, slot), place in the tables -/
def mjFB_0 : List (List (Nat × (Nat × Nat) × Nat × Nat)) := [[(11, (0, 0), 1, 115), (15, (0, 1), 1, 117)], [(18, (0, 2), 1, 119), (21, (0, 3), 1, 121)]]
def mjFB_1 : List (List (Nat × (Nat × Nat) × Nat × Nat)) := [[(9, (1, 0), 2, 146), (15, (1, 1), 2, 147)], [(19, (1, 2), 2, 148), (23, (1, 3), 2, 149), (27, (7, 14), 1, 173)], [(33, (1, 4), 2, 150), (34, (7, 15), 1, 178), (38, (1, 5), 2, 151), (41, (1, 8), 2, 154), (45, (1, 9), 2, 155)], [(49, (1, 10), 2, 156), (60, (6, 4), 1, 63)], [(68, (6, 2), 1, 52), (71, (1, 6), 2, 152), (74, (6, 3), 1, 59), (75, (1, 7), 2, 153), (78, (6, 9), 1, 82)], [(81, (0, 3), 1, 122), (86, (8, 8), 2, 83)], [(99, (1, 11), 2, 157), (102, (1, 12), 2, 158), (105, (8, 7), 2, 80), (108, (6, 6), 1, 73)], [], [], [], [(170, (1, 16), 2, 162), (173, (1, 13), 2, 159)], [(176, (1, 14), 2, 160), (179, (1, 15), 2, 161)], [], [], [], [], [], [], [(296, (6, 5), 1, 71)]]
def mjFB_2 : List (List (Nat × (Nat × Nat) × Nat × Nat)) := [[(11, (2, 2), 3, 1), (15, (2, 3), 3, 4)], [(18, (2, 4), 3, 7), (21, (2, 5), 3, 9), (26, (2, 6), 3, 12), (29, (2, 0), 2, 235)], [(39, (2, 1), 2, 239)]]
def mjFB_3 : List (List (Nat × (Nat × Nat) × Nat × Nat)) := [[(9, (3, 0), 2, 204), (13, (3, 1), 2, 205)], [(16, (3, 2), 2, 206), (20, (3, 3), 2, 209), (23, (3, 4), 2, 211)]]
def mjFB_4 : List (List (Nat × (Nat × Nat) × Nat × Nat)) := [[(9, (4, 0), 2, 115), (15, (4, 1), 2, 116)], [(19, (4, 2), 2, 117), (23, (7, 14), 1, 172), (29, (4, 3), 2, 118), (30, (4, 5), 2, 120)], [(34, (4, 6), 2, 121), (39, (4, 7), 2, 122), (42, (4, 4), 2, 119)], [], [], [(82, (7, 0), 1, 135), (86, (8, 3), 2, 72)], [(107, (7, 1), 1, 139)], [(114, (8, 4), 2, 74), (125, (7, 5), 1, 152)], [(136, (7, 3), 1, 149), (139, (8, 5), 2, 76)], [(153, (7, 9), 1, 164), (156, (7, 10), 1, 167)], [(162, (8, 6), 2, 78), (165, (6, 3), 1, 60), (171, (8, 7), 2, 81), (174, (6, 1), 1, 48)], [(180, (6, 6), 1, 75)], [(200, (6, 0), 1, 45), (203, (6, 2), 1, 55), (206, (6, 4), 1, 66)]]
def mjFB_5 : List (List (Nat × (Nat × Nat) × Nat × Nat)) := [[(9, (5, 0), 3, 28), (15, (5, 2), 3, 31)], [(19, (7, 15), 1, 177), (25, (5, 3), 3, 32), (29, (5, 1), 3, 29)], [(33, (5, 5), 3, 34), (37, (5, 14), 3, 49), (40, (5, 11), 3, 43), (44, (5, 8), 3, 37), (47, (5, 9), 3, 39)], [(50, (5, 10), 3, 41), (53, (5, 12), 3, 45), (56, (5, 13), 3, 47), (59, (5, 6), 3, 35)], [(65, (2, 1), 2, 238), (77, (5, 7), 3, 36)], [(86, (7, 14), 1, 175), (90, (6, 9), 1, 83), (93, (5, 4), 3, 33)], [(99, (0, 3), 1, 124), (104, (0, 0), 1, 116), (107, (0, 2), 1, 120)], [(114, (0, 1), 1, 118)], [], [(145, (2, 3), 3, 5), (157, (2, 5), 3, 10)], [], [(184, (2, 0), 2, 237), (187, (2, 4), 3, 8)], [(200, (6, 6), 1, 76), (206, (6, 1), 1, 49)], [(215, (7, 1), 1, 142), (218, (7, 8), 1, 161)], [(234, (6, 2), 1, 57), (237, (2, 2), 3, 3)]]
def mjFB_6 : List (List (Nat × (Nat × Nat) × Nat × Nat)) := [[(13, (6, 1), 1, 46)], [(17, (6, 2), 1, 51), (21, (6, 3), 1, 58), (24, (6, 4), 1, 62), (28, (6, 5), 1, 67), (31, (6, 6), 1, 72)], [(34, (6, 7), 1, 77), (37, (6, 8), 1, 78), (40, (6, 9), 1, 81), (43, (6, 0), 1, 42)]]
def mjFB_7 : List (List (Nat × (Nat × Nat) × Nat × Nat)) := [[(11, (7, 1), 1, 138), (15, (7, 2), 1, 143)], [(18, (7, 3), 1, 146), (21, (7, 4), 1, 150), (24, (7, 5), 1, 151), (27, (7, 6), 1, 153), (30, (7, 7), 1, 156)], [(33, (7, 8), 1, 158), (36, (7, 9), 1, 162), (39, (7, 10), 1, 165), (42, (7, 11), 1, 168), (45, (7, 12), 1, 169)], [(48, (7, 13), 1, 170), (55, (7, 14), 1, 174), (62, (7, 15), 1, 179)], [(66, (7, 0), 1, 134)], [(82, (0, 3), 1, 123)], [(109, (6, 0), 1, 44)], [(112, (6, 2), 1, 54), (115, (6, 5), 1, 69), (118, (6, 4), 1, 65), (122, (6, 3), 1, 61)], [], [(147, (6, 1), 1, 50)]]
def mjFB_8 : List (List (Nat × (Nat × Nat) × Nat × Nat)) := [[(9, (8, 0), 2, 68), (15, (8, 1), 2, 69)], [(19, (7, 14), 1, 171), (25, (8, 2), 2, 70), (26, (8, 3), 2, 71), (30, (8, 4), 2, 73)], [(33, (8, 5), 2, 75), (38, (8, 6), 2, 77), (41, (8, 7), 2, 79), (44, (8, 8), 2, 82), (47, (8, 9), 2, 84)], [], [(75, (8, 10), 2, 85)], [(85, (6, 8), 1, 79), (93, (7, 0), 1, 136)], [(96, (7, 9), 1, 163), (99, (6, 0), 1, 43), (102, (7, 2), 1, 144)], [(125, (7, 1), 1, 140)], [(131, (7, 3), 1, 148), (134, (7, 10), 1, 166), (137, (6, 2), 1, 53), (140, (6, 1), 1, 47)], [(148, (6, 5), 1, 68), (151, (7, 7), 1, 157), (154, (6, 4), 1, 64), (158, (7, 6), 1, 155)], [(164, (6, 6), 1, 74)]]
def mjFB_9 : List (List (Nat × (Nat × Nat) × Nat × Nat)) := [[(11, (9, 0), 2, 32), (15, (9, 1), 2, 33)], [(19, (9, 2), 2, 34), (22, (9, 3), 2, 35), (25, (9, 4), 2, 36)], [(46, (9, 5), 2, 37)], [(50, (9, 6), 2, 38), (53, (9, 7), 2, 39), (56, (9, 8), 2, 41)]]
def mjFB_10 : List (List (Nat × (Nat × Nat) × Nat × Nat)) := [[(9, (10, 0), 3, 88), (15, (10, 1), 3, 89)], [(21, (10, 2), 3, 90), (25, (10, 4), 3, 92), (28, (10, 6), 3, 94), (31, (10, 7), 3, 95)], [(34, (10, 8), 3, 96), (37, (10, 5), 3, 93), (41, (10, 3), 3, 91), (45, (3, 2), 2, 207)], [], [(72, (7, 8), 1, 159)], [], [(96, (10, 9), 3, 97)]]
def mjFB_11 : List (List (Nat × (Nat × Nat) × Nat × Nat)) := [[(9, (11, 0), 3, 119)], [(16, (11, 6), 3, 125), (20, (11, 7), 3, 126), (26, (11, 2), 3, 121)], [(35, (11, 3), 3, 122), (44, (11, 4), 3, 123)], [(53, (11, 5), 3, 124), (57, (11, 9), 3, 128), (61, (11, 10), 3, 129)], [(67, (11, 11), 3, 130), (76, (11, 12), 3, 131)], [(83, (11, 13), 3, 132), (87, (11, 1), 3, 120)], [], [(116, (9, 7), 2, 40), (117, (9, 8), 2, 42), (121, (11, 8), 3, 127)], [(131, (7, 0), 1, 137), (134, (7, 1), 1, 141), (142, (7, 8), 1, 160)], [(145, (7, 6), 1, 154), (148, (7, 3), 1, 147), (151, (7, 2), 1, 145)], [(171, (5, 8), 3, 38)], [(177, (5, 9), 3, 40), (180, (5, 10), 3, 42), (183, (5, 11), 3, 44), (186, (5, 12), 3, 46), (189, (3, 3), 2, 210)], [(192, (3, 2), 2, 208), (195, (5, 1), 3, 30), (199, (2, 0), 2, 236), (202, (2, 1), 3, 0), (205, (5, 13), 3, 48)], [(208, (5, 14), 3, 50), (211, (2, 2), 3, 2), (216, (7, 14), 1, 176), (220, (6, 2), 1, 56), (223, (6, 5), 1, 70)], [(226, (2, 3), 3, 6), (229, (2, 5), 3, 11), (232, (6, 8), 1, 80)]]
def mjFB_12 : List (List (Nat × (Nat × Nat) × Nat × Nat)) := [[(7, (12, 0), 7, 198), (13, (12, 8), 7, 206)], [(17, (12, 11), 7, 209), (21, (12, 12), 7, 210), (24, (12, 13), 7, 211), (27, (12, 14), 7, 212), (30, (12, 15), 7, 213)], [(33, (12, 16), 7, 214), (36, (12, 17), 7, 215), (39, (12, 18), 7, 216), (42, (12, 19), 7, 217), (45, (12, 20), 7, 218)], [(48, (12, 21), 7, 219), (51, (12, 22), 7, 220), (54, (12, 23), 7, 221), (57, (12, 24), 7, 222), (60, (12, 25), 7, 223), (63, (12, 26), 7, 224)], [(66, (12, 27), 7, 225), (69, (12, 28), 7, 226), (72, (12, 29), 7, 227), (75, (12, 30), 7, 228), (79, (12, 31), 7, 229)], [(82, (12, 32), 7, 230), (85, (12, 33), 7, 231), (88, (12, 34), 7, 232), (91, (12, 35), 7, 233), (94, (12, 36), 7, 234)], [(97, (12, 37), 7, 235), (100, (12, 38), 7, 236), (103, (12, 39), 7, 237), (106, (12, 40), 7, 238), (109, (12, 41), 7, 239)], [(112, (12, 42), 8, 0), (115, (12, 43), 8, 1), (118, (12, 44), 8, 2), (121, (12, 45), 8, 3), (124, (12, 46), 8, 4), (127, (12, 47), 8, 5)], [(130, (12, 48), 8, 6), (133, (12, 49), 8, 7), (136, (12, 50), 8, 8), (139, (12, 51), 8, 9), (142, (12, 52), 8, 10)], [(145, (12, 53), 8, 11), (148, (12, 54), 8, 12), (151, (12, 55), 8, 13), (154, (12, 56), 8, 14), (157, (12, 57), 8, 15)], [(160, (12, 58), 8, 16), (163, (12, 59), 8, 17), (167, (12, 60), 8, 18), (170, (12, 68), 8, 26), (173, (12, 69), 8, 27)], [(176, (12, 70), 8, 28), (179, (12, 72), 8, 30), (182, (12, 73), 8, 31), (185, (12, 74), 8, 32), (188, (12, 75), 8, 33), (191, (12, 79), 8, 36)], [(194, (12, 80), 8, 37), (197, (12, 81), 8, 38), (200, (12, 83), 8, 40), (203, (12, 84), 8, 41), (206, (12, 85), 8, 42)], [(209, (12, 86), 8, 43), (212, (12, 89), 8, 46), (215, (12, 90), 8, 47), (218, (12, 91), 8, 48), (221, (12, 93), 8, 50)], [(224, (12, 94), 8, 51), (227, (12, 107), 8, 64), (230, (12, 108), 8, 65), (233, (12, 109), 8, 66), (236, (12, 110), 8, 67), (239, (12, 111), 8, 68)], [(242, (12, 112), 8, 69), (245, (12, 113), 8, 70), (248, (12, 114), 8, 71), (251, (12, 115), 8, 72), (254, (12, 117), 8, 74)], [(257, (12, 120), 8, 77), (260, (12, 121), 8, 78), (263, (12, 122), 8, 79), (266, (12, 123), 8, 80), (269, (12, 125), 8, 82)], [(272, (12, 128), 8, 85), (275, (12, 130), 8, 87), (278, (12, 131), 8, 88), (281, (12, 134), 8, 91), (284, (12, 135), 8, 92), (287, (12, 136), 8, 93)], [], [(304, (12, 2), 7, 200), (307, (12, 5), 7, 203), (310, (12, 4), 7, 202), (316, (12, 3), 7, 201), (319, (12, 6), 7, 204)], [(322, (12, 7), 7, 205), (333, (12, 61), 8, 19)], [(336, (12, 62), 8, 20)], [(353, (12, 64), 8, 22), (356, (12, 63), 8, 21)], [(369, (12, 66), 8, 24), (372, (12, 67), 8, 25), (378, (12, 65), 8, 23)], [], [(411, (12, 71), 8, 29)], [], [(440, (12, 77), 8, 35), (443, (12, 76), 8, 34)], [], [], [], [(496, (12, 129), 8, 86)], [], [], [(544, (12, 95), 8, 52)], [(567, (12, 82), 8, 39)], [(579, (12, 133), 8, 90), (582, (12, 132), 8, 89), (585, (12, 87), 8, 44), (588, (12, 88), 8, 45), (591, (12, 92), 8, 49)], [], [], [(627, (12, 116), 8, 73), (633, (12, 118), 8, 75), (636, (12, 96), 8, 53), (639, (12, 98), 8, 55)], [(642, (12, 99), 8, 56), (645, (12, 126), 8, 83), (648, (12, 9), 7, 207), (651, (12, 119), 8, 76)], [(657, (12, 100), 8, 57)], [(684, (12, 106), 8, 63)], [(690, (12, 102), 8, 59), (693, (12, 101), 8, 58), (699, (12, 103), 8, 60), (702, (12, 104), 8, 61)], [(708, (12, 105), 8, 62), (711, (12, 97), 8, 54), (714, (12, 124), 8, 81)], [], [(738, (12, 127), 8, 84), (744, (12, 1), 7, 199)], [(756, (12, 10), 7, 208)]]
def mjFB_13 : List (List (Nat × (Nat × Nat) × Nat × Nat)) := []
def mjFB_14 : List (List (Nat × (Nat × Nat) × Nat × Nat)) := []
def mjFB_15 : List (List (Nat × (Nat × Nat) × Nat × Nat)) := []
def mjFB_16 : List (List (Nat × (Nat × Nat) × Nat × Nat)) := []
def mjFB_17 : List (List (Nat × (Nat × Nat) × Nat × Nat)) := []
def mjFB_18 : List (List (Nat × (Nat × Nat) × Nat × Nat)) := []
def mjFB_19 : List (List (Nat × (Nat × Nat) × Nat × Nat)) := []
def mjFB_20 : List (List (Nat × (Nat × Nat) × Nat × Nat)) := []
def mjFB_21 : List (List (Nat × (Nat × Nat) × Nat × Nat)) := []
def mjFBs : List (List (List (Nat × (Nat × Nat) × Nat × Nat))) := [mjFB_0, mjFB_1, mjFB_2, mjFB_3, mjFB_4, mjFB_5, mjFB_6, mjFB_7, mjFB_8, mjFB_9, mjFB_10, mjFB_11, mjFB_12, mjFB_13, mjFB_14, mjFB_15, mjFB_16, mjFB_17, mjFB_18, mjFB_19, mjFB_20, mjFB_21]
def mjFs : List (List (Nat × (Nat × Nat) × Nat × Nat)) := mjFBs.map List.flatten
/-- methods by class and pool number: pool number, method, place in the tables -/
def mjLB_0 : List (List (Nat × Nat × Nat × Nat)) := []
def mjLB_1 : List (List (Nat × Nat × Nat × Nat)) := [[], [], [], [(54, 172, 5, 149)], [(64, 5, 5, 150)], [(89, 179, 5, 154), (92, 7, 5, 164), (95, 1, 5, 176)], [(111, 167, 5, 155)], [(115, 164, 5, 156), (119, 61, 5, 157), (125, 170, 5, 158)], [(129, 98, 5, 159), (133, 6, 5, 160), (137, 166, 5, 168), (140, 171, 5, 169), (142, 8, 5, 170)], [(145, 173, 5, 174), (148, 168, 5, 175), (151, 9, 5, 180), (154, 31, 6, 64), (157, 32, 6, 68)], [(160, 68, 6, 72), (163, 33, 6, 73), (167, 34, 6, 77)], [(182, 18, 5, 216), (186, 165, 5, 220), (189, 11, 5, 188)], [(192, 123, 6, 26), (196, 178, 6, 0), (200, 180, 5, 235), (203, 17, 5, 212), (206, 19, 5, 221)], [(209, 25, 6, 34), (213, 20, 5, 225), (216, 10, 5, 184), (219, 2, 6, 60), (222, 27, 6, 42)], [(225, 12, 5, 192), (228, 177, 6, 59), (231, 28, 6, 47), (234, 29, 6, 51), (237, 13, 5, 196)], [(240, 176, 6, 58), (243, 14, 5, 200), (246, 175, 6, 46), (249, 30, 6, 55), (252, 15, 5, 204), (255, 16, 5, 208)], [(258, 22, 5, 236), (262, 60, 5, 234), (265, 26, 6, 38), (268, 21, 5, 229), (271, 111, 5, 233)], [(274, 105, 6, 1), (277, 121, 6, 2), (281, 99, 6, 8), (284, 114, 6, 16), (287, 112, 6, 17)], [(290, 23, 6, 18), (293, 24, 6, 30), (299, 181, 6, 22)]]
def mjLB_2 : List (List (Nat × Nat × Nat × Nat)) := [[], [], [(33, 379, 6, 132), (42, 354, 6, 138)], [(48, 38, 6, 184)]]
def mjLB_3 : List (List (Nat × Nat × Nat × Nat)) := [[], [(26, 379, 7, 11)], [(32, 49, 7, 67)]]
def mjLB_4 : List (List (Nat × Nat × Nat × Nat)) := [[], [], [(46, 55, 4, 214)], [(49, 59, 4, 236), (52, 63, 5, 42), (55, 64, 5, 50), (58, 172, 4, 218)], [(64, 110, 5, 62), (67, 113, 5, 76), (70, 115, 5, 84), (73, 66, 5, 100), (76, 70, 5, 127), (79, 120, 5, 141)], [(92, 170, 4, 219)], [(96, 56, 4, 220), (100, 178, 4, 224), (104, 57, 4, 228), (110, 58, 4, 232)], [(117, 179, 5, 0), (121, 60, 5, 4)], [(128, 106, 5, 41), (132, 108, 5, 46), (142, 65, 5, 54)], [(145, 109, 5, 58), (149, 104, 5, 27), (159, 67, 5, 104)], [(168, 68, 5, 108)], [(177, 119, 5, 114), (183, 97, 5, 118), (187, 69, 5, 122), (190, 167, 5, 8)], [(194, 165, 5, 126), (197, 166, 5, 113)], [(210, 71, 5, 131), (213, 114, 5, 135), (216, 112, 5, 136), (219, 98, 5, 137), (222, 164, 5, 112)], [(226, 61, 5, 9), (229, 102, 5, 17), (232, 62, 5, 20), (236, 103, 5, 24)], [(240, 180, 5, 13)]]
def mjLB_5 : List (List (Nat × Nat × Nat × Nat)) := [[], [(28, 35, 2, 231)], [], [(62, 36, 6, 89)], [(68, 42, 6, 93), (74, 73, 6, 127)], [(82, 37, 6, 128)], [(96, 76, 6, 151), (110, 85, 6, 209)], [(117, 87, 6, 217), (121, 77, 6, 156), (125, 78, 6, 160)], [(128, 79, 6, 164), (131, 38, 6, 168), (135, 39, 6, 172), (139, 80, 6, 176), (142, 40, 6, 180)], [(148, 81, 6, 185), (151, 83, 6, 201), (154, 84, 6, 205)], [(160, 88, 6, 221), (163, 89, 6, 229), (166, 91, 7, 2), (169, 90, 6, 233), (173, 94, 7, 34)], [(177, 82, 6, 197), (180, 86, 6, 213), (190, 43, 6, 189)], [(194, 45, 6, 225), (197, 44, 6, 193), (203, 46, 6, 237)], [(210, 121, 7, 1), (214, 105, 7, 6), (221, 47, 7, 7)], [(225, 106, 7, 12), (228, 92, 7, 13), (231, 50, 7, 30)], [(240, 114, 7, 17), (243, 93, 7, 18), (246, 48, 7, 22), (249, 49, 7, 26)]]
def mjLB_6 : List (List (Nat × Nat × Nat × Nat)) := [[], [], [(47, 122, 6, 12)], [(51, 98, 6, 15)]]
def mjLB_7 : List (List (Nat × Nat × Nat × Nat)) := [[], [], [], [(54, 95, 1, 38), (61, 0, 1, 111)], [(70, 377, 4, 36), (76, 378, 4, 39), (79, 96, 4, 42)], [(85, 106, 5, 34), (89, 102, 5, 70), (93, 103, 5, 71)], [(97, 105, 5, 31), (100, 111, 5, 66), (103, 112, 5, 72), (106, 114, 5, 80)], [(125, 116, 5, 88)], [(129, 118, 5, 96), (132, 117, 5, 92), (136, 107, 5, 37), (140, 119, 6, 6)], [(144, 108, 6, 7)]]
def mjLB_8 : List (List (Nat × Nat × Nat × Nat)) := [[], [], [], [(53, 164, 4, 50), (57, 127, 4, 54), (61, 135, 4, 107)], [(65, 136, 4, 111), (69, 138, 4, 124), (72, 169, 4, 74), (78, 167, 4, 66)], [(82, 139, 4, 128), (87, 165, 4, 58), (90, 166, 4, 62)], [(105, 168, 4, 70), (109, 128, 4, 79)], [(112, 130, 4, 87), (116, 132, 4, 95), (119, 134, 4, 103), (122, 129, 4, 83)], [(128, 133, 4, 99)], [(144, 170, 4, 115)], [(161, 137, 4, 119), (167, 355, 4, 123), (173, 131, 4, 91)], [(176, 171, 4, 132), (179, 172, 4, 136), (182, 140, 4, 140), (185, 173, 4, 144), (188, 141, 4, 148), (191, 150, 4, 201)], [(194, 142, 4, 152), (197, 151, 4, 205), (200, 143, 4, 156), (203, 177, 4, 197), (206, 144, 4, 160)], [(209, 176, 4, 193), (212, 145, 4, 164), (215, 175, 4, 188), (218, 146, 4, 168), (221, 147, 4, 172)], [(224, 148, 4, 176), (227, 149, 4, 180), (230, 174, 4, 184)]]
def mjLB_9 : List (List (Nat × Nat × Nat × Nat)) := [[], [(30, 356, 1, 220)], [(36, 358, 1, 230), (40, 153, 2, 28)], [(59, 155, 3, 178), (63, 156, 3, 181)], [(66, 161, 3, 199), (70, 157, 3, 185), (74, 158, 3, 188), (77, 159, 3, 192)], [(80, 162, 3, 203), (83, 163, 3, 208), (86, 160, 3, 195), (94, 361, 3, 213)], [(98, 165, 4, 78), (102, 164, 4, 192)]]
def mjLB_10 : List (List (Nat × Nat × Nat × Nat)) := [[], [], [], [(48, 379, 7, 97), (54, 187, 7, 98), (58, 49, 7, 102), (62, 188, 7, 103)], [(65, 189, 7, 107), (69, 190, 7, 112), (77, 46, 7, 111)], [(80, 124, 7, 116), (84, 45, 7, 120), (87, 186, 7, 93), (90, 191, 7, 121), (93, 193, 7, 133)], [(99, 194, 7, 137), (102, 197, 7, 153)], [(113, 195, 7, 145), (116, 196, 7, 149)]]
def mjLB_11 : List (List (Nat × Nat × Nat × Nat)) := [[(15, 100, 1, 32)], [(25, 152, 1, 215)], [(32, 125, 2, 64), (41, 53, 2, 111)], [(50, 3, 2, 142)], [(66, 41, 2, 200), (73, 72, 2, 225)], [(82, 182, 3, 84), (90, 203, 3, 166), (94, 154, 3, 174)], [(98, 101, 4, 32), (101, 126, 4, 46), (105, 172, 4, 209), (109, 54, 4, 210)], [(113, 4, 5, 145), (118, 205, 6, 81), (125, 73, 6, 85)], [(128, 183, 6, 97), (138, 108, 6, 109)], [(154, 209, 6, 114), (158, 107, 6, 118)], [(164, 74, 6, 123), (168, 184, 6, 139), (174, 75, 6, 147)], [], [], [], [(235, 39, 7, 54), (238, 43, 7, 59)], [(242, 46, 7, 60), (245, 49, 7, 61), (248, 48, 7, 62), (251, 51, 7, 63), (254, 45, 7, 76)], [(257, 52, 7, 81), (261, 185, 7, 89), (264, 192, 7, 129), (267, 198, 7, 161), (271, 199, 7, 169)], [(274, 200, 7, 177)]]
def mjLB_12 : List (List (Nat × Nat × Nat × Nat)) := [[], [], [], [], [], [], [], [], [], [], [], [], [], [], [], [], [], [], [(290, 226, 7, 187), (294, 228, 7, 194), (300, 227, 7, 191)], [(313, 263, 10, 25)], [(326, 264, 10, 29), (329, 265, 10, 33)], [(339, 268, 10, 45), (343, 271, 10, 57), (347, 269, 10, 49), (350, 262, 10, 21)], [(359, 281, 10, 99), (363, 266, 10, 37), (366, 267, 10, 41)], [(375, 279, 10, 91), (381, 270, 10, 53)], [(384, 272, 10, 61), (388, 273, 10, 67), (391, 274, 10, 71), (394, 275, 10, 75), (397, 278, 10, 87)], [(404, 276, 10, 79), (408, 277, 10, 83), (414, 280, 10, 95)], [(418, 282, 10, 103), (421, 284, 10, 111), (424, 283, 10, 107), (427, 285, 10, 115), (430, 287, 10, 123)], [(433, 298, 10, 166), (436, 286, 10, 119), (446, 288, 10, 127)], [(448, 289, 10, 131), (451, 291, 10, 139), (454, 290, 10, 135), (457, 292, 10, 143), (460, 295, 10, 155), (463, 296, 10, 159)], [(466, 354, 9, 184), (472, 297, 10, 162), (475, 294, 10, 151), (478, 293, 10, 147)], [(481, 305, 10, 194), (485, 312, 10, 222), (488, 303, 10, 186), (492, 304, 10, 190)], [(500, 311, 10, 218), (504, 302, 10, 182), (508, 310, 10, 214), (511, 300, 10, 174)], [(514, 301, 10, 178), (517, 306, 10, 198), (520, 307, 10, 202), (523, 308, 10, 206), (526, 309, 10, 210)], [(529, 314, 10, 229), (532, 321, 11, 17), (535, 322, 11, 21), (538, 242, 9, 180), (541, 313, 10, 225)], [(547, 318, 11, 5), (550, 317, 11, 1), (553, 315, 10, 233), (556, 316, 10, 237)], [(560, 319, 11, 9), (564, 320, 11, 13), (570, 324, 11, 29), (573, 326, 11, 37)], [(576, 329, 11, 49)], [(594, 323, 11, 25), (597, 325, 11, 33), (600, 327, 11, 41), (603, 328, 11, 45), (606, 333, 11, 65)], [(609, 332, 11, 61), (612, 335, 11, 73), (615, 331, 11, 57), (618, 330, 11, 53), (621, 334, 11, 69)], [(624, 237, 9, 160), (630, 236, 9, 156)], [(654, 230, 9, 133)], [(660, 231, 9, 136), (663, 232, 9, 140), (666, 233, 9, 144), (669, 238, 9, 164)], [(672, 239, 9, 168), (675, 234, 9, 148), (678, 240, 9, 172), (681, 243, 9, 185), (687, 244, 9, 189)], [(696, 235, 9, 152)], [(705, 241, 9, 176), (717, 248, 9, 205)], [(720, 247, 9, 201), (723, 253, 9, 225), (726, 249, 9, 209), (729, 246, 9, 197), (732, 250, 9, 213), (735, 252, 9, 221)], [(741, 254, 9, 229), (747, 259, 10, 9), (750, 261, 10, 17)], [(753, 299, 10, 170), (759, 338, 11, 85), (762, 344, 11, 109), (765, 347, 11, 121)]]
def mjLB_13 : List (List (Nat × Nat × Nat × Nat)) := [[(9, 201, 1, 24), (12, 225, 7, 183), (13, 202, 3, 162)], [(17, 258, 10, 5), (18, 204, 3, 170), (22, 260, 10, 13), (23, 206, 6, 101), (27, 336, 11, 77), (28, 207, 6, 105)], [(32, 337, 11, 81), (33, 208, 6, 110), (37, 339, 11, 89), (38, 210, 6, 119), (42, 340, 11, 93), (43, 211, 6, 143), (46, 229, 9, 129), (47, 212, 7, 38)], [(50, 341, 11, 97), (51, 213, 7, 42), (54, 342, 11, 101), (55, 214, 7, 46), (58, 343, 11, 105), (59, 215, 7, 50), (62, 345, 11, 113), (63, 216, 7, 55)], [(66, 346, 11, 117), (67, 217, 7, 68), (70, 348, 11, 125), (71, 218, 7, 72), (74, 349, 11, 129), (75, 219, 7, 77), (78, 350, 11, 133), (79, 220, 7, 85)], [(82, 245, 9, 193), (83, 221, 7, 125), (86, 257, 10, 1), (87, 222, 7, 157), (91, 251, 9, 217), (92, 223, 7, 165), (95, 255, 9, 233)], [(96, 224, 7, 173), (99, 256, 9, 237)]]
def mjLB_14 : List (List (Nat × Nat × Nat × Nat)) := []
def mjLB_15 : List (List (Nat × Nat × Nat × Nat)) := []
def mjLB_16 : List (List (Nat × Nat × Nat × Nat)) := []
def mjLB_17 : List (List (Nat × Nat × Nat × Nat)) := [[], [], [], [], [], [], [], [], [], [], [], [], [], [], [], [], [], [], [], [], [(335, 357, 1, 224)], [], [], [], [], [], [], [], [], [], [(492, 359, 1, 234), (495, 364, 1, 238)], [(498, 368, 2, 9), (505, 356, 3, 221)], [], [], [], [], [], [], [], [(633, 362, 3, 217), (637, 365, 3, 222)], [(640, 372, 3, 237)], [], [], [], [], [], [], [], [], [], [], [], [], [], [], [], [], [], [], [], [], [], [], [], [], [], [(1059, 381, 2, 6), (1062, 382, 4, 12)]]
def mjLB_18 : List (List (Nat × Nat × Nat × Nat)) := [[(9, 360, 2, 1)], [], [(38, 355, 3, 231)], [], [], [(88, 366, 3, 225), (92, 354, 3, 228), (95, 367, 3, 234)]]
def mjLB_19 : List (List (Nat × Nat × Nat × Nat)) := [[], [], [], [(48, 370, 2, 15)], [(67, 369, 2, 12), (71, 371, 2, 19)], [], [(96, 374, 4, 6)], [], [], [(157, 352, 4, 24)], [(161, 353, 4, 28), (164, 351, 4, 21)], [(183, 355, 4, 1)], [], [], [(224, 354, 4, 0), (228, 373, 4, 3), (232, 376, 4, 18)], [(241, 363, 4, 9), (244, 375, 4, 15)], [], [], [], [], [], [], [], [], [], [(414, 360, 2, 18)]]
def mjLB_20 : List (List (Nat × Nat × Nat × Nat)) := [[(13, 380, 6, 135)]]
def mjLB_21 : List (List (Nat × Nat × Nat × Nat)) := []
def mjLBs : List (List (List (Nat × Nat × Nat × Nat))) := [mjLB_0, mjLB_1, mjLB_2, mjLB_3, mjLB_4, mjLB_5, mjLB_6, mjLB_7, mjLB_8, mjLB_9, mjLB_10, mjLB_11, mjLB_12, mjLB_13, mjLB_14, mjLB_15, mjLB_16, mjLB_17, mjLB_18, mjLB_19, mjLB_20, mjLB_21]
def mjLs : List (List (Nat × Nat × Nat × Nat)) := mjLBs.map List.flatten
def mjN_0 : List (Nat × Nat × Nat × Nat) := []
def mjN_1 : List (Nat × Nat × Nat × Nat) := []
def mjN_2 : List (Nat × Nat × Nat × Nat) := []
def mjN_3 : List (Nat × Nat × Nat × Nat) := []
def mjN_4 : List (Nat × Nat × Nat × Nat) := []
def mjN_5 : List (Nat × Nat × Nat × Nat) := [(26, 2, 2, 229)]
def mjN_6 : List (Nat × Nat × Nat × Nat) := []
def mjN_7 : List (Nat × Nat × Nat × Nat) := [(52, 6, 1, 36), (59, 0, 1, 109)]
def mjN_8 : List (Nat × Nat × Nat × Nat) := []
def mjN_9 : List (Nat × Nat × Nat × Nat) := []
def mjN_10 : List (Nat × Nat × Nat × Nat) := []
def mjN_11 : List (Nat × Nat × Nat × Nat) := [(13, 7, 1, 30), (23, 9, 1, 213), (30, 8, 2, 62), (39, 4, 2, 109), (48, 1, 2, 140), (64, 3, 2, 198), (71, 5, 2, 223), (80, 10, 3, 82)]
def mjN_12 : List (Nat × Nat × Nat × Nat) := []
def mjN_13 : List (Nat × Nat × Nat × Nat) := [(7, 11, 1, 22), (10, 12, 7, 181)]
def mjN_14 : List (Nat × Nat × Nat × Nat) := []
def mjN_15 : List (Nat × Nat × Nat × Nat) := []
def mjN_16 : List (Nat × Nat × Nat × Nat) := []
def mjN_17 : List (Nat × Nat × Nat × Nat) := []
def mjN_18 : List (Nat × Nat × Nat × Nat) := []
def mjN_19 : List (Nat × Nat × Nat × Nat) := []
def mjN_20 : List (Nat × Nat × Nat × Nat) := []
def mjN_21 : List (Nat × Nat × Nat × Nat) := []
def mjNs : List (List (Nat × Nat × Nat × Nat)) := [mjN_0, mjN_1, mjN_2, mjN_3, mjN_4, mjN_5, mjN_6, mjN_7, mjN_8, mjN_9, mjN_10, mjN_11, mjN_12, mjN_13, mjN_14, mjN_15, mjN_16, mjN_17, mjN_18, mjN_19, mjN_20, mjN_21]
def mjCIs : List (List (Nat × Int32 × Nat × Nat)) := [[], [], [], [], [], [(120, 1000000, 6, 155)], [], [], [], [], [(112, 1000000, 7, 144)], [], [], [], [(110, 55232, 4, 27), (76, 56320, 4, 31)], [], [], [], [], [(227, 65536, 4, 2)], [], []]
def mjCLs : List (List (Nat × Int64 × Nat × Nat)) := [[], [], [], [], [], [], [], [], [], [(44, 64, 2, 31), (90, 10, 3, 207)], [], [], [(298, 64, 7, 197), (400, -2, 10, 65), (402, -1, 10, 66)], [], [], [], [], [], [], [], [], []]
def mjOs : List (List (Nat × Nat × Nat)) := [[(3, 1, 114)], [(3, 2, 145)], [(3, 2, 234)], [(3, 2, 203)], [(3, 2, 114)], [(3, 2, 228)], [(7, 1, 41)], [(5, 1, 35)], [(3, 2, 67)], [(3, 1, 218)], [(3, 3, 87)], [(1, 1, 27)], [(1, 7, 186)], [], [], [], [], [], [], [], [], []]
def mjOp : (Nat × Nat) × (Nat × Nat) := ((1, 28), (1, 29))
def mjPs : List ((Nat × Nat) × (Nat × Nat) × (Nat × Nat) × (Nat × Nat)) := [
  ((1, 113), (1, 4), (1, 112), (1, 113)),
  ((5, 179), (1, 4), (5, 177), (5, 178)),
  ((6, 63), (1, 4), (6, 61), (6, 62)),
  ((2, 144), (1, 12), (2, 143), (2, 144)),
  ((5, 148), (1, 12), (5, 146), (5, 147)),
  ((5, 153), (1, 12), (5, 152), (0, 49)),
  ((5, 163), (1, 12), (5, 162), (0, 50)),
  ((5, 167), (1, 12), (5, 166), (0, 51)),
  ((5, 173), (1, 12), (5, 172), (0, 52)),
  ((5, 183), (1, 12), (5, 182), (0, 53)),
  ((5, 187), (1, 12), (5, 186), (0, 54)),
  ((5, 191), (1, 12), (5, 190), (0, 55)),
  ((5, 195), (1, 12), (5, 194), (0, 56)),
  ((5, 199), (1, 12), (5, 198), (0, 57)),
  ((5, 203), (1, 12), (5, 202), (0, 58)),
  ((5, 207), (1, 12), (5, 206), (0, 59)),
  ((5, 211), (1, 12), (5, 210), (0, 60)),
  ((5, 215), (1, 12), (5, 214), (0, 61)),
  ((5, 219), (1, 12), (5, 218), (0, 62)),
  ((5, 224), (1, 12), (5, 223), (0, 63)),
  ((5, 228), (1, 12), (5, 227), (0, 64)),
  ((5, 232), (1, 12), (5, 231), (0, 65)),
  ((5, 239), (1, 12), (5, 238), (0, 66)),
  ((6, 21), (1, 12), (6, 20), (0, 67)),
  ((6, 33), (1, 12), (6, 32), (0, 68)),
  ((6, 37), (1, 12), (6, 36), (0, 69)),
  ((6, 41), (1, 12), (6, 40), (0, 70)),
  ((6, 45), (1, 12), (6, 44), (0, 71)),
  ((6, 50), (1, 12), (6, 49), (0, 72)),
  ((6, 54), (1, 12), (6, 53), (0, 73)),
  ((6, 57), (1, 12), (6, 56), (6, 57)),
  ((6, 67), (1, 12), (6, 66), (0, 74)),
  ((6, 71), (1, 12), (6, 70), (0, 75)),
  ((6, 76), (1, 12), (6, 75), (0, 76)),
  ((6, 80), (1, 12), (6, 79), (0, 77)),
  ((2, 233), (1, 15), (2, 232), (2, 233)),
  ((6, 92), (1, 15), (6, 90), (6, 91)),
  ((6, 131), (1, 15), (6, 129), (6, 130)),
  ((6, 171), (1, 15), (6, 169), (6, 170)),
  ((6, 175), (1, 15), (6, 173), (6, 174)),
  ((6, 183), (1, 15), (6, 181), (6, 182)),
  ((2, 202), (1, 13), (2, 201), (2, 202)),
  ((6, 96), (1, 13), (6, 94), (6, 95)),
  ((6, 192), (1, 13), (6, 190), (6, 191)),
  ((6, 196), (1, 13), (6, 194), (6, 195)),
  ((6, 228), (1, 13), (6, 226), (6, 227)),
  ((7, 0), (1, 13), (6, 238), (6, 239)),
  ((7, 10), (1, 13), (7, 8), (7, 9)),
  ((7, 25), (1, 13), (7, 23), (7, 24)),
  ((7, 29), (1, 13), (7, 27), (7, 28)),
  ((7, 33), (1, 13), (7, 31), (7, 32)),
  ((7, 66), (1, 13), (7, 64), (7, 65)),
  ((7, 84), (1, 13), (7, 82), (7, 83)),
  ((2, 113), (1, 11), (2, 112), (2, 113)),
  ((4, 213), (1, 11), (4, 211), (4, 212)),
  ((4, 217), (1, 11), (4, 216), (0, 32)),
  ((4, 223), (1, 11), (4, 222), (0, 33)),
  ((4, 231), (1, 11), (4, 230), (0, 34)),
  ((4, 235), (1, 11), (4, 234), (0, 35)),
  ((4, 239), (1, 11), (4, 238), (0, 36)),
  ((5, 7), (1, 11), (5, 5), (5, 6)),
  ((5, 12), (1, 11), (5, 10), (5, 11)),
  ((5, 23), (1, 11), (5, 22), (0, 37)),
  ((5, 45), (1, 11), (5, 44), (0, 38)),
  ((5, 53), (1, 11), (5, 52), (0, 39)),
  ((5, 57), (1, 11), (5, 56), (0, 40)),
  ((5, 103), (1, 11), (5, 102), (0, 44)),
  ((5, 107), (1, 11), (5, 106), (0, 45)),
  ((5, 111), (1, 11), (5, 109), (5, 110)),
  ((5, 125), (1, 11), (5, 124), (0, 46)),
  ((5, 130), (1, 11), (5, 129), (0, 47)),
  ((5, 134), (1, 11), (5, 133), (0, 48)),
  ((2, 227), (1, 14), (2, 226), (2, 227)),
  ((6, 88), (1, 14), (6, 86), (6, 87)),
  ((6, 126), (1, 14), (6, 124), (6, 125)),
  ((6, 150), (1, 14), (6, 148), (6, 149)),
  ((6, 154), (1, 14), (6, 153), (0, 80)),
  ((6, 159), (1, 14), (6, 158), (0, 81)),
  ((6, 163), (1, 14), (6, 162), (0, 82)),
  ((6, 167), (1, 14), (6, 166), (0, 83)),
  ((6, 179), (1, 14), (6, 178), (0, 84)),
  ((6, 188), (1, 14), (6, 187), (0, 85)),
  ((6, 200), (1, 14), (6, 199), (0, 86)),
  ((6, 204), (1, 14), (6, 203), (0, 87)),
  ((6, 208), (1, 14), (6, 207), (0, 88)),
  ((6, 212), (1, 14), (6, 211), (0, 89)),
  ((6, 216), (1, 14), (6, 215), (0, 90)),
  ((6, 220), (1, 14), (6, 219), (0, 91)),
  ((6, 224), (1, 14), (6, 223), (0, 92)),
  ((6, 232), (1, 14), (6, 231), (0, 93)),
  ((6, 236), (1, 14), (6, 235), (0, 94)),
  ((7, 5), (1, 14), (7, 4), (0, 95)),
  ((7, 16), (1, 14), (7, 15), (0, 96)),
  ((7, 21), (1, 14), (7, 20), (0, 97)),
  ((7, 37), (1, 14), (7, 36), (0, 98)),
  ((1, 40), (1, 3), (1, 39), (1, 40)),
  ((4, 45), (1, 3), (4, 43), (4, 44)),
  ((5, 121), (1, 3), (5, 119), (5, 120)),
  ((5, 140), (1, 3), (5, 138), (5, 139)),
  ((6, 11), (1, 3), (6, 9), (6, 10)),
  ((1, 34), (1, 2), (1, 33), (1, 34)),
  ((4, 35), (1, 2), (4, 33), (4, 34)),
  ((5, 19), (1, 2), (5, 18), (5, 19)),
  ((5, 26), (1, 2), (5, 25), (5, 26)),
  ((5, 30), (1, 2), (5, 28), (5, 29)),
  ((5, 33), (1, 2), (5, 32), (5, 33)),
  ((5, 36), (1, 2), (5, 35), (5, 36)),
  ((5, 40), (1, 2), (5, 38), (5, 39)),
  ((5, 49), (1, 2), (5, 47), (5, 48)),
  ((5, 61), (1, 2), (5, 59), (5, 60)),
  ((5, 65), (1, 2), (5, 63), (5, 64)),
  ((5, 69), (1, 2), (5, 67), (5, 68)),
  ((5, 75), (1, 2), (5, 73), (5, 74)),
  ((5, 79), (1, 2), (5, 77), (5, 78)),
  ((5, 83), (1, 2), (5, 81), (5, 82)),
  ((5, 87), (1, 2), (5, 85), (5, 86)),
  ((5, 91), (1, 2), (5, 90), (0, 41)),
  ((5, 95), (1, 2), (5, 94), (0, 42)),
  ((5, 99), (1, 2), (5, 98), (0, 43)),
  ((5, 117), (1, 2), (5, 115), (5, 116)),
  ((5, 144), (1, 2), (5, 142), (5, 143)),
  ((6, 5), (1, 2), (6, 3), (6, 4)),
  ((6, 14), (1, 2), (6, 13), (6, 14)),
  ((6, 29), (1, 2), (6, 27), (6, 28)),
  ((7, 119), (1, 2), (7, 117), (7, 118)),
  ((2, 66), (1, 10), (2, 65), (2, 66)),
  ((4, 49), (1, 10), (4, 47), (4, 48)),
  ((4, 57), (1, 10), (4, 56), (0, 7)),
  ((4, 82), (1, 10), (4, 81), (0, 8)),
  ((4, 86), (1, 10), (4, 85), (0, 9)),
  ((4, 90), (1, 10), (4, 89), (0, 10)),
  ((4, 94), (1, 10), (4, 93), (0, 11)),
  ((4, 98), (1, 10), (4, 97), (0, 12)),
  ((4, 102), (1, 10), (4, 101), (0, 13)),
  ((4, 106), (1, 10), (4, 105), (0, 14)),
  ((4, 110), (1, 10), (4, 109), (0, 15)),
  ((4, 114), (1, 10), (4, 113), (0, 16)),
  ((4, 122), (1, 10), (4, 121), (0, 17)),
  ((4, 127), (1, 10), (4, 126), (0, 18)),
  ((4, 131), (1, 10), (4, 130), (0, 19)),
  ((4, 143), (1, 10), (4, 142), (0, 20)),
  ((4, 151), (1, 10), (4, 150), (0, 21)),
  ((4, 155), (1, 10), (4, 154), (0, 22)),
  ((4, 159), (1, 10), (4, 158), (0, 23)),
  ((4, 163), (1, 10), (4, 162), (0, 24)),
  ((4, 167), (1, 10), (4, 166), (0, 25)),
  ((4, 171), (1, 10), (4, 170), (0, 26)),
  ((4, 175), (1, 10), (4, 174), (0, 27)),
  ((4, 179), (1, 10), (4, 178), (0, 28)),
  ((4, 183), (1, 10), (4, 182), (0, 29)),
  ((4, 204), (1, 10), (4, 203), (0, 30)),
  ((4, 208), (1, 10), (4, 207), (0, 31)),
  ((1, 217), (1, 5), (1, 216), (1, 217)),
  ((2, 30), (1, 5), (2, 29), (2, 30)),
  ((3, 177), (1, 5), (3, 175), (3, 176)),
  ((3, 180), (1, 5), (3, 179), (3, 180)),
  ((3, 184), (1, 5), (3, 183), (0, 1)),
  ((3, 187), (1, 5), (3, 186), (3, 187)),
  ((3, 191), (1, 5), (3, 190), (0, 2)),
  ((3, 194), (1, 5), (3, 193), (3, 194)),
  ((3, 198), (1, 5), (3, 197), (0, 3)),
  ((3, 202), (1, 5), (3, 201), (0, 4)),
  ((3, 206), (1, 5), (3, 205), (0, 5)),
  ((3, 211), (1, 5), (3, 210), (0, 6)),
  ((4, 53), (1, 5), (4, 51), (4, 52)),
  ((4, 61), (1, 5), (4, 59), (4, 60)),
  ((4, 65), (1, 5), (4, 63), (4, 64)),
  ((4, 69), (1, 5), (4, 67), (4, 68)),
  ((4, 73), (1, 5), (4, 71), (4, 72)),
  ((4, 77), (1, 5), (4, 75), (4, 76)),
  ((4, 118), (1, 5), (4, 116), (4, 117)),
  ((4, 135), (1, 5), (4, 133), (4, 134)),
  ((4, 139), (1, 5), (4, 137), (4, 138)),
  ((4, 147), (1, 5), (4, 145), (4, 146)),
  ((4, 187), (1, 5), (4, 185), (4, 186)),
  ((4, 191), (1, 5), (4, 189), (4, 190)),
  ((4, 196), (1, 5), (4, 194), (4, 195)),
  ((4, 200), (1, 5), (4, 198), (4, 199)),
  ((4, 227), (1, 5), (4, 225), (4, 226)),
  ((5, 3), (1, 5), (5, 1), (5, 2)),
  ((5, 16), (1, 5), (5, 14), (5, 15)),
  ((6, 25), (1, 5), (6, 23), (6, 24)),
  ((3, 86), (1, 16), (3, 85), (3, 86)),
  ((6, 100), (1, 16), (6, 98), (6, 99)),
  ((6, 142), (1, 16), (6, 140), (6, 141)),
  ((7, 92), (1, 16), (7, 90), (7, 91)),
  ((7, 96), (1, 16), (7, 95), (0, 99)),
  ((7, 101), (1, 16), (7, 100), (0, 100)),
  ((7, 106), (1, 16), (7, 105), (0, 101)),
  ((7, 110), (1, 16), (7, 109), (0, 102)),
  ((7, 115), (1, 16), (7, 114), (0, 103)),
  ((7, 124), (1, 16), (7, 123), (0, 104)),
  ((7, 132), (1, 16), (7, 130), (7, 131)),
  ((7, 136), (1, 16), (7, 135), (0, 105)),
  ((7, 140), (1, 16), (7, 139), (0, 106)),
  ((7, 148), (1, 16), (7, 147), (0, 107)),
  ((7, 152), (1, 16), (7, 151), (0, 108)),
  ((7, 156), (1, 16), (7, 155), (0, 109)),
  ((7, 164), (1, 16), (7, 162), (7, 163)),
  ((7, 172), (1, 16), (7, 170), (7, 171)),
  ((7, 180), (1, 16), (7, 178), (7, 179)),
  ((1, 26), (1, 1), (1, 25), (1, 26)),
  ((3, 165), (1, 1), (3, 163), (3, 164)),
  ((3, 169), (1, 1), (3, 168), (0, 0)),
  ((3, 173), (1, 1), (3, 171), (3, 172)),
  ((6, 84), (1, 1), (6, 83), (0, 78)),
  ((6, 104), (1, 1), (6, 102), (6, 103)),
  ((6, 108), (1, 1), (6, 106), (6, 107)),
  ((6, 113), (1, 1), (6, 111), (6, 112)),
  ((6, 117), (1, 1), (6, 116), (0, 79)),
  ((6, 122), (1, 1), (6, 120), (6, 121)),
  ((6, 146), (1, 1), (6, 144), (6, 145)),
  ((7, 41), (1, 1), (7, 39), (7, 40)),
  ((7, 45), (1, 1), (7, 43), (7, 44)),
  ((7, 49), (1, 1), (7, 47), (7, 48)),
  ((7, 53), (1, 1), (7, 51), (7, 52)),
  ((7, 58), (1, 1), (7, 56), (7, 57)),
  ((7, 71), (1, 1), (7, 69), (7, 70)),
  ((7, 75), (1, 1), (7, 73), (7, 74)),
  ((7, 80), (1, 1), (7, 78), (7, 79)),
  ((7, 88), (1, 1), (7, 86), (7, 87)),
  ((7, 128), (1, 1), (7, 126), (7, 127)),
  ((7, 160), (1, 1), (7, 158), (7, 159)),
  ((7, 168), (1, 1), (7, 166), (7, 167)),
  ((7, 176), (1, 1), (7, 174), (7, 175)),
  ((7, 185), (1, 17), (7, 184), (7, 185)),
  ((7, 190), (1, 17), (7, 189), (0, 110)),
  ((7, 193), (1, 17), (7, 192), (7, 193)),
  ((7, 196), (1, 17), (7, 195), (7, 196)),
  ((9, 132), (1, 17), (9, 130), (9, 131)),
  ((9, 135), (1, 17), (9, 134), (9, 135)),
  ((9, 139), (1, 17), (9, 138), (0, 111)),
  ((9, 143), (1, 17), (9, 142), (0, 112)),
  ((9, 147), (1, 17), (9, 146), (0, 113)),
  ((9, 151), (1, 17), (9, 150), (0, 114)),
  ((9, 155), (1, 17), (9, 154), (0, 115)),
  ((9, 159), (1, 17), (9, 158), (0, 116)),
  ((9, 163), (1, 17), (9, 162), (0, 117)),
  ((9, 167), (1, 17), (9, 166), (0, 118)),
  ((9, 171), (1, 17), (9, 170), (0, 119)),
  ((9, 175), (1, 17), (9, 174), (0, 120)),
  ((9, 179), (1, 17), (9, 178), (0, 121)),
  ((9, 183), (1, 17), (9, 182), (0, 122)),
  ((9, 188), (1, 17), (9, 187), (0, 123)),
  ((9, 192), (1, 17), (9, 191), (0, 124)),
  ((9, 196), (1, 17), (9, 194), (9, 195)),
  ((9, 200), (1, 17), (9, 199), (0, 125)),
  ((9, 204), (1, 17), (9, 203), (0, 126)),
  ((9, 208), (1, 17), (9, 207), (0, 127)),
  ((9, 212), (1, 17), (9, 211), (0, 128)),
  ((9, 216), (1, 17), (9, 215), (0, 129)),
  ((9, 220), (1, 17), (9, 218), (9, 219)),
  ((9, 224), (1, 17), (9, 223), (0, 130)),
  ((9, 228), (1, 17), (9, 227), (0, 131)),
  ((9, 232), (1, 17), (9, 231), (0, 132)),
  ((9, 236), (1, 17), (9, 234), (9, 235)),
  ((10, 0), (1, 17), (9, 238), (9, 239)),
  ((10, 4), (1, 17), (10, 2), (10, 3)),
  ((10, 8), (1, 17), (10, 6), (10, 7)),
  ((10, 12), (1, 17), (10, 11), (0, 133)),
  ((10, 16), (1, 17), (10, 14), (10, 15)),
  ((10, 20), (1, 17), (10, 19), (0, 134)),
  ((10, 24), (1, 17), (10, 23), (0, 135)),
  ((10, 28), (1, 17), (10, 27), (0, 136)),
  ((10, 32), (1, 17), (10, 31), (0, 137)),
  ((10, 36), (1, 17), (10, 35), (0, 138)),
  ((10, 40), (1, 17), (10, 39), (0, 139)),
  ((10, 44), (1, 17), (10, 43), (0, 140)),
  ((10, 48), (1, 17), (10, 47), (0, 141)),
  ((10, 52), (1, 17), (10, 51), (0, 142)),
  ((10, 56), (1, 17), (10, 55), (0, 143)),
  ((10, 60), (1, 17), (10, 59), (0, 144)),
  ((10, 64), (1, 17), (10, 63), (0, 145)),
  ((10, 70), (1, 17), (10, 69), (0, 146)),
  ((10, 74), (1, 17), (10, 73), (0, 147)),
  ((10, 78), (1, 17), (10, 77), (0, 148)),
  ((10, 82), (1, 17), (10, 81), (0, 149)),
  ((10, 86), (1, 17), (10, 85), (0, 150)),
  ((10, 90), (1, 17), (10, 89), (0, 151)),
  ((10, 94), (1, 17), (10, 93), (0, 152)),
  ((10, 98), (1, 17), (10, 97), (0, 153)),
  ((10, 102), (1, 17), (10, 101), (0, 154)),
  ((10, 106), (1, 17), (10, 105), (0, 155)),
  ((10, 110), (1, 17), (10, 109), (0, 156)),
  ((10, 114), (1, 17), (10, 113), (0, 157)),
  ((10, 118), (1, 17), (10, 117), (0, 158)),
  ((10, 122), (1, 17), (10, 121), (0, 159)),
  ((10, 126), (1, 17), (10, 125), (0, 160)),
  ((10, 130), (1, 17), (10, 129), (0, 161)),
  ((10, 134), (1, 17), (10, 133), (0, 162)),
  ((10, 138), (1, 17), (10, 137), (0, 163)),
  ((10, 142), (1, 17), (10, 141), (0, 164)),
  ((10, 146), (1, 17), (10, 145), (0, 165)),
  ((10, 150), (1, 17), (10, 149), (0, 166)),
  ((10, 154), (1, 17), (10, 153), (0, 167)),
  ((10, 158), (1, 17), (10, 157), (0, 168)),
  ((10, 161), (1, 17), (10, 160), (10, 161)),
  ((10, 165), (1, 17), (10, 164), (0, 169)),
  ((10, 169), (1, 17), (10, 168), (0, 170)),
  ((10, 173), (1, 17), (10, 172), (0, 171)),
  ((10, 177), (1, 17), (10, 176), (0, 172)),
  ((10, 181), (1, 17), (10, 180), (0, 173)),
  ((10, 185), (1, 17), (10, 184), (0, 174)),
  ((10, 189), (1, 17), (10, 188), (0, 175)),
  ((10, 193), (1, 17), (10, 192), (0, 176)),
  ((10, 197), (1, 17), (10, 196), (0, 177)),
  ((10, 201), (1, 17), (10, 200), (0, 178)),
  ((10, 205), (1, 17), (10, 204), (0, 179)),
  ((10, 209), (1, 17), (10, 208), (0, 180)),
  ((10, 213), (1, 17), (10, 212), (0, 181)),
  ((10, 217), (1, 17), (10, 216), (0, 182)),
  ((10, 221), (1, 17), (10, 220), (0, 183)),
  ((10, 224), (1, 17), (10, 223), (10, 224)),
  ((10, 228), (1, 17), (10, 227), (0, 184)),
  ((10, 232), (1, 17), (10, 231), (0, 185)),
  ((10, 236), (1, 17), (10, 235), (0, 186)),
  ((11, 0), (1, 17), (10, 239), (0, 187)),
  ((11, 4), (1, 17), (11, 3), (0, 188)),
  ((11, 8), (1, 17), (11, 7), (0, 189)),
  ((11, 12), (1, 17), (11, 11), (0, 190)),
  ((11, 16), (1, 17), (11, 15), (0, 191)),
  ((11, 20), (1, 17), (11, 19), (0, 192)),
  ((11, 24), (1, 17), (11, 23), (0, 193)),
  ((11, 28), (1, 17), (11, 27), (0, 194)),
  ((11, 32), (1, 17), (11, 31), (0, 195)),
  ((11, 36), (1, 17), (11, 35), (0, 196)),
  ((11, 40), (1, 17), (11, 39), (0, 197)),
  ((11, 44), (1, 17), (11, 43), (0, 198)),
  ((11, 48), (1, 17), (11, 47), (0, 199)),
  ((11, 52), (1, 17), (11, 51), (0, 200)),
  ((11, 56), (1, 17), (11, 55), (0, 201)),
  ((11, 60), (1, 17), (11, 59), (0, 202)),
  ((11, 64), (1, 17), (11, 63), (0, 203)),
  ((11, 68), (1, 17), (11, 67), (0, 204)),
  ((11, 72), (1, 17), (11, 71), (0, 205)),
  ((11, 76), (1, 17), (11, 75), (0, 206)),
  ((11, 80), (1, 17), (11, 78), (11, 79)),
  ((11, 84), (1, 17), (11, 82), (11, 83)),
  ((11, 88), (1, 17), (11, 87), (0, 207)),
  ((11, 92), (1, 17), (11, 90), (11, 91)),
  ((11, 96), (1, 17), (11, 94), (11, 95)),
  ((11, 100), (1, 17), (11, 98), (11, 99)),
  ((11, 104), (1, 17), (11, 102), (11, 103)),
  ((11, 108), (1, 17), (11, 106), (11, 107)),
  ((11, 112), (1, 17), (11, 111), (0, 208)),
  ((11, 116), (1, 17), (11, 114), (11, 115)),
  ((11, 120), (1, 17), (11, 118), (11, 119)),
  ((11, 124), (1, 17), (11, 123), (0, 209)),
  ((11, 128), (1, 17), (11, 126), (11, 127)),
  ((11, 132), (1, 17), (11, 130), (11, 131)),
  ((11, 136), (1, 17), (11, 134), (11, 135)),
  ((4, 23), (1, 19), (4, 22), (4, 23)),
  ((4, 26), (1, 19), (4, 25), (4, 26)),
  ((4, 30), (1, 19), (4, 29), (4, 30)),
  ((3, 230), (1, 18), (3, 229), (3, 230)),
  ((3, 233), (1, 18), (3, 232), (3, 233)),
  ((1, 223), (1, 6), (1, 221), (1, 222)),
  ((1, 227), (1, 6), (1, 225), (1, 226)),
  ((1, 233), (1, 6), (1, 231), (1, 232)),
  ((1, 237), (1, 6), (1, 235), (1, 236)),
  ((2, 3), (1, 6), (2, 2), (2, 3)),
  ((3, 216), (1, 6), (3, 214), (3, 215)),
  ((3, 220), (1, 6), (3, 218), (3, 219)),
  ((4, 11), (1, 6), (4, 10), (4, 11)),
  ((2, 0), (1, 7), (1, 239), (2, 0)),
  ((3, 224), (1, 7), (3, 223), (3, 224)),
  ((3, 227), (1, 7), (3, 226), (3, 227)),
  ((3, 236), (1, 7), (3, 235), (3, 236)),
  ((2, 11), (1, 9), (2, 10), (2, 11)),
  ((2, 14), (1, 9), (2, 13), (2, 14)),
  ((2, 17), (1, 9), (2, 16), (2, 17)),
  ((2, 21), (1, 9), (2, 20), (2, 21)),
  ((3, 239), (1, 9), (3, 238), (3, 239)),
  ((4, 5), (1, 9), (4, 4), (4, 5)),
  ((4, 8), (1, 9), (4, 7), (4, 8)),
  ((4, 17), (1, 9), (4, 16), (4, 17)),
  ((4, 20), (1, 9), (4, 19), (4, 20)),
  ((4, 38), (1, 20), (4, 37), (4, 38)),
  ((4, 41), (1, 20), (4, 40), (4, 41)),
  ((6, 134), (1, 20), (6, 133), (6, 134)),
  ((6, 137), (1, 20), (6, 136), (6, 137)),
  ((2, 8), (1, 8), (2, 7), (2, 8)),
  ((4, 14), (1, 8), (4, 13), (4, 14))]
def mjLay : List (List (Nat × Nat)) := [[(1, 125), (1, 127), (1, 129), (1, 131)],
  [(2, 163), (2, 165), (2, 167), (2, 169), (2, 171), (2, 173), (2, 175), (2, 177), (2, 179), (2, 181), (2, 183), (2, 185), (2, 187), (2, 189), (2, 191), (2, 193), (2, 195)],
  [(3, 13), (3, 15), (3, 17), (3, 19), (3, 21), (3, 23), (3, 25)],
  [(2, 212), (2, 214), (2, 216), (2, 218), (2, 220)],
  [(2, 123), (2, 125), (2, 127), (2, 129), (2, 131), (2, 133), (2, 135), (2, 137)],
  [(3, 51), (3, 53), (3, 55), (3, 57), (3, 59), (3, 61), (3, 63), (3, 65), (3, 67), (3, 69), (3, 71), (3, 73), (3, 75), (3, 77), (3, 79)],
  [(1, 84), (1, 86), (1, 88), (1, 90), (1, 92), (1, 94), (1, 96), (1, 98), (1, 100), (1, 102)],
  [(1, 180), (1, 182), (1, 184), (1, 186), (1, 188), (1, 190), (1, 192), (1, 194), (1, 196), (1, 198), (1, 200), (1, 202), (1, 204), (1, 206), (1, 208), (1, 210)],
  [(2, 86), (2, 88), (2, 90), (2, 92), (2, 94), (2, 96), (2, 98), (2, 100), (2, 102), (2, 104), (2, 106)],
  [(2, 43), (2, 45), (2, 47), (2, 49), (2, 51), (2, 53), (2, 55), (2, 57), (2, 59)],
  [(3, 98), (3, 100), (3, 102), (3, 104), (3, 106), (3, 108), (3, 110), (3, 112), (3, 114), (3, 116)],
  [(3, 133), (3, 135), (3, 137), (3, 139), (3, 141), (3, 143), (3, 145), (3, 147), (3, 149), (3, 151), (3, 153), (3, 155), (3, 157), (3, 159)],
  [(8, 94), (8, 96), (8, 98), (8, 100), (8, 102), (8, 104), (8, 106), (8, 108), (8, 110), (8, 112), (8, 114), (8, 116), (8, 118), (8, 120), (8, 122), (8, 124), (8, 126), (8, 128), (8, 130), (8, 132), (8, 134), (8, 136), (8, 138), (8, 140), (8, 142), (8, 144), (8, 146), (8, 148), (8, 150), (8, 152), (8, 154), (8, 156), (8, 158), (8, 160), (8, 162), (8, 164), (8, 166), (8, 168), (8, 170), (8, 172), (8, 174), (8, 176), (8, 178), (8, 180), (8, 182), (8, 184), (8, 186), (8, 188), (8, 190), (8, 192), (8, 194), (8, 196), (8, 198), (8, 200), (8, 202), (8, 204), (8, 206), (8, 208), (8, 210), (8, 212), (8, 214), (8, 216), (8, 218), (8, 220), (8, 222), (8, 224), (8, 226), (8, 228), (8, 230), (8, 232), (8, 234), (8, 236), (8, 238), (9, 0), (9, 2), (9, 4), (9, 6), (9, 8), (9, 10), (9, 12), (9, 14), (9, 16), (9, 18), (9, 20), (9, 22), (9, 24), (9, 26), (9, 28), (9, 30), (9, 32), (9, 34), (9, 36), (9, 38), (9, 40), (9, 42), (9, 44), (9, 46), (9, 48), (9, 50), (9, 52), (9, 54), (9, 56), (9, 58), (9, 60), (9, 62), (9, 64), (9, 66), (9, 68), (9, 70), (9, 72), (9, 74), (9, 76), (9, 78), (9, 80), (9, 82), (9, 84), (9, 86), (9, 88), (9, 90), (9, 92), (9, 94), (9, 96), (9, 98), (9, 100), (9, 102), (9, 104), (9, 106), (9, 108), (9, 110), (9, 112), (9, 114), (9, 116), (9, 118), (9, 120), (9, 122), (9, 124), (9, 126)]]
def mjInst : List ((Nat × Nat) × (Nat × Nat)) := [((1, 110), (1, 4)), ((2, 141), (1, 12)), ((2, 230), (1, 15)), ((2, 199), (1, 13)), ((2, 110), (1, 11)), ((2, 224), (1, 14)), ((1, 37), (1, 3)), ((1, 31), (1, 2)), ((2, 63), (1, 10)), ((1, 214), (1, 5)), ((3, 83), (1, 16)), ((1, 23), (1, 1)), ((7, 182), (1, 17))]
def mjSr (cn idx : Nat) : Option Nat := match cn, idx with
  | 9, 28 => some 0
  | 9, 92 => some 1
  | _, _ => none
def mjKt (i : Nat) : String := match i with
  | 0 => "class is where in main int null this world new if else while return say as "
  | _ => "{}()[],;.=<+-*/%"
def mjKl : List Nat := [75, 16]
def mjKb : List (List Int32) := [[99, 108, 97, 115, 115, 32, 105, 115, 32, 119, 104, 101, 114, 101, 32, 105, 110, 32, 109, 97, 105, 110, 32, 105, 110, 116, 32, 110, 117, 108, 108, 32, 116, 104, 105, 115, 32, 119, 111, 114, 108, 100, 32, 110, 101, 119, 32, 105, 102, 32, 101, 108, 115, 101, 32, 119, 104, 105, 108, 101, 32, 114, 101, 116, 117, 114, 110, 32, 115, 97, 121, 32, 97, 115, 32], [123, 125, 40, 41, 91, 93, 44, 59, 46, 61, 60, 43, 45, 42, 47, 37]]
def mjKp : List (Nat × Nat) := [(1, 228), (2, 4), (11, 137), (11, 138)]
