def RX0 : String := "TransducerBench$Composer"
def TX0 : u_T := fun k => match k with
  | 0 => ("TransducerBench$Composer", "pairs", "[I", true)
  | 1 => ("TransducerBench$Composer", "pairCount", "I", false)
  | 2 => ("TransducerBench$Composer", "chosen", "[I", true)
  | 3 => ("TransducerBench$Composer", "guards", "[LTransducerBench$SymbolSet;", true)
  | 4 => ("TransducerBench$Composer", "open", "[LTransducerBench$SymbolSet;", true)
  | 5 => ("TransducerBench$Composer", "trial", "LTransducerBench$SymbolSet;", true)
  | _ => ("TransducerBench$Composer", "isFitting", "Z", false)
def tyX0 : Nat → FieldType := fun k => match k with
  | 0 => .array .int
  | 1 => .int
  | 2 => .array .int
  | 3 => .array (.object "TransducerBench$SymbolSet")
  | 4 => .array (.object "TransducerBench$SymbolSet")
  | 5 => .object "TransducerBench$SymbolSet"
  | _ => .boolean
abbrev wsX00 : List Cond := u_ws RX0 TX0 7
theorem nmX0 : ∀ a, a < 7 → ∀ b, b < 7 → a ≠ b → (TX0 a).2.1 ≠ (TX0 b).2.1 := by decide +kernel
theorem tyX0_ok : ∀ k, k < 7 → parseFieldDescriptor (TX0 k).2.2.1 = some (tyX0 k) := by decide +kernel
abbrev cX0_init : ByteArray := prog_2_method_1_code
def yX0_init : MethodName := ⟨RX0, "<init>", "()V"⟩
abbrev cX0_build : ByteArray := prog_2_method_2_code
def yX0_build : MethodName := ⟨RX0, "build", "(LTransducerBench$Transducer;LTransducerBench$Transducer;LTransducerBench$Transducer;)Z"⟩
abbrev cX0_addRulesFrom : ByteArray := prog_2_method_3_code
def yX0_addRulesFrom : MethodName := ⟨RX0, "addRulesFrom", "(ILTransducerBench$Transducer;LTransducerBench$Transducer;LTransducerBench$Transducer;)V"⟩
abbrev cX0_findOpen : ByteArray := prog_2_method_4_code
def yX0_findOpen : MethodName := ⟨RX0, "findOpen", "(LTransducerBench$Rule;LTransducerBench$Transducer;)V"⟩
abbrev cX0_findTakers : ByteArray := prog_2_method_5_code
def yX0_findTakers : MethodName := ⟨RX0, "findTakers", "(ILTransducerBench$Rule;LTransducerBench$SymbolSet;)V"⟩
abbrev cX0_extend : ByteArray := prog_2_method_6_code
def yX0_extend : MethodName := ⟨RX0, "extend", "(LTransducerBench$Rule;LTransducerBench$Transducer;LTransducerBench$Transducer;III)V"⟩
abbrev cX0_addCombined : ByteArray := prog_2_method_7_code
def yX0_addCombined : MethodName := ⟨RX0, "addCombined", "(LTransducerBench$Rule;LTransducerBench$Transducer;LTransducerBench$Transducer;II)V"⟩
abbrev cX0_numberOf : ByteArray := prog_2_method_8_code
def yX0_numberOf : MethodName := ⟨RX0, "numberOf", "(I)I"⟩
def RX1 : String := "TransducerBench$Domains"
def TX1 : u_T := fun k => match k with
  | 0 => ("TransducerBench$Domains", "steps", "LTransducerBench$Steps;", true)
  | 1 => ("TransducerBench$Domains", "otherSteps", "LTransducerBench$Steps;", true)
  | 2 => ("TransducerBench$Domains", "groupSymbol", "[I", true)
  | 3 => ("TransducerBench$Domains", "groupSize", "[I", true)
  | 4 => ("TransducerBench$Domains", "groupCount", "I", false)
  | 5 => ("TransducerBench$Domains", "counts", "[J", true)
  | 6 => ("TransducerBench$Domains", "nextCounts", "[J", true)
  | 7 => ("TransducerBench$Domains", "sets", "[I", true)
  | 8 => ("TransducerBench$Domains", "nextSets", "[I", true)
  | 9 => ("TransducerBench$Domains", "setCount", "I", false)
  | 10 => ("TransducerBench$Domains", "firstSet", "I", false)
  | 11 => ("TransducerBench$Domains", "met", "[I", true)
  | 12 => ("TransducerBench$Domains", "waiting", "[I", true)
  | _ => ("TransducerBench$Domains", "near", "[I", true)
def tyX1 : Nat → FieldType := fun k => match k with
  | 0 => .object "TransducerBench$Steps"
  | 1 => .object "TransducerBench$Steps"
  | 2 => .array .int
  | 3 => .array .int
  | 4 => .int
  | 5 => .array .long
  | 6 => .array .long
  | 7 => .array .int
  | 8 => .array .int
  | 9 => .int
  | 10 => .int
  | 11 => .array .int
  | 12 => .array .int
  | _ => .array .int
abbrev wsX10 : List Cond := u_ws RX1 TX1 14
theorem nmX1 : ∀ a, a < 14 → ∀ b, b < 14 → a ≠ b → (TX1 a).2.1 ≠ (TX1 b).2.1 := by decide +kernel
theorem tyX1_ok : ∀ k, k < 14 → parseFieldDescriptor (TX1 k).2.2.1 = some (tyX1 k) := by decide +kernel
abbrev cX1_init : ByteArray := prog_3_method_1_code
def yX1_init : MethodName := ⟨RX1, "<init>", "()V"⟩
abbrev cX1_findGroups : ByteArray := prog_3_method_2_code
def yX1_findGroups : MethodName := ⟨RX1, "findGroups", "(LTransducerBench$Steps;LTransducerBench$Steps;)V"⟩
abbrev cX1_countWords : ByteArray := prog_3_method_3_code
def yX1_countWords : MethodName := ⟨RX1, "countWords", "(LTransducerBench$Transducer;I)J"⟩
abbrev cX1_countLonger : ByteArray := prog_3_method_4_code
def yX1_countLonger : MethodName := ⟨RX1, "countLonger", "()V"⟩
abbrev cX1_takeNext : ByteArray := prog_3_method_5_code
def yX1_takeNext : MethodName := ⟨RX1, "takeNext", "(I)V"⟩
abbrev cX1_isContained : ByteArray := prog_3_method_6_code
def yX1_isContained : MethodName := ⟨RX1, "isContained", "(LTransducerBench$Transducer;LTransducerBench$Transducer;)Z"⟩
abbrev cX1_followFirst : ByteArray := prog_3_method_7_code
def yX1_followFirst : MethodName := ⟨RX1, "followFirst", "()Z"⟩
abbrev cX1_meet : ByteArray := prog_3_method_8_code
def yX1_meet : MethodName := ⟨RX1, "meet", "(II)Z"⟩
abbrev cX1_findShortest : ByteArray := prog_3_method_9_code
def yX1_findShortest : MethodName := ⟨RX1, "findShortest", "(LTransducerBench$Transducer;LTransducerBench$Word;)Z"⟩
abbrev cX1_firstSymbol : ByteArray := prog_3_method_10_code
def yX1_firstSymbol : MethodName := ⟨RX1, "firstSymbol", "(II)I"⟩
def RX2 : String := "TransducerBench$History"
def TX2 : u_T := fun k => match k with
  | 0 => ("TransducerBench$History", "before", "[LTransducerBench$Transducer;", true)
  | 1 => ("TransducerBench$History", "changed", "[I", true)
  | 2 => ("TransducerBench$History", "next", "I", false)
  | _ => ("TransducerBench$History", "size", "I", false)
def tyX2 : Nat → FieldType := fun k => match k with
  | 0 => .array (.object "TransducerBench$Transducer")
  | 1 => .array .int
  | 2 => .int
  | _ => .int
abbrev wsX20 : List Cond := u_ws RX2 TX2 4
theorem nmX2 : ∀ a, a < 4 → ∀ b, b < 4 → a ≠ b → (TX2 a).2.1 ≠ (TX2 b).2.1 := by decide +kernel
theorem tyX2_ok : ∀ k, k < 4 → parseFieldDescriptor (TX2 k).2.2.1 = some (tyX2 k) := by decide +kernel
abbrev cX2_init : ByteArray := prog_4_method_1_code
def yX2_init : MethodName := ⟨RX2, "<init>", "()V"⟩
abbrev cX2_save : ByteArray := prog_4_method_2_code
def yX2_save : MethodName := ⟨RX2, "save", "(ILTransducerBench$Transducer;)V"⟩
abbrev cX2_takeBack : ByteArray := prog_4_method_3_code
def yX2_takeBack : MethodName := ⟨RX2, "takeBack", "([LTransducerBench$Transducer;)I"⟩
def RX3 : String := "TransducerBench$Outputs"
def TX3 : u_T := fun k => match k with
  | 0 => ("TransducerBench$Outputs", "counts", "[J", true)
  | 1 => ("TransducerBench$Outputs", "nextCounts", "[J", true)
  | 2 => ("TransducerBench$Outputs", "chosen", "[LTransducerBench$Word;", true)
  | 3 => ("TransducerBench$Outputs", "earlier", "[LTransducerBench$Word;", true)
  | 4 => ("TransducerBench$Outputs", "candidate", "LTransducerBench$Word;", true)
  | 5 => ("TransducerBench$Outputs", "enabled", "LTransducerBench$SymbolSet;", true)
  | 6 => ("TransducerBench$Outputs", "found", "LTransducerBench$SymbolSet;", true)
  | _ => ("TransducerBench$Outputs", "hopeful", "I", false)
def tyX3 : Nat → FieldType := fun k => match k with
  | 0 => .array .long
  | 1 => .array .long
  | 2 => .array (.object "TransducerBench$Word")
  | 3 => .array (.object "TransducerBench$Word")
  | 4 => .object "TransducerBench$Word"
  | 5 => .object "TransducerBench$SymbolSet"
  | 6 => .object "TransducerBench$SymbolSet"
  | _ => .int
abbrev wsX30 : List Cond := u_ws RX3 TX3 8
theorem nmX3 : ∀ a, a < 8 → ∀ b, b < 8 → a ≠ b → (TX3 a).2.1 ≠ (TX3 b).2.1 := by decide +kernel
theorem tyX3_ok : ∀ k, k < 8 → parseFieldDescriptor (TX3 k).2.2.1 = some (tyX3 k) := by decide +kernel
abbrev cX3_init : ByteArray := prog_5_method_1_code
def yX3_init : MethodName := ⟨RX3, "<init>", "()V"⟩
abbrev cX3_countRuns : ByteArray := prog_5_method_2_code
def yX3_countRuns : MethodName := ⟨RX3, "countRuns", "(LTransducerBench$Transducer;LTransducerBench$Word;)J"⟩
abbrev cX3_countStep : ByteArray := prog_5_method_3_code
def yX3_countStep : MethodName := ⟨RX3, "countStep", "(LTransducerBench$Transducer;I)V"⟩
abbrev cX3_find : ByteArray := prog_5_method_4_code
def yX3_find : MethodName := ⟨RX3, "find", "(LTransducerBench$Transducer;LTransducerBench$Word;ZLTransducerBench$Word;)Z"⟩
abbrev cX3_chooseEarlier : ByteArray := prog_5_method_5_code
def yX3_chooseEarlier : MethodName := ⟨RX3, "chooseEarlier", "(LTransducerBench$Transducer;IZ)V"⟩
abbrev cX3_isBetter : ByteArray := prog_5_method_6_code
def yX3_isBetter : MethodName := ⟨RX3, "isBetter", "(LTransducerBench$Word;Z)Z"⟩
abbrev cX3_countSymbols : ByteArray := prog_5_method_7_code
def yX3_countSymbols : MethodName := ⟨RX3, "countSymbols", "(LTransducerBench$Transducer;)I"⟩
abbrev cX3_includeValues : ByteArray := prog_5_method_8_code
def yX3_includeValues : MethodName := ⟨RX3, "includeValues", "(LTransducerBench$Rule;)V"⟩
def RX4 : String := "TransducerBench$Pairing"
def TX4 : u_T := fun k => match k with
  | 0 => ("TransducerBench$Pairing", "isHopeful", "[Z", true)
  | 1 => ("TransducerBench$Pairing", "isFound", "[Z", true)
  | 2 => ("TransducerBench$Pairing", "found", "[I", true)
  | 3 => ("TransducerBench$Pairing", "foundCount", "I", false)
  | 4 => ("TransducerBench$Pairing", "lead", "[I", true)
  | 5 => ("TransducerBench$Pairing", "start", "[I", true)
  | 6 => ("TransducerBench$Pairing", "pool", "[I", false)
  | 7 => ("TransducerBench$Pairing", "poolSize", "I", false)
  | 8 => ("TransducerBench$Pairing", "first", "[I", true)
  | 9 => ("TransducerBench$Pairing", "second", "[I", true)
  | 10 => ("TransducerBench$Pairing", "firstLength", "I", false)
  | _ => ("TransducerBench$Pairing", "secondLength", "I", false)
def tyX4 : Nat → FieldType := fun k => match k with
  | 0 => .array .boolean
  | 1 => .array .boolean
  | 2 => .array .int
  | 3 => .int
  | 4 => .array .int
  | 5 => .array .int
  | 6 => .array .int
  | 7 => .int
  | 8 => .array .int
  | 9 => .array .int
  | 10 => .int
  | _ => .int
abbrev wsX40 : List Cond := u_ws RX4 TX4 12
theorem nmX4 : ∀ a, a < 12 → ∀ b, b < 12 → a ≠ b → (TX4 a).2.1 ≠ (TX4 b).2.1 := by decide +kernel
theorem tyX4_ok : ∀ k, k < 12 → parseFieldDescriptor (TX4 k).2.2.1 = some (tyX4 k) := by decide +kernel
abbrev cX4_init : ByteArray := prog_6_method_1_code
def yX4_init : MethodName := ⟨RX4, "<init>", "()V"⟩
abbrev cX4_isAgreed : ByteArray := prog_6_method_2_code
def yX4_isAgreed : MethodName := ⟨RX4, "isAgreed", "(LTransducerBench$Transducer;LTransducerBench$Transducer;)Z"⟩
abbrev cX4_findHopeful : ByteArray := prog_6_method_3_code
def yX4_findHopeful : MethodName := ⟨RX4, "findHopeful", "(LTransducerBench$Transducer;LTransducerBench$Transducer;)V"⟩
abbrev cX4_isFinalPair : ByteArray := prog_6_method_4_code
def yX4_isFinalPair : MethodName := ⟨RX4, "isFinalPair", "(LTransducerBench$Transducer;LTransducerBench$Transducer;I)Z"⟩
abbrev cX4_addHopeful : ByteArray := prog_6_method_5_code
def yX4_addHopeful : MethodName := ⟨RX4, "addHopeful", "(LTransducerBench$Rule;LTransducerBench$Transducer;)Z"⟩
abbrev cX4_follow : ByteArray := prog_6_method_6_code
def yX4_follow : MethodName := ⟨RX4, "follow", "(LTransducerBench$Transducer;LTransducerBench$Transducer;I)Z"⟩
abbrev cX4_followRules : ByteArray := prog_6_method_7_code
def yX4_followRules : MethodName := ⟨RX4, "followRules", "(LTransducerBench$Transducer;LTransducerBench$Transducer;LTransducerBench$Rule;LTransducerBench$Rule;)Z"⟩
abbrev cX4_loadAhead : ByteArray := prog_6_method_8_code
def yX4_loadAhead : MethodName := ⟨RX4, "loadAhead", "(I)V"⟩
abbrev cX4_appendOutputs : ByteArray := prog_6_method_9_code
def yX4_appendOutputs : MethodName := ⟨RX4, "appendOutputs", "(LTransducerBench$Rule;LTransducerBench$Rule;I)V"⟩
abbrev cX4_isFitting : ByteArray := prog_6_method_10_code
def yX4_isFitting : MethodName := ⟨RX4, "isFitting", "(IZ)Z"⟩
abbrev cX4_isSameLead : ByteArray := prog_6_method_11_code
def yX4_isSameLead : MethodName := ⟨RX4, "isSameLead", "(II)Z"⟩
abbrev cX4_keepPair : ByteArray := prog_6_method_12_code
def yX4_keepPair : MethodName := ⟨RX4, "keepPair", "(II)V"⟩
def RX5 : String := "TransducerBench$Reader"
def TX5 : u_T := fun k => match k with
  | 0 => ("TransducerBench$Reader", "letters", "[C", true)
  | 1 => ("TransducerBench$Reader", "length", "I", false)
  | 2 => ("TransducerBench$Reader", "at", "I", false)
  | 3 => ("TransducerBench$Reader", "number", "I", false)
  | 4 => ("TransducerBench$Reader", "rule", "LTransducerBench$Rule;", true)
  | 5 => ("TransducerBench$Reader", "hasWrongNumber", "Z", false)
  | _ => ("TransducerBench$Reader", "hasTooManyRules", "Z", false)
def tyX5 : Nat → FieldType := fun k => match k with
  | 0 => .array .char
  | 1 => .int
  | 2 => .int
  | 3 => .int
  | 4 => .object "TransducerBench$Rule"
  | 5 => .boolean
  | _ => .boolean
abbrev wsX50 : List Cond := u_ws RX5 TX5 7
theorem nmX5 : ∀ a, a < 7 → ∀ b, b < 7 → a ≠ b → (TX5 a).2.1 ≠ (TX5 b).2.1 := by decide +kernel
theorem tyX5_ok : ∀ k, k < 7 → parseFieldDescriptor (TX5 k).2.2.1 = some (tyX5 k) := by decide +kernel
abbrev cX5_init : ByteArray := prog_7_method_1_code
def yX5_init : MethodName := ⟨RX5, "<init>", "()V"⟩
abbrev cX5_append : ByteArray := prog_7_method_2_code
def yX5_append : MethodName := ⟨RX5, "append", "(C)V"⟩
abbrev cX5_clear : ByteArray := prog_7_method_3_code
def yX5_clear : MethodName := ⟨RX5, "clear", "()V"⟩
abbrev cX5_readInto : ByteArray := prog_7_method_4_code
def yX5_readInto : MethodName := ⟨RX5, "readInto", "(LTransducerBench$Transducer;)Z"⟩
abbrev cX5_readFinal : ByteArray := prog_7_method_5_code
def yX5_readFinal : MethodName := ⟨RX5, "readFinal", "(LTransducerBench$Transducer;)Z"⟩
abbrev cX5_readRule : ByteArray := prog_7_method_6_code
def yX5_readRule : MethodName := ⟨RX5, "readRule", "(LTransducerBench$Transducer;)Z"⟩
abbrev cX5_isState : ByteArray := prog_7_method_7_code
def yX5_isState : MethodName := ⟨RX5, "isState", "(I)Z"⟩
abbrev cX5_keepRule : ByteArray := prog_7_method_8_code
def yX5_keepRule : MethodName := ⟨RX5, "keepRule", "(LTransducerBench$Transducer;)V"⟩
abbrev cX5_readRanges : ByteArray := prog_7_method_9_code
def yX5_readRanges : MethodName := ⟨RX5, "readRanges", "()Z"⟩
abbrev cX5_readRange : ByteArray := prog_7_method_10_code
def yX5_readRange : MethodName := ⟨RX5, "readRange", "()Z"⟩
abbrev cX5_readTerms : ByteArray := prog_7_method_11_code
def yX5_readTerms : MethodName := ⟨RX5, "readTerms", "()Z"⟩
abbrev cX5_readTerm : ByteArray := prog_7_method_12_code
def yX5_readTerm : MethodName := ⟨RX5, "readTerm", "()Z"⟩
abbrev cX5_readNumber : ByteArray := prog_7_method_13_code
def yX5_readNumber : MethodName := ⟨RX5, "readNumber", "()Z"⟩
abbrev cX5_takeDigit : ByteArray := prog_7_method_14_code
def yX5_takeDigit : MethodName := ⟨RX5, "takeDigit", "()I"⟩
abbrev cX5_isAtDigit : ByteArray := prog_7_method_15_code
def yX5_isAtDigit : MethodName := ⟨RX5, "isAtDigit", "()Z"⟩
abbrev cX5_isAt : ByteArray := prog_7_method_16_code
def yX5_isAt : MethodName := ⟨RX5, "isAt", "(C)Z"⟩
abbrev cX5_skip : ByteArray := prog_7_method_17_code
def yX5_skip : MethodName := ⟨RX5, "skip", "(C)Z"⟩
def RX6 : String := "TransducerBench$Rule"
def TX6 : u_T := fun k => match k with
  | 0 => ("TransducerBench$Rule", "from", "I", false)
  | 1 => ("TransducerBench$Rule", "to", "I", false)
  | 2 => ("TransducerBench$Rule", "guard", "LTransducerBench$SymbolSet;", true)
  | 3 => ("TransducerBench$Rule", "terms", "[I", true)
  | 4 => ("TransducerBench$Rule", "termCount", "I", false)
  | 5 => ("TransducerBench$Rule", "lowest", "I", false)
  | _ => ("TransducerBench$Rule", "highest", "I", false)
def tyX6 : Nat → FieldType := fun k => match k with
  | 0 => .int
  | 1 => .int
  | 2 => .object "TransducerBench$SymbolSet"
  | 3 => .array .int
  | 4 => .int
  | 5 => .int
  | _ => .int
abbrev wsX60 : List Cond := u_ws RX6 TX6 7
theorem nmX6 : ∀ a, a < 7 → ∀ b, b < 7 → a ≠ b → (TX6 a).2.1 ≠ (TX6 b).2.1 := by decide +kernel
theorem tyX6_ok : ∀ k, k < 7 → parseFieldDescriptor (TX6 k).2.2.1 = some (tyX6 k) := by decide +kernel
abbrev cX6_init : ByteArray := prog_8_method_1_code
def yX6_init : MethodName := ⟨RX6, "<init>", "()V"⟩
abbrev cX6_begin : ByteArray := prog_8_method_2_code
def yX6_begin : MethodName := ⟨RX6, "begin", "(II)V"⟩
abbrev cX6_copyFrom : ByteArray := prog_8_method_3_code
def yX6_copyFrom : MethodName := ⟨RX6, "copyFrom", "(LTransducerBench$Rule;)V"⟩
abbrev cX6_append : ByteArray := prog_8_method_4_code
def yX6_append : MethodName := ⟨RX6, "append", "(I)V"⟩
abbrev cX6_valueAt : ByteArray := prog_8_method_5_code
def yX6_valueAt : MethodName := ⟨RX6, "valueAt", "(II)I"⟩
abbrev cX6_isEnabled : ByteArray := prog_8_method_6_code
def yX6_isEnabled : MethodName := ⟨RX6, "isEnabled", "(I)Z"⟩
abbrev cX6_isEverEnabled : ByteArray := prog_8_method_7_code
def yX6_isEverEnabled : MethodName := ⟨RX6, "isEverEnabled", "()Z"⟩
abbrev cX6_isEnabledWith : ByteArray := prog_8_method_8_code
def yX6_isEnabledWith : MethodName := ⟨RX6, "isEnabledWith", "(LTransducerBench$Rule;)Z"⟩
abbrev cX6_enabledInto : ByteArray := prog_8_method_9_code
def yX6_enabledInto : MethodName := ⟨RX6, "enabledInto", "(LTransducerBench$SymbolSet;)V"⟩
def RX7 : String := "TransducerBench$Steps"
def TX7 : u_T := fun k => match k with
  | 0 => ("TransducerBench$Steps", "targets", "[I", true)
  | _ => ("TransducerBench$Steps", "finalStates", "I", false)
def tyX7 : Nat → FieldType := fun k => match k with
  | 0 => .array .int
  | _ => .int
abbrev wsX70 : List Cond := u_ws RX7 TX7 2
theorem nmX7 : ∀ a, a < 2 → ∀ b, b < 2 → a ≠ b → (TX7 a).2.1 ≠ (TX7 b).2.1 := by decide +kernel
theorem tyX7_ok : ∀ k, k < 2 → parseFieldDescriptor (TX7 k).2.2.1 = some (tyX7 k) := by decide +kernel
abbrev cX7_init : ByteArray := prog_9_method_1_code
def yX7_init : MethodName := ⟨RX7, "<init>", "()V"⟩
abbrev cX7_load : ByteArray := prog_9_method_2_code
def yX7_load : MethodName := ⟨RX7, "load", "(LTransducerBench$Transducer;)V"⟩
abbrev cX7_after : ByteArray := prog_9_method_3_code
def yX7_after : MethodName := ⟨RX7, "after", "(II)I"⟩
abbrev cX7_isAlike : ByteArray := prog_9_method_4_code
def yX7_isAlike : MethodName := ⟨RX7, "isAlike", "(II)Z"⟩
abbrev cX7_isAccepting : ByteArray := prog_9_method_5_code
def yX7_isAccepting : MethodName := ⟨RX7, "isAccepting", "(I)Z"⟩
def RX8 : String := "TransducerBench$SymbolSet"
def TX8 : u_T := fun k => match k with
  | 0 => ("TransducerBench$SymbolSet", "low", "J", false)
  | _ => ("TransducerBench$SymbolSet", "high", "J", false)
def tyX8 : Nat → FieldType := fun k => match k with
  | 0 => .long
  | _ => .long
abbrev wsX80 : List Cond := u_ws RX8 TX8 2
theorem nmX8 : ∀ a, a < 2 → ∀ b, b < 2 → a ≠ b → (TX8 a).2.1 ≠ (TX8 b).2.1 := by decide +kernel
theorem tyX8_ok : ∀ k, k < 2 → parseFieldDescriptor (TX8 k).2.2.1 = some (tyX8 k) := by decide +kernel
abbrev cX8_init : ByteArray := prog_10_method_1_code
def yX8_init : MethodName := ⟨RX8, "<init>", "()V"⟩
abbrev cX8_clear : ByteArray := prog_10_method_2_code
def yX8_clear : MethodName := ⟨RX8, "clear", "()V"⟩
abbrev cX8_fill : ByteArray := prog_10_method_3_code
def yX8_fill : MethodName := ⟨RX8, "fill", "()V"⟩
abbrev cX8_copyFrom : ByteArray := prog_10_method_4_code
def yX8_copyFrom : MethodName := ⟨RX8, "copyFrom", "(LTransducerBench$SymbolSet;)V"⟩
abbrev cX8_include : ByteArray := prog_10_method_5_code
def yX8_include : MethodName := ⟨RX8, "include", "(II)V"⟩
abbrev cX8_include_ : ByteArray := prog_10_method_6_code
def yX8_include_ : MethodName := ⟨RX8, "include", "(LTransducerBench$SymbolSet;)V"⟩
abbrev cX8_keep : ByteArray := prog_10_method_7_code
def yX8_keep : MethodName := ⟨RX8, "keep", "(II)V"⟩
abbrev cX8_keep_ : ByteArray := prog_10_method_8_code
def yX8_keep_ : MethodName := ⟨RX8, "keep", "(LTransducerBench$SymbolSet;)V"⟩
abbrev cX8_shift : ByteArray := prog_10_method_9_code
def yX8_shift : MethodName := ⟨RX8, "shift", "(I)V"⟩
abbrev cX8_shiftUp : ByteArray := prog_10_method_10_code
def yX8_shiftUp : MethodName := ⟨RX8, "shiftUp", "(I)V"⟩
abbrev cX8_shiftDown : ByteArray := prog_10_method_11_code
def yX8_shiftDown : MethodName := ⟨RX8, "shiftDown", "(I)V"⟩
abbrev cX8_has : ByteArray := prog_10_method_12_code
def yX8_has : MethodName := ⟨RX8, "has", "(I)Z"⟩
abbrev cX8_isEmpty : ByteArray := prog_10_method_13_code
def yX8_isEmpty : MethodName := ⟨RX8, "isEmpty", "()Z"⟩
abbrev cX8_meets : ByteArray := prog_10_method_14_code
def yX8_meets : MethodName := ⟨RX8, "meets", "(LTransducerBench$SymbolSet;)Z"⟩
abbrev cX8_meetsWithin : ByteArray := prog_10_method_15_code
def yX8_meetsWithin : MethodName := ⟨RX8, "meetsWithin", "(LTransducerBench$SymbolSet;II)Z"⟩
abbrev cX8_size : ByteArray := prog_10_method_16_code
def yX8_size : MethodName := ⟨RX8, "size", "()I"⟩
abbrev cX8_sizeWithin : ByteArray := prog_10_method_17_code
def yX8_sizeWithin : MethodName := ⟨RX8, "sizeWithin", "(II)I"⟩
abbrev cX8_rangeCount : ByteArray := prog_10_method_18_code
def yX8_rangeCount : MethodName := ⟨RX8, "rangeCount", "()I"⟩
abbrev cX8_rangeStart : ByteArray := prog_10_method_19_code
def yX8_rangeStart : MethodName := ⟨RX8, "rangeStart", "(I)I"⟩
abbrev cX8_rangeEnd : ByteArray := prog_10_method_20_code
def yX8_rangeEnd : MethodName := ⟨RX8, "rangeEnd", "(I)I"⟩
abbrev cX8_isRangeStart : ByteArray := prog_10_method_21_code
def yX8_isRangeStart : MethodName := ⟨RX8, "isRangeStart", "(I)Z"⟩
abbrev cX8_bits : ByteArray := prog_10_method_22_code
def yX8_bits : MethodName := ⟨RX8, "bits", "(II)J"⟩
def RX9 : String := "TransducerBench$Transducer"
def TX9 : u_T := fun k => match k with
  | 0 => ("TransducerBench$Transducer", "list", "[LTransducerBench$Rule;", true)
  | 1 => ("TransducerBench$Transducer", "size", "I", false)
  | _ => ("TransducerBench$Transducer", "finalStates", "I", false)
def tyX9 : Nat → FieldType := fun k => match k with
  | 0 => .array (.object "TransducerBench$Rule")
  | 1 => .int
  | _ => .int
abbrev wsX90 : List Cond := u_ws RX9 TX9 3
theorem nmX9 : ∀ a, a < 3 → ∀ b, b < 3 → a ≠ b → (TX9 a).2.1 ≠ (TX9 b).2.1 := by decide +kernel
theorem tyX9_ok : ∀ k, k < 3 → parseFieldDescriptor (TX9 k).2.2.1 = some (tyX9 k) := by decide +kernel
abbrev cX9_init : ByteArray := prog_11_method_1_code
def yX9_init : MethodName := ⟨RX9, "<init>", "()V"⟩
abbrev cX9_clear : ByteArray := prog_11_method_2_code
def yX9_clear : MethodName := ⟨RX9, "clear", "()V"⟩
abbrev cX9_copyFrom : ByteArray := prog_11_method_3_code
def yX9_copyFrom : MethodName := ⟨RX9, "copyFrom", "(LTransducerBench$Transducer;)V"⟩
abbrev cX9_isFull : ByteArray := prog_11_method_4_code
def yX9_isFull : MethodName := ⟨RX9, "isFull", "()Z"⟩
abbrev cX9_append : ByteArray := prog_11_method_5_code
def yX9_append : MethodName := ⟨RX9, "append", "(II)LTransducerBench$Rule;"⟩
abbrev cX9_remove : ByteArray := prog_11_method_6_code
def yX9_remove : MethodName := ⟨RX9, "remove", "(I)V"⟩
abbrev cX9_hasFinal : ByteArray := prog_11_method_7_code
def yX9_hasFinal : MethodName := ⟨RX9, "hasFinal", "(I)Z"⟩
abbrev cX9_markFinal : ByteArray := prog_11_method_8_code
def yX9_markFinal : MethodName := ⟨RX9, "markFinal", "(IZ)V"⟩
abbrev cX9_reachedStates : ByteArray := prog_11_method_9_code
def yX9_reachedStates : MethodName := ⟨RX9, "reachedStates", "()I"⟩
abbrev cX9_hopefulStates : ByteArray := prog_11_method_10_code
def yX9_hopefulStates : MethodName := ⟨RX9, "hopefulStates", "()I"⟩
abbrev cX9_withSources : ByteArray := prog_11_method_11_code
def yX9_withSources : MethodName := ⟨RX9, "withSources", "(I)I"⟩
abbrev cX9_keepSymbols : ByteArray := prog_11_method_12_code
def yX9_keepSymbols : MethodName := ⟨RX9, "keepSymbols", "(II)V"⟩
abbrev cX9_dropUseless : ByteArray := prog_11_method_13_code
def yX9_dropUseless : MethodName := ⟨RX9, "dropUseless", "()V"⟩
abbrev cX9_isUseful : ByteArray := prog_11_method_14_code
def yX9_isUseful : MethodName := ⟨RX9, "isUseful", "(LTransducerBench$Rule;II)Z"⟩
abbrev cX9_becomeInverse : ByteArray := prog_11_method_15_code
def yX9_becomeInverse : MethodName := ⟨RX9, "becomeInverse", "(LTransducerBench$Transducer;)V"⟩
def RX10 : String := "TransducerBench$Word"
def TX10 : u_T := fun k => match k with
  | 0 => ("TransducerBench$Word", "symbols", "[I", true)
  | _ => ("TransducerBench$Word", "length", "I", false)
def tyX10 : Nat → FieldType := fun k => match k with
  | 0 => .array .int
  | _ => .int
abbrev wsX100 : List Cond := u_ws RX10 TX10 2
theorem nmX10 : ∀ a, a < 2 → ∀ b, b < 2 → a ≠ b → (TX10 a).2.1 ≠ (TX10 b).2.1 := by decide +kernel
theorem tyX10_ok : ∀ k, k < 2 → parseFieldDescriptor (TX10 k).2.2.1 = some (tyX10 k) := by decide +kernel
abbrev cX10_init : ByteArray := prog_12_method_1_code
def yX10_init : MethodName := ⟨RX10, "<init>", "()V"⟩
abbrev cX10_clear : ByteArray := prog_12_method_2_code
def yX10_clear : MethodName := ⟨RX10, "clear", "()V"⟩
abbrev cX10_append : ByteArray := prog_12_method_3_code
def yX10_append : MethodName := ⟨RX10, "append", "(I)V"⟩
abbrev cX10_appendAll : ByteArray := prog_12_method_4_code
def yX10_appendAll : MethodName := ⟨RX10, "appendAll", "(LTransducerBench$Word;)V"⟩
abbrev cX10_appendOutput : ByteArray := prog_12_method_5_code
def yX10_appendOutput : MethodName := ⟨RX10, "appendOutput", "(LTransducerBench$Rule;I)V"⟩
abbrev cX10_copyFrom : ByteArray := prog_12_method_6_code
def yX10_copyFrom : MethodName := ⟨RX10, "copyFrom", "(LTransducerBench$Word;)V"⟩
abbrev cX10_comesBefore : ByteArray := prog_12_method_7_code
def yX10_comesBefore : MethodName := ⟨RX10, "comesBefore", "(LTransducerBench$Word;)Z"⟩
def RX11 : String := "TransducerBench"
def TX11 : u_T := fun k => match k with
  | 0 => ("TransducerBench", "slots", "[LTransducerBench$Transducer;", true)
  | 1 => ("TransducerBench", "draft", "LTransducerBench$Transducer;", true)
  | 2 => ("TransducerBench", "history", "LTransducerBench$History;", true)
  | 3 => ("TransducerBench", "reader", "LTransducerBench$Reader;", true)
  | 4 => ("TransducerBench", "word", "LTransducerBench$Word;", true)
  | 5 => ("TransducerBench", "latest", "LTransducerBench$Word;", true)
  | 6 => ("TransducerBench", "outputs", "LTransducerBench$Outputs;", true)
  | 7 => ("TransducerBench", "domains", "LTransducerBench$Domains;", true)
  | 8 => ("TransducerBench", "pairing", "LTransducerBench$Pairing;", true)
  | _ => ("TransducerBench", "composer", "LTransducerBench$Composer;", true)
def tyX11 : Nat → FieldType := fun k => match k with
  | 0 => .array (.object "TransducerBench$Transducer")
  | 1 => .object "TransducerBench$Transducer"
  | 2 => .object "TransducerBench$History"
  | 3 => .object "TransducerBench$Reader"
  | 4 => .object "TransducerBench$Word"
  | 5 => .object "TransducerBench$Word"
  | 6 => .object "TransducerBench$Outputs"
  | 7 => .object "TransducerBench$Domains"
  | 8 => .object "TransducerBench$Pairing"
  | _ => .object "TransducerBench$Composer"
abbrev wsX110 : List Cond := u_ws RX11 TX11 10
theorem nmX11 : ∀ a, a < 10 → ∀ b, b < 10 → a ≠ b → (TX11 a).2.1 ≠ (TX11 b).2.1 := by decide +kernel
theorem tyX11_ok : ∀ k, k < 10 → parseFieldDescriptor (TX11 k).2.2.1 = some (tyX11 k) := by decide +kernel
abbrev cX11_init : ByteArray := prog_1_method_1_code
def yX11_init : MethodName := ⟨RX11, "<init>", "()V"⟩
abbrev cX11_setFinal : ByteArray := prog_1_method_2_code
def yX11_setFinal : MethodName := ⟨RX11, "setFinal", "(IIZ)Z"⟩
abbrev cX11_addRule : ByteArray := prog_1_method_3_code
def yX11_addRule : MethodName := ⟨RX11, "addRule", "(IIIII)I"⟩
abbrev cX11_addRange : ByteArray := prog_1_method_4_code
def yX11_addRange : MethodName := ⟨RX11, "addRange", "(IIII)I"⟩
abbrev cX11_addTerm : ByteArray := prog_1_method_5_code
def yX11_addTerm : MethodName := ⟨RX11, "addTerm", "(IIZI)I"⟩
abbrev cX11_removeRule : ByteArray := prog_1_method_6_code
def yX11_removeRule : MethodName := ⟨RX11, "removeRule", "(II)I"⟩
abbrev cX11_rules : ByteArray := prog_1_method_7_code
def yX11_rules : MethodName := ⟨RX11, "rules", "(I)I"⟩
abbrev cX11_finals : ByteArray := prog_1_method_8_code
def yX11_finals : MethodName := ⟨RX11, "finals", "(I)I"⟩
abbrev cX11_rule : ByteArray := prog_1_method_9_code
def yX11_rule : MethodName := ⟨RX11, "rule", "(III)I"⟩
abbrev cX11_range : ByteArray := prog_1_method_10_code
def yX11_range : MethodName := ⟨RX11, "range", "(IIIZ)I"⟩
abbrev cX11_term : ByteArray := prog_1_method_11_code
def yX11_term : MethodName := ⟨RX11, "term", "(III)I"⟩
abbrev cX11_valueOf : ByteArray := prog_1_method_12_code
def yX11_valueOf : MethodName := ⟨RX11, "valueOf", "(IIII)I"⟩
abbrev cX11_feed : ByteArray := prog_1_method_13_code
def yX11_feed : MethodName := ⟨RX11, "feed", "(C)I"⟩
abbrev cX11_parse : ByteArray := prog_1_method_14_code
def yX11_parse : MethodName := ⟨RX11, "parse", "(I)I"⟩
abbrev cX11_push : ByteArray := prog_1_method_15_code
def yX11_push : MethodName := ⟨RX11, "push", "(I)I"⟩
abbrev cX11_clearWord : ByteArray := prog_1_method_16_code
def yX11_clearWord : MethodName := ⟨RX11, "clearWord", "()I"⟩
abbrev cX11_symbol : ByteArray := prog_1_method_17_code
def yX11_symbol : MethodName := ⟨RX11, "symbol", "(I)I"⟩
abbrev cX11_runs : ByteArray := prog_1_method_18_code
def yX11_runs : MethodName := ⟨RX11, "runs", "(I)J"⟩
abbrev cX11_transduce : ByteArray := prog_1_method_19_code
def yX11_transduce : MethodName := ⟨RX11, "transduce", "(IZ)I"⟩
abbrev cX11_result : ByteArray := prog_1_method_20_code
def yX11_result : MethodName := ⟨RX11, "result", "(I)I"⟩
abbrev cX11_useResult : ByteArray := prog_1_method_21_code
def yX11_useResult : MethodName := ⟨RX11, "useResult", "()I"⟩
abbrev cX11_domainCount : ByteArray := prog_1_method_22_code
def yX11_domainCount : MethodName := ⟨RX11, "domainCount", "(II)J"⟩
abbrev cX11_domainShare : ByteArray := prog_1_method_23_code
def yX11_domainShare : MethodName := ⟨RX11, "domainShare", "(II)D"⟩
abbrev cX11_shortestInput : ByteArray := prog_1_method_24_code
def yX11_shortestInput : MethodName := ⟨RX11, "shortestInput", "(I)I"⟩
abbrev cX11_outputSymbols : ByteArray := prog_1_method_25_code
def yX11_outputSymbols : MethodName := ⟨RX11, "outputSymbols", "(I)I"⟩
abbrev cX11_isDeterministic : ByteArray := prog_1_method_26_code
def yX11_isDeterministic : MethodName := ⟨RX11, "isDeterministic", "(I)Z"⟩
abbrev cX11_isFunctional : ByteArray := prog_1_method_27_code
def yX11_isFunctional : MethodName := ⟨RX11, "isFunctional", "(I)Z"⟩
abbrev cX11_isEquivalent : ByteArray := prog_1_method_28_code
def yX11_isEquivalent : MethodName := ⟨RX11, "isEquivalent", "(II)Z"⟩
abbrev cX11_isWithin : ByteArray := prog_1_method_29_code
def yX11_isWithin : MethodName := ⟨RX11, "isWithin", "(II)Z"⟩
abbrev cX11_compose : ByteArray := prog_1_method_30_code
def yX11_compose : MethodName := ⟨RX11, "compose", "(III)I"⟩
abbrev cX11_invert : ByteArray := prog_1_method_31_code
def yX11_invert : MethodName := ⟨RX11, "invert", "(II)I"⟩
abbrev cX11_restrict : ByteArray := prog_1_method_32_code
def yX11_restrict : MethodName := ⟨RX11, "restrict", "(III)I"⟩
abbrev cX11_trim : ByteArray := prog_1_method_33_code
def yX11_trim : MethodName := ⟨RX11, "trim", "(I)I"⟩
abbrev cX11_copy : ByteArray := prog_1_method_34_code
def yX11_copy : MethodName := ⟨RX11, "copy", "(II)I"⟩
abbrev cX11_undo : ByteArray := prog_1_method_35_code
def yX11_undo : MethodName := ⟨RX11, "undo", "()I"⟩
abbrev cX11_requireSlot : ByteArray := prog_1_method_36_code
def yX11_requireSlot : MethodName := ⟨RX11, "requireSlot", "(I)V"⟩
abbrev cX11_requireState : ByteArray := prog_1_method_37_code
def yX11_requireState : MethodName := ⟨RX11, "requireState", "(I)V"⟩
abbrev cX11_requireSymbols : ByteArray := prog_1_method_38_code
def yX11_requireSymbols : MethodName := ⟨RX11, "requireSymbols", "(II)V"⟩
abbrev cX11_requireCounted : ByteArray := prog_1_method_39_code
def yX11_requireCounted : MethodName := ⟨RX11, "requireCounted", "(I)V"⟩
abbrev cX11_requireRule : ByteArray := prog_1_method_40_code
def yX11_requireRule : MethodName := ⟨RX11, "requireRule", "(II)V"⟩
abbrev cX11_requireTerm : ByteArray := prog_1_method_41_code
def yX11_requireTerm : MethodName := ⟨RX11, "requireTerm", "(LTransducerBench$Rule;I)V"⟩
abbrev cX11_requireIndex : ByteArray := prog_1_method_42_code
def yX11_requireIndex : MethodName := ⟨RX11, "requireIndex", "(LTransducerBench$Word;I)V"⟩
abbrev cX11_replace : ByteArray := prog_1_method_43_code
def yX11_replace : MethodName := ⟨RX11, "replace", "(ILTransducerBench$Transducer;)I"⟩
abbrev cX11_isOffsetTerm : ByteArray := prog_1_method_44_code
def yX11_isOffsetTerm : MethodName := ⟨RX11, "isOffsetTerm", "(I)Z"⟩
abbrev cX11_hasState : ByteArray := prog_1_method_45_code
def yX11_hasState : MethodName := ⟨RX11, "hasState", "(II)Z"⟩
def RX12 : String := "TransducerBenchModel"
def TX12 : u_T := fun k => match k with
  | 0 => ("TransducerBenchModel", "thrown", "I", false)
  | 1 => ("TransducerBenchModel", "finalSets", "[I", true)
  | 2 => ("TransducerBenchModel", "ruleMany", "[I", true)
  | 3 => ("TransducerBenchModel", "froms", "[I", true)
  | 4 => ("TransducerBenchModel", "tos", "[I", true)
  | 5 => ("TransducerBenchModel", "lows", "[J", true)
  | 6 => ("TransducerBenchModel", "highs", "[J", true)
  | 7 => ("TransducerBenchModel", "termMany", "[I", true)
  | 8 => ("TransducerBenchModel", "terms", "[I", true)
  | 9 => ("TransducerBenchModel", "areOffsets", "[Z", true)
  | 10 => ("TransducerBenchModel", "changed", "[I", true)
  | 11 => ("TransducerBenchModel", "changes", "I", false)
  | 12 => ("TransducerBenchModel", "letters", "[I", true)
  | 13 => ("TransducerBenchModel", "letterMany", "I", false)
  | 14 => ("TransducerBenchModel", "at", "I", false)
  | 15 => ("TransducerBenchModel", "fault", "I", false)
  | 16 => ("TransducerBenchModel", "isWrong", "Z", false)
  | 17 => ("TransducerBenchModel", "word", "[I", true)
  | 18 => ("TransducerBenchModel", "wordSize", "I", false)
  | 19 => ("TransducerBenchModel", "result", "[I", true)
  | 20 => ("TransducerBenchModel", "resultSize", "I", false)
  | 21 => ("TransducerBenchModel", "counts", "[J", true)
  | 22 => ("TransducerBenchModel", "nextCounts", "[J", true)
  | 23 => ("TransducerBenchModel", "bests", "[I", true)
  | 24 => ("TransducerBenchModel", "bestSizes", "[I", true)
  | 25 => ("TransducerBenchModel", "trial", "[I", true)
  | 26 => ("TransducerBenchModel", "nexts", "[I", true)
  | 27 => ("TransducerBenchModel", "ends", "[I", true)
  | 28 => ("TransducerBenchModel", "both", "[Z", true)
  | 29 => ("TransducerBenchModel", "isEnding", "[Z", true)
  | 30 => ("TransducerBenchModel", "isKnown", "[Z", true)
  | 31 => ("TransducerBenchModel", "ahead", "[I", true)
  | 32 => ("TransducerBenchModel", "delays", "[B", true)
  | 33 => ("TransducerBenchModel", "queue", "[I", true)
  | 34 => ("TransducerBenchModel", "queued", "I", false)
  | 35 => ("TransducerBenchModel", "one", "[I", true)
  | 36 => ("TransducerBenchModel", "two", "[I", true)
  | 37 => ("TransducerBenchModel", "seen", "[Z", true)
  | 38 => ("TransducerBenchModel", "firsts", "[I", true)
  | 39 => ("TransducerBenchModel", "seconds", "[I", true)
  | 40 => ("TransducerBenchModel", "found", "I", false)
  | 41 => ("TransducerBenchModel", "isOver", "Z", false)
  | 42 => ("TransducerBenchModel", "chosen", "[I", true)
  | 43 => ("TransducerBenchModel", "fits", "[Z", true)
  | _ => ("TransducerBenchModel", "canEnd", "[Z", true)
def tyX12 : Nat → FieldType := fun k => match k with
  | 0 => .int
  | 1 => .array .int
  | 2 => .array .int
  | 3 => .array .int
  | 4 => .array .int
  | 5 => .array .long
  | 6 => .array .long
  | 7 => .array .int
  | 8 => .array .int
  | 9 => .array .boolean
  | 10 => .array .int
  | 11 => .int
  | 12 => .array .int
  | 13 => .int
  | 14 => .int
  | 15 => .int
  | 16 => .boolean
  | 17 => .array .int
  | 18 => .int
  | 19 => .array .int
  | 20 => .int
  | 21 => .array .long
  | 22 => .array .long
  | 23 => .array .int
  | 24 => .array .int
  | 25 => .array .int
  | 26 => .array .int
  | 27 => .array .int
  | 28 => .array .boolean
  | 29 => .array .boolean
  | 30 => .array .boolean
  | 31 => .array .int
  | 32 => .array .byte
  | 33 => .array .int
  | 34 => .int
  | 35 => .array .int
  | 36 => .array .int
  | 37 => .array .boolean
  | 38 => .array .int
  | 39 => .array .int
  | 40 => .int
  | 41 => .boolean
  | 42 => .array .int
  | 43 => .array .boolean
  | _ => .array .boolean
abbrev wsX120 : List Cond := u_ws RX12 TX12 45
theorem nmX12 : ∀ a, a < 45 → ∀ b, b < 45 → a ≠ b → (TX12 a).2.1 ≠ (TX12 b).2.1 := by decide +kernel
theorem tyX12_ok : ∀ k, k < 45 → parseFieldDescriptor (TX12 k).2.2.1 = some (tyX12 k) := by decide +kernel
abbrev cX12_init : ByteArray := prog_14_method_1_code
def yX12_init : MethodName := ⟨RX12, "<init>", "()V"⟩
abbrev cX12_thrown : ByteArray := prog_14_method_2_code
def yX12_thrown : MethodName := ⟨RX12, "thrown", "()I"⟩
abbrev cX12_in : ByteArray := prog_14_method_3_code
def yX12_in : MethodName := ⟨RX12, "in", "(III)Z"⟩
abbrev cX12_isSlot : ByteArray := prog_14_method_4_code
def yX12_isSlot : MethodName := ⟨RX12, "isSlot", "(I)Z"⟩
abbrev cX12_isState : ByteArray := prog_14_method_5_code
def yX12_isState : MethodName := ⟨RX12, "isState", "(I)Z"⟩
abbrev cX12_isSymbol : ByteArray := prog_14_method_6_code
def yX12_isSymbol : MethodName := ⟨RX12, "isSymbol", "(I)Z"⟩
abbrev cX12_copiesRule : ByteArray := prog_14_method_7_code
def yX12_copiesRule : MethodName := ⟨RX12, "copiesRule", "(IIII)V"⟩
abbrev cX12_copies : ByteArray := prog_14_method_8_code
def yX12_copies : MethodName := ⟨RX12, "copies", "(II)V"⟩
abbrev cX12_keeps : ByteArray := prog_14_method_9_code
def yX12_keeps : MethodName := ⟨RX12, "keeps", "(I)V"⟩
abbrev cX12_undo : ByteArray := prog_14_method_10_code
def yX12_undo : MethodName := ⟨RX12, "undo", "()I"⟩
abbrev cX12_guards : ByteArray := prog_14_method_11_code
def yX12_guards : MethodName := ⟨RX12, "guards", "(II)Z"⟩
abbrev cX12_adds : ByteArray := prog_14_method_12_code
def yX12_adds : MethodName := ⟨RX12, "adds", "(II)V"⟩
abbrev cX12_value : ByteArray := prog_14_method_13_code
def yX12_value : MethodName := ⟨RX12, "value", "(III)I"⟩
abbrev cX12_enables : ByteArray := prog_14_method_14_code
def yX12_enables : MethodName := ⟨RX12, "enables", "(II)Z"⟩
abbrev cX12_guardMany : ByteArray := prog_14_method_15_code
def yX12_guardMany : MethodName := ⟨RX12, "guardMany", "(I)I"⟩
abbrev cX12_enabledMany : ByteArray := prog_14_method_16_code
def yX12_enabledMany : MethodName := ⟨RX12, "enabledMany", "(I)I"⟩
abbrev cX12_rangeMany : ByteArray := prog_14_method_17_code
def yX12_rangeMany : MethodName := ⟨RX12, "rangeMany", "(I)I"⟩
abbrev cX12_setFinal : ByteArray := prog_14_method_18_code
def yX12_setFinal : MethodName := ⟨RX12, "setFinal", "(IIZ)Z"⟩
abbrev cX12_opens : ByteArray := prog_14_method_19_code
def yX12_opens : MethodName := ⟨RX12, "opens", "(III)I"⟩
abbrev cX12_isRange : ByteArray := prog_14_method_20_code
def yX12_isRange : MethodName := ⟨RX12, "isRange", "(II)Z"⟩
abbrev cX12_addRule : ByteArray := prog_14_method_21_code
def yX12_addRule : MethodName := ⟨RX12, "addRule", "(IIIII)I"⟩
abbrev cX12_addRange : ByteArray := prog_14_method_22_code
def yX12_addRange : MethodName := ⟨RX12, "addRange", "(IIII)I"⟩
abbrev cX12_addsTerm : ByteArray := prog_14_method_23_code
def yX12_addsTerm : MethodName := ⟨RX12, "addsTerm", "(IZI)V"⟩
abbrev cX12_addTerm : ByteArray := prog_14_method_24_code
def yX12_addTerm : MethodName := ⟨RX12, "addTerm", "(IIZI)I"⟩
abbrev cX12_removes : ByteArray := prog_14_method_25_code
def yX12_removes : MethodName := ⟨RX12, "removes", "(II)V"⟩
abbrev cX12_removeRule : ByteArray := prog_14_method_26_code
def yX12_removeRule : MethodName := ⟨RX12, "removeRule", "(II)I"⟩
abbrev cX12_rules : ByteArray := prog_14_method_27_code
def yX12_rules : MethodName := ⟨RX12, "rules", "(I)I"⟩
abbrev cX12_finals : ByteArray := prog_14_method_28_code
def yX12_finals : MethodName := ⟨RX12, "finals", "(I)I"⟩
abbrev cX12_rule : ByteArray := prog_14_method_29_code
def yX12_rule : MethodName := ⟨RX12, "rule", "(III)I"⟩
abbrev cX12_range : ByteArray := prog_14_method_30_code
def yX12_range : MethodName := ⟨RX12, "range", "(IIIZ)I"⟩
abbrev cX12_term : ByteArray := prog_14_method_31_code
def yX12_term : MethodName := ⟨RX12, "term", "(III)I"⟩
abbrev cX12_valueOf : ByteArray := prog_14_method_32_code
def yX12_valueOf : MethodName := ⟨RX12, "valueOf", "(IIII)I"⟩
abbrev cX12_feed : ByteArray := prog_14_method_33_code
def yX12_feed : MethodName := ⟨RX12, "feed", "(C)I"⟩
abbrev cX12_here : ByteArray := prog_14_method_34_code
def yX12_here : MethodName := ⟨RX12, "here", "()I"⟩
abbrev cX12_isDigit : ByteArray := prog_14_method_35_code
def yX12_isDigit : MethodName := ⟨RX12, "isDigit", "()Z"⟩
abbrev cX12_takes : ByteArray := prog_14_method_36_code
def yX12_takes : MethodName := ⟨RX12, "takes", "(I)V"⟩
abbrev cX12_number : ByteArray := prog_14_method_37_code
def yX12_number : MethodName := ⟨RX12, "number", "()I"⟩
abbrev cX12_state : ByteArray := prog_14_method_38_code
def yX12_state : MethodName := ⟨RX12, "state", "()I"⟩
abbrev cX12_range_ : ByteArray := prog_14_method_39_code
def yX12_range_ : MethodName := ⟨RX12, "range", "(I)V"⟩
abbrev cX12_term_ : ByteArray := prog_14_method_40_code
def yX12_term_ : MethodName := ⟨RX12, "term", "(I)V"⟩
abbrev cX12_item : ByteArray := prog_14_method_41_code
def yX12_item : MethodName := ⟨RX12, "item", "()V"⟩
abbrev cX12_parse : ByteArray := prog_14_method_42_code
def yX12_parse : MethodName := ⟨RX12, "parse", "(I)I"⟩
abbrev cX12_push : ByteArray := prog_14_method_43_code
def yX12_push : MethodName := ⟨RX12, "push", "(I)I"⟩
abbrev cX12_clearWord : ByteArray := prog_14_method_44_code
def yX12_clearWord : MethodName := ⟨RX12, "clearWord", "()I"⟩
abbrev cX12_symbol : ByteArray := prog_14_method_45_code
def yX12_symbol : MethodName := ⟨RX12, "symbol", "(I)I"⟩
abbrev cX12_runs : ByteArray := prog_14_method_46_code
def yX12_runs : MethodName := ⟨RX12, "runs", "(I)J"⟩
abbrev cX12_isBetter : ByteArray := prog_14_method_47_code
def yX12_isBetter : MethodName := ⟨RX12, "isBetter", "(IIZ)Z"⟩
abbrev cX12_tries : ByteArray := prog_14_method_48_code
def yX12_tries : MethodName := ⟨RX12, "tries", "(IIZ)V"⟩
abbrev cX12_transduce : ByteArray := prog_14_method_49_code
def yX12_transduce : MethodName := ⟨RX12, "transduce", "(IZ)I"⟩
abbrev cX12_result : ByteArray := prog_14_method_50_code
def yX12_result : MethodName := ⟨RX12, "result", "(I)I"⟩
abbrev cX12_useResult : ByteArray := prog_14_method_51_code
def yX12_useResult : MethodName := ⟨RX12, "useResult", "()I"⟩
abbrev cX12_steps : ByteArray := prog_14_method_52_code
def yX12_steps : MethodName := ⟨RX12, "steps", "(II)V"⟩
abbrev cX12_after : ByteArray := prog_14_method_53_code
def yX12_after : MethodName := ⟨RX12, "after", "(III)I"⟩
abbrev cX12_counted : ByteArray := prog_14_method_54_code
def yX12_counted : MethodName := ⟨RX12, "counted", "(II)J"⟩
abbrev cX12_domainCount : ByteArray := prog_14_method_55_code
def yX12_domainCount : MethodName := ⟨RX12, "domainCount", "(II)J"⟩
abbrev cX12_domainShare : ByteArray := prog_14_method_56_code
def yX12_domainShare : MethodName := ⟨RX12, "domainShare", "(II)D"⟩
abbrev cX12_shortestInput : ByteArray := prog_14_method_57_code
def yX12_shortestInput : MethodName := ⟨RX12, "shortestInput", "(I)I"⟩
abbrev cX12_reached : ByteArray := prog_14_method_58_code
def yX12_reached : MethodName := ⟨RX12, "reached", "(I)I"⟩
abbrev cX12_ending : ByteArray := prog_14_method_59_code
def yX12_ending : MethodName := ⟨RX12, "ending", "(I)I"⟩
abbrev cX12_isUsed : ByteArray := prog_14_method_60_code
def yX12_isUsed : MethodName := ⟨RX12, "isUsed", "(III)Z"⟩
abbrev cX12_outputSymbols : ByteArray := prog_14_method_61_code
def yX12_outputSymbols : MethodName := ⟨RX12, "outputSymbols", "(I)I"⟩
abbrev cX12_areBoth : ByteArray := prog_14_method_62_code
def yX12_areBoth : MethodName := ⟨RX12, "areBoth", "(II)Z"⟩
abbrev cX12_isDeterministic : ByteArray := prog_14_method_63_code
def yX12_isDeterministic : MethodName := ⟨RX12, "isDeterministic", "(I)Z"⟩
abbrev cX12_ends : ByteArray := prog_14_method_64_code
def yX12_ends : MethodName := ⟨RX12, "ends", "(II)V"⟩
abbrev cX12_laid : ByteArray := prog_14_method_65_code
def yX12_laid : MethodName := ⟨RX12, "laid", "([IIIII)I"⟩
abbrev cX12_comes : ByteArray := prog_14_method_66_code
def yX12_comes : MethodName := ⟨RX12, "comes", "(IIII)Z"⟩
abbrev cX12_goesOn : ByteArray := prog_14_method_67_code
def yX12_goesOn : MethodName := ⟨RX12, "goesOn", "(IIII)Z"⟩
abbrev cX12_agree : ByteArray := prog_14_method_68_code
def yX12_agree : MethodName := ⟨RX12, "agree", "(II)Z"⟩
abbrev cX12_isFunctional : ByteArray := prog_14_method_69_code
def yX12_isFunctional : MethodName := ⟨RX12, "isFunctional", "(I)Z"⟩
abbrev cX12_isIn : ByteArray := prog_14_method_70_code
def yX12_isIn : MethodName := ⟨RX12, "isIn", "(II)Z"⟩
abbrev cX12_isWithin : ByteArray := prog_14_method_71_code
def yX12_isWithin : MethodName := ⟨RX12, "isWithin", "(II)Z"⟩
abbrev cX12_isEquivalent : ByteArray := prog_14_method_72_code
def yX12_isEquivalent : MethodName := ⟨RX12, "isEquivalent", "(II)Z"⟩
abbrev cX12_endAt : ByteArray := prog_14_method_73_code
def yX12_endAt : MethodName := ⟨RX12, "endAt", "(III)I"⟩
abbrev cX12_foresees : ByteArray := prog_14_method_74_code
def yX12_foresees : MethodName := ⟨RX12, "foresees", "(II)V"⟩
abbrev cX12_finds : ByteArray := prog_14_method_75_code
def yX12_finds : MethodName := ⟨RX12, "finds", "(II)I"⟩
abbrev cX12_joins : ByteArray := prog_14_method_76_code
def yX12_joins : MethodName := ⟨RX12, "joins", "(III)V"⟩
abbrev cX12_chooses : ByteArray := prog_14_method_77_code
def yX12_chooses : MethodName := ⟨RX12, "chooses", "(IIIII)V"⟩
abbrev cX12_compose : ByteArray := prog_14_method_78_code
def yX12_compose : MethodName := ⟨RX12, "compose", "(III)I"⟩
abbrev cX12_invert : ByteArray := prog_14_method_79_code
def yX12_invert : MethodName := ⟨RX12, "invert", "(II)I"⟩
abbrev cX12_restrict : ByteArray := prog_14_method_80_code
def yX12_restrict : MethodName := ⟨RX12, "restrict", "(III)I"⟩
abbrev cX12_trim : ByteArray := prog_14_method_81_code
def yX12_trim : MethodName := ⟨RX12, "trim", "(I)I"⟩
abbrev cX12_copy : ByteArray := prog_14_method_82_code
def yX12_copy : MethodName := ⟨RX12, "copy", "(II)I"⟩
def RJx145de : String := "java/io/Serializable"
def TJx145de : u_T := fun k => match k with
  | _ => ("", "", "", false)
def tyJx145de : Nat → FieldType := fun k => match k with
  | _ => .int
abbrev wsJx145de0 : List Cond := u_ws RJx145de TJx145de 0
theorem nmJx145de : ∀ a, a < 0 → ∀ b, b < 0 → a ≠ b → (TJx145de a).2.1 ≠ (TJx145de b).2.1 := by decide +kernel
theorem tyJx145de_ok : ∀ k, k < 0 → parseFieldDescriptor (TJx145de k).2.2.1 = some (tyJx145de k) := by decide +kernel
def RJx8e188 : String := "java/lang/Cloneable"
def TJx8e188 : u_T := fun k => match k with
  | _ => ("", "", "", false)
def tyJx8e188 : Nat → FieldType := fun k => match k with
  | _ => .int
abbrev wsJx8e1880 : List Cond := u_ws RJx8e188 TJx8e188 0
theorem nmJx8e188 : ∀ a, a < 0 → ∀ b, b < 0 → a ≠ b → (TJx8e188 a).2.1 ≠ (TJx8e188 b).2.1 := by decide +kernel
theorem tyJx8e188_ok : ∀ k, k < 0 → parseFieldDescriptor (TJx8e188 k).2.2.1 = some (tyJx8e188 k) := by decide +kernel
def RJ13 : String := "java/lang/Long"
def TJ13 : u_T := fun k => match k with
  | _ => ("", "", "", false)
def tyJ13 : Nat → FieldType := fun k => match k with
  | _ => .int
abbrev wsJ130 : List Cond := u_ws RJ13 TJ13 0
theorem nmJ13 : ∀ a, a < 0 → ∀ b, b < 0 → a ≠ b → (TJ13 a).2.1 ≠ (TJ13 b).2.1 := by decide +kernel
theorem tyJ13_ok : ∀ k, k < 0 → parseFieldDescriptor (TJ13 k).2.2.1 = some (tyJ13 k) := by decide +kernel
abbrev cJ13_bitCount_95d88 : ByteArray := prog_21_method_50_code
def yJ13_bitCount_95d88 : MethodName := ⟨RJ13, "bitCount", "(J)I"⟩
def RJ9 : String := "java/lang/Math"
def TJ9 : u_T := fun k => match k with
  | _ => ("", "", "", false)
def tyJ9 : Nat → FieldType := fun k => match k with
  | _ => .int
abbrev wsJ90 : List Cond := u_ws RJ9 TJ9 0
theorem nmJ9 : ∀ a, a < 0 → ∀ b, b < 0 → a ≠ b → (TJ9 a).2.1 ≠ (TJ9 b).2.1 := by decide +kernel
theorem tyJ9_ok : ∀ k, k < 0 → parseFieldDescriptor (TJ9 k).2.2.1 = some (tyJ9 k) := by decide +kernel
abbrev cJ9_max_7cf53 : ByteArray := prog_22_method_65_code
def yJ9_max_7cf53 : MethodName := ⟨RJ9, "max", "(II)I"⟩
abbrev cJ9_min_7cf53 : ByteArray := prog_22_method_69_code
def yJ9_min_7cf53 : MethodName := ⟨RJ9, "min", "(II)I"⟩
def RJ0 : String := "java/lang/String"
def TJ0 : u_T := fun k => match k with
  | _ => ("", "", "", false)
def tyJ0 : Nat → FieldType := fun k => match k with
  | _ => .int
abbrev wsJ00 : List Cond := u_ws RJ0 TJ0 0
theorem nmJ0 : ∀ a, a < 0 → ∀ b, b < 0 → a ≠ b → (TJ0 a).2.1 ≠ (TJ0 b).2.1 := by decide +kernel
theorem tyJ0_ok : ∀ k, k < 0 → parseFieldDescriptor (TJ0 k).2.2.1 = some (tyJ0 k) := by decide +kernel
def RJ10 : String := "java/lang/System"
def TJ10 : u_T := fun k => match k with
  | _ => ("", "", "", false)
def tyJ10 : Nat → FieldType := fun k => match k with
  | _ => .int
abbrev wsJ100 : List Cond := u_ws RJ10 TJ10 0
theorem nmJ10 : ∀ a, a < 0 → ∀ b, b < 0 → a ≠ b → (TJ10 a).2.1 ≠ (TJ10 b).2.1 := by decide +kernel
theorem tyJ10_ok : ∀ k, k < 0 → parseFieldDescriptor (TJ10 k).2.2.1 = some (tyJ10 k) := by decide +kernel
def RJ7 : String := "java/util/Arrays"
def TJ7 : u_T := fun k => match k with
  | _ => ("", "", "", false)
def tyJ7 : Nat → FieldType := fun k => match k with
  | _ => .int
abbrev wsJ70 : List Cond := u_ws RJ7 TJ7 0
theorem nmJ7 : ∀ a, a < 0 → ∀ b, b < 0 → a ≠ b → (TJ7 a).2.1 ≠ (TJ7 b).2.1 := by decide +kernel
theorem tyJ7_ok : ∀ k, k < 0 → parseFieldDescriptor (TJ7 k).2.2.1 = some (tyJ7 k) := by decide +kernel
abbrev cJ7_fill_d0a16 : ByteArray := prog_28_method_101_code
def yJ7_fill_d0a16 : MethodName := ⟨RJ7, "fill", "([JJ)V"⟩
abbrev cJ7_fill_53178 : ByteArray := prog_28_method_103_code
def yJ7_fill_53178 : MethodName := ⟨RJ7, "fill", "([II)V"⟩
abbrev cJ7_copyOf_59c91 : ByteArray := prog_28_method_123_code
def yJ7_copyOf_59c91 : MethodName := ⟨RJ7, "copyOf", "([II)[I"⟩
def RL : String := "TransducerBenchLaw"
abbrev cL_setFinal : ByteArray := method_3_code
def yL_setFinal : MethodName := ⟨RL, "setFinal", "(LTransducerBench;IIZ[J)I"⟩
abbrev cL_addRule : ByteArray := method_4_code
def yL_addRule : MethodName := ⟨RL, "addRule", "(LTransducerBench;IIIII[J)I"⟩
abbrev cL_addRange : ByteArray := method_5_code
def yL_addRange : MethodName := ⟨RL, "addRange", "(LTransducerBench;IIII[J)I"⟩
abbrev cL_addTerm : ByteArray := method_6_code
def yL_addTerm : MethodName := ⟨RL, "addTerm", "(LTransducerBench;IIZI[J)I"⟩
abbrev cL_removeRule : ByteArray := method_7_code
def yL_removeRule : MethodName := ⟨RL, "removeRule", "(LTransducerBench;II[J)I"⟩
abbrev cL_rules : ByteArray := method_8_code
def yL_rules : MethodName := ⟨RL, "rules", "(LTransducerBench;I[J)I"⟩
abbrev cL_finals : ByteArray := method_9_code
def yL_finals : MethodName := ⟨RL, "finals", "(LTransducerBench;I[J)I"⟩
abbrev cL_rule : ByteArray := method_10_code
def yL_rule : MethodName := ⟨RL, "rule", "(LTransducerBench;III[J)I"⟩
abbrev cL_range : ByteArray := method_11_code
def yL_range : MethodName := ⟨RL, "range", "(LTransducerBench;IIIZ[J)I"⟩
abbrev cL_term : ByteArray := method_12_code
def yL_term : MethodName := ⟨RL, "term", "(LTransducerBench;III[J)I"⟩
abbrev cL_valueOf : ByteArray := method_13_code
def yL_valueOf : MethodName := ⟨RL, "valueOf", "(LTransducerBench;IIII[J)I"⟩
abbrev cL_feed : ByteArray := method_14_code
def yL_feed : MethodName := ⟨RL, "feed", "(LTransducerBench;C[J)I"⟩
abbrev cL_parse : ByteArray := method_15_code
def yL_parse : MethodName := ⟨RL, "parse", "(LTransducerBench;I[J)I"⟩
abbrev cL_push : ByteArray := method_16_code
def yL_push : MethodName := ⟨RL, "push", "(LTransducerBench;I[J)I"⟩
abbrev cL_symbol : ByteArray := method_17_code
def yL_symbol : MethodName := ⟨RL, "symbol", "(LTransducerBench;I[J)I"⟩
abbrev cL_runs : ByteArray := method_18_code
def yL_runs : MethodName := ⟨RL, "runs", "(LTransducerBench;I[J)I"⟩
abbrev cL_transduce : ByteArray := method_19_code
def yL_transduce : MethodName := ⟨RL, "transduce", "(LTransducerBench;IZ[J)I"⟩
abbrev cL_result : ByteArray := method_20_code
def yL_result : MethodName := ⟨RL, "result", "(LTransducerBench;I[J)I"⟩
abbrev cL_useResult : ByteArray := method_21_code
def yL_useResult : MethodName := ⟨RL, "useResult", "(LTransducerBench;[J)I"⟩
abbrev cL_domainCount : ByteArray := method_22_code
def yL_domainCount : MethodName := ⟨RL, "domainCount", "(LTransducerBench;II[J)I"⟩
abbrev cL_domainShare : ByteArray := method_23_code
def yL_domainShare : MethodName := ⟨RL, "domainShare", "(LTransducerBench;II[D)I"⟩
abbrev cL_shortestInput : ByteArray := method_24_code
def yL_shortestInput : MethodName := ⟨RL, "shortestInput", "(LTransducerBench;I[J)I"⟩
abbrev cL_outputSymbols : ByteArray := method_25_code
def yL_outputSymbols : MethodName := ⟨RL, "outputSymbols", "(LTransducerBench;I[J)I"⟩
abbrev cL_isDeterministic : ByteArray := method_26_code
def yL_isDeterministic : MethodName := ⟨RL, "isDeterministic", "(LTransducerBench;I[J)I"⟩
abbrev cL_isFunctional : ByteArray := method_27_code
def yL_isFunctional : MethodName := ⟨RL, "isFunctional", "(LTransducerBench;I[J)I"⟩
abbrev cL_isEquivalent : ByteArray := method_28_code
def yL_isEquivalent : MethodName := ⟨RL, "isEquivalent", "(LTransducerBench;II[J)I"⟩
abbrev cL_isWithin : ByteArray := method_29_code
def yL_isWithin : MethodName := ⟨RL, "isWithin", "(LTransducerBench;II[J)I"⟩
abbrev cL_compose : ByteArray := method_30_code
def yL_compose : MethodName := ⟨RL, "compose", "(LTransducerBench;III[J)I"⟩
abbrev cL_invert : ByteArray := method_31_code
def yL_invert : MethodName := ⟨RL, "invert", "(LTransducerBench;II[J)I"⟩
abbrev cL_restrict : ByteArray := method_32_code
def yL_restrict : MethodName := ⟨RL, "restrict", "(LTransducerBench;III[J)I"⟩
abbrev cL_trim : ByteArray := method_33_code
def yL_trim : MethodName := ⟨RL, "trim", "(LTransducerBench;I[J)I"⟩
abbrev cL_copy : ByteArray := method_34_code
def yL_copy : MethodName := ⟨RL, "copy", "(LTransducerBench;II[J)I"⟩
abbrev cL_undo : ByteArray := method_35_code
def yL_undo : MethodName := ⟨RL, "undo", "(LTransducerBench;[J)I"⟩
abbrev cL_law : ByteArray := code
def yL_law : MethodName := ⟨RL, "law", "([I)Z"⟩
abbrev pm_cl : List vw_C := [(RX0, TX0, 7), (RX1, TX1, 14), (RX2, TX2, 4), (RX3, TX3, 8), (RX4, TX4, 12), (RX5, TX5, 7), (RX6, TX6, 7), (RX7, TX7, 2), (RX8, TX8, 2), (RX9, TX9, 3), (RX10, TX10, 2), (RX11, TX11, 10), (RX12, TX12, 45)]
def pm_tyl : List (Nat → FieldType) := [tyX0, tyX1, tyX2, tyX3, tyX4, tyX5, tyX6, tyX7, tyX8, tyX9, tyX10, tyX11, tyX12]
def pm_fty (ci k : Nat) : FieldType := match pm_tyl[ci]? with
  | some f => f k
  | none => .int
theorem pu_X0_0 : u_lay RX0 TX0 0 ∈ lw_tbl := List.mem_of_getElem? (i := 454) (by decide +kernel)
theorem pu_X0_1 : u_lay RX0 TX0 1 ∈ lw_tbl := List.mem_of_getElem? (i := 456) (by decide +kernel)
theorem pu_X0_2 : u_lay RX0 TX0 2 ∈ lw_tbl := List.mem_of_getElem? (i := 458) (by decide +kernel)
theorem pu_X0_3 : u_lay RX0 TX0 3 ∈ lw_tbl := List.mem_of_getElem? (i := 460) (by decide +kernel)
theorem pu_X0_4 : u_lay RX0 TX0 4 ∈ lw_tbl := List.mem_of_getElem? (i := 462) (by decide +kernel)
theorem pu_X0_5 : u_lay RX0 TX0 5 ∈ lw_tbl := List.mem_of_getElem? (i := 464) (by decide +kernel)
theorem pu_X0_6 : u_lay RX0 TX0 6 ∈ lw_tbl := List.mem_of_getElem? (i := 466) (by decide +kernel)
theorem pu_X0 : ∀ w ∈ u_ws RX0 TX0 7, w ∈ lw_tbl := by
  intro w hw
  obtain ⟨k, hk, rfl⟩ := List.mem_map.mp hw
  have hk := List.mem_range.mp hk
  match k, hk with
  | 0, _ => exact pu_X0_0
  | 1, _ => exact pu_X0_1
  | 2, _ => exact pu_X0_2
  | 3, _ => exact pu_X0_3
  | 4, _ => exact pu_X0_4
  | 5, _ => exact pu_X0_5
  | 6, _ => exact pu_X0_6
  | n + 7, h => exact absurd h (by omega)
theorem pu_X1_0 : u_lay RX1 TX1 0 ∈ lw_tbl := List.mem_of_getElem? (i := 365) (by decide +kernel)
theorem pu_X1_1 : u_lay RX1 TX1 1 ∈ lw_tbl := List.mem_of_getElem? (i := 367) (by decide +kernel)
theorem pu_X1_2 : u_lay RX1 TX1 2 ∈ lw_tbl := List.mem_of_getElem? (i := 369) (by decide +kernel)
theorem pu_X1_3 : u_lay RX1 TX1 3 ∈ lw_tbl := List.mem_of_getElem? (i := 371) (by decide +kernel)
theorem pu_X1_4 : u_lay RX1 TX1 4 ∈ lw_tbl := List.mem_of_getElem? (i := 373) (by decide +kernel)
theorem pu_X1_5 : u_lay RX1 TX1 5 ∈ lw_tbl := List.mem_of_getElem? (i := 375) (by decide +kernel)
theorem pu_X1_6 : u_lay RX1 TX1 6 ∈ lw_tbl := List.mem_of_getElem? (i := 377) (by decide +kernel)
theorem pu_X1_7 : u_lay RX1 TX1 7 ∈ lw_tbl := List.mem_of_getElem? (i := 379) (by decide +kernel)
theorem pu_X1_8 : u_lay RX1 TX1 8 ∈ lw_tbl := List.mem_of_getElem? (i := 381) (by decide +kernel)
theorem pu_X1_9 : u_lay RX1 TX1 9 ∈ lw_tbl := List.mem_of_getElem? (i := 383) (by decide +kernel)
theorem pu_X1_10 : u_lay RX1 TX1 10 ∈ lw_tbl := List.mem_of_getElem? (i := 385) (by decide +kernel)
theorem pu_X1_11 : u_lay RX1 TX1 11 ∈ lw_tbl := List.mem_of_getElem? (i := 387) (by decide +kernel)
theorem pu_X1_12 : u_lay RX1 TX1 12 ∈ lw_tbl := List.mem_of_getElem? (i := 389) (by decide +kernel)
theorem pu_X1_13 : u_lay RX1 TX1 13 ∈ lw_tbl := List.mem_of_getElem? (i := 391) (by decide +kernel)
theorem pu_X1 : ∀ w ∈ u_ws RX1 TX1 14, w ∈ lw_tbl := by
  intro w hw
  obtain ⟨k, hk, rfl⟩ := List.mem_map.mp hw
  have hk := List.mem_range.mp hk
  match k, hk with
  | 0, _ => exact pu_X1_0
  | 1, _ => exact pu_X1_1
  | 2, _ => exact pu_X1_2
  | 3, _ => exact pu_X1_3
  | 4, _ => exact pu_X1_4
  | 5, _ => exact pu_X1_5
  | 6, _ => exact pu_X1_6
  | 7, _ => exact pu_X1_7
  | 8, _ => exact pu_X1_8
  | 9, _ => exact pu_X1_9
  | 10, _ => exact pu_X1_10
  | 11, _ => exact pu_X1_11
  | 12, _ => exact pu_X1_12
  | 13, _ => exact pu_X1_13
  | n + 14, h => exact absurd h (by omega)
theorem pu_X2_0 : u_lay RX2 TX2 0 ∈ lw_tbl := List.mem_of_getElem? (i := 234) (by decide +kernel)
theorem pu_X2_1 : u_lay RX2 TX2 1 ∈ lw_tbl := List.mem_of_getElem? (i := 236) (by decide +kernel)
theorem pu_X2_2 : u_lay RX2 TX2 2 ∈ lw_tbl := List.mem_of_getElem? (i := 238) (by decide +kernel)
theorem pu_X2_3 : u_lay RX2 TX2 3 ∈ lw_tbl := List.mem_of_getElem? (i := 240) (by decide +kernel)
theorem pu_X2 : ∀ w ∈ u_ws RX2 TX2 4, w ∈ lw_tbl := by
  intro w hw
  obtain ⟨k, hk, rfl⟩ := List.mem_map.mp hw
  have hk := List.mem_range.mp hk
  match k, hk with
  | 0, _ => exact pu_X2_0
  | 1, _ => exact pu_X2_1
  | 2, _ => exact pu_X2_2
  | 3, _ => exact pu_X2_3
  | n + 4, h => exact absurd h (by omega)
theorem pu_X3_0 : u_lay RX3 TX3 0 ∈ lw_tbl := List.mem_of_getElem? (i := 314) (by decide +kernel)
theorem pu_X3_1 : u_lay RX3 TX3 1 ∈ lw_tbl := List.mem_of_getElem? (i := 316) (by decide +kernel)
theorem pu_X3_2 : u_lay RX3 TX3 2 ∈ lw_tbl := List.mem_of_getElem? (i := 318) (by decide +kernel)
theorem pu_X3_3 : u_lay RX3 TX3 3 ∈ lw_tbl := List.mem_of_getElem? (i := 320) (by decide +kernel)
theorem pu_X3_4 : u_lay RX3 TX3 4 ∈ lw_tbl := List.mem_of_getElem? (i := 322) (by decide +kernel)
theorem pu_X3_5 : u_lay RX3 TX3 5 ∈ lw_tbl := List.mem_of_getElem? (i := 324) (by decide +kernel)
theorem pu_X3_6 : u_lay RX3 TX3 6 ∈ lw_tbl := List.mem_of_getElem? (i := 326) (by decide +kernel)
theorem pu_X3_7 : u_lay RX3 TX3 7 ∈ lw_tbl := List.mem_of_getElem? (i := 328) (by decide +kernel)
theorem pu_X3 : ∀ w ∈ u_ws RX3 TX3 8, w ∈ lw_tbl := by
  intro w hw
  obtain ⟨k, hk, rfl⟩ := List.mem_map.mp hw
  have hk := List.mem_range.mp hk
  match k, hk with
  | 0, _ => exact pu_X3_0
  | 1, _ => exact pu_X3_1
  | 2, _ => exact pu_X3_2
  | 3, _ => exact pu_X3_3
  | 4, _ => exact pu_X3_4
  | 5, _ => exact pu_X3_5
  | 6, _ => exact pu_X3_6
  | 7, _ => exact pu_X3_7
  | n + 8, h => exact absurd h (by omega)
theorem pu_X4_0 : u_lay RX4 TX4 0 ∈ lw_tbl := List.mem_of_getElem? (i := 412) (by decide +kernel)
theorem pu_X4_1 : u_lay RX4 TX4 1 ∈ lw_tbl := List.mem_of_getElem? (i := 414) (by decide +kernel)
theorem pu_X4_2 : u_lay RX4 TX4 2 ∈ lw_tbl := List.mem_of_getElem? (i := 416) (by decide +kernel)
theorem pu_X4_3 : u_lay RX4 TX4 3 ∈ lw_tbl := List.mem_of_getElem? (i := 418) (by decide +kernel)
theorem pu_X4_4 : u_lay RX4 TX4 4 ∈ lw_tbl := List.mem_of_getElem? (i := 420) (by decide +kernel)
theorem pu_X4_5 : u_lay RX4 TX4 5 ∈ lw_tbl := List.mem_of_getElem? (i := 422) (by decide +kernel)
theorem pu_X4_6 : u_lay RX4 TX4 6 ∈ lw_tbl := List.mem_of_getElem? (i := 424) (by decide +kernel)
theorem pu_X4_7 : u_lay RX4 TX4 7 ∈ lw_tbl := List.mem_of_getElem? (i := 426) (by decide +kernel)
theorem pu_X4_8 : u_lay RX4 TX4 8 ∈ lw_tbl := List.mem_of_getElem? (i := 428) (by decide +kernel)
theorem pu_X4_9 : u_lay RX4 TX4 9 ∈ lw_tbl := List.mem_of_getElem? (i := 430) (by decide +kernel)
theorem pu_X4_10 : u_lay RX4 TX4 10 ∈ lw_tbl := List.mem_of_getElem? (i := 432) (by decide +kernel)
theorem pu_X4_11 : u_lay RX4 TX4 11 ∈ lw_tbl := List.mem_of_getElem? (i := 434) (by decide +kernel)
theorem pu_X4 : ∀ w ∈ u_ws RX4 TX4 12, w ∈ lw_tbl := by
  intro w hw
  obtain ⟨k, hk, rfl⟩ := List.mem_map.mp hw
  have hk := List.mem_range.mp hk
  match k, hk with
  | 0, _ => exact pu_X4_0
  | 1, _ => exact pu_X4_1
  | 2, _ => exact pu_X4_2
  | 3, _ => exact pu_X4_3
  | 4, _ => exact pu_X4_4
  | 5, _ => exact pu_X4_5
  | 6, _ => exact pu_X4_6
  | 7, _ => exact pu_X4_7
  | 8, _ => exact pu_X4_8
  | 9, _ => exact pu_X4_9
  | 10, _ => exact pu_X4_10
  | 11, _ => exact pu_X4_11
  | n + 12, h => exact absurd h (by omega)
theorem pu_X5_0 : u_lay RX5 TX5 0 ∈ lw_tbl := List.mem_of_getElem? (i := 262) (by decide +kernel)
theorem pu_X5_1 : u_lay RX5 TX5 1 ∈ lw_tbl := List.mem_of_getElem? (i := 264) (by decide +kernel)
theorem pu_X5_2 : u_lay RX5 TX5 2 ∈ lw_tbl := List.mem_of_getElem? (i := 266) (by decide +kernel)
theorem pu_X5_3 : u_lay RX5 TX5 3 ∈ lw_tbl := List.mem_of_getElem? (i := 268) (by decide +kernel)
theorem pu_X5_4 : u_lay RX5 TX5 4 ∈ lw_tbl := List.mem_of_getElem? (i := 270) (by decide +kernel)
theorem pu_X5_5 : u_lay RX5 TX5 5 ∈ lw_tbl := List.mem_of_getElem? (i := 272) (by decide +kernel)
theorem pu_X5_6 : u_lay RX5 TX5 6 ∈ lw_tbl := List.mem_of_getElem? (i := 274) (by decide +kernel)
theorem pu_X5 : ∀ w ∈ u_ws RX5 TX5 7, w ∈ lw_tbl := by
  intro w hw
  obtain ⟨k, hk, rfl⟩ := List.mem_map.mp hw
  have hk := List.mem_range.mp hk
  match k, hk with
  | 0, _ => exact pu_X5_0
  | 1, _ => exact pu_X5_1
  | 2, _ => exact pu_X5_2
  | 3, _ => exact pu_X5_3
  | 4, _ => exact pu_X5_4
  | 5, _ => exact pu_X5_5
  | 6, _ => exact pu_X5_6
  | n + 7, h => exact absurd h (by omega)
theorem pu_X6_0 : u_lay RX6 TX6 0 ∈ lw_tbl := List.mem_of_getElem? (i := 181) (by decide +kernel)
theorem pu_X6_1 : u_lay RX6 TX6 1 ∈ lw_tbl := List.mem_of_getElem? (i := 183) (by decide +kernel)
theorem pu_X6_2 : u_lay RX6 TX6 2 ∈ lw_tbl := List.mem_of_getElem? (i := 185) (by decide +kernel)
theorem pu_X6_3 : u_lay RX6 TX6 3 ∈ lw_tbl := List.mem_of_getElem? (i := 187) (by decide +kernel)
theorem pu_X6_4 : u_lay RX6 TX6 4 ∈ lw_tbl := List.mem_of_getElem? (i := 189) (by decide +kernel)
theorem pu_X6_5 : u_lay RX6 TX6 5 ∈ lw_tbl := List.mem_of_getElem? (i := 191) (by decide +kernel)
theorem pu_X6_6 : u_lay RX6 TX6 6 ∈ lw_tbl := List.mem_of_getElem? (i := 193) (by decide +kernel)
theorem pu_X6 : ∀ w ∈ u_ws RX6 TX6 7, w ∈ lw_tbl := by
  intro w hw
  obtain ⟨k, hk, rfl⟩ := List.mem_map.mp hw
  have hk := List.mem_range.mp hk
  match k, hk with
  | 0, _ => exact pu_X6_0
  | 1, _ => exact pu_X6_1
  | 2, _ => exact pu_X6_2
  | 3, _ => exact pu_X6_3
  | 4, _ => exact pu_X6_4
  | 5, _ => exact pu_X6_5
  | 6, _ => exact pu_X6_6
  | n + 7, h => exact absurd h (by omega)
theorem pu_X7_0 : u_lay RX7 TX7 0 ∈ lw_tbl := List.mem_of_getElem? (i := 346) (by decide +kernel)
theorem pu_X7_1 : u_lay RX7 TX7 1 ∈ lw_tbl := List.mem_of_getElem? (i := 348) (by decide +kernel)
theorem pu_X7 : ∀ w ∈ u_ws RX7 TX7 2, w ∈ lw_tbl := by
  intro w hw
  obtain ⟨k, hk, rfl⟩ := List.mem_map.mp hw
  have hk := List.mem_range.mp hk
  match k, hk with
  | 0, _ => exact pu_X7_0
  | 1, _ => exact pu_X7_1
  | n + 2, h => exact absurd h (by omega)
theorem pu_X8_0 : u_lay RX8 TX8 0 ∈ lw_tbl := List.mem_of_getElem? (i := 139) (by decide +kernel)
theorem pu_X8_1 : u_lay RX8 TX8 1 ∈ lw_tbl := List.mem_of_getElem? (i := 141) (by decide +kernel)
theorem pu_X8 : ∀ w ∈ u_ws RX8 TX8 2, w ∈ lw_tbl := by
  intro w hw
  obtain ⟨k, hk, rfl⟩ := List.mem_map.mp hw
  have hk := List.mem_range.mp hk
  match k, hk with
  | 0, _ => exact pu_X8_0
  | 1, _ => exact pu_X8_1
  | n + 2, h => exact absurd h (by omega)
theorem pu_X9_0 : u_lay RX9 TX9 0 ∈ lw_tbl := List.mem_of_getElem? (i := 214) (by decide +kernel)
theorem pu_X9_1 : u_lay RX9 TX9 1 ∈ lw_tbl := List.mem_of_getElem? (i := 216) (by decide +kernel)
theorem pu_X9_2 : u_lay RX9 TX9 2 ∈ lw_tbl := List.mem_of_getElem? (i := 218) (by decide +kernel)
theorem pu_X9 : ∀ w ∈ u_ws RX9 TX9 3, w ∈ lw_tbl := by
  intro w hw
  obtain ⟨k, hk, rfl⟩ := List.mem_map.mp hw
  have hk := List.mem_range.mp hk
  match k, hk with
  | 0, _ => exact pu_X9_0
  | 1, _ => exact pu_X9_1
  | 2, _ => exact pu_X9_2
  | n + 3, h => exact absurd h (by omega)
theorem pu_X10_0 : u_lay RX10 TX10 0 ∈ lw_tbl := List.mem_of_getElem? (i := 290) (by decide +kernel)
theorem pu_X10_1 : u_lay RX10 TX10 1 ∈ lw_tbl := List.mem_of_getElem? (i := 292) (by decide +kernel)
theorem pu_X10 : ∀ w ∈ u_ws RX10 TX10 2, w ∈ lw_tbl := by
  intro w hw
  obtain ⟨k, hk, rfl⟩ := List.mem_map.mp hw
  have hk := List.mem_range.mp hk
  match k, hk with
  | 0, _ => exact pu_X10_0
  | 1, _ => exact pu_X10_1
  | n + 2, h => exact absurd h (by omega)
theorem pu_X11_0 : u_lay RX11 TX11 0 ∈ lw_tbl := List.mem_of_getElem? (i := 479) (by decide +kernel)
theorem pu_X11_1 : u_lay RX11 TX11 1 ∈ lw_tbl := List.mem_of_getElem? (i := 481) (by decide +kernel)
theorem pu_X11_2 : u_lay RX11 TX11 2 ∈ lw_tbl := List.mem_of_getElem? (i := 483) (by decide +kernel)
theorem pu_X11_3 : u_lay RX11 TX11 3 ∈ lw_tbl := List.mem_of_getElem? (i := 485) (by decide +kernel)
theorem pu_X11_4 : u_lay RX11 TX11 4 ∈ lw_tbl := List.mem_of_getElem? (i := 487) (by decide +kernel)
theorem pu_X11_5 : u_lay RX11 TX11 5 ∈ lw_tbl := List.mem_of_getElem? (i := 489) (by decide +kernel)
theorem pu_X11_6 : u_lay RX11 TX11 6 ∈ lw_tbl := List.mem_of_getElem? (i := 491) (by decide +kernel)
theorem pu_X11_7 : u_lay RX11 TX11 7 ∈ lw_tbl := List.mem_of_getElem? (i := 493) (by decide +kernel)
theorem pu_X11_8 : u_lay RX11 TX11 8 ∈ lw_tbl := List.mem_of_getElem? (i := 495) (by decide +kernel)
theorem pu_X11_9 : u_lay RX11 TX11 9 ∈ lw_tbl := List.mem_of_getElem? (i := 497) (by decide +kernel)
theorem pu_X11 : ∀ w ∈ u_ws RX11 TX11 10, w ∈ lw_tbl := by
  intro w hw
  obtain ⟨k, hk, rfl⟩ := List.mem_map.mp hw
  have hk := List.mem_range.mp hk
  match k, hk with
  | 0, _ => exact pu_X11_0
  | 1, _ => exact pu_X11_1
  | 2, _ => exact pu_X11_2
  | 3, _ => exact pu_X11_3
  | 4, _ => exact pu_X11_4
  | 5, _ => exact pu_X11_5
  | 6, _ => exact pu_X11_6
  | 7, _ => exact pu_X11_7
  | 8, _ => exact pu_X11_8
  | 9, _ => exact pu_X11_9
  | n + 10, h => exact absurd h (by omega)
theorem pu_X12_0 : u_lay RX12 TX12 0 ∈ lw_tbl := List.mem_of_getElem? (i := 1491) (by decide +kernel)
theorem pu_X12_1 : u_lay RX12 TX12 1 ∈ lw_tbl := List.mem_of_getElem? (i := 1493) (by decide +kernel)
theorem pu_X12_2 : u_lay RX12 TX12 2 ∈ lw_tbl := List.mem_of_getElem? (i := 1495) (by decide +kernel)
theorem pu_X12_3 : u_lay RX12 TX12 3 ∈ lw_tbl := List.mem_of_getElem? (i := 1497) (by decide +kernel)
theorem pu_X12_4 : u_lay RX12 TX12 4 ∈ lw_tbl := List.mem_of_getElem? (i := 1499) (by decide +kernel)
theorem pu_X12_5 : u_lay RX12 TX12 5 ∈ lw_tbl := List.mem_of_getElem? (i := 1501) (by decide +kernel)
theorem pu_X12_6 : u_lay RX12 TX12 6 ∈ lw_tbl := List.mem_of_getElem? (i := 1503) (by decide +kernel)
theorem pu_X12_7 : u_lay RX12 TX12 7 ∈ lw_tbl := List.mem_of_getElem? (i := 1505) (by decide +kernel)
theorem pu_X12_8 : u_lay RX12 TX12 8 ∈ lw_tbl := List.mem_of_getElem? (i := 1507) (by decide +kernel)
theorem pu_X12_9 : u_lay RX12 TX12 9 ∈ lw_tbl := List.mem_of_getElem? (i := 1509) (by decide +kernel)
theorem pu_X12_10 : u_lay RX12 TX12 10 ∈ lw_tbl := List.mem_of_getElem? (i := 1511) (by decide +kernel)
theorem pu_X12_11 : u_lay RX12 TX12 11 ∈ lw_tbl := List.mem_of_getElem? (i := 1513) (by decide +kernel)
theorem pu_X12_12 : u_lay RX12 TX12 12 ∈ lw_tbl := List.mem_of_getElem? (i := 1515) (by decide +kernel)
theorem pu_X12_13 : u_lay RX12 TX12 13 ∈ lw_tbl := List.mem_of_getElem? (i := 1517) (by decide +kernel)
theorem pu_X12_14 : u_lay RX12 TX12 14 ∈ lw_tbl := List.mem_of_getElem? (i := 1519) (by decide +kernel)
theorem pu_X12_15 : u_lay RX12 TX12 15 ∈ lw_tbl := List.mem_of_getElem? (i := 1521) (by decide +kernel)
theorem pu_X12_16 : u_lay RX12 TX12 16 ∈ lw_tbl := List.mem_of_getElem? (i := 1523) (by decide +kernel)
theorem pu_X12_17 : u_lay RX12 TX12 17 ∈ lw_tbl := List.mem_of_getElem? (i := 1525) (by decide +kernel)
theorem pu_X12_18 : u_lay RX12 TX12 18 ∈ lw_tbl := List.mem_of_getElem? (i := 1527) (by decide +kernel)
theorem pu_X12_19 : u_lay RX12 TX12 19 ∈ lw_tbl := List.mem_of_getElem? (i := 1529) (by decide +kernel)
theorem pu_X12_20 : u_lay RX12 TX12 20 ∈ lw_tbl := List.mem_of_getElem? (i := 1531) (by decide +kernel)
theorem pu_X12_21 : u_lay RX12 TX12 21 ∈ lw_tbl := List.mem_of_getElem? (i := 1533) (by decide +kernel)
theorem pu_X12_22 : u_lay RX12 TX12 22 ∈ lw_tbl := List.mem_of_getElem? (i := 1535) (by decide +kernel)
theorem pu_X12_23 : u_lay RX12 TX12 23 ∈ lw_tbl := List.mem_of_getElem? (i := 1537) (by decide +kernel)
theorem pu_X12_24 : u_lay RX12 TX12 24 ∈ lw_tbl := List.mem_of_getElem? (i := 1539) (by decide +kernel)
theorem pu_X12_25 : u_lay RX12 TX12 25 ∈ lw_tbl := List.mem_of_getElem? (i := 1541) (by decide +kernel)
theorem pu_X12_26 : u_lay RX12 TX12 26 ∈ lw_tbl := List.mem_of_getElem? (i := 1543) (by decide +kernel)
theorem pu_X12_27 : u_lay RX12 TX12 27 ∈ lw_tbl := List.mem_of_getElem? (i := 1545) (by decide +kernel)
theorem pu_X12_28 : u_lay RX12 TX12 28 ∈ lw_tbl := List.mem_of_getElem? (i := 1547) (by decide +kernel)
theorem pu_X12_29 : u_lay RX12 TX12 29 ∈ lw_tbl := List.mem_of_getElem? (i := 1549) (by decide +kernel)
theorem pu_X12_30 : u_lay RX12 TX12 30 ∈ lw_tbl := List.mem_of_getElem? (i := 1551) (by decide +kernel)
theorem pu_X12_31 : u_lay RX12 TX12 31 ∈ lw_tbl := List.mem_of_getElem? (i := 1553) (by decide +kernel)
theorem pu_X12_32 : u_lay RX12 TX12 32 ∈ lw_tbl := List.mem_of_getElem? (i := 1555) (by decide +kernel)
theorem pu_X12_33 : u_lay RX12 TX12 33 ∈ lw_tbl := List.mem_of_getElem? (i := 1557) (by decide +kernel)
theorem pu_X12_34 : u_lay RX12 TX12 34 ∈ lw_tbl := List.mem_of_getElem? (i := 1559) (by decide +kernel)
theorem pu_X12_35 : u_lay RX12 TX12 35 ∈ lw_tbl := List.mem_of_getElem? (i := 1561) (by decide +kernel)
theorem pu_X12_36 : u_lay RX12 TX12 36 ∈ lw_tbl := List.mem_of_getElem? (i := 1563) (by decide +kernel)
theorem pu_X12_37 : u_lay RX12 TX12 37 ∈ lw_tbl := List.mem_of_getElem? (i := 1565) (by decide +kernel)
theorem pu_X12_38 : u_lay RX12 TX12 38 ∈ lw_tbl := List.mem_of_getElem? (i := 1567) (by decide +kernel)
theorem pu_X12_39 : u_lay RX12 TX12 39 ∈ lw_tbl := List.mem_of_getElem? (i := 1569) (by decide +kernel)
theorem pu_X12_40 : u_lay RX12 TX12 40 ∈ lw_tbl := List.mem_of_getElem? (i := 1571) (by decide +kernel)
theorem pu_X12_41 : u_lay RX12 TX12 41 ∈ lw_tbl := List.mem_of_getElem? (i := 1573) (by decide +kernel)
theorem pu_X12_42 : u_lay RX12 TX12 42 ∈ lw_tbl := List.mem_of_getElem? (i := 1575) (by decide +kernel)
theorem pu_X12_43 : u_lay RX12 TX12 43 ∈ lw_tbl := List.mem_of_getElem? (i := 1577) (by decide +kernel)
theorem pu_X12_44 : u_lay RX12 TX12 44 ∈ lw_tbl := List.mem_of_getElem? (i := 1579) (by decide +kernel)
theorem pu_X12 : ∀ w ∈ u_ws RX12 TX12 45, w ∈ lw_tbl := by
  intro w hw
  obtain ⟨k, hk, rfl⟩ := List.mem_map.mp hw
  have hk := List.mem_range.mp hk
  match k, hk with
  | 0, _ => exact pu_X12_0
  | 1, _ => exact pu_X12_1
  | 2, _ => exact pu_X12_2
  | 3, _ => exact pu_X12_3
  | 4, _ => exact pu_X12_4
  | 5, _ => exact pu_X12_5
  | 6, _ => exact pu_X12_6
  | 7, _ => exact pu_X12_7
  | 8, _ => exact pu_X12_8
  | 9, _ => exact pu_X12_9
  | 10, _ => exact pu_X12_10
  | 11, _ => exact pu_X12_11
  | 12, _ => exact pu_X12_12
  | 13, _ => exact pu_X12_13
  | 14, _ => exact pu_X12_14
  | 15, _ => exact pu_X12_15
  | 16, _ => exact pu_X12_16
  | 17, _ => exact pu_X12_17
  | 18, _ => exact pu_X12_18
  | 19, _ => exact pu_X12_19
  | 20, _ => exact pu_X12_20
  | 21, _ => exact pu_X12_21
  | 22, _ => exact pu_X12_22
  | 23, _ => exact pu_X12_23
  | 24, _ => exact pu_X12_24
  | 25, _ => exact pu_X12_25
  | 26, _ => exact pu_X12_26
  | 27, _ => exact pu_X12_27
  | 28, _ => exact pu_X12_28
  | 29, _ => exact pu_X12_29
  | 30, _ => exact pu_X12_30
  | 31, _ => exact pu_X12_31
  | 32, _ => exact pu_X12_32
  | 33, _ => exact pu_X12_33
  | 34, _ => exact pu_X12_34
  | 35, _ => exact pu_X12_35
  | 36, _ => exact pu_X12_36
  | 37, _ => exact pu_X12_37
  | 38, _ => exact pu_X12_38
  | 39, _ => exact pu_X12_39
  | 40, _ => exact pu_X12_40
  | 41, _ => exact pu_X12_41
  | 42, _ => exact pu_X12_42
  | 43, _ => exact pu_X12_43
  | 44, _ => exact pu_X12_44
  | n + 45, h => exact absurd h (by omega)
def pm_cnl : List String := [RX0, RX1, RX2, RX3, RX4, RX5, RX6, RX7, RX8, RX9, RX10, RX11, RX12, RL, RJ7, RJ9, RJ13]
def pm_cn (c : Nat) : String := (pm_cnl[c]?).getD ""
def pm_mc0 : List (MethodName × ByteArray × Option FieldType × List (Nat × Nat × Nat × Nat) × Nat) := [(yX0_init, cX0_init, none, [], 0), (yX0_build, cX0_build, (some .boolean), [], 0), (yX0_addRulesFrom, cX0_addRulesFrom, none, [], 0), (yX0_findOpen, cX0_findOpen, none, [], 0), (yX0_findTakers, cX0_findTakers, none, [], 0), (yX0_extend, cX0_extend, none, [], 0), (yX0_addCombined, cX0_addCombined, none, [], 0), (yX0_numberOf, cX0_numberOf, (some .int), [], 0), (yX1_init, cX1_init, none, [], 1), (yX1_findGroups, cX1_findGroups, none, [], 1), (yX1_countWords, cX1_countWords, (some .long), [], 1), (yX1_countLonger, cX1_countLonger, none, [], 1), (yX1_takeNext, cX1_takeNext, none, [], 1), (yX1_isContained, cX1_isContained, (some .boolean), [], 1), (yX1_followFirst, cX1_followFirst, (some .boolean), [], 1), (yX1_meet, cX1_meet, (some .boolean), [], 1)]
def pm_mc1 : List (MethodName × ByteArray × Option FieldType × List (Nat × Nat × Nat × Nat) × Nat) := [(yX1_findShortest, cX1_findShortest, (some .boolean), [], 1), (yX1_firstSymbol, cX1_firstSymbol, (some .int), [], 1), (yX2_init, cX2_init, none, [], 2), (yX2_save, cX2_save, none, [], 2), (yX2_takeBack, cX2_takeBack, (some .int), [], 2), (yX3_init, cX3_init, none, [], 3), (yX3_countRuns, cX3_countRuns, (some .long), [], 3), (yX3_countStep, cX3_countStep, none, [], 3), (yX3_find, cX3_find, (some .boolean), [], 3), (yX3_chooseEarlier, cX3_chooseEarlier, none, [], 3), (yX3_isBetter, cX3_isBetter, (some .boolean), [], 3), (yX3_countSymbols, cX3_countSymbols, (some .int), [], 3), (yX3_includeValues, cX3_includeValues, none, [], 3), (yX4_init, cX4_init, none, [], 4), (yX4_isAgreed, cX4_isAgreed, (some .boolean), [], 4), (yX4_findHopeful, cX4_findHopeful, none, [], 4)]
def pm_mc2 : List (MethodName × ByteArray × Option FieldType × List (Nat × Nat × Nat × Nat) × Nat) := [(yX4_isFinalPair, cX4_isFinalPair, (some .boolean), [], 4), (yX4_addHopeful, cX4_addHopeful, (some .boolean), [], 4), (yX4_follow, cX4_follow, (some .boolean), [], 4), (yX4_followRules, cX4_followRules, (some .boolean), [], 4), (yX4_loadAhead, cX4_loadAhead, none, [], 4), (yX4_appendOutputs, cX4_appendOutputs, none, [], 4), (yX4_isFitting, cX4_isFitting, (some .boolean), [], 4), (yX4_isSameLead, cX4_isSameLead, (some .boolean), [], 4), (yX4_keepPair, cX4_keepPair, none, [], 4), (yX5_init, cX5_init, none, [], 5), (yX5_append, cX5_append, none, [], 5), (yX5_clear, cX5_clear, none, [], 5), (yX5_readInto, cX5_readInto, (some .boolean), [], 5), (yX5_readFinal, cX5_readFinal, (some .boolean), [], 5), (yX5_readRule, cX5_readRule, (some .boolean), [], 5), (yX5_isState, cX5_isState, (some .boolean), [], 5)]
def pm_mc3 : List (MethodName × ByteArray × Option FieldType × List (Nat × Nat × Nat × Nat) × Nat) := [(yX5_keepRule, cX5_keepRule, none, [], 5), (yX5_readRanges, cX5_readRanges, (some .boolean), [], 5), (yX5_readRange, cX5_readRange, (some .boolean), [], 5), (yX5_readTerms, cX5_readTerms, (some .boolean), [], 5), (yX5_readTerm, cX5_readTerm, (some .boolean), [], 5), (yX5_readNumber, cX5_readNumber, (some .boolean), [], 5), (yX5_takeDigit, cX5_takeDigit, (some .int), [], 5), (yX5_isAtDigit, cX5_isAtDigit, (some .boolean), [], 5), (yX5_isAt, cX5_isAt, (some .boolean), [], 5), (yX5_skip, cX5_skip, (some .boolean), [], 5), (yX6_init, cX6_init, none, [], 6), (yX6_begin, cX6_begin, none, [], 6), (yX6_copyFrom, cX6_copyFrom, none, [], 6), (yX6_append, cX6_append, none, [], 6), (yX6_valueAt, cX6_valueAt, (some .int), [], 6), (yX6_isEnabled, cX6_isEnabled, (some .boolean), [], 6)]
def pm_mc4 : List (MethodName × ByteArray × Option FieldType × List (Nat × Nat × Nat × Nat) × Nat) := [(yX6_isEverEnabled, cX6_isEverEnabled, (some .boolean), [], 6), (yX6_isEnabledWith, cX6_isEnabledWith, (some .boolean), [], 6), (yX6_enabledInto, cX6_enabledInto, none, [], 6), (yX7_init, cX7_init, none, [], 7), (yX7_load, cX7_load, none, [], 7), (yX7_after, cX7_after, (some .int), [], 7), (yX7_isAlike, cX7_isAlike, (some .boolean), [], 7), (yX7_isAccepting, cX7_isAccepting, (some .boolean), [], 7), (yX8_init, cX8_init, none, [], 8), (yX8_clear, cX8_clear, none, [], 8), (yX8_fill, cX8_fill, none, [], 8), (yX8_copyFrom, cX8_copyFrom, none, [], 8), (yX8_include, cX8_include, none, [], 8), (yX8_include_, cX8_include_, none, [], 8), (yX8_keep, cX8_keep, none, [], 8), (yX8_keep_, cX8_keep_, none, [], 8)]
def pm_mc5 : List (MethodName × ByteArray × Option FieldType × List (Nat × Nat × Nat × Nat) × Nat) := [(yX8_shift, cX8_shift, none, [], 8), (yX8_shiftUp, cX8_shiftUp, none, [], 8), (yX8_shiftDown, cX8_shiftDown, none, [], 8), (yX8_has, cX8_has, (some .boolean), [], 8), (yX8_isEmpty, cX8_isEmpty, (some .boolean), [], 8), (yX8_meets, cX8_meets, (some .boolean), [], 8), (yX8_meetsWithin, cX8_meetsWithin, (some .boolean), [], 8), (yX8_size, cX8_size, (some .int), [], 8), (yX8_sizeWithin, cX8_sizeWithin, (some .int), [], 8), (yX8_rangeCount, cX8_rangeCount, (some .int), [], 8), (yX8_rangeStart, cX8_rangeStart, (some .int), [], 8), (yX8_rangeEnd, cX8_rangeEnd, (some .int), [], 8), (yX8_isRangeStart, cX8_isRangeStart, (some .boolean), [], 8), (yX8_bits, cX8_bits, (some .long), [], 8), (yX9_init, cX9_init, none, [], 9), (yX9_clear, cX9_clear, none, [], 9)]
def pm_mc6 : List (MethodName × ByteArray × Option FieldType × List (Nat × Nat × Nat × Nat) × Nat) := [(yX9_copyFrom, cX9_copyFrom, none, [], 9), (yX9_isFull, cX9_isFull, (some .boolean), [], 9), (yX9_append, cX9_append, (some (.object "TransducerBench$Rule")), [], 9), (yX9_remove, cX9_remove, none, [], 9), (yX9_hasFinal, cX9_hasFinal, (some .boolean), [], 9), (yX9_markFinal, cX9_markFinal, none, [], 9), (yX9_reachedStates, cX9_reachedStates, (some .int), [], 9), (yX9_hopefulStates, cX9_hopefulStates, (some .int), [], 9), (yX9_withSources, cX9_withSources, (some .int), [], 9), (yX9_keepSymbols, cX9_keepSymbols, none, [], 9), (yX9_dropUseless, cX9_dropUseless, none, [], 9), (yX9_isUseful, cX9_isUseful, (some .boolean), [], 9), (yX9_becomeInverse, cX9_becomeInverse, none, [], 9), (yX10_init, cX10_init, none, [], 10), (yX10_clear, cX10_clear, none, [], 10), (yX10_append, cX10_append, none, [], 10)]
def pm_mc7 : List (MethodName × ByteArray × Option FieldType × List (Nat × Nat × Nat × Nat) × Nat) := [(yX10_appendAll, cX10_appendAll, none, [], 10), (yX10_appendOutput, cX10_appendOutput, none, [], 10), (yX10_copyFrom, cX10_copyFrom, none, [], 10), (yX10_comesBefore, cX10_comesBefore, (some .boolean), [], 10), (yX11_init, cX11_init, none, [], 11), (yX11_setFinal, cX11_setFinal, (some .boolean), [], 11), (yX11_addRule, cX11_addRule, (some .int), [], 11), (yX11_addRange, cX11_addRange, (some .int), [], 11), (yX11_addTerm, cX11_addTerm, (some .int), [], 11), (yX11_removeRule, cX11_removeRule, (some .int), [], 11), (yX11_rules, cX11_rules, (some .int), [], 11), (yX11_finals, cX11_finals, (some .int), [], 11), (yX11_rule, cX11_rule, (some .int), [], 11), (yX11_range, cX11_range, (some .int), [], 11), (yX11_term, cX11_term, (some .int), [], 11), (yX11_valueOf, cX11_valueOf, (some .int), [], 11)]
def pm_mc8 : List (MethodName × ByteArray × Option FieldType × List (Nat × Nat × Nat × Nat) × Nat) := [(yX11_feed, cX11_feed, (some .int), [], 11), (yX11_parse, cX11_parse, (some .int), [], 11), (yX11_push, cX11_push, (some .int), [], 11), (yX11_clearWord, cX11_clearWord, (some .int), [], 11), (yX11_symbol, cX11_symbol, (some .int), [], 11), (yX11_runs, cX11_runs, (some .long), [], 11), (yX11_transduce, cX11_transduce, (some .int), [], 11), (yX11_result, cX11_result, (some .int), [], 11), (yX11_useResult, cX11_useResult, (some .int), [], 11), (yX11_domainCount, cX11_domainCount, (some .long), [], 11), (yX11_domainShare, cX11_domainShare, (some .double), [], 11), (yX11_shortestInput, cX11_shortestInput, (some .int), [], 11), (yX11_outputSymbols, cX11_outputSymbols, (some .int), [], 11), (yX11_isDeterministic, cX11_isDeterministic, (some .boolean), [], 11), (yX11_isFunctional, cX11_isFunctional, (some .boolean), [], 11), (yX11_isEquivalent, cX11_isEquivalent, (some .boolean), [], 11)]
def pm_mc9 : List (MethodName × ByteArray × Option FieldType × List (Nat × Nat × Nat × Nat) × Nat) := [(yX11_isWithin, cX11_isWithin, (some .boolean), [], 11), (yX11_compose, cX11_compose, (some .int), [], 11), (yX11_invert, cX11_invert, (some .int), [], 11), (yX11_restrict, cX11_restrict, (some .int), [], 11), (yX11_trim, cX11_trim, (some .int), [], 11), (yX11_copy, cX11_copy, (some .int), [], 11), (yX11_undo, cX11_undo, (some .int), [], 11), (yX11_requireSlot, cX11_requireSlot, none, [], 11), (yX11_requireState, cX11_requireState, none, [], 11), (yX11_requireSymbols, cX11_requireSymbols, none, [], 11), (yX11_requireCounted, cX11_requireCounted, none, [], 11), (yX11_requireRule, cX11_requireRule, none, [], 11), (yX11_requireTerm, cX11_requireTerm, none, [], 11), (yX11_requireIndex, cX11_requireIndex, none, [], 11), (yX11_replace, cX11_replace, (some .int), [], 11), (yX11_isOffsetTerm, cX11_isOffsetTerm, (some .boolean), [], 11)]
def pm_mc10 : List (MethodName × ByteArray × Option FieldType × List (Nat × Nat × Nat × Nat) × Nat) := [(yX11_hasState, cX11_hasState, (some .boolean), [], 11), (yX12_init, cX12_init, none, [], 12), (yX12_thrown, cX12_thrown, (some .int), [], 12), (yX12_in, cX12_in, (some .boolean), [], 12), (yX12_isSlot, cX12_isSlot, (some .boolean), [], 12), (yX12_isState, cX12_isState, (some .boolean), [], 12), (yX12_isSymbol, cX12_isSymbol, (some .boolean), [], 12), (yX12_copiesRule, cX12_copiesRule, none, [], 12), (yX12_copies, cX12_copies, none, [], 12), (yX12_keeps, cX12_keeps, none, [], 12), (yX12_undo, cX12_undo, (some .int), [], 12), (yX12_guards, cX12_guards, (some .boolean), [], 12), (yX12_adds, cX12_adds, none, [], 12), (yX12_value, cX12_value, (some .int), [], 12), (yX12_enables, cX12_enables, (some .boolean), [], 12), (yX12_guardMany, cX12_guardMany, (some .int), [], 12)]
def pm_mc11 : List (MethodName × ByteArray × Option FieldType × List (Nat × Nat × Nat × Nat) × Nat) := [(yX12_enabledMany, cX12_enabledMany, (some .int), [], 12), (yX12_rangeMany, cX12_rangeMany, (some .int), [], 12), (yX12_setFinal, cX12_setFinal, (some .boolean), [], 12), (yX12_opens, cX12_opens, (some .int), [], 12), (yX12_isRange, cX12_isRange, (some .boolean), [], 12), (yX12_addRule, cX12_addRule, (some .int), [], 12), (yX12_addRange, cX12_addRange, (some .int), [], 12), (yX12_addsTerm, cX12_addsTerm, none, [], 12), (yX12_addTerm, cX12_addTerm, (some .int), [], 12), (yX12_removes, cX12_removes, none, [], 12), (yX12_removeRule, cX12_removeRule, (some .int), [], 12), (yX12_rules, cX12_rules, (some .int), [], 12), (yX12_finals, cX12_finals, (some .int), [], 12), (yX12_rule, cX12_rule, (some .int), [], 12), (yX12_range, cX12_range, (some .int), [], 12), (yX12_term, cX12_term, (some .int), [], 12)]
def pm_mc12 : List (MethodName × ByteArray × Option FieldType × List (Nat × Nat × Nat × Nat) × Nat) := [(yX12_valueOf, cX12_valueOf, (some .int), [], 12), (yX12_feed, cX12_feed, (some .int), [], 12), (yX12_here, cX12_here, (some .int), [], 12), (yX12_isDigit, cX12_isDigit, (some .boolean), [], 12), (yX12_takes, cX12_takes, none, [], 12), (yX12_number, cX12_number, (some .int), [], 12), (yX12_state, cX12_state, (some .int), [], 12), (yX12_range_, cX12_range_, none, [], 12), (yX12_term_, cX12_term_, none, [], 12), (yX12_item, cX12_item, none, [], 12), (yX12_parse, cX12_parse, (some .int), [], 12), (yX12_push, cX12_push, (some .int), [], 12), (yX12_clearWord, cX12_clearWord, (some .int), [], 12), (yX12_symbol, cX12_symbol, (some .int), [], 12), (yX12_runs, cX12_runs, (some .long), [], 12), (yX12_isBetter, cX12_isBetter, (some .boolean), [], 12)]
def pm_mc13 : List (MethodName × ByteArray × Option FieldType × List (Nat × Nat × Nat × Nat) × Nat) := [(yX12_tries, cX12_tries, none, [], 12), (yX12_transduce, cX12_transduce, (some .int), [], 12), (yX12_result, cX12_result, (some .int), [], 12), (yX12_useResult, cX12_useResult, (some .int), [], 12), (yX12_steps, cX12_steps, none, [], 12), (yX12_after, cX12_after, (some .int), [], 12), (yX12_counted, cX12_counted, (some .long), [], 12), (yX12_domainCount, cX12_domainCount, (some .long), [], 12), (yX12_domainShare, cX12_domainShare, (some .double), [], 12), (yX12_shortestInput, cX12_shortestInput, (some .int), [], 12), (yX12_reached, cX12_reached, (some .int), [], 12), (yX12_ending, cX12_ending, (some .int), [], 12), (yX12_isUsed, cX12_isUsed, (some .boolean), [], 12), (yX12_outputSymbols, cX12_outputSymbols, (some .int), [], 12), (yX12_areBoth, cX12_areBoth, (some .boolean), [], 12), (yX12_isDeterministic, cX12_isDeterministic, (some .boolean), [], 12)]
def pm_mc14 : List (MethodName × ByteArray × Option FieldType × List (Nat × Nat × Nat × Nat) × Nat) := [(yX12_ends, cX12_ends, none, [], 12), (yX12_laid, cX12_laid, (some .int), [], 12), (yX12_comes, cX12_comes, (some .boolean), [], 12), (yX12_goesOn, cX12_goesOn, (some .boolean), [], 12), (yX12_agree, cX12_agree, (some .boolean), [], 12), (yX12_isFunctional, cX12_isFunctional, (some .boolean), [], 12), (yX12_isIn, cX12_isIn, (some .boolean), [], 12), (yX12_isWithin, cX12_isWithin, (some .boolean), [], 12), (yX12_isEquivalent, cX12_isEquivalent, (some .boolean), [], 12), (yX12_endAt, cX12_endAt, (some .int), [], 12), (yX12_foresees, cX12_foresees, none, [], 12), (yX12_finds, cX12_finds, (some .int), [], 12), (yX12_joins, cX12_joins, none, [], 12), (yX12_chooses, cX12_chooses, none, [], 12), (yX12_compose, cX12_compose, (some .int), [], 12), (yX12_invert, cX12_invert, (some .int), [], 12)]
def pm_mc15 : List (MethodName × ByteArray × Option FieldType × List (Nat × Nat × Nat × Nat) × Nat) := [(yX12_restrict, cX12_restrict, (some .int), [], 12), (yX12_trim, cX12_trim, (some .int), [], 12), (yX12_copy, cX12_copy, (some .int), [], 12), (yJ13_bitCount_95d88, cJ13_bitCount_95d88, (some .int), [], 16), (yJ9_max_7cf53, cJ9_max_7cf53, (some .int), [], 15), (yJ9_min_7cf53, cJ9_min_7cf53, (some .int), [], 15), (yJ7_fill_d0a16, cJ7_fill_d0a16, none, [], 14), (yJ7_fill_53178, cJ7_fill_53178, none, [], 14), (yJ7_copyOf_59c91, cJ7_copyOf_59c91, (some (.array .int)), [], 14), (yL_setFinal, cL_setFinal, (some .int), [(0, 19, 22, 13)], 13), (yL_addRule, cL_addRule, (some .int), [(0, 16, 19, 13), (0, 16, 23, 19)], 13), (yL_addRange, cL_addRange, (some .int), [(0, 14, 17, 13), (0, 14, 21, 25)], 13), (yL_addTerm, cL_addTerm, (some .int), [(0, 14, 17, 13), (0, 14, 21, 25), (0, 14, 25, 19)], 13), (yL_removeRule, cL_removeRule, (some .int), [(0, 10, 13, 13), (0, 10, 17, 25)], 13), (yL_rules, cL_rules, (some .int), [(0, 9, 12, 13)], 13), (yL_finals, cL_finals, (some .int), [(0, 9, 12, 13)], 13)]
def pm_mc16 : List (MethodName × ByteArray × Option FieldType × List (Nat × Nat × Nat × Nat) × Nat) := [(yL_rule, cL_rule, (some .int), [(0, 12, 15, 13), (0, 12, 19, 25)], 13), (yL_range, cL_range, (some .int), [(0, 14, 17, 13), (0, 14, 21, 25)], 13), (yL_term, cL_term, (some .int), [(0, 12, 15, 13), (0, 12, 19, 25)], 13), (yL_valueOf, cL_valueOf, (some .int), [(0, 14, 17, 13), (0, 14, 21, 25)], 13), (yL_feed, cL_feed, (some .int), [(0, 9, 12, 19)], 13), (yL_parse, cL_parse, (some .int), [(0, 9, 12, 13), (0, 9, 15, 19)], 13), (yL_push, cL_push, (some .int), [(0, 9, 12, 13), (0, 9, 15, 19)], 13), (yL_symbol, cL_symbol, (some .int), [(0, 9, 12, 25)], 13), (yL_runs, cL_runs, (some .int), [(0, 8, 11, 13)], 13), (yL_transduce, cL_transduce, (some .int), [(0, 10, 13, 13), (0, 10, 17, 77)], 13), (yL_result, cL_result, (some .int), [(0, 9, 12, 25)], 13), (yL_useResult, cL_useResult, (some .int), [(0, 8, 11, 19)], 13), (yL_domainCount, cL_domainCount, (some .int), [(0, 9, 12, 13)], 13), (yL_domainShare, cL_domainShare, (some .int), [(0, 9, 12, 13)], 13), (yL_shortestInput, cL_shortestInput, (some .int), [(0, 9, 12, 13), (0, 9, 15, 77)], 13), (yL_outputSymbols, cL_outputSymbols, (some .int), [(0, 9, 12, 13)], 13)]
def pm_mc17 : List (MethodName × ByteArray × Option FieldType × List (Nat × Nat × Nat × Nat) × Nat) := [(yL_isDeterministic, cL_isDeterministic, (some .int), [(0, 16, 19, 13)], 13), (yL_isFunctional, cL_isFunctional, (some .int), [(0, 16, 19, 13)], 13), (yL_isEquivalent, cL_isEquivalent, (some .int), [(0, 17, 20, 13), (0, 17, 24, 19)], 13), (yL_isWithin, cL_isWithin, (some .int), [(0, 17, 20, 13)], 13), (yL_compose, cL_compose, (some .int), [(0, 12, 15, 13), (0, 12, 19, 117)], 13), (yL_invert, cL_invert, (some .int), [(0, 10, 13, 13), (0, 10, 17, 19)], 13), (yL_restrict, cL_restrict, (some .int), [(0, 12, 15, 13)], 13), (yL_trim, cL_trim, (some .int), [(0, 9, 12, 13)], 13), (yL_copy, cL_copy, (some .int), [(0, 10, 13, 13)], 13), (yL_undo, cL_undo, (some .int), [(0, 8, 11, 19)], 13), (yL_law, cL_law, (some .boolean), [], 13)]
def pm_mmL : List (List (MethodName × ByteArray × Option FieldType × List (Nat × Nat × Nat × Nat) × Nat)) := [pm_mc0, pm_mc1, pm_mc2, pm_mc3, pm_mc4, pm_mc5, pm_mc6, pm_mc7, pm_mc8, pm_mc9, pm_mc10, pm_mc11, pm_mc12, pm_mc13, pm_mc14, pm_mc15, pm_mc16, pm_mc17]
def pm_mm (m : Nat) : MethodName × ByteArray × Option FieldType × List (Nat × Nat × Nat × Nat) × Nat := (((pm_mmL[m / 16]?).getD [])[m % 16]?).getD (yX0_init, cX0_init, none, [], 0)
